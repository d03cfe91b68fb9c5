section
-- ===== PART A: goes FIRST, ahead of the names: the tables' words, and 'selects' of the private methods out of them =====
/-- a private method of a class that the tables say can be made, by its rows of tables_1 -/
def lw_okq (q : MethodName × Nat) : Prop := (q.1.cls ≠ "java/lang/invoke/MethodHandle" ∧ q.1.cls ≠ "java/lang/invoke/VarHandle") ∧ Cond.instantiable q.1.cls q.2 ∈ tables_1 ∧ Cond.privateMethod q.1 ∈ tables_1 ∧ Cond.instanceMethod q.1 ∈ tables_1
theorem lw_p0 : lw_okq (⟨"java/lang/Throwable", "fillInStackTrace", "(I)Ljava/lang/Throwable;"⟩, 6) := ⟨⟨by decide +kernel, by decide +kernel⟩, List.mem_of_getElem? (i := 134) (by decide +kernel), List.mem_of_getElem? (i := 132) (by decide +kernel), List.mem_of_getElem? (i := 133) (by decide +kernel)⟩
theorem lw_p1 : lw_okq (⟨"Chargehouse", "accusedAt", "(II)LChargehouse$Accused;"⟩, 13) := ⟨⟨by decide +kernel, by decide +kernel⟩, List.mem_of_getElem? (i := 15) (by decide +kernel), List.mem_of_getElem? (i := 173) (by decide +kernel), List.mem_of_getElem? (i := 174) (by decide +kernel)⟩
theorem lw_p2 : lw_okq (⟨"Chargehouse", "fileAt", "(I)LChargehouse$CaseFile;"⟩, 13) := ⟨⟨by decide +kernel, by decide +kernel⟩, List.mem_of_getElem? (i := 15) (by decide +kernel), List.mem_of_getElem? (i := 177) (by decide +kernel), List.mem_of_getElem? (i := 178) (by decide +kernel)⟩
theorem lw_p3 : lw_okq (⟨"Chargehouse", "spentOffences", "(LChargehouse$Accused;)I"⟩, 13) := ⟨⟨by decide +kernel, by decide +kernel⟩, List.mem_of_getElem? (i := 15) (by decide +kernel), List.mem_of_getElem? (i := 201) (by decide +kernel), List.mem_of_getElem? (i := 202) (by decide +kernel)⟩
theorem lw_p4 : lw_okq (⟨"Chargehouse", "isSpent", "(LChargehouse$Accused;LChargehouse$Offence;I)Z"⟩, 13) := ⟨⟨by decide +kernel, by decide +kernel⟩, List.mem_of_getElem? (i := 15) (by decide +kernel), List.mem_of_getElem? (i := 205) (by decide +kernel), List.mem_of_getElem? (i := 206) (by decide +kernel)⟩
theorem lw_p5 : lw_okq (⟨"Chargehouse", "itemAt", "(I)LChargehouse$Item;"⟩, 13) := ⟨⟨by decide +kernel, by decide +kernel⟩, List.mem_of_getElem? (i := 15) (by decide +kernel), List.mem_of_getElem? (i := 229) (by decide +kernel), List.mem_of_getElem? (i := 230) (by decide +kernel)⟩
theorem lw_p6 : lw_okq (⟨"Chargehouse", "offenceAt", "(I)LChargehouse$Offence;"⟩, 13) := ⟨⟨by decide +kernel, by decide +kernel⟩, List.mem_of_getElem? (i := 15) (by decide +kernel), List.mem_of_getElem? (i := 245) (by decide +kernel), List.mem_of_getElem? (i := 246) (by decide +kernel)⟩
theorem lw_p7 : lw_okq (⟨"Chargehouse", "checkDay", "(I)V"⟩, 13) := ⟨⟨by decide +kernel, by decide +kernel⟩, List.mem_of_getElem? (i := 15) (by decide +kernel), List.mem_of_getElem? (i := 261) (by decide +kernel), List.mem_of_getElem? (i := 262) (by decide +kernel)⟩
theorem lw_p8 : lw_okq (⟨"Chargehouse", "hindrance", "(LChargehouse$Accused;LChargehouse$Offence;I)I"⟩, 13) := ⟨⟨by decide +kernel, by decide +kernel⟩, List.mem_of_getElem? (i := 15) (by decide +kernel), List.mem_of_getElem? (i := 269) (by decide +kernel), List.mem_of_getElem? (i := 270) (by decide +kernel)⟩
theorem lw_p9 : lw_okq (⟨"Chargehouse", "hasStrength", "(LChargehouse$Accused;LChargehouse$Offence;II)Z"⟩, 13) := ⟨⟨by decide +kernel, by decide +kernel⟩, List.mem_of_getElem? (i := 15) (by decide +kernel), List.mem_of_getElem? (i := 273) (by decide +kernel), List.mem_of_getElem? (i := 274) (by decide +kernel)⟩
theorem lw_p10 : lw_okq (⟨"Chargehouse", "strengthAgainst", "(LChargehouse$Accused;II)I"⟩, 13) := ⟨⟨by decide +kernel, by decide +kernel⟩, List.mem_of_getElem? (i := 15) (by decide +kernel), List.mem_of_getElem? (i := 280) (by decide +kernel), List.mem_of_getElem? (i := 281) (by decide +kernel)⟩
theorem lw_p11 : lw_okq (⟨"Chargehouse", "chargeable", "(LChargehouse$Accused;I)I"⟩, 13) := ⟨⟨by decide +kernel, by decide +kernel⟩, List.mem_of_getElem? (i := 15) (by decide +kernel), List.mem_of_getElem? (i := 317) (by decide +kernel), List.mem_of_getElem? (i := 318) (by decide +kernel)⟩
theorem lw_p12 : lw_okq (⟨"Chargehouse", "bestByGrowing", "(I)I"⟩, 13) := ⟨⟨by decide +kernel, by decide +kernel⟩, List.mem_of_getElem? (i := 15) (by decide +kernel), List.mem_of_getElem? (i := 321) (by decide +kernel), List.mem_of_getElem? (i := 322) (by decide +kernel)⟩
theorem lw_p13 : lw_okq (⟨"Chargehouse", "better", "(II)I"⟩, 13) := ⟨⟨by decide +kernel, by decide +kernel⟩, List.mem_of_getElem? (i := 15) (by decide +kernel), List.mem_of_getElem? (i := 325) (by decide +kernel), List.mem_of_getElem? (i := 326) (by decide +kernel)⟩
theorem lw_p14 : lw_okq (⟨"Chargehouse", "gravityOf", "(I)I"⟩, 13) := ⟨⟨by decide +kernel, by decide +kernel⟩, List.mem_of_getElem? (i := 15) (by decide +kernel), List.mem_of_getElem? (i := 329) (by decide +kernel), List.mem_of_getElem? (i := 330) (by decide +kernel)⟩
theorem lw_p15 : lw_okq (⟨"Chargehouse", "matesOf", "(I)I"⟩, 13) := ⟨⟨by decide +kernel, by decide +kernel⟩, List.mem_of_getElem? (i := 15) (by decide +kernel), List.mem_of_getElem? (i := 339) (by decide +kernel), List.mem_of_getElem? (i := 340) (by decide +kernel)⟩
def lw_privs_1 : List (MethodName × Nat) := [(⟨"java/lang/Throwable", "fillInStackTrace", "(I)Ljava/lang/Throwable;"⟩, 6), (⟨"Chargehouse", "accusedAt", "(II)LChargehouse$Accused;"⟩, 13), (⟨"Chargehouse", "fileAt", "(I)LChargehouse$CaseFile;"⟩, 13), (⟨"Chargehouse", "spentOffences", "(LChargehouse$Accused;)I"⟩, 13), (⟨"Chargehouse", "isSpent", "(LChargehouse$Accused;LChargehouse$Offence;I)Z"⟩, 13), (⟨"Chargehouse", "itemAt", "(I)LChargehouse$Item;"⟩, 13), (⟨"Chargehouse", "offenceAt", "(I)LChargehouse$Offence;"⟩, 13), (⟨"Chargehouse", "checkDay", "(I)V"⟩, 13), (⟨"Chargehouse", "hindrance", "(LChargehouse$Accused;LChargehouse$Offence;I)I"⟩, 13), (⟨"Chargehouse", "hasStrength", "(LChargehouse$Accused;LChargehouse$Offence;II)Z"⟩, 13), (⟨"Chargehouse", "strengthAgainst", "(LChargehouse$Accused;II)I"⟩, 13), (⟨"Chargehouse", "chargeable", "(LChargehouse$Accused;I)I"⟩, 13), (⟨"Chargehouse", "bestByGrowing", "(I)I"⟩, 13), (⟨"Chargehouse", "better", "(II)I"⟩, 13), (⟨"Chargehouse", "gravityOf", "(I)I"⟩, 13), (⟨"Chargehouse", "matesOf", "(I)I"⟩, 13)]
theorem lw_r1 : ∀ q ∈ lw_privs_1, lw_okq q := List.forall_mem_cons.mpr ⟨lw_p0, List.forall_mem_cons.mpr ⟨lw_p1, List.forall_mem_cons.mpr ⟨lw_p2, List.forall_mem_cons.mpr ⟨lw_p3, List.forall_mem_cons.mpr ⟨lw_p4, List.forall_mem_cons.mpr ⟨lw_p5, List.forall_mem_cons.mpr ⟨lw_p6, List.forall_mem_cons.mpr ⟨lw_p7, List.forall_mem_cons.mpr ⟨lw_p8, List.forall_mem_cons.mpr ⟨lw_p9, List.forall_mem_cons.mpr ⟨lw_p10, List.forall_mem_cons.mpr ⟨lw_p11, List.forall_mem_cons.mpr ⟨lw_p12, List.forall_mem_cons.mpr ⟨lw_p13, List.forall_mem_cons.mpr ⟨lw_p14, List.forall_mem_cons.mpr ⟨lw_p15, fun _ h => absurd h List.not_mem_nil⟩⟩⟩⟩⟩⟩⟩⟩⟩⟩⟩⟩⟩⟩⟩⟩
theorem lw_p16 : lw_okq (⟨"Chargehouse", "bestWithMates", "(III)I"⟩, 13) := ⟨⟨by decide +kernel, by decide +kernel⟩, List.mem_of_getElem? (i := 15) (by decide +kernel), List.mem_of_getElem? (i := 351) (by decide +kernel), List.mem_of_getElem? (i := 352) (by decide +kernel)⟩
theorem lw_p17 : lw_okq (⟨"Chargehouse", "bestWithThird", "(III)I"⟩, 13) := ⟨⟨by decide +kernel, by decide +kernel⟩, List.mem_of_getElem? (i := 15) (by decide +kernel), List.mem_of_getElem? (i := 355) (by decide +kernel), List.mem_of_getElem? (i := 356) (by decide +kernel)⟩
theorem lw_p18 : lw_okq (⟨"Chargehouse", "bestOfAllSets", "(I)I"⟩, 13) := ⟨⟨by decide +kernel, by decide +kernel⟩, List.mem_of_getElem? (i := 15) (by decide +kernel), List.mem_of_getElem? (i := 366) (by decide +kernel), List.mem_of_getElem? (i := 367) (by decide +kernel)⟩
theorem lw_p19 : lw_okq (⟨"Chargehouse", "isRight", "(II)Z"⟩, 13) := ⟨⟨by decide +kernel, by decide +kernel⟩, List.mem_of_getElem? (i := 15) (by decide +kernel), List.mem_of_getElem? (i := 370) (by decide +kernel), List.mem_of_getElem? (i := 371) (by decide +kernel)⟩
theorem lw_p20 : lw_okq (⟨"Chargehouse", "lackedBy", "(II)I"⟩, 13) := ⟨⟨by decide +kernel, by decide +kernel⟩, List.mem_of_getElem? (i := 15) (by decide +kernel), List.mem_of_getElem? (i := 619) (by decide +kernel), List.mem_of_getElem? (i := 620) (by decide +kernel)⟩
theorem lw_p21 : lw_okq (⟨"Chargehouse", "checkToldOffences", "(I)V"⟩, 13) := ⟨⟨by decide +kernel, by decide +kernel⟩, List.mem_of_getElem? (i := 15) (by decide +kernel), List.mem_of_getElem? (i := 698) (by decide +kernel), List.mem_of_getElem? (i := 699) (by decide +kernel)⟩
theorem lw_p22 : lw_okq (⟨"Chargehouse", "provenCharges", "(LChargehouse$Accused;)I"⟩, 13) := ⟨⟨by decide +kernel, by decide +kernel⟩, List.mem_of_getElem? (i := 15) (by decide +kernel), List.mem_of_getElem? (i := 719) (by decide +kernel), List.mem_of_getElem? (i := 720) (by decide +kernel)⟩
def lw_privs_2 : List (MethodName × Nat) := [(⟨"Chargehouse", "bestWithMates", "(III)I"⟩, 13), (⟨"Chargehouse", "bestWithThird", "(III)I"⟩, 13), (⟨"Chargehouse", "bestOfAllSets", "(I)I"⟩, 13), (⟨"Chargehouse", "isRight", "(II)Z"⟩, 13), (⟨"Chargehouse", "lackedBy", "(II)I"⟩, 13), (⟨"Chargehouse", "checkToldOffences", "(I)V"⟩, 13), (⟨"Chargehouse", "provenCharges", "(LChargehouse$Accused;)I"⟩, 13)]
theorem lw_r2 : ∀ q ∈ lw_privs_2, lw_okq q := List.forall_mem_cons.mpr ⟨lw_p16, List.forall_mem_cons.mpr ⟨lw_p17, List.forall_mem_cons.mpr ⟨lw_p18, List.forall_mem_cons.mpr ⟨lw_p19, List.forall_mem_cons.mpr ⟨lw_p20, List.forall_mem_cons.mpr ⟨lw_p21, List.forall_mem_cons.mpr ⟨lw_p22, fun _ h => absurd h List.not_mem_nil⟩⟩⟩⟩⟩⟩⟩
def lw_privs : List (MethodName × Nat) := lw_privs_1 ++ (lw_privs_2)
def lw_tbl : List Cond := k2_sels lw_privs ++ tables_1
theorem lw_privs_ok : ∀ q ∈ lw_privs, lw_okq q := by
  show ∀ q ∈ lw_privs_1 ++ (lw_privs_2), lw_okq q
  exact List.forall_mem_append.mpr ⟨lw_r1, lw_r2⟩
/-! ===== BEGIN words of one list among another's, by their places ===== -/
theorem goodIn_r {big : List Cond} (ws : List Cond) (ps : List Nat) (hp : ws = ps.filterMap (fun i => big[i]?)) (h : ws.all goodWord = true) : GoodIn big ws := by
  intro w hw
  have h1 := List.all_eq_true.mp h w hw
  rw [hp] at hw
  obtain ⟨i, -, hi⟩ := List.mem_filterMap.mp hw
  have hm : w ∈ big := by first | exact List.mem_of_getElem? hi | exact List.getElem?_mem hi
  exact ⟨hm, good_of_word h1⟩
theorem goodIn_app {big a b : List Cond} (ha : GoodIn big a) (hb : GoodIn big b) : GoodIn big (a ++ b) := fun w h => (List.mem_append.mp h).elim (ha w) (hb w)
theorem goodIn_ca {big a b : List Cond} {c : Cond} (ha : GoodIn big (c :: a)) (hb : GoodIn big b) : GoodIn big (c :: (a ++ b)) := fun w h => (List.mem_cons.mp h).elim (fun e => ha w (List.mem_cons.mpr (Or.inl e))) (fun h => (List.mem_append.mp h).elim (fun h => ha w (List.mem_cons.mpr (Or.inr h))) (hb w))
theorem goodIn_sub {big ws : List Cond} (hm : ∀ w ∈ ws, w ∈ big) (h : ws.all goodWord = true) : GoodIn big ws := fun w hw => ⟨hm w hw, good_of_word (List.all_eq_true.mp h w hw)⟩
/-! ===== END ===== -/

/-! ===== BEGIN exceptions that leave a method, and their catching by the caller (launches without stack traces) ===== -/
section VXA
/-! The laws vx_back, vx_callV, vx_callS, vx_callSW, vx_throw0, vx_throwS follow proofs of the library, with one case more: JvmDerived/Free/Laws.lean (Back.of_free), Shelf42/LK1.lean (callV, callS), Shelf/KitTraced.lean (throwNew0V, throwNewS). -/
/-- where a method has thrown q: the class by its name, the cell, what was written, the world -/
def vx_T (XC : String → State → State → Prop) (st : State) (q : Addr) (t : State) (mc ms : Nat) (free : Addr → Prop) : Prop :=
  ∃ (E : String) (ce : Cell) (L : List Loc), XC E st t ∧ t.heap[q]? = some ce ∧ ce.vm = .none ∧ st.vm.findClass E = some ce.cls ∧ st.WarmedH t.vm ∧ st.sameButNew ({ t with vm := st.vm } : State) L mc ms ∧ ∀ z ∈ L, free z.base
def vx_Q (Qc : Array Value → State → Outcome → State → Prop) (XC : String → State → State → Prop) (mc ms : Nat) (free : Addr → Prop) : Array Value → State → Outcome → State → Prop := fun a st o t =>
  (Qc a st o t ∧ ∃ L, FrameEnd st o t L mc ms ∧ ∀ q ∈ L, free q.base) ∨ ∃ q, o = .threw q ∧ vx_T XC st q t mc ms free
/-- a callee that returns or throws -/
def vx_Met (l : Launch) (y : MethodName) (ws : List Cond) (rm : Room) (Pc : Array Value → State → Prop) (Qc : Array Value → State → Outcome → State → Prop) (XC : String → State → State → Prop) (mc ms : Nat) (free : Addr → Prop) : Prop :=
  MetFree l y (headSpec ws rm) Pc (fun _ _ _ _ _ => True) (vx_Q Qc XC mc ms free)
def vx_Post (XC : String → State → State → Prop) (mc ms : Nat) (free : Addr → Prop) : Pt → Array Value → Addr → Pt → Prop := fun A a q B =>
  ∃ (g : JFrame) (mk : MethodId) (t : State) (L : List Loc) (E : String) (ce : Cell), B.U.heap = t.heap ∧ B.U.vm = t.vm ∧ XC E (A.U.calling g mk a) t ∧ t.heap[q]? = some ce ∧ ce.vm = .none ∧ A.U.vm.findClass E = some ce.cls ∧ B.locs = A.locs ++ L ∧ (∀ z ∈ L, free z.base) ∧ B.cells = A.cells + mc ∧ B.slots = A.slots + ms
def vx_Back (l : Launch) (R : Room) (p : Program) (e : Env) (below : List Frame) (s : State) (sargs : Array Value) (y : MethodName) (len W9 : Nat)
    (Pre : Pt → Array Value → Prop) (Post : Pt → Array Value → Option Value → Pt → Prop) (PostX : Pt → Array Value → Addr → Pt → Prop) : Prop :=
  ∀ (m : MethodId) (meth : Method) (c : Code) (A : Pt) (g : JFrame) (ig : Instr) (mk : MethodId) (a : Array Value),
    Stand p l e R s m sargs below meth c A.U A.locs A.cells A.slots → g.method = m → g.locals.size = c.maxLocals → decode c.code g.pc = .ok (ig, len) →
    2 * g.monitorRoom + (g.stack.map fun v => v.category).sum ≤ W9 → A.U.methodNamed? y = some mk → Pre A a →
    (∃ (v : Option Value) (B : Pt), Stand p l e R s m sargs below meth c B.U B.locs B.cells B.slots ∧ Post A a v B ∧
      Steps p.tables e below (doInvoke e (A.U.setTop g) [] mk a).1 (B.U.setTop { g with pc := g.pc + len, stack := v.toList ++ g.stack })) ∨
    (∃ (q : Addr) (B : Pt), Stand p l e R s m sargs below meth c B.U B.locs B.cells B.slots ∧ PostX A a q B ∧
      Steps p.tables e below (doInvoke e (A.U.setTop g) [] mk a).1 ((B.U.setTop g).pushFrame (.throwing q)))
section Payer
variable {l : Launch} {R : Room} {p : Program} {e : Env} {below : List Frame} {s : State} {sargs : Array Value} {y : MethodName} {len W9 : Nat}
theorem vx_back {ws : List Cond} {rm : Room} {Pc : Array Value → State → Prop} {Qc : Array Value → State → Outcome → State → Prop} {XC : String → State → State → Prop} {mc ms : Nat} {free : Addr → Prop} {bytes : ByteArray} {maxL : Nat} {ret : Option FieldType}
    (hM : vx_Met l y ws rm Pc Qc XC mc ms free) (hblind : FrameBlind Pc) (hrc : rm.cells = mc) (hrs : rm.slots = ms)
    (hframes : rm.frames + 1 ≤ R.frames) (hlocals : W9 + (maxL + 11) + rm.locals ≤ R.locals)
    (hws : ∀ w ∈ ws, ∀ a' U, s.WarmedH U.vm → w.before a' U = true) (hcode : Cond.code y bytes maxL ret ∈ ws) (hinit : ∀ a' U, s.WarmedH U.vm → (Cond.initialized y.cls).before a' U = true) :
    vx_Back l R p e below s sargs y len W9 (PreOf R mc ms Pc) (PostOf Qc mc ms free) (vx_Post XC mc ms free) := by
  intro m meth c A g ig mk a X hg hsize hdg hW hn hp
  have h1 : (headSpec ws rm).pre.before a A.U = true := atoms_intro fun w hw => hws w hw _ _ X.warmed
  have h2 : (Cond.code y bytes maxL ret).before a A.U = true := hws _ hcode _ _ X.warmed
  have h3 : (Cond.initialized y.cls).before a A.U = true := hinit _ _ X.warmed
  have h4 : A.cells + (headSpec ws rm).room.cells ≤ R.cells := by rw [show (headSpec ws rm).room.cells = mc from hrc]; exact hp.1
  have h5 : A.slots + (headSpec ws rm).room.slots ≤ R.slots := by rw [show (headSpec ws rm).room.slots = ms from hrs]; exact hp.2.1
  have hPc : Pc a (A.U.calling g mk a) := hblind _ _ _ _ hp.2.2
  obtain ⟨U, Ls, c0, s0⟩ := A
  dsimp only [Pt.U, Pt.locs, Pt.cells, Pt.slots] at h1 h2 h3 h4 h5 X hn hPc ⊢
  obtain ⟨methY, cY, hmY, hcY, -, hlY, -, -, -, -⟩ := Cond.code_spec hn h2
  obtain ⟨kY, hkY, -⟩ := className_of_methodNamed hn
  have hinitY : kY.init = .initialized := Cond.initialized_spec (findClass_of_methodNamed hn) hkY h3
  have h : At U g.method c below := by rw [hg]; exact X.here
  have hlocals9 : W9 + (maxL + 11) + (headSpec ws rm).room.locals ≤ R.locals := hlocals
  have happ : (headSpec ws rm).appliesLoose y e.platform (U.calling g mk a) = true :=
    Spec.appliesLoose_calling (g := g) h hdg hn hkY hinitY
      (X.room_calling (g := g) (R' := (headSpec ws rm).room) hsize hmY hcY hframes (by rw [hlY]; omega) h4 h5) h1
  obtain ⟨mid, hmid⟩ := h.above
  have hfr : (U.setTop g).frames = (.java g :: mid) ++ below := by rw [State.frames_setTop' g h.top, hmid]; rfl
  obtain ⟨o, s₂, hsteps, -, hend, hq⟩ := Steps.callFree hM p X.admits X.cas X.clock (acts := []) hfr happ hPc trivial
  have hq' : vx_Q Qc XC mc ms free a (U.calling g mk a) o s₂ := hq
  rw [State.frames_setTop' g h.top] at hend
  obtain ⟨g₀, hg0⟩ := Option.isSome_iff_exists.mp h.top
  obtain ⟨r, hr⟩ := State.topJava?_eq_some.mp hg0
  have hr' : (({ U with heap := s₂.heap, slotsUsed := s₂.slotsUsed } : State).setVm s₂.vm).frames = .java g₀ :: r := hr
  rcases hq' with ⟨hqc, L, hfe, hL⟩ | ⟨q, rfl, E, ce, L, hx, hce, hcv, hcl, hW₂, hsm, hL⟩
  · obtain ⟨⟨v, rfl⟩, hW₂, e2, q2, q3, q4, q5, q6⟩ := id hfe
    have e3 : s₂ = ({ (U.calling g mk a).setFrames s₂.frames with heap := s₂.heap, slotsUsed := s₂.slotsUsed } : State).setVm s₂.vm := by
      have : s₂ = ({ s₂ with vm := (U.calling g mk a).vm } : State).setVm s₂.vm := rfl
      rw [e2] at this
      exact this
    obtain ⟨c₂, i₂, len₂, hc₂, hd₂, hf₂⟩ := hend
    have hW' : U.WarmedH s₂.vm := hW₂
    have hcc : c₂ = c := by
      have h1 : s₂.code? g.method = U.code? g.method := by
        rw [State.code?_eq, State.code?_eq, hW'.alike.method?]
      exact Option.some.inj (hc₂.symm.trans (h1.trans h.code))
    subst hcc
    have hlen : len₂ = len := by rw [hdg] at hd₂; cases hd₂; rfl
    subst hlen
    have hs₂ : s₂ = (({ U with heap := s₂.heap, slotsUsed := s₂.slotsUsed } : State).setVm s₂.vm).setTop { g with pc := g.pc + len₂, stack := v.toList ++ g.stack } := by
      refine e3.trans ?_
      rw [hf₂, State.calling_eq h.top, State.setFrames_setFrames, State.setTop_of_frames _ hr', hr]
      rfl
    have hsame : U.sameButNew ({ U with heap := s₂.heap, slotsUsed := s₂.slotsUsed } : State) L mc ms := by
      refine ⟨?_, q2, q3, q4, q5, q6⟩
      obtain ⟨t, ht, -⟩ := State.frames_cons hr
      show ({ U with heap := s₂.heap, slotsUsed := s₂.slotsUsed } : State) = { U.setFrames U.frames with heap := s₂.heap, slotsUsed := s₂.slotsUsed }
      rw [State.setFrames_self ht]
    subst hg
    refine Or.inl ⟨v, ⟨(({ U with heap := s₂.heap, slotsUsed := s₂.slotsUsed } : State).setVm s₂.vm), Ls ++ L, c0 + mc, s0 + ms⟩,
      ⟨X.admits, X.cas, X.clock, X.frames, X.room, X.hears, X.method, X.code, (X.here.setHeapUsed s₂.heap s₂.slotsUsed).setVm hW'.alike, X.tail, State.WarmedH.trans X.warmed hW', X.limits, X.bytes, X.same.trans (hsame.setVm s.vm)⟩,
      ⟨g, mk, s₂, L, rfl, rfl, hqc, rfl, hL, rfl, rfl⟩, ?_⟩
    show Steps p.tables e below _ ((({ U with heap := s₂.heap, slotsUsed := s₂.slotsUsed } : State).setVm s₂.vm).setTop { g with pc := g.pc + len₂, stack := v.toList ++ g.stack })
    rw [← hs₂]
    exact hsteps
  · obtain ⟨e2, q2, q3, q4, q5, q6⟩ := id hsm
    have e3 : s₂ = ({ (U.calling g mk a).setFrames s₂.frames with heap := s₂.heap, slotsUsed := s₂.slotsUsed } : State).setVm s₂.vm := by
      have : s₂ = ({ s₂ with vm := (U.calling g mk a).vm } : State).setVm s₂.vm := rfl
      rw [e2] at this
      exact this
    have hf₂ : s₂.frames = .throwing q :: .java g :: U.frames.tail := hend
    have hW' : U.WarmedH s₂.vm := hW₂
    have hs₂ : s₂ = ((({ U with heap := s₂.heap, slotsUsed := s₂.slotsUsed } : State).setVm s₂.vm).setTop g).pushFrame (.throwing q) := by
      refine e3.trans ?_
      rw [hf₂, State.calling_eq h.top, State.setFrames_setFrames, State.pushFrame, State.frames_setTop _ hr', State.setTop_of_frames _ hr', State.setFrames_setFrames, hr]
      rfl
    have hsame : U.sameButNew ({ U with heap := s₂.heap, slotsUsed := s₂.slotsUsed } : State) L mc ms := by
      refine ⟨?_, q2, q3, q4, q5, q6⟩
      obtain ⟨t, ht, -⟩ := State.frames_cons hr
      show ({ U with heap := s₂.heap, slotsUsed := s₂.slotsUsed } : State) = { U.setFrames U.frames with heap := s₂.heap, slotsUsed := s₂.slotsUsed }
      rw [State.setFrames_self ht]
    subst hg
    refine Or.inr ⟨q, ⟨(({ U with heap := s₂.heap, slotsUsed := s₂.slotsUsed } : State).setVm s₂.vm), Ls ++ L, c0 + mc, s0 + ms⟩,
      ⟨X.admits, X.cas, X.clock, X.frames, X.room, X.hears, X.method, X.code, (X.here.setHeapUsed s₂.heap s₂.slotsUsed).setVm hW'.alike, X.tail, State.WarmedH.trans X.warmed hW', X.limits, X.bytes, X.same.trans (hsame.setVm s.vm)⟩,
      ⟨g, mk, s₂, L, E, ce, rfl, rfl, hx, hce, hcv, hcl, rfl, hL, rfl, rfl⟩, ?_⟩
    show Steps p.tables e below _ (((({ U with heap := s₂.heap, slotsUsed := s₂.slotsUsed } : State).setVm s₂.vm).setTop g).pushFrame (.throwing q))
    rw [← hs₂]
    exact hsteps
end Payer
section Calls
variable {p : Program} {l : Launch} {e : Env} {R : Room} {s : State} {m : MethodId} {args : Array Value} {below : List Frame} {meth : Method} {c : Code} {T : State} {locs : List Loc} {cells slots : Nat}
theorem vx_callV (X : Stand p l e R s m args below meth c T locs cells slots) (hexec : p.tables.exec = Jvm.exec) {own C : String} {index : Nat} {y : MethodName} {bytes : ByteArray} {maxL : Nat} {ret : Option FieldType}
    (hown : s.vm.findClass own = some m.cls) (hlink : (Cond.methodLink own index y).before args s = true) (hinst : (Cond.instanceMethod y).before args s = true) (hsel : (Cond.selects C y y).before args s = true)
    (hcode : (Cond.code y bytes maxL ret).before args s = true) (hy : y.cls ≠ "java/lang/invoke/MethodHandle" ∧ y.cls ≠ "java/lang/invoke/VarHandle")
    {W9 : Nat} {Pre : Pt → Array Value → Prop} {Post : Pt → Array Value → Option Value → Pt → Prop} {PostX : Pt → Array Value → Addr → Pt → Prop} (hK : vx_Back l R p e below s args y 3 W9 Pre Post PostX)
    {b : Addr} {cellB : Cell} (hcell : T.heap[b]? = some cellB) (hobj : cellB.vm.isStatics = false) (hcls : s.vm.findClass C = some cellB.cls)
    {g : JFrame} (hg : g.method = m) (hsize : g.locals.size = c.maxLocals) {argsL rest : List Value} (hlen : ∀ sig, parseMethodDescriptor y.desc = some sig → argsL.length = sig.parameters.length)
    (hstack : g.stack = argsL.reverse ++ .ref b :: rest) (hW : 2 * g.monitorRoom + (rest.map fun v => v.category).sum ≤ W9) (hdg : decode c.code g.pc = .ok (.invokevirtual index, 3))
    (hpre : ∀ vm₁, s.WarmedH vm₁ → Pre ⟨T.setVm vm₁, locs, cells, slots⟩ (Value.ref b :: argsL).toArray) :
    (∃ (v : Option Value) (vm₁ : Vm) (B : Pt), s.WarmedH vm₁ ∧ Stand p l e R s m args below meth c B.U B.locs B.cells B.slots ∧ Post ⟨T.setVm vm₁, locs, cells, slots⟩ (Value.ref b :: argsL).toArray v B ∧
      ∀ target, Steps p.tables e below (B.U.setTop { g with pc := g.pc + 3, stack := v.toList ++ rest }) target → Steps p.tables e below (T.setTop g) target) ∨
    (∃ (q : Addr) (vm₁ : Vm) (B : Pt), s.WarmedH vm₁ ∧ Stand p l e R s m args below meth c B.U B.locs B.cells B.slots ∧ PostX ⟨T.setVm vm₁, locs, cells, slots⟩ (Value.ref b :: argsL).toArray q B ∧
      Steps p.tables e below (T.setTop g) ((B.U.setTop { g with stack := rest }).pushFrame (.throwing q))) := by
  obtain ⟨mk, methM, hnamed, hmethM, hstM, habM⟩ := Cond.instanceMethod_spec hinst
  obtain ⟨methM', cM, hmethM', -, -, -, -, -, -, hsigM⟩ := Cond.code_spec hnamed hcode
  cases hmethM.symm.trans hmethM'
  obtain ⟨c2, r2, m2, q1, q2, q3, q4, kP, hkP, hkPi⟩ := Cond.selects_spec hsel
  cases hcls.symm.trans q1
  cases (State.methodFound?_of_named hnamed hy).symm.trans q2
  cases hnamed.symm.trans q3
  have hselP : selectMethod e.platform s.vm cellB.cls mk = .method mk := by rw [Launch.admits_selectMethod X.admits]; exact q4
  obtain ⟨vm₁, X₁, hstep₁⟩ := X.invokevirtual hexec hown hlink hnamed hmethM hstM hkP hkPi hy (a := b) (cell := cellB) hcell
    (fun z h => by rw [h] at hobj; cases hobj) hselP hmethM habM hkP hkPi (g := g) hg (argsL := argsL) (rest := rest) (hlen _ hsigM) hstack hdg
  rcases hK m meth c ⟨T.setVm vm₁, locs, cells, slots⟩ { g with stack := rest } (.invokevirtual index) mk (Value.ref b :: argsL).toArray X₁ hg hsize hdg hW (X₁.named hnamed) (hpre vm₁ X₁.warmed) with ⟨v, B, X', hpost, hsteps⟩ | ⟨q, B, X', hpost, hsteps⟩
  · exact Or.inl ⟨v, vm₁, B, X₁.warmed, X', hpost, fun target h => hstep₁ _ fun acts => by rw [doInvoke_state]; exact hsteps.trans h⟩
  · exact Or.inr ⟨q, vm₁, B, X₁.warmed, X', hpost, hstep₁ _ fun acts => by rw [doInvoke_state]; exact hsteps⟩
theorem vx_callS (X : Stand p l e R s m args below meth c T locs cells slots) (hexec : p.tables.exec = Jvm.exec) {own : String} {index : Nat} {y : MethodName} {bytes : ByteArray} {maxL : Nat} {ret : Option FieldType}
    (hown : s.vm.findClass own = some m.cls) (hlink : (Cond.methodLink own index y).before args s = true) (hstat : (Cond.static y).before args s = true) (hinit : (Cond.initialized y.cls).before args s = true)
    (hcode : (Cond.code y bytes maxL ret).before args s = true) (hy : y.cls ≠ "java/lang/invoke/MethodHandle" ∧ y.cls ≠ "java/lang/invoke/VarHandle")
    {W9 : Nat} {Pre : Pt → Array Value → Prop} {Post : Pt → Array Value → Option Value → Pt → Prop} {PostX : Pt → Array Value → Addr → Pt → Prop} (hK : vx_Back l R p e below s args y 3 W9 Pre Post PostX)
    {g : JFrame} (hg : g.method = m) (hsize : g.locals.size = c.maxLocals) {argsL rest : List Value} (hlen : ∀ sig, parseMethodDescriptor y.desc = some sig → argsL.length = sig.parameters.length)
    (hstack : g.stack = argsL.reverse ++ rest) (hW : 2 * g.monitorRoom + (rest.map fun v => v.category).sum ≤ W9) (hdg : decode c.code g.pc = .ok (.invokestatic index, 3))
    (hpre : ∀ vm₁, s.WarmedH vm₁ → Pre ⟨T.setVm vm₁, locs, cells, slots⟩ argsL.toArray) :
    (∃ (v : Option Value) (vm₁ : Vm) (B : Pt), s.WarmedH vm₁ ∧ Stand p l e R s m args below meth c B.U B.locs B.cells B.slots ∧ Post ⟨T.setVm vm₁, locs, cells, slots⟩ argsL.toArray v B ∧
      ∀ target, Steps p.tables e below (B.U.setTop { g with pc := g.pc + 3, stack := v.toList ++ rest }) target → Steps p.tables e below (T.setTop g) target) ∨
    (∃ (q : Addr) (vm₁ : Vm) (B : Pt), s.WarmedH vm₁ ∧ Stand p l e R s m args below meth c B.U B.locs B.cells B.slots ∧ PostX ⟨T.setVm vm₁, locs, cells, slots⟩ argsL.toArray q B ∧
      Steps p.tables e below (T.setTop g) ((B.U.setTop { g with stack := rest }).pushFrame (.throwing q))) := by
  obtain ⟨mk, hnamed⟩ := Cond.code_named hcode
  obtain ⟨methM, cM, hmethM, -, -, -, -, -, -, hsigM⟩ := Cond.code_spec hnamed hcode
  have hstatic : methM.isStatic = true := Cond.static_spec hnamed hmethM hstat
  obtain ⟨kP, hkP, -⟩ := className_of_methodNamed hnamed
  have hinitP : kP.init = .initialized := Cond.initialized_spec (findClass_of_methodNamed hnamed) hkP hinit
  obtain ⟨vm₁, X₁, hstep₁⟩ := X.invokestatic hexec hown hlink hnamed hmethM hstatic hkP hinitP hy (g := g) hg (argsL := argsL) (rest := rest) (hlen _ hsigM) hstack hdg
  rcases hK m meth c ⟨T.setVm vm₁, locs, cells, slots⟩ { g with stack := rest } (.invokestatic index) mk argsL.toArray X₁ hg hsize hdg hW (X₁.named hnamed) (hpre vm₁ X₁.warmed) with ⟨v, B, X', hpost, hsteps⟩ | ⟨q, B, X', hpost, hsteps⟩
  · exact Or.inl ⟨v, vm₁, B, X₁.warmed, X', hpost, fun target h => hstep₁ _ fun acts => by rw [doInvoke_state]; exact hsteps.trans h⟩
  · exact Or.inr ⟨q, vm₁, B, X₁.warmed, X', hpost, hstep₁ _ fun acts => by rw [doInvoke_state]; exact hsteps⟩
end Calls
theorem vx_cls {s : State} {T : State} {vm₁ : Vm} {E : String} {k : ClassId} (hW : s.WarmedH vm₁) (h : (T.setVm vm₁).vm.findClass E = some k) : s.vm.findClass E = some k := by
  have h1 : vm₁.findClass E = some k := h
  rw [hW.alike.findClass] at h1
  exact h1
/-- the method's frame g, with q thrown over it -/
def vx_W (p : Program) (l : Launch) (e : Env) (R : Room) (s : State) (m : MethodId) (args : Array Value) (below : List Frame) (meth : Method) (c : Code) (H : Heap) (locs : List Loc) (cells slots : Nat) (Q : State → Prop) (g : JFrame) (q : Addr) : Prop :=
  ∀ T : State, T.heap = H → Stand p l e R s m args below meth c T locs cells slots → ∃ t, Steps p.tables e below ((T.setTop g).pushFrame (.throwing q)) t ∧ Q t
def vx_Run (p : Program) (l : Launch) (e : Env) (R : Room) (s : State) (m : MethodId) (args : Array Value) (below : List Frame) (meth : Method) (c : Code) (H : Heap) (locs : List Loc) (cells slots mc ms : Nat) (g : JFrame) (rest : List Value) (Qa : State → Outcome → State → Prop) (XC : String → State → State → Prop) (free : Addr → Prop) : Prop :=
  ∀ T : State, T.heap = H → Stand p l e R s m args below meth c T locs cells slots →
    (∃ (v : Option Value) (st₀ t T' : State) (L : List Loc), st₀.heap = H ∧ Stand p l e R s m args below meth c T' (locs ++ L) (cells + mc) (slots + ms) ∧ (∀ q ∈ L, free q.base) ∧ T'.heap = t.heap ∧ T'.vm = t.vm ∧ Qa st₀ (.returned v) t ∧
      Goes p e below T g T' { g with pc := g.pc + 3, stack := v.toList ++ rest }) ∨
    (∃ (q : Addr) (st₀ t T' : State) (L : List Loc) (E : String) (ce : Cell), st₀.heap = H ∧ Stand p l e R s m args below meth c T' (locs ++ L) (cells + mc) (slots + ms) ∧ (∀ z ∈ L, free z.base) ∧ T'.heap = t.heap ∧ T'.vm = t.vm ∧ XC E st₀ t ∧ t.heap[q]? = some ce ∧ ce.vm = .none ∧ s.vm.findClass E = some ce.cls ∧
      Steps p.tables e below (T.setTop g) ((T'.setTop { g with stack := rest }).pushFrame (.throwing q)))
def vx_X {S : Type} (px : S → Prop) (B : String → S → State → Prop) (A : Nat → Prop) : String → State → State → Prop := fun E st t => ∃ u : S, px u ∧ B E u t ∧ va_F A st t
section Runs
variable {p : Program} {l : Launch} {e : Env} {R : Room} {s : State} {m : MethodId} {args : Array Value} {below : List Frame} {meth : Method} {c : Code} {H : Heap} {locs : List Loc} {cells slots : Nat}
variable {y : MethodName} {bytes cc : ByteArray} {maxL nL mc ms n index : Nat} {ret : Option FieldType} {ws : List Cond} {rm : Room} {Pc : Array Value → State → Prop} {Qc : Array Value → State → Outcome → State → Prop} {XC : String → State → State → Prop} {free : Addr → Prop} {Ts : List Cond} {own C : String} {b : Addr} {As rest : List Value} {g : JFrame}
theorem vx_callBack (cb : CallB R s args own index y bytes maxL ret ws rm mc ms n) (hM : vx_Met l y ws rm Pc Qc XC mc ms free) (hbl : FrameBlind Pc) : vx_Back l R p e below s args y 3 8 (PreOf R mc ms Pc) (PostOf Qc mc ms free) (vx_Post XC mc ms free) := by
  obtain ⟨hrc, hrs, hfr, hlo, hws, hcw, -, hini, -⟩ := cb
  exact vx_back (bytes := bytes) (maxL := maxL) (ret := ret) hM hbl hrc hrs hfr hlo hws hcw (fun a' U hW => word_at hW (Or.inl (by first | rfl | simp [Cond.onTables, Cond.keeps, Cond.steady])) hini)
theorem vx_runV (S : CallFix p m c cc nL s args Ts own) (hM : vx_Met l y ws rm Pc Qc XC mc ms free) (cw : CallW R s args own C index y bytes maxL ret ws rm mc ms n) (hp : PreV s H C b Pc As)
    (hg : g.method = m) (hn : As.length = n) (hsize : g.locals.size = nL) (hstack : g.stack = As.reverse ++ .ref b :: rest) (hW : 2 * g.monitorRoom + (rest.map fun v => v.category).sum ≤ 8) (hdg : decode cc g.pc = .ok (.invokevirtual index, 3)) (hf : cells + mc ≤ R.cells ∧ slots + ms ≤ R.slots) :
    vx_Run p l e R s m args below meth c H locs cells slots mc ms g rest (Qc (Value.ref b :: As).toArray) XC free := by
  have hK : vx_Back l R p e below s args y 3 8 (PreOf R mc ms Pc) (PostOf Qc mc ms free) (vx_Post XC mc ms free) := vx_callBack cw.1 hM hp.1
  obtain ⟨⟨-, -, -, -, -, -, hcode, -, hy, hlen, hl⟩, hin, hse⟩ := cw
  obtain ⟨hx, hb, hml, ho, -⟩ := S
  obtain ⟨-, ⟨cellB, hcB, hoB, hclB⟩, hPc⟩ := hp
  intro T hT X
  rcases vx_callV X hx (C := C) (bytes := bytes) (maxL := maxL) (ret := ret) ho hl hin hse hcode hy hK (by rw [hT]; exact hcB) hoB hclB hg (hsize.trans hml.symm) (argsL := As) (rest := rest) (fun sig h => hn.trans (hlen sig h)) hstack hW (by rw [hb]; exact hdg)
    (fun vm₁ hW₁ => ⟨hf.1, hf.2, hPc (T.setVm vm₁) hT hW₁⟩) with ⟨v, vm₁, ⟨U', l2, c2, s2⟩, hW₁, X', ⟨g', mk, t, L, e1, e2, hq, h1, hL, h2, h3⟩, st⟩ | ⟨q, vm₁, ⟨U', l2, c2, s2⟩, hW₁, X', ⟨g', mk, t, L, E, ce, e1, e2, hq, hce, hcv, hcl, h1, hL, h2, h3⟩, st⟩
  · dsimp only [Pt.U, Pt.locs, Pt.cells, Pt.slots] at X' e1 e2 h1 h2 h3 st
    subst h1; subst h2; subst h3
    exact Or.inl ⟨v, (T.setVm vm₁).calling g' mk (Value.ref b :: As).toArray, t, U', L, hT, X', hL, e1, e2, hq, st⟩
  · dsimp only [Pt.U, Pt.locs, Pt.cells, Pt.slots] at X' e1 e2 h1 h2 h3 st hcl
    subst h1; subst h2; subst h3
    exact Or.inr ⟨q, (T.setVm vm₁).calling g' mk (Value.ref b :: As).toArray, t, U', L, E, ce, hT, X', hL, e1, e2, hq, hce, hcv, vx_cls hW₁ hcl, st⟩
theorem vx_runS (S : CallFix p m c cc nL s args Ts own) (hM : vx_Met l y ws rm Pc Qc XC mc ms free) (cw : CallB R s args own index y bytes maxL ret ws rm mc ms n ∧ (Cond.static y).before args s = true) (hp : PreS s H Pc As)
    (hg : g.method = m) (hn : As.length = n) (hsize : g.locals.size = nL) (hstack : g.stack = As.reverse ++ rest) (hW : 2 * g.monitorRoom + (rest.map fun v => v.category).sum ≤ 8) (hdg : decode cc g.pc = .ok (.invokestatic index, 3)) (hf : cells + mc ≤ R.cells ∧ slots + ms ≤ R.slots) :
    vx_Run p l e R s m args below meth c H locs cells slots mc ms g rest (Qc As.toArray) XC free := by
  have hK : vx_Back l R p e below s args y 3 8 (PreOf R mc ms Pc) (PostOf Qc mc ms free) (vx_Post XC mc ms free) := vx_callBack cw.1 hM hp.1
  obtain ⟨⟨-, -, -, -, -, -, hcode, hini, hy, hlen, hl⟩, hstt⟩ := cw
  obtain ⟨hx, hb, hml, ho, -⟩ := S
  intro T hT X
  rcases vx_callS X hx (bytes := bytes) (maxL := maxL) (ret := ret) ho hl hstt hini hcode hy hK hg (hsize.trans hml.symm) (argsL := As) (rest := rest) (fun sig h => hn.trans (hlen sig h)) hstack hW (by rw [hb]; exact hdg)
    (fun vm₁ hW₁ => ⟨hf.1, hf.2, hp.2 (T.setVm vm₁) hT hW₁⟩) with ⟨v, vm₁, ⟨U', l2, c2, s2⟩, hW₁, X', ⟨g', mk, t, L, e1, e2, hq, h1, hL, h2, h3⟩, st⟩ | ⟨q, vm₁, ⟨U', l2, c2, s2⟩, hW₁, X', ⟨g', mk, t, L, E, ce, e1, e2, hq, hce, hcv, hcl, h1, hL, h2, h3⟩, st⟩
  · dsimp only [Pt.U, Pt.locs, Pt.cells, Pt.slots] at X' e1 e2 h1 h2 h3 st
    subst h1; subst h2; subst h3
    exact Or.inl ⟨v, (T.setVm vm₁).calling g' mk As.toArray, t, U', L, hT, X', hL, e1, e2, hq, st⟩
  · dsimp only [Pt.U, Pt.locs, Pt.cells, Pt.slots] at X' e1 e2 h1 h2 h3 st hcl
    subst h1; subst h2; subst h3
    exact Or.inr ⟨q, (T.setVm vm₁).calling g' mk As.toArray, t, U', L, E, ce, hT, X', hL, e1, e2, hq, hce, hcv, vx_cls hW₁ hcl, st⟩
end Runs
section Rows
variable {p : Program} {l : Launch} {e : Env} {R : Room} {s : State} {m : MethodId} {args : Array Value} {below : List Frame} {meth : Method} {c : Code} {H : Heap} {locs : List Loc} {cells slots : Nat} {Q : State → Prop}
variable {mc ms : Nat} {free : Addr → Prop} {A0 A1 : Nat → Prop} {H0 : Heap} {a : Array Value} {pc : Nat} {ls : Array Slot} {st0 rest : List Value}
theorem vx_keep {st₀ t T' : State} {L : List Loc} (h0 : st₀.heap = H) (e1 : T'.heap = t.heap) (hS : va_S A0 H0 H locs) (hA : ∀ q, q < H.size → A1 q → A0 q) (hf : ∀ q, free q → A0 q) (hL : ∀ q ∈ L, free q.base) (hF : va_F A1 st₀ t) :
    H.size ≤ T'.heap.size ∧ (∀ q : Nat, q < H.size → ¬ A1 q → T'.heap[q]? = H[q]?) ∧ va_S A0 H0 T'.heap (locs ++ L) := by
  obtain ⟨hz, hk⟩ := hF
  rw [h0] at hz hk
  exact ⟨by rw [e1]; exact hz, fun q h1 h2 => by rw [e1]; exact hk q h1 h2,
    ⟨Nat.le_trans hS.1 (by rw [e1]; exact hz), fun q h1 h2 => by rw [e1, hk q (Nat.lt_of_lt_of_le h1 hS.1) (fun z => h2 (hA q (Nat.lt_of_lt_of_le h1 hS.1) z))]; exact hS.2.1 q h1 h2, fun q hq => by
      rcases List.mem_append.mp hq with h | h
      · exact hS.2.2 q h
      · exact hf _ (hL q h)⟩⟩
theorem vx_calli {S SX : Type} {post : Int32 → S → Prop} {px : SX → Prop} {B : S → State → Prop} {BX : String → SX → State → Prop} {AX : Nat → Prop} (hr : vx_Run p l e R s m args below meth c H locs cells slots mc ms (F0 m pc ls st0) rest (va_Qi post B A1 a) (vx_X px BX AX) free) (hS : va_S A0 H0 H locs) (hA : ∀ q, q < H.size → A1 q → A0 q) (hf : ∀ q, free q → A0 q) (hAX : ∀ q, q < H.size → AX q → A0 q)
    (kx : ∀ (E : String) (ce : Cell) (q9 : Addr) (u : SX) (t : State) (H1 : Heap) (locs1 : List Loc), t.heap = H1 → s.vm.Alike t.vm → px u → BX E u t → H.size ≤ H1.size → (∀ q : Nat, q < H.size → ¬ AX q → H1[q]? = H[q]?) → va_S A0 H0 H1 locs1 → H1[q9]? = some ce → ce.vm = .none → s.vm.findClass E = some ce.cls → vx_W p l e R s m args below meth c H1 locs1 (cells + mc) (slots + ms) Q (F0 m pc ls rest) q9)
    (kk : ∀ (r : Int32) (u : S) (t : State) (H1 : Heap) (locs1 : List Loc), t.heap = H1 → s.vm.Alike t.vm → post r u → B u t → H.size ≤ H1.size → (∀ q : Nat, q < H.size → ¬ A1 q → H1[q]? = H[q]?) → va_S A0 H0 H1 locs1 → W p l e R s m args below meth c H1 locs1 (cells + mc) (slots + ms) Q (F0 m (pc + 3) ls (.int r :: rest))) : W p l e R s m args below meth c H locs cells slots Q (F0 m pc ls st0) := by
  intro T hT X
  rcases hr T hT X with ⟨v, st₀, t, T', L, h0, X', hL, e1, e2, ⟨⟨r, u, hv, hp, hb⟩, hF⟩, st⟩ | ⟨q, st₀, t, T', L, E, ce, h0, X', hL, e1, e2, ⟨u, hp, hb, hF⟩, hce, hcv, hcl, st⟩
  · cases hv
    obtain ⟨k1, k2, k3⟩ := vx_keep h0 e1 hS hA hf hL hF
    obtain ⟨t2, a1, b1⟩ := kk r u t T'.heap (locs ++ L) e1.symm (by rw [← e2]; exact X'.warmed.alike) hp hb k1 k2 k3 T' rfl X'
    exact ⟨t2, st t2 a1, b1⟩
  · obtain ⟨k1, k2, k3⟩ := vx_keep h0 e1 hS hAX hf hL hF
    obtain ⟨t2, a1, b1⟩ := kx E ce q u t T'.heap (locs ++ L) e1.symm (by rw [← e2]; exact X'.warmed.alike) hp hb k1 k2 k3 (by rw [e1]; exact hce) hcv hcl T' rfl X'
    exact ⟨t2, st.trans a1, b1⟩
theorem vx_calll {S SX : Type} {post : Int64 → S → Prop} {px : SX → Prop} {B : S → State → Prop} {BX : String → SX → State → Prop} {AX : Nat → Prop} (hr : vx_Run p l e R s m args below meth c H locs cells slots mc ms (F0 m pc ls st0) rest (va_Ql post B A1 a) (vx_X px BX AX) free) (hS : va_S A0 H0 H locs) (hA : ∀ q, q < H.size → A1 q → A0 q) (hf : ∀ q, free q → A0 q) (hAX : ∀ q, q < H.size → AX q → A0 q)
    (kx : ∀ (E : String) (ce : Cell) (q9 : Addr) (u : SX) (t : State) (H1 : Heap) (locs1 : List Loc), t.heap = H1 → s.vm.Alike t.vm → px u → BX E u t → H.size ≤ H1.size → (∀ q : Nat, q < H.size → ¬ AX q → H1[q]? = H[q]?) → va_S A0 H0 H1 locs1 → H1[q9]? = some ce → ce.vm = .none → s.vm.findClass E = some ce.cls → vx_W p l e R s m args below meth c H1 locs1 (cells + mc) (slots + ms) Q (F0 m pc ls rest) q9)
    (kk : ∀ (r : Int64) (u : S) (t : State) (H1 : Heap) (locs1 : List Loc), t.heap = H1 → s.vm.Alike t.vm → post r u → B u t → H.size ≤ H1.size → (∀ q : Nat, q < H.size → ¬ A1 q → H1[q]? = H[q]?) → va_S A0 H0 H1 locs1 → W p l e R s m args below meth c H1 locs1 (cells + mc) (slots + ms) Q (F0 m (pc + 3) ls (.long r :: rest))) : W p l e R s m args below meth c H locs cells slots Q (F0 m pc ls st0) := by
  intro T hT X
  rcases hr T hT X with ⟨v, st₀, t, T', L, h0, X', hL, e1, e2, ⟨⟨r, u, hv, hp, hb⟩, hF⟩, st⟩ | ⟨q, st₀, t, T', L, E, ce, h0, X', hL, e1, e2, ⟨u, hp, hb, hF⟩, hce, hcv, hcl, st⟩
  · cases hv
    obtain ⟨k1, k2, k3⟩ := vx_keep h0 e1 hS hA hf hL hF
    obtain ⟨t2, a1, b1⟩ := kk r u t T'.heap (locs ++ L) e1.symm (by rw [← e2]; exact X'.warmed.alike) hp hb k1 k2 k3 T' rfl X'
    exact ⟨t2, st t2 a1, b1⟩
  · obtain ⟨k1, k2, k3⟩ := vx_keep h0 e1 hS hAX hf hL hF
    obtain ⟨t2, a1, b1⟩ := kx E ce q u t T'.heap (locs ++ L) e1.symm (by rw [← e2]; exact X'.warmed.alike) hp hb k1 k2 k3 (by rw [e1]; exact hce) hcv hcl T' rfl X'
    exact ⟨t2, st.trans a1, b1⟩
theorem vx_callf {S SX : Type} {post : UInt32 → S → Prop} {px : SX → Prop} {B : S → State → Prop} {BX : String → SX → State → Prop} {AX : Nat → Prop} (hr : vx_Run p l e R s m args below meth c H locs cells slots mc ms (F0 m pc ls st0) rest (va_Qf post B A1 a) (vx_X px BX AX) free) (hS : va_S A0 H0 H locs) (hA : ∀ q, q < H.size → A1 q → A0 q) (hf : ∀ q, free q → A0 q) (hAX : ∀ q, q < H.size → AX q → A0 q)
    (kx : ∀ (E : String) (ce : Cell) (q9 : Addr) (u : SX) (t : State) (H1 : Heap) (locs1 : List Loc), t.heap = H1 → s.vm.Alike t.vm → px u → BX E u t → H.size ≤ H1.size → (∀ q : Nat, q < H.size → ¬ AX q → H1[q]? = H[q]?) → va_S A0 H0 H1 locs1 → H1[q9]? = some ce → ce.vm = .none → s.vm.findClass E = some ce.cls → vx_W p l e R s m args below meth c H1 locs1 (cells + mc) (slots + ms) Q (F0 m pc ls rest) q9)
    (kk : ∀ (r : UInt32) (u : S) (t : State) (H1 : Heap) (locs1 : List Loc), t.heap = H1 → s.vm.Alike t.vm → post r u → B u t → H.size ≤ H1.size → (∀ q : Nat, q < H.size → ¬ A1 q → H1[q]? = H[q]?) → va_S A0 H0 H1 locs1 → W p l e R s m args below meth c H1 locs1 (cells + mc) (slots + ms) Q (F0 m (pc + 3) ls (.float r :: rest))) : W p l e R s m args below meth c H locs cells slots Q (F0 m pc ls st0) := by
  intro T hT X
  rcases hr T hT X with ⟨v, st₀, t, T', L, h0, X', hL, e1, e2, ⟨⟨r, u, hv, hp, hb⟩, hF⟩, st⟩ | ⟨q, st₀, t, T', L, E, ce, h0, X', hL, e1, e2, ⟨u, hp, hb, hF⟩, hce, hcv, hcl, st⟩
  · cases hv
    obtain ⟨k1, k2, k3⟩ := vx_keep h0 e1 hS hA hf hL hF
    obtain ⟨t2, a1, b1⟩ := kk r u t T'.heap (locs ++ L) e1.symm (by rw [← e2]; exact X'.warmed.alike) hp hb k1 k2 k3 T' rfl X'
    exact ⟨t2, st t2 a1, b1⟩
  · obtain ⟨k1, k2, k3⟩ := vx_keep h0 e1 hS hAX hf hL hF
    obtain ⟨t2, a1, b1⟩ := kx E ce q u t T'.heap (locs ++ L) e1.symm (by rw [← e2]; exact X'.warmed.alike) hp hb k1 k2 k3 (by rw [e1]; exact hce) hcv hcl T' rfl X'
    exact ⟨t2, st.trans a1, b1⟩
theorem vx_calld {S SX : Type} {post : UInt64 → S → Prop} {px : SX → Prop} {B : S → State → Prop} {BX : String → SX → State → Prop} {AX : Nat → Prop} (hr : vx_Run p l e R s m args below meth c H locs cells slots mc ms (F0 m pc ls st0) rest (va_Qd post B A1 a) (vx_X px BX AX) free) (hS : va_S A0 H0 H locs) (hA : ∀ q, q < H.size → A1 q → A0 q) (hf : ∀ q, free q → A0 q) (hAX : ∀ q, q < H.size → AX q → A0 q)
    (kx : ∀ (E : String) (ce : Cell) (q9 : Addr) (u : SX) (t : State) (H1 : Heap) (locs1 : List Loc), t.heap = H1 → s.vm.Alike t.vm → px u → BX E u t → H.size ≤ H1.size → (∀ q : Nat, q < H.size → ¬ AX q → H1[q]? = H[q]?) → va_S A0 H0 H1 locs1 → H1[q9]? = some ce → ce.vm = .none → s.vm.findClass E = some ce.cls → vx_W p l e R s m args below meth c H1 locs1 (cells + mc) (slots + ms) Q (F0 m pc ls rest) q9)
    (kk : ∀ (r : UInt64) (u : S) (t : State) (H1 : Heap) (locs1 : List Loc), t.heap = H1 → s.vm.Alike t.vm → post r u → B u t → H.size ≤ H1.size → (∀ q : Nat, q < H.size → ¬ A1 q → H1[q]? = H[q]?) → va_S A0 H0 H1 locs1 → W p l e R s m args below meth c H1 locs1 (cells + mc) (slots + ms) Q (F0 m (pc + 3) ls (.double r :: rest))) : W p l e R s m args below meth c H locs cells slots Q (F0 m pc ls st0) := by
  intro T hT X
  rcases hr T hT X with ⟨v, st₀, t, T', L, h0, X', hL, e1, e2, ⟨⟨r, u, hv, hp, hb⟩, hF⟩, st⟩ | ⟨q, st₀, t, T', L, E, ce, h0, X', hL, e1, e2, ⟨u, hp, hb, hF⟩, hce, hcv, hcl, st⟩
  · cases hv
    obtain ⟨k1, k2, k3⟩ := vx_keep h0 e1 hS hA hf hL hF
    obtain ⟨t2, a1, b1⟩ := kk r u t T'.heap (locs ++ L) e1.symm (by rw [← e2]; exact X'.warmed.alike) hp hb k1 k2 k3 T' rfl X'
    exact ⟨t2, st t2 a1, b1⟩
  · obtain ⟨k1, k2, k3⟩ := vx_keep h0 e1 hS hAX hf hL hF
    obtain ⟨t2, a1, b1⟩ := kx E ce q u t T'.heap (locs ++ L) e1.symm (by rw [← e2]; exact X'.warmed.alike) hp hb k1 k2 k3 (by rw [e1]; exact hce) hcv hcl T' rfl X'
    exact ⟨t2, st.trans a1, b1⟩
theorem vx_callv {S SX : Type} {post : S → Prop} {px : SX → Prop} {B : S → State → Prop} {BX : String → SX → State → Prop} {AX : Nat → Prop} (hr : vx_Run p l e R s m args below meth c H locs cells slots mc ms (F0 m pc ls st0) rest (va_Qv post B A1 a) (vx_X px BX AX) free) (hS : va_S A0 H0 H locs) (hA : ∀ q, q < H.size → A1 q → A0 q) (hf : ∀ q, free q → A0 q) (hAX : ∀ q, q < H.size → AX q → A0 q)
    (kx : ∀ (E : String) (ce : Cell) (q9 : Addr) (u : SX) (t : State) (H1 : Heap) (locs1 : List Loc), t.heap = H1 → s.vm.Alike t.vm → px u → BX E u t → H.size ≤ H1.size → (∀ q : Nat, q < H.size → ¬ AX q → H1[q]? = H[q]?) → va_S A0 H0 H1 locs1 → H1[q9]? = some ce → ce.vm = .none → s.vm.findClass E = some ce.cls → vx_W p l e R s m args below meth c H1 locs1 (cells + mc) (slots + ms) Q (F0 m pc ls rest) q9)
    (kk : ∀ (u : S) (t : State) (H1 : Heap) (locs1 : List Loc), t.heap = H1 → s.vm.Alike t.vm → post u → B u t → H.size ≤ H1.size → (∀ q : Nat, q < H.size → ¬ A1 q → H1[q]? = H[q]?) → va_S A0 H0 H1 locs1 → W p l e R s m args below meth c H1 locs1 (cells + mc) (slots + ms) Q (F0 m (pc + 3) ls (rest))) : W p l e R s m args below meth c H locs cells slots Q (F0 m pc ls st0) := by
  intro T hT X
  rcases hr T hT X with ⟨v, st₀, t, T', L, h0, X', hL, e1, e2, ⟨⟨u, hv, hp, hb⟩, hF⟩, st⟩ | ⟨q, st₀, t, T', L, E, ce, h0, X', hL, e1, e2, ⟨u, hp, hb, hF⟩, hce, hcv, hcl, st⟩
  · cases hv
    obtain ⟨k1, k2, k3⟩ := vx_keep h0 e1 hS hA hf hL hF
    obtain ⟨t2, a1, b1⟩ := kk u t T'.heap (locs ++ L) e1.symm (by rw [← e2]; exact X'.warmed.alike) hp hb k1 k2 k3 T' rfl X'
    exact ⟨t2, st t2 a1, b1⟩
  · obtain ⟨k1, k2, k3⟩ := vx_keep h0 e1 hS hAX hf hL hF
    obtain ⟨t2, a1, b1⟩ := kx E ce q u t T'.heap (locs ++ L) e1.symm (by rw [← e2]; exact X'.warmed.alike) hp hb k1 k2 k3 (by rw [e1]; exact hce) hcv hcl T' rfl X'
    exact ⟨t2, st.trans a1, b1⟩
/-- caught by the row x of this method's table; the rows ahead don't take it -/
theorem vx_catch {own name : String} {E : String} {ce : Cell} {q : Addr} (hown : s.vm.findClass own = some m.cls) (pre : List ExceptionTableEntry) (x : ExceptionTableEntry) (suf : List ExceptionTableEntry) (hsplit : c.exceptionTable.toList = pre ++ x :: suf)
    (hpass : ∀ z ∈ pre, covers z pc = false ∨ (z.catchType ≠ 0 ∧ ∃ nm : String, (Cond.classLink own z.catchType nm).before args s = true ∧ va_Nc E nm s)) (hx : covers x pc = true) (h0 : x.catchType ≠ 0)
    (hlink : (Cond.classLink own x.catchType name).before args s = true) (hcast : (Cond.castable E name).before args s = true) (hcell : H[q]? = some ce) (hv : ce.vm = .none) (hcl : s.vm.findClass E = some ce.cls)
    (kk : W p l e R s m args below meth c H locs cells slots Q (F0 m x.handlerPc ls [.ref q])) : vx_W p l e R s m args below meth c H locs cells slots Q (F0 m pc ls rest) q := by
  intro T hT X
  have hpl : e.platform.magicAccessors = ({} : Platform).magicAccessors := by rw [X.admits.platform]
  obtain ⟨c3, c4, hc3, hc4, hasg⟩ := Cond.castable_spec hcast
  cases Option.some.inj (hc3.symm.trans hcl)
  obtain ⟨c5, hc5, hcl5⟩ := Cond.classLink_spec hown hlink e.platform hpl
  cases Option.some.inj (hc4.symm.trans hc5)
  obtain ⟨vm', X', st⟩ := X.thenCaughtThrough q (g := F0 m pc ls rest) rfl (Steps.refl _) (by rw [hT]; exact hcell) (by rw [hv]; rfl) (by obtain ⟨k9, h9, -⟩ := Vm.findClass_spec hcl; exact ⟨k9, h9⟩) pre x suf hsplit
    (fun z hz => by
      rcases hpass z hz with h | ⟨hz0, nm, hl1, hn1⟩
      · exact Or.inl h
      · obtain ⟨c6, hc6, hcl6⟩ := Cond.classLink_spec hown hl1 e.platform hpl
        obtain ⟨a8, b8, h1, h2, h3⟩ := hn1
        cases Option.some.inj (h1.symm.trans hcl)
        cases Option.some.inj (h2.symm.trans hc6)
        exact Or.inr ⟨hz0, _, hcl6, h3⟩) hx (Or.inr ⟨h0, c4, hcl5, hasg⟩)
  obtain ⟨t, a1, b1⟩ := kk (T.setVm vm') hT X'
  exact ⟨t, st.trans a1, b1⟩
end Rows
section Ends
variable {p : Program} {l : Launch} {e : Env} {R : Room} {s : State} {m : MethodId} {args : Array Value} {below : List Frame} {meth : Method} {c : Code} {H : Heap} {locs : List Loc} {cells slots : Nat} {Q : State → Prop}
variable {mc ms : Nat} {free : Addr → Prop} {A0 A1 : Nat → Prop} {H0 : Heap} {a : Array Value} {ls : Array Slot} {st0 rest : List Value}
variable {Qc : Array Value → State → Outcome → State → Prop} {XC : String → State → State → Prop}
/-- what a body that may throw owes at its end -/
def vx_MQ (below : List Frame) (Qc : Array Value → State → Outcome → State → Prop) (XC : String → State → State → Prop) (a : Array Value) (s : State) (mc ms : Nat) (free : Addr → Prop) : State → Prop := fun t =>
  ∃ o, t.status = .running ∧ Ended t below o ∧ vx_Q Qc XC mc ms free a s o t
theorem vx_ret {g : JFrame} {mc ms : Nat} (k : W p l e R s m args below meth c H locs cells slots (MQ below Qc args s mc ms free) g) : W p l e R s m args below meth c H locs cells slots (vx_MQ below Qc XC args s mc ms free) g := by
  intro T hT X
  obtain ⟨t, a1, o, b1, b2, b3, b4⟩ := k T hT X
  exact ⟨t, a1, o, b1, b2, Or.inl ⟨b3, b4⟩⟩
/-- not caught here: it goes on to the caller -/
theorem vx_widen {g : JFrame} {q : Addr} {k n : Nat} (h1 : cells ≤ k) (h2 : slots ≤ n) (kk : vx_W p l e R s m args below meth c H locs k n Q g q) : vx_W p l e R s m args below meth c H locs cells slots Q g q := fun T hT X => kk T hT (stand_widen X h1 h2)
theorem vx_out {pc : Nat} {E : String} {ce : Cell} {q : Addr} {mc ms : Nat} (hout : ∀ x ∈ c.exceptionTable.toList, covers x pc = false) (hlocks : meth.locks = false) (hcell : H[q]? = some ce) (hv : ce.vm = .none) (hcl : s.vm.findClass E = some ce.cls)
    (hx : ∀ t : State, t.heap = H → s.vm.Alike t.vm → XC E s t) (hf : ∀ z ∈ locs, free z.base) (hc : cells ≤ mc) (hs : slots ≤ ms) :
    vx_W p l e R s m args below meth c H locs cells slots (vx_MQ below Qc XC args s mc ms free) (F0 m pc ls rest) q := by
  intro T hT X
  obtain ⟨st1, hrun, hend, hW, hsm⟩ := X.leaveThrown q (g := F0 m pc ls rest) rfl rfl rfl hout hlocks
  have hcell9 : (T.setFrames (.throwing q :: below)).heap[q]? = some ce := by
    show T.heap[q]? = some ce
    rw [hT]; exact hcell
  exact ⟨_, st1, .threw q, hrun, hend, Or.inr ⟨q, rfl, E, ce, locs, hx _ hT hW.alike, hcell9, hv, hcl, hW, hsm.mono hc hs, hf⟩⟩
theorem vx_frame {U : State} {k n : Nat} (h : s.sameButNew ({ U with vm := s.vm } : State) locs k n) : s.heap.size ≤ U.heap.size ∧ ∀ q : Nat, q < s.heap.size → (∀ z ∈ locs, z.base ≠ q) → U.heap[q]? = s.heap[q]? := by
  obtain ⟨-, h2, -, -, -, h6⟩ := h
  refine ⟨h2, fun q hq hz => ?_⟩
  obtain ⟨c9, e1, e2, e3, e4⟩ := h6 q _ (Array.getElem?_eq_getElem hq)
  have hs : c9.slots = (s.heap[q]).slots := Array.ext_getElem? fun i => e4 i fun hm => hz _ hm rfl
  have h9 : c9 = s.heap[q] := by
    rw [hs] at e2
    exact e2
  have e5 : U.heap[q]? = some c9 := e1
  rw [e5, h9, Array.getElem?_eq_getElem hq]
/-- the words of a throw but the four that speak of the heap -/
def vx_no (w : Cond) : Bool := decide (w ≠ .isRef (.static Bundle.tN "UNASSIGNED_STACK" Bundle.steD)) && decide (w ≠ .isRef (.static Bundle.tN "SUPPRESSED_SENTINEL" Bundle.listD)) && decide (w ≠ .laysStatic Bundle.tN "UNASSIGNED_STACK" Bundle.steD) && decide (w ≠ .laysStatic Bundle.tN "SUPPRESSED_SENTINEL" Bundle.listD)
def vx_at0 (own : String) (ic : Nat) (X : String) (names : List String) : List Cond := (Bundle.ownAtoms0 own ic X names).filter vx_no
def vx_atS (own : String) (ic : Nat) (X : String) (names : List String) : List Cond := (Bundle.ownAtoms own ic X names).filter vx_no
/-- a word that the tables alone decide, or a good one -/
def vx_ot (w : Cond) : Bool := w.onTables || goodWord w
theorem vx_ot_at {args a' : Array Value} {s U : State} {w : Cond} (hW : s.WarmedH U.vm) (hvm : s.vm = U.vm) (hg : vx_ot w = true) (h : w.before args s = true) : w.before a' U = true := by
  simp only [vx_ot, Bool.or_eq_true] at hg
  rcases hg with hg | hg
  · exact va_tabs hg hvm h
  · exact word_at hW (good_of_word hg) h
/-- a list's words: the good ones out of the method's own list, the others by premises of their own -/
theorem vx_hat {args : Array Value} {s : State} {L B : List Cond} (h1 : ∀ w ∈ L.filter goodWord, w.before args s = true) (h2 : ∀ w ∈ L.filter (fun w => !goodWord w), w ∈ B) (h3 : ∀ w ∈ B, w.before args s = true) : ∀ w ∈ L, w.before args s = true := by
  intro w hw
  by_cases g : goodWord w = true
  · exact h1 w (List.mem_filter.mpr ⟨hw, g⟩)
  · refine h3 w (h2 w (List.mem_filter.mpr ⟨hw, ?_⟩))
    show (!goodWord w) = true
    cases hgw : goodWord w
    · rfl
    · exact absurd hgw g
theorem vx_c {args : Array Value} {s : State} {w : Cond} {B : List Cond} (h : w.before args s = true) (t : ∀ w ∈ B, w.before args s = true) : ∀ w' ∈ w :: B, w'.before args s = true := fun w' h' => (List.mem_cons.mp h').elim (fun e => by rw [e]; exact h) (t w')
theorem vx_n {args : Array Value} {s : State} : ∀ w ∈ ([] : List Cond), w.before args s = true := fun _ h => nomatch h
theorem vx_own {args : Array Value} {s : State} {L : List Cond} (h1 : ∀ w ∈ L.filter vx_no, w.before args s = true)
    (hU : (Cond.isRef (.static Bundle.tN "UNASSIGNED_STACK" Bundle.steD)).before args s = true) (hN : (Cond.isRef (.static Bundle.tN "SUPPRESSED_SENTINEL" Bundle.listD)).before args s = true)
    (lU : (Cond.laysStatic Bundle.tN "UNASSIGNED_STACK" Bundle.steD).before args s = true) (lN : (Cond.laysStatic Bundle.tN "SUPPRESSED_SENTINEL" Bundle.listD).before args s = true) : ∀ w ∈ L, w.before args s = true := by
  intro w hw
  by_cases e1 : w = .isRef (.static Bundle.tN "UNASSIGNED_STACK" Bundle.steD)
  · rw [e1]; exact hU
  · by_cases e2 : w = .isRef (.static Bundle.tN "SUPPRESSED_SENTINEL" Bundle.listD)
    · rw [e2]; exact hN
    · by_cases e3 : w = .laysStatic Bundle.tN "UNASSIGNED_STACK" Bundle.steD
      · rw [e3]; exact lU
      · by_cases e4 : w = .laysStatic Bundle.tN "SUPPRESSED_SENTINEL" Bundle.listD
        · rw [e4]; exact lN
        · exact h1 w (List.mem_filter.mpr ⟨hw, by unfold vx_no; rw [decide_eq_true e1, decide_eq_true e2, decide_eq_true e3, decide_eq_true e4]; rfl⟩)
/-- where a static field lies, its class's statics cell in H -/
def vx_L (C n d : String) (A : Nat → Prop) (U : State) (H : Heap) : Prop := ∃ (c : ClassId) (k : Class) (i : Nat) (f : Field) (a : Nat) (cell : Cell), U.vm.findClass C = some c ∧ U.fieldFound? C n d = some (c, k, i, f) ∧ f.isStatic = true ∧ k.statics = some a ∧ H[a]? = some cell ∧ cell.vm.isStatics = true ∧ cell.cls = c ∧ f.slot < cell.slots.size ∧ k.staticTypes[f.slot]? = some f.type ∧ ¬ A a
theorem vx_L.moved {C n d : String} {A : Nat → Prop} {u U : State} {H : Heap} (hvm : u.vm.Alike U.vm) (h : vx_L C n d A u H) : vx_L C n d A U H := by
  obtain ⟨c, k, i, f, a, cell, h1, h2, h3, h4, h5, h6, h7, h8, h9, h10⟩ := h
  obtain ⟨k', hi', he⟩ := State.fieldFound?_setVm hvm h2
  exact ⟨c, k', i, f, a, cell, by rw [hvm.findClass]; exact h1, hi', h3, by rw [he]; exact h4, h5, h6, h7, h8, by rw [he]; exact h9, h10⟩
theorem vx_L.kept {C n d : String} {A : Nat → Prop} {U : State} {H H1 : Heap} (h : vx_L C n d A U H) (hq : ∀ a : Nat, a < H.size → ¬ A a → H1[a]? = H[a]?) : vx_L C n d A U H1 := by
  obtain ⟨c, k, i, f, a, cell, h1, h2, h3, h4, h5, h6, h7, h8, h9, h10⟩ := h
  exact ⟨c, k, i, f, a, cell, h1, h2, h3, h4, by rw [hq a (Array.getElem?_eq_some_iff.mp h5).1 h10]; exact h5, h6, h7, h8, h9, h10⟩
theorem vx_L.narrow {C n d : String} {A B : Nat → Prop} {U : State} {H : Heap} (h : vx_L C n d A U H) (hAB : ∀ q, B q → A q) : vx_L C n d B U H := by
  obtain ⟨c, k, i, f, a, cell, h1, h2, h3, h4, h5, h6, h7, h8, h9, h10⟩ := h
  exact ⟨c, k, i, f, a, cell, h1, h2, h3, h4, h5, h6, h7, h8, h9, fun z => h10 (hAB _ z)⟩
theorem vx_L.word {C n d : String} {A : Nat → Prop} {s : State} {args : Array Value} (h : vx_L C n d A s s.heap) : (Cond.laysStatic C n d).before args s = true := by
  obtain ⟨c, k, i, f, a, cell, h1, h2, h3, h4, h5, h6, h7, h8, h9, -⟩ := h
  show (Cond.laysStatic C n d).holds args s none s [] = true
  exact Cond.laysStatic_of h1 h2 h3 h4 h5 h6 h7 h8 h9
/-- .. and what it holds: null or some reference -/
def vx_Zq (C n d : String) (A : Nat → Prop) (U : State) (H : Heap) : Prop := va_Zq C n d A U H ∧ vx_L C n d A U H
theorem vx_Zq.moved {C n d : String} {A : Nat → Prop} {u U : State} {H : Heap} (hvm : u.vm.Alike U.vm) (h : vx_Zq C n d A u H) : vx_Zq C n d A U H := ⟨va_Zq.moved hvm h.1, vx_L.moved hvm h.2⟩
theorem vx_Zq.kept {C n d : String} {A : Nat → Prop} {U : State} {H H1 : Heap} (h : vx_Zq C n d A U H) (hq : ∀ a : Nat, a < H.size → ¬ A a → H1[a]? = H[a]?) : vx_Zq C n d A U H1 := ⟨va_Zq.kept h.1 hq, vx_L.kept h.2 hq⟩
theorem vx_Zq.narrow {C n d : String} {A B : Nat → Prop} {U : State} {H : Heap} (h : vx_Zq C n d A U H) (hAB : ∀ q, B q → A q) : vx_Zq C n d B U H := ⟨va_Zq.narrow h.1 hAB, vx_L.narrow h.2 hAB⟩
theorem vx_Zqof {args : Array Value} {s : State} {C n d : String} {A : Nat → Prop} (hl : (Cond.laysStatic C n d).before args s = true) (hini : (Cond.initialized C).before args s = true) (h : (Cond.isRef (.static C n d)).before args s = true) (hA : ∀ a : Nat, a < s.heap.size → ¬ A a) : vx_Zq C n d A s s.heap := by
  refine ⟨va_Zqof hl hini h hA, ?_⟩
  obtain ⟨c, k, i, f, a, cell, h1, h2, h3, h4, h5, h6, h7, h8, h9⟩ := Cond.laysStatic_spec hl
  exact ⟨c, k, i, f, a, cell, h1, h2, h3, h4, h5, h6, h7, h8, h9, hA a (Array.getElem?_eq_some_iff.mp h5).1⟩
theorem vx_isRef {C n d : String} {v : Value} {A : Nat → Prop} {s : State} {args : Array Value} (h : va_Z C n d v A s s.heap) (hv : v.isRef = true) : (Cond.isRef (.static C n d)).before args s = true := by
  obtain ⟨cf, kf, fi, f, a, cell, h1, h2, h3, h4, h5, h6, h7, -⟩ := h
  have he : (Term.static C n d).eval args s none [] s = some v := by
    simp [Term.eval, State.fieldNamed?, h1, h2, h4, h5, h6, h7]
  simp only [Cond.before, Cond.holds, Cond.value, he]
  cases v <;> simp_all [Value.isRef]
theorem vx_isRefq {C n d : String} {A : Nat → Prop} {s : State} {args : Array Value} (h : va_Zq C n d A s s.heap) : (Cond.isRef (.static C n d)).before args s = true := by
  rcases h with h | ⟨t, h⟩
  · exact vx_isRef h rfl
  · exact vx_isRef h rfl
/-- the same frame, seen from here: as if the method were called anew in this heap -/
theorem vx_rebase {T : State} (X : Stand p l e R s m args below meth c T locs cells slots) {R' : Room} (hf : R'.frames ≤ R.frames) (hl : R'.locals ≤ R.locals) (hc : cells + R'.cells ≤ R.cells) (hs : slots + R'.slots ≤ R.slots) :
    Stand p l e R' ((T.setVm s.vm).setFrames (.invoking m args :: below)) m args below meth c T [] 0 0 := by
  have htop : (T.setVm s.vm).topJava?.isSome := X.here.top
  have hF : ((T.setVm s.vm).setFrames (.invoking m args :: below)).frames = .invoking m args :: below := State.frames_setFrames _ (State.cur_lt_of_top htop)
  obtain ⟨g₀, hg0⟩ := Option.isSome_iff_exists.mp htop
  obtain ⟨r, hr⟩ := State.topJava?_eq_some.mp hg0
  have hl9 : e.platform.stackLimits (T.setVm s.vm).me = e.platform.stackLimits s.me := X.limits
  have hb9 : (T.setVm s.vm).me.stackBytes = s.me.stackBytes := X.bytes
  refine ⟨X.admits, X.cas, X.clock, hF, ?_, X.hears, X.method, X.code, X.here, X.tail, X.warmed, ?_, ?_, ?_⟩
  · have h := X.room
    have hU : ((T.setVm s.vm).setFrames (.invoking m args :: below)).localsInUse = s.localsInUse := by
      rw [State.localsInUse_invoking hF (meth := meth) (c := c) X.method X.code, State.localsInUse_invoking X.frames X.method X.code]
    simp only [State.hasRoom, Bool.and_eq_true, decide_eq_true_eq] at h ⊢
    obtain ⟨⟨⟨⟨h1, h2, h3, h4, h5, h6⟩, h7⟩, h8⟩, h9⟩ := h
    rw [X.frames, List.length_cons] at h2 h3
    have q1 := X.heapSize
    have q2 := X.used
    simp only [hF, hU, List.length_cons, State.stackLimits_setFrames, State.stackBytes_setFrames, hl9, hb9]
    refine ⟨⟨⟨⟨by omega, by omega, by omega, by omega, by omega, h6⟩, ?_⟩, ?_⟩, X.book⟩
    · show T.heap.size + R'.cells ≤ e.platform.maxCells
      omega
    · show T.slotsUsed + R'.slots ≤ e.platform.maxSlots
      omega
  · rw [State.stackLimits_setFrames]; rfl
  · rw [State.stackBytes_setFrames]; rfl
  · refine ⟨?_, Nat.le_refl _, Nat.le_refl _, ?_, ?_, fun a c9 h9 => ⟨c9, h9, rfl, rfl, fun _ _ => rfl⟩⟩
    · obtain ⟨t, ht, -⟩ := State.frames_cons hr
      show T.setVm s.vm = { ((T.setVm s.vm).setFrames (.invoking m args :: below)).setFrames (T.setVm s.vm).frames with heap := T.heap, slotsUsed := T.slotsUsed }
      rw [State.setFrames_setFrames, State.setFrames_self ht]
      rfl
    · show T.slotsUsed = T.slotsUsed + ((T.heap.toList.drop T.heap.size).map (·.slots.size)).sum
      rw [List.drop_eq_nil_of_le (Nat.le_of_eq Array.length_toList)]
      rfl
    · show ((T.heap.toList.drop T.heap.size).map (·.slots.size)).sum ≤ 0
      rw [List.drop_eq_nil_of_le (Nat.le_of_eq Array.length_toList)]
      exact Nat.le_refl _
/-- 'throw new E()': new; dup; invokespecial; athrow -/
theorem vx_throw0 {cc : ByteArray} {pc : Nat} (hexec : p.tables.exec = Jvm.exec) (hb : c.code = cc) (hl : l.stackTraces = false) {own cls : String} {names : List String} {ik ic mc ms : Nat} {A : Nat → Prop}
    (hown : s.vm.findClass own = some m.cls) (hcls : Bundle.fit cls = true) (hnames : ∀ n ∈ names, Bundle.fit n = true)
    (hk : (Cond.classLink own ik cls).before args s = true) (hini : (Cond.initialized cls).before args s = true) (hat : ∀ w ∈ vx_at0 own ic cls names, w.before args s = true)
    (hgood : ∀ w ∈ Cond.classLink own ik cls :: Cond.initialized cls :: vx_at0 own ic cls names, vx_ot w = true)
    (hU : vx_Zq Bundle.tN "UNASSIGNED_STACK" Bundle.steD A s s.heap) (hN : vx_Zq Bundle.tN "SUPPRESSED_SENTINEL" Bundle.listD A s s.heap) (hS : va_S A s.heap H locs) (hsize : ls.size = c.maxLocals)
    (d0 : decode cc pc = .ok (.new ik, 3)) (d3 : decode cc (pc + 3) = .ok (.dup, 1)) (d4 : decode cc (pc + 4) = .ok (.invokespecial ic, 3)) (d7 : decode cc (pc + 7) = .ok (.athrow, 1))
    (hout : ∀ x ∈ c.exceptionTable.toList, covers x (pc + 7) = false)
    (hRframes : names.length + 3 < R.frames) (hRlocals : (rest.map fun v => v.category).sum + (13 * (names.length + 1) + 42) ≤ R.locals) (hRcells : cells + 1 ≤ R.cells) (hRslots : slots + 6 ≤ R.slots) (hlocks : meth.locks = false)
    (hx : ∀ t : State, s.vm.Alike t.vm → H.size ≤ t.heap.size → (∀ q : Nat, q < H.size → t.heap[q]? = H[q]?) → XC cls s t)
    (hf : ∀ z ∈ locs, free z.base) (hc : cells + 1 ≤ mc) (hs : slots + 6 ≤ ms) :
    W p l e R s m args below meth c H locs cells slots (vx_MQ below Qc XC args s mc ms free) (F0 m pc ls rest) := by
  intro T hT X
  have htr : e.platform.stackTraces = false := (show e.platform.stackTraces = l.stackTraces by rw [X.admits.platform]).trans hl
  have Y := vx_rebase X (R' := { frames := R.frames, locals := R.locals, cells := 1, slots := 6 }) (Nat.le_refl _) (Nat.le_refl _) hRcells hRslots
  obtain ⟨s', hA⟩ : ∃ z, z = (T.setVm s.vm).setFrames (.invoking m args :: below) := ⟨_, rfl⟩
  rw [← hA] at Y
  have hvm : s'.vm = s.vm := by rw [hA]; rfl
  have hhp : s'.heap = H := by rw [hA]; exact hT
  have hW0 : s.WarmedH s'.vm := by rw [hvm]; exact State.WarmedH.refl s
  have hat' : ∀ w ∈ vx_at0 own ic cls names, w.before args s' = true := fun w hw => vx_ot_at hW0 hvm.symm (hgood w (List.mem_cons_of_mem _ (List.mem_cons_of_mem _ hw))) (hat w hw)
  have hk' : (Cond.classLink own ik cls).before args s' = true := vx_ot_at hW0 hvm.symm (hgood _ List.mem_cons_self) hk
  have hini' : (Cond.initialized cls).before args s' = true := vx_ot_at hW0 hvm.symm (hgood _ (List.mem_cons_of_mem _ List.mem_cons_self)) hini
  have hU' : vx_Zq Bundle.tN "UNASSIGNED_STACK" Bundle.steD A s' s'.heap := by rw [hhp]; exact vx_Zq.moved hW0.alike (hU.kept hS.2.1)
  have hN' : vx_Zq Bundle.tN "SUPPRESSED_SENTINEL" Bundle.listD A s' s'.heap := by rw [hhp]; exact vx_Zq.moved hW0.alike (hN.kept hS.2.1)
  have h : ∀ w ∈ Bundle.ownAtoms0 own ic cls names, w.before args s' = true := vx_own hat' (vx_isRefq hU'.1) (vx_isRefq hN'.1) hU'.2.word hN'.2.word
  have hown' : s'.vm.findClass own = some m.cls := by rw [hvm]; exact hown
  have hins : (Cond.instantiable cls 6).before args s' = true := h _ (by simp [Bundle.ownAtoms0])
  obtain ⟨vm₁, cX, kX, hfX, hkX, -, -, X₁, st1⟩ := Y.newCold hexec (own := own) (C := cls) (index := ik) (n := 6) hown' hk' hins hini'
    (g := F0 m pc ls rest) rfl (by rw [hb]; exact d0) (Nat.le_refl _) (Nat.le_refl _)
  generalize hT1 : (T.setVm vm₁).pushCell { cls := cX, slots := kX.instanceTypes.map defaultValue, vm := .none } = T1 at X₁ st1
  have hcat : (Value.ref T.heap.size).category = 1 := rfl
  have hcellA : T1.heap[T.heap.size]? = some (freshCell cX kX) := by rw [← hT1]; exact State.heap_pushCell_size _ _
  have d3' : decode c.code (pc + 3) = .ok (.dup, 1) := by rw [hb]; exact d3
  obtain ⟨U, hsteps, hrun, hend, hW, hsame, ce, hce, hO⟩ := X₁.ctorThrow0 hexec htr (own := own) (cls := cls) (names := names) (ic := ic) hown' hcls hnames h (fun x hx => nomatch hx) hfX hkX hcellA (by rw [hhp, hT]; exact Nat.le_refl _)
    (g := { method := m, pc := pc + 4, locals := ls, stack := .ref T.heap.size :: .ref T.heap.size :: rest, locked := none }) rfl hsize rfl rfl (rest := rest) rfl
    (by rw [hb]; exact d4) (by rw [hb]; exact d7) hout hRframes (by simp only [List.map_cons, List.sum_cons, hcat]; omega) hlocks
  obtain ⟨f1, f2⟩ := vx_frame hsame
  rw [hhp] at f1 f2
  have hWs : s.WarmedH U.vm := State.WarmedH.trans hW0 hW
  have hcl : s.vm.findClass cls = some ce.cls := by
    have h9 := hO.cls
    rw [hvm] at h9
    exact h9
  have hall : s.sameButNew ({ U with vm := s.vm } : State) locs mc ms := by
    subst hA
    obtain ⟨e1, e2⟩ := hsame
    rw [State.setFrames_setFrames] at e1
    have h2 : (T.setVm s.vm).sameButNew ({ U with vm := s.vm } : State) [] (0 + 1) (0 + 6) := ⟨e1, e2⟩
    have h3 := X.same.trans h2
    rw [List.append_nil] at h3
    exact h3.mono hc hs
  refine ⟨U, ?_, .threw T.heap.size, hrun, hend, Or.inr ⟨T.heap.size, rfl, cls, ce, locs, hx U hWs.alike f1 (fun q hq => f2 q hq (fun z hz => nomatch hz)), hce, hO.vm, hcl, hWs, hall, hf⟩⟩
  refine st1 _ ?_
  show Steps p.tables e below (T1.setTop { method := m, pc := pc + 3, locals := ls, stack := .ref T.heap.size :: rest, locked := none }) _
  jvm_step X₁.here [X₁.here.top, hexec, d3', Value.category]
  exact hsteps
/-- 'throw new E("text")': new; dup; ldc; invokespecial; athrow -/
theorem vx_throwS {cc : ByteArray} {pc : Nat} (hexec : p.tables.exec = Jvm.exec) (hb : c.code = cc) (hl : l.stackTraces = false) {own cls text : String} {names : List String} {ik is ic mc ms sa : Nat} {A : Nat → Prop}
    (hown : s.vm.findClass own = some m.cls) (hcls : Bundle.fit cls = true) (hnames : ∀ n ∈ names, Bundle.fit n = true)
    (hk : (Cond.classLink own ik cls).before args s = true) (hini : (Cond.initialized cls).before args s = true) (hstr : vk_R own is text sa s) (hat : ∀ w ∈ vx_atS own ic cls names, w.before args s = true)
    (hgood : ∀ w ∈ Cond.classLink own ik cls :: Cond.initialized cls :: vx_atS own ic cls names, vx_ot w = true)
    (hU : vx_Zq Bundle.tN "UNASSIGNED_STACK" Bundle.steD A s s.heap) (hN : vx_Zq Bundle.tN "SUPPRESSED_SENTINEL" Bundle.listD A s s.heap) (hS : va_S A s.heap H locs) (hsize : ls.size = c.maxLocals)
    (d0 : decode cc pc = .ok (.new ik, 3)) (d3 : decode cc (pc + 3) = .ok (.dup, 1)) (d4 : decode cc (pc + 4) = .ok (.ldc is, 2)) (d6 : decode cc (pc + 6) = .ok (.invokespecial ic, 3)) (d9 : decode cc (pc + 9) = .ok (.athrow, 1))
    (hout : ∀ x ∈ c.exceptionTable.toList, covers x (pc + 9) = false)
    (hRframes : names.length + 3 < R.frames) (hRlocals : (rest.map fun v => v.category).sum + (13 * (names.length + 1) + 43) ≤ R.locals) (hRcells : cells + 1 ≤ R.cells) (hRslots : slots + 6 ≤ R.slots) (hlocks : meth.locks = false)
    (hx : ∀ t : State, s.vm.Alike t.vm → H.size ≤ t.heap.size → (∀ q : Nat, q < H.size → t.heap[q]? = H[q]?) → XC cls s t)
    (hf : ∀ z ∈ locs, free z.base) (hc : cells + 1 ≤ mc) (hs : slots + 6 ≤ ms) :
    W p l e R s m args below meth c H locs cells slots (vx_MQ below Qc XC args s mc ms free) (F0 m pc ls rest) := by
  intro T hT X
  have htr : e.platform.stackTraces = false := (show e.platform.stackTraces = l.stackTraces by rw [X.admits.platform]).trans hl
  have Y := vx_rebase X (R' := { frames := R.frames, locals := R.locals, cells := 1, slots := 6 }) (Nat.le_refl _) (Nat.le_refl _) hRcells hRslots
  obtain ⟨s', hA⟩ : ∃ z, z = (T.setVm s.vm).setFrames (.invoking m args :: below) := ⟨_, rfl⟩
  rw [← hA] at Y
  have hvm : s'.vm = s.vm := by rw [hA]; rfl
  have hhp : s'.heap = H := by rw [hA]; exact hT
  have hW0 : s.WarmedH s'.vm := by rw [hvm]; exact State.WarmedH.refl s
  have hat' : ∀ w ∈ vx_atS own ic cls names, w.before args s' = true := fun w hw => vx_ot_at hW0 hvm.symm (hgood w (List.mem_cons_of_mem _ (List.mem_cons_of_mem _ hw))) (hat w hw)
  have hk' : (Cond.classLink own ik cls).before args s' = true := vx_ot_at hW0 hvm.symm (hgood _ List.mem_cons_self) hk
  have hini' : (Cond.initialized cls).before args s' = true := vx_ot_at hW0 hvm.symm (hgood _ (List.mem_cons_of_mem _ List.mem_cons_self)) hini
  have hU' : vx_Zq Bundle.tN "UNASSIGNED_STACK" Bundle.steD A s' s'.heap := by rw [hhp]; exact vx_Zq.moved hW0.alike (hU.kept hS.2.1)
  have hN' : vx_Zq Bundle.tN "SUPPRESSED_SENTINEL" Bundle.listD A s' s'.heap := by rw [hhp]; exact vx_Zq.moved hW0.alike (hN.kept hS.2.1)
  have h : ∀ w ∈ Bundle.ownAtoms own ic cls names, w.before args s' = true := vx_own hat' (vx_isRefq hU'.1) (vx_isRefq hN'.1) hU'.2.word hN'.2.word
  have hown' : s'.vm.findClass own = some m.cls := by rw [hvm]; exact hown
  have hins : (Cond.instantiable cls 6).before args s' = true := h _ (by simp [Bundle.ownAtoms])
  obtain ⟨vm₁, cX, kX, hfX, hkX, -, -, X₁, st1⟩ := Y.newCold hexec (own := own) (C := cls) (index := ik) (n := 6) hown' hk' hins hini'
    (g := F0 m pc ls rest) rfl (by rw [hb]; exact d0) (Nat.le_refl _) (Nat.le_refl _)
  generalize hT1 : (T.setVm vm₁).pushCell { cls := cX, slots := kX.instanceTypes.map defaultValue, vm := .none } = T1 at X₁ st1
  have hcat : (Value.ref T.heap.size).category = 1 := rfl
  have hcellA : T1.heap[T.heap.size]? = some (freshCell cX kX) := by rw [← hT1]; exact State.heap_pushCell_size _ _
  have d3' : decode c.code (pc + 3) = .ok (.dup, 1) := by rw [hb]; exact d3
  have d4' : decode c.code (pc + 4) = .ok (.ldc is, 2) := by rw [hb]; exact d4
  have hstr' : vk_R own is text sa s' := vk_R.warm hW0 hstr
  obtain ⟨U, hsteps, hrun, hend, hW, hsame, ce, hce, hO⟩ := X₁.ctorThrowS hexec htr (own := own) (cls := cls) (names := names) (ic := ic) hown' hcls hnames h (fun x hx => nomatch hx) hfX hkX hcellA (by rw [hhp, hT]; exact Nat.le_refl _) (msg := .ref sa) rfl
    (g := { method := m, pc := pc + 6, locals := ls, stack := .ref sa :: .ref T.heap.size :: .ref T.heap.size :: rest, locked := none }) rfl hsize rfl rfl (rest := rest) rfl
    (by rw [hb]; exact d6) (by rw [hb]; exact d9) hout hRframes (by simp only [List.map_cons, List.sum_cons, hcat]; omega) hlocks
  obtain ⟨f1, f2⟩ := vx_frame hsame
  rw [hhp] at f1 f2
  have hWs : s.WarmedH U.vm := State.WarmedH.trans hW0 hW
  have hcl : s.vm.findClass cls = some ce.cls := by
    have h9 := hO.cls
    rw [hvm] at h9
    exact h9
  have hall : s.sameButNew ({ U with vm := s.vm } : State) locs mc ms := by
    subst hA
    obtain ⟨e1, e2⟩ := hsame
    rw [State.setFrames_setFrames] at e1
    have h2 : (T.setVm s.vm).sameButNew ({ U with vm := s.vm } : State) [] (0 + 1) (0 + 6) := ⟨e1, e2⟩
    have h3 := X.same.trans h2
    rw [List.append_nil] at h3
    exact h3.mono hc hs
  refine ⟨U, ?_, .threw T.heap.size, hrun, hend, Or.inr ⟨T.heap.size, rfl, cls, ce, locs, hx U hWs.alike f1 (fun q hq => f2 q hq (fun z hz => nomatch hz)), hce, hO.vm, hcl, hWs, hall, hf⟩⟩
  refine st1 _ ?_
  show Steps p.tables e below (T1.setTop { method := m, pc := pc + 3, locals := ls, stack := .ref T.heap.size :: rest, locked := none }) _
  jvm_step X₁.here [X₁.here.top, hexec, d3', Value.category]
  exact X₁.ldcString hexec (own := own) (text := text) (index := is) (a := sa) hown' hstr'.1 hstr'.2
    (g := { method := m, pc := pc + 4, locals := ls, stack := .ref T.heap.size :: .ref T.heap.size :: rest, locked := none }) rfl d4' _ hsteps
/-- 'throw new E("text")', the text by a wide index -/
theorem vx_throwSW {cc : ByteArray} {pc : Nat} (hexec : p.tables.exec = Jvm.exec) (hb : c.code = cc) (hl : l.stackTraces = false) {own cls text : String} {names : List String} {ik is ic mc ms sa : Nat} {A : Nat → Prop}
    (hown : s.vm.findClass own = some m.cls) (hcls : Bundle.fit cls = true) (hnames : ∀ n ∈ names, Bundle.fit n = true)
    (hk : (Cond.classLink own ik cls).before args s = true) (hini : (Cond.initialized cls).before args s = true) (hstr : vk_R own is text sa s) (hat : ∀ w ∈ vx_atS own ic cls names, w.before args s = true)
    (hgood : ∀ w ∈ Cond.classLink own ik cls :: Cond.initialized cls :: vx_atS own ic cls names, vx_ot w = true)
    (hU : vx_Zq Bundle.tN "UNASSIGNED_STACK" Bundle.steD A s s.heap) (hN : vx_Zq Bundle.tN "SUPPRESSED_SENTINEL" Bundle.listD A s s.heap) (hS : va_S A s.heap H locs) (hsize : ls.size = c.maxLocals)
    (d0 : decode cc pc = .ok (.new ik, 3)) (d3 : decode cc (pc + 3) = .ok (.dup, 1)) (d4 : decode cc (pc + 4) = .ok (.ldc_w is, 3)) (d7 : decode cc (pc + 7) = .ok (.invokespecial ic, 3)) (d10 : decode cc (pc + 10) = .ok (.athrow, 1))
    (hout : ∀ x ∈ c.exceptionTable.toList, covers x (pc + 10) = false)
    (hRframes : names.length + 3 < R.frames) (hRlocals : (rest.map fun v => v.category).sum + (13 * (names.length + 1) + 43) ≤ R.locals) (hRcells : cells + 1 ≤ R.cells) (hRslots : slots + 6 ≤ R.slots) (hlocks : meth.locks = false)
    (hx : ∀ t : State, s.vm.Alike t.vm → H.size ≤ t.heap.size → (∀ q : Nat, q < H.size → t.heap[q]? = H[q]?) → XC cls s t)
    (hf : ∀ z ∈ locs, free z.base) (hc : cells + 1 ≤ mc) (hs : slots + 6 ≤ ms) :
    W p l e R s m args below meth c H locs cells slots (vx_MQ below Qc XC args s mc ms free) (F0 m pc ls rest) := by
  intro T hT X
  have htr : e.platform.stackTraces = false := (show e.platform.stackTraces = l.stackTraces by rw [X.admits.platform]).trans hl
  have Y := vx_rebase X (R' := { frames := R.frames, locals := R.locals, cells := 1, slots := 6 }) (Nat.le_refl _) (Nat.le_refl _) hRcells hRslots
  obtain ⟨s', hA⟩ : ∃ z, z = (T.setVm s.vm).setFrames (.invoking m args :: below) := ⟨_, rfl⟩
  rw [← hA] at Y
  have hvm : s'.vm = s.vm := by rw [hA]; rfl
  have hhp : s'.heap = H := by rw [hA]; exact hT
  have hW0 : s.WarmedH s'.vm := by rw [hvm]; exact State.WarmedH.refl s
  have hat' : ∀ w ∈ vx_atS own ic cls names, w.before args s' = true := fun w hw => vx_ot_at hW0 hvm.symm (hgood w (List.mem_cons_of_mem _ (List.mem_cons_of_mem _ hw))) (hat w hw)
  have hk' : (Cond.classLink own ik cls).before args s' = true := vx_ot_at hW0 hvm.symm (hgood _ List.mem_cons_self) hk
  have hini' : (Cond.initialized cls).before args s' = true := vx_ot_at hW0 hvm.symm (hgood _ (List.mem_cons_of_mem _ List.mem_cons_self)) hini
  have hU' : vx_Zq Bundle.tN "UNASSIGNED_STACK" Bundle.steD A s' s'.heap := by rw [hhp]; exact vx_Zq.moved hW0.alike (hU.kept hS.2.1)
  have hN' : vx_Zq Bundle.tN "SUPPRESSED_SENTINEL" Bundle.listD A s' s'.heap := by rw [hhp]; exact vx_Zq.moved hW0.alike (hN.kept hS.2.1)
  have h : ∀ w ∈ Bundle.ownAtoms own ic cls names, w.before args s' = true := vx_own hat' (vx_isRefq hU'.1) (vx_isRefq hN'.1) hU'.2.word hN'.2.word
  have hown' : s'.vm.findClass own = some m.cls := by rw [hvm]; exact hown
  have hins : (Cond.instantiable cls 6).before args s' = true := h _ (by simp [Bundle.ownAtoms])
  obtain ⟨vm₁, cX, kX, hfX, hkX, -, -, X₁, st1⟩ := Y.newCold hexec (own := own) (C := cls) (index := ik) (n := 6) hown' hk' hins hini'
    (g := F0 m pc ls rest) rfl (by rw [hb]; exact d0) (Nat.le_refl _) (Nat.le_refl _)
  generalize hT1 : (T.setVm vm₁).pushCell { cls := cX, slots := kX.instanceTypes.map defaultValue, vm := .none } = T1 at X₁ st1
  have hcat : (Value.ref T.heap.size).category = 1 := rfl
  have hcellA : T1.heap[T.heap.size]? = some (freshCell cX kX) := by rw [← hT1]; exact State.heap_pushCell_size _ _
  have d3' : decode c.code (pc + 3) = .ok (.dup, 1) := by rw [hb]; exact d3
  have d4' : decode c.code (pc + 4) = .ok (.ldc_w is, 3) := by rw [hb]; exact d4
  have hstr' : vk_R own is text sa s' := vk_R.warm hW0 hstr
  obtain ⟨U, hsteps, hrun, hend, hW, hsame, ce, hce, hO⟩ := X₁.ctorThrowS hexec htr (own := own) (cls := cls) (names := names) (ic := ic) hown' hcls hnames h (fun x hx => nomatch hx) hfX hkX hcellA (by rw [hhp, hT]; exact Nat.le_refl _) (msg := .ref sa) rfl
    (g := { method := m, pc := pc + 7, locals := ls, stack := .ref sa :: .ref T.heap.size :: .ref T.heap.size :: rest, locked := none }) rfl hsize rfl rfl (rest := rest) rfl
    (by rw [hb]; exact d7) (by rw [hb]; exact d10) hout hRframes (by simp only [List.map_cons, List.sum_cons, hcat]; omega) hlocks
  obtain ⟨f1, f2⟩ := vx_frame hsame
  rw [hhp] at f1 f2
  have hWs : s.WarmedH U.vm := State.WarmedH.trans hW0 hW
  have hcl : s.vm.findClass cls = some ce.cls := by
    have h9 := hO.cls
    rw [hvm] at h9
    exact h9
  have hall : s.sameButNew ({ U with vm := s.vm } : State) locs mc ms := by
    subst hA
    obtain ⟨e1, e2⟩ := hsame
    rw [State.setFrames_setFrames] at e1
    have h2 : (T.setVm s.vm).sameButNew ({ U with vm := s.vm } : State) [] (0 + 1) (0 + 6) := ⟨e1, e2⟩
    have h3 := X.same.trans h2
    rw [List.append_nil] at h3
    exact h3.mono hc hs
  refine ⟨U, ?_, .threw T.heap.size, hrun, hend, Or.inr ⟨T.heap.size, rfl, cls, ce, locs, hx U hWs.alike f1 (fun q hq => f2 q hq (fun z hz => nomatch hz)), hce, hO.vm, hcl, hWs, hall, hf⟩⟩
  refine st1 _ ?_
  show Steps p.tables e below (T1.setTop { method := m, pc := pc + 3, locals := ls, stack := .ref T.heap.size :: rest, locked := none }) _
  jvm_step X₁.here [X₁.here.top, hexec, d3', Value.category]
  exact X₁.ldcStringW hexec (own := own) (text := text) (index := is) (a := sa) hown' hstr'.1 hstr'.2
    (g := { method := m, pc := pc + 4, locals := ls, stack := .ref T.heap.size :: .ref T.heap.size :: rest, locked := none }) rfl d4' _ hsteps
end Ends
section Bodies
variable {l : Launch}
theorem vx_ofW {y : MethodName} {ws ws' : List Cond} {rm : Room} {Pc : Array Value → State → Prop} {Qc : Array Value → State → Outcome → State → Prop} {XC : String → State → State → Prop} {mc ms : Nat} {free : Addr → Prop} {cc : ByteArray} {maxL : Nat} {ret : Option FieldType}
    (hy : plainName y.cls = true) (hw : ws = Cond.code y cc maxL ret :: ws')
    (body : ∀ p e s m args below meth c s₁, BodyLoose p l y (headSpec ws rm) cc maxL ret e s m args below meth c s₁ → c.maxLocals = maxL → (∀ x ∈ c.exceptionTable.toList, False) → Pc args s →
      W p l e (headSpec ws rm).room s m args below meth c s.heap [] 0 0 (vx_MQ below Qc XC args s mc ms free) (entryFrame m args maxL)) : vx_Met l y ws rm Pc Qc XC mc ms free := by
  refine MetFree.of_bodyS (code := cc) (maxLocals := maxL) (ret := ret) hy ?_ ?_
  · intro args s m h hn
    obtain ⟨meth, c, h1, h2, h3, h4, h5, h6, -, -⟩ := Cond.code_spec hn (atoms_spec (ws := ws) h _ (by rw [hw]; exact List.mem_cons_self))
    exact ⟨meth, c, h1, h2, h3, h4, h5, h6⟩
  · intro p e s m args below meth c s₁ B hml hP _
    have hh0 : s₁.heap = s.heap := by rw [B.state]; rfl
    have ht : ∀ x ∈ c.exceptionTable.toList, False := by
      obtain ⟨meth9, c9, h1, h2, -, -, -, -, h7, -⟩ := Cond.code_spec B.named (atoms_spec (ws := ws) B.pre _ (by rw [hw]; exact List.mem_cons_self))
      cases Option.some.inj (h1.symm.trans B.method)
      cases Option.some.inj (h2.symm.trans (Stand.of_body B).code)
      intro x hx
      rw [Array.isEmpty_iff.mp h7] at hx
      cases hx
    obtain ⟨t, a1, o, b1, b2, b3⟩ := body p e s m args below meth c s₁ B hml ht hP s₁ hh0 (Stand.of_body B)
    exact ⟨t, o, a1, b1, b2, b3⟩
/-- the table of a body with handlers -/
theorem vx_table {p : Program} {x y : MethodName} {S : Spec} {cc bytes : ByteArray} {maxL maxL' : Nat} {ret ret' : Option FieldType} {e : Env} {s s₁ : State} {m : MethodId} {args : Array Value} {below : List Frame} {meth : Method} {c : Code} {hh : List (Nat × Nat × Nat × Nat)}
    (B : BodyLoose p l y S cc maxL ret e s m args below meth c s₁) (h : (Cond.codeWith y bytes maxL' ret' hh).before args s = true) : c.exceptionTable.toList = tableOf hh := by
  obtain ⟨m9, meth9, c9, hn9, h1, h2, -, -, h6, -⟩ := Cond.codeWith_spec h
  cases Option.some.inj (hn9.symm.trans B.named)
  cases Option.some.inj (h1.symm.trans B.method)
  cases Option.some.inj (h2.symm.trans (Stand.of_body B).code)
  rw [← h6, table_eq]
end Bodies
end VXA
/-! ===== END ===== -/
/-! ===== BEGIN a static call of a method with an exception table ===== -/
section VXS
variable {p : Program} {l : Launch} {e : Env} {R : Room} {s : State} {m : MethodId} {args : Array Value} {below : List Frame} {meth : Method} {c : Code} {T : State} {H : Heap} {locs : List Loc} {cells slots : Nat}
abbrev vx_CSW (R : Room) (s : State) (args : Array Value) (own : String) (index : Nat) (y : MethodName) (bytes : ByteArray) (maxL : Nat) (ret : Option FieldType) (hh : List (Nat × Nat × Nat × Nat)) (ws : List Cond) (rm : Room) (mc ms n : Nat) : Prop :=
  (rm.cells = mc ∧ rm.slots = ms ∧ rm.frames + 1 ≤ R.frames ∧ 8 + (maxL + 11) + rm.locals ≤ R.locals ∧ (∀ w ∈ ws, ∀ (a' : Array Value) (U : State), s.WarmedH U.vm → w.before a' U = true) ∧ Cond.codeWith y bytes maxL ret hh ∈ ws) ∧
  (Cond.codeWith y bytes maxL ret hh).before args s = true ∧ (Cond.initialized y.cls).before args s = true ∧ (y.cls ≠ "java/lang/invoke/MethodHandle" ∧ y.cls ≠ "java/lang/invoke/VarHandle") ∧
  (∀ sig, parseMethodDescriptor y.desc = some sig → n = sig.parameters.length) ∧ (Cond.methodLink own index y).before args s = true ∧ (Cond.static y).before args s = true
theorem vx_cwSW {own : String} {index maxL mc ms : Nat} {y : MethodName} {bytes : ByteArray} {ret : Option FieldType} {hh : List (Nat × Nat × Nat × Nat)} {Ts ws ws' : List Cond} {rm : Room} (n : Nat) (ht : ∀ w ∈ Ts, w.before args s = true) (hT : GoodIn Ts (va_wsS own index y ws)) (hw : ws = Cond.codeWith y bytes maxL ret hh :: ws') (hrc : rm.cells = mc) (hrs : rm.slots = ms)
    (hd : y.cls ≠ "java/lang/invoke/MethodHandle" ∧ y.cls ≠ "java/lang/invoke/VarHandle" ∧ (parseMethodDescriptor y.desc).map (fun d => d.parameters.length) = some n) (hR : rm.frames + 1 ≤ R.frames ∧ 8 + (maxL + 11) + rm.locals ≤ R.locals) :
    vx_CSW R s args own index y bytes maxL ret hh ws rm mc ms n := by
  have ok : ∀ w ∈ va_wsS own index y ws, w.before args s = true := fun w h => ht w (hT w h).1
  have hG : GoodIn Ts ws := fun w h => hT w (by unfold va_wsS; exact List.mem_append_right _ h)
  have hc : Cond.codeWith y bytes maxL ret hh ∈ ws := by rw [hw]; exact List.mem_cons_self
  refine ⟨⟨hrc, hrs, hR.1, hR.2, pay_in ht hG, hc⟩, ht _ (hG _ hc).1, ok _ (by simp [va_wsS]), ⟨hd.1, hd.2.1⟩, fun sig h => ?_, ok _ (by simp [va_wsS]), ok _ (by simp [va_wsS])⟩
  have h2 := hd.2.2
  rw [h] at h2
  exact (Option.some.inj h2).symm
theorem vx_callSW (X : Stand p l e R s m args below meth c T locs cells slots) (hexec : p.tables.exec = Jvm.exec) {own : String} {index : Nat} {y : MethodName} {bytes : ByteArray} {maxL : Nat} {ret : Option FieldType} {hh : List (Nat × Nat × Nat × Nat)}
    (hown : s.vm.findClass own = some m.cls) (hlink : (Cond.methodLink own index y).before args s = true) (hstat : (Cond.static y).before args s = true) (hinit : (Cond.initialized y.cls).before args s = true)
    (hcode : (Cond.codeWith y bytes maxL ret hh).before args s = true) (hy : y.cls ≠ "java/lang/invoke/MethodHandle" ∧ y.cls ≠ "java/lang/invoke/VarHandle")
    {W9 : Nat} {Pre : Pt → Array Value → Prop} {Post : Pt → Array Value → Option Value → Pt → Prop} (hK : Back l R p e below s args y 3 W9 Pre Post)
    {g : JFrame} (hg : g.method = m) (hsize : g.locals.size = c.maxLocals) {argsL rest : List Value} (hlen : ∀ sig, parseMethodDescriptor y.desc = some sig → argsL.length = sig.parameters.length)
    (hstack : g.stack = argsL.reverse ++ rest) (hW : 2 * g.monitorRoom + (rest.map fun v => v.category).sum ≤ W9) (hdg : decode c.code g.pc = .ok (.invokestatic index, 3))
    (hpre : ∀ vm₁, s.WarmedH vm₁ → Pre ⟨T.setVm vm₁, locs, cells, slots⟩ argsL.toArray) :
    ∃ (v : Option Value) (vm₁ : Vm) (B : Pt), s.WarmedH vm₁ ∧ Stand p l e R s m args below meth c B.U B.locs B.cells B.slots ∧ Post ⟨T.setVm vm₁, locs, cells, slots⟩ argsL.toArray v B ∧
      ∀ target, Steps p.tables e below (B.U.setTop { g with pc := g.pc + 3, stack := v.toList ++ rest }) target → Steps p.tables e below (T.setTop g) target := by
  obtain ⟨mk, methM, cM, hnamed, hmethM, -, -, -, -, -, -, hsigM⟩ := Cond.codeWith_spec hcode
  have hstatic : methM.isStatic = true := Cond.static_spec hnamed hmethM hstat
  obtain ⟨kP, hkP, -⟩ := className_of_methodNamed hnamed
  have hinitP : kP.init = .initialized := Cond.initialized_spec (findClass_of_methodNamed hnamed) hkP hinit
  obtain ⟨vm₁, X₁, hstep₁⟩ := X.invokestatic hexec hown hlink hnamed hmethM hstatic hkP hinitP hy (g := g) hg (argsL := argsL) (rest := rest) (hlen _ hsigM) hstack hdg
  obtain ⟨v, B, X', hpost, hsteps⟩ := hK m meth c ⟨T.setVm vm₁, locs, cells, slots⟩ { g with stack := rest } (.invokestatic index) mk argsL.toArray X₁ hg hsize hdg hW (X₁.named hnamed) (hpre vm₁ X₁.warmed)
  exact ⟨v, vm₁, B, X₁.warmed, X', hpost, fun target h => hstep₁ _ fun acts => by rw [doInvoke_state]; exact hsteps.trans h⟩
theorem vx_runSW {y : MethodName} {bytes cc : ByteArray} {maxL nL mc ms n index : Nat} {ret : Option FieldType} {hh : List (Nat × Nat × Nat × Nat)} {ws : List Cond} {rm : Room} {Pc : Array Value → State → Prop} {Qc : Array Value → State → Outcome → State → Prop} {free : Addr → Prop} {Ts : List Cond} {own : String} {As rest : List Value} {g : JFrame}
    (S : CallFix p m c cc nL s args Ts own) (hM : Met l y ws rm Pc Qc mc ms free) (cw : vx_CSW R s args own index y bytes maxL ret hh ws rm mc ms n) (hp : PreS s H Pc As)
    (hg : g.method = m) (hn : As.length = n) (hsize : g.locals.size = nL) (hstack : g.stack = As.reverse ++ rest) (hW : 2 * g.monitorRoom + (rest.map fun v => v.category).sum ≤ 8) (hdg : decode cc g.pc = .ok (.invokestatic index, 3)) (hf : cells + mc ≤ R.cells ∧ slots + ms ≤ R.slots) :
    va_Run p l e R s m args below meth c H locs cells slots mc ms g rest (Qc As.toArray) (free) := by
  obtain ⟨⟨hrc, hrs, hfr, hlo, hws, hcw⟩, hcode, hini, hy, hlen, hl, hstt⟩ := cw
  have hK : Back l R p e below s args y 3 8 (PreOf R mc ms Pc) (PostOf Qc mc ms free) := va_backW (hh := hh) (bytes := bytes) (maxL := maxL) (ret := ret) hM hp.1 hrc hrs hfr hlo hws hcw (fun a' U hW => word_at hW (Or.inl (by first | rfl | simp [Cond.onTables, Cond.keeps, Cond.steady])) hini)
  obtain ⟨hx, hb, hml, ho, -⟩ := S
  intro T hT X
  obtain ⟨v, vm₁, ⟨U', l2, c2, s2⟩, hW₁, X', ⟨g', mk, t, L, e1, e2, hq, h1, hL, h2, h3⟩, st⟩ := vx_callSW X hx (hh := hh) (bytes := bytes) (maxL := maxL) (ret := ret) ho hl hstt hini hcode hy hK hg (hsize.trans hml.symm) (argsL := As) (rest := rest) (fun sig h => hn.trans (hlen sig h)) hstack hW (by rw [hb]; exact hdg)
    (fun vm₁ hW₁ => ⟨hf.1, hf.2, hp.2 (T.setVm vm₁) hT hW₁⟩)
  dsimp only [Pt.U, Pt.locs, Pt.cells, Pt.slots] at X' e1 e2 h1 h2 h3 st
  subst h1; subst h2; subst h3
  exact ⟨v, (T.setVm vm₁).calling g' mk As.toArray, t, U', L, hT, X', hL, e1, e2, hq, st⟩
/-- not caught here, past rows that name other classes: it goes on to the caller -/
theorem vx_outP {p : Program} {l : Launch} {e : Env} {R : Room} {s : State} {m : MethodId} {args : Array Value} {below : List Frame} {meth : Method} {c : Code} {H : Heap} {locs : List Loc} {cells slots : Nat} {free : Addr → Prop} {ls : Array Slot} {rest : List Value} {Qc : Array Value → State → Outcome → State → Prop} {XC : String → State → State → Prop}
    {pc : Nat} {own E : String} {ce : Cell} {q : Addr} {mc ms : Nat} (hown : s.vm.findClass own = some m.cls) (hlocks : meth.locks = false)
    (hpass : ∀ z ∈ c.exceptionTable.toList, covers z pc = false ∨ (z.catchType ≠ 0 ∧ ∃ nm : String, (Cond.classLink own z.catchType nm).before args s = true ∧ va_Nc E nm s)) (hcell : H[q]? = some ce) (hv : ce.vm = .none) (hcl : s.vm.findClass E = some ce.cls)
    (hx : ∀ t : State, t.heap = H → s.vm.Alike t.vm → XC E s t) (hf : ∀ z ∈ locs, free z.base) (hc : cells ≤ mc) (hs : slots ≤ ms) :
    vx_W p l e R s m args below meth c H locs cells slots (vx_MQ below Qc XC args s mc ms free) (F0 m pc ls rest) q := by
  intro T hT X
  have hpl : e.platform.magicAccessors = ({} : Platform).magicAccessors := by rw [X.admits.platform]
  obtain ⟨vm', hW', X', st⟩ := X.outThrough hlocks q (g := F0 m pc ls rest) rfl rfl rfl (cell := ce) (by rw [hT]; exact hcell) (by rw [hv]; rfl)
    (by obtain ⟨k9, h9, -⟩ := Vm.findClass_spec hcl; exact ⟨k9, h9⟩) (fun z hz => by
      rcases hpass z hz with h | ⟨hz0, nm, hl1, hn1⟩
      · exact Or.inl h
      · obtain ⟨c6, hc6, hcl6⟩ := Cond.classLink_spec hown hl1 e.platform hpl
        obtain ⟨a8, b8, h1, h2, h3⟩ := hn1
        cases Option.some.inj (h1.symm.trans hcl)
        cases Option.some.inj (h2.symm.trans hc6)
        exact Or.inr ⟨hz0, _, hcl6, h3⟩)
  obtain ⟨g₀, hfr⟩ := X'.frames_eq
  have hcell9 : ((T.setVm vm').setFrames (.throwing q :: below)).heap[q]? = some ce := by
    show T.heap[q]? = some ce
    rw [hT]; exact hcell
  have hend : Ended ((T.setVm vm').setFrames (.throwing q :: below)) below (.threw q) := State.frames_setFrames _ (State.cur_lt_of_frames hfr)
  refine ⟨(T.setVm vm').setFrames (.throwing q :: below), ?_, .threw q, X'.here.running, hend, Or.inr ⟨q, rfl, E, ce, locs, hx _ hT (X'.ends _).1.alike, hcell9, hv, hcl, (X'.ends _).1, (X'.ends _).2.mono hc hs, hf⟩⟩
  rw [X.pushThrowing_eq]
  exact st
/-- a thing of a world lies in the heap -/
theorem vx_lt {D : va_G} {cl : List vw_C} {ws : va_W} {H1 : Heap} (h : va_P D cl ws H1) {k : Nat} {q : Nat × va_E} (hk : ws[k]? = some q) : q.1 < H1.size := (h k q hk).lt
end VXS
/-! ===== END ===== -/
/-! ===== BEGIN methods with a table of their own: called by a name, returning or throwing ===== -/
section VXH
/-! vx_backW, vx_callVX, vx_callSX, vx_callVW, vx_runVW, vx_runVX, vx_runSX, vx_ofWH follow the same proofs as their sisters above (Free/Laws.lean, Shelf42/LK1.lean); vx_outP calls Shelf42/NT130.lean (outThrough). -/
section
variable {l : Launch} {R : Room} {p : Program} {e : Env} {below : List Frame} {s : State} {sargs : Array Value} {y : MethodName} {len W9 : Nat}
theorem vx_backW {ws : List Cond} {rm : Room} {Pc : Array Value → State → Prop} {Qc : Array Value → State → Outcome → State → Prop} {XC : String → State → State → Prop} {mc ms : Nat} {free : Addr → Prop} {bytes : ByteArray} {maxL : Nat} {ret : Option FieldType} {hh : List (Nat × Nat × Nat × Nat)}
    (hM : vx_Met l y ws rm Pc Qc XC mc ms free) (hblind : FrameBlind Pc) (hrc : rm.cells = mc) (hrs : rm.slots = ms)
    (hframes : rm.frames + 1 ≤ R.frames) (hlocals : W9 + (maxL + 11) + rm.locals ≤ R.locals)
    (hws : ∀ w ∈ ws, ∀ a' U, s.WarmedH U.vm → w.before a' U = true) (hcode : Cond.codeWith y bytes maxL ret hh ∈ ws) (hinit : ∀ a' U, s.WarmedH U.vm → (Cond.initialized y.cls).before a' U = true) :
    vx_Back l R p e below s sargs y len W9 (PreOf R mc ms Pc) (PostOf Qc mc ms free) (vx_Post XC mc ms free) := by
  intro m meth c A g ig mk a X hg hsize hdg hW hn hp
  have h1 : (headSpec ws rm).pre.before a A.U = true := atoms_intro fun w hw => hws w hw _ _ X.warmed
  have h2 : (Cond.codeWith y bytes maxL ret hh).before a A.U = true := hws _ hcode _ _ X.warmed
  have h3 : (Cond.initialized y.cls).before a A.U = true := hinit _ _ X.warmed
  have h4 : A.cells + (headSpec ws rm).room.cells ≤ R.cells := by rw [show (headSpec ws rm).room.cells = mc from hrc]; exact hp.1
  have h5 : A.slots + (headSpec ws rm).room.slots ≤ R.slots := by rw [show (headSpec ws rm).room.slots = ms from hrs]; exact hp.2.1
  have hPc : Pc a (A.U.calling g mk a) := hblind _ _ _ _ hp.2.2
  obtain ⟨U, Ls, c0, s0⟩ := A
  dsimp only [Pt.U, Pt.locs, Pt.cells, Pt.slots] at h1 h2 h3 h4 h5 X hn hPc ⊢
  obtain ⟨m9, methY, cY, hn9, hmY, hcY, -, hlY, -⟩ := Cond.codeWith_spec h2
  cases Option.some.inj (hn9.symm.trans hn)
  obtain ⟨kY, hkY, -⟩ := className_of_methodNamed hn
  have hinitY : kY.init = .initialized := Cond.initialized_spec (findClass_of_methodNamed hn) hkY h3
  have h : At U g.method c below := by rw [hg]; exact X.here
  have hlocals9 : W9 + (maxL + 11) + (headSpec ws rm).room.locals ≤ R.locals := hlocals
  have happ : (headSpec ws rm).appliesLoose y e.platform (U.calling g mk a) = true :=
    Spec.appliesLoose_calling (g := g) h hdg hn hkY hinitY
      (X.room_calling (g := g) (R' := (headSpec ws rm).room) hsize hmY hcY hframes (by rw [hlY]; omega) h4 h5) h1
  obtain ⟨mid, hmid⟩ := h.above
  have hfr : (U.setTop g).frames = (.java g :: mid) ++ below := by rw [State.frames_setTop' g h.top, hmid]; rfl
  obtain ⟨o, s₂, hsteps, -, hend, hq⟩ := Steps.callFree hM p X.admits X.cas X.clock (acts := []) hfr happ hPc trivial
  have hq' : vx_Q Qc XC mc ms free a (U.calling g mk a) o s₂ := hq
  rw [State.frames_setTop' g h.top] at hend
  obtain ⟨g₀, hg0⟩ := Option.isSome_iff_exists.mp h.top
  obtain ⟨r, hr⟩ := State.topJava?_eq_some.mp hg0
  have hr' : (({ U with heap := s₂.heap, slotsUsed := s₂.slotsUsed } : State).setVm s₂.vm).frames = .java g₀ :: r := hr
  rcases hq' with ⟨hqc, L, hfe, hL⟩ | ⟨q, rfl, E, ce, L, hx, hce, hcv, hcl, hW₂, hsm, hL⟩
  · obtain ⟨⟨v, rfl⟩, hW₂, e2, q2, q3, q4, q5, q6⟩ := id hfe
    have e3 : s₂ = ({ (U.calling g mk a).setFrames s₂.frames with heap := s₂.heap, slotsUsed := s₂.slotsUsed } : State).setVm s₂.vm := by
      have : s₂ = ({ s₂ with vm := (U.calling g mk a).vm } : State).setVm s₂.vm := rfl
      rw [e2] at this
      exact this
    obtain ⟨c₂, i₂, len₂, hc₂, hd₂, hf₂⟩ := hend
    have hW' : U.WarmedH s₂.vm := hW₂
    have hcc : c₂ = c := by
      have h1 : s₂.code? g.method = U.code? g.method := by
        rw [State.code?_eq, State.code?_eq, hW'.alike.method?]
      exact Option.some.inj (hc₂.symm.trans (h1.trans h.code))
    subst hcc
    have hlen : len₂ = len := by rw [hdg] at hd₂; cases hd₂; rfl
    subst hlen
    have hs₂ : s₂ = (({ U with heap := s₂.heap, slotsUsed := s₂.slotsUsed } : State).setVm s₂.vm).setTop { g with pc := g.pc + len₂, stack := v.toList ++ g.stack } := by
      refine e3.trans ?_
      rw [hf₂, State.calling_eq h.top, State.setFrames_setFrames, State.setTop_of_frames _ hr', hr]
      rfl
    have hsame : U.sameButNew ({ U with heap := s₂.heap, slotsUsed := s₂.slotsUsed } : State) L mc ms := by
      refine ⟨?_, q2, q3, q4, q5, q6⟩
      obtain ⟨t, ht, -⟩ := State.frames_cons hr
      show ({ U with heap := s₂.heap, slotsUsed := s₂.slotsUsed } : State) = { U.setFrames U.frames with heap := s₂.heap, slotsUsed := s₂.slotsUsed }
      rw [State.setFrames_self ht]
    subst hg
    refine Or.inl ⟨v, ⟨(({ U with heap := s₂.heap, slotsUsed := s₂.slotsUsed } : State).setVm s₂.vm), Ls ++ L, c0 + mc, s0 + ms⟩,
      ⟨X.admits, X.cas, X.clock, X.frames, X.room, X.hears, X.method, X.code, (X.here.setHeapUsed s₂.heap s₂.slotsUsed).setVm hW'.alike, X.tail, State.WarmedH.trans X.warmed hW', X.limits, X.bytes, X.same.trans (hsame.setVm s.vm)⟩,
      ⟨g, mk, s₂, L, rfl, rfl, hqc, rfl, hL, rfl, rfl⟩, ?_⟩
    show Steps p.tables e below _ ((({ U with heap := s₂.heap, slotsUsed := s₂.slotsUsed } : State).setVm s₂.vm).setTop { g with pc := g.pc + len₂, stack := v.toList ++ g.stack })
    rw [← hs₂]
    exact hsteps
  · obtain ⟨e2, q2, q3, q4, q5, q6⟩ := id hsm
    have e3 : s₂ = ({ (U.calling g mk a).setFrames s₂.frames with heap := s₂.heap, slotsUsed := s₂.slotsUsed } : State).setVm s₂.vm := by
      have : s₂ = ({ s₂ with vm := (U.calling g mk a).vm } : State).setVm s₂.vm := rfl
      rw [e2] at this
      exact this
    have hf₂ : s₂.frames = .throwing q :: .java g :: U.frames.tail := hend
    have hW' : U.WarmedH s₂.vm := hW₂
    have hs₂ : s₂ = ((({ U with heap := s₂.heap, slotsUsed := s₂.slotsUsed } : State).setVm s₂.vm).setTop g).pushFrame (.throwing q) := by
      refine e3.trans ?_
      rw [hf₂, State.calling_eq h.top, State.setFrames_setFrames, State.pushFrame, State.frames_setTop _ hr', State.setTop_of_frames _ hr', State.setFrames_setFrames, hr]
      rfl
    have hsame : U.sameButNew ({ U with heap := s₂.heap, slotsUsed := s₂.slotsUsed } : State) L mc ms := by
      refine ⟨?_, q2, q3, q4, q5, q6⟩
      obtain ⟨t, ht, -⟩ := State.frames_cons hr
      show ({ U with heap := s₂.heap, slotsUsed := s₂.slotsUsed } : State) = { U.setFrames U.frames with heap := s₂.heap, slotsUsed := s₂.slotsUsed }
      rw [State.setFrames_self ht]
    subst hg
    refine Or.inr ⟨q, ⟨(({ U with heap := s₂.heap, slotsUsed := s₂.slotsUsed } : State).setVm s₂.vm), Ls ++ L, c0 + mc, s0 + ms⟩,
      ⟨X.admits, X.cas, X.clock, X.frames, X.room, X.hears, X.method, X.code, (X.here.setHeapUsed s₂.heap s₂.slotsUsed).setVm hW'.alike, X.tail, State.WarmedH.trans X.warmed hW', X.limits, X.bytes, X.same.trans (hsame.setVm s.vm)⟩,
      ⟨g, mk, s₂, L, E, ce, rfl, rfl, hx, hce, hcv, hcl, rfl, hL, rfl, rfl⟩, ?_⟩
    show Steps p.tables e below _ (((({ U with heap := s₂.heap, slotsUsed := s₂.slotsUsed } : State).setVm s₂.vm).setTop g).pushFrame (.throwing q))
    rw [← hs₂]
    exact hsteps
end
variable {p : Program} {l : Launch} {e : Env} {R : Room} {s : State} {m : MethodId} {args : Array Value} {below : List Frame} {meth : Method} {c : Code} {T : State} {H : Heap} {locs : List Loc} {cells slots : Nat}
theorem vx_callVX (X : Stand p l e R s m args below meth c T locs cells slots) (hexec : p.tables.exec = Jvm.exec) {own C : String} {index : Nat} {y : MethodName} {bytes : ByteArray} {maxL : Nat} {ret : Option FieldType} {hh : List (Nat × Nat × Nat × Nat)}
    (hown : s.vm.findClass own = some m.cls) (hlink : (Cond.methodLink own index y).before args s = true) (hinst : (Cond.instanceMethod y).before args s = true) (hsel : (Cond.selects C y y).before args s = true)
    (hcode : (Cond.codeWith y bytes maxL ret hh).before args s = true) (hy : y.cls ≠ "java/lang/invoke/MethodHandle" ∧ y.cls ≠ "java/lang/invoke/VarHandle")
    {W9 : Nat} {Pre : Pt → Array Value → Prop} {Post : Pt → Array Value → Option Value → Pt → Prop} {PostX : Pt → Array Value → Addr → Pt → Prop} (hK : vx_Back l R p e below s args y 3 W9 Pre Post PostX)
    {b : Addr} {cellB : Cell} (hcell : T.heap[b]? = some cellB) (hobj : cellB.vm.isStatics = false) (hcls : s.vm.findClass C = some cellB.cls)
    {g : JFrame} (hg : g.method = m) (hsize : g.locals.size = c.maxLocals) {argsL rest : List Value} (hlen : ∀ sig, parseMethodDescriptor y.desc = some sig → argsL.length = sig.parameters.length)
    (hstack : g.stack = argsL.reverse ++ .ref b :: rest) (hW : 2 * g.monitorRoom + (rest.map fun v => v.category).sum ≤ W9) (hdg : decode c.code g.pc = .ok (.invokevirtual index, 3))
    (hpre : ∀ vm₁, s.WarmedH vm₁ → Pre ⟨T.setVm vm₁, locs, cells, slots⟩ (Value.ref b :: argsL).toArray) :
    (∃ (v : Option Value) (vm₁ : Vm) (B : Pt), s.WarmedH vm₁ ∧ Stand p l e R s m args below meth c B.U B.locs B.cells B.slots ∧ Post ⟨T.setVm vm₁, locs, cells, slots⟩ (Value.ref b :: argsL).toArray v B ∧
      ∀ target, Steps p.tables e below (B.U.setTop { g with pc := g.pc + 3, stack := v.toList ++ rest }) target → Steps p.tables e below (T.setTop g) target) ∨
    (∃ (q : Addr) (vm₁ : Vm) (B : Pt), s.WarmedH vm₁ ∧ Stand p l e R s m args below meth c B.U B.locs B.cells B.slots ∧ PostX ⟨T.setVm vm₁, locs, cells, slots⟩ (Value.ref b :: argsL).toArray q B ∧
      Steps p.tables e below (T.setTop g) ((B.U.setTop { g with stack := rest }).pushFrame (.throwing q))) := by
  obtain ⟨mk, methM, hnamed, hmethM, hstM, habM⟩ := Cond.instanceMethod_spec hinst
  obtain ⟨m8, methM', cM, hn8, hmethM', -, -, -, -, -, -, hsigM⟩ := Cond.codeWith_spec hcode
  cases Option.some.inj (hn8.symm.trans hnamed)
  cases hmethM.symm.trans hmethM'
  obtain ⟨c2, r2, m2, q1, q2, q3, q4, kP, hkP, hkPi⟩ := Cond.selects_spec hsel
  cases hcls.symm.trans q1
  cases (State.methodFound?_of_named hnamed hy).symm.trans q2
  cases hnamed.symm.trans q3
  have hselP : selectMethod e.platform s.vm cellB.cls mk = .method mk := by rw [Launch.admits_selectMethod X.admits]; exact q4
  obtain ⟨vm₁, X₁, hstep₁⟩ := X.invokevirtual hexec hown hlink hnamed hmethM hstM hkP hkPi hy (a := b) (cell := cellB) hcell
    (fun z h => by rw [h] at hobj; cases hobj) hselP hmethM habM hkP hkPi (g := g) hg (argsL := argsL) (rest := rest) (hlen _ hsigM) hstack hdg
  rcases hK m meth c ⟨T.setVm vm₁, locs, cells, slots⟩ { g with stack := rest } (.invokevirtual index) mk (Value.ref b :: argsL).toArray X₁ hg hsize hdg hW (X₁.named hnamed) (hpre vm₁ X₁.warmed) with ⟨v, B, X', hpost, hsteps⟩ | ⟨q, B, X', hpost, hsteps⟩
  · exact Or.inl ⟨v, vm₁, B, X₁.warmed, X', hpost, fun target h => hstep₁ _ fun acts => by rw [doInvoke_state]; exact hsteps.trans h⟩
  · exact Or.inr ⟨q, vm₁, B, X₁.warmed, X', hpost, hstep₁ _ fun acts => by rw [doInvoke_state]; exact hsteps⟩
theorem vx_callSX (X : Stand p l e R s m args below meth c T locs cells slots) (hexec : p.tables.exec = Jvm.exec) {own : String} {index : Nat} {y : MethodName} {bytes : ByteArray} {maxL : Nat} {ret : Option FieldType} {hh : List (Nat × Nat × Nat × Nat)}
    (hown : s.vm.findClass own = some m.cls) (hlink : (Cond.methodLink own index y).before args s = true) (hstat : (Cond.static y).before args s = true) (hinit : (Cond.initialized y.cls).before args s = true)
    (hcode : (Cond.codeWith y bytes maxL ret hh).before args s = true) (hy : y.cls ≠ "java/lang/invoke/MethodHandle" ∧ y.cls ≠ "java/lang/invoke/VarHandle")
    {W9 : Nat} {Pre : Pt → Array Value → Prop} {Post : Pt → Array Value → Option Value → Pt → Prop} {PostX : Pt → Array Value → Addr → Pt → Prop} (hK : vx_Back l R p e below s args y 3 W9 Pre Post PostX)
    {g : JFrame} (hg : g.method = m) (hsize : g.locals.size = c.maxLocals) {argsL rest : List Value} (hlen : ∀ sig, parseMethodDescriptor y.desc = some sig → argsL.length = sig.parameters.length)
    (hstack : g.stack = argsL.reverse ++ rest) (hW : 2 * g.monitorRoom + (rest.map fun v => v.category).sum ≤ W9) (hdg : decode c.code g.pc = .ok (.invokestatic index, 3))
    (hpre : ∀ vm₁, s.WarmedH vm₁ → Pre ⟨T.setVm vm₁, locs, cells, slots⟩ argsL.toArray) :
    (∃ (v : Option Value) (vm₁ : Vm) (B : Pt), s.WarmedH vm₁ ∧ Stand p l e R s m args below meth c B.U B.locs B.cells B.slots ∧ Post ⟨T.setVm vm₁, locs, cells, slots⟩ argsL.toArray v B ∧
      ∀ target, Steps p.tables e below (B.U.setTop { g with pc := g.pc + 3, stack := v.toList ++ rest }) target → Steps p.tables e below (T.setTop g) target) ∨
    (∃ (q : Addr) (vm₁ : Vm) (B : Pt), s.WarmedH vm₁ ∧ Stand p l e R s m args below meth c B.U B.locs B.cells B.slots ∧ PostX ⟨T.setVm vm₁, locs, cells, slots⟩ argsL.toArray q B ∧
      Steps p.tables e below (T.setTop g) ((B.U.setTop { g with stack := rest }).pushFrame (.throwing q))) := by
  obtain ⟨mk, methM, cM, hnamed, hmethM, -, -, -, -, -, -, hsigM⟩ := Cond.codeWith_spec hcode
  have hstatic : methM.isStatic = true := Cond.static_spec hnamed hmethM hstat
  obtain ⟨kP, hkP, -⟩ := className_of_methodNamed hnamed
  have hinitP : kP.init = .initialized := Cond.initialized_spec (findClass_of_methodNamed hnamed) hkP hinit
  obtain ⟨vm₁, X₁, hstep₁⟩ := X.invokestatic hexec hown hlink hnamed hmethM hstatic hkP hinitP hy (g := g) hg (argsL := argsL) (rest := rest) (hlen _ hsigM) hstack hdg
  rcases hK m meth c ⟨T.setVm vm₁, locs, cells, slots⟩ { g with stack := rest } (.invokestatic index) mk argsL.toArray X₁ hg hsize hdg hW (X₁.named hnamed) (hpre vm₁ X₁.warmed) with ⟨v, B, X', hpost, hsteps⟩ | ⟨q, B, X', hpost, hsteps⟩
  · exact Or.inl ⟨v, vm₁, B, X₁.warmed, X', hpost, fun target h => hstep₁ _ fun acts => by rw [doInvoke_state]; exact hsteps.trans h⟩
  · exact Or.inr ⟨q, vm₁, B, X₁.warmed, X', hpost, hstep₁ _ fun acts => by rw [doInvoke_state]; exact hsteps⟩
theorem vx_callVW (X : Stand p l e R s m args below meth c T locs cells slots) (hexec : p.tables.exec = Jvm.exec) {own C : String} {index : Nat} {y : MethodName} {bytes : ByteArray} {maxL : Nat} {ret : Option FieldType} {hh : List (Nat × Nat × Nat × Nat)}
    (hown : s.vm.findClass own = some m.cls) (hlink : (Cond.methodLink own index y).before args s = true) (hinst : (Cond.instanceMethod y).before args s = true) (hsel : (Cond.selects C y y).before args s = true)
    (hcode : (Cond.codeWith y bytes maxL ret hh).before args s = true) (hy : y.cls ≠ "java/lang/invoke/MethodHandle" ∧ y.cls ≠ "java/lang/invoke/VarHandle")
    {W9 : Nat} {Pre : Pt → Array Value → Prop} {Post : Pt → Array Value → Option Value → Pt → Prop} (hK : Back l R p e below s args y 3 W9 Pre Post)
    {b : Addr} {cellB : Cell} (hcell : T.heap[b]? = some cellB) (hobj : cellB.vm.isStatics = false) (hcls : s.vm.findClass C = some cellB.cls)
    {g : JFrame} (hg : g.method = m) (hsize : g.locals.size = c.maxLocals) {argsL rest : List Value} (hlen : ∀ sig, parseMethodDescriptor y.desc = some sig → argsL.length = sig.parameters.length)
    (hstack : g.stack = argsL.reverse ++ .ref b :: rest) (hW : 2 * g.monitorRoom + (rest.map fun v => v.category).sum ≤ W9) (hdg : decode c.code g.pc = .ok (.invokevirtual index, 3))
    (hpre : ∀ vm₁, s.WarmedH vm₁ → Pre ⟨T.setVm vm₁, locs, cells, slots⟩ (Value.ref b :: argsL).toArray) :
    ∃ (v : Option Value) (vm₁ : Vm) (B : Pt), s.WarmedH vm₁ ∧ Stand p l e R s m args below meth c B.U B.locs B.cells B.slots ∧ Post ⟨T.setVm vm₁, locs, cells, slots⟩ (Value.ref b :: argsL).toArray v B ∧
      ∀ target, Steps p.tables e below (B.U.setTop { g with pc := g.pc + 3, stack := v.toList ++ rest }) target → Steps p.tables e below (T.setTop g) target := by
  obtain ⟨mk, methM, hnamed, hmethM, hstM, habM⟩ := Cond.instanceMethod_spec hinst
  obtain ⟨m8, methM', cM, hn8, hmethM', -, -, -, -, -, -, hsigM⟩ := Cond.codeWith_spec hcode
  cases Option.some.inj (hn8.symm.trans hnamed)
  cases hmethM.symm.trans hmethM'
  obtain ⟨c2, r2, m2, q1, q2, q3, q4, kP, hkP, hkPi⟩ := Cond.selects_spec hsel
  cases hcls.symm.trans q1
  cases (State.methodFound?_of_named hnamed hy).symm.trans q2
  cases hnamed.symm.trans q3
  have hselP : selectMethod e.platform s.vm cellB.cls mk = .method mk := by rw [Launch.admits_selectMethod X.admits]; exact q4
  obtain ⟨vm₁, X₁, hstep₁⟩ := X.invokevirtual hexec hown hlink hnamed hmethM hstM hkP hkPi hy (a := b) (cell := cellB) hcell
    (fun z h => by rw [h] at hobj; cases hobj) hselP hmethM habM hkP hkPi (g := g) hg (argsL := argsL) (rest := rest) (hlen _ hsigM) hstack hdg
  obtain ⟨v, B, X', hpost, hsteps⟩ := hK m meth c ⟨T.setVm vm₁, locs, cells, slots⟩ { g with stack := rest } (.invokevirtual index) mk (Value.ref b :: argsL).toArray X₁ hg hsize hdg hW (X₁.named hnamed) (hpre vm₁ X₁.warmed)
  exact ⟨v, vm₁, B, X₁.warmed, X', hpost, fun target h => hstep₁ _ fun acts => by rw [doInvoke_state]; exact hsteps.trans h⟩
abbrev vx_CVW (R : Room) (s : State) (args : Array Value) (own C : String) (index : Nat) (y : MethodName) (bytes : ByteArray) (maxL : Nat) (ret : Option FieldType) (hh : List (Nat × Nat × Nat × Nat)) (ws : List Cond) (rm : Room) (mc ms n : Nat) : Prop :=
  (rm.cells = mc ∧ rm.slots = ms ∧ rm.frames + 1 ≤ R.frames ∧ 8 + (maxL + 11) + rm.locals ≤ R.locals ∧ (∀ w ∈ ws, ∀ (a' : Array Value) (U : State), s.WarmedH U.vm → w.before a' U = true) ∧ Cond.codeWith y bytes maxL ret hh ∈ ws) ∧
  (Cond.codeWith y bytes maxL ret hh).before args s = true ∧ (Cond.initialized y.cls).before args s = true ∧ (y.cls ≠ "java/lang/invoke/MethodHandle" ∧ y.cls ≠ "java/lang/invoke/VarHandle") ∧
  (∀ sig, parseMethodDescriptor y.desc = some sig → n = sig.parameters.length) ∧ (Cond.methodLink own index y).before args s = true ∧ (Cond.instanceMethod y).before args s = true ∧ (Cond.selects C y y).before args s = true
theorem vx_cwVW {own C : String} {index maxL mc ms : Nat} {y : MethodName} {bytes : ByteArray} {ret : Option FieldType} {hh : List (Nat × Nat × Nat × Nat)} {Ts ws ws' : List Cond} {rm : Room} (n : Nat) (ht : ∀ w ∈ Ts, w.before args s = true) (hT : GoodIn Ts (wsV own index C y ws)) (hw : ws = Cond.codeWith y bytes maxL ret hh :: ws') (hrc : rm.cells = mc) (hrs : rm.slots = ms)
    (hd : y.cls = C ∧ y.cls ≠ "java/lang/invoke/MethodHandle" ∧ y.cls ≠ "java/lang/invoke/VarHandle" ∧ (parseMethodDescriptor y.desc).map (fun d => d.parameters.length) = some n) (hR : rm.frames + 1 ≤ R.frames ∧ 8 + (maxL + 11) + rm.locals ≤ R.locals) :
    vx_CVW R s args own C index y bytes maxL ret hh ws rm mc ms n := by
  obtain ⟨hC, hd⟩ := hd
  subst hC
  have ok : ∀ w ∈ wsV own index y.cls y ws, w.before args s = true := fun w h => ht w (hT w h).1
  have hG : GoodIn Ts ws := fun w h => hT w (by unfold wsV; exact List.mem_append_right _ h)
  have hc : Cond.codeWith y bytes maxL ret hh ∈ ws := by rw [hw]; exact List.mem_cons_self
  refine ⟨⟨hrc, hrs, hR.1, hR.2, pay_in ht hG, hc⟩, ht _ (hG _ hc).1, ok _ (by simp [wsV]), ⟨hd.1, hd.2.1⟩, fun sig h => ?_, ok _ (by simp [wsV]), ok _ (by simp [wsV]), ok _ (by simp [wsV])⟩
  have h2 := hd.2.2
  rw [h] at h2
  exact (Option.some.inj h2).symm
theorem vx_runVW {y : MethodName} {bytes cc : ByteArray} {maxL nL mc ms n index : Nat} {ret : Option FieldType} {hh : List (Nat × Nat × Nat × Nat)} {ws : List Cond} {rm : Room} {Pc : Array Value → State → Prop} {Qc : Array Value → State → Outcome → State → Prop} {free : Addr → Prop} {Ts : List Cond} {own C : String} {b : Addr} {As rest : List Value} {g : JFrame}
    (S : CallFix p m c cc nL s args Ts own) (hM : Met l y ws rm Pc Qc mc ms free) (cw : vx_CVW R s args own C index y bytes maxL ret hh ws rm mc ms n) (hp : PreV s H C b Pc As)
    (hg : g.method = m) (hn : As.length = n) (hsize : g.locals.size = nL) (hstack : g.stack = As.reverse ++ .ref b :: rest) (hW : 2 * g.monitorRoom + (rest.map fun v => v.category).sum ≤ 8) (hdg : decode cc g.pc = .ok (.invokevirtual index, 3)) (hf : cells + mc ≤ R.cells ∧ slots + ms ≤ R.slots) :
    va_Run p l e R s m args below meth c H locs cells slots mc ms g rest (Qc (Value.ref b :: As).toArray) free := by
  obtain ⟨⟨hrc, hrs, hfr, hlo, hws, hcw⟩, hcode, hini, hy, hlen, hl, hin, hse⟩ := cw
  have hK : Back l R p e below s args y 3 8 (PreOf R mc ms Pc) (PostOf Qc mc ms free) := va_backW (hh := hh) (bytes := bytes) (maxL := maxL) (ret := ret) hM hp.1 hrc hrs hfr hlo hws hcw (fun a' U hW => word_at hW (Or.inl (by first | rfl | simp [Cond.onTables, Cond.keeps, Cond.steady])) hini)
  obtain ⟨hx, hb, hml, ho, -⟩ := S
  obtain ⟨-, ⟨cellB, hcB, hoB, hclB⟩, hPc⟩ := hp
  intro T hT X
  obtain ⟨v, vm₁, ⟨U', l2, c2, s2⟩, hW₁, X', ⟨g', mk, t, L, e1, e2, hq, h1, hL, h2, h3⟩, st⟩ := vx_callVW X hx (C := C) (hh := hh) (bytes := bytes) (maxL := maxL) (ret := ret) ho hl hin hse hcode hy hK (by rw [hT]; exact hcB) hoB hclB hg (hsize.trans hml.symm) (argsL := As) (rest := rest) (fun sig h => hn.trans (hlen sig h)) hstack hW (by rw [hb]; exact hdg)
    (fun vm₁ hW₁ => ⟨hf.1, hf.2, hPc (T.setVm vm₁) hT hW₁⟩)
  dsimp only [Pt.U, Pt.locs, Pt.cells, Pt.slots] at X' e1 e2 h1 h2 h3 st
  subst h1; subst h2; subst h3
  exact ⟨v, (T.setVm vm₁).calling g' mk (Value.ref b :: As).toArray, t, U', L, hT, X', hL, e1, e2, hq, st⟩
section
variable {y : MethodName} {bytes cc : ByteArray} {maxL nL mc ms n index : Nat} {ret : Option FieldType} {ws : List Cond} {rm : Room} {Pc : Array Value → State → Prop} {Qc : Array Value → State → Outcome → State → Prop} {XC : String → State → State → Prop} {free : Addr → Prop} {Ts : List Cond} {own C : String} {b : Addr} {As rest : List Value} {g : JFrame}
theorem vx_runVX {hh : List (Nat × Nat × Nat × Nat)} (S : CallFix p m c cc nL s args Ts own) (hM : vx_Met l y ws rm Pc Qc XC mc ms free) (cw : vx_CVW R s args own C index y bytes maxL ret hh ws rm mc ms n) (hp : PreV s H C b Pc As)
    (hg : g.method = m) (hn : As.length = n) (hsize : g.locals.size = nL) (hstack : g.stack = As.reverse ++ .ref b :: rest) (hW : 2 * g.monitorRoom + (rest.map fun v => v.category).sum ≤ 8) (hdg : decode cc g.pc = .ok (.invokevirtual index, 3)) (hf : cells + mc ≤ R.cells ∧ slots + ms ≤ R.slots) :
    vx_Run p l e R s m args below meth c H locs cells slots mc ms g rest (Qc (Value.ref b :: As).toArray) XC free := by
  obtain ⟨⟨hrc, hrs, hfr, hlo, hws, hcw⟩, hcode, hini, hy, hlen, hl, hin, hse⟩ := cw
  have hK : vx_Back l R p e below s args y 3 8 (PreOf R mc ms Pc) (PostOf Qc mc ms free) (vx_Post XC mc ms free) := vx_backW (hh := hh) (bytes := bytes) (maxL := maxL) (ret := ret) hM hp.1 hrc hrs hfr hlo hws hcw (fun a' U hW => word_at hW (Or.inl (by first | rfl | simp [Cond.onTables, Cond.keeps, Cond.steady])) hini)
  obtain ⟨hx, hb, hml, ho, -⟩ := S
  obtain ⟨-, ⟨cellB, hcB, hoB, hclB⟩, hPc⟩ := hp
  intro T hT X
  rcases vx_callVX X hx (C := C) (hh := hh) (bytes := bytes) (maxL := maxL) (ret := ret) ho hl hin hse hcode hy hK (by rw [hT]; exact hcB) hoB hclB hg (hsize.trans hml.symm) (argsL := As) (rest := rest) (fun sig h => hn.trans (hlen sig h)) hstack hW (by rw [hb]; exact hdg)
    (fun vm₁ hW₁ => ⟨hf.1, hf.2, hPc (T.setVm vm₁) hT hW₁⟩) with ⟨v, vm₁, ⟨U', l2, c2, s2⟩, hW₁, X', ⟨g', mk, t, L, e1, e2, hq, h1, hL, h2, h3⟩, st⟩ | ⟨q, vm₁, ⟨U', l2, c2, s2⟩, hW₁, X', ⟨g', mk, t, L, E, ce, e1, e2, hq, hce, hcv, hcl, h1, hL, h2, h3⟩, st⟩
  · dsimp only [Pt.U, Pt.locs, Pt.cells, Pt.slots] at X' e1 e2 h1 h2 h3 st
    subst h1; subst h2; subst h3
    exact Or.inl ⟨v, (T.setVm vm₁).calling g' mk (Value.ref b :: As).toArray, t, U', L, hT, X', hL, e1, e2, hq, st⟩
  · dsimp only [Pt.U, Pt.locs, Pt.cells, Pt.slots] at X' e1 e2 h1 h2 h3 st hcl
    subst h1; subst h2; subst h3
    exact Or.inr ⟨q, (T.setVm vm₁).calling g' mk (Value.ref b :: As).toArray, t, U', L, E, ce, hT, X', hL, e1, e2, hq, hce, hcv, vx_cls hW₁ hcl, st⟩
theorem vx_runSX {hh : List (Nat × Nat × Nat × Nat)} (S : CallFix p m c cc nL s args Ts own) (hM : vx_Met l y ws rm Pc Qc XC mc ms free) (cw : vx_CSW R s args own index y bytes maxL ret hh ws rm mc ms n) (hp : PreS s H Pc As)
    (hg : g.method = m) (hn : As.length = n) (hsize : g.locals.size = nL) (hstack : g.stack = As.reverse ++ rest) (hW : 2 * g.monitorRoom + (rest.map fun v => v.category).sum ≤ 8) (hdg : decode cc g.pc = .ok (.invokestatic index, 3)) (hf : cells + mc ≤ R.cells ∧ slots + ms ≤ R.slots) :
    vx_Run p l e R s m args below meth c H locs cells slots mc ms g rest (Qc As.toArray) XC free := by
  obtain ⟨⟨hrc, hrs, hfr, hlo, hws, hcw⟩, hcode, hini, hy, hlen, hl, hstt⟩ := cw
  have hK : vx_Back l R p e below s args y 3 8 (PreOf R mc ms Pc) (PostOf Qc mc ms free) (vx_Post XC mc ms free) := vx_backW (hh := hh) (bytes := bytes) (maxL := maxL) (ret := ret) hM hp.1 hrc hrs hfr hlo hws hcw (fun a' U hW => word_at hW (Or.inl (by first | rfl | simp [Cond.onTables, Cond.keeps, Cond.steady])) hini)
  obtain ⟨hx, hb, hml, ho, -⟩ := S
  intro T hT X
  rcases vx_callSX X hx (hh := hh) (bytes := bytes) (maxL := maxL) (ret := ret) ho hl hstt hini hcode hy hK hg (hsize.trans hml.symm) (argsL := As) (rest := rest) (fun sig h => hn.trans (hlen sig h)) hstack hW (by rw [hb]; exact hdg)
    (fun vm₁ hW₁ => ⟨hf.1, hf.2, hp.2 (T.setVm vm₁) hT hW₁⟩) with ⟨v, vm₁, ⟨U', l2, c2, s2⟩, hW₁, X', ⟨g', mk, t, L, e1, e2, hq, h1, hL, h2, h3⟩, st⟩ | ⟨q, vm₁, ⟨U', l2, c2, s2⟩, hW₁, X', ⟨g', mk, t, L, E, ce, e1, e2, hq, hce, hcv, hcl, h1, hL, h2, h3⟩, st⟩
  · dsimp only [Pt.U, Pt.locs, Pt.cells, Pt.slots] at X' e1 e2 h1 h2 h3 st
    subst h1; subst h2; subst h3
    exact Or.inl ⟨v, (T.setVm vm₁).calling g' mk As.toArray, t, U', L, hT, X', hL, e1, e2, hq, st⟩
  · dsimp only [Pt.U, Pt.locs, Pt.cells, Pt.slots] at X' e1 e2 h1 h2 h3 st hcl
    subst h1; subst h2; subst h3
    exact Or.inr ⟨q, (T.setVm vm₁).calling g' mk As.toArray, t, U', L, E, ce, hT, X', hL, e1, e2, hq, hce, hcv, vx_cls hW₁ hcl, st⟩
end
end VXH
theorem vx_ofWH {l : Launch} {y : MethodName} {ws ws' : List Cond} {rm : Room} {Pc : Array Value → State → Prop} {Qc : Array Value → State → Outcome → State → Prop} {XC : String → State → State → Prop} {mc ms : Nat} {free : Addr → Prop} {cc : ByteArray} {maxL : Nat} {ret : Option FieldType} {hh : List (Nat × Nat × Nat × Nat)}
    (hy : plainName y.cls = true) (hw : ws = Cond.codeWith y cc maxL ret hh :: ws')
    (body : ∀ p e s m args below meth c s₁, BodyLoose p l y (headSpec ws rm) cc maxL ret e s m args below meth c s₁ → c.maxLocals = maxL → Pc args s →
      W p l e (headSpec ws rm).room s m args below meth c s.heap [] 0 0 (vx_MQ below Qc XC args s mc ms free) (entryFrame m args maxL)) : vx_Met l y ws rm Pc Qc XC mc ms free := by
  refine MetFree.of_bodyS (code := cc) (maxLocals := maxL) (ret := ret) hy ?_ ?_
  · intro args s m h hn
    obtain ⟨m9, meth, c, hn9, h1, h2, h3, h4, -, h5, h6, -⟩ := Cond.codeWith_spec (atoms_spec (ws := ws) h _ (by rw [hw]; exact List.mem_cons_self))
    cases hn.symm.trans hn9
    exact ⟨meth, c, h1, h2, h3, h4, h5, h6⟩
  · intro p e s m args below meth c s₁ B hml hP _
    have hh0 : s₁.heap = s.heap := by rw [B.state]; rfl
    obtain ⟨t, a1, o, b1, b2, b3⟩ := body p e s m args below meth c s₁ B hml hP s₁ hh0 (Stand.of_body B)
    exact ⟨t, o, a1, b1, b2, b3⟩
/-! ===== END ===== -/
end
section
/-! ===== BEGIN printed: names, fields, word lists, decode rows ===== -/
/-- the name that a row of the tables bears: one of the class's methods is called by a word that rows may not hold, so its name is read off the tables -/
def nm_of (c : Option Cond) : String := match c with
  | some (Cond.instanceMethod y) => y.name
  | _ => ""
def nm_adm : String := nm_of (tables_1_3[121]?)
def RX0 : String := "Chargehouse$Accused"
def TX0 : u_T := fun k => match k with
  | 0 => ("Chargehouse$Accused", "file", "LChargehouse$CaseFile;", true)
  | 1 => ("Chargehouse$Accused", "person", "I", true)
  | 2 => ("Chargehouse$Accused", "state", "I", false)
  | 3 => ("Chargehouse$Accused", "charges", "I", false)
  | 4 => ("Chargehouse$Accused", "chargedOn", "I", false)
  | 5 => ("Chargehouse$Accused", "droppedOn", "I", false)
  | 6 => ("Chargehouse$Accused", "isReviewed", "Z", false)
  | 7 => ("Chargehouse$Accused", "isInCustody", "Z", false)
  | 8 => ("Chargehouse$Accused", "daysWhileOpen", "I", false)
  | 9 => ("Chargehouse$Accused", "daysWhileCharged", "I", false)
  | 10 => ("Chargehouse$Accused", "extendedBy", "I", false)
  | 11 => ("Chargehouse$Accused", "months", "I", false)
  | 12 => ("Chargehouse$Accused", "convictedOf", "I", false)
  | _ => ("Chargehouse$Accused", "firstAnsweredOn", "[I", true)
def tyX0 : Nat → FieldType := fun k => match k with
  | 0 => .object "Chargehouse$CaseFile"
  | 1 => .int
  | 2 => .int
  | 3 => .int
  | 4 => .int
  | 5 => .int
  | 6 => .boolean
  | 7 => .boolean
  | 8 => .int
  | 9 => .int
  | 10 => .int
  | 11 => .int
  | 12 => .int
  | _ => .array .int
abbrev wsX00 : List Cond := u_ws RX0 TX0 14
theorem nmX0 : ∀ a, a < 14 → ∀ b, b < 14 → a ≠ b → (TX0 a).2.1 ≠ (TX0 b).2.1 := by decide +kernel
theorem tyX0_ok : ∀ k, k < 14 → parseFieldDescriptor (TX0 k).2.2.1 = some (tyX0 k) := by decide +kernel
abbrev cX0_init : ByteArray := prog_2_method_1_code
def yX0_init : MethodName := ⟨RX0, "<init>", "(LChargehouse$CaseFile;I)V"⟩
abbrev cX0_ceilingWhileOpen : ByteArray := prog_2_method_2_code
def yX0_ceilingWhileOpen : MethodName := ⟨RX0, "ceilingWhileOpen", "()I"⟩
abbrev cX0_daysLeft : ByteArray := prog_2_method_3_code
def yX0_daysLeft : MethodName := ⟨RX0, "daysLeft", "()I"⟩
abbrev cX0_isReleasedAfter : ByteArray := prog_2_method_4_code
def yX0_isReleasedAfter : MethodName := ⟨RX0, "isReleasedAfter", "(I)Z"⟩
abbrev cX0_hadAnswered : ByteArray := prog_2_method_5_code
def yX0_hadAnswered : MethodName := ⟨RX0, "hadAnswered", "(II)Z"⟩
abbrev cX0_answerCharges : ByteArray := prog_2_method_6_code
def yX0_answerCharges : MethodName := ⟨RX0, "answerCharges", "(II)V"⟩
def RX1 : String := "Chargehouse$CaseFile"
def TX1 : u_T := fun k => match k with
  | 0 => ("Chargehouse$CaseFile", "number", "I", true)
  | 1 => ("Chargehouse$CaseFile", "event", "I", true)
  | 2 => ("Chargehouse$CaseFile", "accused", "I", true)
  | 3 => ("Chargehouse$CaseFile", "points", "I", true)
  | _ => ("Chargehouse$CaseFile", "rows", "[LChargehouse$Accused;", true)
def tyX1 : Nat → FieldType := fun k => match k with
  | 0 => .int
  | 1 => .int
  | 2 => .int
  | 3 => .int
  | _ => .array (.object "Chargehouse$Accused")
abbrev wsX10 : List Cond := u_ws RX1 TX1 5
theorem nmX1 : ∀ a, a < 5 → ∀ b, b < 5 → a ≠ b → (TX1 a).2.1 ≠ (TX1 b).2.1 := by decide +kernel
theorem tyX1_ok : ∀ k, k < 5 → parseFieldDescriptor (TX1 k).2.2.1 = some (tyX1 k) := by decide +kernel
abbrev cX1_init : ByteArray := prog_3_method_1_code
def yX1_init : MethodName := ⟨RX1, "<init>", "(IIII)V"⟩
abbrev cX1_hasAll : ByteArray := prog_3_method_2_code
def yX1_hasAll : MethodName := ⟨RX1, "hasAll", "(I)Z"⟩
abbrev cX1_rowOf : ByteArray := prog_3_method_3_code
def yX1_rowOf : MethodName := ⟨RX1, "rowOf", "(I)LChargehouse$Accused;"⟩
abbrev cX1_passInCustody : ByteArray := prog_3_method_4_code
def yX1_passInCustody : MethodName := ⟨RX1, "passInCustody", "(I)I"⟩
def RX2 : String := "Chargehouse$Item"
def TX2 : u_T := fun k => match k with
  | 0 => ("Chargehouse$Item", "file", "I", true)
  | 1 => ("Chargehouse$Item", "element", "I", true)
  | 2 => ("Chargehouse$Item", "weight", "I", true)
  | 3 => ("Chargehouse$Item", "against", "I", true)
  | 4 => ("Chargehouse$Item", "how", "I", true)
  | 5 => ("Chargehouse$Item", "isSensitive", "Z", true)
  | 6 => ("Chargehouse$Item", "cameOn", "I", true)
  | 7 => ("Chargehouse$Item", "admittedOn", "I", false)
  | 8 => ("Chargehouse$Item", "shownTo", "I", false)
  | _ => ("Chargehouse$Item", "isWithheld", "Z", false)
def tyX2 : Nat → FieldType := fun k => match k with
  | 0 => .int
  | 1 => .int
  | 2 => .int
  | 3 => .int
  | 4 => .int
  | 5 => .boolean
  | 6 => .int
  | 7 => .int
  | 8 => .int
  | _ => .boolean
abbrev wsX20 : List Cond := u_ws RX2 TX2 10
theorem nmX2 : ∀ a, a < 10 → ∀ b, b < 10 → a ≠ b → (TX2 a).2.1 ≠ (TX2 b).2.1 := by decide +kernel
theorem tyX2_ok : ∀ k, k < 10 → parseFieldDescriptor (TX2 k).2.2.1 = some (tyX2 k) := by decide +kernel
abbrev cX2_init : ByteArray := prog_4_method_1_code
def yX2_init : MethodName := ⟨RX2, "<init>", "(IIIIIZI)V"⟩
abbrev cX2_isAgainst : ByteArray := prog_4_method_2_code
def yX2_isAgainst : MethodName := ⟨RX2, "isAgainst", "(I)Z"⟩
abbrev cX2_wasShownTo : ByteArray := prog_4_method_3_code
def yX2_wasShownTo : MethodName := ⟨RX2, "wasShownTo", "(I)Z"⟩
abbrev cX2_countsOn : ByteArray := prog_4_method_4_code
def yX2_countsOn : MethodName := ⟨RX2, "countsOn", "(I)Z"⟩
abbrev cX2_isLackedBy : ByteArray := prog_4_method_5_code
def yX2_isLackedBy : MethodName := ⟨RX2, "isLackedBy", "(I)Z"⟩
def RX3 : String := "Chargehouse$Offence"
def TX3 : u_T := fun k => match k with
  | 0 => ("Chargehouse$Offence", "elements", "I", true)
  | 1 => ("Chargehouse$Offence", "gravity", "I", true)
  | 2 => ("Chargehouse$Offence", "limit", "I", true)
  | _ => ("Chargehouse$Offence", "excluded", "I", false)
def tyX3 : Nat → FieldType := fun k => match k with
  | 0 => .int
  | 1 => .int
  | 2 => .int
  | _ => .int
abbrev wsX30 : List Cond := u_ws RX3 TX3 4
theorem nmX3 : ∀ a, a < 4 → ∀ b, b < 4 → a ≠ b → (TX3 a).2.1 ≠ (TX3 b).2.1 := by decide +kernel
theorem tyX3_ok : ∀ k, k < 4 → parseFieldDescriptor (TX3 k).2.2.1 = some (tyX3 k) := by decide +kernel
abbrev cX3_init : ByteArray := prog_5_method_1_code
def yX3_init : MethodName := ⟨RX3, "<init>", "(III)V"⟩
abbrev cX3_excludes : ByteArray := prog_5_method_2_code
def yX3_excludes : MethodName := ⟨RX3, "excludes", "(I)Z"⟩
abbrev cX3_nestsIn : ByteArray := prog_5_method_3_code
def yX3_nestsIn : MethodName := ⟨RX3, "nestsIn", "(LChargehouse$Offence;)Z"⟩
abbrev cX3_isAkinTo : ByteArray := prog_5_method_4_code
def yX3_isAkinTo : MethodName := ⟨RX3, "isAkinTo", "(LChargehouse$Offence;)Z"⟩
def RX4 : String := "Chargehouse"
def TX4 : u_T := fun k => match k with
  | 0 => ("Chargehouse", "offenceRows", "[LChargehouse$Offence;", true)
  | 1 => ("Chargehouse", "fileRows", "[LChargehouse$CaseFile;", true)
  | 2 => ("Chargehouse", "itemRows", "[LChargehouse$Item;", true)
  | 3 => ("Chargehouse", "offenceCount", "I", false)
  | 4 => ("Chargehouse", "fileCount", "I", false)
  | 5 => ("Chargehouse", "itemCount", "I", false)
  | 6 => ("Chargehouse", "today", "I", false)
  | 7 => ("Chargehouse", "convictions", "I", false)
  | 8 => ("Chargehouse", "acquittals", "I", false)
  | 9 => ("Chargehouse", "pleas", "I", false)
  | 10 => ("Chargehouse", "drops", "I", false)
  | 11 => ("Chargehouse", "reopened", "I", false)
  | _ => ("Chargehouse", "clockReleases", "I", false)
def tyX4 : Nat → FieldType := fun k => match k with
  | 0 => .array (.object "Chargehouse$Offence")
  | 1 => .array (.object "Chargehouse$CaseFile")
  | 2 => .array (.object "Chargehouse$Item")
  | 3 => .int
  | 4 => .int
  | 5 => .int
  | 6 => .int
  | 7 => .int
  | 8 => .int
  | 9 => .int
  | 10 => .int
  | 11 => .int
  | _ => .int
abbrev wsX40 : List Cond := u_ws RX4 TX4 13
theorem nmX4 : ∀ a, a < 13 → ∀ b, b < 13 → a ≠ b → (TX4 a).2.1 ≠ (TX4 b).2.1 := by decide +kernel
theorem tyX4_ok : ∀ k, k < 13 → parseFieldDescriptor (TX4 k).2.2.1 = some (tyX4 k) := by decide +kernel
abbrev cX4_init : ByteArray := prog_1_method_1_code
def yX4_init : MethodName := ⟨RX4, "<init>", "()V"⟩
abbrev cX4_offence : ByteArray := prog_1_method_2_code
def yX4_offence : MethodName := ⟨RX4, "offence", "(III)I"⟩
abbrev cX4_exclude : ByteArray := prog_1_method_3_code
def yX4_exclude : MethodName := ⟨RX4, "exclude", "(II)Z"⟩
abbrev cX4_pass : ByteArray := prog_1_method_4_code
def yX4_pass : MethodName := ⟨RX4, "pass", "(I)I"⟩
abbrev cX4_file : ByteArray := prog_1_method_5_code
def yX4_file : MethodName := ⟨RX4, "file", "(III)I"⟩
abbrev cX4_item : ByteArray := prog_1_method_6_code
def yX4_item : MethodName := ⟨RX4, "item", "(IIIIIZ)I"⟩
abbrev cX4_admit : ByteArray := prog_1_method_7_code
def yX4_admit : MethodName := ⟨RX4, nm_adm, "(I)V"⟩
abbrev cX4_show : ByteArray := prog_1_method_8_code
def yX4_show : MethodName := ⟨RX4, "show", "(II)I"⟩
abbrev cX4_withhold : ByteArray := prog_1_method_9_code
def yX4_withhold : MethodName := ⟨RX4, "withhold", "(I)V"⟩
abbrev cX4_charge : ByteArray := prog_1_method_10_code
def yX4_charge : MethodName := ⟨RX4, "charge", "(III)I"⟩
abbrev cX4_drop : ByteArray := prog_1_method_11_code
def yX4_drop : MethodName := ⟨RX4, "drop", "(II)V"⟩
abbrev cX4_review : ByteArray := prog_1_method_12_code
def yX4_review : MethodName := ⟨RX4, "review", "(II)Z"⟩
abbrev cX4_trial : ByteArray := prog_1_method_13_code
def yX4_trial : MethodName := ⟨RX4, "trial", "(II)I"⟩
abbrev cX4_plea : ByteArray := prog_1_method_14_code
def yX4_plea : MethodName := ⟨RX4, "plea", "(III)I"⟩
abbrev cX4_arrest : ByteArray := prog_1_method_15_code
def yX4_arrest : MethodName := ⟨RX4, "arrest", "(II)I"⟩
abbrev cX4_extend : ByteArray := prog_1_method_16_code
def yX4_extend : MethodName := ⟨RX4, "extend", "(III)I"⟩
abbrev cX4_release : ByteArray := prog_1_method_17_code
def yX4_release : MethodName := ⟨RX4, "release", "(II)V"⟩
abbrev cX4_day : ByteArray := prog_1_method_18_code
def yX4_day : MethodName := ⟨RX4, "day", "()I"⟩
abbrev cX4_nests : ByteArray := prog_1_method_19_code
def yX4_nests : MethodName := ⟨RX4, "nests", "(II)Z"⟩
abbrev cX4_strength : ByteArray := prog_1_method_20_code
def yX4_strength : MethodName := ⟨RX4, "strength", "(IIII)I"⟩
abbrev cX4_whyNot : ByteArray := prog_1_method_21_code
def yX4_whyNot : MethodName := ⟨RX4, "whyNot", "(IIII)I"⟩
abbrev cX4_best : ByteArray := prog_1_method_22_code
def yX4_best : MethodName := ⟨RX4, "best", "(III)I"⟩
abbrev cX4_bestAnew : ByteArray := prog_1_method_23_code
def yX4_bestAnew : MethodName := ⟨RX4, "bestAnew", "(III)I"⟩
abbrev cX4_lacks : ByteArray := prog_1_method_24_code
def yX4_lacks : MethodName := ⟨RX4, "lacks", "(II)I"⟩
abbrev cX4_ofItem : ByteArray := prog_1_method_25_code
def yX4_ofItem : MethodName := ⟨RX4, "ofItem", "(II)I"⟩
abbrev cX4_ofAccused : ByteArray := prog_1_method_26_code
def yX4_ofAccused : MethodName := ⟨RX4, "ofAccused", "(III)I"⟩
abbrev cX4_count : ByteArray := prog_1_method_27_code
def yX4_count : MethodName := ⟨RX4, "count", "(I)I"⟩
abbrev cX4_isWithin : ByteArray := prog_1_method_28_code
def yX4_isWithin : MethodName := ⟨RX4, "isWithin", "(III)Z"⟩
abbrev cX4_hasBit : ByteArray := prog_1_method_29_code
def yX4_hasBit : MethodName := ⟨RX4, "hasBit", "(II)Z"⟩
abbrev cX4_above : ByteArray := prog_1_method_30_code
def yX4_above : MethodName := ⟨RX4, "above", "(I)I"⟩
abbrev cX4_offenceAt : ByteArray := prog_1_method_31_code
def yX4_offenceAt : MethodName := ⟨RX4, "offenceAt", "(I)LChargehouse$Offence;"⟩
abbrev cX4_fileAt : ByteArray := prog_1_method_32_code
def yX4_fileAt : MethodName := ⟨RX4, "fileAt", "(I)LChargehouse$CaseFile;"⟩
abbrev cX4_itemAt : ByteArray := prog_1_method_33_code
def yX4_itemAt : MethodName := ⟨RX4, "itemAt", "(I)LChargehouse$Item;"⟩
abbrev cX4_accusedAt : ByteArray := prog_1_method_34_code
def yX4_accusedAt : MethodName := ⟨RX4, "accusedAt", "(II)LChargehouse$Accused;"⟩
abbrev cX4_checkDay : ByteArray := prog_1_method_35_code
def yX4_checkDay : MethodName := ⟨RX4, "checkDay", "(I)V"⟩
abbrev cX4_checkToldOffences : ByteArray := prog_1_method_36_code
def yX4_checkToldOffences : MethodName := ⟨RX4, "checkToldOffences", "(I)V"⟩
abbrev cX4_strengthAgainst : ByteArray := prog_1_method_37_code
def yX4_strengthAgainst : MethodName := ⟨RX4, "strengthAgainst", "(LChargehouse$Accused;II)I"⟩
abbrev cX4_hasStrength : ByteArray := prog_1_method_38_code
def yX4_hasStrength : MethodName := ⟨RX4, "hasStrength", "(LChargehouse$Accused;LChargehouse$Offence;II)Z"⟩
abbrev cX4_isSpent : ByteArray := prog_1_method_39_code
def yX4_isSpent : MethodName := ⟨RX4, "isSpent", "(LChargehouse$Accused;LChargehouse$Offence;I)Z"⟩
abbrev cX4_spentOffences : ByteArray := prog_1_method_40_code
def yX4_spentOffences : MethodName := ⟨RX4, "spentOffences", "(LChargehouse$Accused;)I"⟩
abbrev cX4_hindrance : ByteArray := prog_1_method_41_code
def yX4_hindrance : MethodName := ⟨RX4, "hindrance", "(LChargehouse$Accused;LChargehouse$Offence;I)I"⟩
abbrev cX4_chargeable : ByteArray := prog_1_method_42_code
def yX4_chargeable : MethodName := ⟨RX4, "chargeable", "(LChargehouse$Accused;I)I"⟩
abbrev cX4_provenCharges : ByteArray := prog_1_method_43_code
def yX4_provenCharges : MethodName := ⟨RX4, "provenCharges", "(LChargehouse$Accused;)I"⟩
abbrev cX4_gravityOf : ByteArray := prog_1_method_44_code
def yX4_gravityOf : MethodName := ⟨RX4, "gravityOf", "(I)I"⟩
abbrev cX4_matesOf : ByteArray := prog_1_method_45_code
def yX4_matesOf : MethodName := ⟨RX4, "matesOf", "(I)I"⟩
abbrev cX4_isRight : ByteArray := prog_1_method_46_code
def yX4_isRight : MethodName := ⟨RX4, "isRight", "(II)Z"⟩
abbrev cX4_better : ByteArray := prog_1_method_47_code
def yX4_better : MethodName := ⟨RX4, "better", "(II)I"⟩
abbrev cX4_bestByGrowing : ByteArray := prog_1_method_48_code
def yX4_bestByGrowing : MethodName := ⟨RX4, "bestByGrowing", "(I)I"⟩
abbrev cX4_bestWithMates : ByteArray := prog_1_method_49_code
def yX4_bestWithMates : MethodName := ⟨RX4, "bestWithMates", "(III)I"⟩
abbrev cX4_bestWithThird : ByteArray := prog_1_method_50_code
def yX4_bestWithThird : MethodName := ⟨RX4, "bestWithThird", "(III)I"⟩
abbrev cX4_bestOfAllSets : ByteArray := prog_1_method_51_code
def yX4_bestOfAllSets : MethodName := ⟨RX4, "bestOfAllSets", "(I)I"⟩
abbrev cX4_lackedBy : ByteArray := prog_1_method_52_code
def yX4_lackedBy : MethodName := ⟨RX4, "lackedBy", "(II)I"⟩
abbrev cX4_discountAfter : ByteArray := prog_1_method_53_code
def yX4_discountAfter : MethodName := ⟨RX4, "discountAfter", "(I)I"⟩
def RX5 : String := "ChargehouseModel"
def TX5 : u_T := fun k => match k with
  | _ => ("", "", "", false)
def tyX5 : Nat → FieldType := fun k => match k with
  | _ => .int
abbrev wsX50 : List Cond := u_ws RX5 TX5 0
theorem nmX5 : ∀ a, a < 0 → ∀ b, b < 0 → a ≠ b → (TX5 a).2.1 ≠ (TX5 b).2.1 := by decide +kernel
theorem tyX5_ok : ∀ k, k < 0 → parseFieldDescriptor (TX5 k).2.2.1 = some (tyX5 k) := by decide +kernel
def RJ6 : String := "java/lang/Integer"
def TJ6 : u_T := fun k => match k with
  | _ => ("", "", "", false)
def tyJ6 : Nat → FieldType := fun k => match k with
  | _ => .int
abbrev wsJ60 : List Cond := u_ws RJ6 TJ6 0
theorem nmJ6 : ∀ a, a < 0 → ∀ b, b < 0 → a ≠ b → (TJ6 a).2.1 ≠ (TJ6 b).2.1 := by decide +kernel
theorem tyJ6_ok : ∀ k, k < 0 → parseFieldDescriptor (TJ6 k).2.2.1 = some (tyJ6 k) := by decide +kernel
abbrev cJ6_bitCount_0f7a4 : ByteArray := prog_12_method_49_code
def yJ6_bitCount_0f7a4 : MethodName := ⟨RJ6, "bitCount", "(I)I"⟩
def RJ9 : String := "java/lang/Math"
def TJ9 : u_T := fun k => match k with
  | _ => ("", "", "", false)
def tyJ9 : Nat → FieldType := fun k => match k with
  | _ => .int
abbrev wsJ90 : List Cond := u_ws RJ9 TJ9 0
theorem nmJ9 : ∀ a, a < 0 → ∀ b, b < 0 → a ≠ b → (TJ9 a).2.1 ≠ (TJ9 b).2.1 := by decide +kernel
theorem tyJ9_ok : ∀ k, k < 0 → parseFieldDescriptor (TJ9 k).2.2.1 = some (tyJ9 k) := by decide +kernel
abbrev cJ9_min_7cf53 : ByteArray := prog_13_method_69_code
def yJ9_min_7cf53 : MethodName := ⟨RJ9, "min", "(II)I"⟩
def RJ0 : String := "java/lang/String"
def TJ0 : u_T := fun k => match k with
  | _ => ("", "", "", false)
def tyJ0 : Nat → FieldType := fun k => match k with
  | _ => .int
abbrev wsJ00 : List Cond := u_ws RJ0 TJ0 0
theorem nmJ0 : ∀ a, a < 0 → ∀ b, b < 0 → a ≠ b → (TJ0 a).2.1 ≠ (TJ0 b).2.1 := by decide +kernel
theorem tyJ0_ok : ∀ k, k < 0 → parseFieldDescriptor (TJ0 k).2.2.1 = some (tyJ0 k) := by decide +kernel
def RL : String := "ChargehouseLaw"
abbrev cL_offence : ByteArray := method_2_code
def yL_offence : MethodName := ⟨RL, "offence", "(LChargehouse;III)I"⟩
abbrev cL_exclude : ByteArray := method_3_code
def yL_exclude : MethodName := ⟨RL, "exclude", "(LChargehouse;II)I"⟩
abbrev cL_pass : ByteArray := method_4_code
def yL_pass : MethodName := ⟨RL, "pass", "(LChargehouse;I)I"⟩
abbrev cL_file : ByteArray := method_5_code
def yL_file : MethodName := ⟨RL, "file", "(LChargehouse;III)I"⟩
abbrev cL_item : ByteArray := method_6_code
def yL_item : MethodName := ⟨RL, "item", "(LChargehouse;IIIIIZ)I"⟩
abbrev cL_admit : ByteArray := method_7_code
def yL_admit : MethodName := ⟨RL, nm_adm, "(LChargehouse;I)I"⟩
abbrev cL_show : ByteArray := method_8_code
def yL_show : MethodName := ⟨RL, "show", "(LChargehouse;II)I"⟩
abbrev cL_withhold : ByteArray := method_9_code
def yL_withhold : MethodName := ⟨RL, "withhold", "(LChargehouse;I)I"⟩
abbrev cL_charge : ByteArray := method_10_code
def yL_charge : MethodName := ⟨RL, "charge", "(LChargehouse;III)I"⟩
abbrev cL_drop : ByteArray := method_11_code
def yL_drop : MethodName := ⟨RL, "drop", "(LChargehouse;II)I"⟩
abbrev cL_review : ByteArray := method_12_code
def yL_review : MethodName := ⟨RL, "review", "(LChargehouse;II)I"⟩
abbrev cL_trial : ByteArray := method_13_code
def yL_trial : MethodName := ⟨RL, "trial", "(LChargehouse;II)I"⟩
abbrev cL_plea : ByteArray := method_14_code
def yL_plea : MethodName := ⟨RL, "plea", "(LChargehouse;III)I"⟩
abbrev cL_arrest : ByteArray := method_15_code
def yL_arrest : MethodName := ⟨RL, "arrest", "(LChargehouse;II)I"⟩
abbrev cL_extend : ByteArray := method_16_code
def yL_extend : MethodName := ⟨RL, "extend", "(LChargehouse;III)I"⟩
abbrev cL_release : ByteArray := method_17_code
def yL_release : MethodName := ⟨RL, "release", "(LChargehouse;II)I"⟩
abbrev cL_nests : ByteArray := method_18_code
def yL_nests : MethodName := ⟨RL, "nests", "(LChargehouse;II)I"⟩
abbrev cL_strength : ByteArray := method_19_code
def yL_strength : MethodName := ⟨RL, "strength", "(LChargehouse;IIII)I"⟩
abbrev cL_whyNot : ByteArray := method_20_code
def yL_whyNot : MethodName := ⟨RL, "whyNot", "(LChargehouse;IIII)I"⟩
abbrev cL_best : ByteArray := method_21_code
def yL_best : MethodName := ⟨RL, "best", "(LChargehouse;III)I"⟩
abbrev cL_anew : ByteArray := method_22_code
def yL_anew : MethodName := ⟨RL, "anew", "(LChargehouse;III)I"⟩
abbrev cL_lacks : ByteArray := method_23_code
def yL_lacks : MethodName := ⟨RL, "lacks", "(LChargehouse;II)I"⟩
abbrev cL_ofItem : ByteArray := method_24_code
def yL_ofItem : MethodName := ⟨RL, "ofItem", "(LChargehouse;II)I"⟩
abbrev cL_of : ByteArray := method_25_code
def yL_of : MethodName := ⟨RL, "of", "(LChargehouse;III)I"⟩
abbrev cL_count : ByteArray := method_26_code
def yL_count : MethodName := ⟨RL, "count", "(LChargehouse;I)I"⟩
abbrev cL_drawn : ByteArray := method_27_code
def yL_drawn : MethodName := ⟨RL, "drawn", "([II)I"⟩
abbrev cL_isRefused : ByteArray := method_28_code
def yL_isRefused : MethodName := ⟨RL, "isRefused", "(I)Z"⟩
abbrev cL_bits : ByteArray := method_29_code
def yL_bits : MethodName := ⟨RL, "bits", "(I)I"⟩
abbrev cL_mix : ByteArray := method_30_code
def yL_mix : MethodName := ⟨RL, "mix", "(LChargehouse;[I[I)J"⟩
abbrev cL_known : ByteArray := method_31_code
def yL_known : MethodName := ⟨RL, "known", "(LChargehouse;[III)J"⟩
abbrev cL_isHeld : ByteArray := method_32_code
def yL_isHeld : MethodName := ⟨RL, "isHeld", "(LChargehouse;I[II)Z"⟩
abbrev cL_isBest : ByteArray := method_33_code
def yL_isBest : MethodName := ⟨RL, "isBest", "(LChargehouse;[III)Z"⟩
abbrev cL_areNested : ByteArray := method_34_code
def yL_areNested : MethodName := ⟨RL, "areNested", "(LChargehouse;[II)Z"⟩
abbrev cL_isLawful : ByteArray := method_35_code
def yL_isLawful : MethodName := ⟨RL, "isLawful", "(LChargehouse;[I[I[I[II)Z"⟩
abbrev cL_tells : ByteArray := method_36_code
def yL_tells : MethodName := ⟨RL, "tells", "(LChargehouse;[I[III)I"⟩
abbrev cL_decides : ByteArray := method_37_code
def yL_decides : MethodName := ⟨RL, "decides", "(LChargehouse;IIII)I"⟩
abbrev cL_does : ByteArray := method_38_code
def yL_does : MethodName := ⟨RL, "does", "(LChargehouse;[I[II)I"⟩
abbrev cL_law : ByteArray := code
def yL_law : MethodName := ⟨RL, "law", "([I)Z"⟩
def wsX0_init : List Cond := .code yX0_init cX0_init 4 none :: ([.methodLink RX0 3 objectInit, .instanceMethod objectInit, .code objectInit ⟨#[0xb1]⟩ 1 none, .fieldLink RX0 9 "Chargehouse$Accused" "state" "I", .arrayClass .int, .fieldLink RX0 15 "Chargehouse$Accused" "firstAnsweredOn" "[I", .fieldLink RX0 19 "Chargehouse$Accused" "file" "LChargehouse$CaseFile;", .fieldLink RX0 23 "Chargehouse$Accused" "person" "I"] ++ wsX00)
def wsX4_hasBit : List Cond := .code yX4_hasBit cX4_hasBit 2 (some .boolean) :: ([])
def wsX0_ceilingWhileOpen : List Cond := .code yX0_ceilingWhileOpen cX0_ceilingWhileOpen 1 (some .int) :: ([.fieldLink RX0 26 "Chargehouse$Accused" "extendedBy" "I", .static yX4_hasBit, .initialized RX4, .code yX4_hasBit cX4_hasBit 2 (some .boolean)] ++ wsX00)
def wsX0_daysLeft : List Cond := .code yX0_daysLeft cX0_daysLeft 1 (some .int) :: ([.fieldLink RX0 9 "Chargehouse$Accused" "state" "I", .fieldLink RX0 33 "Chargehouse$Accused" "daysWhileCharged" "I", .fieldLink RX0 40 "Chargehouse$Accused" "daysWhileOpen" "I", .methodLink RX0 36 yX0_ceilingWhileOpen, .instanceMethod yX0_ceilingWhileOpen, .selects RX0 yX0_ceilingWhileOpen yX0_ceilingWhileOpen, .initialized RX0, .code yX0_ceilingWhileOpen cX0_ceilingWhileOpen 1 (some .int), .fieldLink RX0 26 "Chargehouse$Accused" "extendedBy" "I", .static yX4_hasBit, .initialized RX4, .code yX4_hasBit cX4_hasBit 2 (some .boolean)] ++ wsX00)
def wsX0_isReleasedAfter : List Cond := .code yX0_isReleasedAfter cX0_isReleasedAfter 4 (some .boolean) :: ([.methodLink RX0 46 Lib.Math.min.name, .static Lib.Math.min.name, .initialized "java/lang/Math", .code Lib.Math.min.name Lib.Math.min.code 2 (some .int), .fieldLink RX0 9 "Chargehouse$Accused" "state" "I", .fieldLink RX0 33 "Chargehouse$Accused" "daysWhileCharged" "I", .fieldLink RX0 40 "Chargehouse$Accused" "daysWhileOpen" "I", .fieldLink RX0 52 "Chargehouse$Accused" "isInCustody" "Z", .methodLink RX0 43 yX0_daysLeft, .instanceMethod yX0_daysLeft, .selects RX0 yX0_daysLeft yX0_daysLeft, .initialized RX0, .code yX0_daysLeft cX0_daysLeft 1 (some .int), .methodLink RX0 36 yX0_ceilingWhileOpen, .instanceMethod yX0_ceilingWhileOpen, .selects RX0 yX0_ceilingWhileOpen yX0_ceilingWhileOpen, .code yX0_ceilingWhileOpen cX0_ceilingWhileOpen 1 (some .int), .fieldLink RX0 26 "Chargehouse$Accused" "extendedBy" "I", .static yX4_hasBit, .initialized RX4, .code yX4_hasBit cX4_hasBit 2 (some .boolean)] ++ wsX00)
def wsX0_hadAnswered : List Cond := .code yX0_hadAnswered cX0_hadAnswered 3 (some .boolean) :: ([.fieldLink RX0 15 "Chargehouse$Accused" "firstAnsweredOn" "[I"] ++ wsX00)
def wsX0_answerCharges : List Cond := .code yX0_answerCharges cX0_answerCharges 4 none :: ([.fieldLink RX0 15 "Chargehouse$Accused" "firstAnsweredOn" "[I", .fieldLink RX0 56 "Chargehouse$Accused" "charges" "I", .fieldLink RX0 59 "Chargehouse$Accused" "convictedOf" "I", .fieldLink RX0 33 "Chargehouse$Accused" "daysWhileCharged" "I", .fieldLink RX0 52 "Chargehouse$Accused" "isInCustody" "Z", .fieldLink RX0 9 "Chargehouse$Accused" "state" "I", .static yX4_hasBit, .initialized RX4, .code yX4_hasBit cX4_hasBit 2 (some .boolean)] ++ wsX00)
def wsX1_init : List Cond := .code yX1_init cX1_init 5 none :: ([.methodLink RX1 3 objectInit, .instanceMethod objectInit, .code objectInit ⟨#[0xb1]⟩ 1 none, .classLink RX1 9 RX0, .fieldLink RX1 11 "Chargehouse$CaseFile" "rows" "[LChargehouse$Accused;", .fieldLink RX1 17 "Chargehouse$CaseFile" "number" "I", .fieldLink RX1 21 "Chargehouse$CaseFile" "event" "I", .fieldLink RX1 24 "Chargehouse$CaseFile" "accused" "I", .fieldLink RX1 27 "Chargehouse$CaseFile" "points" "I"] ++ wsX10)
def wsX1_hasAll : List Cond := .code yX1_hasAll cX1_hasAll 2 (some .boolean) :: ([.fieldLink RX1 24 "Chargehouse$CaseFile" "accused" "I"] ++ wsX10)
def wsX1_rowOf : List Cond := .code yX1_rowOf cX1_rowOf 2 (some (.object "Chargehouse$Accused")) :: ([.fieldLink RX1 11 "Chargehouse$CaseFile" "rows" "[LChargehouse$Accused;"] ++ wsX10)
def wsX1_passInCustody_r1 : List Cond := [Cond.fieldLink RX1 11 "Chargehouse$CaseFile" "rows" "[LChargehouse$Accused;", Cond.fieldLink RX1 30 "Chargehouse$Accused" "isInCustody" "Z", Cond.methodLink RX1 34 yX0_isReleasedAfter, Cond.instanceMethod yX0_isReleasedAfter, Cond.selects RX0 yX0_isReleasedAfter yX0_isReleasedAfter, Cond.initialized RX0, Cond.code yX0_isReleasedAfter cX0_isReleasedAfter 4 (some .boolean), Cond.methodLink RX0 46 Lib.Math.min.name, Cond.static Lib.Math.min.name, Cond.initialized "java/lang/Math", Cond.code Lib.Math.min.name Lib.Math.min.code 2 (some .int), Cond.fieldLink RX0 9 "Chargehouse$Accused" "state" "I", Cond.fieldLink RX0 33 "Chargehouse$Accused" "daysWhileCharged" "I", Cond.fieldLink RX0 40 "Chargehouse$Accused" "daysWhileOpen" "I", Cond.fieldLink RX0 52 "Chargehouse$Accused" "isInCustody" "Z", Cond.methodLink RX0 43 yX0_daysLeft, Cond.instanceMethod yX0_daysLeft, Cond.selects RX0 yX0_daysLeft yX0_daysLeft, Cond.code yX0_daysLeft cX0_daysLeft 1 (some .int), Cond.methodLink RX0 36 yX0_ceilingWhileOpen, Cond.instanceMethod yX0_ceilingWhileOpen, Cond.selects RX0 yX0_ceilingWhileOpen yX0_ceilingWhileOpen, Cond.code yX0_ceilingWhileOpen cX0_ceilingWhileOpen 1 (some .int), Cond.fieldLink RX0 26 "Chargehouse$Accused" "extendedBy" "I"]
def wsX1_passInCustody_r2 : List Cond := [Cond.static yX4_hasBit, Cond.initialized RX4, Cond.code yX4_hasBit cX4_hasBit 2 (some .boolean)]
def wsX1_passInCustody : List Cond := .code yX1_passInCustody cX1_passInCustody 7 (some .int) :: ((wsX1_passInCustody_r1 ++ wsX1_passInCustody_r2) ++ wsX10 ++ wsX00)
def wsX2_init : List Cond := .code yX2_init cX2_init 8 none :: ([.methodLink RX2 3 objectInit, .instanceMethod objectInit, .code objectInit ⟨#[0xb1]⟩ 1 none, .fieldLink RX2 9 "Chargehouse$Item" "admittedOn" "I", .fieldLink RX2 15 "Chargehouse$Item" "file" "I", .fieldLink RX2 18 "Chargehouse$Item" "element" "I", .fieldLink RX2 21 "Chargehouse$Item" "weight" "I", .fieldLink RX2 24 "Chargehouse$Item" "against" "I", .fieldLink RX2 27 "Chargehouse$Item" "how" "I", .fieldLink RX2 30 "Chargehouse$Item" "isSensitive" "Z", .fieldLink RX2 34 "Chargehouse$Item" "cameOn" "I"] ++ wsX20)
def wsX2_isAgainst : List Cond := .code yX2_isAgainst cX2_isAgainst 2 (some .boolean) :: ([.fieldLink RX2 24 "Chargehouse$Item" "against" "I", .static yX4_hasBit, .initialized RX4, .code yX4_hasBit cX4_hasBit 2 (some .boolean)] ++ wsX20)
def wsX2_wasShownTo : List Cond := .code yX2_wasShownTo cX2_wasShownTo 2 (some .boolean) :: ([.fieldLink RX2 41 "Chargehouse$Item" "shownTo" "I", .static yX4_hasBit, .initialized RX4, .code yX4_hasBit cX4_hasBit 2 (some .boolean)] ++ wsX20)
def wsX2_countsOn : List Cond := .code yX2_countsOn cX2_countsOn 3 (some .boolean) :: ([.fieldLink RX2 9 "Chargehouse$Item" "admittedOn" "I", .fieldLink RX2 34 "Chargehouse$Item" "cameOn" "I", .fieldLink RX2 27 "Chargehouse$Item" "how" "I"] ++ wsX20)
def wsX2_isLackedBy : List Cond := .code yX2_isLackedBy cX2_isLackedBy 2 (some .boolean) :: ([.fieldLink RX2 21 "Chargehouse$Item" "weight" "I", .fieldLink RX2 51 "Chargehouse$Item" "isWithheld" "Z", .methodLink RX2 44 yX2_isAgainst, .instanceMethod yX2_isAgainst, .selects RX2 yX2_isAgainst yX2_isAgainst, .initialized RX2, .code yX2_isAgainst cX2_isAgainst 2 (some .boolean), .fieldLink RX2 24 "Chargehouse$Item" "against" "I", .static yX4_hasBit, .initialized RX4, .code yX4_hasBit cX4_hasBit 2 (some .boolean), .methodLink RX2 48 yX2_wasShownTo, .instanceMethod yX2_wasShownTo, .selects RX2 yX2_wasShownTo yX2_wasShownTo, .code yX2_wasShownTo cX2_wasShownTo 2 (some .boolean), .fieldLink RX2 41 "Chargehouse$Item" "shownTo" "I"] ++ wsX20)
def wsX3_init : List Cond := .code yX3_init cX3_init 4 none :: ([.methodLink RX3 1 objectInit, .instanceMethod objectInit, .code objectInit ⟨#[0xb1]⟩ 1 none, .fieldLink RX3 7 "Chargehouse$Offence" "elements" "I", .fieldLink RX3 13 "Chargehouse$Offence" "gravity" "I", .fieldLink RX3 16 "Chargehouse$Offence" "limit" "I"] ++ wsX30)
def wsX3_excludes : List Cond := .code yX3_excludes cX3_excludes 2 (some .boolean) :: ([.fieldLink RX3 19 "Chargehouse$Offence" "excluded" "I", .static yX4_hasBit, .initialized RX4, .code yX4_hasBit cX4_hasBit 2 (some .boolean)] ++ wsX30)
def wsX3_nestsIn : List Cond := .code yX3_nestsIn cX3_nestsIn 2 (some .boolean) :: ([.fieldLink RX3 7 "Chargehouse$Offence" "elements" "I"] ++ wsX30)
def wsX3_isAkinTo : List Cond := .code yX3_isAkinTo cX3_isAkinTo 2 (some .boolean) :: ([.fieldLink RX3 7 "Chargehouse$Offence" "elements" "I", .methodLink RX3 28 yX3_nestsIn, .instanceMethod yX3_nestsIn, .selects RX3 yX3_nestsIn yX3_nestsIn, .initialized RX3, .code yX3_nestsIn cX3_nestsIn 2 (some .boolean)] ++ wsX30)
def wsX4_init : List Cond := .code yX4_init cX4_init 1 none :: ([.methodLink RX4 1 objectInit, .instanceMethod objectInit, .code objectInit ⟨#[0xb1]⟩ 1 none, .classLink RX4 9 RX3, .fieldLink RX4 11 "Chargehouse" "offenceRows" "[LChargehouse$Offence;", .classLink RX4 15 RX1, .fieldLink RX4 17 "Chargehouse" "fileRows" "[LChargehouse$CaseFile;", .classLink RX4 21 RX2, .fieldLink RX4 23 "Chargehouse" "itemRows" "[LChargehouse$Item;"] ++ wsX40)
def wsX4_isWithin : List Cond := .code yX4_isWithin cX4_isWithin 3 (some .boolean) :: ([])
def wsX4_offence : List Cond := .code yX4_offence cX4_offence 4 (some .int) :: ([.classLink RX4 31 "java/lang/IllegalArgumentException", .initialized "java/lang/IllegalArgumentException", .classLink RX4 42 "java/lang/IllegalStateException", .initialized "java/lang/IllegalStateException", .fieldLink RX4 38 "Chargehouse" "offenceCount" "I", .fieldLink RX4 11 "Chargehouse" "offenceRows" "[LChargehouse$Offence;", .classLink RX4 9 RX3, .instantiable RX3 4, .initialized RX3, .methodLink RX4 27 yX4_isWithin, .static yX4_isWithin, .initialized RX4, .code yX4_isWithin cX4_isWithin 3 (some .boolean), .methodLink RX4 47 yX3_init, .instanceMethod yX3_init, .code yX3_init cX3_init 4 none, .methodLink RX3 1 objectInit, .instanceMethod objectInit, .code objectInit ⟨#[0xb1]⟩ 1 none, .fieldLink RX3 7 "Chargehouse$Offence" "elements" "I", .fieldLink RX3 13 "Chargehouse$Offence" "gravity" "I", .fieldLink RX3 16 "Chargehouse$Offence" "limit" "I"] ++ wsX40 ++ wsX30 ++ (vx_atS RX4 35 "java/lang/IllegalArgumentException" ["java/lang/RuntimeException", "java/lang/Exception"]).filter goodWord ++ (vx_atS RX4 46 "java/lang/IllegalStateException" ["java/lang/RuntimeException", "java/lang/Exception"]).filter goodWord)
def wsX4_offenceAt : List Cond := .code yX4_offenceAt cX4_offenceAt 2 (some (.object "Chargehouse$Offence")) :: ([.fieldLink RX4 11 "Chargehouse" "offenceRows" "[LChargehouse$Offence;"] ++ wsX40)
def wsX4_exclude : List Cond := .code yX4_exclude cX4_exclude 6 (some .boolean) :: ([.classLink RX4 54 "java/lang/IndexOutOfBoundsException", .initialized "java/lang/IndexOutOfBoundsException", .classLink RX4 31 "java/lang/IllegalArgumentException", .initialized "java/lang/IllegalArgumentException", .fieldLink RX4 65 "Chargehouse$Offence" "excluded" "I", .methodLink RX4 50 yX4_offenceAt, .instanceMethod yX4_offenceAt, .selects RX4 yX4_offenceAt yX4_offenceAt, .initialized RX4, .code yX4_offenceAt cX4_offenceAt 2 (some (.object "Chargehouse$Offence")), .fieldLink RX4 11 "Chargehouse" "offenceRows" "[LChargehouse$Offence;", .methodLink RX4 61 yX3_excludes, .instanceMethod yX3_excludes, .selects RX3 yX3_excludes yX3_excludes, .initialized RX3, .code yX3_excludes cX3_excludes 2 (some .boolean), .fieldLink RX3 19 "Chargehouse$Offence" "excluded" "I", .static yX4_hasBit, .code yX4_hasBit cX4_hasBit 2 (some .boolean)] ++ wsX30 ++ wsX40 ++ (vx_atS RX4 58 "java/lang/IndexOutOfBoundsException" ["java/lang/RuntimeException", "java/lang/Exception"]).filter goodWord ++ (vx_atS RX4 35 "java/lang/IllegalArgumentException" ["java/lang/RuntimeException", "java/lang/Exception"]).filter goodWord)
def wsX4_pass_r1 : List Cond := [Cond.classLink RX4 31 "java/lang/IllegalArgumentException", Cond.initialized "java/lang/IllegalArgumentException", Cond.classLink RX4 42 "java/lang/IllegalStateException", Cond.initialized "java/lang/IllegalStateException", Cond.fieldLink RX4 70 "Chargehouse" "today" "I", Cond.fieldLink RX4 17 "Chargehouse" "fileRows" "[LChargehouse$CaseFile;", Cond.fieldLink RX4 75 "Chargehouse" "clockReleases" "I", Cond.methodLink RX4 27 yX4_isWithin, Cond.static yX4_isWithin, Cond.initialized RX4, Cond.code yX4_isWithin cX4_isWithin 3 (some .boolean), Cond.methodLink RX4 78 yX1_passInCustody, Cond.instanceMethod yX1_passInCustody, Cond.selects RX1 yX1_passInCustody yX1_passInCustody, Cond.initialized RX1, Cond.code yX1_passInCustody cX1_passInCustody 7 (some .int), Cond.fieldLink RX1 11 "Chargehouse$CaseFile" "rows" "[LChargehouse$Accused;", Cond.fieldLink RX1 30 "Chargehouse$Accused" "isInCustody" "Z", Cond.methodLink RX1 34 yX0_isReleasedAfter, Cond.instanceMethod yX0_isReleasedAfter, Cond.selects RX0 yX0_isReleasedAfter yX0_isReleasedAfter, Cond.initialized RX0, Cond.code yX0_isReleasedAfter cX0_isReleasedAfter 4 (some .boolean), Cond.methodLink RX0 46 Lib.Math.min.name]
def wsX4_pass_r2 : List Cond := [Cond.static Lib.Math.min.name, Cond.initialized "java/lang/Math", Cond.code Lib.Math.min.name Lib.Math.min.code 2 (some .int), Cond.fieldLink RX0 9 "Chargehouse$Accused" "state" "I", Cond.fieldLink RX0 33 "Chargehouse$Accused" "daysWhileCharged" "I", Cond.fieldLink RX0 40 "Chargehouse$Accused" "daysWhileOpen" "I", Cond.fieldLink RX0 52 "Chargehouse$Accused" "isInCustody" "Z", Cond.methodLink RX0 43 yX0_daysLeft, Cond.instanceMethod yX0_daysLeft, Cond.selects RX0 yX0_daysLeft yX0_daysLeft, Cond.code yX0_daysLeft cX0_daysLeft 1 (some .int), Cond.methodLink RX0 36 yX0_ceilingWhileOpen, Cond.instanceMethod yX0_ceilingWhileOpen, Cond.selects RX0 yX0_ceilingWhileOpen yX0_ceilingWhileOpen, Cond.code yX0_ceilingWhileOpen cX0_ceilingWhileOpen 1 (some .int), Cond.fieldLink RX0 26 "Chargehouse$Accused" "extendedBy" "I", Cond.static yX4_hasBit, Cond.code yX4_hasBit cX4_hasBit 2 (some .boolean)]
def wsX4_pass : List Cond := .code yX4_pass cX4_pass 6 (some .int) :: ((wsX4_pass_r1 ++ wsX4_pass_r2) ++ wsX40 ++ wsX10 ++ wsX00 ++ (vx_atS RX4 35 "java/lang/IllegalArgumentException" ["java/lang/RuntimeException", "java/lang/Exception"]).filter goodWord ++ (vx_atS RX4 46 "java/lang/IllegalStateException" ["java/lang/RuntimeException", "java/lang/Exception"]).filter goodWord)
def wsX4_file_r1 : List Cond := [Cond.classLink RX4 31 "java/lang/IllegalArgumentException", Cond.initialized "java/lang/IllegalArgumentException", Cond.classLink RX4 42 "java/lang/IllegalStateException", Cond.initialized "java/lang/IllegalStateException", Cond.fieldLink RX4 70 "Chargehouse" "today" "I", Cond.fieldLink RX4 84 "Chargehouse" "fileCount" "I", Cond.fieldLink RX4 17 "Chargehouse" "fileRows" "[LChargehouse$CaseFile;", Cond.classLink RX4 15 RX1, Cond.instantiable RX1 5, Cond.initialized RX1, Cond.fieldLink RX4 92 "Chargehouse$CaseFile" "rows" "[LChargehouse$Accused;", Cond.classLink RX4 100 RX0, Cond.instantiable RX0 14, Cond.initialized RX0, Cond.fieldLink RX4 105 "Chargehouse$CaseFile" "number" "I", Cond.methodLink RX4 27 yX4_isWithin, Cond.static yX4_isWithin, Cond.initialized RX4, Cond.code yX4_isWithin cX4_isWithin 3 (some .boolean), Cond.methodLink RX4 89 yX1_init, Cond.instanceMethod yX1_init, Cond.code yX1_init cX1_init 5 none, Cond.methodLink RX1 3 objectInit, Cond.instanceMethod objectInit]
def wsX4_file_r2 : List Cond := [Cond.code objectInit ⟨#[0xb1]⟩ 1 none, Cond.classLink RX1 9 RX0, Cond.fieldLink RX1 11 "Chargehouse$CaseFile" "rows" "[LChargehouse$Accused;", Cond.fieldLink RX1 17 "Chargehouse$CaseFile" "number" "I", Cond.fieldLink RX1 21 "Chargehouse$CaseFile" "event" "I", Cond.fieldLink RX1 24 "Chargehouse$CaseFile" "accused" "I", Cond.fieldLink RX1 27 "Chargehouse$CaseFile" "points" "I", Cond.methodLink RX4 96 yX4_hasBit, Cond.static yX4_hasBit, Cond.code yX4_hasBit cX4_hasBit 2 (some .boolean), Cond.methodLink RX4 102 yX0_init, Cond.instanceMethod yX0_init, Cond.code yX0_init cX0_init 4 none, Cond.methodLink RX0 3 objectInit, Cond.fieldLink RX0 9 "Chargehouse$Accused" "state" "I", Cond.arrayClass .int, Cond.fieldLink RX0 15 "Chargehouse$Accused" "firstAnsweredOn" "[I", Cond.fieldLink RX0 19 "Chargehouse$Accused" "file" "LChargehouse$CaseFile;", Cond.fieldLink RX0 23 "Chargehouse$Accused" "person" "I"]
def wsX4_file : List Cond := .code yX4_file cX4_file 6 (some .int) :: ((wsX4_file_r1 ++ wsX4_file_r2) ++ wsX40 ++ wsX10 ++ wsX00 ++ (vx_atS RX4 35 "java/lang/IllegalArgumentException" ["java/lang/RuntimeException", "java/lang/Exception"]).filter goodWord ++ (vx_atS RX4 46 "java/lang/IllegalStateException" ["java/lang/RuntimeException", "java/lang/Exception"]).filter goodWord)
def wsX4_fileAt : List Cond := .code yX4_fileAt cX4_fileAt 2 (some (.object "Chargehouse$CaseFile")) :: ([.fieldLink RX4 17 "Chargehouse" "fileRows" "[LChargehouse$CaseFile;"] ++ wsX40)
def wsX4_item_r1 : List Cond := [Cond.classLink RX4 54 "java/lang/IndexOutOfBoundsException", Cond.initialized "java/lang/IndexOutOfBoundsException", Cond.classLink RX4 31 "java/lang/IllegalArgumentException", Cond.initialized "java/lang/IllegalArgumentException", Cond.classLink RX4 42 "java/lang/IllegalStateException", Cond.initialized "java/lang/IllegalStateException", Cond.fieldLink RX4 119 "Chargehouse" "itemCount" "I", Cond.fieldLink RX4 23 "Chargehouse" "itemRows" "[LChargehouse$Item;", Cond.classLink RX4 21 RX2, Cond.instantiable RX2 10, Cond.initialized RX2, Cond.fieldLink RX4 70 "Chargehouse" "today" "I", Cond.methodLink RX4 108 yX4_fileAt, Cond.instanceMethod yX4_fileAt, Cond.selects RX4 yX4_fileAt yX4_fileAt, Cond.initialized RX4, Cond.code yX4_fileAt cX4_fileAt 2 (some (.object "Chargehouse$CaseFile")), Cond.fieldLink RX4 17 "Chargehouse" "fileRows" "[LChargehouse$CaseFile;", Cond.methodLink RX4 27 yX4_isWithin, Cond.static yX4_isWithin, Cond.code yX4_isWithin cX4_isWithin 3 (some .boolean), Cond.methodLink RX4 114 yX1_hasAll, Cond.instanceMethod yX1_hasAll, Cond.selects RX1 yX1_hasAll yX1_hasAll]
def wsX4_item_r2 : List Cond := [Cond.initialized RX1, Cond.code yX1_hasAll cX1_hasAll 2 (some .boolean), Cond.fieldLink RX1 24 "Chargehouse$CaseFile" "accused" "I", Cond.methodLink RX4 124 yX2_init, Cond.instanceMethod yX2_init, Cond.code yX2_init cX2_init 8 none, Cond.methodLink RX2 3 objectInit, Cond.instanceMethod objectInit, Cond.code objectInit ⟨#[0xb1]⟩ 1 none, Cond.fieldLink RX2 9 "Chargehouse$Item" "admittedOn" "I", Cond.fieldLink RX2 15 "Chargehouse$Item" "file" "I", Cond.fieldLink RX2 18 "Chargehouse$Item" "element" "I", Cond.fieldLink RX2 21 "Chargehouse$Item" "weight" "I", Cond.fieldLink RX2 24 "Chargehouse$Item" "against" "I", Cond.fieldLink RX2 27 "Chargehouse$Item" "how" "I", Cond.fieldLink RX2 30 "Chargehouse$Item" "isSensitive" "Z", Cond.fieldLink RX2 34 "Chargehouse$Item" "cameOn" "I"]
def wsX4_item : List Cond := .code yX4_item cX4_item 8 (some .int) :: ((wsX4_item_r1 ++ wsX4_item_r2) ++ wsX40 ++ wsX20 ++ wsX10 ++ (vx_atS RX4 58 "java/lang/IndexOutOfBoundsException" ["java/lang/RuntimeException", "java/lang/Exception"]).filter goodWord ++ (vx_atS RX4 35 "java/lang/IllegalArgumentException" ["java/lang/RuntimeException", "java/lang/Exception"]).filter goodWord ++ (vx_atS RX4 46 "java/lang/IllegalStateException" ["java/lang/RuntimeException", "java/lang/Exception"]).filter goodWord)
def wsX4_itemAt : List Cond := .code yX4_itemAt cX4_itemAt 2 (some (.object "Chargehouse$Item")) :: ([.fieldLink RX4 23 "Chargehouse" "itemRows" "[LChargehouse$Item;"] ++ wsX40)
def wsX4_admit : List Cond := .code yX4_admit cX4_admit 3 none :: ([.classLink RX4 54 "java/lang/IndexOutOfBoundsException", .initialized "java/lang/IndexOutOfBoundsException", .classLink RX4 42 "java/lang/IllegalStateException", .initialized "java/lang/IllegalStateException", .fieldLink RX4 133 "Chargehouse$Item" "how" "I", .fieldLink RX4 136 "Chargehouse$Item" "admittedOn" "I", .fieldLink RX4 70 "Chargehouse" "today" "I", .methodLink RX4 127 yX4_itemAt, .instanceMethod yX4_itemAt, .selects RX4 yX4_itemAt yX4_itemAt, .initialized RX4, .code yX4_itemAt cX4_itemAt 2 (some (.object "Chargehouse$Item")), .fieldLink RX4 23 "Chargehouse" "itemRows" "[LChargehouse$Item;"] ++ wsX20 ++ wsX40 ++ (vx_atS RX4 58 "java/lang/IndexOutOfBoundsException" ["java/lang/RuntimeException", "java/lang/Exception"]).filter goodWord ++ (vx_atS RX4 46 "java/lang/IllegalStateException" ["java/lang/RuntimeException", "java/lang/Exception"]).filter goodWord)
def wsX4_lackedBy : List Cond := .code yX4_lackedBy cX4_lackedBy 8 (some .int) :: ([.fieldLink RX4 23 "Chargehouse" "itemRows" "[LChargehouse$Item;", .fieldLink RX4 154 "Chargehouse$Item" "file" "I", .methodLink RX4 383 yX2_isLackedBy, .instanceMethod yX2_isLackedBy, .selects RX2 yX2_isLackedBy yX2_isLackedBy, .initialized RX2, .code yX2_isLackedBy cX2_isLackedBy 2 (some .boolean), .fieldLink RX2 21 "Chargehouse$Item" "weight" "I", .fieldLink RX2 51 "Chargehouse$Item" "isWithheld" "Z", .methodLink RX2 44 yX2_isAgainst, .instanceMethod yX2_isAgainst, .selects RX2 yX2_isAgainst yX2_isAgainst, .code yX2_isAgainst cX2_isAgainst 2 (some .boolean), .fieldLink RX2 24 "Chargehouse$Item" "against" "I", .static yX4_hasBit, .initialized RX4, .code yX4_hasBit cX4_hasBit 2 (some .boolean), .methodLink RX2 48 yX2_wasShownTo, .instanceMethod yX2_wasShownTo, .selects RX2 yX2_wasShownTo yX2_wasShownTo, .code yX2_wasShownTo cX2_wasShownTo 2 (some .boolean), .fieldLink RX2 41 "Chargehouse$Item" "shownTo" "I"] ++ wsX40 ++ wsX20)
def wsX4_show_r1 : List Cond := [Cond.classLink RX4 54 "java/lang/IndexOutOfBoundsException", Cond.initialized "java/lang/IndexOutOfBoundsException", Cond.classLink RX4 42 "java/lang/IllegalStateException", Cond.initialized "java/lang/IllegalStateException", Cond.fieldLink RX4 151 "Chargehouse$Item" "shownTo" "I", Cond.fieldLink RX4 154 "Chargehouse$Item" "file" "I", Cond.methodLink RX4 127 yX4_itemAt, Cond.instanceMethod yX4_itemAt, Cond.selects RX4 yX4_itemAt yX4_itemAt, Cond.initialized RX4, Cond.code yX4_itemAt cX4_itemAt 2 (some (.object "Chargehouse$Item")), Cond.fieldLink RX4 23 "Chargehouse" "itemRows" "[LChargehouse$Item;", Cond.methodLink RX4 27 yX4_isWithin, Cond.static yX4_isWithin, Cond.code yX4_isWithin cX4_isWithin 3 (some .boolean), Cond.methodLink RX4 143 yX2_isAgainst, Cond.instanceMethod yX2_isAgainst, Cond.selects RX2 yX2_isAgainst yX2_isAgainst, Cond.initialized RX2, Cond.code yX2_isAgainst cX2_isAgainst 2 (some .boolean), Cond.fieldLink RX2 24 "Chargehouse$Item" "against" "I", Cond.static yX4_hasBit, Cond.code yX4_hasBit cX4_hasBit 2 (some .boolean), Cond.methodLink RX4 146 yX2_wasShownTo]
def wsX4_show_r2 : List Cond := [Cond.instanceMethod yX2_wasShownTo, Cond.selects RX2 yX2_wasShownTo yX2_wasShownTo, Cond.code yX2_wasShownTo cX2_wasShownTo 2 (some .boolean), Cond.fieldLink RX2 41 "Chargehouse$Item" "shownTo" "I", Cond.methodLink RX4 157 yX4_lackedBy, Cond.instanceMethod yX4_lackedBy, Cond.selects RX4 yX4_lackedBy yX4_lackedBy, Cond.code yX4_lackedBy cX4_lackedBy 8 (some .int), Cond.methodLink RX4 383 yX2_isLackedBy, Cond.instanceMethod yX2_isLackedBy, Cond.selects RX2 yX2_isLackedBy yX2_isLackedBy, Cond.code yX2_isLackedBy cX2_isLackedBy 2 (some .boolean), Cond.fieldLink RX2 21 "Chargehouse$Item" "weight" "I", Cond.fieldLink RX2 51 "Chargehouse$Item" "isWithheld" "Z", Cond.methodLink RX2 44 yX2_isAgainst, Cond.methodLink RX2 48 yX2_wasShownTo]
def wsX4_show : List Cond := .code yX4_show cX4_show 4 (some .int) :: ((wsX4_show_r1 ++ wsX4_show_r2) ++ wsX20 ++ wsX40 ++ (vx_atS RX4 58 "java/lang/IndexOutOfBoundsException" ["java/lang/RuntimeException", "java/lang/Exception"]).filter goodWord ++ (vx_atS RX4 46 "java/lang/IllegalStateException" ["java/lang/RuntimeException", "java/lang/Exception"]).filter goodWord)
def wsX4_withhold : List Cond := .code yX4_withhold cX4_withhold 3 none :: ([.classLink RX4 54 "java/lang/IndexOutOfBoundsException", .initialized "java/lang/IndexOutOfBoundsException", .classLink RX4 42 "java/lang/IllegalStateException", .initialized "java/lang/IllegalStateException", .fieldLink RX4 161 "Chargehouse$Item" "isSensitive" "Z", .fieldLink RX4 165 "Chargehouse$Item" "isWithheld" "Z", .methodLink RX4 127 yX4_itemAt, .instanceMethod yX4_itemAt, .selects RX4 yX4_itemAt yX4_itemAt, .initialized RX4, .code yX4_itemAt cX4_itemAt 2 (some (.object "Chargehouse$Item")), .fieldLink RX4 23 "Chargehouse" "itemRows" "[LChargehouse$Item;"] ++ wsX20 ++ wsX40 ++ (vx_atS RX4 58 "java/lang/IndexOutOfBoundsException" ["java/lang/RuntimeException", "java/lang/Exception"]).filter goodWord ++ (vx_atS RX4 46 "java/lang/IllegalStateException" ["java/lang/RuntimeException", "java/lang/Exception"]).filter goodWord)
def wsX4_accusedAt : List Cond := .code yX4_accusedAt cX4_accusedAt 5 (some (.object "Chargehouse$Accused")) :: ([.classLink RX4 54 "java/lang/IndexOutOfBoundsException", .initialized "java/lang/IndexOutOfBoundsException", .methodLink RX4 108 yX4_fileAt, .instanceMethod yX4_fileAt, .selects RX4 yX4_fileAt yX4_fileAt, .initialized RX4, .code yX4_fileAt cX4_fileAt 2 (some (.object "Chargehouse$CaseFile")), .fieldLink RX4 17 "Chargehouse" "fileRows" "[LChargehouse$CaseFile;", .methodLink RX4 325 yX1_rowOf, .instanceMethod yX1_rowOf, .selects RX1 yX1_rowOf yX1_rowOf, .initialized RX1, .code yX1_rowOf cX1_rowOf 2 (some (.object "Chargehouse$Accused")), .fieldLink RX1 11 "Chargehouse$CaseFile" "rows" "[LChargehouse$Accused;"] ++ wsX40 ++ wsX10 ++ (vx_atS RX4 58 "java/lang/IndexOutOfBoundsException" ["java/lang/RuntimeException", "java/lang/Exception"]).filter goodWord)
def wsX4_checkToldOffences : List Cond := .code yX4_checkToldOffences cX4_checkToldOffences 3 none :: ([.classLink RX4 31 "java/lang/IllegalArgumentException", .initialized "java/lang/IllegalArgumentException", .fieldLink RX4 38 "Chargehouse" "offenceCount" "I"] ++ wsX40 ++ (vx_atS RX4 35 "java/lang/IllegalArgumentException" ["java/lang/RuntimeException", "java/lang/Exception"]).filter goodWord)
def wsX4_isSpent : List Cond := .code yX4_isSpent cX4_isSpent 6 (some .boolean) :: ([.fieldLink RX4 11 "Chargehouse" "offenceRows" "[LChargehouse$Offence;", .methodLink RX4 341 yX3_isAkinTo, .instanceMethod yX3_isAkinTo, .selects RX3 yX3_isAkinTo yX3_isAkinTo, .initialized RX3, .code yX3_isAkinTo cX3_isAkinTo 2 (some .boolean), .fieldLink RX3 7 "Chargehouse$Offence" "elements" "I", .methodLink RX3 28 yX3_nestsIn, .instanceMethod yX3_nestsIn, .selects RX3 yX3_nestsIn yX3_nestsIn, .code yX3_nestsIn cX3_nestsIn 2 (some .boolean), .methodLink RX4 344 yX0_hadAnswered, .instanceMethod yX0_hadAnswered, .selects RX0 yX0_hadAnswered yX0_hadAnswered, .initialized RX0, .code yX0_hadAnswered cX0_hadAnswered 3 (some .boolean), .fieldLink RX0 15 "Chargehouse$Accused" "firstAnsweredOn" "[I"] ++ wsX40 ++ wsX30 ++ wsX00)
def wsX4_strengthAgainst : List Cond := .code yX4_strengthAgainst cX4_strengthAgainst 9 (some .int) :: ([.fieldLink RX4 23 "Chargehouse" "itemRows" "[LChargehouse$Item;", .fieldLink RX4 154 "Chargehouse$Item" "file" "I", .fieldLink RX4 293 "Chargehouse$Accused" "file" "LChargehouse$CaseFile;", .fieldLink RX4 105 "Chargehouse$CaseFile" "number" "I", .fieldLink RX4 299 "Chargehouse$Item" "element" "I", .fieldLink RX4 296 "Chargehouse$Accused" "person" "I", .fieldLink RX4 302 "Chargehouse$Item" "weight" "I", .methodLink RX4 143 yX2_isAgainst, .instanceMethod yX2_isAgainst, .selects RX2 yX2_isAgainst yX2_isAgainst, .initialized RX2, .code yX2_isAgainst cX2_isAgainst 2 (some .boolean), .fieldLink RX2 24 "Chargehouse$Item" "against" "I", .static yX4_hasBit, .initialized RX4, .code yX4_hasBit cX4_hasBit 2 (some .boolean), .methodLink RX4 335 yX2_countsOn, .instanceMethod yX2_countsOn, .selects RX2 yX2_countsOn yX2_countsOn, .code yX2_countsOn cX2_countsOn 3 (some .boolean), .fieldLink RX2 9 "Chargehouse$Item" "admittedOn" "I", .fieldLink RX2 34 "Chargehouse$Item" "cameOn" "I", .fieldLink RX2 27 "Chargehouse$Item" "how" "I"] ++ wsX40 ++ wsX20 ++ wsX00 ++ wsX10)
def wsX4_hasStrength_r1 : List Cond := [Cond.fieldLink RX4 338 "Chargehouse$Offence" "elements" "I", Cond.methodLink RX4 96 yX4_hasBit, Cond.static yX4_hasBit, Cond.initialized RX4, Cond.code yX4_hasBit cX4_hasBit 2 (some .boolean), Cond.methodLink RX4 279 yX4_strengthAgainst, Cond.instanceMethod yX4_strengthAgainst, Cond.selects RX4 yX4_strengthAgainst yX4_strengthAgainst, Cond.code yX4_strengthAgainst cX4_strengthAgainst 9 (some .int), Cond.fieldLink RX4 23 "Chargehouse" "itemRows" "[LChargehouse$Item;", Cond.fieldLink RX4 154 "Chargehouse$Item" "file" "I", Cond.fieldLink RX4 293 "Chargehouse$Accused" "file" "LChargehouse$CaseFile;", Cond.fieldLink RX4 105 "Chargehouse$CaseFile" "number" "I", Cond.fieldLink RX4 299 "Chargehouse$Item" "element" "I", Cond.fieldLink RX4 296 "Chargehouse$Accused" "person" "I", Cond.fieldLink RX4 302 "Chargehouse$Item" "weight" "I", Cond.methodLink RX4 143 yX2_isAgainst, Cond.instanceMethod yX2_isAgainst, Cond.selects RX2 yX2_isAgainst yX2_isAgainst, Cond.initialized RX2, Cond.code yX2_isAgainst cX2_isAgainst 2 (some .boolean), Cond.fieldLink RX2 24 "Chargehouse$Item" "against" "I", Cond.methodLink RX4 335 yX2_countsOn, Cond.instanceMethod yX2_countsOn]
def wsX4_hasStrength_r2 : List Cond := [Cond.selects RX2 yX2_countsOn yX2_countsOn, Cond.code yX2_countsOn cX2_countsOn 3 (some .boolean), Cond.fieldLink RX2 9 "Chargehouse$Item" "admittedOn" "I", Cond.fieldLink RX2 34 "Chargehouse$Item" "cameOn" "I", Cond.fieldLink RX2 27 "Chargehouse$Item" "how" "I"]
def wsX4_hasStrength : List Cond := .code yX4_hasStrength cX4_hasStrength 6 (some .boolean) :: ((wsX4_hasStrength_r1 ++ wsX4_hasStrength_r2) ++ wsX30 ++ wsX40 ++ wsX20 ++ wsX00 ++ wsX10)
def wsX4_hindrance_r1 : List Cond := [Cond.fieldLink RX4 293 "Chargehouse$Accused" "file" "LChargehouse$CaseFile;", Cond.fieldLink RX4 351 "Chargehouse$CaseFile" "event" "I", Cond.fieldLink RX4 354 "Chargehouse$Offence" "limit" "I", Cond.fieldLink RX4 361 "Chargehouse$Offence" "gravity" "I", Cond.fieldLink RX4 364 "Chargehouse$CaseFile" "points" "I", Cond.methodLink RX4 347 yX4_isSpent, Cond.instanceMethod yX4_isSpent, Cond.selects RX4 yX4_isSpent yX4_isSpent, Cond.initialized RX4, Cond.code yX4_isSpent cX4_isSpent 6 (some .boolean), Cond.fieldLink RX4 11 "Chargehouse" "offenceRows" "[LChargehouse$Offence;", Cond.methodLink RX4 341 yX3_isAkinTo, Cond.instanceMethod yX3_isAkinTo, Cond.selects RX3 yX3_isAkinTo yX3_isAkinTo, Cond.initialized RX3, Cond.code yX3_isAkinTo cX3_isAkinTo 2 (some .boolean), Cond.fieldLink RX3 7 "Chargehouse$Offence" "elements" "I", Cond.methodLink RX3 28 yX3_nestsIn, Cond.instanceMethod yX3_nestsIn, Cond.selects RX3 yX3_nestsIn yX3_nestsIn, Cond.code yX3_nestsIn cX3_nestsIn 2 (some .boolean), Cond.methodLink RX4 344 yX0_hadAnswered, Cond.instanceMethod yX0_hadAnswered, Cond.selects RX0 yX0_hadAnswered yX0_hadAnswered]
def wsX4_hindrance_r2 : List Cond := [Cond.initialized RX0, Cond.code yX0_hadAnswered cX0_hadAnswered 3 (some .boolean), Cond.fieldLink RX0 15 "Chargehouse$Accused" "firstAnsweredOn" "[I", Cond.methodLink RX4 357 yX4_hasStrength, Cond.instanceMethod yX4_hasStrength, Cond.selects RX4 yX4_hasStrength yX4_hasStrength, Cond.code yX4_hasStrength cX4_hasStrength 6 (some .boolean), Cond.fieldLink RX4 338 "Chargehouse$Offence" "elements" "I", Cond.methodLink RX4 96 yX4_hasBit, Cond.static yX4_hasBit, Cond.code yX4_hasBit cX4_hasBit 2 (some .boolean), Cond.methodLink RX4 279 yX4_strengthAgainst, Cond.instanceMethod yX4_strengthAgainst, Cond.selects RX4 yX4_strengthAgainst yX4_strengthAgainst, Cond.code yX4_strengthAgainst cX4_strengthAgainst 9 (some .int), Cond.fieldLink RX4 23 "Chargehouse" "itemRows" "[LChargehouse$Item;", Cond.fieldLink RX4 154 "Chargehouse$Item" "file" "I", Cond.fieldLink RX4 105 "Chargehouse$CaseFile" "number" "I", Cond.fieldLink RX4 299 "Chargehouse$Item" "element" "I", Cond.fieldLink RX4 296 "Chargehouse$Accused" "person" "I", Cond.fieldLink RX4 302 "Chargehouse$Item" "weight" "I", Cond.methodLink RX4 143 yX2_isAgainst, Cond.instanceMethod yX2_isAgainst, Cond.selects RX2 yX2_isAgainst yX2_isAgainst]
def wsX4_hindrance_r3 : List Cond := [Cond.initialized RX2, Cond.code yX2_isAgainst cX2_isAgainst 2 (some .boolean), Cond.fieldLink RX2 24 "Chargehouse$Item" "against" "I", Cond.methodLink RX4 335 yX2_countsOn, Cond.instanceMethod yX2_countsOn, Cond.selects RX2 yX2_countsOn yX2_countsOn, Cond.code yX2_countsOn cX2_countsOn 3 (some .boolean), Cond.fieldLink RX2 9 "Chargehouse$Item" "admittedOn" "I", Cond.fieldLink RX2 34 "Chargehouse$Item" "cameOn" "I", Cond.fieldLink RX2 27 "Chargehouse$Item" "how" "I"]
def wsX4_hindrance : List Cond := .code yX4_hindrance cX4_hindrance 4 (some .int) :: ((wsX4_hindrance_r1 ++ (wsX4_hindrance_r2 ++ wsX4_hindrance_r3)) ++ wsX00 ++ wsX10 ++ wsX30 ++ wsX40 ++ wsX20)
def wsX4_chargeable_r1 : List Cond := [Cond.fieldLink RX4 11 "Chargehouse" "offenceRows" "[LChargehouse$Offence;", Cond.methodLink RX4 283 yX4_hindrance, Cond.instanceMethod yX4_hindrance, Cond.selects RX4 yX4_hindrance yX4_hindrance, Cond.initialized RX4, Cond.code yX4_hindrance cX4_hindrance 4 (some .int), Cond.fieldLink RX4 293 "Chargehouse$Accused" "file" "LChargehouse$CaseFile;", Cond.fieldLink RX4 351 "Chargehouse$CaseFile" "event" "I", Cond.fieldLink RX4 354 "Chargehouse$Offence" "limit" "I", Cond.fieldLink RX4 361 "Chargehouse$Offence" "gravity" "I", Cond.fieldLink RX4 364 "Chargehouse$CaseFile" "points" "I", Cond.methodLink RX4 347 yX4_isSpent, Cond.instanceMethod yX4_isSpent, Cond.selects RX4 yX4_isSpent yX4_isSpent, Cond.code yX4_isSpent cX4_isSpent 6 (some .boolean), Cond.methodLink RX4 341 yX3_isAkinTo, Cond.instanceMethod yX3_isAkinTo, Cond.selects RX3 yX3_isAkinTo yX3_isAkinTo, Cond.initialized RX3, Cond.code yX3_isAkinTo cX3_isAkinTo 2 (some .boolean), Cond.fieldLink RX3 7 "Chargehouse$Offence" "elements" "I", Cond.methodLink RX3 28 yX3_nestsIn, Cond.instanceMethod yX3_nestsIn, Cond.selects RX3 yX3_nestsIn yX3_nestsIn]
def wsX4_chargeable_r2 : List Cond := [Cond.code yX3_nestsIn cX3_nestsIn 2 (some .boolean), Cond.methodLink RX4 344 yX0_hadAnswered, Cond.instanceMethod yX0_hadAnswered, Cond.selects RX0 yX0_hadAnswered yX0_hadAnswered, Cond.initialized RX0, Cond.code yX0_hadAnswered cX0_hadAnswered 3 (some .boolean), Cond.fieldLink RX0 15 "Chargehouse$Accused" "firstAnsweredOn" "[I", Cond.methodLink RX4 357 yX4_hasStrength, Cond.instanceMethod yX4_hasStrength, Cond.selects RX4 yX4_hasStrength yX4_hasStrength, Cond.code yX4_hasStrength cX4_hasStrength 6 (some .boolean), Cond.fieldLink RX4 338 "Chargehouse$Offence" "elements" "I", Cond.methodLink RX4 96 yX4_hasBit, Cond.static yX4_hasBit, Cond.code yX4_hasBit cX4_hasBit 2 (some .boolean), Cond.methodLink RX4 279 yX4_strengthAgainst, Cond.instanceMethod yX4_strengthAgainst, Cond.selects RX4 yX4_strengthAgainst yX4_strengthAgainst, Cond.code yX4_strengthAgainst cX4_strengthAgainst 9 (some .int), Cond.fieldLink RX4 23 "Chargehouse" "itemRows" "[LChargehouse$Item;", Cond.fieldLink RX4 154 "Chargehouse$Item" "file" "I", Cond.fieldLink RX4 105 "Chargehouse$CaseFile" "number" "I", Cond.fieldLink RX4 299 "Chargehouse$Item" "element" "I", Cond.fieldLink RX4 296 "Chargehouse$Accused" "person" "I"]
def wsX4_chargeable_r3 : List Cond := [Cond.fieldLink RX4 302 "Chargehouse$Item" "weight" "I", Cond.methodLink RX4 143 yX2_isAgainst, Cond.instanceMethod yX2_isAgainst, Cond.selects RX2 yX2_isAgainst yX2_isAgainst, Cond.initialized RX2, Cond.code yX2_isAgainst cX2_isAgainst 2 (some .boolean), Cond.fieldLink RX2 24 "Chargehouse$Item" "against" "I", Cond.methodLink RX4 335 yX2_countsOn, Cond.instanceMethod yX2_countsOn, Cond.selects RX2 yX2_countsOn yX2_countsOn, Cond.code yX2_countsOn cX2_countsOn 3 (some .boolean), Cond.fieldLink RX2 9 "Chargehouse$Item" "admittedOn" "I", Cond.fieldLink RX2 34 "Chargehouse$Item" "cameOn" "I", Cond.fieldLink RX2 27 "Chargehouse$Item" "how" "I"]
def wsX4_chargeable : List Cond := .code yX4_chargeable cX4_chargeable 6 (some .int) :: ((wsX4_chargeable_r1 ++ (wsX4_chargeable_r2 ++ wsX4_chargeable_r3)) ++ wsX40 ++ wsX00 ++ wsX10 ++ wsX30 ++ wsX20)
def wsJ6_bitCount_0f7a4 : List Cond := .code yJ6_bitCount_0f7a4 cJ6_bitCount_0f7a4 1 (some .int) :: ([.constant RJ6 265 (1431655765), .constant RJ6 266 (858993459), .constant RJ6 267 (252645135)])
def wsX4_matesOf : List Cond := .code yX4_matesOf cX4_matesOf 6 (some .int) :: ([.fieldLink RX4 11 "Chargehouse" "offenceRows" "[LChargehouse$Offence;", .methodLink RX4 50 yX4_offenceAt, .instanceMethod yX4_offenceAt, .selects RX4 yX4_offenceAt yX4_offenceAt, .initialized RX4, .code yX4_offenceAt cX4_offenceAt 2 (some (.object "Chargehouse$Offence")), .methodLink RX4 61 yX3_excludes, .instanceMethod yX3_excludes, .selects RX3 yX3_excludes yX3_excludes, .initialized RX3, .code yX3_excludes cX3_excludes 2 (some .boolean), .fieldLink RX3 19 "Chargehouse$Offence" "excluded" "I", .static yX4_hasBit, .code yX4_hasBit cX4_hasBit 2 (some .boolean), .methodLink RX4 341 yX3_isAkinTo, .instanceMethod yX3_isAkinTo, .selects RX3 yX3_isAkinTo yX3_isAkinTo, .code yX3_isAkinTo cX3_isAkinTo 2 (some .boolean), .fieldLink RX3 7 "Chargehouse$Offence" "elements" "I", .methodLink RX3 28 yX3_nestsIn, .instanceMethod yX3_nestsIn, .selects RX3 yX3_nestsIn yX3_nestsIn, .code yX3_nestsIn cX3_nestsIn 2 (some .boolean)] ++ wsX40 ++ wsX30)
def wsX4_isRight_r1 : List Cond := [Cond.fieldLink RX4 11 "Chargehouse" "offenceRows" "[LChargehouse$Offence;", Cond.methodLink RX4 227 yJ6_bitCount_0f7a4, Cond.static yJ6_bitCount_0f7a4, Cond.initialized RJ6, Cond.code yJ6_bitCount_0f7a4 cJ6_bitCount_0f7a4 1 (some .int), Cond.constant RJ6 265 (1431655765), Cond.constant RJ6 266 (858993459), Cond.constant RJ6 267 (252645135), Cond.methodLink RX4 96 yX4_hasBit, Cond.static yX4_hasBit, Cond.initialized RX4, Cond.code yX4_hasBit cX4_hasBit 2 (some .boolean), Cond.methodLink RX4 367 yX4_matesOf, Cond.instanceMethod yX4_matesOf, Cond.selects RX4 yX4_matesOf yX4_matesOf, Cond.code yX4_matesOf cX4_matesOf 6 (some .int), Cond.methodLink RX4 50 yX4_offenceAt, Cond.instanceMethod yX4_offenceAt, Cond.selects RX4 yX4_offenceAt yX4_offenceAt, Cond.code yX4_offenceAt cX4_offenceAt 2 (some (.object "Chargehouse$Offence")), Cond.methodLink RX4 61 yX3_excludes, Cond.instanceMethod yX3_excludes, Cond.selects RX3 yX3_excludes yX3_excludes, Cond.initialized RX3]
def wsX4_isRight_r2 : List Cond := [Cond.code yX3_excludes cX3_excludes 2 (some .boolean), Cond.fieldLink RX3 19 "Chargehouse$Offence" "excluded" "I", Cond.methodLink RX4 341 yX3_isAkinTo, Cond.instanceMethod yX3_isAkinTo, Cond.selects RX3 yX3_isAkinTo yX3_isAkinTo, Cond.code yX3_isAkinTo cX3_isAkinTo 2 (some .boolean), Cond.fieldLink RX3 7 "Chargehouse$Offence" "elements" "I", Cond.methodLink RX3 28 yX3_nestsIn, Cond.instanceMethod yX3_nestsIn, Cond.selects RX3 yX3_nestsIn yX3_nestsIn, Cond.code yX3_nestsIn cX3_nestsIn 2 (some .boolean)]
def wsX4_isRight : List Cond := .code yX4_isRight cX4_isRight 5 (some .boolean) :: ((wsX4_isRight_r1 ++ wsX4_isRight_r2) ++ wsX40 ++ wsX30)
def wsX4_gravityOf : List Cond := .code yX4_gravityOf cX4_gravityOf 5 (some .int) :: ([.fieldLink RX4 11 "Chargehouse" "offenceRows" "[LChargehouse$Offence;", .fieldLink RX4 361 "Chargehouse$Offence" "gravity" "I", .methodLink RX4 96 yX4_hasBit, .static yX4_hasBit, .initialized RX4, .code yX4_hasBit cX4_hasBit 2 (some .boolean)] ++ wsX40 ++ wsX30)
def wsX4_charge_r1 : List Cond := [Cond.classLink RX4 42 "java/lang/IllegalStateException", Cond.initialized "java/lang/IllegalStateException", Cond.fieldLink RX4 178 "Chargehouse$Accused" "state" "I", Cond.fieldLink RX4 70 "Chargehouse" "today" "I", Cond.fieldLink RX4 190 "Chargehouse$Accused" "charges" "I", Cond.fieldLink RX4 193 "Chargehouse$Accused" "chargedOn" "I", Cond.methodLink RX4 170 yX4_accusedAt, Cond.instanceMethod yX4_accusedAt, Cond.selects RX4 yX4_accusedAt yX4_accusedAt, Cond.initialized RX4, Cond.code yX4_accusedAt cX4_accusedAt 5 (some (.object "Chargehouse$Accused")), Cond.classLink RX4 54 "java/lang/IndexOutOfBoundsException", Cond.initialized "java/lang/IndexOutOfBoundsException", Cond.methodLink RX4 108 yX4_fileAt, Cond.instanceMethod yX4_fileAt, Cond.selects RX4 yX4_fileAt yX4_fileAt, Cond.code yX4_fileAt cX4_fileAt 2 (some (.object "Chargehouse$CaseFile")), Cond.fieldLink RX4 17 "Chargehouse" "fileRows" "[LChargehouse$CaseFile;", Cond.methodLink RX4 325 yX1_rowOf, Cond.instanceMethod yX1_rowOf, Cond.selects RX1 yX1_rowOf yX1_rowOf, Cond.initialized RX1, Cond.code yX1_rowOf cX1_rowOf 2 (some (.object "Chargehouse$Accused")), Cond.fieldLink RX1 11 "Chargehouse$CaseFile" "rows" "[LChargehouse$Accused;"]
def wsX4_charge_r2 : List Cond := [Cond.methodLink RX4 174 yX4_checkToldOffences, Cond.instanceMethod yX4_checkToldOffences, Cond.selects RX4 yX4_checkToldOffences yX4_checkToldOffences, Cond.code yX4_checkToldOffences cX4_checkToldOffences 3 none, Cond.classLink RX4 31 "java/lang/IllegalArgumentException", Cond.initialized "java/lang/IllegalArgumentException", Cond.fieldLink RX4 38 "Chargehouse" "offenceCount" "I", Cond.methodLink RX4 181 yX4_chargeable, Cond.instanceMethod yX4_chargeable, Cond.selects RX4 yX4_chargeable yX4_chargeable, Cond.code yX4_chargeable cX4_chargeable 6 (some .int), Cond.fieldLink RX4 11 "Chargehouse" "offenceRows" "[LChargehouse$Offence;", Cond.methodLink RX4 283 yX4_hindrance, Cond.instanceMethod yX4_hindrance, Cond.selects RX4 yX4_hindrance yX4_hindrance, Cond.code yX4_hindrance cX4_hindrance 4 (some .int), Cond.fieldLink RX4 293 "Chargehouse$Accused" "file" "LChargehouse$CaseFile;", Cond.fieldLink RX4 351 "Chargehouse$CaseFile" "event" "I", Cond.fieldLink RX4 354 "Chargehouse$Offence" "limit" "I", Cond.fieldLink RX4 361 "Chargehouse$Offence" "gravity" "I", Cond.fieldLink RX4 364 "Chargehouse$CaseFile" "points" "I", Cond.methodLink RX4 347 yX4_isSpent, Cond.instanceMethod yX4_isSpent, Cond.selects RX4 yX4_isSpent yX4_isSpent]
def wsX4_charge_r3 : List Cond := [Cond.code yX4_isSpent cX4_isSpent 6 (some .boolean), Cond.methodLink RX4 341 yX3_isAkinTo, Cond.instanceMethod yX3_isAkinTo, Cond.selects RX3 yX3_isAkinTo yX3_isAkinTo, Cond.initialized RX3, Cond.code yX3_isAkinTo cX3_isAkinTo 2 (some .boolean), Cond.fieldLink RX3 7 "Chargehouse$Offence" "elements" "I", Cond.methodLink RX3 28 yX3_nestsIn, Cond.instanceMethod yX3_nestsIn, Cond.selects RX3 yX3_nestsIn yX3_nestsIn, Cond.code yX3_nestsIn cX3_nestsIn 2 (some .boolean), Cond.methodLink RX4 344 yX0_hadAnswered, Cond.instanceMethod yX0_hadAnswered, Cond.selects RX0 yX0_hadAnswered yX0_hadAnswered, Cond.initialized RX0, Cond.code yX0_hadAnswered cX0_hadAnswered 3 (some .boolean), Cond.fieldLink RX0 15 "Chargehouse$Accused" "firstAnsweredOn" "[I", Cond.methodLink RX4 357 yX4_hasStrength, Cond.instanceMethod yX4_hasStrength, Cond.selects RX4 yX4_hasStrength yX4_hasStrength, Cond.code yX4_hasStrength cX4_hasStrength 6 (some .boolean), Cond.fieldLink RX4 338 "Chargehouse$Offence" "elements" "I", Cond.methodLink RX4 96 yX4_hasBit, Cond.static yX4_hasBit]
def wsX4_charge_r4 : List Cond := [Cond.code yX4_hasBit cX4_hasBit 2 (some .boolean), Cond.methodLink RX4 279 yX4_strengthAgainst, Cond.instanceMethod yX4_strengthAgainst, Cond.selects RX4 yX4_strengthAgainst yX4_strengthAgainst, Cond.code yX4_strengthAgainst cX4_strengthAgainst 9 (some .int), Cond.fieldLink RX4 23 "Chargehouse" "itemRows" "[LChargehouse$Item;", Cond.fieldLink RX4 154 "Chargehouse$Item" "file" "I", Cond.fieldLink RX4 105 "Chargehouse$CaseFile" "number" "I", Cond.fieldLink RX4 299 "Chargehouse$Item" "element" "I", Cond.fieldLink RX4 296 "Chargehouse$Accused" "person" "I", Cond.fieldLink RX4 302 "Chargehouse$Item" "weight" "I", Cond.methodLink RX4 143 yX2_isAgainst, Cond.instanceMethod yX2_isAgainst, Cond.selects RX2 yX2_isAgainst yX2_isAgainst, Cond.initialized RX2, Cond.code yX2_isAgainst cX2_isAgainst 2 (some .boolean), Cond.fieldLink RX2 24 "Chargehouse$Item" "against" "I", Cond.methodLink RX4 335 yX2_countsOn, Cond.instanceMethod yX2_countsOn, Cond.selects RX2 yX2_countsOn yX2_countsOn, Cond.code yX2_countsOn cX2_countsOn 3 (some .boolean), Cond.fieldLink RX2 9 "Chargehouse$Item" "admittedOn" "I", Cond.fieldLink RX2 34 "Chargehouse$Item" "cameOn" "I", Cond.fieldLink RX2 27 "Chargehouse$Item" "how" "I"]
def wsX4_charge_r5 : List Cond := [Cond.methodLink RX4 185 yX4_isRight, Cond.instanceMethod yX4_isRight, Cond.selects RX4 yX4_isRight yX4_isRight, Cond.code yX4_isRight cX4_isRight 5 (some .boolean), Cond.methodLink RX4 227 yJ6_bitCount_0f7a4, Cond.static yJ6_bitCount_0f7a4, Cond.initialized RJ6, Cond.code yJ6_bitCount_0f7a4 cJ6_bitCount_0f7a4 1 (some .int), Cond.constant RJ6 265 (1431655765), Cond.constant RJ6 266 (858993459), Cond.constant RJ6 267 (252645135), Cond.methodLink RX4 367 yX4_matesOf, Cond.instanceMethod yX4_matesOf, Cond.selects RX4 yX4_matesOf yX4_matesOf, Cond.code yX4_matesOf cX4_matesOf 6 (some .int), Cond.methodLink RX4 50 yX4_offenceAt, Cond.instanceMethod yX4_offenceAt, Cond.selects RX4 yX4_offenceAt yX4_offenceAt, Cond.code yX4_offenceAt cX4_offenceAt 2 (some (.object "Chargehouse$Offence")), Cond.methodLink RX4 61 yX3_excludes, Cond.instanceMethod yX3_excludes, Cond.selects RX3 yX3_excludes yX3_excludes, Cond.code yX3_excludes cX3_excludes 2 (some .boolean), Cond.fieldLink RX3 19 "Chargehouse$Offence" "excluded" "I"]
def wsX4_charge_r6 : List Cond := [Cond.methodLink RX4 196 yX4_gravityOf, Cond.instanceMethod yX4_gravityOf, Cond.selects RX4 yX4_gravityOf yX4_gravityOf, Cond.code yX4_gravityOf cX4_gravityOf 5 (some .int)]
def wsX4_charge : List Cond := .code yX4_charge cX4_charge 5 (some .int) :: ((wsX4_charge_r1 ++ (wsX4_charge_r2 ++ (wsX4_charge_r3 ++ (wsX4_charge_r4 ++ (wsX4_charge_r5 ++ wsX4_charge_r6))))) ++ wsX00 ++ wsX40 ++ wsX10 ++ wsX30 ++ wsX20 ++ (vx_atS RX4 46 "java/lang/IllegalStateException" ["java/lang/RuntimeException", "java/lang/Exception"]).filter goodWord ++ (vx_atS RX4 58 "java/lang/IndexOutOfBoundsException" ["java/lang/RuntimeException", "java/lang/Exception"]).filter goodWord ++ (vx_atS RX4 35 "java/lang/IllegalArgumentException" ["java/lang/RuntimeException", "java/lang/Exception"]).filter goodWord)
def wsX4_drop_r1 : List Cond := [Cond.classLink RX4 42 "java/lang/IllegalStateException", Cond.initialized "java/lang/IllegalStateException", Cond.fieldLink RX4 178 "Chargehouse$Accused" "state" "I", Cond.fieldLink RX4 70 "Chargehouse" "today" "I", Cond.fieldLink RX4 201 "Chargehouse$Accused" "droppedOn" "I", Cond.fieldLink RX4 204 "Chargehouse$Accused" "isReviewed" "Z", Cond.fieldLink RX4 207 "Chargehouse$Accused" "isInCustody" "Z", Cond.fieldLink RX4 210 "Chargehouse" "drops" "I", Cond.methodLink RX4 170 yX4_accusedAt, Cond.instanceMethod yX4_accusedAt, Cond.selects RX4 yX4_accusedAt yX4_accusedAt, Cond.initialized RX4, Cond.code yX4_accusedAt cX4_accusedAt 5 (some (.object "Chargehouse$Accused")), Cond.classLink RX4 54 "java/lang/IndexOutOfBoundsException", Cond.initialized "java/lang/IndexOutOfBoundsException", Cond.methodLink RX4 108 yX4_fileAt, Cond.instanceMethod yX4_fileAt, Cond.selects RX4 yX4_fileAt yX4_fileAt, Cond.code yX4_fileAt cX4_fileAt 2 (some (.object "Chargehouse$CaseFile")), Cond.fieldLink RX4 17 "Chargehouse" "fileRows" "[LChargehouse$CaseFile;", Cond.methodLink RX4 325 yX1_rowOf, Cond.instanceMethod yX1_rowOf, Cond.selects RX1 yX1_rowOf yX1_rowOf, Cond.initialized RX1]
def wsX4_drop_r2 : List Cond := [Cond.code yX1_rowOf cX1_rowOf 2 (some (.object "Chargehouse$Accused")), Cond.fieldLink RX1 11 "Chargehouse$CaseFile" "rows" "[LChargehouse$Accused;"]
def wsX4_drop : List Cond := .code yX4_drop cX4_drop 4 none :: ((wsX4_drop_r1 ++ wsX4_drop_r2) ++ wsX00 ++ wsX40 ++ wsX10 ++ (vx_atS RX4 46 "java/lang/IllegalStateException" ["java/lang/RuntimeException", "java/lang/Exception"]).filter goodWord ++ (vx_atS RX4 58 "java/lang/IndexOutOfBoundsException" ["java/lang/RuntimeException", "java/lang/Exception"]).filter goodWord)
def wsX4_review_r1 : List Cond := [Cond.classLink RX4 42 "java/lang/IllegalStateException", Cond.initialized "java/lang/IllegalStateException", Cond.fieldLink RX4 178 "Chargehouse$Accused" "state" "I", Cond.fieldLink RX4 70 "Chargehouse" "today" "I", Cond.fieldLink RX4 201 "Chargehouse$Accused" "droppedOn" "I", Cond.fieldLink RX4 204 "Chargehouse$Accused" "isReviewed" "Z", Cond.fieldLink RX4 215 "Chargehouse" "reopened" "I", Cond.methodLink RX4 170 yX4_accusedAt, Cond.instanceMethod yX4_accusedAt, Cond.selects RX4 yX4_accusedAt yX4_accusedAt, Cond.initialized RX4, Cond.code yX4_accusedAt cX4_accusedAt 5 (some (.object "Chargehouse$Accused")), Cond.classLink RX4 54 "java/lang/IndexOutOfBoundsException", Cond.initialized "java/lang/IndexOutOfBoundsException", Cond.methodLink RX4 108 yX4_fileAt, Cond.instanceMethod yX4_fileAt, Cond.selects RX4 yX4_fileAt yX4_fileAt, Cond.code yX4_fileAt cX4_fileAt 2 (some (.object "Chargehouse$CaseFile")), Cond.fieldLink RX4 17 "Chargehouse" "fileRows" "[LChargehouse$CaseFile;", Cond.methodLink RX4 325 yX1_rowOf, Cond.instanceMethod yX1_rowOf, Cond.selects RX1 yX1_rowOf yX1_rowOf, Cond.initialized RX1, Cond.code yX1_rowOf cX1_rowOf 2 (some (.object "Chargehouse$Accused"))]
def wsX4_review_r2 : List Cond := [Cond.fieldLink RX1 11 "Chargehouse$CaseFile" "rows" "[LChargehouse$Accused;", Cond.methodLink RX4 181 yX4_chargeable, Cond.instanceMethod yX4_chargeable, Cond.selects RX4 yX4_chargeable yX4_chargeable, Cond.code yX4_chargeable cX4_chargeable 6 (some .int), Cond.fieldLink RX4 11 "Chargehouse" "offenceRows" "[LChargehouse$Offence;", Cond.methodLink RX4 283 yX4_hindrance, Cond.instanceMethod yX4_hindrance, Cond.selects RX4 yX4_hindrance yX4_hindrance, Cond.code yX4_hindrance cX4_hindrance 4 (some .int), Cond.fieldLink RX4 293 "Chargehouse$Accused" "file" "LChargehouse$CaseFile;", Cond.fieldLink RX4 351 "Chargehouse$CaseFile" "event" "I", Cond.fieldLink RX4 354 "Chargehouse$Offence" "limit" "I", Cond.fieldLink RX4 361 "Chargehouse$Offence" "gravity" "I", Cond.fieldLink RX4 364 "Chargehouse$CaseFile" "points" "I", Cond.methodLink RX4 347 yX4_isSpent, Cond.instanceMethod yX4_isSpent, Cond.selects RX4 yX4_isSpent yX4_isSpent, Cond.code yX4_isSpent cX4_isSpent 6 (some .boolean), Cond.methodLink RX4 341 yX3_isAkinTo, Cond.instanceMethod yX3_isAkinTo, Cond.selects RX3 yX3_isAkinTo yX3_isAkinTo, Cond.initialized RX3, Cond.code yX3_isAkinTo cX3_isAkinTo 2 (some .boolean)]
def wsX4_review_r3 : List Cond := [Cond.fieldLink RX3 7 "Chargehouse$Offence" "elements" "I", Cond.methodLink RX3 28 yX3_nestsIn, Cond.instanceMethod yX3_nestsIn, Cond.selects RX3 yX3_nestsIn yX3_nestsIn, Cond.code yX3_nestsIn cX3_nestsIn 2 (some .boolean), Cond.methodLink RX4 344 yX0_hadAnswered, Cond.instanceMethod yX0_hadAnswered, Cond.selects RX0 yX0_hadAnswered yX0_hadAnswered, Cond.initialized RX0, Cond.code yX0_hadAnswered cX0_hadAnswered 3 (some .boolean), Cond.fieldLink RX0 15 "Chargehouse$Accused" "firstAnsweredOn" "[I", Cond.methodLink RX4 357 yX4_hasStrength, Cond.instanceMethod yX4_hasStrength, Cond.selects RX4 yX4_hasStrength yX4_hasStrength, Cond.code yX4_hasStrength cX4_hasStrength 6 (some .boolean), Cond.fieldLink RX4 338 "Chargehouse$Offence" "elements" "I", Cond.methodLink RX4 96 yX4_hasBit, Cond.static yX4_hasBit, Cond.code yX4_hasBit cX4_hasBit 2 (some .boolean), Cond.methodLink RX4 279 yX4_strengthAgainst, Cond.instanceMethod yX4_strengthAgainst, Cond.selects RX4 yX4_strengthAgainst yX4_strengthAgainst, Cond.code yX4_strengthAgainst cX4_strengthAgainst 9 (some .int), Cond.fieldLink RX4 23 "Chargehouse" "itemRows" "[LChargehouse$Item;"]
def wsX4_review_r4 : List Cond := [Cond.fieldLink RX4 154 "Chargehouse$Item" "file" "I", Cond.fieldLink RX4 105 "Chargehouse$CaseFile" "number" "I", Cond.fieldLink RX4 299 "Chargehouse$Item" "element" "I", Cond.fieldLink RX4 296 "Chargehouse$Accused" "person" "I", Cond.fieldLink RX4 302 "Chargehouse$Item" "weight" "I", Cond.methodLink RX4 143 yX2_isAgainst, Cond.instanceMethod yX2_isAgainst, Cond.selects RX2 yX2_isAgainst yX2_isAgainst, Cond.initialized RX2, Cond.code yX2_isAgainst cX2_isAgainst 2 (some .boolean), Cond.fieldLink RX2 24 "Chargehouse$Item" "against" "I", Cond.methodLink RX4 335 yX2_countsOn, Cond.instanceMethod yX2_countsOn, Cond.selects RX2 yX2_countsOn yX2_countsOn, Cond.code yX2_countsOn cX2_countsOn 3 (some .boolean), Cond.fieldLink RX2 9 "Chargehouse$Item" "admittedOn" "I", Cond.fieldLink RX2 34 "Chargehouse$Item" "cameOn" "I", Cond.fieldLink RX2 27 "Chargehouse$Item" "how" "I"]
def wsX4_review : List Cond := .code yX4_review cX4_review 4 (some .boolean) :: ((wsX4_review_r1 ++ (wsX4_review_r2 ++ (wsX4_review_r3 ++ wsX4_review_r4))) ++ wsX00 ++ wsX40 ++ wsX10 ++ wsX30 ++ wsX20 ++ (vx_atS RX4 46 "java/lang/IllegalStateException" ["java/lang/RuntimeException", "java/lang/Exception"]).filter goodWord ++ (vx_atS RX4 58 "java/lang/IndexOutOfBoundsException" ["java/lang/RuntimeException", "java/lang/Exception"]).filter goodWord)
def wsX4_provenCharges_r1 : List Cond := [Cond.fieldLink RX4 11 "Chargehouse" "offenceRows" "[LChargehouse$Offence;", Cond.fieldLink RX4 190 "Chargehouse$Accused" "charges" "I", Cond.fieldLink RX4 70 "Chargehouse" "today" "I", Cond.methodLink RX4 96 yX4_hasBit, Cond.static yX4_hasBit, Cond.initialized RX4, Cond.code yX4_hasBit cX4_hasBit 2 (some .boolean), Cond.methodLink RX4 357 yX4_hasStrength, Cond.instanceMethod yX4_hasStrength, Cond.selects RX4 yX4_hasStrength yX4_hasStrength, Cond.code yX4_hasStrength cX4_hasStrength 6 (some .boolean), Cond.fieldLink RX4 338 "Chargehouse$Offence" "elements" "I", Cond.methodLink RX4 279 yX4_strengthAgainst, Cond.instanceMethod yX4_strengthAgainst, Cond.selects RX4 yX4_strengthAgainst yX4_strengthAgainst, Cond.code yX4_strengthAgainst cX4_strengthAgainst 9 (some .int), Cond.fieldLink RX4 23 "Chargehouse" "itemRows" "[LChargehouse$Item;", Cond.fieldLink RX4 154 "Chargehouse$Item" "file" "I", Cond.fieldLink RX4 293 "Chargehouse$Accused" "file" "LChargehouse$CaseFile;", Cond.fieldLink RX4 105 "Chargehouse$CaseFile" "number" "I", Cond.fieldLink RX4 299 "Chargehouse$Item" "element" "I", Cond.fieldLink RX4 296 "Chargehouse$Accused" "person" "I", Cond.fieldLink RX4 302 "Chargehouse$Item" "weight" "I", Cond.methodLink RX4 143 yX2_isAgainst]
def wsX4_provenCharges_r2 : List Cond := [Cond.instanceMethod yX2_isAgainst, Cond.selects RX2 yX2_isAgainst yX2_isAgainst, Cond.initialized RX2, Cond.code yX2_isAgainst cX2_isAgainst 2 (some .boolean), Cond.fieldLink RX2 24 "Chargehouse$Item" "against" "I", Cond.methodLink RX4 335 yX2_countsOn, Cond.instanceMethod yX2_countsOn, Cond.selects RX2 yX2_countsOn yX2_countsOn, Cond.code yX2_countsOn cX2_countsOn 3 (some .boolean), Cond.fieldLink RX2 9 "Chargehouse$Item" "admittedOn" "I", Cond.fieldLink RX2 34 "Chargehouse$Item" "cameOn" "I", Cond.fieldLink RX2 27 "Chargehouse$Item" "how" "I"]
def wsX4_provenCharges : List Cond := .code yX4_provenCharges cX4_provenCharges 5 (some .int) :: ((wsX4_provenCharges_r1 ++ wsX4_provenCharges_r2) ++ wsX40 ++ wsX00 ++ wsX30 ++ wsX20 ++ wsX10)
def wsX4_trial_r1 : List Cond := [Cond.classLink RX4 42 "java/lang/IllegalStateException", Cond.initialized "java/lang/IllegalStateException", Cond.fieldLink RX4 178 "Chargehouse$Accused" "state" "I", Cond.fieldLink RX4 224 "Chargehouse" "convictions" "I", Cond.fieldLink RX4 232 "Chargehouse" "acquittals" "I", Cond.fieldLink RX4 190 "Chargehouse$Accused" "charges" "I", Cond.fieldLink RX4 70 "Chargehouse" "today" "I", Cond.methodLink RX4 170 yX4_accusedAt, Cond.instanceMethod yX4_accusedAt, Cond.selects RX4 yX4_accusedAt yX4_accusedAt, Cond.initialized RX4, Cond.code yX4_accusedAt cX4_accusedAt 5 (some (.object "Chargehouse$Accused")), Cond.classLink RX4 54 "java/lang/IndexOutOfBoundsException", Cond.initialized "java/lang/IndexOutOfBoundsException", Cond.methodLink RX4 108 yX4_fileAt, Cond.instanceMethod yX4_fileAt, Cond.selects RX4 yX4_fileAt yX4_fileAt, Cond.code yX4_fileAt cX4_fileAt 2 (some (.object "Chargehouse$CaseFile")), Cond.fieldLink RX4 17 "Chargehouse" "fileRows" "[LChargehouse$CaseFile;", Cond.methodLink RX4 325 yX1_rowOf, Cond.instanceMethod yX1_rowOf, Cond.selects RX1 yX1_rowOf yX1_rowOf, Cond.initialized RX1, Cond.code yX1_rowOf cX1_rowOf 2 (some (.object "Chargehouse$Accused"))]
def wsX4_trial_r2 : List Cond := [Cond.fieldLink RX1 11 "Chargehouse$CaseFile" "rows" "[LChargehouse$Accused;", Cond.methodLink RX4 157 yX4_lackedBy, Cond.instanceMethod yX4_lackedBy, Cond.selects RX4 yX4_lackedBy yX4_lackedBy, Cond.code yX4_lackedBy cX4_lackedBy 8 (some .int), Cond.fieldLink RX4 23 "Chargehouse" "itemRows" "[LChargehouse$Item;", Cond.fieldLink RX4 154 "Chargehouse$Item" "file" "I", Cond.methodLink RX4 383 yX2_isLackedBy, Cond.instanceMethod yX2_isLackedBy, Cond.selects RX2 yX2_isLackedBy yX2_isLackedBy, Cond.initialized RX2, Cond.code yX2_isLackedBy cX2_isLackedBy 2 (some .boolean), Cond.fieldLink RX2 21 "Chargehouse$Item" "weight" "I", Cond.fieldLink RX2 51 "Chargehouse$Item" "isWithheld" "Z", Cond.methodLink RX2 44 yX2_isAgainst, Cond.instanceMethod yX2_isAgainst, Cond.selects RX2 yX2_isAgainst yX2_isAgainst, Cond.code yX2_isAgainst cX2_isAgainst 2 (some .boolean), Cond.fieldLink RX2 24 "Chargehouse$Item" "against" "I", Cond.static yX4_hasBit, Cond.code yX4_hasBit cX4_hasBit 2 (some .boolean), Cond.methodLink RX2 48 yX2_wasShownTo, Cond.instanceMethod yX2_wasShownTo, Cond.selects RX2 yX2_wasShownTo yX2_wasShownTo]
def wsX4_trial_r3 : List Cond := [Cond.code yX2_wasShownTo cX2_wasShownTo 2 (some .boolean), Cond.fieldLink RX2 41 "Chargehouse$Item" "shownTo" "I", Cond.methodLink RX4 220 yX4_provenCharges, Cond.instanceMethod yX4_provenCharges, Cond.selects RX4 yX4_provenCharges yX4_provenCharges, Cond.code yX4_provenCharges cX4_provenCharges 5 (some .int), Cond.fieldLink RX4 11 "Chargehouse" "offenceRows" "[LChargehouse$Offence;", Cond.methodLink RX4 96 yX4_hasBit, Cond.methodLink RX4 357 yX4_hasStrength, Cond.instanceMethod yX4_hasStrength, Cond.selects RX4 yX4_hasStrength yX4_hasStrength, Cond.code yX4_hasStrength cX4_hasStrength 6 (some .boolean), Cond.fieldLink RX4 338 "Chargehouse$Offence" "elements" "I", Cond.methodLink RX4 279 yX4_strengthAgainst, Cond.instanceMethod yX4_strengthAgainst, Cond.selects RX4 yX4_strengthAgainst yX4_strengthAgainst, Cond.code yX4_strengthAgainst cX4_strengthAgainst 9 (some .int), Cond.fieldLink RX4 293 "Chargehouse$Accused" "file" "LChargehouse$CaseFile;", Cond.fieldLink RX4 105 "Chargehouse$CaseFile" "number" "I", Cond.fieldLink RX4 299 "Chargehouse$Item" "element" "I", Cond.fieldLink RX4 296 "Chargehouse$Accused" "person" "I", Cond.fieldLink RX4 302 "Chargehouse$Item" "weight" "I", Cond.methodLink RX4 143 yX2_isAgainst, Cond.methodLink RX4 335 yX2_countsOn]
def wsX4_trial_r4 : List Cond := [Cond.instanceMethod yX2_countsOn, Cond.selects RX2 yX2_countsOn yX2_countsOn, Cond.code yX2_countsOn cX2_countsOn 3 (some .boolean), Cond.fieldLink RX2 9 "Chargehouse$Item" "admittedOn" "I", Cond.fieldLink RX2 34 "Chargehouse$Item" "cameOn" "I", Cond.fieldLink RX2 27 "Chargehouse$Item" "how" "I", Cond.methodLink RX4 227 yJ6_bitCount_0f7a4, Cond.static yJ6_bitCount_0f7a4, Cond.initialized RJ6, Cond.code yJ6_bitCount_0f7a4 cJ6_bitCount_0f7a4 1 (some .int), Cond.constant RJ6 265 (1431655765), Cond.constant RJ6 266 (858993459), Cond.constant RJ6 267 (252645135), Cond.methodLink RX4 235 yX0_answerCharges, Cond.instanceMethod yX0_answerCharges, Cond.selects RX0 yX0_answerCharges yX0_answerCharges, Cond.initialized RX0, Cond.code yX0_answerCharges cX0_answerCharges 4 none, Cond.fieldLink RX0 15 "Chargehouse$Accused" "firstAnsweredOn" "[I", Cond.fieldLink RX0 56 "Chargehouse$Accused" "charges" "I", Cond.fieldLink RX0 59 "Chargehouse$Accused" "convictedOf" "I", Cond.fieldLink RX0 33 "Chargehouse$Accused" "daysWhileCharged" "I", Cond.fieldLink RX0 52 "Chargehouse$Accused" "isInCustody" "Z", Cond.fieldLink RX0 9 "Chargehouse$Accused" "state" "I"]
def wsX4_trial : List Cond := .code yX4_trial cX4_trial 5 (some .int) :: ((wsX4_trial_r1 ++ (wsX4_trial_r2 ++ (wsX4_trial_r3 ++ wsX4_trial_r4))) ++ wsX00 ++ wsX40 ++ wsX10 ++ wsX20 ++ wsX30 ++ (vx_atS RX4 46 "java/lang/IllegalStateException" ["java/lang/RuntimeException", "java/lang/Exception"]).filter goodWord ++ (vx_atS RX4 58 "java/lang/IndexOutOfBoundsException" ["java/lang/RuntimeException", "java/lang/Exception"]).filter goodWord)
def wsX4_discountAfter : List Cond := .code yX4_discountAfter cX4_discountAfter 1 (some .int) :: ([])
def wsX4_plea_r1 : List Cond := [Cond.classLink RX4 42 "java/lang/IllegalStateException", Cond.initialized "java/lang/IllegalStateException", Cond.fieldLink RX4 178 "Chargehouse$Accused" "state" "I", Cond.fieldLink RX4 190 "Chargehouse$Accused" "charges" "I", Cond.fieldLink RX4 70 "Chargehouse" "today" "I", Cond.fieldLink RX4 193 "Chargehouse$Accused" "chargedOn" "I", Cond.fieldLink RX4 246 "Chargehouse" "pleas" "I", Cond.fieldLink RX4 224 "Chargehouse" "convictions" "I", Cond.fieldLink RX4 249 "Chargehouse$Accused" "months" "I", Cond.methodLink RX4 170 yX4_accusedAt, Cond.instanceMethod yX4_accusedAt, Cond.selects RX4 yX4_accusedAt yX4_accusedAt, Cond.initialized RX4, Cond.code yX4_accusedAt cX4_accusedAt 5 (some (.object "Chargehouse$Accused")), Cond.classLink RX4 54 "java/lang/IndexOutOfBoundsException", Cond.initialized "java/lang/IndexOutOfBoundsException", Cond.methodLink RX4 108 yX4_fileAt, Cond.instanceMethod yX4_fileAt, Cond.selects RX4 yX4_fileAt yX4_fileAt, Cond.code yX4_fileAt cX4_fileAt 2 (some (.object "Chargehouse$CaseFile")), Cond.fieldLink RX4 17 "Chargehouse" "fileRows" "[LChargehouse$CaseFile;", Cond.methodLink RX4 325 yX1_rowOf, Cond.instanceMethod yX1_rowOf, Cond.selects RX1 yX1_rowOf yX1_rowOf]
def wsX4_plea_r2 : List Cond := [Cond.initialized RX1, Cond.code yX1_rowOf cX1_rowOf 2 (some (.object "Chargehouse$Accused")), Cond.fieldLink RX1 11 "Chargehouse$CaseFile" "rows" "[LChargehouse$Accused;", Cond.methodLink RX4 174 yX4_checkToldOffences, Cond.instanceMethod yX4_checkToldOffences, Cond.selects RX4 yX4_checkToldOffences yX4_checkToldOffences, Cond.code yX4_checkToldOffences cX4_checkToldOffences 3 none, Cond.classLink RX4 31 "java/lang/IllegalArgumentException", Cond.initialized "java/lang/IllegalArgumentException", Cond.fieldLink RX4 38 "Chargehouse" "offenceCount" "I", Cond.methodLink RX4 196 yX4_gravityOf, Cond.instanceMethod yX4_gravityOf, Cond.selects RX4 yX4_gravityOf yX4_gravityOf, Cond.code yX4_gravityOf cX4_gravityOf 5 (some .int), Cond.fieldLink RX4 11 "Chargehouse" "offenceRows" "[LChargehouse$Offence;", Cond.fieldLink RX4 361 "Chargehouse$Offence" "gravity" "I", Cond.methodLink RX4 96 yX4_hasBit, Cond.static yX4_hasBit, Cond.code yX4_hasBit cX4_hasBit 2 (some .boolean), Cond.methodLink RX4 243 yX4_discountAfter, Cond.static yX4_discountAfter, Cond.code yX4_discountAfter cX4_discountAfter 1 (some .int), Cond.methodLink RX4 227 yJ6_bitCount_0f7a4, Cond.static yJ6_bitCount_0f7a4]
def wsX4_plea_r3 : List Cond := [Cond.initialized RJ6, Cond.code yJ6_bitCount_0f7a4 cJ6_bitCount_0f7a4 1 (some .int), Cond.constant RJ6 265 (1431655765), Cond.constant RJ6 266 (858993459), Cond.constant RJ6 267 (252645135), Cond.methodLink RX4 235 yX0_answerCharges, Cond.instanceMethod yX0_answerCharges, Cond.selects RX0 yX0_answerCharges yX0_answerCharges, Cond.initialized RX0, Cond.code yX0_answerCharges cX0_answerCharges 4 none, Cond.fieldLink RX0 15 "Chargehouse$Accused" "firstAnsweredOn" "[I", Cond.fieldLink RX0 56 "Chargehouse$Accused" "charges" "I", Cond.fieldLink RX0 59 "Chargehouse$Accused" "convictedOf" "I", Cond.fieldLink RX0 33 "Chargehouse$Accused" "daysWhileCharged" "I", Cond.fieldLink RX0 52 "Chargehouse$Accused" "isInCustody" "Z", Cond.fieldLink RX0 9 "Chargehouse$Accused" "state" "I"]
def wsX4_plea : List Cond := .code yX4_plea cX4_plea 7 (some .int) :: ((wsX4_plea_r1 ++ (wsX4_plea_r2 ++ wsX4_plea_r3)) ++ wsX00 ++ wsX40 ++ wsX10 ++ wsX30 ++ (vx_atS RX4 46 "java/lang/IllegalStateException" ["java/lang/RuntimeException", "java/lang/Exception"]).filter goodWord ++ (vx_atS RX4 58 "java/lang/IndexOutOfBoundsException" ["java/lang/RuntimeException", "java/lang/Exception"]).filter goodWord ++ (vx_atS RX4 35 "java/lang/IllegalArgumentException" ["java/lang/RuntimeException", "java/lang/Exception"]).filter goodWord)
def wsX4_arrest_r1 : List Cond := [Cond.classLink RX4 42 "java/lang/IllegalStateException", Cond.initialized "java/lang/IllegalStateException", Cond.fieldLink RX4 178 "Chargehouse$Accused" "state" "I", Cond.fieldLink RX4 207 "Chargehouse$Accused" "isInCustody" "Z", Cond.methodLink RX4 170 yX4_accusedAt, Cond.instanceMethod yX4_accusedAt, Cond.selects RX4 yX4_accusedAt yX4_accusedAt, Cond.initialized RX4, Cond.code yX4_accusedAt cX4_accusedAt 5 (some (.object "Chargehouse$Accused")), Cond.classLink RX4 54 "java/lang/IndexOutOfBoundsException", Cond.initialized "java/lang/IndexOutOfBoundsException", Cond.methodLink RX4 108 yX4_fileAt, Cond.instanceMethod yX4_fileAt, Cond.selects RX4 yX4_fileAt yX4_fileAt, Cond.code yX4_fileAt cX4_fileAt 2 (some (.object "Chargehouse$CaseFile")), Cond.fieldLink RX4 17 "Chargehouse" "fileRows" "[LChargehouse$CaseFile;", Cond.methodLink RX4 325 yX1_rowOf, Cond.instanceMethod yX1_rowOf, Cond.selects RX1 yX1_rowOf yX1_rowOf, Cond.initialized RX1, Cond.code yX1_rowOf cX1_rowOf 2 (some (.object "Chargehouse$Accused")), Cond.fieldLink RX1 11 "Chargehouse$CaseFile" "rows" "[LChargehouse$Accused;", Cond.methodLink RX4 252 yX0_daysLeft, Cond.instanceMethod yX0_daysLeft]
def wsX4_arrest_r2 : List Cond := [Cond.selects RX0 yX0_daysLeft yX0_daysLeft, Cond.initialized RX0, Cond.code yX0_daysLeft cX0_daysLeft 1 (some .int), Cond.fieldLink RX0 9 "Chargehouse$Accused" "state" "I", Cond.fieldLink RX0 33 "Chargehouse$Accused" "daysWhileCharged" "I", Cond.fieldLink RX0 40 "Chargehouse$Accused" "daysWhileOpen" "I", Cond.methodLink RX0 36 yX0_ceilingWhileOpen, Cond.instanceMethod yX0_ceilingWhileOpen, Cond.selects RX0 yX0_ceilingWhileOpen yX0_ceilingWhileOpen, Cond.code yX0_ceilingWhileOpen cX0_ceilingWhileOpen 1 (some .int), Cond.fieldLink RX0 26 "Chargehouse$Accused" "extendedBy" "I", Cond.static yX4_hasBit, Cond.code yX4_hasBit cX4_hasBit 2 (some .boolean)]
def wsX4_arrest : List Cond := .code yX4_arrest cX4_arrest 5 (some .int) :: ((wsX4_arrest_r1 ++ wsX4_arrest_r2) ++ wsX00 ++ wsX40 ++ wsX10 ++ (vx_atS RX4 46 "java/lang/IllegalStateException" ["java/lang/RuntimeException", "java/lang/Exception"]).filter goodWord ++ (vx_atS RX4 58 "java/lang/IndexOutOfBoundsException" ["java/lang/RuntimeException", "java/lang/Exception"]).filter goodWord)
def wsX4_extend_r1 : List Cond := [Cond.classLink RX4 31 "java/lang/IllegalArgumentException", Cond.initialized "java/lang/IllegalArgumentException", Cond.classLink RX4 42 "java/lang/IllegalStateException", Cond.initialized "java/lang/IllegalStateException", Cond.fieldLink RX4 178 "Chargehouse$Accused" "state" "I", Cond.fieldLink RX4 260 "Chargehouse$Accused" "extendedBy" "I", Cond.methodLink RX4 170 yX4_accusedAt, Cond.instanceMethod yX4_accusedAt, Cond.selects RX4 yX4_accusedAt yX4_accusedAt, Cond.initialized RX4, Cond.code yX4_accusedAt cX4_accusedAt 5 (some (.object "Chargehouse$Accused")), Cond.classLink RX4 54 "java/lang/IndexOutOfBoundsException", Cond.initialized "java/lang/IndexOutOfBoundsException", Cond.methodLink RX4 108 yX4_fileAt, Cond.instanceMethod yX4_fileAt, Cond.selects RX4 yX4_fileAt yX4_fileAt, Cond.code yX4_fileAt cX4_fileAt 2 (some (.object "Chargehouse$CaseFile")), Cond.fieldLink RX4 17 "Chargehouse" "fileRows" "[LChargehouse$CaseFile;", Cond.methodLink RX4 325 yX1_rowOf, Cond.instanceMethod yX1_rowOf, Cond.selects RX1 yX1_rowOf yX1_rowOf, Cond.initialized RX1, Cond.code yX1_rowOf cX1_rowOf 2 (some (.object "Chargehouse$Accused")), Cond.fieldLink RX1 11 "Chargehouse$CaseFile" "rows" "[LChargehouse$Accused;"]
def wsX4_extend_r2 : List Cond := [Cond.methodLink RX4 27 yX4_isWithin, Cond.static yX4_isWithin, Cond.code yX4_isWithin cX4_isWithin 3 (some .boolean), Cond.methodLink RX4 96 yX4_hasBit, Cond.static yX4_hasBit, Cond.code yX4_hasBit cX4_hasBit 2 (some .boolean), Cond.methodLink RX4 265 yX0_ceilingWhileOpen, Cond.instanceMethod yX0_ceilingWhileOpen, Cond.selects RX0 yX0_ceilingWhileOpen yX0_ceilingWhileOpen, Cond.initialized RX0, Cond.code yX0_ceilingWhileOpen cX0_ceilingWhileOpen 1 (some .int), Cond.fieldLink RX0 26 "Chargehouse$Accused" "extendedBy" "I"]
def wsX4_extend : List Cond := .code yX4_extend cX4_extend 5 (some .int) :: ((wsX4_extend_r1 ++ wsX4_extend_r2) ++ wsX00 ++ wsX40 ++ wsX10 ++ (vx_atS RX4 35 "java/lang/IllegalArgumentException" ["java/lang/RuntimeException", "java/lang/Exception"]).filter goodWord ++ (vx_atS RX4 46 "java/lang/IllegalStateException" ["java/lang/RuntimeException", "java/lang/Exception"]).filter goodWord ++ (vx_atS RX4 58 "java/lang/IndexOutOfBoundsException" ["java/lang/RuntimeException", "java/lang/Exception"]).filter goodWord)
def wsX4_release : List Cond := .code yX4_release cX4_release 4 none :: ([.classLink RX4 42 "java/lang/IllegalStateException", .initialized "java/lang/IllegalStateException", .fieldLink RX4 207 "Chargehouse$Accused" "isInCustody" "Z", .methodLink RX4 170 yX4_accusedAt, .instanceMethod yX4_accusedAt, .selects RX4 yX4_accusedAt yX4_accusedAt, .initialized RX4, .code yX4_accusedAt cX4_accusedAt 5 (some (.object "Chargehouse$Accused")), .classLink RX4 54 "java/lang/IndexOutOfBoundsException", .initialized "java/lang/IndexOutOfBoundsException", .methodLink RX4 108 yX4_fileAt, .instanceMethod yX4_fileAt, .selects RX4 yX4_fileAt yX4_fileAt, .code yX4_fileAt cX4_fileAt 2 (some (.object "Chargehouse$CaseFile")), .fieldLink RX4 17 "Chargehouse" "fileRows" "[LChargehouse$CaseFile;", .methodLink RX4 325 yX1_rowOf, .instanceMethod yX1_rowOf, .selects RX1 yX1_rowOf yX1_rowOf, .initialized RX1, .code yX1_rowOf cX1_rowOf 2 (some (.object "Chargehouse$Accused")), .fieldLink RX1 11 "Chargehouse$CaseFile" "rows" "[LChargehouse$Accused;"] ++ wsX00 ++ wsX40 ++ wsX10 ++ (vx_atS RX4 46 "java/lang/IllegalStateException" ["java/lang/RuntimeException", "java/lang/Exception"]).filter goodWord ++ (vx_atS RX4 58 "java/lang/IndexOutOfBoundsException" ["java/lang/RuntimeException", "java/lang/Exception"]).filter goodWord)
def wsX4_day : List Cond := .code yX4_day cX4_day 1 (some .int) :: ([.fieldLink RX4 70 "Chargehouse" "today" "I"] ++ wsX40)
def wsX4_nests : List Cond := .code yX4_nests cX4_nests 5 (some .boolean) :: ([.classLink RX4 54 "java/lang/IndexOutOfBoundsException", .initialized "java/lang/IndexOutOfBoundsException", .methodLink RX4 50 yX4_offenceAt, .instanceMethod yX4_offenceAt, .selects RX4 yX4_offenceAt yX4_offenceAt, .initialized RX4, .code yX4_offenceAt cX4_offenceAt 2 (some (.object "Chargehouse$Offence")), .fieldLink RX4 11 "Chargehouse" "offenceRows" "[LChargehouse$Offence;", .methodLink RX4 270 yX3_nestsIn, .instanceMethod yX3_nestsIn, .selects RX3 yX3_nestsIn yX3_nestsIn, .initialized RX3, .code yX3_nestsIn cX3_nestsIn 2 (some .boolean), .fieldLink RX3 7 "Chargehouse$Offence" "elements" "I"] ++ wsX40 ++ wsX30 ++ (vx_atS RX4 58 "java/lang/IndexOutOfBoundsException" ["java/lang/RuntimeException", "java/lang/Exception"]).filter goodWord)
def wsX4_checkDay : List Cond := .code yX4_checkDay cX4_checkDay 2 none :: ([.classLink RX4 31 "java/lang/IllegalArgumentException", .initialized "java/lang/IllegalArgumentException", .fieldLink RX4 70 "Chargehouse" "today" "I", .methodLink RX4 27 yX4_isWithin, .static yX4_isWithin, .initialized RX4, .code yX4_isWithin cX4_isWithin 3 (some .boolean)] ++ wsX40 ++ (vx_atS RX4 35 "java/lang/IllegalArgumentException" ["java/lang/RuntimeException", "java/lang/Exception"]).filter goodWord)
def wsX4_strength_r1 : List Cond := [Cond.classLink RX4 54 "java/lang/IndexOutOfBoundsException", Cond.initialized "java/lang/IndexOutOfBoundsException", Cond.methodLink RX4 170 yX4_accusedAt, Cond.instanceMethod yX4_accusedAt, Cond.selects RX4 yX4_accusedAt yX4_accusedAt, Cond.initialized RX4, Cond.code yX4_accusedAt cX4_accusedAt 5 (some (.object "Chargehouse$Accused")), Cond.methodLink RX4 108 yX4_fileAt, Cond.instanceMethod yX4_fileAt, Cond.selects RX4 yX4_fileAt yX4_fileAt, Cond.code yX4_fileAt cX4_fileAt 2 (some (.object "Chargehouse$CaseFile")), Cond.fieldLink RX4 17 "Chargehouse" "fileRows" "[LChargehouse$CaseFile;", Cond.methodLink RX4 325 yX1_rowOf, Cond.instanceMethod yX1_rowOf, Cond.selects RX1 yX1_rowOf yX1_rowOf, Cond.initialized RX1, Cond.code yX1_rowOf cX1_rowOf 2 (some (.object "Chargehouse$Accused")), Cond.fieldLink RX1 11 "Chargehouse$CaseFile" "rows" "[LChargehouse$Accused;", Cond.methodLink RX4 27 yX4_isWithin, Cond.static yX4_isWithin, Cond.code yX4_isWithin cX4_isWithin 3 (some .boolean), Cond.methodLink RX4 276 yX4_checkDay, Cond.instanceMethod yX4_checkDay, Cond.selects RX4 yX4_checkDay yX4_checkDay]
def wsX4_strength_r2 : List Cond := [Cond.code yX4_checkDay cX4_checkDay 2 none, Cond.classLink RX4 31 "java/lang/IllegalArgumentException", Cond.initialized "java/lang/IllegalArgumentException", Cond.fieldLink RX4 70 "Chargehouse" "today" "I", Cond.methodLink RX4 279 yX4_strengthAgainst, Cond.instanceMethod yX4_strengthAgainst, Cond.selects RX4 yX4_strengthAgainst yX4_strengthAgainst, Cond.code yX4_strengthAgainst cX4_strengthAgainst 9 (some .int), Cond.fieldLink RX4 23 "Chargehouse" "itemRows" "[LChargehouse$Item;", Cond.fieldLink RX4 154 "Chargehouse$Item" "file" "I", Cond.fieldLink RX4 293 "Chargehouse$Accused" "file" "LChargehouse$CaseFile;", Cond.fieldLink RX4 105 "Chargehouse$CaseFile" "number" "I", Cond.fieldLink RX4 299 "Chargehouse$Item" "element" "I", Cond.fieldLink RX4 296 "Chargehouse$Accused" "person" "I", Cond.fieldLink RX4 302 "Chargehouse$Item" "weight" "I", Cond.methodLink RX4 143 yX2_isAgainst, Cond.instanceMethod yX2_isAgainst, Cond.selects RX2 yX2_isAgainst yX2_isAgainst, Cond.initialized RX2, Cond.code yX2_isAgainst cX2_isAgainst 2 (some .boolean), Cond.fieldLink RX2 24 "Chargehouse$Item" "against" "I", Cond.static yX4_hasBit, Cond.code yX4_hasBit cX4_hasBit 2 (some .boolean), Cond.methodLink RX4 335 yX2_countsOn]
def wsX4_strength_r3 : List Cond := [Cond.instanceMethod yX2_countsOn, Cond.selects RX2 yX2_countsOn yX2_countsOn, Cond.code yX2_countsOn cX2_countsOn 3 (some .boolean), Cond.fieldLink RX2 9 "Chargehouse$Item" "admittedOn" "I", Cond.fieldLink RX2 34 "Chargehouse$Item" "cameOn" "I", Cond.fieldLink RX2 27 "Chargehouse$Item" "how" "I"]
def wsX4_strength : List Cond := .code yX4_strength cX4_strength 6 (some .int) :: ((wsX4_strength_r1 ++ (wsX4_strength_r2 ++ wsX4_strength_r3)) ++ wsX40 ++ wsX10 ++ wsX20 ++ wsX00 ++ (vx_atS RX4 58 "java/lang/IndexOutOfBoundsException" ["java/lang/RuntimeException", "java/lang/Exception"]).filter goodWord ++ (vx_atS RX4 35 "java/lang/IllegalArgumentException" ["java/lang/RuntimeException", "java/lang/Exception"]).filter goodWord)
def wsX4_whyNot_r1 : List Cond := [Cond.classLink RX4 54 "java/lang/IndexOutOfBoundsException", Cond.initialized "java/lang/IndexOutOfBoundsException", Cond.methodLink RX4 170 yX4_accusedAt, Cond.instanceMethod yX4_accusedAt, Cond.selects RX4 yX4_accusedAt yX4_accusedAt, Cond.initialized RX4, Cond.code yX4_accusedAt cX4_accusedAt 5 (some (.object "Chargehouse$Accused")), Cond.methodLink RX4 108 yX4_fileAt, Cond.instanceMethod yX4_fileAt, Cond.selects RX4 yX4_fileAt yX4_fileAt, Cond.code yX4_fileAt cX4_fileAt 2 (some (.object "Chargehouse$CaseFile")), Cond.fieldLink RX4 17 "Chargehouse" "fileRows" "[LChargehouse$CaseFile;", Cond.methodLink RX4 325 yX1_rowOf, Cond.instanceMethod yX1_rowOf, Cond.selects RX1 yX1_rowOf yX1_rowOf, Cond.initialized RX1, Cond.code yX1_rowOf cX1_rowOf 2 (some (.object "Chargehouse$Accused")), Cond.fieldLink RX1 11 "Chargehouse$CaseFile" "rows" "[LChargehouse$Accused;", Cond.methodLink RX4 50 yX4_offenceAt, Cond.instanceMethod yX4_offenceAt, Cond.selects RX4 yX4_offenceAt yX4_offenceAt, Cond.code yX4_offenceAt cX4_offenceAt 2 (some (.object "Chargehouse$Offence")), Cond.fieldLink RX4 11 "Chargehouse" "offenceRows" "[LChargehouse$Offence;", Cond.methodLink RX4 276 yX4_checkDay]
def wsX4_whyNot_r2 : List Cond := [Cond.instanceMethod yX4_checkDay, Cond.selects RX4 yX4_checkDay yX4_checkDay, Cond.code yX4_checkDay cX4_checkDay 2 none, Cond.classLink RX4 31 "java/lang/IllegalArgumentException", Cond.initialized "java/lang/IllegalArgumentException", Cond.fieldLink RX4 70 "Chargehouse" "today" "I", Cond.methodLink RX4 27 yX4_isWithin, Cond.static yX4_isWithin, Cond.code yX4_isWithin cX4_isWithin 3 (some .boolean), Cond.methodLink RX4 283 yX4_hindrance, Cond.instanceMethod yX4_hindrance, Cond.selects RX4 yX4_hindrance yX4_hindrance, Cond.code yX4_hindrance cX4_hindrance 4 (some .int), Cond.fieldLink RX4 293 "Chargehouse$Accused" "file" "LChargehouse$CaseFile;", Cond.fieldLink RX4 351 "Chargehouse$CaseFile" "event" "I", Cond.fieldLink RX4 354 "Chargehouse$Offence" "limit" "I", Cond.fieldLink RX4 361 "Chargehouse$Offence" "gravity" "I", Cond.fieldLink RX4 364 "Chargehouse$CaseFile" "points" "I", Cond.methodLink RX4 347 yX4_isSpent, Cond.instanceMethod yX4_isSpent, Cond.selects RX4 yX4_isSpent yX4_isSpent, Cond.code yX4_isSpent cX4_isSpent 6 (some .boolean), Cond.methodLink RX4 341 yX3_isAkinTo, Cond.instanceMethod yX3_isAkinTo]
def wsX4_whyNot_r3 : List Cond := [Cond.selects RX3 yX3_isAkinTo yX3_isAkinTo, Cond.initialized RX3, Cond.code yX3_isAkinTo cX3_isAkinTo 2 (some .boolean), Cond.fieldLink RX3 7 "Chargehouse$Offence" "elements" "I", Cond.methodLink RX3 28 yX3_nestsIn, Cond.instanceMethod yX3_nestsIn, Cond.selects RX3 yX3_nestsIn yX3_nestsIn, Cond.code yX3_nestsIn cX3_nestsIn 2 (some .boolean), Cond.methodLink RX4 344 yX0_hadAnswered, Cond.instanceMethod yX0_hadAnswered, Cond.selects RX0 yX0_hadAnswered yX0_hadAnswered, Cond.initialized RX0, Cond.code yX0_hadAnswered cX0_hadAnswered 3 (some .boolean), Cond.fieldLink RX0 15 "Chargehouse$Accused" "firstAnsweredOn" "[I", Cond.methodLink RX4 357 yX4_hasStrength, Cond.instanceMethod yX4_hasStrength, Cond.selects RX4 yX4_hasStrength yX4_hasStrength, Cond.code yX4_hasStrength cX4_hasStrength 6 (some .boolean), Cond.fieldLink RX4 338 "Chargehouse$Offence" "elements" "I", Cond.methodLink RX4 96 yX4_hasBit, Cond.static yX4_hasBit, Cond.code yX4_hasBit cX4_hasBit 2 (some .boolean), Cond.methodLink RX4 279 yX4_strengthAgainst, Cond.instanceMethod yX4_strengthAgainst]
def wsX4_whyNot_r4 : List Cond := [Cond.selects RX4 yX4_strengthAgainst yX4_strengthAgainst, Cond.code yX4_strengthAgainst cX4_strengthAgainst 9 (some .int), Cond.fieldLink RX4 23 "Chargehouse" "itemRows" "[LChargehouse$Item;", Cond.fieldLink RX4 154 "Chargehouse$Item" "file" "I", Cond.fieldLink RX4 105 "Chargehouse$CaseFile" "number" "I", Cond.fieldLink RX4 299 "Chargehouse$Item" "element" "I", Cond.fieldLink RX4 296 "Chargehouse$Accused" "person" "I", Cond.fieldLink RX4 302 "Chargehouse$Item" "weight" "I", Cond.methodLink RX4 143 yX2_isAgainst, Cond.instanceMethod yX2_isAgainst, Cond.selects RX2 yX2_isAgainst yX2_isAgainst, Cond.initialized RX2, Cond.code yX2_isAgainst cX2_isAgainst 2 (some .boolean), Cond.fieldLink RX2 24 "Chargehouse$Item" "against" "I", Cond.methodLink RX4 335 yX2_countsOn, Cond.instanceMethod yX2_countsOn, Cond.selects RX2 yX2_countsOn yX2_countsOn, Cond.code yX2_countsOn cX2_countsOn 3 (some .boolean), Cond.fieldLink RX2 9 "Chargehouse$Item" "admittedOn" "I", Cond.fieldLink RX2 34 "Chargehouse$Item" "cameOn" "I", Cond.fieldLink RX2 27 "Chargehouse$Item" "how" "I"]
def wsX4_whyNot : List Cond := .code yX4_whyNot cX4_whyNot 7 (some .int) :: ((wsX4_whyNot_r1 ++ (wsX4_whyNot_r2 ++ (wsX4_whyNot_r3 ++ wsX4_whyNot_r4))) ++ wsX40 ++ wsX10 ++ wsX00 ++ wsX30 ++ wsX20 ++ (vx_atS RX4 58 "java/lang/IndexOutOfBoundsException" ["java/lang/RuntimeException", "java/lang/Exception"]).filter goodWord ++ (vx_atS RX4 35 "java/lang/IllegalArgumentException" ["java/lang/RuntimeException", "java/lang/Exception"]).filter goodWord)
def wsX4_better : List Cond := .code yX4_better cX4_better 5 (some .int) :: ([.methodLink RX4 196 yX4_gravityOf, .instanceMethod yX4_gravityOf, .selects RX4 yX4_gravityOf yX4_gravityOf, .initialized RX4, .code yX4_gravityOf cX4_gravityOf 5 (some .int), .fieldLink RX4 11 "Chargehouse" "offenceRows" "[LChargehouse$Offence;", .fieldLink RX4 361 "Chargehouse$Offence" "gravity" "I", .methodLink RX4 96 yX4_hasBit, .static yX4_hasBit, .code yX4_hasBit cX4_hasBit 2 (some .boolean), .methodLink RX4 227 yJ6_bitCount_0f7a4, .static yJ6_bitCount_0f7a4, .initialized RJ6, .code yJ6_bitCount_0f7a4 cJ6_bitCount_0f7a4 1 (some .int), .constant RJ6 265 (1431655765), .constant RJ6 266 (858993459), .constant RJ6 267 (252645135)] ++ wsX40 ++ wsX30)
def wsX4_above : List Cond := .code yX4_above cX4_above 1 (some .int) :: ([])
def wsX4_bestWithThird : List Cond := .code yX4_bestWithThird cX4_bestWithThird 6 (some .int) :: ([.fieldLink RX4 11 "Chargehouse" "offenceRows" "[LChargehouse$Offence;", .methodLink RX4 96 yX4_hasBit, .static yX4_hasBit, .initialized RX4, .code yX4_hasBit cX4_hasBit 2 (some .boolean), .methodLink RX4 370 yX4_better, .instanceMethod yX4_better, .selects RX4 yX4_better yX4_better, .code yX4_better cX4_better 5 (some .int), .methodLink RX4 196 yX4_gravityOf, .instanceMethod yX4_gravityOf, .selects RX4 yX4_gravityOf yX4_gravityOf, .code yX4_gravityOf cX4_gravityOf 5 (some .int), .fieldLink RX4 361 "Chargehouse$Offence" "gravity" "I", .methodLink RX4 227 yJ6_bitCount_0f7a4, .static yJ6_bitCount_0f7a4, .initialized RJ6, .code yJ6_bitCount_0f7a4 cJ6_bitCount_0f7a4 1 (some .int), .constant RJ6 265 (1431655765), .constant RJ6 266 (858993459), .constant RJ6 267 (252645135)] ++ wsX40 ++ wsX30)
def wsX4_bestWithMates_r1 : List Cond := [Cond.fieldLink RX4 11 "Chargehouse" "offenceRows" "[LChargehouse$Offence;", Cond.methodLink RX4 96 yX4_hasBit, Cond.static yX4_hasBit, Cond.initialized RX4, Cond.code yX4_hasBit cX4_hasBit 2 (some .boolean), Cond.methodLink RX4 370 yX4_better, Cond.instanceMethod yX4_better, Cond.selects RX4 yX4_better yX4_better, Cond.code yX4_better cX4_better 5 (some .int), Cond.methodLink RX4 196 yX4_gravityOf, Cond.instanceMethod yX4_gravityOf, Cond.selects RX4 yX4_gravityOf yX4_gravityOf, Cond.code yX4_gravityOf cX4_gravityOf 5 (some .int), Cond.fieldLink RX4 361 "Chargehouse$Offence" "gravity" "I", Cond.methodLink RX4 227 yJ6_bitCount_0f7a4, Cond.static yJ6_bitCount_0f7a4, Cond.initialized RJ6, Cond.code yJ6_bitCount_0f7a4 cJ6_bitCount_0f7a4 1 (some .int), Cond.constant RJ6 265 (1431655765), Cond.constant RJ6 266 (858993459), Cond.constant RJ6 267 (252645135), Cond.methodLink RX4 367 yX4_matesOf, Cond.instanceMethod yX4_matesOf, Cond.selects RX4 yX4_matesOf yX4_matesOf]
def wsX4_bestWithMates_r2 : List Cond := [Cond.code yX4_matesOf cX4_matesOf 6 (some .int), Cond.methodLink RX4 50 yX4_offenceAt, Cond.instanceMethod yX4_offenceAt, Cond.selects RX4 yX4_offenceAt yX4_offenceAt, Cond.code yX4_offenceAt cX4_offenceAt 2 (some (.object "Chargehouse$Offence")), Cond.methodLink RX4 61 yX3_excludes, Cond.instanceMethod yX3_excludes, Cond.selects RX3 yX3_excludes yX3_excludes, Cond.initialized RX3, Cond.code yX3_excludes cX3_excludes 2 (some .boolean), Cond.fieldLink RX3 19 "Chargehouse$Offence" "excluded" "I", Cond.methodLink RX4 341 yX3_isAkinTo, Cond.instanceMethod yX3_isAkinTo, Cond.selects RX3 yX3_isAkinTo yX3_isAkinTo, Cond.code yX3_isAkinTo cX3_isAkinTo 2 (some .boolean), Cond.fieldLink RX3 7 "Chargehouse$Offence" "elements" "I", Cond.methodLink RX3 28 yX3_nestsIn, Cond.instanceMethod yX3_nestsIn, Cond.selects RX3 yX3_nestsIn yX3_nestsIn, Cond.code yX3_nestsIn cX3_nestsIn 2 (some .boolean), Cond.methodLink RX4 373 yX4_above, Cond.static yX4_above, Cond.code yX4_above cX4_above 1 (some .int), Cond.methodLink RX4 380 yX4_bestWithThird]
def wsX4_bestWithMates_r3 : List Cond := [Cond.instanceMethod yX4_bestWithThird, Cond.selects RX4 yX4_bestWithThird yX4_bestWithThird, Cond.code yX4_bestWithThird cX4_bestWithThird 6 (some .int)]
def wsX4_bestWithMates : List Cond := .code yX4_bestWithMates cX4_bestWithMates 7 (some .int) :: ((wsX4_bestWithMates_r1 ++ (wsX4_bestWithMates_r2 ++ wsX4_bestWithMates_r3)) ++ wsX40 ++ wsX30)
def wsX4_bestByGrowing_r1 : List Cond := [Cond.fieldLink RX4 11 "Chargehouse" "offenceRows" "[LChargehouse$Offence;", Cond.methodLink RX4 96 yX4_hasBit, Cond.static yX4_hasBit, Cond.initialized RX4, Cond.code yX4_hasBit cX4_hasBit 2 (some .boolean), Cond.methodLink RX4 370 yX4_better, Cond.instanceMethod yX4_better, Cond.selects RX4 yX4_better yX4_better, Cond.code yX4_better cX4_better 5 (some .int), Cond.methodLink RX4 196 yX4_gravityOf, Cond.instanceMethod yX4_gravityOf, Cond.selects RX4 yX4_gravityOf yX4_gravityOf, Cond.code yX4_gravityOf cX4_gravityOf 5 (some .int), Cond.fieldLink RX4 361 "Chargehouse$Offence" "gravity" "I", Cond.methodLink RX4 227 yJ6_bitCount_0f7a4, Cond.static yJ6_bitCount_0f7a4, Cond.initialized RJ6, Cond.code yJ6_bitCount_0f7a4 cJ6_bitCount_0f7a4 1 (some .int), Cond.constant RJ6 265 (1431655765), Cond.constant RJ6 266 (858993459), Cond.constant RJ6 267 (252645135), Cond.methodLink RX4 367 yX4_matesOf, Cond.instanceMethod yX4_matesOf, Cond.selects RX4 yX4_matesOf yX4_matesOf]
def wsX4_bestByGrowing_r2 : List Cond := [Cond.code yX4_matesOf cX4_matesOf 6 (some .int), Cond.methodLink RX4 50 yX4_offenceAt, Cond.instanceMethod yX4_offenceAt, Cond.selects RX4 yX4_offenceAt yX4_offenceAt, Cond.code yX4_offenceAt cX4_offenceAt 2 (some (.object "Chargehouse$Offence")), Cond.methodLink RX4 61 yX3_excludes, Cond.instanceMethod yX3_excludes, Cond.selects RX3 yX3_excludes yX3_excludes, Cond.initialized RX3, Cond.code yX3_excludes cX3_excludes 2 (some .boolean), Cond.fieldLink RX3 19 "Chargehouse$Offence" "excluded" "I", Cond.methodLink RX4 341 yX3_isAkinTo, Cond.instanceMethod yX3_isAkinTo, Cond.selects RX3 yX3_isAkinTo yX3_isAkinTo, Cond.code yX3_isAkinTo cX3_isAkinTo 2 (some .boolean), Cond.fieldLink RX3 7 "Chargehouse$Offence" "elements" "I", Cond.methodLink RX3 28 yX3_nestsIn, Cond.instanceMethod yX3_nestsIn, Cond.selects RX3 yX3_nestsIn yX3_nestsIn, Cond.code yX3_nestsIn cX3_nestsIn 2 (some .boolean), Cond.methodLink RX4 373 yX4_above, Cond.static yX4_above, Cond.code yX4_above cX4_above 1 (some .int), Cond.methodLink RX4 376 yX4_bestWithMates]
def wsX4_bestByGrowing_r3 : List Cond := [Cond.instanceMethod yX4_bestWithMates, Cond.selects RX4 yX4_bestWithMates yX4_bestWithMates, Cond.code yX4_bestWithMates cX4_bestWithMates 7 (some .int), Cond.methodLink RX4 380 yX4_bestWithThird, Cond.instanceMethod yX4_bestWithThird, Cond.selects RX4 yX4_bestWithThird yX4_bestWithThird, Cond.code yX4_bestWithThird cX4_bestWithThird 6 (some .int)]
def wsX4_bestByGrowing : List Cond := .code yX4_bestByGrowing cX4_bestByGrowing 5 (some .int) :: ((wsX4_bestByGrowing_r1 ++ (wsX4_bestByGrowing_r2 ++ wsX4_bestByGrowing_r3)) ++ wsX40 ++ wsX30)
def wsX4_best_r1 : List Cond := [Cond.methodLink RX4 170 yX4_accusedAt, Cond.instanceMethod yX4_accusedAt, Cond.selects RX4 yX4_accusedAt yX4_accusedAt, Cond.initialized RX4, Cond.code yX4_accusedAt cX4_accusedAt 5 (some (.object "Chargehouse$Accused")), Cond.classLink RX4 54 "java/lang/IndexOutOfBoundsException", Cond.initialized "java/lang/IndexOutOfBoundsException", Cond.methodLink RX4 108 yX4_fileAt, Cond.instanceMethod yX4_fileAt, Cond.selects RX4 yX4_fileAt yX4_fileAt, Cond.code yX4_fileAt cX4_fileAt 2 (some (.object "Chargehouse$CaseFile")), Cond.fieldLink RX4 17 "Chargehouse" "fileRows" "[LChargehouse$CaseFile;", Cond.methodLink RX4 325 yX1_rowOf, Cond.instanceMethod yX1_rowOf, Cond.selects RX1 yX1_rowOf yX1_rowOf, Cond.initialized RX1, Cond.code yX1_rowOf cX1_rowOf 2 (some (.object "Chargehouse$Accused")), Cond.fieldLink RX1 11 "Chargehouse$CaseFile" "rows" "[LChargehouse$Accused;", Cond.methodLink RX4 276 yX4_checkDay, Cond.instanceMethod yX4_checkDay, Cond.selects RX4 yX4_checkDay yX4_checkDay, Cond.code yX4_checkDay cX4_checkDay 2 none, Cond.classLink RX4 31 "java/lang/IllegalArgumentException", Cond.initialized "java/lang/IllegalArgumentException"]
def wsX4_best_r2 : List Cond := [Cond.fieldLink RX4 70 "Chargehouse" "today" "I", Cond.methodLink RX4 27 yX4_isWithin, Cond.static yX4_isWithin, Cond.code yX4_isWithin cX4_isWithin 3 (some .boolean), Cond.methodLink RX4 181 yX4_chargeable, Cond.instanceMethod yX4_chargeable, Cond.selects RX4 yX4_chargeable yX4_chargeable, Cond.code yX4_chargeable cX4_chargeable 6 (some .int), Cond.fieldLink RX4 11 "Chargehouse" "offenceRows" "[LChargehouse$Offence;", Cond.methodLink RX4 283 yX4_hindrance, Cond.instanceMethod yX4_hindrance, Cond.selects RX4 yX4_hindrance yX4_hindrance, Cond.code yX4_hindrance cX4_hindrance 4 (some .int), Cond.fieldLink RX4 293 "Chargehouse$Accused" "file" "LChargehouse$CaseFile;", Cond.fieldLink RX4 351 "Chargehouse$CaseFile" "event" "I", Cond.fieldLink RX4 354 "Chargehouse$Offence" "limit" "I", Cond.fieldLink RX4 361 "Chargehouse$Offence" "gravity" "I", Cond.fieldLink RX4 364 "Chargehouse$CaseFile" "points" "I", Cond.methodLink RX4 347 yX4_isSpent, Cond.instanceMethod yX4_isSpent, Cond.selects RX4 yX4_isSpent yX4_isSpent, Cond.code yX4_isSpent cX4_isSpent 6 (some .boolean), Cond.methodLink RX4 341 yX3_isAkinTo, Cond.instanceMethod yX3_isAkinTo]
def wsX4_best_r3 : List Cond := [Cond.selects RX3 yX3_isAkinTo yX3_isAkinTo, Cond.initialized RX3, Cond.code yX3_isAkinTo cX3_isAkinTo 2 (some .boolean), Cond.fieldLink RX3 7 "Chargehouse$Offence" "elements" "I", Cond.methodLink RX3 28 yX3_nestsIn, Cond.instanceMethod yX3_nestsIn, Cond.selects RX3 yX3_nestsIn yX3_nestsIn, Cond.code yX3_nestsIn cX3_nestsIn 2 (some .boolean), Cond.methodLink RX4 344 yX0_hadAnswered, Cond.instanceMethod yX0_hadAnswered, Cond.selects RX0 yX0_hadAnswered yX0_hadAnswered, Cond.initialized RX0, Cond.code yX0_hadAnswered cX0_hadAnswered 3 (some .boolean), Cond.fieldLink RX0 15 "Chargehouse$Accused" "firstAnsweredOn" "[I", Cond.methodLink RX4 357 yX4_hasStrength, Cond.instanceMethod yX4_hasStrength, Cond.selects RX4 yX4_hasStrength yX4_hasStrength, Cond.code yX4_hasStrength cX4_hasStrength 6 (some .boolean), Cond.fieldLink RX4 338 "Chargehouse$Offence" "elements" "I", Cond.methodLink RX4 96 yX4_hasBit, Cond.static yX4_hasBit, Cond.code yX4_hasBit cX4_hasBit 2 (some .boolean), Cond.methodLink RX4 279 yX4_strengthAgainst, Cond.instanceMethod yX4_strengthAgainst]
def wsX4_best_r4 : List Cond := [Cond.selects RX4 yX4_strengthAgainst yX4_strengthAgainst, Cond.code yX4_strengthAgainst cX4_strengthAgainst 9 (some .int), Cond.fieldLink RX4 23 "Chargehouse" "itemRows" "[LChargehouse$Item;", Cond.fieldLink RX4 154 "Chargehouse$Item" "file" "I", Cond.fieldLink RX4 105 "Chargehouse$CaseFile" "number" "I", Cond.fieldLink RX4 299 "Chargehouse$Item" "element" "I", Cond.fieldLink RX4 296 "Chargehouse$Accused" "person" "I", Cond.fieldLink RX4 302 "Chargehouse$Item" "weight" "I", Cond.methodLink RX4 143 yX2_isAgainst, Cond.instanceMethod yX2_isAgainst, Cond.selects RX2 yX2_isAgainst yX2_isAgainst, Cond.initialized RX2, Cond.code yX2_isAgainst cX2_isAgainst 2 (some .boolean), Cond.fieldLink RX2 24 "Chargehouse$Item" "against" "I", Cond.methodLink RX4 335 yX2_countsOn, Cond.instanceMethod yX2_countsOn, Cond.selects RX2 yX2_countsOn yX2_countsOn, Cond.code yX2_countsOn cX2_countsOn 3 (some .boolean), Cond.fieldLink RX2 9 "Chargehouse$Item" "admittedOn" "I", Cond.fieldLink RX2 34 "Chargehouse$Item" "cameOn" "I", Cond.fieldLink RX2 27 "Chargehouse$Item" "how" "I", Cond.methodLink RX4 287 yX4_bestByGrowing, Cond.instanceMethod yX4_bestByGrowing, Cond.selects RX4 yX4_bestByGrowing yX4_bestByGrowing]
def wsX4_best_r5 : List Cond := [Cond.code yX4_bestByGrowing cX4_bestByGrowing 5 (some .int), Cond.methodLink RX4 370 yX4_better, Cond.instanceMethod yX4_better, Cond.selects RX4 yX4_better yX4_better, Cond.code yX4_better cX4_better 5 (some .int), Cond.methodLink RX4 196 yX4_gravityOf, Cond.instanceMethod yX4_gravityOf, Cond.selects RX4 yX4_gravityOf yX4_gravityOf, Cond.code yX4_gravityOf cX4_gravityOf 5 (some .int), Cond.methodLink RX4 227 yJ6_bitCount_0f7a4, Cond.static yJ6_bitCount_0f7a4, Cond.initialized RJ6, Cond.code yJ6_bitCount_0f7a4 cJ6_bitCount_0f7a4 1 (some .int), Cond.constant RJ6 265 (1431655765), Cond.constant RJ6 266 (858993459), Cond.constant RJ6 267 (252645135), Cond.methodLink RX4 367 yX4_matesOf, Cond.instanceMethod yX4_matesOf, Cond.selects RX4 yX4_matesOf yX4_matesOf, Cond.code yX4_matesOf cX4_matesOf 6 (some .int), Cond.methodLink RX4 50 yX4_offenceAt, Cond.instanceMethod yX4_offenceAt, Cond.selects RX4 yX4_offenceAt yX4_offenceAt, Cond.code yX4_offenceAt cX4_offenceAt 2 (some (.object "Chargehouse$Offence"))]
def wsX4_best_r6 : List Cond := [Cond.methodLink RX4 61 yX3_excludes, Cond.instanceMethod yX3_excludes, Cond.selects RX3 yX3_excludes yX3_excludes, Cond.code yX3_excludes cX3_excludes 2 (some .boolean), Cond.fieldLink RX3 19 "Chargehouse$Offence" "excluded" "I", Cond.methodLink RX4 373 yX4_above, Cond.static yX4_above, Cond.code yX4_above cX4_above 1 (some .int), Cond.methodLink RX4 376 yX4_bestWithMates, Cond.instanceMethod yX4_bestWithMates, Cond.selects RX4 yX4_bestWithMates yX4_bestWithMates, Cond.code yX4_bestWithMates cX4_bestWithMates 7 (some .int), Cond.methodLink RX4 380 yX4_bestWithThird, Cond.instanceMethod yX4_bestWithThird, Cond.selects RX4 yX4_bestWithThird yX4_bestWithThird, Cond.code yX4_bestWithThird cX4_bestWithThird 6 (some .int)]
def wsX4_best : List Cond := .code yX4_best cX4_best 5 (some .int) :: ((wsX4_best_r1 ++ (wsX4_best_r2 ++ (wsX4_best_r3 ++ (wsX4_best_r4 ++ (wsX4_best_r5 ++ wsX4_best_r6))))) ++ wsX40 ++ wsX10 ++ wsX00 ++ wsX30 ++ wsX20 ++ (vx_atS RX4 58 "java/lang/IndexOutOfBoundsException" ["java/lang/RuntimeException", "java/lang/Exception"]).filter goodWord ++ (vx_atS RX4 35 "java/lang/IllegalArgumentException" ["java/lang/RuntimeException", "java/lang/Exception"]).filter goodWord)
def wsX4_bestOfAllSets_r1 : List Cond := [Cond.methodLink RX4 185 yX4_isRight, Cond.instanceMethod yX4_isRight, Cond.selects RX4 yX4_isRight yX4_isRight, Cond.initialized RX4, Cond.code yX4_isRight cX4_isRight 5 (some .boolean), Cond.fieldLink RX4 11 "Chargehouse" "offenceRows" "[LChargehouse$Offence;", Cond.methodLink RX4 227 yJ6_bitCount_0f7a4, Cond.static yJ6_bitCount_0f7a4, Cond.initialized RJ6, Cond.code yJ6_bitCount_0f7a4 cJ6_bitCount_0f7a4 1 (some .int), Cond.constant RJ6 265 (1431655765), Cond.constant RJ6 266 (858993459), Cond.constant RJ6 267 (252645135), Cond.methodLink RX4 96 yX4_hasBit, Cond.static yX4_hasBit, Cond.code yX4_hasBit cX4_hasBit 2 (some .boolean), Cond.methodLink RX4 367 yX4_matesOf, Cond.instanceMethod yX4_matesOf, Cond.selects RX4 yX4_matesOf yX4_matesOf, Cond.code yX4_matesOf cX4_matesOf 6 (some .int), Cond.methodLink RX4 50 yX4_offenceAt, Cond.instanceMethod yX4_offenceAt, Cond.selects RX4 yX4_offenceAt yX4_offenceAt, Cond.code yX4_offenceAt cX4_offenceAt 2 (some (.object "Chargehouse$Offence"))]
def wsX4_bestOfAllSets_r2 : List Cond := [Cond.methodLink RX4 61 yX3_excludes, Cond.instanceMethod yX3_excludes, Cond.selects RX3 yX3_excludes yX3_excludes, Cond.initialized RX3, Cond.code yX3_excludes cX3_excludes 2 (some .boolean), Cond.fieldLink RX3 19 "Chargehouse$Offence" "excluded" "I", Cond.methodLink RX4 341 yX3_isAkinTo, Cond.instanceMethod yX3_isAkinTo, Cond.selects RX3 yX3_isAkinTo yX3_isAkinTo, Cond.code yX3_isAkinTo cX3_isAkinTo 2 (some .boolean), Cond.fieldLink RX3 7 "Chargehouse$Offence" "elements" "I", Cond.methodLink RX3 28 yX3_nestsIn, Cond.instanceMethod yX3_nestsIn, Cond.selects RX3 yX3_nestsIn yX3_nestsIn, Cond.code yX3_nestsIn cX3_nestsIn 2 (some .boolean), Cond.methodLink RX4 370 yX4_better, Cond.instanceMethod yX4_better, Cond.selects RX4 yX4_better yX4_better, Cond.code yX4_better cX4_better 5 (some .int), Cond.methodLink RX4 196 yX4_gravityOf, Cond.instanceMethod yX4_gravityOf, Cond.selects RX4 yX4_gravityOf yX4_gravityOf, Cond.code yX4_gravityOf cX4_gravityOf 5 (some .int), Cond.fieldLink RX4 361 "Chargehouse$Offence" "gravity" "I"]
def wsX4_bestOfAllSets : List Cond := .code yX4_bestOfAllSets cX4_bestOfAllSets 4 (some .int) :: ((wsX4_bestOfAllSets_r1 ++ wsX4_bestOfAllSets_r2) ++ wsX40 ++ wsX30)
def wsX4_bestAnew_r1 : List Cond := [Cond.methodLink RX4 170 yX4_accusedAt, Cond.instanceMethod yX4_accusedAt, Cond.selects RX4 yX4_accusedAt yX4_accusedAt, Cond.initialized RX4, Cond.code yX4_accusedAt cX4_accusedAt 5 (some (.object "Chargehouse$Accused")), Cond.classLink RX4 54 "java/lang/IndexOutOfBoundsException", Cond.initialized "java/lang/IndexOutOfBoundsException", Cond.methodLink RX4 108 yX4_fileAt, Cond.instanceMethod yX4_fileAt, Cond.selects RX4 yX4_fileAt yX4_fileAt, Cond.code yX4_fileAt cX4_fileAt 2 (some (.object "Chargehouse$CaseFile")), Cond.fieldLink RX4 17 "Chargehouse" "fileRows" "[LChargehouse$CaseFile;", Cond.methodLink RX4 325 yX1_rowOf, Cond.instanceMethod yX1_rowOf, Cond.selects RX1 yX1_rowOf yX1_rowOf, Cond.initialized RX1, Cond.code yX1_rowOf cX1_rowOf 2 (some (.object "Chargehouse$Accused")), Cond.fieldLink RX1 11 "Chargehouse$CaseFile" "rows" "[LChargehouse$Accused;", Cond.methodLink RX4 276 yX4_checkDay, Cond.instanceMethod yX4_checkDay, Cond.selects RX4 yX4_checkDay yX4_checkDay, Cond.code yX4_checkDay cX4_checkDay 2 none, Cond.classLink RX4 31 "java/lang/IllegalArgumentException", Cond.initialized "java/lang/IllegalArgumentException"]
def wsX4_bestAnew_r2 : List Cond := [Cond.fieldLink RX4 70 "Chargehouse" "today" "I", Cond.methodLink RX4 27 yX4_isWithin, Cond.static yX4_isWithin, Cond.code yX4_isWithin cX4_isWithin 3 (some .boolean), Cond.methodLink RX4 181 yX4_chargeable, Cond.instanceMethod yX4_chargeable, Cond.selects RX4 yX4_chargeable yX4_chargeable, Cond.code yX4_chargeable cX4_chargeable 6 (some .int), Cond.fieldLink RX4 11 "Chargehouse" "offenceRows" "[LChargehouse$Offence;", Cond.methodLink RX4 283 yX4_hindrance, Cond.instanceMethod yX4_hindrance, Cond.selects RX4 yX4_hindrance yX4_hindrance, Cond.code yX4_hindrance cX4_hindrance 4 (some .int), Cond.fieldLink RX4 293 "Chargehouse$Accused" "file" "LChargehouse$CaseFile;", Cond.fieldLink RX4 351 "Chargehouse$CaseFile" "event" "I", Cond.fieldLink RX4 354 "Chargehouse$Offence" "limit" "I", Cond.fieldLink RX4 361 "Chargehouse$Offence" "gravity" "I", Cond.fieldLink RX4 364 "Chargehouse$CaseFile" "points" "I", Cond.methodLink RX4 347 yX4_isSpent, Cond.instanceMethod yX4_isSpent, Cond.selects RX4 yX4_isSpent yX4_isSpent, Cond.code yX4_isSpent cX4_isSpent 6 (some .boolean), Cond.methodLink RX4 341 yX3_isAkinTo, Cond.instanceMethod yX3_isAkinTo]
def wsX4_bestAnew_r3 : List Cond := [Cond.selects RX3 yX3_isAkinTo yX3_isAkinTo, Cond.initialized RX3, Cond.code yX3_isAkinTo cX3_isAkinTo 2 (some .boolean), Cond.fieldLink RX3 7 "Chargehouse$Offence" "elements" "I", Cond.methodLink RX3 28 yX3_nestsIn, Cond.instanceMethod yX3_nestsIn, Cond.selects RX3 yX3_nestsIn yX3_nestsIn, Cond.code yX3_nestsIn cX3_nestsIn 2 (some .boolean), Cond.methodLink RX4 344 yX0_hadAnswered, Cond.instanceMethod yX0_hadAnswered, Cond.selects RX0 yX0_hadAnswered yX0_hadAnswered, Cond.initialized RX0, Cond.code yX0_hadAnswered cX0_hadAnswered 3 (some .boolean), Cond.fieldLink RX0 15 "Chargehouse$Accused" "firstAnsweredOn" "[I", Cond.methodLink RX4 357 yX4_hasStrength, Cond.instanceMethod yX4_hasStrength, Cond.selects RX4 yX4_hasStrength yX4_hasStrength, Cond.code yX4_hasStrength cX4_hasStrength 6 (some .boolean), Cond.fieldLink RX4 338 "Chargehouse$Offence" "elements" "I", Cond.methodLink RX4 96 yX4_hasBit, Cond.static yX4_hasBit, Cond.code yX4_hasBit cX4_hasBit 2 (some .boolean), Cond.methodLink RX4 279 yX4_strengthAgainst, Cond.instanceMethod yX4_strengthAgainst]
def wsX4_bestAnew_r4 : List Cond := [Cond.selects RX4 yX4_strengthAgainst yX4_strengthAgainst, Cond.code yX4_strengthAgainst cX4_strengthAgainst 9 (some .int), Cond.fieldLink RX4 23 "Chargehouse" "itemRows" "[LChargehouse$Item;", Cond.fieldLink RX4 154 "Chargehouse$Item" "file" "I", Cond.fieldLink RX4 105 "Chargehouse$CaseFile" "number" "I", Cond.fieldLink RX4 299 "Chargehouse$Item" "element" "I", Cond.fieldLink RX4 296 "Chargehouse$Accused" "person" "I", Cond.fieldLink RX4 302 "Chargehouse$Item" "weight" "I", Cond.methodLink RX4 143 yX2_isAgainst, Cond.instanceMethod yX2_isAgainst, Cond.selects RX2 yX2_isAgainst yX2_isAgainst, Cond.initialized RX2, Cond.code yX2_isAgainst cX2_isAgainst 2 (some .boolean), Cond.fieldLink RX2 24 "Chargehouse$Item" "against" "I", Cond.methodLink RX4 335 yX2_countsOn, Cond.instanceMethod yX2_countsOn, Cond.selects RX2 yX2_countsOn yX2_countsOn, Cond.code yX2_countsOn cX2_countsOn 3 (some .boolean), Cond.fieldLink RX2 9 "Chargehouse$Item" "admittedOn" "I", Cond.fieldLink RX2 34 "Chargehouse$Item" "cameOn" "I", Cond.fieldLink RX2 27 "Chargehouse$Item" "how" "I", Cond.methodLink RX4 290 yX4_bestOfAllSets, Cond.instanceMethod yX4_bestOfAllSets, Cond.selects RX4 yX4_bestOfAllSets yX4_bestOfAllSets]
def wsX4_bestAnew_r5 : List Cond := [Cond.code yX4_bestOfAllSets cX4_bestOfAllSets 4 (some .int), Cond.methodLink RX4 185 yX4_isRight, Cond.instanceMethod yX4_isRight, Cond.selects RX4 yX4_isRight yX4_isRight, Cond.code yX4_isRight cX4_isRight 5 (some .boolean), Cond.methodLink RX4 227 yJ6_bitCount_0f7a4, Cond.static yJ6_bitCount_0f7a4, Cond.initialized RJ6, Cond.code yJ6_bitCount_0f7a4 cJ6_bitCount_0f7a4 1 (some .int), Cond.constant RJ6 265 (1431655765), Cond.constant RJ6 266 (858993459), Cond.constant RJ6 267 (252645135), Cond.methodLink RX4 367 yX4_matesOf, Cond.instanceMethod yX4_matesOf, Cond.selects RX4 yX4_matesOf yX4_matesOf, Cond.code yX4_matesOf cX4_matesOf 6 (some .int), Cond.methodLink RX4 50 yX4_offenceAt, Cond.instanceMethod yX4_offenceAt, Cond.selects RX4 yX4_offenceAt yX4_offenceAt, Cond.code yX4_offenceAt cX4_offenceAt 2 (some (.object "Chargehouse$Offence")), Cond.methodLink RX4 61 yX3_excludes, Cond.instanceMethod yX3_excludes, Cond.selects RX3 yX3_excludes yX3_excludes, Cond.code yX3_excludes cX3_excludes 2 (some .boolean)]
def wsX4_bestAnew_r6 : List Cond := [Cond.fieldLink RX3 19 "Chargehouse$Offence" "excluded" "I", Cond.methodLink RX4 370 yX4_better, Cond.instanceMethod yX4_better, Cond.selects RX4 yX4_better yX4_better, Cond.code yX4_better cX4_better 5 (some .int), Cond.methodLink RX4 196 yX4_gravityOf, Cond.instanceMethod yX4_gravityOf, Cond.selects RX4 yX4_gravityOf yX4_gravityOf, Cond.code yX4_gravityOf cX4_gravityOf 5 (some .int)]
def wsX4_bestAnew : List Cond := .code yX4_bestAnew cX4_bestAnew 5 (some .int) :: ((wsX4_bestAnew_r1 ++ (wsX4_bestAnew_r2 ++ (wsX4_bestAnew_r3 ++ (wsX4_bestAnew_r4 ++ (wsX4_bestAnew_r5 ++ wsX4_bestAnew_r6))))) ++ wsX40 ++ wsX10 ++ wsX00 ++ wsX30 ++ wsX20 ++ (vx_atS RX4 58 "java/lang/IndexOutOfBoundsException" ["java/lang/RuntimeException", "java/lang/Exception"]).filter goodWord ++ (vx_atS RX4 35 "java/lang/IllegalArgumentException" ["java/lang/RuntimeException", "java/lang/Exception"]).filter goodWord)
def wsX4_lacks_r1 : List Cond := [Cond.fieldLink RX4 293 "Chargehouse$Accused" "file" "LChargehouse$CaseFile;", Cond.fieldLink RX4 105 "Chargehouse$CaseFile" "number" "I", Cond.fieldLink RX4 296 "Chargehouse$Accused" "person" "I", Cond.methodLink RX4 170 yX4_accusedAt, Cond.instanceMethod yX4_accusedAt, Cond.selects RX4 yX4_accusedAt yX4_accusedAt, Cond.initialized RX4, Cond.code yX4_accusedAt cX4_accusedAt 5 (some (.object "Chargehouse$Accused")), Cond.classLink RX4 54 "java/lang/IndexOutOfBoundsException", Cond.initialized "java/lang/IndexOutOfBoundsException", Cond.methodLink RX4 108 yX4_fileAt, Cond.instanceMethod yX4_fileAt, Cond.selects RX4 yX4_fileAt yX4_fileAt, Cond.code yX4_fileAt cX4_fileAt 2 (some (.object "Chargehouse$CaseFile")), Cond.fieldLink RX4 17 "Chargehouse" "fileRows" "[LChargehouse$CaseFile;", Cond.methodLink RX4 325 yX1_rowOf, Cond.instanceMethod yX1_rowOf, Cond.selects RX1 yX1_rowOf yX1_rowOf, Cond.initialized RX1, Cond.code yX1_rowOf cX1_rowOf 2 (some (.object "Chargehouse$Accused")), Cond.fieldLink RX1 11 "Chargehouse$CaseFile" "rows" "[LChargehouse$Accused;", Cond.methodLink RX4 157 yX4_lackedBy, Cond.instanceMethod yX4_lackedBy, Cond.selects RX4 yX4_lackedBy yX4_lackedBy]
def wsX4_lacks_r2 : List Cond := [Cond.code yX4_lackedBy cX4_lackedBy 8 (some .int), Cond.fieldLink RX4 23 "Chargehouse" "itemRows" "[LChargehouse$Item;", Cond.fieldLink RX4 154 "Chargehouse$Item" "file" "I", Cond.methodLink RX4 383 yX2_isLackedBy, Cond.instanceMethod yX2_isLackedBy, Cond.selects RX2 yX2_isLackedBy yX2_isLackedBy, Cond.initialized RX2, Cond.code yX2_isLackedBy cX2_isLackedBy 2 (some .boolean), Cond.fieldLink RX2 21 "Chargehouse$Item" "weight" "I", Cond.fieldLink RX2 51 "Chargehouse$Item" "isWithheld" "Z", Cond.methodLink RX2 44 yX2_isAgainst, Cond.instanceMethod yX2_isAgainst, Cond.selects RX2 yX2_isAgainst yX2_isAgainst, Cond.code yX2_isAgainst cX2_isAgainst 2 (some .boolean), Cond.fieldLink RX2 24 "Chargehouse$Item" "against" "I", Cond.static yX4_hasBit, Cond.code yX4_hasBit cX4_hasBit 2 (some .boolean), Cond.methodLink RX2 48 yX2_wasShownTo, Cond.instanceMethod yX2_wasShownTo, Cond.selects RX2 yX2_wasShownTo yX2_wasShownTo, Cond.code yX2_wasShownTo cX2_wasShownTo 2 (some .boolean), Cond.fieldLink RX2 41 "Chargehouse$Item" "shownTo" "I"]
def wsX4_lacks : List Cond := .code yX4_lacks cX4_lacks 4 (some .int) :: ((wsX4_lacks_r1 ++ wsX4_lacks_r2) ++ wsX00 ++ wsX10 ++ wsX40 ++ wsX20 ++ (vx_atS RX4 58 "java/lang/IndexOutOfBoundsException" ["java/lang/RuntimeException", "java/lang/Exception"]).filter goodWord)
def wsX4_ofItem : List Cond := .code yX4_ofItem cX4_ofItem 4 (some .int) :: ([.classLink RX4 54 "java/lang/IndexOutOfBoundsException", .initialized "java/lang/IndexOutOfBoundsException", .classLink RX4 31 "java/lang/IllegalArgumentException", .initialized "java/lang/IllegalArgumentException", .fieldLink RX4 154 "Chargehouse$Item" "file" "I", .fieldLink RX4 299 "Chargehouse$Item" "element" "I", .fieldLink RX4 302 "Chargehouse$Item" "weight" "I", .fieldLink RX4 305 "Chargehouse$Item" "against" "I", .fieldLink RX4 308 "Chargehouse$Item" "cameOn" "I", .fieldLink RX4 136 "Chargehouse$Item" "admittedOn" "I", .fieldLink RX4 151 "Chargehouse$Item" "shownTo" "I", .fieldLink RX4 165 "Chargehouse$Item" "isWithheld" "Z", .methodLink RX4 127 yX4_itemAt, .instanceMethod yX4_itemAt, .selects RX4 yX4_itemAt yX4_itemAt, .initialized RX4, .code yX4_itemAt cX4_itemAt 2 (some (.object "Chargehouse$Item")), .fieldLink RX4 23 "Chargehouse" "itemRows" "[LChargehouse$Item;"] ++ wsX20 ++ wsX40 ++ (vx_atS RX4 58 "java/lang/IndexOutOfBoundsException" ["java/lang/RuntimeException", "java/lang/Exception"]).filter goodWord ++ (vx_atS RX4 35 "java/lang/IllegalArgumentException" ["java/lang/RuntimeException", "java/lang/Exception"]).filter goodWord)
def wsX4_spentOffences : List Cond := .code yX4_spentOffences cX4_spentOffences 5 (some .int) :: ([.fieldLink RX4 11 "Chargehouse" "offenceRows" "[LChargehouse$Offence;", .fieldLink RX4 70 "Chargehouse" "today" "I", .methodLink RX4 347 yX4_isSpent, .instanceMethod yX4_isSpent, .selects RX4 yX4_isSpent yX4_isSpent, .initialized RX4, .code yX4_isSpent cX4_isSpent 6 (some .boolean), .methodLink RX4 341 yX3_isAkinTo, .instanceMethod yX3_isAkinTo, .selects RX3 yX3_isAkinTo yX3_isAkinTo, .initialized RX3, .code yX3_isAkinTo cX3_isAkinTo 2 (some .boolean), .fieldLink RX3 7 "Chargehouse$Offence" "elements" "I", .methodLink RX3 28 yX3_nestsIn, .instanceMethod yX3_nestsIn, .selects RX3 yX3_nestsIn yX3_nestsIn, .code yX3_nestsIn cX3_nestsIn 2 (some .boolean), .methodLink RX4 344 yX0_hadAnswered, .instanceMethod yX0_hadAnswered, .selects RX0 yX0_hadAnswered yX0_hadAnswered, .initialized RX0, .code yX0_hadAnswered cX0_hadAnswered 3 (some .boolean), .fieldLink RX0 15 "Chargehouse$Accused" "firstAnsweredOn" "[I"] ++ wsX40 ++ wsX30 ++ wsX00)
def wsX4_ofAccused_r1 : List Cond := [Cond.classLink RX4 31 "java/lang/IllegalArgumentException", Cond.initialized "java/lang/IllegalArgumentException", Cond.fieldLink RX4 178 "Chargehouse$Accused" "state" "I", Cond.fieldLink RX4 190 "Chargehouse$Accused" "charges" "I", Cond.fieldLink RX4 207 "Chargehouse$Accused" "isInCustody" "Z", Cond.fieldLink RX4 313 "Chargehouse$Accused" "daysWhileOpen" "I", Cond.fieldLink RX4 316 "Chargehouse$Accused" "daysWhileCharged" "I", Cond.fieldLink RX4 249 "Chargehouse$Accused" "months" "I", Cond.fieldLink RX4 319 "Chargehouse$Accused" "convictedOf" "I", Cond.methodLink RX4 170 yX4_accusedAt, Cond.instanceMethod yX4_accusedAt, Cond.selects RX4 yX4_accusedAt yX4_accusedAt, Cond.initialized RX4, Cond.code yX4_accusedAt cX4_accusedAt 5 (some (.object "Chargehouse$Accused")), Cond.classLink RX4 54 "java/lang/IndexOutOfBoundsException", Cond.initialized "java/lang/IndexOutOfBoundsException", Cond.methodLink RX4 108 yX4_fileAt, Cond.instanceMethod yX4_fileAt, Cond.selects RX4 yX4_fileAt yX4_fileAt, Cond.code yX4_fileAt cX4_fileAt 2 (some (.object "Chargehouse$CaseFile")), Cond.fieldLink RX4 17 "Chargehouse" "fileRows" "[LChargehouse$CaseFile;", Cond.methodLink RX4 325 yX1_rowOf, Cond.instanceMethod yX1_rowOf, Cond.selects RX1 yX1_rowOf yX1_rowOf]
def wsX4_ofAccused_r2 : List Cond := [Cond.initialized RX1, Cond.code yX1_rowOf cX1_rowOf 2 (some (.object "Chargehouse$Accused")), Cond.fieldLink RX1 11 "Chargehouse$CaseFile" "rows" "[LChargehouse$Accused;", Cond.methodLink RX4 322 yX4_spentOffences, Cond.instanceMethod yX4_spentOffences, Cond.selects RX4 yX4_spentOffences yX4_spentOffences, Cond.code yX4_spentOffences cX4_spentOffences 5 (some .int), Cond.fieldLink RX4 11 "Chargehouse" "offenceRows" "[LChargehouse$Offence;", Cond.fieldLink RX4 70 "Chargehouse" "today" "I", Cond.methodLink RX4 347 yX4_isSpent, Cond.instanceMethod yX4_isSpent, Cond.selects RX4 yX4_isSpent yX4_isSpent, Cond.code yX4_isSpent cX4_isSpent 6 (some .boolean), Cond.methodLink RX4 341 yX3_isAkinTo, Cond.instanceMethod yX3_isAkinTo, Cond.selects RX3 yX3_isAkinTo yX3_isAkinTo, Cond.initialized RX3, Cond.code yX3_isAkinTo cX3_isAkinTo 2 (some .boolean), Cond.fieldLink RX3 7 "Chargehouse$Offence" "elements" "I", Cond.methodLink RX3 28 yX3_nestsIn, Cond.instanceMethod yX3_nestsIn, Cond.selects RX3 yX3_nestsIn yX3_nestsIn, Cond.code yX3_nestsIn cX3_nestsIn 2 (some .boolean), Cond.methodLink RX4 344 yX0_hadAnswered]
def wsX4_ofAccused_r3 : List Cond := [Cond.instanceMethod yX0_hadAnswered, Cond.selects RX0 yX0_hadAnswered yX0_hadAnswered, Cond.initialized RX0, Cond.code yX0_hadAnswered cX0_hadAnswered 3 (some .boolean), Cond.fieldLink RX0 15 "Chargehouse$Accused" "firstAnsweredOn" "[I"]
def wsX4_ofAccused : List Cond := .code yX4_ofAccused cX4_ofAccused 5 (some .int) :: ((wsX4_ofAccused_r1 ++ (wsX4_ofAccused_r2 ++ wsX4_ofAccused_r3)) ++ wsX00 ++ wsX40 ++ wsX10 ++ wsX30 ++ (vx_atS RX4 35 "java/lang/IllegalArgumentException" ["java/lang/RuntimeException", "java/lang/Exception"]).filter goodWord ++ (vx_atS RX4 58 "java/lang/IndexOutOfBoundsException" ["java/lang/RuntimeException", "java/lang/Exception"]).filter goodWord)
def wsX4_count : List Cond := .code yX4_count cX4_count 2 (some .int) :: ([.classLink RX4 31 "java/lang/IllegalArgumentException", .initialized "java/lang/IllegalArgumentException", .fieldLink RX4 224 "Chargehouse" "convictions" "I", .fieldLink RX4 232 "Chargehouse" "acquittals" "I", .fieldLink RX4 246 "Chargehouse" "pleas" "I", .fieldLink RX4 210 "Chargehouse" "drops" "I", .fieldLink RX4 215 "Chargehouse" "reopened" "I", .fieldLink RX4 75 "Chargehouse" "clockReleases" "I"] ++ wsX40 ++ (vx_atS RX4 35 "java/lang/IllegalArgumentException" ["java/lang/RuntimeException", "java/lang/Exception"]).filter goodWord)
def wsJ9_min_7cf53 : List Cond := .code yJ9_min_7cf53 cJ9_min_7cf53 2 (some .int) :: ([])
def wsL_offence_r1 : List Cond := [Cond.classLink RL 13 "java/lang/IllegalArgumentException", Cond.constant RL 15 (-2000000002), Cond.constant RL 18 (-2000000003), Cond.methodLink RL 7 yX4_offence, Cond.instanceMethod yX4_offence, Cond.selects RX4 yX4_offence yX4_offence, Cond.initialized RX4, Cond.code yX4_offence cX4_offence 4 (some .int), Cond.classLink RX4 31 "java/lang/IllegalArgumentException", Cond.initialized "java/lang/IllegalArgumentException", Cond.classLink RX4 42 "java/lang/IllegalStateException", Cond.initialized "java/lang/IllegalStateException", Cond.fieldLink RX4 38 "Chargehouse" "offenceCount" "I", Cond.fieldLink RX4 11 "Chargehouse" "offenceRows" "[LChargehouse$Offence;", Cond.classLink RX4 9 RX3, Cond.instantiable RX3 4, Cond.initialized RX3, Cond.methodLink RX4 27 yX4_isWithin, Cond.static yX4_isWithin, Cond.code yX4_isWithin cX4_isWithin 3 (some .boolean), Cond.methodLink RX4 47 yX3_init, Cond.instanceMethod yX3_init, Cond.code yX3_init cX3_init 4 none, Cond.methodLink RX3 1 objectInit]
def wsL_offence_r2 : List Cond := [Cond.instanceMethod objectInit, Cond.code objectInit ⟨#[0xb1]⟩ 1 none, Cond.fieldLink RX3 7 "Chargehouse$Offence" "elements" "I", Cond.fieldLink RX3 13 "Chargehouse$Offence" "gravity" "I", Cond.fieldLink RX3 16 "Chargehouse$Offence" "limit" "I"]
def wsL_offence : List Cond := .codeWith yL_offence cL_offence 5 (some .int) [(0, 7, 8, 13), (0, 7, 13, 16)] :: ((wsL_offence_r1 ++ wsL_offence_r2) ++ wsX40 ++ wsX30 ++ (vx_atS RX4 35 "java/lang/IllegalArgumentException" ["java/lang/RuntimeException", "java/lang/Exception"]).filter goodWord ++ (vx_atS RX4 46 "java/lang/IllegalStateException" ["java/lang/RuntimeException", "java/lang/Exception"]).filter goodWord)
def wsL_exclude_r1 : List Cond := [Cond.classLink RL 23 "java/lang/IndexOutOfBoundsException", Cond.constant RL 25 (-2000000001), Cond.constant RL 15 (-2000000002), Cond.methodLink RL 19 yX4_exclude, Cond.instanceMethod yX4_exclude, Cond.selects RX4 yX4_exclude yX4_exclude, Cond.initialized RX4, Cond.code yX4_exclude cX4_exclude 6 (some .boolean), Cond.classLink RX4 54 "java/lang/IndexOutOfBoundsException", Cond.initialized "java/lang/IndexOutOfBoundsException", Cond.classLink RX4 31 "java/lang/IllegalArgumentException", Cond.initialized "java/lang/IllegalArgumentException", Cond.fieldLink RX4 65 "Chargehouse$Offence" "excluded" "I", Cond.methodLink RX4 50 yX4_offenceAt, Cond.instanceMethod yX4_offenceAt, Cond.selects RX4 yX4_offenceAt yX4_offenceAt, Cond.code yX4_offenceAt cX4_offenceAt 2 (some (.object "Chargehouse$Offence")), Cond.fieldLink RX4 11 "Chargehouse" "offenceRows" "[LChargehouse$Offence;", Cond.methodLink RX4 61 yX3_excludes, Cond.instanceMethod yX3_excludes, Cond.selects RX3 yX3_excludes yX3_excludes, Cond.initialized RX3, Cond.code yX3_excludes cX3_excludes 2 (some .boolean), Cond.fieldLink RX3 19 "Chargehouse$Offence" "excluded" "I"]
def wsL_exclude_r2 : List Cond := [Cond.static yX4_hasBit, Cond.code yX4_hasBit cX4_hasBit 2 (some .boolean)]
def wsL_exclude : List Cond := .codeWith yL_exclude cL_exclude 4 (some .int) [(0, 14, 15, 23), (0, 14, 19, 13)] :: ((wsL_exclude_r1 ++ wsL_exclude_r2) ++ wsX30 ++ wsX40 ++ (vx_atS RX4 58 "java/lang/IndexOutOfBoundsException" ["java/lang/RuntimeException", "java/lang/Exception"]).filter goodWord ++ (vx_atS RX4 35 "java/lang/IllegalArgumentException" ["java/lang/RuntimeException", "java/lang/Exception"]).filter goodWord)
def wsL_pass_r1 : List Cond := [Cond.classLink RL 13 "java/lang/IllegalArgumentException", Cond.constant RL 15 (-2000000002), Cond.constant RL 18 (-2000000003), Cond.methodLink RL 26 yX4_pass, Cond.instanceMethod yX4_pass, Cond.selects RX4 yX4_pass yX4_pass, Cond.initialized RX4, Cond.code yX4_pass cX4_pass 6 (some .int), Cond.classLink RX4 31 "java/lang/IllegalArgumentException", Cond.initialized "java/lang/IllegalArgumentException", Cond.classLink RX4 42 "java/lang/IllegalStateException", Cond.initialized "java/lang/IllegalStateException", Cond.fieldLink RX4 70 "Chargehouse" "today" "I", Cond.fieldLink RX4 17 "Chargehouse" "fileRows" "[LChargehouse$CaseFile;", Cond.fieldLink RX4 75 "Chargehouse" "clockReleases" "I", Cond.methodLink RX4 27 yX4_isWithin, Cond.static yX4_isWithin, Cond.code yX4_isWithin cX4_isWithin 3 (some .boolean), Cond.methodLink RX4 78 yX1_passInCustody, Cond.instanceMethod yX1_passInCustody, Cond.selects RX1 yX1_passInCustody yX1_passInCustody, Cond.initialized RX1, Cond.code yX1_passInCustody cX1_passInCustody 7 (some .int), Cond.fieldLink RX1 11 "Chargehouse$CaseFile" "rows" "[LChargehouse$Accused;"]
def wsL_pass_r2 : List Cond := [Cond.fieldLink RX1 30 "Chargehouse$Accused" "isInCustody" "Z", Cond.methodLink RX1 34 yX0_isReleasedAfter, Cond.instanceMethod yX0_isReleasedAfter, Cond.selects RX0 yX0_isReleasedAfter yX0_isReleasedAfter, Cond.initialized RX0, Cond.code yX0_isReleasedAfter cX0_isReleasedAfter 4 (some .boolean), Cond.methodLink RX0 46 Lib.Math.min.name, Cond.static Lib.Math.min.name, Cond.initialized "java/lang/Math", Cond.code Lib.Math.min.name Lib.Math.min.code 2 (some .int), Cond.fieldLink RX0 9 "Chargehouse$Accused" "state" "I", Cond.fieldLink RX0 33 "Chargehouse$Accused" "daysWhileCharged" "I", Cond.fieldLink RX0 40 "Chargehouse$Accused" "daysWhileOpen" "I", Cond.fieldLink RX0 52 "Chargehouse$Accused" "isInCustody" "Z", Cond.methodLink RX0 43 yX0_daysLeft, Cond.instanceMethod yX0_daysLeft, Cond.selects RX0 yX0_daysLeft yX0_daysLeft, Cond.code yX0_daysLeft cX0_daysLeft 1 (some .int), Cond.methodLink RX0 36 yX0_ceilingWhileOpen, Cond.instanceMethod yX0_ceilingWhileOpen, Cond.selects RX0 yX0_ceilingWhileOpen yX0_ceilingWhileOpen, Cond.code yX0_ceilingWhileOpen cX0_ceilingWhileOpen 1 (some .int), Cond.fieldLink RX0 26 "Chargehouse$Accused" "extendedBy" "I", Cond.static yX4_hasBit]
def wsL_pass_r3 : List Cond := [Cond.code yX4_hasBit cX4_hasBit 2 (some .boolean)]
def wsL_pass : List Cond := .codeWith yL_pass cL_pass 3 (some .int) [(0, 5, 6, 13), (0, 5, 10, 16)] :: ((wsL_pass_r1 ++ (wsL_pass_r2 ++ wsL_pass_r3)) ++ wsX40 ++ wsX10 ++ wsX00 ++ (vx_atS RX4 35 "java/lang/IllegalArgumentException" ["java/lang/RuntimeException", "java/lang/Exception"]).filter goodWord ++ (vx_atS RX4 46 "java/lang/IllegalStateException" ["java/lang/RuntimeException", "java/lang/Exception"]).filter goodWord)
def wsL_file_r1 : List Cond := [Cond.classLink RL 13 "java/lang/IllegalArgumentException", Cond.constant RL 15 (-2000000002), Cond.constant RL 18 (-2000000003), Cond.methodLink RL 30 yX4_file, Cond.instanceMethod yX4_file, Cond.selects RX4 yX4_file yX4_file, Cond.initialized RX4, Cond.code yX4_file cX4_file 6 (some .int), Cond.classLink RX4 31 "java/lang/IllegalArgumentException", Cond.initialized "java/lang/IllegalArgumentException", Cond.classLink RX4 42 "java/lang/IllegalStateException", Cond.initialized "java/lang/IllegalStateException", Cond.fieldLink RX4 70 "Chargehouse" "today" "I", Cond.fieldLink RX4 84 "Chargehouse" "fileCount" "I", Cond.fieldLink RX4 17 "Chargehouse" "fileRows" "[LChargehouse$CaseFile;", Cond.classLink RX4 15 RX1, Cond.instantiable RX1 5, Cond.initialized RX1, Cond.fieldLink RX4 92 "Chargehouse$CaseFile" "rows" "[LChargehouse$Accused;", Cond.classLink RX4 100 RX0, Cond.instantiable RX0 14, Cond.initialized RX0, Cond.fieldLink RX4 105 "Chargehouse$CaseFile" "number" "I", Cond.methodLink RX4 27 yX4_isWithin]
def wsL_file_r2 : List Cond := [Cond.static yX4_isWithin, Cond.code yX4_isWithin cX4_isWithin 3 (some .boolean), Cond.methodLink RX4 89 yX1_init, Cond.instanceMethod yX1_init, Cond.code yX1_init cX1_init 5 none, Cond.methodLink RX1 3 objectInit, Cond.instanceMethod objectInit, Cond.code objectInit ⟨#[0xb1]⟩ 1 none, Cond.classLink RX1 9 RX0, Cond.fieldLink RX1 11 "Chargehouse$CaseFile" "rows" "[LChargehouse$Accused;", Cond.fieldLink RX1 17 "Chargehouse$CaseFile" "number" "I", Cond.fieldLink RX1 21 "Chargehouse$CaseFile" "event" "I", Cond.fieldLink RX1 24 "Chargehouse$CaseFile" "accused" "I", Cond.fieldLink RX1 27 "Chargehouse$CaseFile" "points" "I", Cond.methodLink RX4 96 yX4_hasBit, Cond.static yX4_hasBit, Cond.code yX4_hasBit cX4_hasBit 2 (some .boolean), Cond.methodLink RX4 102 yX0_init, Cond.instanceMethod yX0_init, Cond.code yX0_init cX0_init 4 none, Cond.methodLink RX0 3 objectInit, Cond.fieldLink RX0 9 "Chargehouse$Accused" "state" "I", Cond.arrayClass .int, Cond.fieldLink RX0 15 "Chargehouse$Accused" "firstAnsweredOn" "[I"]
def wsL_file_r3 : List Cond := [Cond.fieldLink RX0 19 "Chargehouse$Accused" "file" "LChargehouse$CaseFile;", Cond.fieldLink RX0 23 "Chargehouse$Accused" "person" "I"]
def wsL_file : List Cond := .codeWith yL_file cL_file 5 (some .int) [(0, 7, 8, 13), (0, 7, 13, 16)] :: ((wsL_file_r1 ++ (wsL_file_r2 ++ wsL_file_r3)) ++ wsX40 ++ wsX10 ++ wsX00 ++ (vx_atS RX4 35 "java/lang/IllegalArgumentException" ["java/lang/RuntimeException", "java/lang/Exception"]).filter goodWord ++ (vx_atS RX4 46 "java/lang/IllegalStateException" ["java/lang/RuntimeException", "java/lang/Exception"]).filter goodWord)
def wsL_item_r1 : List Cond := [Cond.classLink RL 23 "java/lang/IndexOutOfBoundsException", Cond.constant RL 25 (-2000000001), Cond.constant RL 15 (-2000000002), Cond.constant RL 18 (-2000000003), Cond.methodLink RL 33 yX4_item, Cond.instanceMethod yX4_item, Cond.selects RX4 yX4_item yX4_item, Cond.initialized RX4, Cond.code yX4_item cX4_item 8 (some .int), Cond.classLink RX4 54 "java/lang/IndexOutOfBoundsException", Cond.initialized "java/lang/IndexOutOfBoundsException", Cond.classLink RX4 31 "java/lang/IllegalArgumentException", Cond.initialized "java/lang/IllegalArgumentException", Cond.classLink RX4 42 "java/lang/IllegalStateException", Cond.initialized "java/lang/IllegalStateException", Cond.fieldLink RX4 119 "Chargehouse" "itemCount" "I", Cond.fieldLink RX4 23 "Chargehouse" "itemRows" "[LChargehouse$Item;", Cond.classLink RX4 21 RX2, Cond.instantiable RX2 10, Cond.initialized RX2, Cond.fieldLink RX4 70 "Chargehouse" "today" "I", Cond.methodLink RX4 108 yX4_fileAt, Cond.instanceMethod yX4_fileAt, Cond.selects RX4 yX4_fileAt yX4_fileAt]
def wsL_item_r2 : List Cond := [Cond.code yX4_fileAt cX4_fileAt 2 (some (.object "Chargehouse$CaseFile")), Cond.fieldLink RX4 17 "Chargehouse" "fileRows" "[LChargehouse$CaseFile;", Cond.methodLink RX4 27 yX4_isWithin, Cond.static yX4_isWithin, Cond.code yX4_isWithin cX4_isWithin 3 (some .boolean), Cond.methodLink RX4 114 yX1_hasAll, Cond.instanceMethod yX1_hasAll, Cond.selects RX1 yX1_hasAll yX1_hasAll, Cond.initialized RX1, Cond.code yX1_hasAll cX1_hasAll 2 (some .boolean), Cond.fieldLink RX1 24 "Chargehouse$CaseFile" "accused" "I", Cond.methodLink RX4 124 yX2_init, Cond.instanceMethod yX2_init, Cond.code yX2_init cX2_init 8 none, Cond.methodLink RX2 3 objectInit, Cond.instanceMethod objectInit, Cond.code objectInit ⟨#[0xb1]⟩ 1 none, Cond.fieldLink RX2 9 "Chargehouse$Item" "admittedOn" "I", Cond.fieldLink RX2 15 "Chargehouse$Item" "file" "I", Cond.fieldLink RX2 18 "Chargehouse$Item" "element" "I", Cond.fieldLink RX2 21 "Chargehouse$Item" "weight" "I", Cond.fieldLink RX2 24 "Chargehouse$Item" "against" "I", Cond.fieldLink RX2 27 "Chargehouse$Item" "how" "I", Cond.fieldLink RX2 30 "Chargehouse$Item" "isSensitive" "Z"]
def wsL_item_r3 : List Cond := [Cond.fieldLink RX2 34 "Chargehouse$Item" "cameOn" "I"]
def wsL_item : List Cond := .codeWith yL_item cL_item 8 (some .int) [(0, 13, 14, 23), (0, 13, 19, 13), (0, 13, 24, 16)] :: ((wsL_item_r1 ++ (wsL_item_r2 ++ wsL_item_r3)) ++ wsX40 ++ wsX20 ++ wsX10 ++ (vx_atS RX4 58 "java/lang/IndexOutOfBoundsException" ["java/lang/RuntimeException", "java/lang/Exception"]).filter goodWord ++ (vx_atS RX4 35 "java/lang/IllegalArgumentException" ["java/lang/RuntimeException", "java/lang/Exception"]).filter goodWord ++ (vx_atS RX4 46 "java/lang/IllegalStateException" ["java/lang/RuntimeException", "java/lang/Exception"]).filter goodWord)
def wsL_admit : List Cond := .codeWith yL_admit cL_admit 3 (some .int) [(0, 6, 7, 23), (0, 6, 11, 16)] :: ([.classLink RL 23 "java/lang/IndexOutOfBoundsException", .constant RL 25 (-2000000001), .constant RL 18 (-2000000003), .methodLink RL 37 yX4_admit, .instanceMethod yX4_admit, .selects RX4 yX4_admit yX4_admit, .initialized RX4, .code yX4_admit cX4_admit 3 none, .classLink RX4 54 "java/lang/IndexOutOfBoundsException", .initialized "java/lang/IndexOutOfBoundsException", .classLink RX4 42 "java/lang/IllegalStateException", .initialized "java/lang/IllegalStateException", .fieldLink RX4 133 "Chargehouse$Item" "how" "I", .fieldLink RX4 136 "Chargehouse$Item" "admittedOn" "I", .fieldLink RX4 70 "Chargehouse" "today" "I", .methodLink RX4 127 yX4_itemAt, .instanceMethod yX4_itemAt, .selects RX4 yX4_itemAt yX4_itemAt, .code yX4_itemAt cX4_itemAt 2 (some (.object "Chargehouse$Item")), .fieldLink RX4 23 "Chargehouse" "itemRows" "[LChargehouse$Item;"] ++ wsX20 ++ wsX40 ++ (vx_atS RX4 58 "java/lang/IndexOutOfBoundsException" ["java/lang/RuntimeException", "java/lang/Exception"]).filter goodWord ++ (vx_atS RX4 46 "java/lang/IllegalStateException" ["java/lang/RuntimeException", "java/lang/Exception"]).filter goodWord)
def wsL_show_r1 : List Cond := [Cond.classLink RL 23 "java/lang/IndexOutOfBoundsException", Cond.constant RL 25 (-2000000001), Cond.constant RL 18 (-2000000003), Cond.methodLink RL 41 yX4_show, Cond.instanceMethod yX4_show, Cond.selects RX4 yX4_show yX4_show, Cond.initialized RX4, Cond.code yX4_show cX4_show 4 (some .int), Cond.classLink RX4 54 "java/lang/IndexOutOfBoundsException", Cond.initialized "java/lang/IndexOutOfBoundsException", Cond.classLink RX4 42 "java/lang/IllegalStateException", Cond.initialized "java/lang/IllegalStateException", Cond.fieldLink RX4 151 "Chargehouse$Item" "shownTo" "I", Cond.fieldLink RX4 154 "Chargehouse$Item" "file" "I", Cond.methodLink RX4 127 yX4_itemAt, Cond.instanceMethod yX4_itemAt, Cond.selects RX4 yX4_itemAt yX4_itemAt, Cond.code yX4_itemAt cX4_itemAt 2 (some (.object "Chargehouse$Item")), Cond.fieldLink RX4 23 "Chargehouse" "itemRows" "[LChargehouse$Item;", Cond.methodLink RX4 27 yX4_isWithin, Cond.static yX4_isWithin, Cond.code yX4_isWithin cX4_isWithin 3 (some .boolean), Cond.methodLink RX4 143 yX2_isAgainst, Cond.instanceMethod yX2_isAgainst]
def wsL_show_r2 : List Cond := [Cond.selects RX2 yX2_isAgainst yX2_isAgainst, Cond.initialized RX2, Cond.code yX2_isAgainst cX2_isAgainst 2 (some .boolean), Cond.fieldLink RX2 24 "Chargehouse$Item" "against" "I", Cond.static yX4_hasBit, Cond.code yX4_hasBit cX4_hasBit 2 (some .boolean), Cond.methodLink RX4 146 yX2_wasShownTo, Cond.instanceMethod yX2_wasShownTo, Cond.selects RX2 yX2_wasShownTo yX2_wasShownTo, Cond.code yX2_wasShownTo cX2_wasShownTo 2 (some .boolean), Cond.fieldLink RX2 41 "Chargehouse$Item" "shownTo" "I", Cond.methodLink RX4 157 yX4_lackedBy, Cond.instanceMethod yX4_lackedBy, Cond.selects RX4 yX4_lackedBy yX4_lackedBy, Cond.code yX4_lackedBy cX4_lackedBy 8 (some .int), Cond.methodLink RX4 383 yX2_isLackedBy, Cond.instanceMethod yX2_isLackedBy, Cond.selects RX2 yX2_isLackedBy yX2_isLackedBy, Cond.code yX2_isLackedBy cX2_isLackedBy 2 (some .boolean), Cond.fieldLink RX2 21 "Chargehouse$Item" "weight" "I", Cond.fieldLink RX2 51 "Chargehouse$Item" "isWithheld" "Z", Cond.methodLink RX2 44 yX2_isAgainst, Cond.methodLink RX2 48 yX2_wasShownTo]
def wsL_show : List Cond := .codeWith yL_show cL_show 4 (some .int) [(0, 6, 7, 23), (0, 6, 11, 16)] :: ((wsL_show_r1 ++ wsL_show_r2) ++ wsX20 ++ wsX40 ++ (vx_atS RX4 58 "java/lang/IndexOutOfBoundsException" ["java/lang/RuntimeException", "java/lang/Exception"]).filter goodWord ++ (vx_atS RX4 46 "java/lang/IllegalStateException" ["java/lang/RuntimeException", "java/lang/Exception"]).filter goodWord)
def wsL_withhold : List Cond := .codeWith yL_withhold cL_withhold 3 (some .int) [(0, 6, 7, 23), (0, 6, 11, 16)] :: ([.classLink RL 23 "java/lang/IndexOutOfBoundsException", .constant RL 25 (-2000000001), .constant RL 18 (-2000000003), .methodLink RL 45 yX4_withhold, .instanceMethod yX4_withhold, .selects RX4 yX4_withhold yX4_withhold, .initialized RX4, .code yX4_withhold cX4_withhold 3 none, .classLink RX4 54 "java/lang/IndexOutOfBoundsException", .initialized "java/lang/IndexOutOfBoundsException", .classLink RX4 42 "java/lang/IllegalStateException", .initialized "java/lang/IllegalStateException", .fieldLink RX4 161 "Chargehouse$Item" "isSensitive" "Z", .fieldLink RX4 165 "Chargehouse$Item" "isWithheld" "Z", .methodLink RX4 127 yX4_itemAt, .instanceMethod yX4_itemAt, .selects RX4 yX4_itemAt yX4_itemAt, .code yX4_itemAt cX4_itemAt 2 (some (.object "Chargehouse$Item")), .fieldLink RX4 23 "Chargehouse" "itemRows" "[LChargehouse$Item;"] ++ wsX20 ++ wsX40 ++ (vx_atS RX4 58 "java/lang/IndexOutOfBoundsException" ["java/lang/RuntimeException", "java/lang/Exception"]).filter goodWord ++ (vx_atS RX4 46 "java/lang/IllegalStateException" ["java/lang/RuntimeException", "java/lang/Exception"]).filter goodWord)
def wsL_charge_r1 : List Cond := [Cond.classLink RL 23 "java/lang/IndexOutOfBoundsException", Cond.constant RL 25 (-2000000001), Cond.constant RL 15 (-2000000002), Cond.constant RL 18 (-2000000003), Cond.methodLink RL 48 yX4_charge, Cond.instanceMethod yX4_charge, Cond.selects RX4 yX4_charge yX4_charge, Cond.initialized RX4, Cond.code yX4_charge cX4_charge 5 (some .int), Cond.classLink RX4 42 "java/lang/IllegalStateException", Cond.initialized "java/lang/IllegalStateException", Cond.fieldLink RX4 178 "Chargehouse$Accused" "state" "I", Cond.fieldLink RX4 70 "Chargehouse" "today" "I", Cond.fieldLink RX4 190 "Chargehouse$Accused" "charges" "I", Cond.fieldLink RX4 193 "Chargehouse$Accused" "chargedOn" "I", Cond.methodLink RX4 170 yX4_accusedAt, Cond.instanceMethod yX4_accusedAt, Cond.selects RX4 yX4_accusedAt yX4_accusedAt, Cond.code yX4_accusedAt cX4_accusedAt 5 (some (.object "Chargehouse$Accused")), Cond.classLink RX4 54 "java/lang/IndexOutOfBoundsException", Cond.initialized "java/lang/IndexOutOfBoundsException", Cond.methodLink RX4 108 yX4_fileAt, Cond.instanceMethod yX4_fileAt, Cond.selects RX4 yX4_fileAt yX4_fileAt]
def wsL_charge_r2 : List Cond := [Cond.code yX4_fileAt cX4_fileAt 2 (some (.object "Chargehouse$CaseFile")), Cond.fieldLink RX4 17 "Chargehouse" "fileRows" "[LChargehouse$CaseFile;", Cond.methodLink RX4 325 yX1_rowOf, Cond.instanceMethod yX1_rowOf, Cond.selects RX1 yX1_rowOf yX1_rowOf, Cond.initialized RX1, Cond.code yX1_rowOf cX1_rowOf 2 (some (.object "Chargehouse$Accused")), Cond.fieldLink RX1 11 "Chargehouse$CaseFile" "rows" "[LChargehouse$Accused;", Cond.methodLink RX4 174 yX4_checkToldOffences, Cond.instanceMethod yX4_checkToldOffences, Cond.selects RX4 yX4_checkToldOffences yX4_checkToldOffences, Cond.code yX4_checkToldOffences cX4_checkToldOffences 3 none, Cond.classLink RX4 31 "java/lang/IllegalArgumentException", Cond.initialized "java/lang/IllegalArgumentException", Cond.fieldLink RX4 38 "Chargehouse" "offenceCount" "I", Cond.methodLink RX4 181 yX4_chargeable, Cond.instanceMethod yX4_chargeable, Cond.selects RX4 yX4_chargeable yX4_chargeable, Cond.code yX4_chargeable cX4_chargeable 6 (some .int), Cond.fieldLink RX4 11 "Chargehouse" "offenceRows" "[LChargehouse$Offence;", Cond.methodLink RX4 283 yX4_hindrance, Cond.instanceMethod yX4_hindrance, Cond.selects RX4 yX4_hindrance yX4_hindrance, Cond.code yX4_hindrance cX4_hindrance 4 (some .int)]
def wsL_charge_r3 : List Cond := [Cond.fieldLink RX4 293 "Chargehouse$Accused" "file" "LChargehouse$CaseFile;", Cond.fieldLink RX4 351 "Chargehouse$CaseFile" "event" "I", Cond.fieldLink RX4 354 "Chargehouse$Offence" "limit" "I", Cond.fieldLink RX4 361 "Chargehouse$Offence" "gravity" "I", Cond.fieldLink RX4 364 "Chargehouse$CaseFile" "points" "I", Cond.methodLink RX4 347 yX4_isSpent, Cond.instanceMethod yX4_isSpent, Cond.selects RX4 yX4_isSpent yX4_isSpent, Cond.code yX4_isSpent cX4_isSpent 6 (some .boolean), Cond.methodLink RX4 341 yX3_isAkinTo, Cond.instanceMethod yX3_isAkinTo, Cond.selects RX3 yX3_isAkinTo yX3_isAkinTo, Cond.initialized RX3, Cond.code yX3_isAkinTo cX3_isAkinTo 2 (some .boolean), Cond.fieldLink RX3 7 "Chargehouse$Offence" "elements" "I", Cond.methodLink RX3 28 yX3_nestsIn, Cond.instanceMethod yX3_nestsIn, Cond.selects RX3 yX3_nestsIn yX3_nestsIn, Cond.code yX3_nestsIn cX3_nestsIn 2 (some .boolean), Cond.methodLink RX4 344 yX0_hadAnswered, Cond.instanceMethod yX0_hadAnswered, Cond.selects RX0 yX0_hadAnswered yX0_hadAnswered, Cond.initialized RX0, Cond.code yX0_hadAnswered cX0_hadAnswered 3 (some .boolean)]
def wsL_charge_r4 : List Cond := [Cond.fieldLink RX0 15 "Chargehouse$Accused" "firstAnsweredOn" "[I", Cond.methodLink RX4 357 yX4_hasStrength, Cond.instanceMethod yX4_hasStrength, Cond.selects RX4 yX4_hasStrength yX4_hasStrength, Cond.code yX4_hasStrength cX4_hasStrength 6 (some .boolean), Cond.fieldLink RX4 338 "Chargehouse$Offence" "elements" "I", Cond.methodLink RX4 96 yX4_hasBit, Cond.static yX4_hasBit, Cond.code yX4_hasBit cX4_hasBit 2 (some .boolean), Cond.methodLink RX4 279 yX4_strengthAgainst, Cond.instanceMethod yX4_strengthAgainst, Cond.selects RX4 yX4_strengthAgainst yX4_strengthAgainst, Cond.code yX4_strengthAgainst cX4_strengthAgainst 9 (some .int), Cond.fieldLink RX4 23 "Chargehouse" "itemRows" "[LChargehouse$Item;", Cond.fieldLink RX4 154 "Chargehouse$Item" "file" "I", Cond.fieldLink RX4 105 "Chargehouse$CaseFile" "number" "I", Cond.fieldLink RX4 299 "Chargehouse$Item" "element" "I", Cond.fieldLink RX4 296 "Chargehouse$Accused" "person" "I", Cond.fieldLink RX4 302 "Chargehouse$Item" "weight" "I", Cond.methodLink RX4 143 yX2_isAgainst, Cond.instanceMethod yX2_isAgainst, Cond.selects RX2 yX2_isAgainst yX2_isAgainst, Cond.initialized RX2, Cond.code yX2_isAgainst cX2_isAgainst 2 (some .boolean)]
def wsL_charge_r5 : List Cond := [Cond.fieldLink RX2 24 "Chargehouse$Item" "against" "I", Cond.methodLink RX4 335 yX2_countsOn, Cond.instanceMethod yX2_countsOn, Cond.selects RX2 yX2_countsOn yX2_countsOn, Cond.code yX2_countsOn cX2_countsOn 3 (some .boolean), Cond.fieldLink RX2 9 "Chargehouse$Item" "admittedOn" "I", Cond.fieldLink RX2 34 "Chargehouse$Item" "cameOn" "I", Cond.fieldLink RX2 27 "Chargehouse$Item" "how" "I", Cond.methodLink RX4 185 yX4_isRight, Cond.instanceMethod yX4_isRight, Cond.selects RX4 yX4_isRight yX4_isRight, Cond.code yX4_isRight cX4_isRight 5 (some .boolean), Cond.methodLink RX4 227 yJ6_bitCount_0f7a4, Cond.static yJ6_bitCount_0f7a4, Cond.initialized RJ6, Cond.code yJ6_bitCount_0f7a4 cJ6_bitCount_0f7a4 1 (some .int), Cond.constant RJ6 265 (1431655765), Cond.constant RJ6 266 (858993459), Cond.constant RJ6 267 (252645135), Cond.methodLink RX4 367 yX4_matesOf, Cond.instanceMethod yX4_matesOf, Cond.selects RX4 yX4_matesOf yX4_matesOf, Cond.code yX4_matesOf cX4_matesOf 6 (some .int), Cond.methodLink RX4 50 yX4_offenceAt]
def wsL_charge_r6 : List Cond := [Cond.instanceMethod yX4_offenceAt, Cond.selects RX4 yX4_offenceAt yX4_offenceAt, Cond.code yX4_offenceAt cX4_offenceAt 2 (some (.object "Chargehouse$Offence")), Cond.methodLink RX4 61 yX3_excludes, Cond.instanceMethod yX3_excludes, Cond.selects RX3 yX3_excludes yX3_excludes, Cond.code yX3_excludes cX3_excludes 2 (some .boolean), Cond.fieldLink RX3 19 "Chargehouse$Offence" "excluded" "I", Cond.methodLink RX4 196 yX4_gravityOf, Cond.instanceMethod yX4_gravityOf, Cond.selects RX4 yX4_gravityOf yX4_gravityOf, Cond.code yX4_gravityOf cX4_gravityOf 5 (some .int)]
def wsL_charge : List Cond := .codeWith yL_charge cL_charge 5 (some .int) [(0, 7, 8, 23), (0, 7, 13, 13), (0, 7, 18, 16)] :: ((wsL_charge_r1 ++ (wsL_charge_r2 ++ (wsL_charge_r3 ++ (wsL_charge_r4 ++ (wsL_charge_r5 ++ wsL_charge_r6))))) ++ wsX00 ++ wsX40 ++ wsX10 ++ wsX30 ++ wsX20 ++ (vx_atS RX4 46 "java/lang/IllegalStateException" ["java/lang/RuntimeException", "java/lang/Exception"]).filter goodWord ++ (vx_atS RX4 58 "java/lang/IndexOutOfBoundsException" ["java/lang/RuntimeException", "java/lang/Exception"]).filter goodWord ++ (vx_atS RX4 35 "java/lang/IllegalArgumentException" ["java/lang/RuntimeException", "java/lang/Exception"]).filter goodWord)
def wsL_drop_r1 : List Cond := [Cond.classLink RL 23 "java/lang/IndexOutOfBoundsException", Cond.constant RL 25 (-2000000001), Cond.constant RL 18 (-2000000003), Cond.methodLink RL 51 yX4_drop, Cond.instanceMethod yX4_drop, Cond.selects RX4 yX4_drop yX4_drop, Cond.initialized RX4, Cond.code yX4_drop cX4_drop 4 none, Cond.classLink RX4 42 "java/lang/IllegalStateException", Cond.initialized "java/lang/IllegalStateException", Cond.fieldLink RX4 178 "Chargehouse$Accused" "state" "I", Cond.fieldLink RX4 70 "Chargehouse" "today" "I", Cond.fieldLink RX4 201 "Chargehouse$Accused" "droppedOn" "I", Cond.fieldLink RX4 204 "Chargehouse$Accused" "isReviewed" "Z", Cond.fieldLink RX4 207 "Chargehouse$Accused" "isInCustody" "Z", Cond.fieldLink RX4 210 "Chargehouse" "drops" "I", Cond.methodLink RX4 170 yX4_accusedAt, Cond.instanceMethod yX4_accusedAt, Cond.selects RX4 yX4_accusedAt yX4_accusedAt, Cond.code yX4_accusedAt cX4_accusedAt 5 (some (.object "Chargehouse$Accused")), Cond.classLink RX4 54 "java/lang/IndexOutOfBoundsException", Cond.initialized "java/lang/IndexOutOfBoundsException", Cond.methodLink RX4 108 yX4_fileAt, Cond.instanceMethod yX4_fileAt]
def wsL_drop_r2 : List Cond := [Cond.selects RX4 yX4_fileAt yX4_fileAt, Cond.code yX4_fileAt cX4_fileAt 2 (some (.object "Chargehouse$CaseFile")), Cond.fieldLink RX4 17 "Chargehouse" "fileRows" "[LChargehouse$CaseFile;", Cond.methodLink RX4 325 yX1_rowOf, Cond.instanceMethod yX1_rowOf, Cond.selects RX1 yX1_rowOf yX1_rowOf, Cond.initialized RX1, Cond.code yX1_rowOf cX1_rowOf 2 (some (.object "Chargehouse$Accused")), Cond.fieldLink RX1 11 "Chargehouse$CaseFile" "rows" "[LChargehouse$Accused;"]
def wsL_drop : List Cond := .codeWith yL_drop cL_drop 4 (some .int) [(0, 7, 8, 23), (0, 7, 12, 16)] :: ((wsL_drop_r1 ++ wsL_drop_r2) ++ wsX00 ++ wsX40 ++ wsX10 ++ (vx_atS RX4 46 "java/lang/IllegalStateException" ["java/lang/RuntimeException", "java/lang/Exception"]).filter goodWord ++ (vx_atS RX4 58 "java/lang/IndexOutOfBoundsException" ["java/lang/RuntimeException", "java/lang/Exception"]).filter goodWord)
def wsL_review_r1 : List Cond := [Cond.classLink RL 23 "java/lang/IndexOutOfBoundsException", Cond.constant RL 25 (-2000000001), Cond.constant RL 18 (-2000000003), Cond.methodLink RL 55 yX4_review, Cond.instanceMethod yX4_review, Cond.selects RX4 yX4_review yX4_review, Cond.initialized RX4, Cond.code yX4_review cX4_review 4 (some .boolean), Cond.classLink RX4 42 "java/lang/IllegalStateException", Cond.initialized "java/lang/IllegalStateException", Cond.fieldLink RX4 178 "Chargehouse$Accused" "state" "I", Cond.fieldLink RX4 70 "Chargehouse" "today" "I", Cond.fieldLink RX4 201 "Chargehouse$Accused" "droppedOn" "I", Cond.fieldLink RX4 204 "Chargehouse$Accused" "isReviewed" "Z", Cond.fieldLink RX4 215 "Chargehouse" "reopened" "I", Cond.methodLink RX4 170 yX4_accusedAt, Cond.instanceMethod yX4_accusedAt, Cond.selects RX4 yX4_accusedAt yX4_accusedAt, Cond.code yX4_accusedAt cX4_accusedAt 5 (some (.object "Chargehouse$Accused")), Cond.classLink RX4 54 "java/lang/IndexOutOfBoundsException", Cond.initialized "java/lang/IndexOutOfBoundsException", Cond.methodLink RX4 108 yX4_fileAt, Cond.instanceMethod yX4_fileAt, Cond.selects RX4 yX4_fileAt yX4_fileAt]
def wsL_review_r2 : List Cond := [Cond.code yX4_fileAt cX4_fileAt 2 (some (.object "Chargehouse$CaseFile")), Cond.fieldLink RX4 17 "Chargehouse" "fileRows" "[LChargehouse$CaseFile;", Cond.methodLink RX4 325 yX1_rowOf, Cond.instanceMethod yX1_rowOf, Cond.selects RX1 yX1_rowOf yX1_rowOf, Cond.initialized RX1, Cond.code yX1_rowOf cX1_rowOf 2 (some (.object "Chargehouse$Accused")), Cond.fieldLink RX1 11 "Chargehouse$CaseFile" "rows" "[LChargehouse$Accused;", Cond.methodLink RX4 181 yX4_chargeable, Cond.instanceMethod yX4_chargeable, Cond.selects RX4 yX4_chargeable yX4_chargeable, Cond.code yX4_chargeable cX4_chargeable 6 (some .int), Cond.fieldLink RX4 11 "Chargehouse" "offenceRows" "[LChargehouse$Offence;", Cond.methodLink RX4 283 yX4_hindrance, Cond.instanceMethod yX4_hindrance, Cond.selects RX4 yX4_hindrance yX4_hindrance, Cond.code yX4_hindrance cX4_hindrance 4 (some .int), Cond.fieldLink RX4 293 "Chargehouse$Accused" "file" "LChargehouse$CaseFile;", Cond.fieldLink RX4 351 "Chargehouse$CaseFile" "event" "I", Cond.fieldLink RX4 354 "Chargehouse$Offence" "limit" "I", Cond.fieldLink RX4 361 "Chargehouse$Offence" "gravity" "I", Cond.fieldLink RX4 364 "Chargehouse$CaseFile" "points" "I", Cond.methodLink RX4 347 yX4_isSpent, Cond.instanceMethod yX4_isSpent]
def wsL_review_r3 : List Cond := [Cond.selects RX4 yX4_isSpent yX4_isSpent, Cond.code yX4_isSpent cX4_isSpent 6 (some .boolean), Cond.methodLink RX4 341 yX3_isAkinTo, Cond.instanceMethod yX3_isAkinTo, Cond.selects RX3 yX3_isAkinTo yX3_isAkinTo, Cond.initialized RX3, Cond.code yX3_isAkinTo cX3_isAkinTo 2 (some .boolean), Cond.fieldLink RX3 7 "Chargehouse$Offence" "elements" "I", Cond.methodLink RX3 28 yX3_nestsIn, Cond.instanceMethod yX3_nestsIn, Cond.selects RX3 yX3_nestsIn yX3_nestsIn, Cond.code yX3_nestsIn cX3_nestsIn 2 (some .boolean), Cond.methodLink RX4 344 yX0_hadAnswered, Cond.instanceMethod yX0_hadAnswered, Cond.selects RX0 yX0_hadAnswered yX0_hadAnswered, Cond.initialized RX0, Cond.code yX0_hadAnswered cX0_hadAnswered 3 (some .boolean), Cond.fieldLink RX0 15 "Chargehouse$Accused" "firstAnsweredOn" "[I", Cond.methodLink RX4 357 yX4_hasStrength, Cond.instanceMethod yX4_hasStrength, Cond.selects RX4 yX4_hasStrength yX4_hasStrength, Cond.code yX4_hasStrength cX4_hasStrength 6 (some .boolean), Cond.fieldLink RX4 338 "Chargehouse$Offence" "elements" "I", Cond.methodLink RX4 96 yX4_hasBit]
def wsL_review_r4 : List Cond := [Cond.static yX4_hasBit, Cond.code yX4_hasBit cX4_hasBit 2 (some .boolean), Cond.methodLink RX4 279 yX4_strengthAgainst, Cond.instanceMethod yX4_strengthAgainst, Cond.selects RX4 yX4_strengthAgainst yX4_strengthAgainst, Cond.code yX4_strengthAgainst cX4_strengthAgainst 9 (some .int), Cond.fieldLink RX4 23 "Chargehouse" "itemRows" "[LChargehouse$Item;", Cond.fieldLink RX4 154 "Chargehouse$Item" "file" "I", Cond.fieldLink RX4 105 "Chargehouse$CaseFile" "number" "I", Cond.fieldLink RX4 299 "Chargehouse$Item" "element" "I", Cond.fieldLink RX4 296 "Chargehouse$Accused" "person" "I", Cond.fieldLink RX4 302 "Chargehouse$Item" "weight" "I", Cond.methodLink RX4 143 yX2_isAgainst, Cond.instanceMethod yX2_isAgainst, Cond.selects RX2 yX2_isAgainst yX2_isAgainst, Cond.initialized RX2, Cond.code yX2_isAgainst cX2_isAgainst 2 (some .boolean), Cond.fieldLink RX2 24 "Chargehouse$Item" "against" "I", Cond.methodLink RX4 335 yX2_countsOn, Cond.instanceMethod yX2_countsOn, Cond.selects RX2 yX2_countsOn yX2_countsOn, Cond.code yX2_countsOn cX2_countsOn 3 (some .boolean), Cond.fieldLink RX2 9 "Chargehouse$Item" "admittedOn" "I", Cond.fieldLink RX2 34 "Chargehouse$Item" "cameOn" "I"]
def wsL_review_r5 : List Cond := [Cond.fieldLink RX2 27 "Chargehouse$Item" "how" "I"]
def wsL_review : List Cond := .codeWith yL_review cL_review 4 (some .int) [(0, 14, 15, 23), (0, 14, 19, 16)] :: ((wsL_review_r1 ++ (wsL_review_r2 ++ (wsL_review_r3 ++ (wsL_review_r4 ++ wsL_review_r5)))) ++ wsX00 ++ wsX40 ++ wsX10 ++ wsX30 ++ wsX20 ++ (vx_atS RX4 46 "java/lang/IllegalStateException" ["java/lang/RuntimeException", "java/lang/Exception"]).filter goodWord ++ (vx_atS RX4 58 "java/lang/IndexOutOfBoundsException" ["java/lang/RuntimeException", "java/lang/Exception"]).filter goodWord)
def wsL_trial_r1 : List Cond := [Cond.classLink RL 23 "java/lang/IndexOutOfBoundsException", Cond.constant RL 25 (-2000000001), Cond.constant RL 18 (-2000000003), Cond.methodLink RL 58 yX4_trial, Cond.instanceMethod yX4_trial, Cond.selects RX4 yX4_trial yX4_trial, Cond.initialized RX4, Cond.code yX4_trial cX4_trial 5 (some .int), Cond.classLink RX4 42 "java/lang/IllegalStateException", Cond.initialized "java/lang/IllegalStateException", Cond.fieldLink RX4 178 "Chargehouse$Accused" "state" "I", Cond.fieldLink RX4 224 "Chargehouse" "convictions" "I", Cond.fieldLink RX4 232 "Chargehouse" "acquittals" "I", Cond.fieldLink RX4 190 "Chargehouse$Accused" "charges" "I", Cond.fieldLink RX4 70 "Chargehouse" "today" "I", Cond.methodLink RX4 170 yX4_accusedAt, Cond.instanceMethod yX4_accusedAt, Cond.selects RX4 yX4_accusedAt yX4_accusedAt, Cond.code yX4_accusedAt cX4_accusedAt 5 (some (.object "Chargehouse$Accused")), Cond.classLink RX4 54 "java/lang/IndexOutOfBoundsException", Cond.initialized "java/lang/IndexOutOfBoundsException", Cond.methodLink RX4 108 yX4_fileAt, Cond.instanceMethod yX4_fileAt, Cond.selects RX4 yX4_fileAt yX4_fileAt]
def wsL_trial_r2 : List Cond := [Cond.code yX4_fileAt cX4_fileAt 2 (some (.object "Chargehouse$CaseFile")), Cond.fieldLink RX4 17 "Chargehouse" "fileRows" "[LChargehouse$CaseFile;", Cond.methodLink RX4 325 yX1_rowOf, Cond.instanceMethod yX1_rowOf, Cond.selects RX1 yX1_rowOf yX1_rowOf, Cond.initialized RX1, Cond.code yX1_rowOf cX1_rowOf 2 (some (.object "Chargehouse$Accused")), Cond.fieldLink RX1 11 "Chargehouse$CaseFile" "rows" "[LChargehouse$Accused;", Cond.methodLink RX4 157 yX4_lackedBy, Cond.instanceMethod yX4_lackedBy, Cond.selects RX4 yX4_lackedBy yX4_lackedBy, Cond.code yX4_lackedBy cX4_lackedBy 8 (some .int), Cond.fieldLink RX4 23 "Chargehouse" "itemRows" "[LChargehouse$Item;", Cond.fieldLink RX4 154 "Chargehouse$Item" "file" "I", Cond.methodLink RX4 383 yX2_isLackedBy, Cond.instanceMethod yX2_isLackedBy, Cond.selects RX2 yX2_isLackedBy yX2_isLackedBy, Cond.initialized RX2, Cond.code yX2_isLackedBy cX2_isLackedBy 2 (some .boolean), Cond.fieldLink RX2 21 "Chargehouse$Item" "weight" "I", Cond.fieldLink RX2 51 "Chargehouse$Item" "isWithheld" "Z", Cond.methodLink RX2 44 yX2_isAgainst, Cond.instanceMethod yX2_isAgainst, Cond.selects RX2 yX2_isAgainst yX2_isAgainst]
def wsL_trial_r3 : List Cond := [Cond.code yX2_isAgainst cX2_isAgainst 2 (some .boolean), Cond.fieldLink RX2 24 "Chargehouse$Item" "against" "I", Cond.static yX4_hasBit, Cond.code yX4_hasBit cX4_hasBit 2 (some .boolean), Cond.methodLink RX2 48 yX2_wasShownTo, Cond.instanceMethod yX2_wasShownTo, Cond.selects RX2 yX2_wasShownTo yX2_wasShownTo, Cond.code yX2_wasShownTo cX2_wasShownTo 2 (some .boolean), Cond.fieldLink RX2 41 "Chargehouse$Item" "shownTo" "I", Cond.methodLink RX4 220 yX4_provenCharges, Cond.instanceMethod yX4_provenCharges, Cond.selects RX4 yX4_provenCharges yX4_provenCharges, Cond.code yX4_provenCharges cX4_provenCharges 5 (some .int), Cond.fieldLink RX4 11 "Chargehouse" "offenceRows" "[LChargehouse$Offence;", Cond.methodLink RX4 96 yX4_hasBit, Cond.methodLink RX4 357 yX4_hasStrength, Cond.instanceMethod yX4_hasStrength, Cond.selects RX4 yX4_hasStrength yX4_hasStrength, Cond.code yX4_hasStrength cX4_hasStrength 6 (some .boolean), Cond.fieldLink RX4 338 "Chargehouse$Offence" "elements" "I", Cond.methodLink RX4 279 yX4_strengthAgainst, Cond.instanceMethod yX4_strengthAgainst, Cond.selects RX4 yX4_strengthAgainst yX4_strengthAgainst, Cond.code yX4_strengthAgainst cX4_strengthAgainst 9 (some .int)]
def wsL_trial_r4 : List Cond := [Cond.fieldLink RX4 293 "Chargehouse$Accused" "file" "LChargehouse$CaseFile;", Cond.fieldLink RX4 105 "Chargehouse$CaseFile" "number" "I", Cond.fieldLink RX4 299 "Chargehouse$Item" "element" "I", Cond.fieldLink RX4 296 "Chargehouse$Accused" "person" "I", Cond.fieldLink RX4 302 "Chargehouse$Item" "weight" "I", Cond.methodLink RX4 143 yX2_isAgainst, Cond.methodLink RX4 335 yX2_countsOn, Cond.instanceMethod yX2_countsOn, Cond.selects RX2 yX2_countsOn yX2_countsOn, Cond.code yX2_countsOn cX2_countsOn 3 (some .boolean), Cond.fieldLink RX2 9 "Chargehouse$Item" "admittedOn" "I", Cond.fieldLink RX2 34 "Chargehouse$Item" "cameOn" "I", Cond.fieldLink RX2 27 "Chargehouse$Item" "how" "I", Cond.methodLink RX4 227 yJ6_bitCount_0f7a4, Cond.static yJ6_bitCount_0f7a4, Cond.initialized RJ6, Cond.code yJ6_bitCount_0f7a4 cJ6_bitCount_0f7a4 1 (some .int), Cond.constant RJ6 265 (1431655765), Cond.constant RJ6 266 (858993459), Cond.constant RJ6 267 (252645135), Cond.methodLink RX4 235 yX0_answerCharges, Cond.instanceMethod yX0_answerCharges, Cond.selects RX0 yX0_answerCharges yX0_answerCharges, Cond.initialized RX0]
def wsL_trial_r5 : List Cond := [Cond.code yX0_answerCharges cX0_answerCharges 4 none, Cond.fieldLink RX0 15 "Chargehouse$Accused" "firstAnsweredOn" "[I", Cond.fieldLink RX0 56 "Chargehouse$Accused" "charges" "I", Cond.fieldLink RX0 59 "Chargehouse$Accused" "convictedOf" "I", Cond.fieldLink RX0 33 "Chargehouse$Accused" "daysWhileCharged" "I", Cond.fieldLink RX0 52 "Chargehouse$Accused" "isInCustody" "Z", Cond.fieldLink RX0 9 "Chargehouse$Accused" "state" "I"]
def wsL_trial : List Cond := .codeWith yL_trial cL_trial 4 (some .int) [(0, 6, 7, 23), (0, 6, 11, 16)] :: ((wsL_trial_r1 ++ (wsL_trial_r2 ++ (wsL_trial_r3 ++ (wsL_trial_r4 ++ wsL_trial_r5)))) ++ wsX00 ++ wsX40 ++ wsX10 ++ wsX20 ++ wsX30 ++ (vx_atS RX4 46 "java/lang/IllegalStateException" ["java/lang/RuntimeException", "java/lang/Exception"]).filter goodWord ++ (vx_atS RX4 58 "java/lang/IndexOutOfBoundsException" ["java/lang/RuntimeException", "java/lang/Exception"]).filter goodWord)
def wsL_plea_r1 : List Cond := [Cond.classLink RL 23 "java/lang/IndexOutOfBoundsException", Cond.constant RL 25 (-2000000001), Cond.constant RL 15 (-2000000002), Cond.constant RL 18 (-2000000003), Cond.methodLink RL 61 yX4_plea, Cond.instanceMethod yX4_plea, Cond.selects RX4 yX4_plea yX4_plea, Cond.initialized RX4, Cond.code yX4_plea cX4_plea 7 (some .int), Cond.classLink RX4 42 "java/lang/IllegalStateException", Cond.initialized "java/lang/IllegalStateException", Cond.fieldLink RX4 178 "Chargehouse$Accused" "state" "I", Cond.fieldLink RX4 190 "Chargehouse$Accused" "charges" "I", Cond.fieldLink RX4 70 "Chargehouse" "today" "I", Cond.fieldLink RX4 193 "Chargehouse$Accused" "chargedOn" "I", Cond.fieldLink RX4 246 "Chargehouse" "pleas" "I", Cond.fieldLink RX4 224 "Chargehouse" "convictions" "I", Cond.fieldLink RX4 249 "Chargehouse$Accused" "months" "I", Cond.methodLink RX4 170 yX4_accusedAt, Cond.instanceMethod yX4_accusedAt, Cond.selects RX4 yX4_accusedAt yX4_accusedAt, Cond.code yX4_accusedAt cX4_accusedAt 5 (some (.object "Chargehouse$Accused")), Cond.classLink RX4 54 "java/lang/IndexOutOfBoundsException", Cond.initialized "java/lang/IndexOutOfBoundsException"]
def wsL_plea_r2 : List Cond := [Cond.methodLink RX4 108 yX4_fileAt, Cond.instanceMethod yX4_fileAt, Cond.selects RX4 yX4_fileAt yX4_fileAt, Cond.code yX4_fileAt cX4_fileAt 2 (some (.object "Chargehouse$CaseFile")), Cond.fieldLink RX4 17 "Chargehouse" "fileRows" "[LChargehouse$CaseFile;", Cond.methodLink RX4 325 yX1_rowOf, Cond.instanceMethod yX1_rowOf, Cond.selects RX1 yX1_rowOf yX1_rowOf, Cond.initialized RX1, Cond.code yX1_rowOf cX1_rowOf 2 (some (.object "Chargehouse$Accused")), Cond.fieldLink RX1 11 "Chargehouse$CaseFile" "rows" "[LChargehouse$Accused;", Cond.methodLink RX4 174 yX4_checkToldOffences, Cond.instanceMethod yX4_checkToldOffences, Cond.selects RX4 yX4_checkToldOffences yX4_checkToldOffences, Cond.code yX4_checkToldOffences cX4_checkToldOffences 3 none, Cond.classLink RX4 31 "java/lang/IllegalArgumentException", Cond.initialized "java/lang/IllegalArgumentException", Cond.fieldLink RX4 38 "Chargehouse" "offenceCount" "I", Cond.methodLink RX4 196 yX4_gravityOf, Cond.instanceMethod yX4_gravityOf, Cond.selects RX4 yX4_gravityOf yX4_gravityOf, Cond.code yX4_gravityOf cX4_gravityOf 5 (some .int), Cond.fieldLink RX4 11 "Chargehouse" "offenceRows" "[LChargehouse$Offence;", Cond.fieldLink RX4 361 "Chargehouse$Offence" "gravity" "I"]
def wsL_plea_r3 : List Cond := [Cond.methodLink RX4 96 yX4_hasBit, Cond.static yX4_hasBit, Cond.code yX4_hasBit cX4_hasBit 2 (some .boolean), Cond.methodLink RX4 243 yX4_discountAfter, Cond.static yX4_discountAfter, Cond.code yX4_discountAfter cX4_discountAfter 1 (some .int), Cond.methodLink RX4 227 yJ6_bitCount_0f7a4, Cond.static yJ6_bitCount_0f7a4, Cond.initialized RJ6, Cond.code yJ6_bitCount_0f7a4 cJ6_bitCount_0f7a4 1 (some .int), Cond.constant RJ6 265 (1431655765), Cond.constant RJ6 266 (858993459), Cond.constant RJ6 267 (252645135), Cond.methodLink RX4 235 yX0_answerCharges, Cond.instanceMethod yX0_answerCharges, Cond.selects RX0 yX0_answerCharges yX0_answerCharges, Cond.initialized RX0, Cond.code yX0_answerCharges cX0_answerCharges 4 none, Cond.fieldLink RX0 15 "Chargehouse$Accused" "firstAnsweredOn" "[I", Cond.fieldLink RX0 56 "Chargehouse$Accused" "charges" "I", Cond.fieldLink RX0 59 "Chargehouse$Accused" "convictedOf" "I", Cond.fieldLink RX0 33 "Chargehouse$Accused" "daysWhileCharged" "I", Cond.fieldLink RX0 52 "Chargehouse$Accused" "isInCustody" "Z", Cond.fieldLink RX0 9 "Chargehouse$Accused" "state" "I"]
def wsL_plea : List Cond := .codeWith yL_plea cL_plea 5 (some .int) [(0, 7, 8, 23), (0, 7, 13, 13), (0, 7, 18, 16)] :: ((wsL_plea_r1 ++ (wsL_plea_r2 ++ wsL_plea_r3)) ++ wsX00 ++ wsX40 ++ wsX10 ++ wsX30 ++ (vx_atS RX4 46 "java/lang/IllegalStateException" ["java/lang/RuntimeException", "java/lang/Exception"]).filter goodWord ++ (vx_atS RX4 58 "java/lang/IndexOutOfBoundsException" ["java/lang/RuntimeException", "java/lang/Exception"]).filter goodWord ++ (vx_atS RX4 35 "java/lang/IllegalArgumentException" ["java/lang/RuntimeException", "java/lang/Exception"]).filter goodWord)
def wsL_arrest_r1 : List Cond := [Cond.classLink RL 23 "java/lang/IndexOutOfBoundsException", Cond.constant RL 25 (-2000000001), Cond.constant RL 18 (-2000000003), Cond.methodLink RL 64 yX4_arrest, Cond.instanceMethod yX4_arrest, Cond.selects RX4 yX4_arrest yX4_arrest, Cond.initialized RX4, Cond.code yX4_arrest cX4_arrest 5 (some .int), Cond.classLink RX4 42 "java/lang/IllegalStateException", Cond.initialized "java/lang/IllegalStateException", Cond.fieldLink RX4 178 "Chargehouse$Accused" "state" "I", Cond.fieldLink RX4 207 "Chargehouse$Accused" "isInCustody" "Z", Cond.methodLink RX4 170 yX4_accusedAt, Cond.instanceMethod yX4_accusedAt, Cond.selects RX4 yX4_accusedAt yX4_accusedAt, Cond.code yX4_accusedAt cX4_accusedAt 5 (some (.object "Chargehouse$Accused")), Cond.classLink RX4 54 "java/lang/IndexOutOfBoundsException", Cond.initialized "java/lang/IndexOutOfBoundsException", Cond.methodLink RX4 108 yX4_fileAt, Cond.instanceMethod yX4_fileAt, Cond.selects RX4 yX4_fileAt yX4_fileAt, Cond.code yX4_fileAt cX4_fileAt 2 (some (.object "Chargehouse$CaseFile")), Cond.fieldLink RX4 17 "Chargehouse" "fileRows" "[LChargehouse$CaseFile;", Cond.methodLink RX4 325 yX1_rowOf]
def wsL_arrest_r2 : List Cond := [Cond.instanceMethod yX1_rowOf, Cond.selects RX1 yX1_rowOf yX1_rowOf, Cond.initialized RX1, Cond.code yX1_rowOf cX1_rowOf 2 (some (.object "Chargehouse$Accused")), Cond.fieldLink RX1 11 "Chargehouse$CaseFile" "rows" "[LChargehouse$Accused;", Cond.methodLink RX4 252 yX0_daysLeft, Cond.instanceMethod yX0_daysLeft, Cond.selects RX0 yX0_daysLeft yX0_daysLeft, Cond.initialized RX0, Cond.code yX0_daysLeft cX0_daysLeft 1 (some .int), Cond.fieldLink RX0 9 "Chargehouse$Accused" "state" "I", Cond.fieldLink RX0 33 "Chargehouse$Accused" "daysWhileCharged" "I", Cond.fieldLink RX0 40 "Chargehouse$Accused" "daysWhileOpen" "I", Cond.methodLink RX0 36 yX0_ceilingWhileOpen, Cond.instanceMethod yX0_ceilingWhileOpen, Cond.selects RX0 yX0_ceilingWhileOpen yX0_ceilingWhileOpen, Cond.code yX0_ceilingWhileOpen cX0_ceilingWhileOpen 1 (some .int), Cond.fieldLink RX0 26 "Chargehouse$Accused" "extendedBy" "I", Cond.static yX4_hasBit, Cond.code yX4_hasBit cX4_hasBit 2 (some .boolean)]
def wsL_arrest : List Cond := .codeWith yL_arrest cL_arrest 4 (some .int) [(0, 6, 7, 23), (0, 6, 11, 16)] :: ((wsL_arrest_r1 ++ wsL_arrest_r2) ++ wsX00 ++ wsX40 ++ wsX10 ++ (vx_atS RX4 46 "java/lang/IllegalStateException" ["java/lang/RuntimeException", "java/lang/Exception"]).filter goodWord ++ (vx_atS RX4 58 "java/lang/IndexOutOfBoundsException" ["java/lang/RuntimeException", "java/lang/Exception"]).filter goodWord)
def wsL_extend_r1 : List Cond := [Cond.classLink RL 23 "java/lang/IndexOutOfBoundsException", Cond.constant RL 25 (-2000000001), Cond.constant RL 15 (-2000000002), Cond.constant RL 18 (-2000000003), Cond.methodLink RL 67 yX4_extend, Cond.instanceMethod yX4_extend, Cond.selects RX4 yX4_extend yX4_extend, Cond.initialized RX4, Cond.code yX4_extend cX4_extend 5 (some .int), Cond.classLink RX4 31 "java/lang/IllegalArgumentException", Cond.initialized "java/lang/IllegalArgumentException", Cond.classLink RX4 42 "java/lang/IllegalStateException", Cond.initialized "java/lang/IllegalStateException", Cond.fieldLink RX4 178 "Chargehouse$Accused" "state" "I", Cond.fieldLink RX4 260 "Chargehouse$Accused" "extendedBy" "I", Cond.methodLink RX4 170 yX4_accusedAt, Cond.instanceMethod yX4_accusedAt, Cond.selects RX4 yX4_accusedAt yX4_accusedAt, Cond.code yX4_accusedAt cX4_accusedAt 5 (some (.object "Chargehouse$Accused")), Cond.classLink RX4 54 "java/lang/IndexOutOfBoundsException", Cond.initialized "java/lang/IndexOutOfBoundsException", Cond.methodLink RX4 108 yX4_fileAt, Cond.instanceMethod yX4_fileAt, Cond.selects RX4 yX4_fileAt yX4_fileAt]
def wsL_extend_r2 : List Cond := [Cond.code yX4_fileAt cX4_fileAt 2 (some (.object "Chargehouse$CaseFile")), Cond.fieldLink RX4 17 "Chargehouse" "fileRows" "[LChargehouse$CaseFile;", Cond.methodLink RX4 325 yX1_rowOf, Cond.instanceMethod yX1_rowOf, Cond.selects RX1 yX1_rowOf yX1_rowOf, Cond.initialized RX1, Cond.code yX1_rowOf cX1_rowOf 2 (some (.object "Chargehouse$Accused")), Cond.fieldLink RX1 11 "Chargehouse$CaseFile" "rows" "[LChargehouse$Accused;", Cond.methodLink RX4 27 yX4_isWithin, Cond.static yX4_isWithin, Cond.code yX4_isWithin cX4_isWithin 3 (some .boolean), Cond.methodLink RX4 96 yX4_hasBit, Cond.static yX4_hasBit, Cond.code yX4_hasBit cX4_hasBit 2 (some .boolean), Cond.methodLink RX4 265 yX0_ceilingWhileOpen, Cond.instanceMethod yX0_ceilingWhileOpen, Cond.selects RX0 yX0_ceilingWhileOpen yX0_ceilingWhileOpen, Cond.initialized RX0, Cond.code yX0_ceilingWhileOpen cX0_ceilingWhileOpen 1 (some .int), Cond.fieldLink RX0 26 "Chargehouse$Accused" "extendedBy" "I"]
def wsL_extend : List Cond := .codeWith yL_extend cL_extend 5 (some .int) [(0, 7, 8, 23), (0, 7, 13, 13), (0, 7, 18, 16)] :: ((wsL_extend_r1 ++ wsL_extend_r2) ++ wsX00 ++ wsX40 ++ wsX10 ++ (vx_atS RX4 35 "java/lang/IllegalArgumentException" ["java/lang/RuntimeException", "java/lang/Exception"]).filter goodWord ++ (vx_atS RX4 46 "java/lang/IllegalStateException" ["java/lang/RuntimeException", "java/lang/Exception"]).filter goodWord ++ (vx_atS RX4 58 "java/lang/IndexOutOfBoundsException" ["java/lang/RuntimeException", "java/lang/Exception"]).filter goodWord)
def wsL_release_r1 : List Cond := [Cond.classLink RL 23 "java/lang/IndexOutOfBoundsException", Cond.constant RL 25 (-2000000001), Cond.constant RL 18 (-2000000003), Cond.methodLink RL 70 yX4_release, Cond.instanceMethod yX4_release, Cond.selects RX4 yX4_release yX4_release, Cond.initialized RX4, Cond.code yX4_release cX4_release 4 none, Cond.classLink RX4 42 "java/lang/IllegalStateException", Cond.initialized "java/lang/IllegalStateException", Cond.fieldLink RX4 207 "Chargehouse$Accused" "isInCustody" "Z", Cond.methodLink RX4 170 yX4_accusedAt, Cond.instanceMethod yX4_accusedAt, Cond.selects RX4 yX4_accusedAt yX4_accusedAt, Cond.code yX4_accusedAt cX4_accusedAt 5 (some (.object "Chargehouse$Accused")), Cond.classLink RX4 54 "java/lang/IndexOutOfBoundsException", Cond.initialized "java/lang/IndexOutOfBoundsException", Cond.methodLink RX4 108 yX4_fileAt, Cond.instanceMethod yX4_fileAt, Cond.selects RX4 yX4_fileAt yX4_fileAt, Cond.code yX4_fileAt cX4_fileAt 2 (some (.object "Chargehouse$CaseFile")), Cond.fieldLink RX4 17 "Chargehouse" "fileRows" "[LChargehouse$CaseFile;", Cond.methodLink RX4 325 yX1_rowOf, Cond.instanceMethod yX1_rowOf]
def wsL_release_r2 : List Cond := [Cond.selects RX1 yX1_rowOf yX1_rowOf, Cond.initialized RX1, Cond.code yX1_rowOf cX1_rowOf 2 (some (.object "Chargehouse$Accused")), Cond.fieldLink RX1 11 "Chargehouse$CaseFile" "rows" "[LChargehouse$Accused;"]
def wsL_release : List Cond := .codeWith yL_release cL_release 4 (some .int) [(0, 7, 8, 23), (0, 7, 12, 16)] :: ((wsL_release_r1 ++ wsL_release_r2) ++ wsX00 ++ wsX40 ++ wsX10 ++ (vx_atS RX4 46 "java/lang/IllegalStateException" ["java/lang/RuntimeException", "java/lang/Exception"]).filter goodWord ++ (vx_atS RX4 58 "java/lang/IndexOutOfBoundsException" ["java/lang/RuntimeException", "java/lang/Exception"]).filter goodWord)
def wsL_nests : List Cond := .codeWith yL_nests cL_nests 4 (some .int) [(0, 14, 15, 23)] :: ([.classLink RL 23 "java/lang/IndexOutOfBoundsException", .constant RL 25 (-2000000001), .methodLink RL 73 yX4_nests, .instanceMethod yX4_nests, .selects RX4 yX4_nests yX4_nests, .initialized RX4, .code yX4_nests cX4_nests 5 (some .boolean), .classLink RX4 54 "java/lang/IndexOutOfBoundsException", .initialized "java/lang/IndexOutOfBoundsException", .methodLink RX4 50 yX4_offenceAt, .instanceMethod yX4_offenceAt, .selects RX4 yX4_offenceAt yX4_offenceAt, .code yX4_offenceAt cX4_offenceAt 2 (some (.object "Chargehouse$Offence")), .fieldLink RX4 11 "Chargehouse" "offenceRows" "[LChargehouse$Offence;", .methodLink RX4 270 yX3_nestsIn, .instanceMethod yX3_nestsIn, .selects RX3 yX3_nestsIn yX3_nestsIn, .initialized RX3, .code yX3_nestsIn cX3_nestsIn 2 (some .boolean), .fieldLink RX3 7 "Chargehouse$Offence" "elements" "I"] ++ wsX40 ++ wsX30 ++ (vx_atS RX4 58 "java/lang/IndexOutOfBoundsException" ["java/lang/RuntimeException", "java/lang/Exception"]).filter goodWord)
def wsL_strength_r1 : List Cond := [Cond.classLink RL 23 "java/lang/IndexOutOfBoundsException", Cond.constant RL 25 (-2000000001), Cond.constant RL 15 (-2000000002), Cond.methodLink RL 76 yX4_strength, Cond.instanceMethod yX4_strength, Cond.selects RX4 yX4_strength yX4_strength, Cond.initialized RX4, Cond.code yX4_strength cX4_strength 6 (some .int), Cond.classLink RX4 54 "java/lang/IndexOutOfBoundsException", Cond.initialized "java/lang/IndexOutOfBoundsException", Cond.methodLink RX4 170 yX4_accusedAt, Cond.instanceMethod yX4_accusedAt, Cond.selects RX4 yX4_accusedAt yX4_accusedAt, Cond.code yX4_accusedAt cX4_accusedAt 5 (some (.object "Chargehouse$Accused")), Cond.methodLink RX4 108 yX4_fileAt, Cond.instanceMethod yX4_fileAt, Cond.selects RX4 yX4_fileAt yX4_fileAt, Cond.code yX4_fileAt cX4_fileAt 2 (some (.object "Chargehouse$CaseFile")), Cond.fieldLink RX4 17 "Chargehouse" "fileRows" "[LChargehouse$CaseFile;", Cond.methodLink RX4 325 yX1_rowOf, Cond.instanceMethod yX1_rowOf, Cond.selects RX1 yX1_rowOf yX1_rowOf, Cond.initialized RX1, Cond.code yX1_rowOf cX1_rowOf 2 (some (.object "Chargehouse$Accused"))]
def wsL_strength_r2 : List Cond := [Cond.fieldLink RX1 11 "Chargehouse$CaseFile" "rows" "[LChargehouse$Accused;", Cond.methodLink RX4 27 yX4_isWithin, Cond.static yX4_isWithin, Cond.code yX4_isWithin cX4_isWithin 3 (some .boolean), Cond.methodLink RX4 276 yX4_checkDay, Cond.instanceMethod yX4_checkDay, Cond.selects RX4 yX4_checkDay yX4_checkDay, Cond.code yX4_checkDay cX4_checkDay 2 none, Cond.classLink RX4 31 "java/lang/IllegalArgumentException", Cond.initialized "java/lang/IllegalArgumentException", Cond.fieldLink RX4 70 "Chargehouse" "today" "I", Cond.methodLink RX4 279 yX4_strengthAgainst, Cond.instanceMethod yX4_strengthAgainst, Cond.selects RX4 yX4_strengthAgainst yX4_strengthAgainst, Cond.code yX4_strengthAgainst cX4_strengthAgainst 9 (some .int), Cond.fieldLink RX4 23 "Chargehouse" "itemRows" "[LChargehouse$Item;", Cond.fieldLink RX4 154 "Chargehouse$Item" "file" "I", Cond.fieldLink RX4 293 "Chargehouse$Accused" "file" "LChargehouse$CaseFile;", Cond.fieldLink RX4 105 "Chargehouse$CaseFile" "number" "I", Cond.fieldLink RX4 299 "Chargehouse$Item" "element" "I", Cond.fieldLink RX4 296 "Chargehouse$Accused" "person" "I", Cond.fieldLink RX4 302 "Chargehouse$Item" "weight" "I", Cond.methodLink RX4 143 yX2_isAgainst, Cond.instanceMethod yX2_isAgainst]
def wsL_strength_r3 : List Cond := [Cond.selects RX2 yX2_isAgainst yX2_isAgainst, Cond.initialized RX2, Cond.code yX2_isAgainst cX2_isAgainst 2 (some .boolean), Cond.fieldLink RX2 24 "Chargehouse$Item" "against" "I", Cond.static yX4_hasBit, Cond.code yX4_hasBit cX4_hasBit 2 (some .boolean), Cond.methodLink RX4 335 yX2_countsOn, Cond.instanceMethod yX2_countsOn, Cond.selects RX2 yX2_countsOn yX2_countsOn, Cond.code yX2_countsOn cX2_countsOn 3 (some .boolean), Cond.fieldLink RX2 9 "Chargehouse$Item" "admittedOn" "I", Cond.fieldLink RX2 34 "Chargehouse$Item" "cameOn" "I", Cond.fieldLink RX2 27 "Chargehouse$Item" "how" "I"]
def wsL_strength : List Cond := .codeWith yL_strength cL_strength 6 (some .int) [(0, 9, 10, 23), (0, 9, 15, 13)] :: ((wsL_strength_r1 ++ (wsL_strength_r2 ++ wsL_strength_r3)) ++ wsX40 ++ wsX10 ++ wsX20 ++ wsX00 ++ (vx_atS RX4 58 "java/lang/IndexOutOfBoundsException" ["java/lang/RuntimeException", "java/lang/Exception"]).filter goodWord ++ (vx_atS RX4 35 "java/lang/IllegalArgumentException" ["java/lang/RuntimeException", "java/lang/Exception"]).filter goodWord)
def wsL_whyNot_r1 : List Cond := [Cond.classLink RL 23 "java/lang/IndexOutOfBoundsException", Cond.constant RL 25 (-2000000001), Cond.constant RL 15 (-2000000002), Cond.methodLink RL 80 yX4_whyNot, Cond.instanceMethod yX4_whyNot, Cond.selects RX4 yX4_whyNot yX4_whyNot, Cond.initialized RX4, Cond.code yX4_whyNot cX4_whyNot 7 (some .int), Cond.classLink RX4 54 "java/lang/IndexOutOfBoundsException", Cond.initialized "java/lang/IndexOutOfBoundsException", Cond.methodLink RX4 170 yX4_accusedAt, Cond.instanceMethod yX4_accusedAt, Cond.selects RX4 yX4_accusedAt yX4_accusedAt, Cond.code yX4_accusedAt cX4_accusedAt 5 (some (.object "Chargehouse$Accused")), Cond.methodLink RX4 108 yX4_fileAt, Cond.instanceMethod yX4_fileAt, Cond.selects RX4 yX4_fileAt yX4_fileAt, Cond.code yX4_fileAt cX4_fileAt 2 (some (.object "Chargehouse$CaseFile")), Cond.fieldLink RX4 17 "Chargehouse" "fileRows" "[LChargehouse$CaseFile;", Cond.methodLink RX4 325 yX1_rowOf, Cond.instanceMethod yX1_rowOf, Cond.selects RX1 yX1_rowOf yX1_rowOf, Cond.initialized RX1, Cond.code yX1_rowOf cX1_rowOf 2 (some (.object "Chargehouse$Accused"))]
def wsL_whyNot_r2 : List Cond := [Cond.fieldLink RX1 11 "Chargehouse$CaseFile" "rows" "[LChargehouse$Accused;", Cond.methodLink RX4 50 yX4_offenceAt, Cond.instanceMethod yX4_offenceAt, Cond.selects RX4 yX4_offenceAt yX4_offenceAt, Cond.code yX4_offenceAt cX4_offenceAt 2 (some (.object "Chargehouse$Offence")), Cond.fieldLink RX4 11 "Chargehouse" "offenceRows" "[LChargehouse$Offence;", Cond.methodLink RX4 276 yX4_checkDay, Cond.instanceMethod yX4_checkDay, Cond.selects RX4 yX4_checkDay yX4_checkDay, Cond.code yX4_checkDay cX4_checkDay 2 none, Cond.classLink RX4 31 "java/lang/IllegalArgumentException", Cond.initialized "java/lang/IllegalArgumentException", Cond.fieldLink RX4 70 "Chargehouse" "today" "I", Cond.methodLink RX4 27 yX4_isWithin, Cond.static yX4_isWithin, Cond.code yX4_isWithin cX4_isWithin 3 (some .boolean), Cond.methodLink RX4 283 yX4_hindrance, Cond.instanceMethod yX4_hindrance, Cond.selects RX4 yX4_hindrance yX4_hindrance, Cond.code yX4_hindrance cX4_hindrance 4 (some .int), Cond.fieldLink RX4 293 "Chargehouse$Accused" "file" "LChargehouse$CaseFile;", Cond.fieldLink RX4 351 "Chargehouse$CaseFile" "event" "I", Cond.fieldLink RX4 354 "Chargehouse$Offence" "limit" "I", Cond.fieldLink RX4 361 "Chargehouse$Offence" "gravity" "I"]
def wsL_whyNot_r3 : List Cond := [Cond.fieldLink RX4 364 "Chargehouse$CaseFile" "points" "I", Cond.methodLink RX4 347 yX4_isSpent, Cond.instanceMethod yX4_isSpent, Cond.selects RX4 yX4_isSpent yX4_isSpent, Cond.code yX4_isSpent cX4_isSpent 6 (some .boolean), Cond.methodLink RX4 341 yX3_isAkinTo, Cond.instanceMethod yX3_isAkinTo, Cond.selects RX3 yX3_isAkinTo yX3_isAkinTo, Cond.initialized RX3, Cond.code yX3_isAkinTo cX3_isAkinTo 2 (some .boolean), Cond.fieldLink RX3 7 "Chargehouse$Offence" "elements" "I", Cond.methodLink RX3 28 yX3_nestsIn, Cond.instanceMethod yX3_nestsIn, Cond.selects RX3 yX3_nestsIn yX3_nestsIn, Cond.code yX3_nestsIn cX3_nestsIn 2 (some .boolean), Cond.methodLink RX4 344 yX0_hadAnswered, Cond.instanceMethod yX0_hadAnswered, Cond.selects RX0 yX0_hadAnswered yX0_hadAnswered, Cond.initialized RX0, Cond.code yX0_hadAnswered cX0_hadAnswered 3 (some .boolean), Cond.fieldLink RX0 15 "Chargehouse$Accused" "firstAnsweredOn" "[I", Cond.methodLink RX4 357 yX4_hasStrength, Cond.instanceMethod yX4_hasStrength, Cond.selects RX4 yX4_hasStrength yX4_hasStrength]
def wsL_whyNot_r4 : List Cond := [Cond.code yX4_hasStrength cX4_hasStrength 6 (some .boolean), Cond.fieldLink RX4 338 "Chargehouse$Offence" "elements" "I", Cond.methodLink RX4 96 yX4_hasBit, Cond.static yX4_hasBit, Cond.code yX4_hasBit cX4_hasBit 2 (some .boolean), Cond.methodLink RX4 279 yX4_strengthAgainst, Cond.instanceMethod yX4_strengthAgainst, Cond.selects RX4 yX4_strengthAgainst yX4_strengthAgainst, Cond.code yX4_strengthAgainst cX4_strengthAgainst 9 (some .int), Cond.fieldLink RX4 23 "Chargehouse" "itemRows" "[LChargehouse$Item;", Cond.fieldLink RX4 154 "Chargehouse$Item" "file" "I", Cond.fieldLink RX4 105 "Chargehouse$CaseFile" "number" "I", Cond.fieldLink RX4 299 "Chargehouse$Item" "element" "I", Cond.fieldLink RX4 296 "Chargehouse$Accused" "person" "I", Cond.fieldLink RX4 302 "Chargehouse$Item" "weight" "I", Cond.methodLink RX4 143 yX2_isAgainst, Cond.instanceMethod yX2_isAgainst, Cond.selects RX2 yX2_isAgainst yX2_isAgainst, Cond.initialized RX2, Cond.code yX2_isAgainst cX2_isAgainst 2 (some .boolean), Cond.fieldLink RX2 24 "Chargehouse$Item" "against" "I", Cond.methodLink RX4 335 yX2_countsOn, Cond.instanceMethod yX2_countsOn, Cond.selects RX2 yX2_countsOn yX2_countsOn]
def wsL_whyNot_r5 : List Cond := [Cond.code yX2_countsOn cX2_countsOn 3 (some .boolean), Cond.fieldLink RX2 9 "Chargehouse$Item" "admittedOn" "I", Cond.fieldLink RX2 34 "Chargehouse$Item" "cameOn" "I", Cond.fieldLink RX2 27 "Chargehouse$Item" "how" "I"]
def wsL_whyNot : List Cond := .codeWith yL_whyNot cL_whyNot 6 (some .int) [(0, 9, 10, 23), (0, 9, 15, 13)] :: ((wsL_whyNot_r1 ++ (wsL_whyNot_r2 ++ (wsL_whyNot_r3 ++ (wsL_whyNot_r4 ++ wsL_whyNot_r5)))) ++ wsX40 ++ wsX10 ++ wsX00 ++ wsX30 ++ wsX20 ++ (vx_atS RX4 58 "java/lang/IndexOutOfBoundsException" ["java/lang/RuntimeException", "java/lang/Exception"]).filter goodWord ++ (vx_atS RX4 35 "java/lang/IllegalArgumentException" ["java/lang/RuntimeException", "java/lang/Exception"]).filter goodWord)
def wsL_best_r1 : List Cond := [Cond.classLink RL 23 "java/lang/IndexOutOfBoundsException", Cond.constant RL 25 (-2000000001), Cond.constant RL 15 (-2000000002), Cond.methodLink RL 83 yX4_best, Cond.instanceMethod yX4_best, Cond.selects RX4 yX4_best yX4_best, Cond.initialized RX4, Cond.code yX4_best cX4_best 5 (some .int), Cond.methodLink RX4 170 yX4_accusedAt, Cond.instanceMethod yX4_accusedAt, Cond.selects RX4 yX4_accusedAt yX4_accusedAt, Cond.code yX4_accusedAt cX4_accusedAt 5 (some (.object "Chargehouse$Accused")), Cond.classLink RX4 54 "java/lang/IndexOutOfBoundsException", Cond.initialized "java/lang/IndexOutOfBoundsException", Cond.methodLink RX4 108 yX4_fileAt, Cond.instanceMethod yX4_fileAt, Cond.selects RX4 yX4_fileAt yX4_fileAt, Cond.code yX4_fileAt cX4_fileAt 2 (some (.object "Chargehouse$CaseFile")), Cond.fieldLink RX4 17 "Chargehouse" "fileRows" "[LChargehouse$CaseFile;", Cond.methodLink RX4 325 yX1_rowOf, Cond.instanceMethod yX1_rowOf, Cond.selects RX1 yX1_rowOf yX1_rowOf, Cond.initialized RX1, Cond.code yX1_rowOf cX1_rowOf 2 (some (.object "Chargehouse$Accused"))]
def wsL_best_r2 : List Cond := [Cond.fieldLink RX1 11 "Chargehouse$CaseFile" "rows" "[LChargehouse$Accused;", Cond.methodLink RX4 276 yX4_checkDay, Cond.instanceMethod yX4_checkDay, Cond.selects RX4 yX4_checkDay yX4_checkDay, Cond.code yX4_checkDay cX4_checkDay 2 none, Cond.classLink RX4 31 "java/lang/IllegalArgumentException", Cond.initialized "java/lang/IllegalArgumentException", Cond.fieldLink RX4 70 "Chargehouse" "today" "I", Cond.methodLink RX4 27 yX4_isWithin, Cond.static yX4_isWithin, Cond.code yX4_isWithin cX4_isWithin 3 (some .boolean), Cond.methodLink RX4 181 yX4_chargeable, Cond.instanceMethod yX4_chargeable, Cond.selects RX4 yX4_chargeable yX4_chargeable, Cond.code yX4_chargeable cX4_chargeable 6 (some .int), Cond.fieldLink RX4 11 "Chargehouse" "offenceRows" "[LChargehouse$Offence;", Cond.methodLink RX4 283 yX4_hindrance, Cond.instanceMethod yX4_hindrance, Cond.selects RX4 yX4_hindrance yX4_hindrance, Cond.code yX4_hindrance cX4_hindrance 4 (some .int), Cond.fieldLink RX4 293 "Chargehouse$Accused" "file" "LChargehouse$CaseFile;", Cond.fieldLink RX4 351 "Chargehouse$CaseFile" "event" "I", Cond.fieldLink RX4 354 "Chargehouse$Offence" "limit" "I", Cond.fieldLink RX4 361 "Chargehouse$Offence" "gravity" "I"]
def wsL_best_r3 : List Cond := [Cond.fieldLink RX4 364 "Chargehouse$CaseFile" "points" "I", Cond.methodLink RX4 347 yX4_isSpent, Cond.instanceMethod yX4_isSpent, Cond.selects RX4 yX4_isSpent yX4_isSpent, Cond.code yX4_isSpent cX4_isSpent 6 (some .boolean), Cond.methodLink RX4 341 yX3_isAkinTo, Cond.instanceMethod yX3_isAkinTo, Cond.selects RX3 yX3_isAkinTo yX3_isAkinTo, Cond.initialized RX3, Cond.code yX3_isAkinTo cX3_isAkinTo 2 (some .boolean), Cond.fieldLink RX3 7 "Chargehouse$Offence" "elements" "I", Cond.methodLink RX3 28 yX3_nestsIn, Cond.instanceMethod yX3_nestsIn, Cond.selects RX3 yX3_nestsIn yX3_nestsIn, Cond.code yX3_nestsIn cX3_nestsIn 2 (some .boolean), Cond.methodLink RX4 344 yX0_hadAnswered, Cond.instanceMethod yX0_hadAnswered, Cond.selects RX0 yX0_hadAnswered yX0_hadAnswered, Cond.initialized RX0, Cond.code yX0_hadAnswered cX0_hadAnswered 3 (some .boolean), Cond.fieldLink RX0 15 "Chargehouse$Accused" "firstAnsweredOn" "[I", Cond.methodLink RX4 357 yX4_hasStrength, Cond.instanceMethod yX4_hasStrength, Cond.selects RX4 yX4_hasStrength yX4_hasStrength]
def wsL_best_r4 : List Cond := [Cond.code yX4_hasStrength cX4_hasStrength 6 (some .boolean), Cond.fieldLink RX4 338 "Chargehouse$Offence" "elements" "I", Cond.methodLink RX4 96 yX4_hasBit, Cond.static yX4_hasBit, Cond.code yX4_hasBit cX4_hasBit 2 (some .boolean), Cond.methodLink RX4 279 yX4_strengthAgainst, Cond.instanceMethod yX4_strengthAgainst, Cond.selects RX4 yX4_strengthAgainst yX4_strengthAgainst, Cond.code yX4_strengthAgainst cX4_strengthAgainst 9 (some .int), Cond.fieldLink RX4 23 "Chargehouse" "itemRows" "[LChargehouse$Item;", Cond.fieldLink RX4 154 "Chargehouse$Item" "file" "I", Cond.fieldLink RX4 105 "Chargehouse$CaseFile" "number" "I", Cond.fieldLink RX4 299 "Chargehouse$Item" "element" "I", Cond.fieldLink RX4 296 "Chargehouse$Accused" "person" "I", Cond.fieldLink RX4 302 "Chargehouse$Item" "weight" "I", Cond.methodLink RX4 143 yX2_isAgainst, Cond.instanceMethod yX2_isAgainst, Cond.selects RX2 yX2_isAgainst yX2_isAgainst, Cond.initialized RX2, Cond.code yX2_isAgainst cX2_isAgainst 2 (some .boolean), Cond.fieldLink RX2 24 "Chargehouse$Item" "against" "I", Cond.methodLink RX4 335 yX2_countsOn, Cond.instanceMethod yX2_countsOn, Cond.selects RX2 yX2_countsOn yX2_countsOn]
def wsL_best_r5 : List Cond := [Cond.code yX2_countsOn cX2_countsOn 3 (some .boolean), Cond.fieldLink RX2 9 "Chargehouse$Item" "admittedOn" "I", Cond.fieldLink RX2 34 "Chargehouse$Item" "cameOn" "I", Cond.fieldLink RX2 27 "Chargehouse$Item" "how" "I", Cond.methodLink RX4 287 yX4_bestByGrowing, Cond.instanceMethod yX4_bestByGrowing, Cond.selects RX4 yX4_bestByGrowing yX4_bestByGrowing, Cond.code yX4_bestByGrowing cX4_bestByGrowing 5 (some .int), Cond.methodLink RX4 370 yX4_better, Cond.instanceMethod yX4_better, Cond.selects RX4 yX4_better yX4_better, Cond.code yX4_better cX4_better 5 (some .int), Cond.methodLink RX4 196 yX4_gravityOf, Cond.instanceMethod yX4_gravityOf, Cond.selects RX4 yX4_gravityOf yX4_gravityOf, Cond.code yX4_gravityOf cX4_gravityOf 5 (some .int), Cond.methodLink RX4 227 yJ6_bitCount_0f7a4, Cond.static yJ6_bitCount_0f7a4, Cond.initialized RJ6, Cond.code yJ6_bitCount_0f7a4 cJ6_bitCount_0f7a4 1 (some .int), Cond.constant RJ6 265 (1431655765), Cond.constant RJ6 266 (858993459), Cond.constant RJ6 267 (252645135), Cond.methodLink RX4 367 yX4_matesOf]
def wsL_best_r6 : List Cond := [Cond.instanceMethod yX4_matesOf, Cond.selects RX4 yX4_matesOf yX4_matesOf, Cond.code yX4_matesOf cX4_matesOf 6 (some .int), Cond.methodLink RX4 50 yX4_offenceAt, Cond.instanceMethod yX4_offenceAt, Cond.selects RX4 yX4_offenceAt yX4_offenceAt, Cond.code yX4_offenceAt cX4_offenceAt 2 (some (.object "Chargehouse$Offence")), Cond.methodLink RX4 61 yX3_excludes, Cond.instanceMethod yX3_excludes, Cond.selects RX3 yX3_excludes yX3_excludes, Cond.code yX3_excludes cX3_excludes 2 (some .boolean), Cond.fieldLink RX3 19 "Chargehouse$Offence" "excluded" "I", Cond.methodLink RX4 373 yX4_above, Cond.static yX4_above, Cond.code yX4_above cX4_above 1 (some .int), Cond.methodLink RX4 376 yX4_bestWithMates, Cond.instanceMethod yX4_bestWithMates, Cond.selects RX4 yX4_bestWithMates yX4_bestWithMates, Cond.code yX4_bestWithMates cX4_bestWithMates 7 (some .int), Cond.methodLink RX4 380 yX4_bestWithThird, Cond.instanceMethod yX4_bestWithThird, Cond.selects RX4 yX4_bestWithThird yX4_bestWithThird, Cond.code yX4_bestWithThird cX4_bestWithThird 6 (some .int)]
def wsL_best : List Cond := .codeWith yL_best cL_best 5 (some .int) [(0, 7, 8, 23), (0, 7, 13, 13)] :: ((wsL_best_r1 ++ (wsL_best_r2 ++ (wsL_best_r3 ++ (wsL_best_r4 ++ (wsL_best_r5 ++ wsL_best_r6))))) ++ wsX40 ++ wsX10 ++ wsX00 ++ wsX30 ++ wsX20 ++ (vx_atS RX4 58 "java/lang/IndexOutOfBoundsException" ["java/lang/RuntimeException", "java/lang/Exception"]).filter goodWord ++ (vx_atS RX4 35 "java/lang/IllegalArgumentException" ["java/lang/RuntimeException", "java/lang/Exception"]).filter goodWord)
def wsL_anew_r1 : List Cond := [Cond.classLink RL 23 "java/lang/IndexOutOfBoundsException", Cond.constant RL 25 (-2000000001), Cond.constant RL 15 (-2000000002), Cond.methodLink RL 86 yX4_bestAnew, Cond.instanceMethod yX4_bestAnew, Cond.selects RX4 yX4_bestAnew yX4_bestAnew, Cond.initialized RX4, Cond.code yX4_bestAnew cX4_bestAnew 5 (some .int), Cond.methodLink RX4 170 yX4_accusedAt, Cond.instanceMethod yX4_accusedAt, Cond.selects RX4 yX4_accusedAt yX4_accusedAt, Cond.code yX4_accusedAt cX4_accusedAt 5 (some (.object "Chargehouse$Accused")), Cond.classLink RX4 54 "java/lang/IndexOutOfBoundsException", Cond.initialized "java/lang/IndexOutOfBoundsException", Cond.methodLink RX4 108 yX4_fileAt, Cond.instanceMethod yX4_fileAt, Cond.selects RX4 yX4_fileAt yX4_fileAt, Cond.code yX4_fileAt cX4_fileAt 2 (some (.object "Chargehouse$CaseFile")), Cond.fieldLink RX4 17 "Chargehouse" "fileRows" "[LChargehouse$CaseFile;", Cond.methodLink RX4 325 yX1_rowOf, Cond.instanceMethod yX1_rowOf, Cond.selects RX1 yX1_rowOf yX1_rowOf, Cond.initialized RX1, Cond.code yX1_rowOf cX1_rowOf 2 (some (.object "Chargehouse$Accused"))]
def wsL_anew_r2 : List Cond := [Cond.fieldLink RX1 11 "Chargehouse$CaseFile" "rows" "[LChargehouse$Accused;", Cond.methodLink RX4 276 yX4_checkDay, Cond.instanceMethod yX4_checkDay, Cond.selects RX4 yX4_checkDay yX4_checkDay, Cond.code yX4_checkDay cX4_checkDay 2 none, Cond.classLink RX4 31 "java/lang/IllegalArgumentException", Cond.initialized "java/lang/IllegalArgumentException", Cond.fieldLink RX4 70 "Chargehouse" "today" "I", Cond.methodLink RX4 27 yX4_isWithin, Cond.static yX4_isWithin, Cond.code yX4_isWithin cX4_isWithin 3 (some .boolean), Cond.methodLink RX4 181 yX4_chargeable, Cond.instanceMethod yX4_chargeable, Cond.selects RX4 yX4_chargeable yX4_chargeable, Cond.code yX4_chargeable cX4_chargeable 6 (some .int), Cond.fieldLink RX4 11 "Chargehouse" "offenceRows" "[LChargehouse$Offence;", Cond.methodLink RX4 283 yX4_hindrance, Cond.instanceMethod yX4_hindrance, Cond.selects RX4 yX4_hindrance yX4_hindrance, Cond.code yX4_hindrance cX4_hindrance 4 (some .int), Cond.fieldLink RX4 293 "Chargehouse$Accused" "file" "LChargehouse$CaseFile;", Cond.fieldLink RX4 351 "Chargehouse$CaseFile" "event" "I", Cond.fieldLink RX4 354 "Chargehouse$Offence" "limit" "I", Cond.fieldLink RX4 361 "Chargehouse$Offence" "gravity" "I"]
def wsL_anew_r3 : List Cond := [Cond.fieldLink RX4 364 "Chargehouse$CaseFile" "points" "I", Cond.methodLink RX4 347 yX4_isSpent, Cond.instanceMethod yX4_isSpent, Cond.selects RX4 yX4_isSpent yX4_isSpent, Cond.code yX4_isSpent cX4_isSpent 6 (some .boolean), Cond.methodLink RX4 341 yX3_isAkinTo, Cond.instanceMethod yX3_isAkinTo, Cond.selects RX3 yX3_isAkinTo yX3_isAkinTo, Cond.initialized RX3, Cond.code yX3_isAkinTo cX3_isAkinTo 2 (some .boolean), Cond.fieldLink RX3 7 "Chargehouse$Offence" "elements" "I", Cond.methodLink RX3 28 yX3_nestsIn, Cond.instanceMethod yX3_nestsIn, Cond.selects RX3 yX3_nestsIn yX3_nestsIn, Cond.code yX3_nestsIn cX3_nestsIn 2 (some .boolean), Cond.methodLink RX4 344 yX0_hadAnswered, Cond.instanceMethod yX0_hadAnswered, Cond.selects RX0 yX0_hadAnswered yX0_hadAnswered, Cond.initialized RX0, Cond.code yX0_hadAnswered cX0_hadAnswered 3 (some .boolean), Cond.fieldLink RX0 15 "Chargehouse$Accused" "firstAnsweredOn" "[I", Cond.methodLink RX4 357 yX4_hasStrength, Cond.instanceMethod yX4_hasStrength, Cond.selects RX4 yX4_hasStrength yX4_hasStrength]
def wsL_anew_r4 : List Cond := [Cond.code yX4_hasStrength cX4_hasStrength 6 (some .boolean), Cond.fieldLink RX4 338 "Chargehouse$Offence" "elements" "I", Cond.methodLink RX4 96 yX4_hasBit, Cond.static yX4_hasBit, Cond.code yX4_hasBit cX4_hasBit 2 (some .boolean), Cond.methodLink RX4 279 yX4_strengthAgainst, Cond.instanceMethod yX4_strengthAgainst, Cond.selects RX4 yX4_strengthAgainst yX4_strengthAgainst, Cond.code yX4_strengthAgainst cX4_strengthAgainst 9 (some .int), Cond.fieldLink RX4 23 "Chargehouse" "itemRows" "[LChargehouse$Item;", Cond.fieldLink RX4 154 "Chargehouse$Item" "file" "I", Cond.fieldLink RX4 105 "Chargehouse$CaseFile" "number" "I", Cond.fieldLink RX4 299 "Chargehouse$Item" "element" "I", Cond.fieldLink RX4 296 "Chargehouse$Accused" "person" "I", Cond.fieldLink RX4 302 "Chargehouse$Item" "weight" "I", Cond.methodLink RX4 143 yX2_isAgainst, Cond.instanceMethod yX2_isAgainst, Cond.selects RX2 yX2_isAgainst yX2_isAgainst, Cond.initialized RX2, Cond.code yX2_isAgainst cX2_isAgainst 2 (some .boolean), Cond.fieldLink RX2 24 "Chargehouse$Item" "against" "I", Cond.methodLink RX4 335 yX2_countsOn, Cond.instanceMethod yX2_countsOn, Cond.selects RX2 yX2_countsOn yX2_countsOn]
def wsL_anew_r5 : List Cond := [Cond.code yX2_countsOn cX2_countsOn 3 (some .boolean), Cond.fieldLink RX2 9 "Chargehouse$Item" "admittedOn" "I", Cond.fieldLink RX2 34 "Chargehouse$Item" "cameOn" "I", Cond.fieldLink RX2 27 "Chargehouse$Item" "how" "I", Cond.methodLink RX4 290 yX4_bestOfAllSets, Cond.instanceMethod yX4_bestOfAllSets, Cond.selects RX4 yX4_bestOfAllSets yX4_bestOfAllSets, Cond.code yX4_bestOfAllSets cX4_bestOfAllSets 4 (some .int), Cond.methodLink RX4 185 yX4_isRight, Cond.instanceMethod yX4_isRight, Cond.selects RX4 yX4_isRight yX4_isRight, Cond.code yX4_isRight cX4_isRight 5 (some .boolean), Cond.methodLink RX4 227 yJ6_bitCount_0f7a4, Cond.static yJ6_bitCount_0f7a4, Cond.initialized RJ6, Cond.code yJ6_bitCount_0f7a4 cJ6_bitCount_0f7a4 1 (some .int), Cond.constant RJ6 265 (1431655765), Cond.constant RJ6 266 (858993459), Cond.constant RJ6 267 (252645135), Cond.methodLink RX4 367 yX4_matesOf, Cond.instanceMethod yX4_matesOf, Cond.selects RX4 yX4_matesOf yX4_matesOf, Cond.code yX4_matesOf cX4_matesOf 6 (some .int), Cond.methodLink RX4 50 yX4_offenceAt]
def wsL_anew_r6 : List Cond := [Cond.instanceMethod yX4_offenceAt, Cond.selects RX4 yX4_offenceAt yX4_offenceAt, Cond.code yX4_offenceAt cX4_offenceAt 2 (some (.object "Chargehouse$Offence")), Cond.methodLink RX4 61 yX3_excludes, Cond.instanceMethod yX3_excludes, Cond.selects RX3 yX3_excludes yX3_excludes, Cond.code yX3_excludes cX3_excludes 2 (some .boolean), Cond.fieldLink RX3 19 "Chargehouse$Offence" "excluded" "I", Cond.methodLink RX4 370 yX4_better, Cond.instanceMethod yX4_better, Cond.selects RX4 yX4_better yX4_better, Cond.code yX4_better cX4_better 5 (some .int), Cond.methodLink RX4 196 yX4_gravityOf, Cond.instanceMethod yX4_gravityOf, Cond.selects RX4 yX4_gravityOf yX4_gravityOf, Cond.code yX4_gravityOf cX4_gravityOf 5 (some .int)]
def wsL_anew : List Cond := .codeWith yL_anew cL_anew 5 (some .int) [(0, 7, 8, 23), (0, 7, 13, 13)] :: ((wsL_anew_r1 ++ (wsL_anew_r2 ++ (wsL_anew_r3 ++ (wsL_anew_r4 ++ (wsL_anew_r5 ++ wsL_anew_r6))))) ++ wsX40 ++ wsX10 ++ wsX00 ++ wsX30 ++ wsX20 ++ (vx_atS RX4 58 "java/lang/IndexOutOfBoundsException" ["java/lang/RuntimeException", "java/lang/Exception"]).filter goodWord ++ (vx_atS RX4 35 "java/lang/IllegalArgumentException" ["java/lang/RuntimeException", "java/lang/Exception"]).filter goodWord)
def wsL_lacks_r1 : List Cond := [Cond.classLink RL 23 "java/lang/IndexOutOfBoundsException", Cond.constant RL 25 (-2000000001), Cond.methodLink RL 89 yX4_lacks, Cond.instanceMethod yX4_lacks, Cond.selects RX4 yX4_lacks yX4_lacks, Cond.initialized RX4, Cond.code yX4_lacks cX4_lacks 4 (some .int), Cond.fieldLink RX4 293 "Chargehouse$Accused" "file" "LChargehouse$CaseFile;", Cond.fieldLink RX4 105 "Chargehouse$CaseFile" "number" "I", Cond.fieldLink RX4 296 "Chargehouse$Accused" "person" "I", Cond.methodLink RX4 170 yX4_accusedAt, Cond.instanceMethod yX4_accusedAt, Cond.selects RX4 yX4_accusedAt yX4_accusedAt, Cond.code yX4_accusedAt cX4_accusedAt 5 (some (.object "Chargehouse$Accused")), Cond.classLink RX4 54 "java/lang/IndexOutOfBoundsException", Cond.initialized "java/lang/IndexOutOfBoundsException", Cond.methodLink RX4 108 yX4_fileAt, Cond.instanceMethod yX4_fileAt, Cond.selects RX4 yX4_fileAt yX4_fileAt, Cond.code yX4_fileAt cX4_fileAt 2 (some (.object "Chargehouse$CaseFile")), Cond.fieldLink RX4 17 "Chargehouse" "fileRows" "[LChargehouse$CaseFile;", Cond.methodLink RX4 325 yX1_rowOf, Cond.instanceMethod yX1_rowOf, Cond.selects RX1 yX1_rowOf yX1_rowOf]
def wsL_lacks_r2 : List Cond := [Cond.initialized RX1, Cond.code yX1_rowOf cX1_rowOf 2 (some (.object "Chargehouse$Accused")), Cond.fieldLink RX1 11 "Chargehouse$CaseFile" "rows" "[LChargehouse$Accused;", Cond.methodLink RX4 157 yX4_lackedBy, Cond.instanceMethod yX4_lackedBy, Cond.selects RX4 yX4_lackedBy yX4_lackedBy, Cond.code yX4_lackedBy cX4_lackedBy 8 (some .int), Cond.fieldLink RX4 23 "Chargehouse" "itemRows" "[LChargehouse$Item;", Cond.fieldLink RX4 154 "Chargehouse$Item" "file" "I", Cond.methodLink RX4 383 yX2_isLackedBy, Cond.instanceMethod yX2_isLackedBy, Cond.selects RX2 yX2_isLackedBy yX2_isLackedBy, Cond.initialized RX2, Cond.code yX2_isLackedBy cX2_isLackedBy 2 (some .boolean), Cond.fieldLink RX2 21 "Chargehouse$Item" "weight" "I", Cond.fieldLink RX2 51 "Chargehouse$Item" "isWithheld" "Z", Cond.methodLink RX2 44 yX2_isAgainst, Cond.instanceMethod yX2_isAgainst, Cond.selects RX2 yX2_isAgainst yX2_isAgainst, Cond.code yX2_isAgainst cX2_isAgainst 2 (some .boolean), Cond.fieldLink RX2 24 "Chargehouse$Item" "against" "I", Cond.static yX4_hasBit, Cond.code yX4_hasBit cX4_hasBit 2 (some .boolean), Cond.methodLink RX2 48 yX2_wasShownTo]
def wsL_lacks_r3 : List Cond := [Cond.instanceMethod yX2_wasShownTo, Cond.selects RX2 yX2_wasShownTo yX2_wasShownTo, Cond.code yX2_wasShownTo cX2_wasShownTo 2 (some .boolean), Cond.fieldLink RX2 41 "Chargehouse$Item" "shownTo" "I"]
def wsL_lacks : List Cond := .codeWith yL_lacks cL_lacks 4 (some .int) [(0, 6, 7, 23)] :: ((wsL_lacks_r1 ++ (wsL_lacks_r2 ++ wsL_lacks_r3)) ++ wsX00 ++ wsX10 ++ wsX40 ++ wsX20 ++ (vx_atS RX4 58 "java/lang/IndexOutOfBoundsException" ["java/lang/RuntimeException", "java/lang/Exception"]).filter goodWord)
def wsL_ofItem_r1 : List Cond := [Cond.classLink RL 23 "java/lang/IndexOutOfBoundsException", Cond.constant RL 25 (-2000000001), Cond.constant RL 15 (-2000000002), Cond.methodLink RL 92 yX4_ofItem, Cond.instanceMethod yX4_ofItem, Cond.selects RX4 yX4_ofItem yX4_ofItem, Cond.initialized RX4, Cond.code yX4_ofItem cX4_ofItem 4 (some .int), Cond.classLink RX4 54 "java/lang/IndexOutOfBoundsException", Cond.initialized "java/lang/IndexOutOfBoundsException", Cond.classLink RX4 31 "java/lang/IllegalArgumentException", Cond.initialized "java/lang/IllegalArgumentException", Cond.fieldLink RX4 154 "Chargehouse$Item" "file" "I", Cond.fieldLink RX4 299 "Chargehouse$Item" "element" "I", Cond.fieldLink RX4 302 "Chargehouse$Item" "weight" "I", Cond.fieldLink RX4 305 "Chargehouse$Item" "against" "I", Cond.fieldLink RX4 308 "Chargehouse$Item" "cameOn" "I", Cond.fieldLink RX4 136 "Chargehouse$Item" "admittedOn" "I", Cond.fieldLink RX4 151 "Chargehouse$Item" "shownTo" "I", Cond.fieldLink RX4 165 "Chargehouse$Item" "isWithheld" "Z", Cond.methodLink RX4 127 yX4_itemAt, Cond.instanceMethod yX4_itemAt, Cond.selects RX4 yX4_itemAt yX4_itemAt, Cond.code yX4_itemAt cX4_itemAt 2 (some (.object "Chargehouse$Item"))]
def wsL_ofItem_r2 : List Cond := [Cond.fieldLink RX4 23 "Chargehouse" "itemRows" "[LChargehouse$Item;"]
def wsL_ofItem : List Cond := .codeWith yL_ofItem cL_ofItem 4 (some .int) [(0, 6, 7, 23), (0, 6, 11, 13)] :: ((wsL_ofItem_r1 ++ wsL_ofItem_r2) ++ wsX20 ++ wsX40 ++ (vx_atS RX4 58 "java/lang/IndexOutOfBoundsException" ["java/lang/RuntimeException", "java/lang/Exception"]).filter goodWord ++ (vx_atS RX4 35 "java/lang/IllegalArgumentException" ["java/lang/RuntimeException", "java/lang/Exception"]).filter goodWord)
def wsL_of_r1 : List Cond := [Cond.classLink RL 23 "java/lang/IndexOutOfBoundsException", Cond.constant RL 25 (-2000000001), Cond.constant RL 15 (-2000000002), Cond.methodLink RL 95 yX4_ofAccused, Cond.instanceMethod yX4_ofAccused, Cond.selects RX4 yX4_ofAccused yX4_ofAccused, Cond.initialized RX4, Cond.code yX4_ofAccused cX4_ofAccused 5 (some .int), Cond.classLink RX4 31 "java/lang/IllegalArgumentException", Cond.initialized "java/lang/IllegalArgumentException", Cond.fieldLink RX4 178 "Chargehouse$Accused" "state" "I", Cond.fieldLink RX4 190 "Chargehouse$Accused" "charges" "I", Cond.fieldLink RX4 207 "Chargehouse$Accused" "isInCustody" "Z", Cond.fieldLink RX4 313 "Chargehouse$Accused" "daysWhileOpen" "I", Cond.fieldLink RX4 316 "Chargehouse$Accused" "daysWhileCharged" "I", Cond.fieldLink RX4 249 "Chargehouse$Accused" "months" "I", Cond.fieldLink RX4 319 "Chargehouse$Accused" "convictedOf" "I", Cond.methodLink RX4 170 yX4_accusedAt, Cond.instanceMethod yX4_accusedAt, Cond.selects RX4 yX4_accusedAt yX4_accusedAt, Cond.code yX4_accusedAt cX4_accusedAt 5 (some (.object "Chargehouse$Accused")), Cond.classLink RX4 54 "java/lang/IndexOutOfBoundsException", Cond.initialized "java/lang/IndexOutOfBoundsException", Cond.methodLink RX4 108 yX4_fileAt]
def wsL_of_r2 : List Cond := [Cond.instanceMethod yX4_fileAt, Cond.selects RX4 yX4_fileAt yX4_fileAt, Cond.code yX4_fileAt cX4_fileAt 2 (some (.object "Chargehouse$CaseFile")), Cond.fieldLink RX4 17 "Chargehouse" "fileRows" "[LChargehouse$CaseFile;", Cond.methodLink RX4 325 yX1_rowOf, Cond.instanceMethod yX1_rowOf, Cond.selects RX1 yX1_rowOf yX1_rowOf, Cond.initialized RX1, Cond.code yX1_rowOf cX1_rowOf 2 (some (.object "Chargehouse$Accused")), Cond.fieldLink RX1 11 "Chargehouse$CaseFile" "rows" "[LChargehouse$Accused;", Cond.methodLink RX4 322 yX4_spentOffences, Cond.instanceMethod yX4_spentOffences, Cond.selects RX4 yX4_spentOffences yX4_spentOffences, Cond.code yX4_spentOffences cX4_spentOffences 5 (some .int), Cond.fieldLink RX4 11 "Chargehouse" "offenceRows" "[LChargehouse$Offence;", Cond.fieldLink RX4 70 "Chargehouse" "today" "I", Cond.methodLink RX4 347 yX4_isSpent, Cond.instanceMethod yX4_isSpent, Cond.selects RX4 yX4_isSpent yX4_isSpent, Cond.code yX4_isSpent cX4_isSpent 6 (some .boolean), Cond.methodLink RX4 341 yX3_isAkinTo, Cond.instanceMethod yX3_isAkinTo, Cond.selects RX3 yX3_isAkinTo yX3_isAkinTo, Cond.initialized RX3]
def wsL_of_r3 : List Cond := [Cond.code yX3_isAkinTo cX3_isAkinTo 2 (some .boolean), Cond.fieldLink RX3 7 "Chargehouse$Offence" "elements" "I", Cond.methodLink RX3 28 yX3_nestsIn, Cond.instanceMethod yX3_nestsIn, Cond.selects RX3 yX3_nestsIn yX3_nestsIn, Cond.code yX3_nestsIn cX3_nestsIn 2 (some .boolean), Cond.methodLink RX4 344 yX0_hadAnswered, Cond.instanceMethod yX0_hadAnswered, Cond.selects RX0 yX0_hadAnswered yX0_hadAnswered, Cond.initialized RX0, Cond.code yX0_hadAnswered cX0_hadAnswered 3 (some .boolean), Cond.fieldLink RX0 15 "Chargehouse$Accused" "firstAnsweredOn" "[I"]
def wsL_of : List Cond := .codeWith yL_of cL_of 5 (some .int) [(0, 7, 8, 23), (0, 7, 13, 13)] :: ((wsL_of_r1 ++ (wsL_of_r2 ++ wsL_of_r3)) ++ wsX00 ++ wsX40 ++ wsX10 ++ wsX30 ++ (vx_atS RX4 35 "java/lang/IllegalArgumentException" ["java/lang/RuntimeException", "java/lang/Exception"]).filter goodWord ++ (vx_atS RX4 58 "java/lang/IndexOutOfBoundsException" ["java/lang/RuntimeException", "java/lang/Exception"]).filter goodWord)
def wsL_count : List Cond := .codeWith yL_count cL_count 3 (some .int) [(0, 5, 6, 13)] :: ([.classLink RL 13 "java/lang/IllegalArgumentException", .constant RL 15 (-2000000002), .methodLink RL 98 yX4_count, .instanceMethod yX4_count, .selects RX4 yX4_count yX4_count, .initialized RX4, .code yX4_count cX4_count 2 (some .int), .classLink RX4 31 "java/lang/IllegalArgumentException", .initialized "java/lang/IllegalArgumentException", .fieldLink RX4 224 "Chargehouse" "convictions" "I", .fieldLink RX4 232 "Chargehouse" "acquittals" "I", .fieldLink RX4 246 "Chargehouse" "pleas" "I", .fieldLink RX4 210 "Chargehouse" "drops" "I", .fieldLink RX4 215 "Chargehouse" "reopened" "I", .fieldLink RX4 75 "Chargehouse" "clockReleases" "I"] ++ wsX40 ++ (vx_atS RX4 35 "java/lang/IllegalArgumentException" ["java/lang/RuntimeException", "java/lang/Exception"]).filter goodWord)
def wsL_drawn : List Cond := .code yL_drawn cL_drawn 2 (some .int) :: ([.constant RL 101 (14127341), .constant RL 102 (2147483647)])
def wsL_isRefused : List Cond := .code yL_isRefused cL_isRefused 1 (some .boolean) :: ([.constant RL 25 (-2000000001), .constant RL 15 (-2000000002), .constant RL 18 (-2000000003)])
def wsL_bits : List Cond := .code yL_bits cL_bits 3 (some .int) :: ([])
def wsL_mix_r1 : List Cond := [Cond.constantLong RL 109 (31), Cond.constantLong RL 114 (37), Cond.constantLong RL 120 (41), Cond.constantLong RL 125 (3), Cond.constantLong RL 127 (5), Cond.constantLong RL 129 (7), Cond.constantLong RL 131 (43), Cond.methodLink RL 105 yX4_day, Cond.instanceMethod yX4_day, Cond.selects RX4 yX4_day yX4_day, Cond.initialized RX4, Cond.code yX4_day cX4_day 1 (some .int), Cond.fieldLink RX4 70 "Chargehouse" "today" "I", Cond.methodLink RL 111 yL_count, Cond.static yL_count, Cond.initialized RL, Cond.codeWith yL_count cL_count 3 (some .int) [(0, 5, 6, 13)], Cond.classLink RL 13 "java/lang/IllegalArgumentException", Cond.constant RL 15 (-2000000002), Cond.methodLink RL 98 yX4_count, Cond.instanceMethod yX4_count, Cond.selects RX4 yX4_count yX4_count, Cond.code yX4_count cX4_count 2 (some .int), Cond.classLink RX4 31 "java/lang/IllegalArgumentException"]
def wsL_mix_r2 : List Cond := [Cond.initialized "java/lang/IllegalArgumentException", Cond.fieldLink RX4 224 "Chargehouse" "convictions" "I", Cond.fieldLink RX4 232 "Chargehouse" "acquittals" "I", Cond.fieldLink RX4 246 "Chargehouse" "pleas" "I", Cond.fieldLink RX4 210 "Chargehouse" "drops" "I", Cond.fieldLink RX4 215 "Chargehouse" "reopened" "I", Cond.fieldLink RX4 75 "Chargehouse" "clockReleases" "I", Cond.methodLink RL 116 yL_of, Cond.static yL_of, Cond.codeWith yL_of cL_of 5 (some .int) [(0, 7, 8, 23), (0, 7, 13, 13)], Cond.classLink RL 23 "java/lang/IndexOutOfBoundsException", Cond.constant RL 25 (-2000000001), Cond.methodLink RL 95 yX4_ofAccused, Cond.instanceMethod yX4_ofAccused, Cond.selects RX4 yX4_ofAccused yX4_ofAccused, Cond.code yX4_ofAccused cX4_ofAccused 5 (some .int), Cond.fieldLink RX4 178 "Chargehouse$Accused" "state" "I", Cond.fieldLink RX4 190 "Chargehouse$Accused" "charges" "I", Cond.fieldLink RX4 207 "Chargehouse$Accused" "isInCustody" "Z", Cond.fieldLink RX4 313 "Chargehouse$Accused" "daysWhileOpen" "I", Cond.fieldLink RX4 316 "Chargehouse$Accused" "daysWhileCharged" "I", Cond.fieldLink RX4 249 "Chargehouse$Accused" "months" "I", Cond.fieldLink RX4 319 "Chargehouse$Accused" "convictedOf" "I", Cond.methodLink RX4 170 yX4_accusedAt]
def wsL_mix_r3 : List Cond := [Cond.instanceMethod yX4_accusedAt, Cond.selects RX4 yX4_accusedAt yX4_accusedAt, Cond.code yX4_accusedAt cX4_accusedAt 5 (some (.object "Chargehouse$Accused")), Cond.classLink RX4 54 "java/lang/IndexOutOfBoundsException", Cond.initialized "java/lang/IndexOutOfBoundsException", Cond.methodLink RX4 108 yX4_fileAt, Cond.instanceMethod yX4_fileAt, Cond.selects RX4 yX4_fileAt yX4_fileAt, Cond.code yX4_fileAt cX4_fileAt 2 (some (.object "Chargehouse$CaseFile")), Cond.fieldLink RX4 17 "Chargehouse" "fileRows" "[LChargehouse$CaseFile;", Cond.methodLink RX4 325 yX1_rowOf, Cond.instanceMethod yX1_rowOf, Cond.selects RX1 yX1_rowOf yX1_rowOf, Cond.initialized RX1, Cond.code yX1_rowOf cX1_rowOf 2 (some (.object "Chargehouse$Accused")), Cond.fieldLink RX1 11 "Chargehouse$CaseFile" "rows" "[LChargehouse$Accused;", Cond.methodLink RX4 322 yX4_spentOffences, Cond.instanceMethod yX4_spentOffences, Cond.selects RX4 yX4_spentOffences yX4_spentOffences, Cond.code yX4_spentOffences cX4_spentOffences 5 (some .int), Cond.fieldLink RX4 11 "Chargehouse" "offenceRows" "[LChargehouse$Offence;", Cond.methodLink RX4 347 yX4_isSpent, Cond.instanceMethod yX4_isSpent, Cond.selects RX4 yX4_isSpent yX4_isSpent]
def wsL_mix_r4 : List Cond := [Cond.code yX4_isSpent cX4_isSpent 6 (some .boolean), Cond.methodLink RX4 341 yX3_isAkinTo, Cond.instanceMethod yX3_isAkinTo, Cond.selects RX3 yX3_isAkinTo yX3_isAkinTo, Cond.initialized RX3, Cond.code yX3_isAkinTo cX3_isAkinTo 2 (some .boolean), Cond.fieldLink RX3 7 "Chargehouse$Offence" "elements" "I", Cond.methodLink RX3 28 yX3_nestsIn, Cond.instanceMethod yX3_nestsIn, Cond.selects RX3 yX3_nestsIn yX3_nestsIn, Cond.code yX3_nestsIn cX3_nestsIn 2 (some .boolean), Cond.methodLink RX4 344 yX0_hadAnswered, Cond.instanceMethod yX0_hadAnswered, Cond.selects RX0 yX0_hadAnswered yX0_hadAnswered, Cond.initialized RX0, Cond.code yX0_hadAnswered cX0_hadAnswered 3 (some .boolean), Cond.fieldLink RX0 15 "Chargehouse$Accused" "firstAnsweredOn" "[I", Cond.methodLink RL 122 yL_ofItem, Cond.static yL_ofItem, Cond.codeWith yL_ofItem cL_ofItem 4 (some .int) [(0, 6, 7, 23), (0, 6, 11, 13)], Cond.methodLink RL 92 yX4_ofItem, Cond.instanceMethod yX4_ofItem, Cond.selects RX4 yX4_ofItem yX4_ofItem, Cond.code yX4_ofItem cX4_ofItem 4 (some .int)]
def wsL_mix_r5 : List Cond := [Cond.fieldLink RX4 154 "Chargehouse$Item" "file" "I", Cond.fieldLink RX4 299 "Chargehouse$Item" "element" "I", Cond.fieldLink RX4 302 "Chargehouse$Item" "weight" "I", Cond.fieldLink RX4 305 "Chargehouse$Item" "against" "I", Cond.fieldLink RX4 308 "Chargehouse$Item" "cameOn" "I", Cond.fieldLink RX4 136 "Chargehouse$Item" "admittedOn" "I", Cond.fieldLink RX4 151 "Chargehouse$Item" "shownTo" "I", Cond.fieldLink RX4 165 "Chargehouse$Item" "isWithheld" "Z", Cond.methodLink RX4 127 yX4_itemAt, Cond.instanceMethod yX4_itemAt, Cond.selects RX4 yX4_itemAt yX4_itemAt, Cond.code yX4_itemAt cX4_itemAt 2 (some (.object "Chargehouse$Item")), Cond.fieldLink RX4 23 "Chargehouse" "itemRows" "[LChargehouse$Item;", Cond.methodLink RL 133 yL_nests, Cond.static yL_nests, Cond.codeWith yL_nests cL_nests 4 (some .int) [(0, 14, 15, 23)], Cond.methodLink RL 73 yX4_nests, Cond.instanceMethod yX4_nests, Cond.selects RX4 yX4_nests yX4_nests, Cond.code yX4_nests cX4_nests 5 (some .boolean), Cond.methodLink RX4 50 yX4_offenceAt, Cond.instanceMethod yX4_offenceAt, Cond.selects RX4 yX4_offenceAt yX4_offenceAt, Cond.code yX4_offenceAt cX4_offenceAt 2 (some (.object "Chargehouse$Offence"))]
def wsL_mix_r6 : List Cond := [Cond.methodLink RX4 270 yX3_nestsIn]
def wsL_mix : List Cond := .code yL_mix cL_mix 7 (some .long) :: ((wsL_mix_r1 ++ (wsL_mix_r2 ++ (wsL_mix_r3 ++ (wsL_mix_r4 ++ (wsL_mix_r5 ++ wsL_mix_r6))))) ++ wsX40 ++ wsX00 ++ wsX10 ++ wsX30 ++ wsX20 ++ (vx_atS RX4 35 "java/lang/IllegalArgumentException" ["java/lang/RuntimeException", "java/lang/Exception"]).filter goodWord ++ (vx_atS RX4 58 "java/lang/IndexOutOfBoundsException" ["java/lang/RuntimeException", "java/lang/Exception"]).filter goodWord)
def wsL_known_r1 : List Cond := [Cond.constantLong RL 109 (31), Cond.constantLong RL 114 (37), Cond.methodLink RL 135 yL_whyNot, Cond.static yL_whyNot, Cond.initialized RL, Cond.codeWith yL_whyNot cL_whyNot 6 (some .int) [(0, 9, 10, 23), (0, 9, 15, 13)], Cond.classLink RL 23 "java/lang/IndexOutOfBoundsException", Cond.constant RL 25 (-2000000001), Cond.constant RL 15 (-2000000002), Cond.methodLink RL 80 yX4_whyNot, Cond.instanceMethod yX4_whyNot, Cond.selects RX4 yX4_whyNot yX4_whyNot, Cond.initialized RX4, Cond.code yX4_whyNot cX4_whyNot 7 (some .int), Cond.classLink RX4 54 "java/lang/IndexOutOfBoundsException", Cond.initialized "java/lang/IndexOutOfBoundsException", Cond.methodLink RX4 170 yX4_accusedAt, Cond.instanceMethod yX4_accusedAt, Cond.selects RX4 yX4_accusedAt yX4_accusedAt, Cond.code yX4_accusedAt cX4_accusedAt 5 (some (.object "Chargehouse$Accused")), Cond.methodLink RX4 108 yX4_fileAt, Cond.instanceMethod yX4_fileAt, Cond.selects RX4 yX4_fileAt yX4_fileAt, Cond.code yX4_fileAt cX4_fileAt 2 (some (.object "Chargehouse$CaseFile"))]
def wsL_known_r2 : List Cond := [Cond.fieldLink RX4 17 "Chargehouse" "fileRows" "[LChargehouse$CaseFile;", Cond.methodLink RX4 325 yX1_rowOf, Cond.instanceMethod yX1_rowOf, Cond.selects RX1 yX1_rowOf yX1_rowOf, Cond.initialized RX1, Cond.code yX1_rowOf cX1_rowOf 2 (some (.object "Chargehouse$Accused")), Cond.fieldLink RX1 11 "Chargehouse$CaseFile" "rows" "[LChargehouse$Accused;", Cond.methodLink RX4 50 yX4_offenceAt, Cond.instanceMethod yX4_offenceAt, Cond.selects RX4 yX4_offenceAt yX4_offenceAt, Cond.code yX4_offenceAt cX4_offenceAt 2 (some (.object "Chargehouse$Offence")), Cond.fieldLink RX4 11 "Chargehouse" "offenceRows" "[LChargehouse$Offence;", Cond.methodLink RX4 276 yX4_checkDay, Cond.instanceMethod yX4_checkDay, Cond.selects RX4 yX4_checkDay yX4_checkDay, Cond.code yX4_checkDay cX4_checkDay 2 none, Cond.classLink RX4 31 "java/lang/IllegalArgumentException", Cond.initialized "java/lang/IllegalArgumentException", Cond.fieldLink RX4 70 "Chargehouse" "today" "I", Cond.methodLink RX4 27 yX4_isWithin, Cond.static yX4_isWithin, Cond.code yX4_isWithin cX4_isWithin 3 (some .boolean), Cond.methodLink RX4 283 yX4_hindrance, Cond.instanceMethod yX4_hindrance]
def wsL_known_r3 : List Cond := [Cond.selects RX4 yX4_hindrance yX4_hindrance, Cond.code yX4_hindrance cX4_hindrance 4 (some .int), Cond.fieldLink RX4 293 "Chargehouse$Accused" "file" "LChargehouse$CaseFile;", Cond.fieldLink RX4 351 "Chargehouse$CaseFile" "event" "I", Cond.fieldLink RX4 354 "Chargehouse$Offence" "limit" "I", Cond.fieldLink RX4 361 "Chargehouse$Offence" "gravity" "I", Cond.fieldLink RX4 364 "Chargehouse$CaseFile" "points" "I", Cond.methodLink RX4 347 yX4_isSpent, Cond.instanceMethod yX4_isSpent, Cond.selects RX4 yX4_isSpent yX4_isSpent, Cond.code yX4_isSpent cX4_isSpent 6 (some .boolean), Cond.methodLink RX4 341 yX3_isAkinTo, Cond.instanceMethod yX3_isAkinTo, Cond.selects RX3 yX3_isAkinTo yX3_isAkinTo, Cond.initialized RX3, Cond.code yX3_isAkinTo cX3_isAkinTo 2 (some .boolean), Cond.fieldLink RX3 7 "Chargehouse$Offence" "elements" "I", Cond.methodLink RX3 28 yX3_nestsIn, Cond.instanceMethod yX3_nestsIn, Cond.selects RX3 yX3_nestsIn yX3_nestsIn, Cond.code yX3_nestsIn cX3_nestsIn 2 (some .boolean), Cond.methodLink RX4 344 yX0_hadAnswered, Cond.instanceMethod yX0_hadAnswered, Cond.selects RX0 yX0_hadAnswered yX0_hadAnswered]
def wsL_known_r4 : List Cond := [Cond.initialized RX0, Cond.code yX0_hadAnswered cX0_hadAnswered 3 (some .boolean), Cond.fieldLink RX0 15 "Chargehouse$Accused" "firstAnsweredOn" "[I", Cond.methodLink RX4 357 yX4_hasStrength, Cond.instanceMethod yX4_hasStrength, Cond.selects RX4 yX4_hasStrength yX4_hasStrength, Cond.code yX4_hasStrength cX4_hasStrength 6 (some .boolean), Cond.fieldLink RX4 338 "Chargehouse$Offence" "elements" "I", Cond.methodLink RX4 96 yX4_hasBit, Cond.static yX4_hasBit, Cond.code yX4_hasBit cX4_hasBit 2 (some .boolean), Cond.methodLink RX4 279 yX4_strengthAgainst, Cond.instanceMethod yX4_strengthAgainst, Cond.selects RX4 yX4_strengthAgainst yX4_strengthAgainst, Cond.code yX4_strengthAgainst cX4_strengthAgainst 9 (some .int), Cond.fieldLink RX4 23 "Chargehouse" "itemRows" "[LChargehouse$Item;", Cond.fieldLink RX4 154 "Chargehouse$Item" "file" "I", Cond.fieldLink RX4 105 "Chargehouse$CaseFile" "number" "I", Cond.fieldLink RX4 299 "Chargehouse$Item" "element" "I", Cond.fieldLink RX4 296 "Chargehouse$Accused" "person" "I", Cond.fieldLink RX4 302 "Chargehouse$Item" "weight" "I", Cond.methodLink RX4 143 yX2_isAgainst, Cond.instanceMethod yX2_isAgainst, Cond.selects RX2 yX2_isAgainst yX2_isAgainst]
def wsL_known_r5 : List Cond := [Cond.initialized RX2, Cond.code yX2_isAgainst cX2_isAgainst 2 (some .boolean), Cond.fieldLink RX2 24 "Chargehouse$Item" "against" "I", Cond.methodLink RX4 335 yX2_countsOn, Cond.instanceMethod yX2_countsOn, Cond.selects RX2 yX2_countsOn yX2_countsOn, Cond.code yX2_countsOn cX2_countsOn 3 (some .boolean), Cond.fieldLink RX2 9 "Chargehouse$Item" "admittedOn" "I", Cond.fieldLink RX2 34 "Chargehouse$Item" "cameOn" "I", Cond.fieldLink RX2 27 "Chargehouse$Item" "how" "I", Cond.methodLink RL 138 yL_strength, Cond.static yL_strength, Cond.codeWith yL_strength cL_strength 6 (some .int) [(0, 9, 10, 23), (0, 9, 15, 13)], Cond.methodLink RL 76 yX4_strength, Cond.instanceMethod yX4_strength, Cond.selects RX4 yX4_strength yX4_strength, Cond.code yX4_strength cX4_strength 6 (some .int)]
def wsL_known : List Cond := .code yL_known cL_known 7 (some .long) :: ((wsL_known_r1 ++ (wsL_known_r2 ++ (wsL_known_r3 ++ (wsL_known_r4 ++ wsL_known_r5)))) ++ wsX40 ++ wsX10 ++ wsX00 ++ wsX30 ++ wsX20 ++ (vx_atS RX4 58 "java/lang/IndexOutOfBoundsException" ["java/lang/RuntimeException", "java/lang/Exception"]).filter goodWord ++ (vx_atS RX4 35 "java/lang/IllegalArgumentException" ["java/lang/RuntimeException", "java/lang/Exception"]).filter goodWord)
def wsL_isHeld_r1 : List Cond := [Cond.methodLink RL 116 yL_of, Cond.static yL_of, Cond.initialized RL, Cond.codeWith yL_of cL_of 5 (some .int) [(0, 7, 8, 23), (0, 7, 13, 13)], Cond.classLink RL 23 "java/lang/IndexOutOfBoundsException", Cond.constant RL 25 (-2000000001), Cond.constant RL 15 (-2000000002), Cond.methodLink RL 95 yX4_ofAccused, Cond.instanceMethod yX4_ofAccused, Cond.selects RX4 yX4_ofAccused yX4_ofAccused, Cond.initialized RX4, Cond.code yX4_ofAccused cX4_ofAccused 5 (some .int), Cond.classLink RX4 31 "java/lang/IllegalArgumentException", Cond.initialized "java/lang/IllegalArgumentException", Cond.fieldLink RX4 178 "Chargehouse$Accused" "state" "I", Cond.fieldLink RX4 190 "Chargehouse$Accused" "charges" "I", Cond.fieldLink RX4 207 "Chargehouse$Accused" "isInCustody" "Z", Cond.fieldLink RX4 313 "Chargehouse$Accused" "daysWhileOpen" "I", Cond.fieldLink RX4 316 "Chargehouse$Accused" "daysWhileCharged" "I", Cond.fieldLink RX4 249 "Chargehouse$Accused" "months" "I", Cond.fieldLink RX4 319 "Chargehouse$Accused" "convictedOf" "I", Cond.methodLink RX4 170 yX4_accusedAt, Cond.instanceMethod yX4_accusedAt, Cond.selects RX4 yX4_accusedAt yX4_accusedAt]
def wsL_isHeld_r2 : List Cond := [Cond.code yX4_accusedAt cX4_accusedAt 5 (some (.object "Chargehouse$Accused")), Cond.classLink RX4 54 "java/lang/IndexOutOfBoundsException", Cond.initialized "java/lang/IndexOutOfBoundsException", Cond.methodLink RX4 108 yX4_fileAt, Cond.instanceMethod yX4_fileAt, Cond.selects RX4 yX4_fileAt yX4_fileAt, Cond.code yX4_fileAt cX4_fileAt 2 (some (.object "Chargehouse$CaseFile")), Cond.fieldLink RX4 17 "Chargehouse" "fileRows" "[LChargehouse$CaseFile;", Cond.methodLink RX4 325 yX1_rowOf, Cond.instanceMethod yX1_rowOf, Cond.selects RX1 yX1_rowOf yX1_rowOf, Cond.initialized RX1, Cond.code yX1_rowOf cX1_rowOf 2 (some (.object "Chargehouse$Accused")), Cond.fieldLink RX1 11 "Chargehouse$CaseFile" "rows" "[LChargehouse$Accused;", Cond.methodLink RX4 322 yX4_spentOffences, Cond.instanceMethod yX4_spentOffences, Cond.selects RX4 yX4_spentOffences yX4_spentOffences, Cond.code yX4_spentOffences cX4_spentOffences 5 (some .int), Cond.fieldLink RX4 11 "Chargehouse" "offenceRows" "[LChargehouse$Offence;", Cond.fieldLink RX4 70 "Chargehouse" "today" "I", Cond.methodLink RX4 347 yX4_isSpent, Cond.instanceMethod yX4_isSpent, Cond.selects RX4 yX4_isSpent yX4_isSpent, Cond.code yX4_isSpent cX4_isSpent 6 (some .boolean)]
def wsL_isHeld_r3 : List Cond := [Cond.methodLink RX4 341 yX3_isAkinTo, Cond.instanceMethod yX3_isAkinTo, Cond.selects RX3 yX3_isAkinTo yX3_isAkinTo, Cond.initialized RX3, Cond.code yX3_isAkinTo cX3_isAkinTo 2 (some .boolean), Cond.fieldLink RX3 7 "Chargehouse$Offence" "elements" "I", Cond.methodLink RX3 28 yX3_nestsIn, Cond.instanceMethod yX3_nestsIn, Cond.selects RX3 yX3_nestsIn yX3_nestsIn, Cond.code yX3_nestsIn cX3_nestsIn 2 (some .boolean), Cond.methodLink RX4 344 yX0_hadAnswered, Cond.instanceMethod yX0_hadAnswered, Cond.selects RX0 yX0_hadAnswered yX0_hadAnswered, Cond.initialized RX0, Cond.code yX0_hadAnswered cX0_hadAnswered 3 (some .boolean), Cond.fieldLink RX0 15 "Chargehouse$Accused" "firstAnsweredOn" "[I"]
def wsL_isHeld : List Cond := .code yL_isHeld cL_isHeld 11 (some .boolean) :: ((wsL_isHeld_r1 ++ (wsL_isHeld_r2 ++ wsL_isHeld_r3)) ++ wsX00 ++ wsX40 ++ wsX10 ++ wsX30 ++ (vx_atS RX4 35 "java/lang/IllegalArgumentException" ["java/lang/RuntimeException", "java/lang/Exception"]).filter goodWord ++ (vx_atS RX4 58 "java/lang/IndexOutOfBoundsException" ["java/lang/RuntimeException", "java/lang/Exception"]).filter goodWord)
def wsL_isBest_r1 : List Cond := [Cond.methodLink RL 140 yL_best, Cond.static yL_best, Cond.initialized RL, Cond.codeWith yL_best cL_best 5 (some .int) [(0, 7, 8, 23), (0, 7, 13, 13)], Cond.classLink RL 23 "java/lang/IndexOutOfBoundsException", Cond.constant RL 25 (-2000000001), Cond.constant RL 15 (-2000000002), Cond.methodLink RL 83 yX4_best, Cond.instanceMethod yX4_best, Cond.selects RX4 yX4_best yX4_best, Cond.initialized RX4, Cond.code yX4_best cX4_best 5 (some .int), Cond.methodLink RX4 170 yX4_accusedAt, Cond.instanceMethod yX4_accusedAt, Cond.selects RX4 yX4_accusedAt yX4_accusedAt, Cond.code yX4_accusedAt cX4_accusedAt 5 (some (.object "Chargehouse$Accused")), Cond.classLink RX4 54 "java/lang/IndexOutOfBoundsException", Cond.initialized "java/lang/IndexOutOfBoundsException", Cond.methodLink RX4 108 yX4_fileAt, Cond.instanceMethod yX4_fileAt, Cond.selects RX4 yX4_fileAt yX4_fileAt, Cond.code yX4_fileAt cX4_fileAt 2 (some (.object "Chargehouse$CaseFile")), Cond.fieldLink RX4 17 "Chargehouse" "fileRows" "[LChargehouse$CaseFile;", Cond.methodLink RX4 325 yX1_rowOf]
def wsL_isBest_r2 : List Cond := [Cond.instanceMethod yX1_rowOf, Cond.selects RX1 yX1_rowOf yX1_rowOf, Cond.initialized RX1, Cond.code yX1_rowOf cX1_rowOf 2 (some (.object "Chargehouse$Accused")), Cond.fieldLink RX1 11 "Chargehouse$CaseFile" "rows" "[LChargehouse$Accused;", Cond.methodLink RX4 276 yX4_checkDay, Cond.instanceMethod yX4_checkDay, Cond.selects RX4 yX4_checkDay yX4_checkDay, Cond.code yX4_checkDay cX4_checkDay 2 none, Cond.classLink RX4 31 "java/lang/IllegalArgumentException", Cond.initialized "java/lang/IllegalArgumentException", Cond.fieldLink RX4 70 "Chargehouse" "today" "I", Cond.methodLink RX4 27 yX4_isWithin, Cond.static yX4_isWithin, Cond.code yX4_isWithin cX4_isWithin 3 (some .boolean), Cond.methodLink RX4 181 yX4_chargeable, Cond.instanceMethod yX4_chargeable, Cond.selects RX4 yX4_chargeable yX4_chargeable, Cond.code yX4_chargeable cX4_chargeable 6 (some .int), Cond.fieldLink RX4 11 "Chargehouse" "offenceRows" "[LChargehouse$Offence;", Cond.methodLink RX4 283 yX4_hindrance, Cond.instanceMethod yX4_hindrance, Cond.selects RX4 yX4_hindrance yX4_hindrance, Cond.code yX4_hindrance cX4_hindrance 4 (some .int)]
def wsL_isBest_r3 : List Cond := [Cond.fieldLink RX4 293 "Chargehouse$Accused" "file" "LChargehouse$CaseFile;", Cond.fieldLink RX4 351 "Chargehouse$CaseFile" "event" "I", Cond.fieldLink RX4 354 "Chargehouse$Offence" "limit" "I", Cond.fieldLink RX4 361 "Chargehouse$Offence" "gravity" "I", Cond.fieldLink RX4 364 "Chargehouse$CaseFile" "points" "I", Cond.methodLink RX4 347 yX4_isSpent, Cond.instanceMethod yX4_isSpent, Cond.selects RX4 yX4_isSpent yX4_isSpent, Cond.code yX4_isSpent cX4_isSpent 6 (some .boolean), Cond.methodLink RX4 341 yX3_isAkinTo, Cond.instanceMethod yX3_isAkinTo, Cond.selects RX3 yX3_isAkinTo yX3_isAkinTo, Cond.initialized RX3, Cond.code yX3_isAkinTo cX3_isAkinTo 2 (some .boolean), Cond.fieldLink RX3 7 "Chargehouse$Offence" "elements" "I", Cond.methodLink RX3 28 yX3_nestsIn, Cond.instanceMethod yX3_nestsIn, Cond.selects RX3 yX3_nestsIn yX3_nestsIn, Cond.code yX3_nestsIn cX3_nestsIn 2 (some .boolean), Cond.methodLink RX4 344 yX0_hadAnswered, Cond.instanceMethod yX0_hadAnswered, Cond.selects RX0 yX0_hadAnswered yX0_hadAnswered, Cond.initialized RX0, Cond.code yX0_hadAnswered cX0_hadAnswered 3 (some .boolean)]
def wsL_isBest_r4 : List Cond := [Cond.fieldLink RX0 15 "Chargehouse$Accused" "firstAnsweredOn" "[I", Cond.methodLink RX4 357 yX4_hasStrength, Cond.instanceMethod yX4_hasStrength, Cond.selects RX4 yX4_hasStrength yX4_hasStrength, Cond.code yX4_hasStrength cX4_hasStrength 6 (some .boolean), Cond.fieldLink RX4 338 "Chargehouse$Offence" "elements" "I", Cond.methodLink RX4 96 yX4_hasBit, Cond.static yX4_hasBit, Cond.code yX4_hasBit cX4_hasBit 2 (some .boolean), Cond.methodLink RX4 279 yX4_strengthAgainst, Cond.instanceMethod yX4_strengthAgainst, Cond.selects RX4 yX4_strengthAgainst yX4_strengthAgainst, Cond.code yX4_strengthAgainst cX4_strengthAgainst 9 (some .int), Cond.fieldLink RX4 23 "Chargehouse" "itemRows" "[LChargehouse$Item;", Cond.fieldLink RX4 154 "Chargehouse$Item" "file" "I", Cond.fieldLink RX4 105 "Chargehouse$CaseFile" "number" "I", Cond.fieldLink RX4 299 "Chargehouse$Item" "element" "I", Cond.fieldLink RX4 296 "Chargehouse$Accused" "person" "I", Cond.fieldLink RX4 302 "Chargehouse$Item" "weight" "I", Cond.methodLink RX4 143 yX2_isAgainst, Cond.instanceMethod yX2_isAgainst, Cond.selects RX2 yX2_isAgainst yX2_isAgainst, Cond.initialized RX2, Cond.code yX2_isAgainst cX2_isAgainst 2 (some .boolean)]
def wsL_isBest_r5 : List Cond := [Cond.fieldLink RX2 24 "Chargehouse$Item" "against" "I", Cond.methodLink RX4 335 yX2_countsOn, Cond.instanceMethod yX2_countsOn, Cond.selects RX2 yX2_countsOn yX2_countsOn, Cond.code yX2_countsOn cX2_countsOn 3 (some .boolean), Cond.fieldLink RX2 9 "Chargehouse$Item" "admittedOn" "I", Cond.fieldLink RX2 34 "Chargehouse$Item" "cameOn" "I", Cond.fieldLink RX2 27 "Chargehouse$Item" "how" "I", Cond.methodLink RX4 287 yX4_bestByGrowing, Cond.instanceMethod yX4_bestByGrowing, Cond.selects RX4 yX4_bestByGrowing yX4_bestByGrowing, Cond.code yX4_bestByGrowing cX4_bestByGrowing 5 (some .int), Cond.methodLink RX4 370 yX4_better, Cond.instanceMethod yX4_better, Cond.selects RX4 yX4_better yX4_better, Cond.code yX4_better cX4_better 5 (some .int), Cond.methodLink RX4 196 yX4_gravityOf, Cond.instanceMethod yX4_gravityOf, Cond.selects RX4 yX4_gravityOf yX4_gravityOf, Cond.code yX4_gravityOf cX4_gravityOf 5 (some .int), Cond.methodLink RX4 227 yJ6_bitCount_0f7a4, Cond.static yJ6_bitCount_0f7a4, Cond.initialized RJ6, Cond.code yJ6_bitCount_0f7a4 cJ6_bitCount_0f7a4 1 (some .int)]
def wsL_isBest_r6 : List Cond := [Cond.constant RJ6 265 (1431655765), Cond.constant RJ6 266 (858993459), Cond.constant RJ6 267 (252645135), Cond.methodLink RX4 367 yX4_matesOf, Cond.instanceMethod yX4_matesOf, Cond.selects RX4 yX4_matesOf yX4_matesOf, Cond.code yX4_matesOf cX4_matesOf 6 (some .int), Cond.methodLink RX4 50 yX4_offenceAt, Cond.instanceMethod yX4_offenceAt, Cond.selects RX4 yX4_offenceAt yX4_offenceAt, Cond.code yX4_offenceAt cX4_offenceAt 2 (some (.object "Chargehouse$Offence")), Cond.methodLink RX4 61 yX3_excludes, Cond.instanceMethod yX3_excludes, Cond.selects RX3 yX3_excludes yX3_excludes, Cond.code yX3_excludes cX3_excludes 2 (some .boolean), Cond.fieldLink RX3 19 "Chargehouse$Offence" "excluded" "I", Cond.methodLink RX4 373 yX4_above, Cond.static yX4_above, Cond.code yX4_above cX4_above 1 (some .int), Cond.methodLink RX4 376 yX4_bestWithMates, Cond.instanceMethod yX4_bestWithMates, Cond.selects RX4 yX4_bestWithMates yX4_bestWithMates, Cond.code yX4_bestWithMates cX4_bestWithMates 7 (some .int), Cond.methodLink RX4 380 yX4_bestWithThird]
def wsL_isBest_r7 : List Cond := [Cond.instanceMethod yX4_bestWithThird, Cond.selects RX4 yX4_bestWithThird yX4_bestWithThird, Cond.code yX4_bestWithThird cX4_bestWithThird 6 (some .int), Cond.methodLink RL 142 yL_anew, Cond.static yL_anew, Cond.codeWith yL_anew cL_anew 5 (some .int) [(0, 7, 8, 23), (0, 7, 13, 13)], Cond.methodLink RL 86 yX4_bestAnew, Cond.instanceMethod yX4_bestAnew, Cond.selects RX4 yX4_bestAnew yX4_bestAnew, Cond.code yX4_bestAnew cX4_bestAnew 5 (some .int), Cond.methodLink RX4 290 yX4_bestOfAllSets, Cond.instanceMethod yX4_bestOfAllSets, Cond.selects RX4 yX4_bestOfAllSets yX4_bestOfAllSets, Cond.code yX4_bestOfAllSets cX4_bestOfAllSets 4 (some .int), Cond.methodLink RX4 185 yX4_isRight, Cond.instanceMethod yX4_isRight, Cond.selects RX4 yX4_isRight yX4_isRight, Cond.code yX4_isRight cX4_isRight 5 (some .boolean), Cond.methodLink RL 145 yL_bits, Cond.static yL_bits, Cond.code yL_bits cL_bits 3 (some .int), Cond.methodLink RL 135 yL_whyNot, Cond.static yL_whyNot, Cond.codeWith yL_whyNot cL_whyNot 6 (some .int) [(0, 9, 10, 23), (0, 9, 15, 13)]]
def wsL_isBest_r8 : List Cond := [Cond.methodLink RL 80 yX4_whyNot, Cond.instanceMethod yX4_whyNot, Cond.selects RX4 yX4_whyNot yX4_whyNot, Cond.code yX4_whyNot cX4_whyNot 7 (some .int), Cond.methodLink RL 133 yL_nests, Cond.static yL_nests, Cond.codeWith yL_nests cL_nests 4 (some .int) [(0, 14, 15, 23)], Cond.methodLink RL 73 yX4_nests, Cond.instanceMethod yX4_nests, Cond.selects RX4 yX4_nests yX4_nests, Cond.code yX4_nests cX4_nests 5 (some .boolean), Cond.methodLink RX4 270 yX3_nestsIn]
def wsL_isBest : List Cond := .code yL_isBest cL_isBest 9 (some .boolean) :: ((wsL_isBest_r1 ++ (wsL_isBest_r2 ++ (wsL_isBest_r3 ++ (wsL_isBest_r4 ++ (wsL_isBest_r5 ++ (wsL_isBest_r6 ++ (wsL_isBest_r7 ++ wsL_isBest_r8))))))) ++ wsX40 ++ wsX10 ++ wsX00 ++ wsX30 ++ wsX20 ++ (vx_atS RX4 58 "java/lang/IndexOutOfBoundsException" ["java/lang/RuntimeException", "java/lang/Exception"]).filter goodWord ++ (vx_atS RX4 35 "java/lang/IllegalArgumentException" ["java/lang/RuntimeException", "java/lang/Exception"]).filter goodWord)
def wsL_areNested : List Cond := .code yL_areNested cL_areNested 8 (some .boolean) :: ([.methodLink RL 133 yL_nests, .static yL_nests, .initialized RL, .codeWith yL_nests cL_nests 4 (some .int) [(0, 14, 15, 23)], .classLink RL 23 "java/lang/IndexOutOfBoundsException", .constant RL 25 (-2000000001), .methodLink RL 73 yX4_nests, .instanceMethod yX4_nests, .selects RX4 yX4_nests yX4_nests, .initialized RX4, .code yX4_nests cX4_nests 5 (some .boolean), .classLink RX4 54 "java/lang/IndexOutOfBoundsException", .initialized "java/lang/IndexOutOfBoundsException", .methodLink RX4 50 yX4_offenceAt, .instanceMethod yX4_offenceAt, .selects RX4 yX4_offenceAt yX4_offenceAt, .code yX4_offenceAt cX4_offenceAt 2 (some (.object "Chargehouse$Offence")), .fieldLink RX4 11 "Chargehouse" "offenceRows" "[LChargehouse$Offence;", .methodLink RX4 270 yX3_nestsIn, .instanceMethod yX3_nestsIn, .selects RX3 yX3_nestsIn yX3_nestsIn, .initialized RX3, .code yX3_nestsIn cX3_nestsIn 2 (some .boolean), .fieldLink RX3 7 "Chargehouse$Offence" "elements" "I"] ++ wsX40 ++ wsX30 ++ (vx_atS RX4 58 "java/lang/IndexOutOfBoundsException" ["java/lang/RuntimeException", "java/lang/Exception"]).filter goodWord)
def wsL_isLawful_r1 : List Cond := [Cond.methodLink RL 111 yL_count, Cond.static yL_count, Cond.initialized RL, Cond.codeWith yL_count cL_count 3 (some .int) [(0, 5, 6, 13)], Cond.classLink RL 13 "java/lang/IllegalArgumentException", Cond.constant RL 15 (-2000000002), Cond.methodLink RL 98 yX4_count, Cond.instanceMethod yX4_count, Cond.selects RX4 yX4_count yX4_count, Cond.initialized RX4, Cond.code yX4_count cX4_count 2 (some .int), Cond.classLink RX4 31 "java/lang/IllegalArgumentException", Cond.initialized "java/lang/IllegalArgumentException", Cond.fieldLink RX4 224 "Chargehouse" "convictions" "I", Cond.fieldLink RX4 232 "Chargehouse" "acquittals" "I", Cond.fieldLink RX4 246 "Chargehouse" "pleas" "I", Cond.fieldLink RX4 210 "Chargehouse" "drops" "I", Cond.fieldLink RX4 215 "Chargehouse" "reopened" "I", Cond.fieldLink RX4 75 "Chargehouse" "clockReleases" "I", Cond.methodLink RL 148 yL_isHeld, Cond.static yL_isHeld, Cond.code yL_isHeld cL_isHeld 11 (some .boolean), Cond.methodLink RL 116 yL_of, Cond.static yL_of]
def wsL_isLawful_r2 : List Cond := [Cond.codeWith yL_of cL_of 5 (some .int) [(0, 7, 8, 23), (0, 7, 13, 13)], Cond.classLink RL 23 "java/lang/IndexOutOfBoundsException", Cond.constant RL 25 (-2000000001), Cond.methodLink RL 95 yX4_ofAccused, Cond.instanceMethod yX4_ofAccused, Cond.selects RX4 yX4_ofAccused yX4_ofAccused, Cond.code yX4_ofAccused cX4_ofAccused 5 (some .int), Cond.fieldLink RX4 178 "Chargehouse$Accused" "state" "I", Cond.fieldLink RX4 190 "Chargehouse$Accused" "charges" "I", Cond.fieldLink RX4 207 "Chargehouse$Accused" "isInCustody" "Z", Cond.fieldLink RX4 313 "Chargehouse$Accused" "daysWhileOpen" "I", Cond.fieldLink RX4 316 "Chargehouse$Accused" "daysWhileCharged" "I", Cond.fieldLink RX4 249 "Chargehouse$Accused" "months" "I", Cond.fieldLink RX4 319 "Chargehouse$Accused" "convictedOf" "I", Cond.methodLink RX4 170 yX4_accusedAt, Cond.instanceMethod yX4_accusedAt, Cond.selects RX4 yX4_accusedAt yX4_accusedAt, Cond.code yX4_accusedAt cX4_accusedAt 5 (some (.object "Chargehouse$Accused")), Cond.classLink RX4 54 "java/lang/IndexOutOfBoundsException", Cond.initialized "java/lang/IndexOutOfBoundsException", Cond.methodLink RX4 108 yX4_fileAt, Cond.instanceMethod yX4_fileAt, Cond.selects RX4 yX4_fileAt yX4_fileAt, Cond.code yX4_fileAt cX4_fileAt 2 (some (.object "Chargehouse$CaseFile"))]
def wsL_isLawful_r3 : List Cond := [Cond.fieldLink RX4 17 "Chargehouse" "fileRows" "[LChargehouse$CaseFile;", Cond.methodLink RX4 325 yX1_rowOf, Cond.instanceMethod yX1_rowOf, Cond.selects RX1 yX1_rowOf yX1_rowOf, Cond.initialized RX1, Cond.code yX1_rowOf cX1_rowOf 2 (some (.object "Chargehouse$Accused")), Cond.fieldLink RX1 11 "Chargehouse$CaseFile" "rows" "[LChargehouse$Accused;", Cond.methodLink RX4 322 yX4_spentOffences, Cond.instanceMethod yX4_spentOffences, Cond.selects RX4 yX4_spentOffences yX4_spentOffences, Cond.code yX4_spentOffences cX4_spentOffences 5 (some .int), Cond.fieldLink RX4 11 "Chargehouse" "offenceRows" "[LChargehouse$Offence;", Cond.fieldLink RX4 70 "Chargehouse" "today" "I", Cond.methodLink RX4 347 yX4_isSpent, Cond.instanceMethod yX4_isSpent, Cond.selects RX4 yX4_isSpent yX4_isSpent, Cond.code yX4_isSpent cX4_isSpent 6 (some .boolean), Cond.methodLink RX4 341 yX3_isAkinTo, Cond.instanceMethod yX3_isAkinTo, Cond.selects RX3 yX3_isAkinTo yX3_isAkinTo, Cond.initialized RX3, Cond.code yX3_isAkinTo cX3_isAkinTo 2 (some .boolean), Cond.fieldLink RX3 7 "Chargehouse$Offence" "elements" "I", Cond.methodLink RX3 28 yX3_nestsIn]
def wsL_isLawful_r4 : List Cond := [Cond.instanceMethod yX3_nestsIn, Cond.selects RX3 yX3_nestsIn yX3_nestsIn, Cond.code yX3_nestsIn cX3_nestsIn 2 (some .boolean), Cond.methodLink RX4 344 yX0_hadAnswered, Cond.instanceMethod yX0_hadAnswered, Cond.selects RX0 yX0_hadAnswered yX0_hadAnswered, Cond.initialized RX0, Cond.code yX0_hadAnswered cX0_hadAnswered 3 (some .boolean), Cond.fieldLink RX0 15 "Chargehouse$Accused" "firstAnsweredOn" "[I", Cond.methodLink RL 105 yX4_day, Cond.instanceMethod yX4_day, Cond.selects RX4 yX4_day yX4_day, Cond.code yX4_day cX4_day 1 (some .int), Cond.methodLink RL 152 yL_isBest, Cond.static yL_isBest, Cond.code yL_isBest cL_isBest 9 (some .boolean), Cond.methodLink RL 140 yL_best, Cond.static yL_best, Cond.codeWith yL_best cL_best 5 (some .int) [(0, 7, 8, 23), (0, 7, 13, 13)], Cond.methodLink RL 83 yX4_best, Cond.instanceMethod yX4_best, Cond.selects RX4 yX4_best yX4_best, Cond.code yX4_best cX4_best 5 (some .int), Cond.methodLink RX4 276 yX4_checkDay]
def wsL_isLawful_r5 : List Cond := [Cond.instanceMethod yX4_checkDay, Cond.selects RX4 yX4_checkDay yX4_checkDay, Cond.code yX4_checkDay cX4_checkDay 2 none, Cond.methodLink RX4 27 yX4_isWithin, Cond.static yX4_isWithin, Cond.code yX4_isWithin cX4_isWithin 3 (some .boolean), Cond.methodLink RX4 181 yX4_chargeable, Cond.instanceMethod yX4_chargeable, Cond.selects RX4 yX4_chargeable yX4_chargeable, Cond.code yX4_chargeable cX4_chargeable 6 (some .int), Cond.methodLink RX4 283 yX4_hindrance, Cond.instanceMethod yX4_hindrance, Cond.selects RX4 yX4_hindrance yX4_hindrance, Cond.code yX4_hindrance cX4_hindrance 4 (some .int), Cond.fieldLink RX4 293 "Chargehouse$Accused" "file" "LChargehouse$CaseFile;", Cond.fieldLink RX4 351 "Chargehouse$CaseFile" "event" "I", Cond.fieldLink RX4 354 "Chargehouse$Offence" "limit" "I", Cond.fieldLink RX4 361 "Chargehouse$Offence" "gravity" "I", Cond.fieldLink RX4 364 "Chargehouse$CaseFile" "points" "I", Cond.methodLink RX4 357 yX4_hasStrength, Cond.instanceMethod yX4_hasStrength, Cond.selects RX4 yX4_hasStrength yX4_hasStrength, Cond.code yX4_hasStrength cX4_hasStrength 6 (some .boolean), Cond.fieldLink RX4 338 "Chargehouse$Offence" "elements" "I"]
def wsL_isLawful_r6 : List Cond := [Cond.methodLink RX4 96 yX4_hasBit, Cond.static yX4_hasBit, Cond.code yX4_hasBit cX4_hasBit 2 (some .boolean), Cond.methodLink RX4 279 yX4_strengthAgainst, Cond.instanceMethod yX4_strengthAgainst, Cond.selects RX4 yX4_strengthAgainst yX4_strengthAgainst, Cond.code yX4_strengthAgainst cX4_strengthAgainst 9 (some .int), Cond.fieldLink RX4 23 "Chargehouse" "itemRows" "[LChargehouse$Item;", Cond.fieldLink RX4 154 "Chargehouse$Item" "file" "I", Cond.fieldLink RX4 105 "Chargehouse$CaseFile" "number" "I", Cond.fieldLink RX4 299 "Chargehouse$Item" "element" "I", Cond.fieldLink RX4 296 "Chargehouse$Accused" "person" "I", Cond.fieldLink RX4 302 "Chargehouse$Item" "weight" "I", Cond.methodLink RX4 143 yX2_isAgainst, Cond.instanceMethod yX2_isAgainst, Cond.selects RX2 yX2_isAgainst yX2_isAgainst, Cond.initialized RX2, Cond.code yX2_isAgainst cX2_isAgainst 2 (some .boolean), Cond.fieldLink RX2 24 "Chargehouse$Item" "against" "I", Cond.methodLink RX4 335 yX2_countsOn, Cond.instanceMethod yX2_countsOn, Cond.selects RX2 yX2_countsOn yX2_countsOn, Cond.code yX2_countsOn cX2_countsOn 3 (some .boolean), Cond.fieldLink RX2 9 "Chargehouse$Item" "admittedOn" "I"]
def wsL_isLawful_r7 : List Cond := [Cond.fieldLink RX2 34 "Chargehouse$Item" "cameOn" "I", Cond.fieldLink RX2 27 "Chargehouse$Item" "how" "I", Cond.methodLink RX4 287 yX4_bestByGrowing, Cond.instanceMethod yX4_bestByGrowing, Cond.selects RX4 yX4_bestByGrowing yX4_bestByGrowing, Cond.code yX4_bestByGrowing cX4_bestByGrowing 5 (some .int), Cond.methodLink RX4 370 yX4_better, Cond.instanceMethod yX4_better, Cond.selects RX4 yX4_better yX4_better, Cond.code yX4_better cX4_better 5 (some .int), Cond.methodLink RX4 196 yX4_gravityOf, Cond.instanceMethod yX4_gravityOf, Cond.selects RX4 yX4_gravityOf yX4_gravityOf, Cond.code yX4_gravityOf cX4_gravityOf 5 (some .int), Cond.methodLink RX4 227 yJ6_bitCount_0f7a4, Cond.static yJ6_bitCount_0f7a4, Cond.initialized RJ6, Cond.code yJ6_bitCount_0f7a4 cJ6_bitCount_0f7a4 1 (some .int), Cond.constant RJ6 265 (1431655765), Cond.constant RJ6 266 (858993459), Cond.constant RJ6 267 (252645135), Cond.methodLink RX4 367 yX4_matesOf, Cond.instanceMethod yX4_matesOf, Cond.selects RX4 yX4_matesOf yX4_matesOf]
def wsL_isLawful_r8 : List Cond := [Cond.code yX4_matesOf cX4_matesOf 6 (some .int), Cond.methodLink RX4 50 yX4_offenceAt, Cond.instanceMethod yX4_offenceAt, Cond.selects RX4 yX4_offenceAt yX4_offenceAt, Cond.code yX4_offenceAt cX4_offenceAt 2 (some (.object "Chargehouse$Offence")), Cond.methodLink RX4 61 yX3_excludes, Cond.instanceMethod yX3_excludes, Cond.selects RX3 yX3_excludes yX3_excludes, Cond.code yX3_excludes cX3_excludes 2 (some .boolean), Cond.fieldLink RX3 19 "Chargehouse$Offence" "excluded" "I", Cond.methodLink RX4 373 yX4_above, Cond.static yX4_above, Cond.code yX4_above cX4_above 1 (some .int), Cond.methodLink RX4 376 yX4_bestWithMates, Cond.instanceMethod yX4_bestWithMates, Cond.selects RX4 yX4_bestWithMates yX4_bestWithMates, Cond.code yX4_bestWithMates cX4_bestWithMates 7 (some .int), Cond.methodLink RX4 380 yX4_bestWithThird, Cond.instanceMethod yX4_bestWithThird, Cond.selects RX4 yX4_bestWithThird yX4_bestWithThird, Cond.code yX4_bestWithThird cX4_bestWithThird 6 (some .int), Cond.methodLink RL 142 yL_anew, Cond.static yL_anew, Cond.codeWith yL_anew cL_anew 5 (some .int) [(0, 7, 8, 23), (0, 7, 13, 13)]]
def wsL_isLawful_r9 : List Cond := [Cond.methodLink RL 86 yX4_bestAnew, Cond.instanceMethod yX4_bestAnew, Cond.selects RX4 yX4_bestAnew yX4_bestAnew, Cond.code yX4_bestAnew cX4_bestAnew 5 (some .int), Cond.methodLink RX4 290 yX4_bestOfAllSets, Cond.instanceMethod yX4_bestOfAllSets, Cond.selects RX4 yX4_bestOfAllSets yX4_bestOfAllSets, Cond.code yX4_bestOfAllSets cX4_bestOfAllSets 4 (some .int), Cond.methodLink RX4 185 yX4_isRight, Cond.instanceMethod yX4_isRight, Cond.selects RX4 yX4_isRight yX4_isRight, Cond.code yX4_isRight cX4_isRight 5 (some .boolean), Cond.methodLink RL 145 yL_bits, Cond.static yL_bits, Cond.code yL_bits cL_bits 3 (some .int), Cond.methodLink RL 135 yL_whyNot, Cond.static yL_whyNot, Cond.codeWith yL_whyNot cL_whyNot 6 (some .int) [(0, 9, 10, 23), (0, 9, 15, 13)], Cond.methodLink RL 80 yX4_whyNot, Cond.instanceMethod yX4_whyNot, Cond.selects RX4 yX4_whyNot yX4_whyNot, Cond.code yX4_whyNot cX4_whyNot 7 (some .int), Cond.methodLink RL 133 yL_nests, Cond.static yL_nests]
def wsL_isLawful_r10 : List Cond := [Cond.codeWith yL_nests cL_nests 4 (some .int) [(0, 14, 15, 23)], Cond.methodLink RL 73 yX4_nests, Cond.instanceMethod yX4_nests, Cond.selects RX4 yX4_nests yX4_nests, Cond.code yX4_nests cX4_nests 5 (some .boolean), Cond.methodLink RX4 270 yX3_nestsIn, Cond.methodLink RL 156 yL_areNested, Cond.static yL_areNested, Cond.code yL_areNested cL_areNested 8 (some .boolean)]
def wsL_isLawful : List Cond := .code yL_isLawful cL_isLawful 11 (some .boolean) :: ((wsL_isLawful_r1 ++ (wsL_isLawful_r2 ++ (wsL_isLawful_r3 ++ (wsL_isLawful_r4 ++ (wsL_isLawful_r5 ++ (wsL_isLawful_r6 ++ (wsL_isLawful_r7 ++ (wsL_isLawful_r8 ++ (wsL_isLawful_r9 ++ wsL_isLawful_r10))))))))) ++ wsX40 ++ wsX00 ++ wsX10 ++ wsX30 ++ wsX20 ++ (vx_atS RX4 35 "java/lang/IllegalArgumentException" ["java/lang/RuntimeException", "java/lang/Exception"]).filter goodWord ++ (vx_atS RX4 58 "java/lang/IndexOutOfBoundsException" ["java/lang/RuntimeException", "java/lang/Exception"]).filter goodWord)
def wsL_tells_r1 : List Cond := [Cond.constant RL 168 (63000), Cond.methodLink RL 160 yL_offence, Cond.static yL_offence, Cond.initialized RL, Cond.codeWith yL_offence cL_offence 5 (some .int) [(0, 7, 8, 13), (0, 7, 13, 16)], Cond.classLink RL 13 "java/lang/IllegalArgumentException", Cond.constant RL 15 (-2000000002), Cond.constant RL 18 (-2000000003), Cond.methodLink RL 7 yX4_offence, Cond.instanceMethod yX4_offence, Cond.selects RX4 yX4_offence yX4_offence, Cond.initialized RX4, Cond.code yX4_offence cX4_offence 4 (some .int), Cond.classLink RX4 31 "java/lang/IllegalArgumentException", Cond.initialized "java/lang/IllegalArgumentException", Cond.classLink RX4 42 "java/lang/IllegalStateException", Cond.initialized "java/lang/IllegalStateException", Cond.fieldLink RX4 38 "Chargehouse" "offenceCount" "I", Cond.fieldLink RX4 11 "Chargehouse" "offenceRows" "[LChargehouse$Offence;", Cond.classLink RX4 9 RX3, Cond.instantiable RX3 4, Cond.initialized RX3, Cond.methodLink RX4 27 yX4_isWithin, Cond.static yX4_isWithin]
def wsL_tells_r2 : List Cond := [Cond.code yX4_isWithin cX4_isWithin 3 (some .boolean), Cond.methodLink RX4 47 yX3_init, Cond.instanceMethod yX3_init, Cond.code yX3_init cX3_init 4 none, Cond.methodLink RX3 1 objectInit, Cond.instanceMethod objectInit, Cond.code objectInit ⟨#[0xb1]⟩ 1 none, Cond.fieldLink RX3 7 "Chargehouse$Offence" "elements" "I", Cond.fieldLink RX3 13 "Chargehouse$Offence" "gravity" "I", Cond.fieldLink RX3 16 "Chargehouse$Offence" "limit" "I", Cond.methodLink RL 162 yL_isRefused, Cond.static yL_isRefused, Cond.code yL_isRefused cL_isRefused 1 (some .boolean), Cond.constant RL 25 (-2000000001), Cond.methodLink RL 105 yX4_day, Cond.instanceMethod yX4_day, Cond.selects RX4 yX4_day yX4_day, Cond.code yX4_day cX4_day 1 (some .int), Cond.fieldLink RX4 70 "Chargehouse" "today" "I", Cond.methodLink RL 166 yL_file, Cond.static yL_file, Cond.codeWith yL_file cL_file 5 (some .int) [(0, 7, 8, 13), (0, 7, 13, 16)], Cond.methodLink RL 30 yX4_file, Cond.instanceMethod yX4_file]
def wsL_tells_r3 : List Cond := [Cond.selects RX4 yX4_file yX4_file, Cond.code yX4_file cX4_file 6 (some .int), Cond.fieldLink RX4 84 "Chargehouse" "fileCount" "I", Cond.fieldLink RX4 17 "Chargehouse" "fileRows" "[LChargehouse$CaseFile;", Cond.classLink RX4 15 RX1, Cond.instantiable RX1 5, Cond.initialized RX1, Cond.fieldLink RX4 92 "Chargehouse$CaseFile" "rows" "[LChargehouse$Accused;", Cond.classLink RX4 100 RX0, Cond.instantiable RX0 14, Cond.initialized RX0, Cond.fieldLink RX4 105 "Chargehouse$CaseFile" "number" "I", Cond.methodLink RX4 89 yX1_init, Cond.instanceMethod yX1_init, Cond.code yX1_init cX1_init 5 none, Cond.methodLink RX1 3 objectInit, Cond.classLink RX1 9 RX0, Cond.fieldLink RX1 11 "Chargehouse$CaseFile" "rows" "[LChargehouse$Accused;", Cond.fieldLink RX1 17 "Chargehouse$CaseFile" "number" "I", Cond.fieldLink RX1 21 "Chargehouse$CaseFile" "event" "I", Cond.fieldLink RX1 24 "Chargehouse$CaseFile" "accused" "I", Cond.fieldLink RX1 27 "Chargehouse$CaseFile" "points" "I", Cond.methodLink RX4 96 yX4_hasBit, Cond.static yX4_hasBit]
def wsL_tells_r4 : List Cond := [Cond.code yX4_hasBit cX4_hasBit 2 (some .boolean), Cond.methodLink RX4 102 yX0_init, Cond.instanceMethod yX0_init, Cond.code yX0_init cX0_init 4 none, Cond.methodLink RX0 3 objectInit, Cond.fieldLink RX0 9 "Chargehouse$Accused" "state" "I", Cond.arrayClass .int, Cond.fieldLink RX0 15 "Chargehouse$Accused" "firstAnsweredOn" "[I", Cond.fieldLink RX0 19 "Chargehouse$Accused" "file" "LChargehouse$CaseFile;", Cond.fieldLink RX0 23 "Chargehouse$Accused" "person" "I", Cond.methodLink RL 169 yL_item, Cond.static yL_item, Cond.codeWith yL_item cL_item 8 (some .int) [(0, 13, 14, 23), (0, 13, 19, 13), (0, 13, 24, 16)], Cond.classLink RL 23 "java/lang/IndexOutOfBoundsException", Cond.methodLink RL 33 yX4_item, Cond.instanceMethod yX4_item, Cond.selects RX4 yX4_item yX4_item, Cond.code yX4_item cX4_item 8 (some .int), Cond.classLink RX4 54 "java/lang/IndexOutOfBoundsException", Cond.initialized "java/lang/IndexOutOfBoundsException", Cond.fieldLink RX4 119 "Chargehouse" "itemCount" "I", Cond.fieldLink RX4 23 "Chargehouse" "itemRows" "[LChargehouse$Item;", Cond.classLink RX4 21 RX2, Cond.instantiable RX2 10]
def wsL_tells_r5 : List Cond := [Cond.initialized RX2, Cond.methodLink RX4 108 yX4_fileAt, Cond.instanceMethod yX4_fileAt, Cond.selects RX4 yX4_fileAt yX4_fileAt, Cond.code yX4_fileAt cX4_fileAt 2 (some (.object "Chargehouse$CaseFile")), Cond.methodLink RX4 114 yX1_hasAll, Cond.instanceMethod yX1_hasAll, Cond.selects RX1 yX1_hasAll yX1_hasAll, Cond.code yX1_hasAll cX1_hasAll 2 (some .boolean), Cond.methodLink RX4 124 yX2_init, Cond.instanceMethod yX2_init, Cond.code yX2_init cX2_init 8 none, Cond.methodLink RX2 3 objectInit, Cond.fieldLink RX2 9 "Chargehouse$Item" "admittedOn" "I", Cond.fieldLink RX2 15 "Chargehouse$Item" "file" "I", Cond.fieldLink RX2 18 "Chargehouse$Item" "element" "I", Cond.fieldLink RX2 21 "Chargehouse$Item" "weight" "I", Cond.fieldLink RX2 24 "Chargehouse$Item" "against" "I", Cond.fieldLink RX2 27 "Chargehouse$Item" "how" "I", Cond.fieldLink RX2 30 "Chargehouse$Item" "isSensitive" "Z", Cond.fieldLink RX2 34 "Chargehouse$Item" "cameOn" "I"]
def wsL_tells : List Cond := .code yL_tells cL_tells 8 (some .int) :: ((wsL_tells_r1 ++ (wsL_tells_r2 ++ (wsL_tells_r3 ++ (wsL_tells_r4 ++ wsL_tells_r5)))) ++ wsX40 ++ wsX30 ++ wsX10 ++ wsX00 ++ wsX20 ++ (vx_atS RX4 35 "java/lang/IllegalArgumentException" ["java/lang/RuntimeException", "java/lang/Exception"]).filter goodWord ++ (vx_atS RX4 46 "java/lang/IllegalStateException" ["java/lang/RuntimeException", "java/lang/Exception"]).filter goodWord ++ (vx_atS RX4 58 "java/lang/IndexOutOfBoundsException" ["java/lang/RuntimeException", "java/lang/Exception"]).filter goodWord)
def wsL_decides_r1 : List Cond := [Cond.methodLink RL 105 yX4_day, Cond.instanceMethod yX4_day, Cond.selects RX4 yX4_day yX4_day, Cond.initialized RX4, Cond.code yX4_day cX4_day 1 (some .int), Cond.fieldLink RX4 70 "Chargehouse" "today" "I", Cond.methodLink RL 140 yL_best, Cond.static yL_best, Cond.initialized RL, Cond.codeWith yL_best cL_best 5 (some .int) [(0, 7, 8, 23), (0, 7, 13, 13)], Cond.classLink RL 23 "java/lang/IndexOutOfBoundsException", Cond.constant RL 25 (-2000000001), Cond.constant RL 15 (-2000000002), Cond.methodLink RL 83 yX4_best, Cond.instanceMethod yX4_best, Cond.selects RX4 yX4_best yX4_best, Cond.code yX4_best cX4_best 5 (some .int), Cond.methodLink RX4 170 yX4_accusedAt, Cond.instanceMethod yX4_accusedAt, Cond.selects RX4 yX4_accusedAt yX4_accusedAt, Cond.code yX4_accusedAt cX4_accusedAt 5 (some (.object "Chargehouse$Accused")), Cond.classLink RX4 54 "java/lang/IndexOutOfBoundsException", Cond.initialized "java/lang/IndexOutOfBoundsException", Cond.methodLink RX4 108 yX4_fileAt]
def wsL_decides_r2 : List Cond := [Cond.instanceMethod yX4_fileAt, Cond.selects RX4 yX4_fileAt yX4_fileAt, Cond.code yX4_fileAt cX4_fileAt 2 (some (.object "Chargehouse$CaseFile")), Cond.fieldLink RX4 17 "Chargehouse" "fileRows" "[LChargehouse$CaseFile;", Cond.methodLink RX4 325 yX1_rowOf, Cond.instanceMethod yX1_rowOf, Cond.selects RX1 yX1_rowOf yX1_rowOf, Cond.initialized RX1, Cond.code yX1_rowOf cX1_rowOf 2 (some (.object "Chargehouse$Accused")), Cond.fieldLink RX1 11 "Chargehouse$CaseFile" "rows" "[LChargehouse$Accused;", Cond.methodLink RX4 276 yX4_checkDay, Cond.instanceMethod yX4_checkDay, Cond.selects RX4 yX4_checkDay yX4_checkDay, Cond.code yX4_checkDay cX4_checkDay 2 none, Cond.classLink RX4 31 "java/lang/IllegalArgumentException", Cond.initialized "java/lang/IllegalArgumentException", Cond.methodLink RX4 27 yX4_isWithin, Cond.static yX4_isWithin, Cond.code yX4_isWithin cX4_isWithin 3 (some .boolean), Cond.methodLink RX4 181 yX4_chargeable, Cond.instanceMethod yX4_chargeable, Cond.selects RX4 yX4_chargeable yX4_chargeable, Cond.code yX4_chargeable cX4_chargeable 6 (some .int), Cond.fieldLink RX4 11 "Chargehouse" "offenceRows" "[LChargehouse$Offence;"]
def wsL_decides_r3 : List Cond := [Cond.methodLink RX4 283 yX4_hindrance, Cond.instanceMethod yX4_hindrance, Cond.selects RX4 yX4_hindrance yX4_hindrance, Cond.code yX4_hindrance cX4_hindrance 4 (some .int), Cond.fieldLink RX4 293 "Chargehouse$Accused" "file" "LChargehouse$CaseFile;", Cond.fieldLink RX4 351 "Chargehouse$CaseFile" "event" "I", Cond.fieldLink RX4 354 "Chargehouse$Offence" "limit" "I", Cond.fieldLink RX4 361 "Chargehouse$Offence" "gravity" "I", Cond.fieldLink RX4 364 "Chargehouse$CaseFile" "points" "I", Cond.methodLink RX4 347 yX4_isSpent, Cond.instanceMethod yX4_isSpent, Cond.selects RX4 yX4_isSpent yX4_isSpent, Cond.code yX4_isSpent cX4_isSpent 6 (some .boolean), Cond.methodLink RX4 341 yX3_isAkinTo, Cond.instanceMethod yX3_isAkinTo, Cond.selects RX3 yX3_isAkinTo yX3_isAkinTo, Cond.initialized RX3, Cond.code yX3_isAkinTo cX3_isAkinTo 2 (some .boolean), Cond.fieldLink RX3 7 "Chargehouse$Offence" "elements" "I", Cond.methodLink RX3 28 yX3_nestsIn, Cond.instanceMethod yX3_nestsIn, Cond.selects RX3 yX3_nestsIn yX3_nestsIn, Cond.code yX3_nestsIn cX3_nestsIn 2 (some .boolean), Cond.methodLink RX4 344 yX0_hadAnswered]
def wsL_decides_r4 : List Cond := [Cond.instanceMethod yX0_hadAnswered, Cond.selects RX0 yX0_hadAnswered yX0_hadAnswered, Cond.initialized RX0, Cond.code yX0_hadAnswered cX0_hadAnswered 3 (some .boolean), Cond.fieldLink RX0 15 "Chargehouse$Accused" "firstAnsweredOn" "[I", Cond.methodLink RX4 357 yX4_hasStrength, Cond.instanceMethod yX4_hasStrength, Cond.selects RX4 yX4_hasStrength yX4_hasStrength, Cond.code yX4_hasStrength cX4_hasStrength 6 (some .boolean), Cond.fieldLink RX4 338 "Chargehouse$Offence" "elements" "I", Cond.methodLink RX4 96 yX4_hasBit, Cond.static yX4_hasBit, Cond.code yX4_hasBit cX4_hasBit 2 (some .boolean), Cond.methodLink RX4 279 yX4_strengthAgainst, Cond.instanceMethod yX4_strengthAgainst, Cond.selects RX4 yX4_strengthAgainst yX4_strengthAgainst, Cond.code yX4_strengthAgainst cX4_strengthAgainst 9 (some .int), Cond.fieldLink RX4 23 "Chargehouse" "itemRows" "[LChargehouse$Item;", Cond.fieldLink RX4 154 "Chargehouse$Item" "file" "I", Cond.fieldLink RX4 105 "Chargehouse$CaseFile" "number" "I", Cond.fieldLink RX4 299 "Chargehouse$Item" "element" "I", Cond.fieldLink RX4 296 "Chargehouse$Accused" "person" "I", Cond.fieldLink RX4 302 "Chargehouse$Item" "weight" "I", Cond.methodLink RX4 143 yX2_isAgainst]
def wsL_decides_r5 : List Cond := [Cond.instanceMethod yX2_isAgainst, Cond.selects RX2 yX2_isAgainst yX2_isAgainst, Cond.initialized RX2, Cond.code yX2_isAgainst cX2_isAgainst 2 (some .boolean), Cond.fieldLink RX2 24 "Chargehouse$Item" "against" "I", Cond.methodLink RX4 335 yX2_countsOn, Cond.instanceMethod yX2_countsOn, Cond.selects RX2 yX2_countsOn yX2_countsOn, Cond.code yX2_countsOn cX2_countsOn 3 (some .boolean), Cond.fieldLink RX2 9 "Chargehouse$Item" "admittedOn" "I", Cond.fieldLink RX2 34 "Chargehouse$Item" "cameOn" "I", Cond.fieldLink RX2 27 "Chargehouse$Item" "how" "I", Cond.methodLink RX4 287 yX4_bestByGrowing, Cond.instanceMethod yX4_bestByGrowing, Cond.selects RX4 yX4_bestByGrowing yX4_bestByGrowing, Cond.code yX4_bestByGrowing cX4_bestByGrowing 5 (some .int), Cond.methodLink RX4 370 yX4_better, Cond.instanceMethod yX4_better, Cond.selects RX4 yX4_better yX4_better, Cond.code yX4_better cX4_better 5 (some .int), Cond.methodLink RX4 196 yX4_gravityOf, Cond.instanceMethod yX4_gravityOf, Cond.selects RX4 yX4_gravityOf yX4_gravityOf, Cond.code yX4_gravityOf cX4_gravityOf 5 (some .int)]
def wsL_decides_r6 : List Cond := [Cond.methodLink RX4 227 yJ6_bitCount_0f7a4, Cond.static yJ6_bitCount_0f7a4, Cond.initialized RJ6, Cond.code yJ6_bitCount_0f7a4 cJ6_bitCount_0f7a4 1 (some .int), Cond.constant RJ6 265 (1431655765), Cond.constant RJ6 266 (858993459), Cond.constant RJ6 267 (252645135), Cond.methodLink RX4 367 yX4_matesOf, Cond.instanceMethod yX4_matesOf, Cond.selects RX4 yX4_matesOf yX4_matesOf, Cond.code yX4_matesOf cX4_matesOf 6 (some .int), Cond.methodLink RX4 50 yX4_offenceAt, Cond.instanceMethod yX4_offenceAt, Cond.selects RX4 yX4_offenceAt yX4_offenceAt, Cond.code yX4_offenceAt cX4_offenceAt 2 (some (.object "Chargehouse$Offence")), Cond.methodLink RX4 61 yX3_excludes, Cond.instanceMethod yX3_excludes, Cond.selects RX3 yX3_excludes yX3_excludes, Cond.code yX3_excludes cX3_excludes 2 (some .boolean), Cond.fieldLink RX3 19 "Chargehouse$Offence" "excluded" "I", Cond.methodLink RX4 373 yX4_above, Cond.static yX4_above, Cond.code yX4_above cX4_above 1 (some .int), Cond.methodLink RX4 376 yX4_bestWithMates]
def wsL_decides_r7 : List Cond := [Cond.instanceMethod yX4_bestWithMates, Cond.selects RX4 yX4_bestWithMates yX4_bestWithMates, Cond.code yX4_bestWithMates cX4_bestWithMates 7 (some .int), Cond.methodLink RX4 380 yX4_bestWithThird, Cond.instanceMethod yX4_bestWithThird, Cond.selects RX4 yX4_bestWithThird yX4_bestWithThird, Cond.code yX4_bestWithThird cX4_bestWithThird 6 (some .int), Cond.methodLink RL 162 yL_isRefused, Cond.static yL_isRefused, Cond.code yL_isRefused cL_isRefused 1 (some .boolean), Cond.constant RL 18 (-2000000003), Cond.methodLink RL 116 yL_of, Cond.static yL_of, Cond.codeWith yL_of cL_of 5 (some .int) [(0, 7, 8, 23), (0, 7, 13, 13)], Cond.methodLink RL 95 yX4_ofAccused, Cond.instanceMethod yX4_ofAccused, Cond.selects RX4 yX4_ofAccused yX4_ofAccused, Cond.code yX4_ofAccused cX4_ofAccused 5 (some .int), Cond.fieldLink RX4 178 "Chargehouse$Accused" "state" "I", Cond.fieldLink RX4 190 "Chargehouse$Accused" "charges" "I", Cond.fieldLink RX4 207 "Chargehouse$Accused" "isInCustody" "Z", Cond.fieldLink RX4 313 "Chargehouse$Accused" "daysWhileOpen" "I", Cond.fieldLink RX4 316 "Chargehouse$Accused" "daysWhileCharged" "I", Cond.fieldLink RX4 249 "Chargehouse$Accused" "months" "I"]
def wsL_decides_r8 : List Cond := [Cond.fieldLink RX4 319 "Chargehouse$Accused" "convictedOf" "I", Cond.methodLink RX4 322 yX4_spentOffences, Cond.instanceMethod yX4_spentOffences, Cond.selects RX4 yX4_spentOffences yX4_spentOffences, Cond.code yX4_spentOffences cX4_spentOffences 5 (some .int), Cond.methodLink RL 172 yL_charge, Cond.static yL_charge, Cond.codeWith yL_charge cL_charge 5 (some .int) [(0, 7, 8, 23), (0, 7, 13, 13), (0, 7, 18, 16)], Cond.methodLink RL 48 yX4_charge, Cond.instanceMethod yX4_charge, Cond.selects RX4 yX4_charge yX4_charge, Cond.code yX4_charge cX4_charge 5 (some .int), Cond.classLink RX4 42 "java/lang/IllegalStateException", Cond.initialized "java/lang/IllegalStateException", Cond.fieldLink RX4 193 "Chargehouse$Accused" "chargedOn" "I", Cond.methodLink RX4 174 yX4_checkToldOffences, Cond.instanceMethod yX4_checkToldOffences, Cond.selects RX4 yX4_checkToldOffences yX4_checkToldOffences, Cond.code yX4_checkToldOffences cX4_checkToldOffences 3 none, Cond.fieldLink RX4 38 "Chargehouse" "offenceCount" "I", Cond.methodLink RX4 185 yX4_isRight, Cond.instanceMethod yX4_isRight, Cond.selects RX4 yX4_isRight yX4_isRight, Cond.code yX4_isRight cX4_isRight 5 (some .boolean)]
def wsL_decides_r9 : List Cond := [Cond.methodLink RL 135 yL_whyNot, Cond.static yL_whyNot, Cond.codeWith yL_whyNot cL_whyNot 6 (some .int) [(0, 9, 10, 23), (0, 9, 15, 13)], Cond.methodLink RL 80 yX4_whyNot, Cond.instanceMethod yX4_whyNot, Cond.selects RX4 yX4_whyNot yX4_whyNot, Cond.code yX4_whyNot cX4_whyNot 7 (some .int), Cond.methodLink RL 174 yL_lacks, Cond.static yL_lacks, Cond.codeWith yL_lacks cL_lacks 4 (some .int) [(0, 6, 7, 23)], Cond.methodLink RL 89 yX4_lacks, Cond.instanceMethod yX4_lacks, Cond.selects RX4 yX4_lacks yX4_lacks, Cond.code yX4_lacks cX4_lacks 4 (some .int), Cond.methodLink RX4 157 yX4_lackedBy, Cond.instanceMethod yX4_lackedBy, Cond.selects RX4 yX4_lackedBy yX4_lackedBy, Cond.code yX4_lackedBy cX4_lackedBy 8 (some .int), Cond.methodLink RX4 383 yX2_isLackedBy, Cond.instanceMethod yX2_isLackedBy, Cond.selects RX2 yX2_isLackedBy yX2_isLackedBy, Cond.code yX2_isLackedBy cX2_isLackedBy 2 (some .boolean), Cond.fieldLink RX2 21 "Chargehouse$Item" "weight" "I", Cond.fieldLink RX2 51 "Chargehouse$Item" "isWithheld" "Z"]
def wsL_decides_r10 : List Cond := [Cond.methodLink RX2 44 yX2_isAgainst, Cond.methodLink RX2 48 yX2_wasShownTo, Cond.instanceMethod yX2_wasShownTo, Cond.selects RX2 yX2_wasShownTo yX2_wasShownTo, Cond.code yX2_wasShownTo cX2_wasShownTo 2 (some .boolean), Cond.fieldLink RX2 41 "Chargehouse$Item" "shownTo" "I", Cond.methodLink RL 111 yL_count, Cond.static yL_count, Cond.codeWith yL_count cL_count 3 (some .int) [(0, 5, 6, 13)], Cond.classLink RL 13 "java/lang/IllegalArgumentException", Cond.methodLink RL 98 yX4_count, Cond.instanceMethod yX4_count, Cond.selects RX4 yX4_count yX4_count, Cond.code yX4_count cX4_count 2 (some .int), Cond.fieldLink RX4 224 "Chargehouse" "convictions" "I", Cond.fieldLink RX4 232 "Chargehouse" "acquittals" "I", Cond.fieldLink RX4 246 "Chargehouse" "pleas" "I", Cond.fieldLink RX4 210 "Chargehouse" "drops" "I", Cond.fieldLink RX4 215 "Chargehouse" "reopened" "I", Cond.fieldLink RX4 75 "Chargehouse" "clockReleases" "I", Cond.methodLink RL 176 yL_trial, Cond.static yL_trial, Cond.codeWith yL_trial cL_trial 4 (some .int) [(0, 6, 7, 23), (0, 6, 11, 16)], Cond.methodLink RL 58 yX4_trial]
def wsL_decides_r11 : List Cond := [Cond.instanceMethod yX4_trial, Cond.selects RX4 yX4_trial yX4_trial, Cond.code yX4_trial cX4_trial 5 (some .int), Cond.methodLink RX4 220 yX4_provenCharges, Cond.instanceMethod yX4_provenCharges, Cond.selects RX4 yX4_provenCharges yX4_provenCharges, Cond.code yX4_provenCharges cX4_provenCharges 5 (some .int), Cond.methodLink RX4 235 yX0_answerCharges, Cond.instanceMethod yX0_answerCharges, Cond.selects RX0 yX0_answerCharges yX0_answerCharges, Cond.code yX0_answerCharges cX0_answerCharges 4 none, Cond.fieldLink RX0 56 "Chargehouse$Accused" "charges" "I", Cond.fieldLink RX0 59 "Chargehouse$Accused" "convictedOf" "I", Cond.fieldLink RX0 33 "Chargehouse$Accused" "daysWhileCharged" "I", Cond.fieldLink RX0 52 "Chargehouse$Accused" "isInCustody" "Z", Cond.fieldLink RX0 9 "Chargehouse$Accused" "state" "I", Cond.methodLink RL 145 yL_bits, Cond.static yL_bits, Cond.code yL_bits cL_bits 3 (some .int), Cond.methodLink RL 178 yL_plea, Cond.static yL_plea, Cond.codeWith yL_plea cL_plea 5 (some .int) [(0, 7, 8, 23), (0, 7, 13, 13), (0, 7, 18, 16)], Cond.methodLink RL 61 yX4_plea, Cond.instanceMethod yX4_plea]
def wsL_decides_r12 : List Cond := [Cond.selects RX4 yX4_plea yX4_plea, Cond.code yX4_plea cX4_plea 7 (some .int), Cond.methodLink RX4 243 yX4_discountAfter, Cond.static yX4_discountAfter, Cond.code yX4_discountAfter cX4_discountAfter 1 (some .int)]
def wsL_decides : List Cond := .code yL_decides cL_decides 11 (some .int) :: ((wsL_decides_r1 ++ (wsL_decides_r2 ++ (wsL_decides_r3 ++ (wsL_decides_r4 ++ (wsL_decides_r5 ++ (wsL_decides_r6 ++ (wsL_decides_r7 ++ (wsL_decides_r8 ++ (wsL_decides_r9 ++ (wsL_decides_r10 ++ (wsL_decides_r11 ++ wsL_decides_r12))))))))))) ++ wsX40 ++ wsX10 ++ wsX00 ++ wsX30 ++ wsX20 ++ (vx_atS RX4 58 "java/lang/IndexOutOfBoundsException" ["java/lang/RuntimeException", "java/lang/Exception"]).filter goodWord ++ (vx_atS RX4 35 "java/lang/IllegalArgumentException" ["java/lang/RuntimeException", "java/lang/Exception"]).filter goodWord ++ (vx_atS RX4 46 "java/lang/IllegalStateException" ["java/lang/RuntimeException", "java/lang/Exception"]).filter goodWord)
def wsL_does_r1 : List Cond := [Cond.methodLink RL 180 yL_tells, Cond.static yL_tells, Cond.initialized RL, Cond.code yL_tells cL_tells 8 (some .int), Cond.constant RL 168 (63000), Cond.methodLink RL 160 yL_offence, Cond.static yL_offence, Cond.codeWith yL_offence cL_offence 5 (some .int) [(0, 7, 8, 13), (0, 7, 13, 16)], Cond.classLink RL 13 "java/lang/IllegalArgumentException", Cond.constant RL 15 (-2000000002), Cond.constant RL 18 (-2000000003), Cond.methodLink RL 7 yX4_offence, Cond.instanceMethod yX4_offence, Cond.selects RX4 yX4_offence yX4_offence, Cond.initialized RX4, Cond.code yX4_offence cX4_offence 4 (some .int), Cond.classLink RX4 31 "java/lang/IllegalArgumentException", Cond.initialized "java/lang/IllegalArgumentException", Cond.classLink RX4 42 "java/lang/IllegalStateException", Cond.initialized "java/lang/IllegalStateException", Cond.fieldLink RX4 38 "Chargehouse" "offenceCount" "I", Cond.fieldLink RX4 11 "Chargehouse" "offenceRows" "[LChargehouse$Offence;", Cond.classLink RX4 9 RX3, Cond.instantiable RX3 4]
def wsL_does_r2 : List Cond := [Cond.initialized RX3, Cond.methodLink RX4 27 yX4_isWithin, Cond.static yX4_isWithin, Cond.code yX4_isWithin cX4_isWithin 3 (some .boolean), Cond.methodLink RX4 47 yX3_init, Cond.instanceMethod yX3_init, Cond.code yX3_init cX3_init 4 none, Cond.methodLink RX3 1 objectInit, Cond.instanceMethod objectInit, Cond.code objectInit ⟨#[0xb1]⟩ 1 none, Cond.fieldLink RX3 7 "Chargehouse$Offence" "elements" "I", Cond.fieldLink RX3 13 "Chargehouse$Offence" "gravity" "I", Cond.fieldLink RX3 16 "Chargehouse$Offence" "limit" "I", Cond.methodLink RL 162 yL_isRefused, Cond.static yL_isRefused, Cond.code yL_isRefused cL_isRefused 1 (some .boolean), Cond.constant RL 25 (-2000000001), Cond.methodLink RL 105 yX4_day, Cond.instanceMethod yX4_day, Cond.selects RX4 yX4_day yX4_day, Cond.code yX4_day cX4_day 1 (some .int), Cond.fieldLink RX4 70 "Chargehouse" "today" "I", Cond.methodLink RL 166 yL_file, Cond.static yL_file]
def wsL_does_r3 : List Cond := [Cond.codeWith yL_file cL_file 5 (some .int) [(0, 7, 8, 13), (0, 7, 13, 16)], Cond.methodLink RL 30 yX4_file, Cond.instanceMethod yX4_file, Cond.selects RX4 yX4_file yX4_file, Cond.code yX4_file cX4_file 6 (some .int), Cond.fieldLink RX4 84 "Chargehouse" "fileCount" "I", Cond.fieldLink RX4 17 "Chargehouse" "fileRows" "[LChargehouse$CaseFile;", Cond.classLink RX4 15 RX1, Cond.instantiable RX1 5, Cond.initialized RX1, Cond.fieldLink RX4 92 "Chargehouse$CaseFile" "rows" "[LChargehouse$Accused;", Cond.classLink RX4 100 RX0, Cond.instantiable RX0 14, Cond.initialized RX0, Cond.fieldLink RX4 105 "Chargehouse$CaseFile" "number" "I", Cond.methodLink RX4 89 yX1_init, Cond.instanceMethod yX1_init, Cond.code yX1_init cX1_init 5 none, Cond.methodLink RX1 3 objectInit, Cond.classLink RX1 9 RX0, Cond.fieldLink RX1 11 "Chargehouse$CaseFile" "rows" "[LChargehouse$Accused;", Cond.fieldLink RX1 17 "Chargehouse$CaseFile" "number" "I", Cond.fieldLink RX1 21 "Chargehouse$CaseFile" "event" "I", Cond.fieldLink RX1 24 "Chargehouse$CaseFile" "accused" "I"]
def wsL_does_r4 : List Cond := [Cond.fieldLink RX1 27 "Chargehouse$CaseFile" "points" "I", Cond.methodLink RX4 96 yX4_hasBit, Cond.static yX4_hasBit, Cond.code yX4_hasBit cX4_hasBit 2 (some .boolean), Cond.methodLink RX4 102 yX0_init, Cond.instanceMethod yX0_init, Cond.code yX0_init cX0_init 4 none, Cond.methodLink RX0 3 objectInit, Cond.fieldLink RX0 9 "Chargehouse$Accused" "state" "I", Cond.arrayClass .int, Cond.fieldLink RX0 15 "Chargehouse$Accused" "firstAnsweredOn" "[I", Cond.fieldLink RX0 19 "Chargehouse$Accused" "file" "LChargehouse$CaseFile;", Cond.fieldLink RX0 23 "Chargehouse$Accused" "person" "I", Cond.methodLink RL 169 yL_item, Cond.static yL_item, Cond.codeWith yL_item cL_item 8 (some .int) [(0, 13, 14, 23), (0, 13, 19, 13), (0, 13, 24, 16)], Cond.classLink RL 23 "java/lang/IndexOutOfBoundsException", Cond.methodLink RL 33 yX4_item, Cond.instanceMethod yX4_item, Cond.selects RX4 yX4_item yX4_item, Cond.code yX4_item cX4_item 8 (some .int), Cond.classLink RX4 54 "java/lang/IndexOutOfBoundsException", Cond.initialized "java/lang/IndexOutOfBoundsException", Cond.fieldLink RX4 119 "Chargehouse" "itemCount" "I"]
def wsL_does_r5 : List Cond := [Cond.fieldLink RX4 23 "Chargehouse" "itemRows" "[LChargehouse$Item;", Cond.classLink RX4 21 RX2, Cond.instantiable RX2 10, Cond.initialized RX2, Cond.methodLink RX4 108 yX4_fileAt, Cond.instanceMethod yX4_fileAt, Cond.selects RX4 yX4_fileAt yX4_fileAt, Cond.code yX4_fileAt cX4_fileAt 2 (some (.object "Chargehouse$CaseFile")), Cond.methodLink RX4 114 yX1_hasAll, Cond.instanceMethod yX1_hasAll, Cond.selects RX1 yX1_hasAll yX1_hasAll, Cond.code yX1_hasAll cX1_hasAll 2 (some .boolean), Cond.methodLink RX4 124 yX2_init, Cond.instanceMethod yX2_init, Cond.code yX2_init cX2_init 8 none, Cond.methodLink RX2 3 objectInit, Cond.fieldLink RX2 9 "Chargehouse$Item" "admittedOn" "I", Cond.fieldLink RX2 15 "Chargehouse$Item" "file" "I", Cond.fieldLink RX2 18 "Chargehouse$Item" "element" "I", Cond.fieldLink RX2 21 "Chargehouse$Item" "weight" "I", Cond.fieldLink RX2 24 "Chargehouse$Item" "against" "I", Cond.fieldLink RX2 27 "Chargehouse$Item" "how" "I", Cond.fieldLink RX2 30 "Chargehouse$Item" "isSensitive" "Z", Cond.fieldLink RX2 34 "Chargehouse$Item" "cameOn" "I"]
def wsL_does_r6 : List Cond := [Cond.methodLink RL 184 yL_exclude, Cond.static yL_exclude, Cond.codeWith yL_exclude cL_exclude 4 (some .int) [(0, 14, 15, 23), (0, 14, 19, 13)], Cond.methodLink RL 19 yX4_exclude, Cond.instanceMethod yX4_exclude, Cond.selects RX4 yX4_exclude yX4_exclude, Cond.code yX4_exclude cX4_exclude 6 (some .boolean), Cond.fieldLink RX4 65 "Chargehouse$Offence" "excluded" "I", Cond.methodLink RX4 50 yX4_offenceAt, Cond.instanceMethod yX4_offenceAt, Cond.selects RX4 yX4_offenceAt yX4_offenceAt, Cond.code yX4_offenceAt cX4_offenceAt 2 (some (.object "Chargehouse$Offence")), Cond.methodLink RX4 61 yX3_excludes, Cond.instanceMethod yX3_excludes, Cond.selects RX3 yX3_excludes yX3_excludes, Cond.code yX3_excludes cX3_excludes 2 (some .boolean), Cond.fieldLink RX3 19 "Chargehouse$Offence" "excluded" "I", Cond.methodLink RL 186 yL_admit, Cond.static yL_admit, Cond.codeWith yL_admit cL_admit 3 (some .int) [(0, 6, 7, 23), (0, 6, 11, 16)], Cond.methodLink RL 37 yX4_admit, Cond.instanceMethod yX4_admit, Cond.selects RX4 yX4_admit yX4_admit, Cond.code yX4_admit cX4_admit 3 none]
def wsL_does_r7 : List Cond := [Cond.fieldLink RX4 133 "Chargehouse$Item" "how" "I", Cond.fieldLink RX4 136 "Chargehouse$Item" "admittedOn" "I", Cond.methodLink RX4 127 yX4_itemAt, Cond.instanceMethod yX4_itemAt, Cond.selects RX4 yX4_itemAt yX4_itemAt, Cond.code yX4_itemAt cX4_itemAt 2 (some (.object "Chargehouse$Item")), Cond.methodLink RL 188 yL_show, Cond.static yL_show, Cond.codeWith yL_show cL_show 4 (some .int) [(0, 6, 7, 23), (0, 6, 11, 16)], Cond.methodLink RL 41 yX4_show, Cond.instanceMethod yX4_show, Cond.selects RX4 yX4_show yX4_show, Cond.code yX4_show cX4_show 4 (some .int), Cond.fieldLink RX4 151 "Chargehouse$Item" "shownTo" "I", Cond.fieldLink RX4 154 "Chargehouse$Item" "file" "I", Cond.methodLink RX4 143 yX2_isAgainst, Cond.instanceMethod yX2_isAgainst, Cond.selects RX2 yX2_isAgainst yX2_isAgainst, Cond.code yX2_isAgainst cX2_isAgainst 2 (some .boolean), Cond.methodLink RX4 146 yX2_wasShownTo, Cond.instanceMethod yX2_wasShownTo, Cond.selects RX2 yX2_wasShownTo yX2_wasShownTo, Cond.code yX2_wasShownTo cX2_wasShownTo 2 (some .boolean), Cond.fieldLink RX2 41 "Chargehouse$Item" "shownTo" "I"]
def wsL_does_r8 : List Cond := [Cond.methodLink RX4 157 yX4_lackedBy, Cond.instanceMethod yX4_lackedBy, Cond.selects RX4 yX4_lackedBy yX4_lackedBy, Cond.code yX4_lackedBy cX4_lackedBy 8 (some .int), Cond.methodLink RX4 383 yX2_isLackedBy, Cond.instanceMethod yX2_isLackedBy, Cond.selects RX2 yX2_isLackedBy yX2_isLackedBy, Cond.code yX2_isLackedBy cX2_isLackedBy 2 (some .boolean), Cond.fieldLink RX2 51 "Chargehouse$Item" "isWithheld" "Z", Cond.methodLink RX2 44 yX2_isAgainst, Cond.methodLink RX2 48 yX2_wasShownTo, Cond.methodLink RL 190 yL_withhold, Cond.static yL_withhold, Cond.codeWith yL_withhold cL_withhold 3 (some .int) [(0, 6, 7, 23), (0, 6, 11, 16)], Cond.methodLink RL 45 yX4_withhold, Cond.instanceMethod yX4_withhold, Cond.selects RX4 yX4_withhold yX4_withhold, Cond.code yX4_withhold cX4_withhold 3 none, Cond.fieldLink RX4 161 "Chargehouse$Item" "isSensitive" "Z", Cond.fieldLink RX4 165 "Chargehouse$Item" "isWithheld" "Z", Cond.methodLink RL 192 yL_arrest, Cond.static yL_arrest, Cond.codeWith yL_arrest cL_arrest 4 (some .int) [(0, 6, 7, 23), (0, 6, 11, 16)], Cond.methodLink RL 64 yX4_arrest]
def wsL_does_r9 : List Cond := [Cond.instanceMethod yX4_arrest, Cond.selects RX4 yX4_arrest yX4_arrest, Cond.code yX4_arrest cX4_arrest 5 (some .int), Cond.fieldLink RX4 178 "Chargehouse$Accused" "state" "I", Cond.fieldLink RX4 207 "Chargehouse$Accused" "isInCustody" "Z", Cond.methodLink RX4 170 yX4_accusedAt, Cond.instanceMethod yX4_accusedAt, Cond.selects RX4 yX4_accusedAt yX4_accusedAt, Cond.code yX4_accusedAt cX4_accusedAt 5 (some (.object "Chargehouse$Accused")), Cond.methodLink RX4 325 yX1_rowOf, Cond.instanceMethod yX1_rowOf, Cond.selects RX1 yX1_rowOf yX1_rowOf, Cond.code yX1_rowOf cX1_rowOf 2 (some (.object "Chargehouse$Accused")), Cond.methodLink RX4 252 yX0_daysLeft, Cond.instanceMethod yX0_daysLeft, Cond.selects RX0 yX0_daysLeft yX0_daysLeft, Cond.code yX0_daysLeft cX0_daysLeft 1 (some .int), Cond.fieldLink RX0 33 "Chargehouse$Accused" "daysWhileCharged" "I", Cond.fieldLink RX0 40 "Chargehouse$Accused" "daysWhileOpen" "I", Cond.methodLink RX0 36 yX0_ceilingWhileOpen, Cond.instanceMethod yX0_ceilingWhileOpen, Cond.selects RX0 yX0_ceilingWhileOpen yX0_ceilingWhileOpen, Cond.code yX0_ceilingWhileOpen cX0_ceilingWhileOpen 1 (some .int), Cond.fieldLink RX0 26 "Chargehouse$Accused" "extendedBy" "I"]
def wsL_does_r10 : List Cond := [Cond.methodLink RL 194 yL_extend, Cond.static yL_extend, Cond.codeWith yL_extend cL_extend 5 (some .int) [(0, 7, 8, 23), (0, 7, 13, 13), (0, 7, 18, 16)], Cond.methodLink RL 67 yX4_extend, Cond.instanceMethod yX4_extend, Cond.selects RX4 yX4_extend yX4_extend, Cond.code yX4_extend cX4_extend 5 (some .int), Cond.fieldLink RX4 260 "Chargehouse$Accused" "extendedBy" "I", Cond.methodLink RX4 265 yX0_ceilingWhileOpen, Cond.methodLink RL 196 yL_release, Cond.static yL_release, Cond.codeWith yL_release cL_release 4 (some .int) [(0, 7, 8, 23), (0, 7, 12, 16)], Cond.methodLink RL 70 yX4_release, Cond.instanceMethod yX4_release, Cond.selects RX4 yX4_release yX4_release, Cond.code yX4_release cX4_release 4 none, Cond.methodLink RL 198 yL_drop, Cond.static yL_drop, Cond.codeWith yL_drop cL_drop 4 (some .int) [(0, 7, 8, 23), (0, 7, 12, 16)], Cond.methodLink RL 51 yX4_drop, Cond.instanceMethod yX4_drop, Cond.selects RX4 yX4_drop yX4_drop, Cond.code yX4_drop cX4_drop 4 none, Cond.fieldLink RX4 201 "Chargehouse$Accused" "droppedOn" "I"]
def wsL_does_r11 : List Cond := [Cond.fieldLink RX4 204 "Chargehouse$Accused" "isReviewed" "Z", Cond.fieldLink RX4 210 "Chargehouse" "drops" "I", Cond.methodLink RL 200 yL_review, Cond.static yL_review, Cond.codeWith yL_review cL_review 4 (some .int) [(0, 14, 15, 23), (0, 14, 19, 16)], Cond.methodLink RL 55 yX4_review, Cond.instanceMethod yX4_review, Cond.selects RX4 yX4_review yX4_review, Cond.code yX4_review cX4_review 4 (some .boolean), Cond.fieldLink RX4 215 "Chargehouse" "reopened" "I", Cond.methodLink RX4 181 yX4_chargeable, Cond.instanceMethod yX4_chargeable, Cond.selects RX4 yX4_chargeable yX4_chargeable, Cond.code yX4_chargeable cX4_chargeable 6 (some .int), Cond.methodLink RX4 283 yX4_hindrance, Cond.instanceMethod yX4_hindrance, Cond.selects RX4 yX4_hindrance yX4_hindrance, Cond.code yX4_hindrance cX4_hindrance 4 (some .int), Cond.fieldLink RX4 293 "Chargehouse$Accused" "file" "LChargehouse$CaseFile;", Cond.fieldLink RX4 351 "Chargehouse$CaseFile" "event" "I", Cond.fieldLink RX4 354 "Chargehouse$Offence" "limit" "I", Cond.fieldLink RX4 361 "Chargehouse$Offence" "gravity" "I", Cond.fieldLink RX4 364 "Chargehouse$CaseFile" "points" "I", Cond.methodLink RX4 347 yX4_isSpent]
def wsL_does_r12 : List Cond := [Cond.instanceMethod yX4_isSpent, Cond.selects RX4 yX4_isSpent yX4_isSpent, Cond.code yX4_isSpent cX4_isSpent 6 (some .boolean), Cond.methodLink RX4 341 yX3_isAkinTo, Cond.instanceMethod yX3_isAkinTo, Cond.selects RX3 yX3_isAkinTo yX3_isAkinTo, Cond.code yX3_isAkinTo cX3_isAkinTo 2 (some .boolean), Cond.methodLink RX3 28 yX3_nestsIn, Cond.instanceMethod yX3_nestsIn, Cond.selects RX3 yX3_nestsIn yX3_nestsIn, Cond.code yX3_nestsIn cX3_nestsIn 2 (some .boolean), Cond.methodLink RX4 344 yX0_hadAnswered, Cond.instanceMethod yX0_hadAnswered, Cond.selects RX0 yX0_hadAnswered yX0_hadAnswered, Cond.code yX0_hadAnswered cX0_hadAnswered 3 (some .boolean), Cond.methodLink RX4 357 yX4_hasStrength, Cond.instanceMethod yX4_hasStrength, Cond.selects RX4 yX4_hasStrength yX4_hasStrength, Cond.code yX4_hasStrength cX4_hasStrength 6 (some .boolean), Cond.fieldLink RX4 338 "Chargehouse$Offence" "elements" "I", Cond.methodLink RX4 279 yX4_strengthAgainst, Cond.instanceMethod yX4_strengthAgainst, Cond.selects RX4 yX4_strengthAgainst yX4_strengthAgainst, Cond.code yX4_strengthAgainst cX4_strengthAgainst 9 (some .int)]
def wsL_does_r13 : List Cond := [Cond.fieldLink RX4 299 "Chargehouse$Item" "element" "I", Cond.fieldLink RX4 296 "Chargehouse$Accused" "person" "I", Cond.fieldLink RX4 302 "Chargehouse$Item" "weight" "I", Cond.methodLink RX4 335 yX2_countsOn, Cond.instanceMethod yX2_countsOn, Cond.selects RX2 yX2_countsOn yX2_countsOn, Cond.code yX2_countsOn cX2_countsOn 3 (some .boolean), Cond.methodLink RL 202 yL_decides, Cond.static yL_decides, Cond.code yL_decides cL_decides 11 (some .int), Cond.methodLink RL 140 yL_best, Cond.static yL_best, Cond.codeWith yL_best cL_best 5 (some .int) [(0, 7, 8, 23), (0, 7, 13, 13)], Cond.methodLink RL 83 yX4_best, Cond.instanceMethod yX4_best, Cond.selects RX4 yX4_best yX4_best, Cond.code yX4_best cX4_best 5 (some .int), Cond.methodLink RX4 276 yX4_checkDay, Cond.instanceMethod yX4_checkDay, Cond.selects RX4 yX4_checkDay yX4_checkDay, Cond.code yX4_checkDay cX4_checkDay 2 none, Cond.methodLink RX4 287 yX4_bestByGrowing, Cond.instanceMethod yX4_bestByGrowing, Cond.selects RX4 yX4_bestByGrowing yX4_bestByGrowing]
def wsL_does_r14 : List Cond := [Cond.code yX4_bestByGrowing cX4_bestByGrowing 5 (some .int), Cond.methodLink RX4 370 yX4_better, Cond.instanceMethod yX4_better, Cond.selects RX4 yX4_better yX4_better, Cond.code yX4_better cX4_better 5 (some .int), Cond.methodLink RX4 196 yX4_gravityOf, Cond.instanceMethod yX4_gravityOf, Cond.selects RX4 yX4_gravityOf yX4_gravityOf, Cond.code yX4_gravityOf cX4_gravityOf 5 (some .int), Cond.methodLink RX4 227 yJ6_bitCount_0f7a4, Cond.static yJ6_bitCount_0f7a4, Cond.initialized RJ6, Cond.code yJ6_bitCount_0f7a4 cJ6_bitCount_0f7a4 1 (some .int), Cond.constant RJ6 265 (1431655765), Cond.constant RJ6 266 (858993459), Cond.constant RJ6 267 (252645135), Cond.methodLink RX4 367 yX4_matesOf, Cond.instanceMethod yX4_matesOf, Cond.selects RX4 yX4_matesOf yX4_matesOf, Cond.code yX4_matesOf cX4_matesOf 6 (some .int), Cond.methodLink RX4 373 yX4_above, Cond.static yX4_above, Cond.code yX4_above cX4_above 1 (some .int), Cond.methodLink RX4 376 yX4_bestWithMates]
def wsL_does_r15 : List Cond := [Cond.instanceMethod yX4_bestWithMates, Cond.selects RX4 yX4_bestWithMates yX4_bestWithMates, Cond.code yX4_bestWithMates cX4_bestWithMates 7 (some .int), Cond.methodLink RX4 380 yX4_bestWithThird, Cond.instanceMethod yX4_bestWithThird, Cond.selects RX4 yX4_bestWithThird yX4_bestWithThird, Cond.code yX4_bestWithThird cX4_bestWithThird 6 (some .int), Cond.methodLink RL 116 yL_of, Cond.static yL_of, Cond.codeWith yL_of cL_of 5 (some .int) [(0, 7, 8, 23), (0, 7, 13, 13)], Cond.methodLink RL 95 yX4_ofAccused, Cond.instanceMethod yX4_ofAccused, Cond.selects RX4 yX4_ofAccused yX4_ofAccused, Cond.code yX4_ofAccused cX4_ofAccused 5 (some .int), Cond.fieldLink RX4 190 "Chargehouse$Accused" "charges" "I", Cond.fieldLink RX4 313 "Chargehouse$Accused" "daysWhileOpen" "I", Cond.fieldLink RX4 316 "Chargehouse$Accused" "daysWhileCharged" "I", Cond.fieldLink RX4 249 "Chargehouse$Accused" "months" "I", Cond.fieldLink RX4 319 "Chargehouse$Accused" "convictedOf" "I", Cond.methodLink RX4 322 yX4_spentOffences, Cond.instanceMethod yX4_spentOffences, Cond.selects RX4 yX4_spentOffences yX4_spentOffences, Cond.code yX4_spentOffences cX4_spentOffences 5 (some .int), Cond.methodLink RL 172 yL_charge]
def wsL_does_r16 : List Cond := [Cond.static yL_charge, Cond.codeWith yL_charge cL_charge 5 (some .int) [(0, 7, 8, 23), (0, 7, 13, 13), (0, 7, 18, 16)], Cond.methodLink RL 48 yX4_charge, Cond.instanceMethod yX4_charge, Cond.selects RX4 yX4_charge yX4_charge, Cond.code yX4_charge cX4_charge 5 (some .int), Cond.fieldLink RX4 193 "Chargehouse$Accused" "chargedOn" "I", Cond.methodLink RX4 174 yX4_checkToldOffences, Cond.instanceMethod yX4_checkToldOffences, Cond.selects RX4 yX4_checkToldOffences yX4_checkToldOffences, Cond.code yX4_checkToldOffences cX4_checkToldOffences 3 none, Cond.methodLink RX4 185 yX4_isRight, Cond.instanceMethod yX4_isRight, Cond.selects RX4 yX4_isRight yX4_isRight, Cond.code yX4_isRight cX4_isRight 5 (some .boolean), Cond.methodLink RL 135 yL_whyNot, Cond.static yL_whyNot, Cond.codeWith yL_whyNot cL_whyNot 6 (some .int) [(0, 9, 10, 23), (0, 9, 15, 13)], Cond.methodLink RL 80 yX4_whyNot, Cond.instanceMethod yX4_whyNot, Cond.selects RX4 yX4_whyNot yX4_whyNot, Cond.code yX4_whyNot cX4_whyNot 7 (some .int), Cond.methodLink RL 174 yL_lacks, Cond.static yL_lacks]
def wsL_does_r17 : List Cond := [Cond.codeWith yL_lacks cL_lacks 4 (some .int) [(0, 6, 7, 23)], Cond.methodLink RL 89 yX4_lacks, Cond.instanceMethod yX4_lacks, Cond.selects RX4 yX4_lacks yX4_lacks, Cond.code yX4_lacks cX4_lacks 4 (some .int), Cond.methodLink RL 111 yL_count, Cond.static yL_count, Cond.codeWith yL_count cL_count 3 (some .int) [(0, 5, 6, 13)], Cond.methodLink RL 98 yX4_count, Cond.instanceMethod yX4_count, Cond.selects RX4 yX4_count yX4_count, Cond.code yX4_count cX4_count 2 (some .int), Cond.fieldLink RX4 224 "Chargehouse" "convictions" "I", Cond.fieldLink RX4 232 "Chargehouse" "acquittals" "I", Cond.fieldLink RX4 246 "Chargehouse" "pleas" "I", Cond.fieldLink RX4 75 "Chargehouse" "clockReleases" "I", Cond.methodLink RL 176 yL_trial, Cond.static yL_trial, Cond.codeWith yL_trial cL_trial 4 (some .int) [(0, 6, 7, 23), (0, 6, 11, 16)], Cond.methodLink RL 58 yX4_trial, Cond.instanceMethod yX4_trial, Cond.selects RX4 yX4_trial yX4_trial, Cond.code yX4_trial cX4_trial 5 (some .int), Cond.methodLink RX4 220 yX4_provenCharges]
def wsL_does_r18 : List Cond := [Cond.instanceMethod yX4_provenCharges, Cond.selects RX4 yX4_provenCharges yX4_provenCharges, Cond.code yX4_provenCharges cX4_provenCharges 5 (some .int), Cond.methodLink RX4 235 yX0_answerCharges, Cond.instanceMethod yX0_answerCharges, Cond.selects RX0 yX0_answerCharges yX0_answerCharges, Cond.code yX0_answerCharges cX0_answerCharges 4 none, Cond.fieldLink RX0 56 "Chargehouse$Accused" "charges" "I", Cond.fieldLink RX0 59 "Chargehouse$Accused" "convictedOf" "I", Cond.fieldLink RX0 52 "Chargehouse$Accused" "isInCustody" "Z", Cond.methodLink RL 145 yL_bits, Cond.static yL_bits, Cond.code yL_bits cL_bits 3 (some .int), Cond.methodLink RL 178 yL_plea, Cond.static yL_plea, Cond.codeWith yL_plea cL_plea 5 (some .int) [(0, 7, 8, 23), (0, 7, 13, 13), (0, 7, 18, 16)], Cond.methodLink RL 61 yX4_plea, Cond.instanceMethod yX4_plea, Cond.selects RX4 yX4_plea yX4_plea, Cond.code yX4_plea cX4_plea 7 (some .int), Cond.methodLink RX4 243 yX4_discountAfter, Cond.static yX4_discountAfter, Cond.code yX4_discountAfter cX4_discountAfter 1 (some .int), Cond.methodLink RL 205 yL_pass]
def wsL_does_r19 : List Cond := [Cond.static yL_pass, Cond.codeWith yL_pass cL_pass 3 (some .int) [(0, 5, 6, 13), (0, 5, 10, 16)], Cond.methodLink RL 26 yX4_pass, Cond.instanceMethod yX4_pass, Cond.selects RX4 yX4_pass yX4_pass, Cond.code yX4_pass cX4_pass 6 (some .int), Cond.methodLink RX4 78 yX1_passInCustody, Cond.instanceMethod yX1_passInCustody, Cond.selects RX1 yX1_passInCustody yX1_passInCustody, Cond.code yX1_passInCustody cX1_passInCustody 7 (some .int), Cond.fieldLink RX1 30 "Chargehouse$Accused" "isInCustody" "Z", Cond.methodLink RX1 34 yX0_isReleasedAfter, Cond.instanceMethod yX0_isReleasedAfter, Cond.selects RX0 yX0_isReleasedAfter yX0_isReleasedAfter, Cond.code yX0_isReleasedAfter cX0_isReleasedAfter 4 (some .boolean), Cond.methodLink RX0 46 Lib.Math.min.name, Cond.static Lib.Math.min.name, Cond.initialized "java/lang/Math", Cond.code Lib.Math.min.name Lib.Math.min.code 2 (some .int), Cond.methodLink RX0 43 yX0_daysLeft]
def wsL_does : List Cond := .code yL_does cL_does 9 (some .int) :: ((wsL_does_r1 ++ (wsL_does_r2 ++ (wsL_does_r3 ++ (wsL_does_r4 ++ (wsL_does_r5 ++ (wsL_does_r6 ++ (wsL_does_r7 ++ (wsL_does_r8 ++ (wsL_does_r9 ++ (wsL_does_r10 ++ (wsL_does_r11 ++ (wsL_does_r12 ++ (wsL_does_r13 ++ (wsL_does_r14 ++ (wsL_does_r15 ++ (wsL_does_r16 ++ (wsL_does_r17 ++ (wsL_does_r18 ++ wsL_does_r19)))))))))))))))))) ++ wsX40 ++ wsX30 ++ wsX10 ++ wsX00 ++ wsX20 ++ (vx_atS RX4 35 "java/lang/IllegalArgumentException" ["java/lang/RuntimeException", "java/lang/Exception"]).filter goodWord ++ (vx_atS RX4 46 "java/lang/IllegalStateException" ["java/lang/RuntimeException", "java/lang/Exception"]).filter goodWord ++ (vx_atS RX4 58 "java/lang/IndexOutOfBoundsException" ["java/lang/RuntimeException", "java/lang/Exception"]).filter goodWord)
def wsL_law0_r1 : List Cond := [Cond.classLink RL 8 RX4, Cond.instantiable RX4 13, Cond.initialized RX4, Cond.arrayClass .int, Cond.constant RL 212 (2000000000), Cond.constant RL 225 (100000), Cond.methodLink RL 207 yX4_init, Cond.instanceMethod yX4_init, Cond.code yX4_init cX4_init 1 none, Cond.methodLink RX4 1 objectInit, Cond.instanceMethod objectInit, Cond.code objectInit ⟨#[0xb1]⟩ 1 none, Cond.classLink RX4 9 RX3, Cond.fieldLink RX4 11 "Chargehouse" "offenceRows" "[LChargehouse$Offence;", Cond.classLink RX4 15 RX1, Cond.fieldLink RX4 17 "Chargehouse" "fileRows" "[LChargehouse$CaseFile;", Cond.classLink RX4 21 RX2, Cond.fieldLink RX4 23 "Chargehouse" "itemRows" "[LChargehouse$Item;", Cond.methodLink RL 208 yL_drawn, Cond.static yL_drawn, Cond.initialized RL, Cond.code yL_drawn cL_drawn 2 (some .int), Cond.constant RL 101 (14127341), Cond.constant RL 102 (2147483647)]
def wsL_law0_r2 : List Cond := [Cond.methodLink RL 213 yL_mix, Cond.static yL_mix, Cond.code yL_mix cL_mix 7 (some .long), Cond.constantLong RL 109 (31), Cond.constantLong RL 114 (37), Cond.constantLong RL 120 (41), Cond.constantLong RL 125 (3), Cond.constantLong RL 127 (5), Cond.constantLong RL 129 (7), Cond.constantLong RL 131 (43), Cond.methodLink RL 105 yX4_day, Cond.instanceMethod yX4_day, Cond.selects RX4 yX4_day yX4_day, Cond.code yX4_day cX4_day 1 (some .int), Cond.fieldLink RX4 70 "Chargehouse" "today" "I", Cond.methodLink RL 111 yL_count, Cond.static yL_count, Cond.codeWith yL_count cL_count 3 (some .int) [(0, 5, 6, 13)], Cond.classLink RL 13 "java/lang/IllegalArgumentException", Cond.constant RL 15 (-2000000002), Cond.methodLink RL 98 yX4_count, Cond.instanceMethod yX4_count, Cond.selects RX4 yX4_count yX4_count, Cond.code yX4_count cX4_count 2 (some .int)]
def wsL_law0_r3 : List Cond := [Cond.classLink RX4 31 "java/lang/IllegalArgumentException", Cond.initialized "java/lang/IllegalArgumentException", Cond.fieldLink RX4 224 "Chargehouse" "convictions" "I", Cond.fieldLink RX4 232 "Chargehouse" "acquittals" "I", Cond.fieldLink RX4 246 "Chargehouse" "pleas" "I", Cond.fieldLink RX4 210 "Chargehouse" "drops" "I", Cond.fieldLink RX4 215 "Chargehouse" "reopened" "I", Cond.fieldLink RX4 75 "Chargehouse" "clockReleases" "I", Cond.methodLink RL 116 yL_of, Cond.static yL_of, Cond.codeWith yL_of cL_of 5 (some .int) [(0, 7, 8, 23), (0, 7, 13, 13)], Cond.classLink RL 23 "java/lang/IndexOutOfBoundsException", Cond.constant RL 25 (-2000000001), Cond.methodLink RL 95 yX4_ofAccused, Cond.instanceMethod yX4_ofAccused, Cond.selects RX4 yX4_ofAccused yX4_ofAccused, Cond.code yX4_ofAccused cX4_ofAccused 5 (some .int), Cond.fieldLink RX4 178 "Chargehouse$Accused" "state" "I", Cond.fieldLink RX4 190 "Chargehouse$Accused" "charges" "I", Cond.fieldLink RX4 207 "Chargehouse$Accused" "isInCustody" "Z", Cond.fieldLink RX4 313 "Chargehouse$Accused" "daysWhileOpen" "I", Cond.fieldLink RX4 316 "Chargehouse$Accused" "daysWhileCharged" "I", Cond.fieldLink RX4 249 "Chargehouse$Accused" "months" "I", Cond.fieldLink RX4 319 "Chargehouse$Accused" "convictedOf" "I"]
def wsL_law0_r4 : List Cond := [Cond.methodLink RX4 170 yX4_accusedAt, Cond.instanceMethod yX4_accusedAt, Cond.selects RX4 yX4_accusedAt yX4_accusedAt, Cond.code yX4_accusedAt cX4_accusedAt 5 (some (.object "Chargehouse$Accused")), Cond.classLink RX4 54 "java/lang/IndexOutOfBoundsException", Cond.initialized "java/lang/IndexOutOfBoundsException", Cond.methodLink RX4 108 yX4_fileAt, Cond.instanceMethod yX4_fileAt, Cond.selects RX4 yX4_fileAt yX4_fileAt, Cond.code yX4_fileAt cX4_fileAt 2 (some (.object "Chargehouse$CaseFile")), Cond.methodLink RX4 325 yX1_rowOf, Cond.instanceMethod yX1_rowOf, Cond.selects RX1 yX1_rowOf yX1_rowOf, Cond.initialized RX1, Cond.code yX1_rowOf cX1_rowOf 2 (some (.object "Chargehouse$Accused")), Cond.fieldLink RX1 11 "Chargehouse$CaseFile" "rows" "[LChargehouse$Accused;", Cond.methodLink RX4 322 yX4_spentOffences, Cond.instanceMethod yX4_spentOffences, Cond.selects RX4 yX4_spentOffences yX4_spentOffences, Cond.code yX4_spentOffences cX4_spentOffences 5 (some .int), Cond.methodLink RX4 347 yX4_isSpent, Cond.instanceMethod yX4_isSpent, Cond.selects RX4 yX4_isSpent yX4_isSpent, Cond.code yX4_isSpent cX4_isSpent 6 (some .boolean)]
def wsL_law0_r5 : List Cond := [Cond.methodLink RX4 341 yX3_isAkinTo, Cond.instanceMethod yX3_isAkinTo, Cond.selects RX3 yX3_isAkinTo yX3_isAkinTo, Cond.initialized RX3, Cond.code yX3_isAkinTo cX3_isAkinTo 2 (some .boolean), Cond.fieldLink RX3 7 "Chargehouse$Offence" "elements" "I", Cond.methodLink RX3 28 yX3_nestsIn, Cond.instanceMethod yX3_nestsIn, Cond.selects RX3 yX3_nestsIn yX3_nestsIn, Cond.code yX3_nestsIn cX3_nestsIn 2 (some .boolean), Cond.methodLink RX4 344 yX0_hadAnswered, Cond.instanceMethod yX0_hadAnswered, Cond.selects RX0 yX0_hadAnswered yX0_hadAnswered, Cond.initialized RX0, Cond.code yX0_hadAnswered cX0_hadAnswered 3 (some .boolean), Cond.fieldLink RX0 15 "Chargehouse$Accused" "firstAnsweredOn" "[I", Cond.methodLink RL 122 yL_ofItem, Cond.static yL_ofItem, Cond.codeWith yL_ofItem cL_ofItem 4 (some .int) [(0, 6, 7, 23), (0, 6, 11, 13)], Cond.methodLink RL 92 yX4_ofItem, Cond.instanceMethod yX4_ofItem, Cond.selects RX4 yX4_ofItem yX4_ofItem, Cond.code yX4_ofItem cX4_ofItem 4 (some .int), Cond.fieldLink RX4 154 "Chargehouse$Item" "file" "I"]
def wsL_law0_r6 : List Cond := [Cond.fieldLink RX4 299 "Chargehouse$Item" "element" "I", Cond.fieldLink RX4 302 "Chargehouse$Item" "weight" "I", Cond.fieldLink RX4 305 "Chargehouse$Item" "against" "I", Cond.fieldLink RX4 308 "Chargehouse$Item" "cameOn" "I", Cond.fieldLink RX4 136 "Chargehouse$Item" "admittedOn" "I", Cond.fieldLink RX4 151 "Chargehouse$Item" "shownTo" "I", Cond.fieldLink RX4 165 "Chargehouse$Item" "isWithheld" "Z", Cond.methodLink RX4 127 yX4_itemAt, Cond.instanceMethod yX4_itemAt, Cond.selects RX4 yX4_itemAt yX4_itemAt, Cond.code yX4_itemAt cX4_itemAt 2 (some (.object "Chargehouse$Item")), Cond.methodLink RL 133 yL_nests, Cond.static yL_nests, Cond.codeWith yL_nests cL_nests 4 (some .int) [(0, 14, 15, 23)], Cond.methodLink RL 73 yX4_nests, Cond.instanceMethod yX4_nests, Cond.selects RX4 yX4_nests yX4_nests, Cond.code yX4_nests cX4_nests 5 (some .boolean), Cond.methodLink RX4 50 yX4_offenceAt, Cond.instanceMethod yX4_offenceAt, Cond.selects RX4 yX4_offenceAt yX4_offenceAt, Cond.code yX4_offenceAt cX4_offenceAt 2 (some (.object "Chargehouse$Offence")), Cond.methodLink RX4 270 yX3_nestsIn, Cond.methodLink RL 217 yL_known]
def wsL_law0_r7 : List Cond := [Cond.static yL_known, Cond.code yL_known cL_known 7 (some .long), Cond.methodLink RL 135 yL_whyNot, Cond.static yL_whyNot, Cond.codeWith yL_whyNot cL_whyNot 6 (some .int) [(0, 9, 10, 23), (0, 9, 15, 13)], Cond.methodLink RL 80 yX4_whyNot, Cond.instanceMethod yX4_whyNot, Cond.selects RX4 yX4_whyNot yX4_whyNot, Cond.code yX4_whyNot cX4_whyNot 7 (some .int), Cond.methodLink RX4 276 yX4_checkDay, Cond.instanceMethod yX4_checkDay, Cond.selects RX4 yX4_checkDay yX4_checkDay, Cond.code yX4_checkDay cX4_checkDay 2 none, Cond.methodLink RX4 27 yX4_isWithin, Cond.static yX4_isWithin, Cond.code yX4_isWithin cX4_isWithin 3 (some .boolean), Cond.methodLink RX4 283 yX4_hindrance, Cond.instanceMethod yX4_hindrance, Cond.selects RX4 yX4_hindrance yX4_hindrance, Cond.code yX4_hindrance cX4_hindrance 4 (some .int), Cond.fieldLink RX4 293 "Chargehouse$Accused" "file" "LChargehouse$CaseFile;", Cond.fieldLink RX4 351 "Chargehouse$CaseFile" "event" "I", Cond.fieldLink RX4 354 "Chargehouse$Offence" "limit" "I", Cond.fieldLink RX4 361 "Chargehouse$Offence" "gravity" "I"]
def wsL_law0_r8 : List Cond := [Cond.fieldLink RX4 364 "Chargehouse$CaseFile" "points" "I", Cond.methodLink RX4 357 yX4_hasStrength, Cond.instanceMethod yX4_hasStrength, Cond.selects RX4 yX4_hasStrength yX4_hasStrength, Cond.code yX4_hasStrength cX4_hasStrength 6 (some .boolean), Cond.fieldLink RX4 338 "Chargehouse$Offence" "elements" "I", Cond.methodLink RX4 96 yX4_hasBit, Cond.static yX4_hasBit, Cond.code yX4_hasBit cX4_hasBit 2 (some .boolean), Cond.methodLink RX4 279 yX4_strengthAgainst, Cond.instanceMethod yX4_strengthAgainst, Cond.selects RX4 yX4_strengthAgainst yX4_strengthAgainst, Cond.code yX4_strengthAgainst cX4_strengthAgainst 9 (some .int), Cond.fieldLink RX4 105 "Chargehouse$CaseFile" "number" "I", Cond.fieldLink RX4 296 "Chargehouse$Accused" "person" "I", Cond.methodLink RX4 143 yX2_isAgainst, Cond.instanceMethod yX2_isAgainst, Cond.selects RX2 yX2_isAgainst yX2_isAgainst, Cond.initialized RX2, Cond.code yX2_isAgainst cX2_isAgainst 2 (some .boolean), Cond.fieldLink RX2 24 "Chargehouse$Item" "against" "I", Cond.methodLink RX4 335 yX2_countsOn, Cond.instanceMethod yX2_countsOn, Cond.selects RX2 yX2_countsOn yX2_countsOn]
def wsL_law0_r9 : List Cond := [Cond.code yX2_countsOn cX2_countsOn 3 (some .boolean), Cond.fieldLink RX2 9 "Chargehouse$Item" "admittedOn" "I", Cond.fieldLink RX2 34 "Chargehouse$Item" "cameOn" "I", Cond.fieldLink RX2 27 "Chargehouse$Item" "how" "I", Cond.methodLink RL 138 yL_strength, Cond.static yL_strength, Cond.codeWith yL_strength cL_strength 6 (some .int) [(0, 9, 10, 23), (0, 9, 15, 13)], Cond.methodLink RL 76 yX4_strength, Cond.instanceMethod yX4_strength, Cond.selects RX4 yX4_strength yX4_strength, Cond.code yX4_strength cX4_strength 6 (some .int), Cond.methodLink RL 221 yL_does, Cond.static yL_does, Cond.code yL_does cL_does 9 (some .int), Cond.methodLink RL 180 yL_tells, Cond.static yL_tells, Cond.code yL_tells cL_tells 8 (some .int), Cond.constant RL 168 (63000), Cond.methodLink RL 160 yL_offence, Cond.static yL_offence, Cond.codeWith yL_offence cL_offence 5 (some .int) [(0, 7, 8, 13), (0, 7, 13, 16)], Cond.constant RL 18 (-2000000003), Cond.methodLink RL 7 yX4_offence, Cond.instanceMethod yX4_offence]
def wsL_law0_r10 : List Cond := [Cond.selects RX4 yX4_offence yX4_offence, Cond.code yX4_offence cX4_offence 4 (some .int), Cond.classLink RX4 42 "java/lang/IllegalStateException", Cond.initialized "java/lang/IllegalStateException", Cond.fieldLink RX4 38 "Chargehouse" "offenceCount" "I", Cond.instantiable RX3 4, Cond.methodLink RX4 47 yX3_init, Cond.instanceMethod yX3_init, Cond.code yX3_init cX3_init 4 none, Cond.methodLink RX3 1 objectInit, Cond.fieldLink RX3 13 "Chargehouse$Offence" "gravity" "I", Cond.fieldLink RX3 16 "Chargehouse$Offence" "limit" "I", Cond.methodLink RL 162 yL_isRefused, Cond.static yL_isRefused, Cond.code yL_isRefused cL_isRefused 1 (some .boolean), Cond.methodLink RL 166 yL_file, Cond.static yL_file, Cond.codeWith yL_file cL_file 5 (some .int) [(0, 7, 8, 13), (0, 7, 13, 16)], Cond.methodLink RL 30 yX4_file, Cond.instanceMethod yX4_file, Cond.selects RX4 yX4_file yX4_file, Cond.code yX4_file cX4_file 6 (some .int), Cond.fieldLink RX4 84 "Chargehouse" "fileCount" "I", Cond.instantiable RX1 5]
def wsL_law0_r11 : List Cond := [Cond.fieldLink RX4 92 "Chargehouse$CaseFile" "rows" "[LChargehouse$Accused;", Cond.classLink RX4 100 RX0, Cond.instantiable RX0 14, Cond.methodLink RX4 89 yX1_init, Cond.instanceMethod yX1_init, Cond.code yX1_init cX1_init 5 none, Cond.methodLink RX1 3 objectInit, Cond.classLink RX1 9 RX0, Cond.fieldLink RX1 17 "Chargehouse$CaseFile" "number" "I", Cond.fieldLink RX1 21 "Chargehouse$CaseFile" "event" "I", Cond.fieldLink RX1 24 "Chargehouse$CaseFile" "accused" "I", Cond.fieldLink RX1 27 "Chargehouse$CaseFile" "points" "I", Cond.methodLink RX4 102 yX0_init, Cond.instanceMethod yX0_init, Cond.code yX0_init cX0_init 4 none, Cond.methodLink RX0 3 objectInit, Cond.fieldLink RX0 9 "Chargehouse$Accused" "state" "I", Cond.fieldLink RX0 19 "Chargehouse$Accused" "file" "LChargehouse$CaseFile;", Cond.fieldLink RX0 23 "Chargehouse$Accused" "person" "I", Cond.methodLink RL 169 yL_item, Cond.static yL_item, Cond.codeWith yL_item cL_item 8 (some .int) [(0, 13, 14, 23), (0, 13, 19, 13), (0, 13, 24, 16)], Cond.methodLink RL 33 yX4_item, Cond.instanceMethod yX4_item]
def wsL_law0_r12 : List Cond := [Cond.selects RX4 yX4_item yX4_item, Cond.code yX4_item cX4_item 8 (some .int), Cond.fieldLink RX4 119 "Chargehouse" "itemCount" "I", Cond.instantiable RX2 10, Cond.methodLink RX4 114 yX1_hasAll, Cond.instanceMethod yX1_hasAll, Cond.selects RX1 yX1_hasAll yX1_hasAll, Cond.code yX1_hasAll cX1_hasAll 2 (some .boolean), Cond.methodLink RX4 124 yX2_init, Cond.instanceMethod yX2_init, Cond.code yX2_init cX2_init 8 none, Cond.methodLink RX2 3 objectInit, Cond.fieldLink RX2 15 "Chargehouse$Item" "file" "I", Cond.fieldLink RX2 18 "Chargehouse$Item" "element" "I", Cond.fieldLink RX2 21 "Chargehouse$Item" "weight" "I", Cond.fieldLink RX2 30 "Chargehouse$Item" "isSensitive" "Z", Cond.methodLink RL 184 yL_exclude, Cond.static yL_exclude, Cond.codeWith yL_exclude cL_exclude 4 (some .int) [(0, 14, 15, 23), (0, 14, 19, 13)], Cond.methodLink RL 19 yX4_exclude, Cond.instanceMethod yX4_exclude, Cond.selects RX4 yX4_exclude yX4_exclude, Cond.code yX4_exclude cX4_exclude 6 (some .boolean), Cond.fieldLink RX4 65 "Chargehouse$Offence" "excluded" "I"]
def wsL_law0_r13 : List Cond := [Cond.methodLink RX4 61 yX3_excludes, Cond.instanceMethod yX3_excludes, Cond.selects RX3 yX3_excludes yX3_excludes, Cond.code yX3_excludes cX3_excludes 2 (some .boolean), Cond.fieldLink RX3 19 "Chargehouse$Offence" "excluded" "I", Cond.methodLink RL 186 yL_admit, Cond.static yL_admit, Cond.codeWith yL_admit cL_admit 3 (some .int) [(0, 6, 7, 23), (0, 6, 11, 16)], Cond.methodLink RL 37 yX4_admit, Cond.instanceMethod yX4_admit, Cond.selects RX4 yX4_admit yX4_admit, Cond.code yX4_admit cX4_admit 3 none, Cond.fieldLink RX4 133 "Chargehouse$Item" "how" "I", Cond.methodLink RL 188 yL_show, Cond.static yL_show, Cond.codeWith yL_show cL_show 4 (some .int) [(0, 6, 7, 23), (0, 6, 11, 16)], Cond.methodLink RL 41 yX4_show, Cond.instanceMethod yX4_show, Cond.selects RX4 yX4_show yX4_show, Cond.code yX4_show cX4_show 4 (some .int), Cond.methodLink RX4 146 yX2_wasShownTo, Cond.instanceMethod yX2_wasShownTo, Cond.selects RX2 yX2_wasShownTo yX2_wasShownTo, Cond.code yX2_wasShownTo cX2_wasShownTo 2 (some .boolean)]
def wsL_law0_r14 : List Cond := [Cond.fieldLink RX2 41 "Chargehouse$Item" "shownTo" "I", Cond.methodLink RX4 157 yX4_lackedBy, Cond.instanceMethod yX4_lackedBy, Cond.selects RX4 yX4_lackedBy yX4_lackedBy, Cond.code yX4_lackedBy cX4_lackedBy 8 (some .int), Cond.methodLink RX4 383 yX2_isLackedBy, Cond.instanceMethod yX2_isLackedBy, Cond.selects RX2 yX2_isLackedBy yX2_isLackedBy, Cond.code yX2_isLackedBy cX2_isLackedBy 2 (some .boolean), Cond.fieldLink RX2 51 "Chargehouse$Item" "isWithheld" "Z", Cond.methodLink RX2 44 yX2_isAgainst, Cond.methodLink RX2 48 yX2_wasShownTo, Cond.methodLink RL 190 yL_withhold, Cond.static yL_withhold, Cond.codeWith yL_withhold cL_withhold 3 (some .int) [(0, 6, 7, 23), (0, 6, 11, 16)], Cond.methodLink RL 45 yX4_withhold, Cond.instanceMethod yX4_withhold, Cond.selects RX4 yX4_withhold yX4_withhold, Cond.code yX4_withhold cX4_withhold 3 none, Cond.fieldLink RX4 161 "Chargehouse$Item" "isSensitive" "Z", Cond.methodLink RL 192 yL_arrest, Cond.static yL_arrest, Cond.codeWith yL_arrest cL_arrest 4 (some .int) [(0, 6, 7, 23), (0, 6, 11, 16)], Cond.methodLink RL 64 yX4_arrest]
def wsL_law0_r15 : List Cond := [Cond.instanceMethod yX4_arrest, Cond.selects RX4 yX4_arrest yX4_arrest, Cond.code yX4_arrest cX4_arrest 5 (some .int), Cond.methodLink RX4 252 yX0_daysLeft, Cond.instanceMethod yX0_daysLeft, Cond.selects RX0 yX0_daysLeft yX0_daysLeft, Cond.code yX0_daysLeft cX0_daysLeft 1 (some .int), Cond.fieldLink RX0 33 "Chargehouse$Accused" "daysWhileCharged" "I", Cond.fieldLink RX0 40 "Chargehouse$Accused" "daysWhileOpen" "I", Cond.methodLink RX0 36 yX0_ceilingWhileOpen, Cond.instanceMethod yX0_ceilingWhileOpen, Cond.selects RX0 yX0_ceilingWhileOpen yX0_ceilingWhileOpen, Cond.code yX0_ceilingWhileOpen cX0_ceilingWhileOpen 1 (some .int), Cond.fieldLink RX0 26 "Chargehouse$Accused" "extendedBy" "I", Cond.methodLink RL 194 yL_extend, Cond.static yL_extend, Cond.codeWith yL_extend cL_extend 5 (some .int) [(0, 7, 8, 23), (0, 7, 13, 13), (0, 7, 18, 16)], Cond.methodLink RL 67 yX4_extend, Cond.instanceMethod yX4_extend, Cond.selects RX4 yX4_extend yX4_extend, Cond.code yX4_extend cX4_extend 5 (some .int), Cond.fieldLink RX4 260 "Chargehouse$Accused" "extendedBy" "I", Cond.methodLink RX4 265 yX0_ceilingWhileOpen, Cond.methodLink RL 196 yL_release]
def wsL_law0_r16 : List Cond := [Cond.static yL_release, Cond.codeWith yL_release cL_release 4 (some .int) [(0, 7, 8, 23), (0, 7, 12, 16)], Cond.methodLink RL 70 yX4_release, Cond.instanceMethod yX4_release, Cond.selects RX4 yX4_release yX4_release, Cond.code yX4_release cX4_release 4 none, Cond.methodLink RL 198 yL_drop, Cond.static yL_drop, Cond.codeWith yL_drop cL_drop 4 (some .int) [(0, 7, 8, 23), (0, 7, 12, 16)], Cond.methodLink RL 51 yX4_drop, Cond.instanceMethod yX4_drop, Cond.selects RX4 yX4_drop yX4_drop, Cond.code yX4_drop cX4_drop 4 none, Cond.fieldLink RX4 201 "Chargehouse$Accused" "droppedOn" "I", Cond.fieldLink RX4 204 "Chargehouse$Accused" "isReviewed" "Z", Cond.methodLink RL 200 yL_review, Cond.static yL_review, Cond.codeWith yL_review cL_review 4 (some .int) [(0, 14, 15, 23), (0, 14, 19, 16)], Cond.methodLink RL 55 yX4_review, Cond.instanceMethod yX4_review, Cond.selects RX4 yX4_review yX4_review, Cond.code yX4_review cX4_review 4 (some .boolean), Cond.methodLink RX4 181 yX4_chargeable, Cond.instanceMethod yX4_chargeable]
def wsL_law0_r17 : List Cond := [Cond.selects RX4 yX4_chargeable yX4_chargeable, Cond.code yX4_chargeable cX4_chargeable 6 (some .int), Cond.methodLink RL 202 yL_decides, Cond.static yL_decides, Cond.code yL_decides cL_decides 11 (some .int), Cond.methodLink RL 140 yL_best, Cond.static yL_best, Cond.codeWith yL_best cL_best 5 (some .int) [(0, 7, 8, 23), (0, 7, 13, 13)], Cond.methodLink RL 83 yX4_best, Cond.instanceMethod yX4_best, Cond.selects RX4 yX4_best yX4_best, Cond.code yX4_best cX4_best 5 (some .int), Cond.methodLink RX4 287 yX4_bestByGrowing, Cond.instanceMethod yX4_bestByGrowing, Cond.selects RX4 yX4_bestByGrowing yX4_bestByGrowing, Cond.code yX4_bestByGrowing cX4_bestByGrowing 5 (some .int), Cond.methodLink RX4 370 yX4_better, Cond.instanceMethod yX4_better, Cond.selects RX4 yX4_better yX4_better, Cond.code yX4_better cX4_better 5 (some .int), Cond.methodLink RX4 196 yX4_gravityOf, Cond.instanceMethod yX4_gravityOf, Cond.selects RX4 yX4_gravityOf yX4_gravityOf, Cond.code yX4_gravityOf cX4_gravityOf 5 (some .int)]
def wsL_law0_r18 : List Cond := [Cond.methodLink RX4 227 yJ6_bitCount_0f7a4, Cond.static yJ6_bitCount_0f7a4, Cond.initialized RJ6, Cond.code yJ6_bitCount_0f7a4 cJ6_bitCount_0f7a4 1 (some .int), Cond.constant RJ6 265 (1431655765), Cond.constant RJ6 266 (858993459), Cond.constant RJ6 267 (252645135), Cond.methodLink RX4 367 yX4_matesOf, Cond.instanceMethod yX4_matesOf, Cond.selects RX4 yX4_matesOf yX4_matesOf, Cond.code yX4_matesOf cX4_matesOf 6 (some .int), Cond.methodLink RX4 373 yX4_above, Cond.static yX4_above, Cond.code yX4_above cX4_above 1 (some .int), Cond.methodLink RX4 376 yX4_bestWithMates, Cond.instanceMethod yX4_bestWithMates, Cond.selects RX4 yX4_bestWithMates yX4_bestWithMates, Cond.code yX4_bestWithMates cX4_bestWithMates 7 (some .int), Cond.methodLink RX4 380 yX4_bestWithThird, Cond.instanceMethod yX4_bestWithThird, Cond.selects RX4 yX4_bestWithThird yX4_bestWithThird, Cond.code yX4_bestWithThird cX4_bestWithThird 6 (some .int), Cond.methodLink RL 172 yL_charge, Cond.static yL_charge]
def wsL_law0_r19 : List Cond := [Cond.codeWith yL_charge cL_charge 5 (some .int) [(0, 7, 8, 23), (0, 7, 13, 13), (0, 7, 18, 16)], Cond.methodLink RL 48 yX4_charge, Cond.instanceMethod yX4_charge, Cond.selects RX4 yX4_charge yX4_charge, Cond.code yX4_charge cX4_charge 5 (some .int), Cond.fieldLink RX4 193 "Chargehouse$Accused" "chargedOn" "I", Cond.methodLink RX4 174 yX4_checkToldOffences, Cond.instanceMethod yX4_checkToldOffences, Cond.selects RX4 yX4_checkToldOffences yX4_checkToldOffences, Cond.code yX4_checkToldOffences cX4_checkToldOffences 3 none, Cond.methodLink RX4 185 yX4_isRight, Cond.instanceMethod yX4_isRight, Cond.selects RX4 yX4_isRight yX4_isRight, Cond.code yX4_isRight cX4_isRight 5 (some .boolean), Cond.methodLink RL 174 yL_lacks, Cond.static yL_lacks, Cond.codeWith yL_lacks cL_lacks 4 (some .int) [(0, 6, 7, 23)], Cond.methodLink RL 89 yX4_lacks, Cond.instanceMethod yX4_lacks, Cond.selects RX4 yX4_lacks yX4_lacks, Cond.code yX4_lacks cX4_lacks 4 (some .int), Cond.methodLink RL 176 yL_trial, Cond.static yL_trial, Cond.codeWith yL_trial cL_trial 4 (some .int) [(0, 6, 7, 23), (0, 6, 11, 16)]]
def wsL_law0_r20 : List Cond := [Cond.methodLink RL 58 yX4_trial, Cond.instanceMethod yX4_trial, Cond.selects RX4 yX4_trial yX4_trial, Cond.code yX4_trial cX4_trial 5 (some .int), Cond.methodLink RX4 220 yX4_provenCharges, Cond.instanceMethod yX4_provenCharges, Cond.selects RX4 yX4_provenCharges yX4_provenCharges, Cond.code yX4_provenCharges cX4_provenCharges 5 (some .int), Cond.methodLink RX4 235 yX0_answerCharges, Cond.instanceMethod yX0_answerCharges, Cond.selects RX0 yX0_answerCharges yX0_answerCharges, Cond.code yX0_answerCharges cX0_answerCharges 4 none, Cond.fieldLink RX0 56 "Chargehouse$Accused" "charges" "I", Cond.fieldLink RX0 59 "Chargehouse$Accused" "convictedOf" "I", Cond.fieldLink RX0 52 "Chargehouse$Accused" "isInCustody" "Z", Cond.methodLink RL 145 yL_bits, Cond.static yL_bits, Cond.code yL_bits cL_bits 3 (some .int), Cond.methodLink RL 178 yL_plea, Cond.static yL_plea, Cond.codeWith yL_plea cL_plea 5 (some .int) [(0, 7, 8, 23), (0, 7, 13, 13), (0, 7, 18, 16)], Cond.methodLink RL 61 yX4_plea, Cond.instanceMethod yX4_plea, Cond.selects RX4 yX4_plea yX4_plea]
def wsL_law0_r21 : List Cond := [Cond.code yX4_plea cX4_plea 7 (some .int), Cond.methodLink RX4 243 yX4_discountAfter, Cond.static yX4_discountAfter, Cond.code yX4_discountAfter cX4_discountAfter 1 (some .int), Cond.methodLink RL 205 yL_pass, Cond.static yL_pass, Cond.codeWith yL_pass cL_pass 3 (some .int) [(0, 5, 6, 13), (0, 5, 10, 16)], Cond.methodLink RL 26 yX4_pass, Cond.instanceMethod yX4_pass, Cond.selects RX4 yX4_pass yX4_pass, Cond.code yX4_pass cX4_pass 6 (some .int), Cond.methodLink RX4 78 yX1_passInCustody, Cond.instanceMethod yX1_passInCustody, Cond.selects RX1 yX1_passInCustody yX1_passInCustody, Cond.code yX1_passInCustody cX1_passInCustody 7 (some .int), Cond.fieldLink RX1 30 "Chargehouse$Accused" "isInCustody" "Z", Cond.methodLink RX1 34 yX0_isReleasedAfter, Cond.instanceMethod yX0_isReleasedAfter, Cond.selects RX0 yX0_isReleasedAfter yX0_isReleasedAfter, Cond.code yX0_isReleasedAfter cX0_isReleasedAfter 4 (some .boolean), Cond.methodLink RX0 46 Lib.Math.min.name, Cond.static Lib.Math.min.name, Cond.initialized "java/lang/Math", Cond.code Lib.Math.min.name Lib.Math.min.code 2 (some .int)]
def wsL_law0_r22 : List Cond := [Cond.methodLink RX0 43 yX0_daysLeft, Cond.methodLink RL 226 yL_isLawful, Cond.static yL_isLawful, Cond.code yL_isLawful cL_isLawful 11 (some .boolean), Cond.methodLink RL 148 yL_isHeld, Cond.static yL_isHeld, Cond.code yL_isHeld cL_isHeld 11 (some .boolean), Cond.methodLink RL 152 yL_isBest, Cond.static yL_isBest, Cond.code yL_isBest cL_isBest 9 (some .boolean), Cond.methodLink RL 142 yL_anew, Cond.static yL_anew, Cond.codeWith yL_anew cL_anew 5 (some .int) [(0, 7, 8, 23), (0, 7, 13, 13)], Cond.methodLink RL 86 yX4_bestAnew, Cond.instanceMethod yX4_bestAnew, Cond.selects RX4 yX4_bestAnew yX4_bestAnew, Cond.code yX4_bestAnew cX4_bestAnew 5 (some .int), Cond.methodLink RX4 290 yX4_bestOfAllSets, Cond.instanceMethod yX4_bestOfAllSets, Cond.selects RX4 yX4_bestOfAllSets yX4_bestOfAllSets, Cond.code yX4_bestOfAllSets cX4_bestOfAllSets 4 (some .int), Cond.methodLink RL 156 yL_areNested, Cond.static yL_areNested, Cond.code yL_areNested cL_areNested 8 (some .boolean)]
def wsL_law0 : List Cond := (wsL_law0_r1 ++ (wsL_law0_r2 ++ (wsL_law0_r3 ++ (wsL_law0_r4 ++ (wsL_law0_r5 ++ (wsL_law0_r6 ++ (wsL_law0_r7 ++ (wsL_law0_r8 ++ (wsL_law0_r9 ++ (wsL_law0_r10 ++ (wsL_law0_r11 ++ (wsL_law0_r12 ++ (wsL_law0_r13 ++ (wsL_law0_r14 ++ (wsL_law0_r15 ++ (wsL_law0_r16 ++ (wsL_law0_r17 ++ (wsL_law0_r18 ++ (wsL_law0_r19 ++ (wsL_law0_r20 ++ (wsL_law0_r21 ++ wsL_law0_r22))))))))))))))))))))) ++ wsX40 ++ wsX00 ++ wsX10 ++ wsX30 ++ wsX20 ++ ([] : List Cond)
def wsL_law : List Cond := wsL_law0 ++ (vx_atS RX4 35 "java/lang/IllegalArgumentException" ["java/lang/RuntimeException", "java/lang/Exception"]).filter goodWord ++ (vx_atS RX4 58 "java/lang/IndexOutOfBoundsException" ["java/lang/RuntimeException", "java/lang/Exception"]).filter goodWord ++ (vx_atS RX4 46 "java/lang/IllegalStateException" ["java/lang/RuntimeException", "java/lang/Exception"]).filter goodWord
set_option maxRecDepth 20000 in
theorem wsL_law0_r1_in : ∀ w ∈ wsL_law0_r1, w ∈ lw_tbl := fun w h => (goodIn_r (big := lw_tbl) wsL_law0_r1 [37, 38, 24, 550, 782, 783, 39, 40, 41, 42, 43, 44, 45, 51, 47, 52, 49, 53, 95, 96, 23, 97, 98, 99] (by decide +kernel) (by decide +kernel) w h).1
set_option maxRecDepth 20000 in
theorem wsL_law0_r2_in : ∀ w ∈ wsL_law0_r2, w ∈ lw_tbl := fun w h => (goodIn_r (big := lw_tbl) wsL_law0_r2 [106, 107, 108, 109, 186, 243, 256, 257, 258, 259, 91, 92, 93, 94, 57, 110, 111, 112, 113, 104, 114, 115, 116, 117] (by decide +kernel) (by decide +kernel) w h).1
set_option maxRecDepth 20000 in
theorem wsL_law0_r3_in : ∀ w ∈ wsL_law0_r3, w ∈ lw_tbl := fun w h => (goodIn_r (big := lw_tbl) wsL_law0_r3 [118, 28, 58, 59, 60, 61, 62, 63, 187, 188, 189, 190, 103, 191, 192, 193, 194, 502, 504, 510, 512, 514, 517, 519] (by decide +kernel) (by decide +kernel) w h).1
set_option maxRecDepth 20000 in
theorem wsL_law0_r4_in : ∀ w ∈ wsL_law0_r4, w ∈ lw_tbl := fun w h => (goodIn_r (big := lw_tbl) wsL_law0_r4 [195, 197, 1, 198, 207, 29, 199, 201, 2, 202, 203, 204, 205, 32, 206, 478, 223, 225, 3, 226, 227, 229, 4, 230] (by decide +kernel) (by decide +kernel) w h).1
set_option maxRecDepth 20000 in
theorem wsL_law0_r5_in : ∀ w ∈ wsL_law0_r5, w ∈ lw_tbl := fun w h => (goodIn_r (big := lw_tbl) wsL_law0_r5 [231, 232, 233, 31, 234, 438, 235, 236, 237, 238, 239, 240, 241, 33, 242, 520, 244, 245, 246, 247, 248, 249, 250, 572] (by decide +kernel) (by decide +kernel) w h).1
set_option maxRecDepth 20000 in
theorem wsL_law0_r6_in : ∀ w ∈ wsL_law0_r6, w ∈ lw_tbl := fun w h => (goodIn_r (big := lw_tbl) wsL_law0_r6 [574, 576, 578, 584, 586, 588, 590, 251, 253, 5, 254, 260, 261, 262, 263, 264, 265, 266, 267, 269, 6, 270, 272, 273] (by decide +kernel) (by decide +kernel) w h).1
set_option maxRecDepth 20000 in
theorem wsL_law0_r7_in : ∀ w ∈ wsL_law0_r7, w ∈ lw_tbl := fun w h => (goodIn_r (big := lw_tbl) wsL_law0_r7 [274, 275, 276, 277, 278, 279, 280, 281, 282, 283, 285, 7, 286, 287, 288, 289, 291, 293, 8, 294, 498, 474, 443, 441] (by decide +kernel) (by decide +kernel) w h).1
set_option maxRecDepth 20000 in
theorem wsL_law0_r8_in : ∀ w ∈ wsL_law0_r8, w ∈ lw_tbl := fun w h => (goodIn_r (big := lw_tbl) wsL_law0_r8 [477, 295, 297, 9, 298, 439, 299, 300, 301, 302, 304, 10, 305, 472, 500, 306, 307, 308, 34, 309, 577, 311, 312, 313] (by decide +kernel) (by decide +kernel) w h).1
set_option maxRecDepth 20000 in
theorem wsL_law0_r9_in : ∀ w ∈ wsL_law0_r9, w ∈ lw_tbl := fun w h => (goodIn_r (big := lw_tbl) wsL_law0_r9 [314, 585, 583, 579, 315, 316, 317, 318, 319, 320, 321, 402, 403, 404, 405, 406, 407, 551, 408, 409, 410, 105, 412, 413] (by decide +kernel) (by decide +kernel) w h).1
set_option maxRecDepth 20000 in
theorem wsL_law0_r10_in : ∀ w ∈ wsL_law0_r10, w ∈ lw_tbl := fun w h => (goodIn_r (big := lw_tbl) wsL_law0_r10 [414, 415, 417, 30, 54, 433, 434, 435, 436, 437, 440, 442, 100, 101, 102, 455, 456, 457, 458, 459, 460, 461, 55, 464] (by decide +kernel) (by decide +kernel) w h).1
set_option maxRecDepth 20000 in
theorem wsL_law0_r11_in : ∀ w ∈ wsL_law0_r11, w ∈ lw_tbl := fun w h => (goodIn_r (big := lw_tbl) wsL_law0_r11 [479, 491, 492, 465, 466, 467, 468, 469, 471, 473, 475, 476, 493, 494, 495, 496, 501, 497, 499, 552, 553, 554, 555, 556] (by decide +kernel) (by decide +kernel) w h).1
set_option maxRecDepth 20000 in
theorem wsL_law0_r12_in : ∀ w ∈ wsL_law0_r12, w ∈ lw_tbl := fun w h => (goodIn_r (big := lw_tbl) wsL_law0_r12 [557, 558, 56, 566, 560, 561, 562, 563, 567, 568, 569, 570, 571, 573, 575, 581, 612, 613, 614, 615, 616, 617, 618, 445] (by decide +kernel) (by decide +kernel) w h).1
set_option maxRecDepth 20000 in
theorem wsL_law0_r13_in : ∀ w ∈ wsL_law0_r13, w ∈ lw_tbl := fun w h => (goodIn_r (big := lw_tbl) wsL_law0_r13 [365, 366, 367, 368, 444, 620, 621, 622, 623, 624, 625, 626, 580, 628, 629, 630, 631, 632, 633, 634, 636, 637, 638, 639] (by decide +kernel) (by decide +kernel) w h).1
set_option maxRecDepth 20000 in
theorem wsL_law0_r14_in : ∀ w ∈ wsL_law0_r14, w ∈ lw_tbl := fun w h => (goodIn_r (big := lw_tbl) wsL_law0_r14 [587, 641, 643, 20, 644, 645, 646, 647, 648, 589, 649, 650, 651, 652, 653, 654, 655, 656, 657, 582, 659, 660, 661, 662] (by decide +kernel) (by decide +kernel) w h).1
set_option maxRecDepth 20000 in
theorem wsL_law0_r15_in : ∀ w ∈ wsL_law0_r15, w ∈ lw_tbl := fun w h => (goodIn_r (big := lw_tbl) wsL_law0_r15 [663, 664, 665, 666, 667, 668, 669, 513, 511, 670, 671, 672, 673, 515, 676, 677, 678, 679, 680, 681, 682, 516, 685, 686] (by decide +kernel) (by decide +kernel) w h).1
set_option maxRecDepth 20000 in
theorem wsL_law0_r16_in : ∀ w ∈ wsL_law0_r16, w ∈ lw_tbl := fun w h => (goodIn_r (big := lw_tbl) wsL_law0_r16 [687, 688, 689, 690, 691, 692, 694, 695, 696, 697, 698, 699, 700, 506, 507, 702, 703, 704, 705, 706, 707, 708, 339, 341] (by decide +kernel) (by decide +kernel) w h).1
set_option maxRecDepth 20000 in
theorem wsL_law0_r17_in : ∀ w ∈ wsL_law0_r17, w ∈ lw_tbl := fun w h => (goodIn_r (big := lw_tbl) wsL_law0_r17 [11, 342, 710, 711, 712, 332, 333, 334, 335, 336, 337, 338, 343, 345, 12, 346, 347, 349, 13, 350, 351, 353, 14, 354] (by decide +kernel) (by decide +kernel) w h).1
set_option maxRecDepth 20000 in
theorem wsL_law0_r18_in : ∀ w ∈ wsL_law0_r18, w ∈ lw_tbl := fun w h => (goodIn_r (big := lw_tbl) wsL_law0_r18 [355, 356, 35, 357, 358, 359, 360, 361, 363, 15, 364, 370, 371, 372, 373, 375, 16, 376, 377, 379, 17, 380, 713, 714] (by decide +kernel) (by decide +kernel) w h).1
set_option maxRecDepth 20000 in
theorem wsL_law0_r19_in : ∀ w ∈ wsL_law0_r19, w ∈ lw_tbl := fun w h => (goodIn_r (big := lw_tbl) wsL_law0_r19 [715, 716, 717, 718, 719, 505, 720, 722, 21, 723, 392, 394, 19, 395, 726, 727, 728, 729, 730, 731, 732, 733, 734, 735] (by decide +kernel) (by decide +kernel) w h).1
set_option maxRecDepth 20000 in
theorem wsL_law0_r20_in : ∀ w ∈ wsL_law0_r20, w ∈ lw_tbl := fun w h => (goodIn_r (big := lw_tbl) wsL_law0_r20 [736, 737, 738, 739, 741, 743, 22, 744, 745, 746, 747, 748, 503, 518, 509, 396, 397, 398, 749, 750, 751, 752, 753, 754] (by decide +kernel) (by decide +kernel) w h).1
set_option maxRecDepth 20000 in
theorem wsL_law0_r21_in : ∀ w ∈ wsL_law0_r21, w ∈ lw_tbl := fun w h => (goodIn_r (big := lw_tbl) wsL_law0_r21 [755, 758, 759, 760, 761, 762, 763, 764, 765, 766, 767, 770, 771, 772, 773, 508, 774, 775, 776, 777, 779, 780, 36, 781] (by decide +kernel) (by decide +kernel) w h).1
set_option maxRecDepth 20000 in
theorem wsL_law0_r22_in : ∀ w ∈ wsL_law0_r22, w ∈ lw_tbl := fun w h => (goodIn_r (big := lw_tbl) wsL_law0_r22 [778, 323, 324, 325, 326, 327, 328, 329, 330, 331, 381, 382, 383, 384, 385, 386, 387, 388, 390, 18, 391, 399, 400, 401] (by decide +kernel) (by decide +kernel) w h).1
set_option maxRecDepth 20000 in
theorem wsX40_in0 : ∀ w ∈ wsX40, w ∈ lw_tbl := fun w h => (goodIn_r (big := lw_tbl) wsX40 [64, 66, 68, 70, 72, 74, 76, 78, 80, 82, 84, 86, 88] (by decide +kernel) (by decide +kernel) w h).1
set_option maxRecDepth 20000 in
theorem wsX00_in0 : ∀ w ∈ wsX00, w ∈ lw_tbl := fun w h => (goodIn_r (big := lw_tbl) wsX00 [521, 523, 525, 527, 529, 531, 533, 535, 537, 539, 541, 543, 545, 547] (by decide +kernel) (by decide +kernel) w h).1
set_option maxRecDepth 20000 in
theorem wsX10_in0 : ∀ w ∈ wsX10, w ∈ lw_tbl := fun w h => (goodIn_r (big := lw_tbl) wsX10 [480, 482, 484, 486, 488] (by decide +kernel) (by decide +kernel) w h).1
set_option maxRecDepth 20000 in
theorem wsX30_in0 : ∀ w ∈ wsX30, w ∈ lw_tbl := fun w h => (goodIn_r (big := lw_tbl) wsX30 [446, 448, 450, 452] (by decide +kernel) (by decide +kernel) w h).1
set_option maxRecDepth 20000 in
theorem wsX20_in0 : ∀ w ∈ wsX20, w ∈ lw_tbl := fun w h => (goodIn_r (big := lw_tbl) wsX20 [591, 593, 595, 597, 599, 601, 603, 605, 607, 609] (by decide +kernel) (by decide +kernel) w h).1
theorem wsL_law_in0 : ∀ w ∈ wsL_law0, w ∈ lw_tbl := fun w h => (List.mem_append.mp h).elim (fun h => (List.mem_append.mp h).elim (fun h => (List.mem_append.mp h).elim (fun h => (List.mem_append.mp h).elim (fun h => (List.mem_append.mp h).elim (fun h => (List.mem_append.mp h).elim (fun h => (List.mem_append.mp h).elim (fun h => wsL_law0_r1_in w h) (fun h => (List.mem_append.mp h).elim (fun h => wsL_law0_r2_in w h) (fun h => (List.mem_append.mp h).elim (fun h => wsL_law0_r3_in w h) (fun h => (List.mem_append.mp h).elim (fun h => wsL_law0_r4_in w h) (fun h => (List.mem_append.mp h).elim (fun h => wsL_law0_r5_in w h) (fun h => (List.mem_append.mp h).elim (fun h => wsL_law0_r6_in w h) (fun h => (List.mem_append.mp h).elim (fun h => wsL_law0_r7_in w h) (fun h => (List.mem_append.mp h).elim (fun h => wsL_law0_r8_in w h) (fun h => (List.mem_append.mp h).elim (fun h => wsL_law0_r9_in w h) (fun h => (List.mem_append.mp h).elim (fun h => wsL_law0_r10_in w h) (fun h => (List.mem_append.mp h).elim (fun h => wsL_law0_r11_in w h) (fun h => (List.mem_append.mp h).elim (fun h => wsL_law0_r12_in w h) (fun h => (List.mem_append.mp h).elim (fun h => wsL_law0_r13_in w h) (fun h => (List.mem_append.mp h).elim (fun h => wsL_law0_r14_in w h) (fun h => (List.mem_append.mp h).elim (fun h => wsL_law0_r15_in w h) (fun h => (List.mem_append.mp h).elim (fun h => wsL_law0_r16_in w h) (fun h => (List.mem_append.mp h).elim (fun h => wsL_law0_r17_in w h) (fun h => (List.mem_append.mp h).elim (fun h => wsL_law0_r18_in w h) (fun h => (List.mem_append.mp h).elim (fun h => wsL_law0_r19_in w h) (fun h => (List.mem_append.mp h).elim (fun h => wsL_law0_r20_in w h) (fun h => (List.mem_append.mp h).elim (fun h => wsL_law0_r21_in w h) (fun h => wsL_law0_r22_in w h)))))))))))))))))))))) (fun h => wsX40_in0 w h)) (fun h => wsX00_in0 w h)) (fun h => wsX10_in0 w h)) (fun h => wsX30_in0 w h)) (fun h => wsX20_in0 w h)) (fun h => absurd h List.not_mem_nil)
theorem wsL_law_x0 : ∀ w ∈ (vx_atS RX4 35 "java/lang/IllegalArgumentException" ["java/lang/RuntimeException", "java/lang/Exception"]).filter goodWord, w ∈ lw_tbl := by decide +kernel
theorem wsL_law_x1 : ∀ w ∈ (vx_atS RX4 58 "java/lang/IndexOutOfBoundsException" ["java/lang/RuntimeException", "java/lang/Exception"]).filter goodWord, w ∈ lw_tbl := by decide +kernel
theorem wsL_law_x2 : ∀ w ∈ (vx_atS RX4 46 "java/lang/IllegalStateException" ["java/lang/RuntimeException", "java/lang/Exception"]).filter goodWord, w ∈ lw_tbl := by decide +kernel
theorem wsL_law_in : ∀ w ∈ wsL_law, w ∈ lw_tbl := fun w h => (List.mem_append.mp h).elim (fun h => (List.mem_append.mp h).elim (fun h => (List.mem_append.mp h).elim (fun h => wsL_law_in0 w h) (fun h => wsL_law_x0 w h)) (fun h => wsL_law_x1 w h)) (fun h => wsL_law_x2 w h)
theorem inlX0 : ∀ w ∈ wsX00, w ∈ wsL_law := fun _ h => List.mem_append_left _ (List.mem_append_left _ (List.mem_append_left _ (List.mem_append_left _ (List.mem_append_left _ (List.mem_append_left _ (List.mem_append_left _ (List.mem_append_right _ h)))))))
theorem inX0 : ∀ w ∈ wsX00, w ∈ lw_tbl := fun w h => wsL_law_in w (inlX0 w h)
theorem inlX1 : ∀ w ∈ wsX10, w ∈ wsL_law := fun _ h => List.mem_append_left _ (List.mem_append_left _ (List.mem_append_left _ (List.mem_append_left _ (List.mem_append_left _ (List.mem_append_left _ (List.mem_append_right _ h))))))
theorem inX1 : ∀ w ∈ wsX10, w ∈ lw_tbl := fun w h => wsL_law_in w (inlX1 w h)
theorem inlX2 : ∀ w ∈ wsX20, w ∈ wsL_law := fun _ h => List.mem_append_left _ (List.mem_append_left _ (List.mem_append_left _ (List.mem_append_left _ (List.mem_append_right _ h))))
theorem inX2 : ∀ w ∈ wsX20, w ∈ lw_tbl := fun w h => wsL_law_in w (inlX2 w h)
theorem inlX3 : ∀ w ∈ wsX30, w ∈ wsL_law := fun _ h => List.mem_append_left _ (List.mem_append_left _ (List.mem_append_left _ (List.mem_append_left _ (List.mem_append_left _ (List.mem_append_right _ h)))))
theorem inX3 : ∀ w ∈ wsX30, w ∈ lw_tbl := fun w h => wsL_law_in w (inlX3 w h)
theorem inlX4 : ∀ w ∈ wsX40, w ∈ wsL_law := fun _ h => List.mem_append_left _ (List.mem_append_left _ (List.mem_append_left _ (List.mem_append_left _ (List.mem_append_left _ (List.mem_append_left _ (List.mem_append_left _ (List.mem_append_left _ (List.mem_append_right _ h))))))))
theorem inX4 : ∀ w ∈ wsX40, w ∈ lw_tbl := fun w h => wsL_law_in w (inlX4 w h)
theorem inX5 : ∀ w ∈ wsX50, w ∈ lw_tbl := by decide +kernel
theorem inJ6 : ∀ w ∈ wsJ60, w ∈ lw_tbl := by decide +kernel
theorem inJ9 : ∀ w ∈ wsJ90, w ∈ lw_tbl := by decide +kernel
theorem inJ0 : ∀ w ∈ wsJ00, w ∈ lw_tbl := by decide +kernel
end
section
theorem dX0_init_0 : decode cX0_init 0 = .ok (.aload_n 0, 1) := by decide +kernel
theorem dX0_init_1 : decode cX0_init 1 = .ok (.invokespecial 3, 3) := by decide +kernel
theorem dX0_init_4 : decode cX0_init 4 = .ok (.aload_n 0, 1) := by decide +kernel
theorem dX0_init_5 : decode cX0_init 5 = .ok (.iconst 0, 1) := by decide +kernel
theorem dX0_init_6 : decode cX0_init 6 = .ok (.putfield 9, 3) := by decide +kernel
theorem dX0_init_9 : decode cX0_init 9 = .ok (.aload_n 0, 1) := by decide +kernel
theorem dX0_init_10 : decode cX0_init 10 = .ok (.bipush 8, 2) := by decide +kernel
theorem dX0_init_12 : decode cX0_init 12 = .ok (.newarray .int, 2) := by decide +kernel
theorem dX0_init_14 : decode cX0_init 14 = .ok (.putfield 15, 3) := by decide +kernel
theorem dX0_init_17 : decode cX0_init 17 = .ok (.aload_n 0, 1) := by decide +kernel
theorem dX0_init_18 : decode cX0_init 18 = .ok (.aload_n 1, 1) := by decide +kernel
theorem dX0_init_19 : decode cX0_init 19 = .ok (.putfield 19, 3) := by decide +kernel
theorem dX0_init_22 : decode cX0_init 22 = .ok (.aload_n 0, 1) := by decide +kernel
theorem dX0_init_23 : decode cX0_init 23 = .ok (.iload_n 2, 1) := by decide +kernel
theorem dX0_init_24 : decode cX0_init 24 = .ok (.putfield 23, 3) := by decide +kernel
theorem dX0_init_27 : decode cX0_init 27 = .ok (.iconst 0, 1) := by decide +kernel
theorem dX0_init_28 : decode cX0_init 28 = .ok (.istore_n 3, 1) := by decide +kernel
theorem dX0_init_29 : decode cX0_init 29 = .ok (.iload_n 3, 1) := by decide +kernel
theorem dX0_init_30 : decode cX0_init 30 = .ok (.aload_n 0, 1) := by decide +kernel
theorem dX0_init_31 : decode cX0_init 31 = .ok (.getfield 15, 3) := by decide +kernel
theorem dX0_init_34 : decode cX0_init 34 = .ok (.arraylength, 1) := by decide +kernel
theorem dX0_init_35 : decode cX0_init 35 = .ok (.if_icmp .ge 16, 3) := by decide +kernel
theorem dX0_init_38 : decode cX0_init 38 = .ok (.aload_n 0, 1) := by decide +kernel
theorem dX0_init_39 : decode cX0_init 39 = .ok (.getfield 15, 3) := by decide +kernel
theorem dX0_init_42 : decode cX0_init 42 = .ok (.iload_n 3, 1) := by decide +kernel
theorem dX0_init_43 : decode cX0_init 43 = .ok (.iconst (-1), 1) := by decide +kernel
theorem dX0_init_44 : decode cX0_init 44 = .ok (.iastore, 1) := by decide +kernel
theorem dX0_init_45 : decode cX0_init 45 = .ok (.iinc 3 1, 3) := by decide +kernel
theorem dX0_init_48 : decode cX0_init 48 = .ok (.goto (-19), 3) := by decide +kernel
theorem dX0_init_51 : decode cX0_init 51 = .ok (.return_, 1) := by decide +kernel
set_option maxRecDepth 20000 in
theorem ggX0_ceilingWhileOpen_X4_hasBit : GoodIn wsX0_ceilingWhileOpen wsX4_hasBit := goodIn_r _ [4] (by decide +kernel) (by decide +kernel)
set_option maxRecDepth 20000 in
theorem gX0_ceilingWhileOpen_X4_hasBit_n29 : GoodIn wsX0_ceilingWhileOpen (wsX4_hasBit) := ggX0_ceilingWhileOpen_X4_hasBit
theorem dX0_ceilingWhileOpen_0 : decode cX0_ceilingWhileOpen 0 = .ok (.iconst 4, 1) := by decide +kernel
theorem dX0_ceilingWhileOpen_1 : decode cX0_ceilingWhileOpen 1 = .ok (.aload_n 0, 1) := by decide +kernel
theorem dX0_ceilingWhileOpen_2 : decode cX0_ceilingWhileOpen 2 = .ok (.getfield 26, 3) := by decide +kernel
theorem dX0_ceilingWhileOpen_5 : decode cX0_ceilingWhileOpen 5 = .ok (.iconst 1, 1) := by decide +kernel
theorem dX0_ceilingWhileOpen_6 : decode cX0_ceilingWhileOpen 6 = .ok (.invokestatic 29, 3) := by decide +kernel
theorem dX0_ceilingWhileOpen_9 : decode cX0_ceilingWhileOpen 9 = .ok (.ifCond .eq 7, 3) := by decide +kernel
theorem dX0_ceilingWhileOpen_12 : decode cX0_ceilingWhileOpen 12 = .ok (.iconst 2, 1) := by decide +kernel
theorem dX0_ceilingWhileOpen_13 : decode cX0_ceilingWhileOpen 13 = .ok (.goto 4, 3) := by decide +kernel
theorem dX0_ceilingWhileOpen_16 : decode cX0_ceilingWhileOpen 16 = .ok (.iconst 0, 1) := by decide +kernel
theorem dX0_ceilingWhileOpen_17 : decode cX0_ceilingWhileOpen 17 = .ok (.iadd, 1) := by decide +kernel
theorem dX0_ceilingWhileOpen_18 : decode cX0_ceilingWhileOpen 18 = .ok (.aload_n 0, 1) := by decide +kernel
theorem dX0_ceilingWhileOpen_19 : decode cX0_ceilingWhileOpen 19 = .ok (.getfield 26, 3) := by decide +kernel
theorem dX0_ceilingWhileOpen_22 : decode cX0_ceilingWhileOpen 22 = .ok (.iconst 2, 1) := by decide +kernel
theorem dX0_ceilingWhileOpen_23 : decode cX0_ceilingWhileOpen 23 = .ok (.invokestatic 29, 3) := by decide +kernel
theorem dX0_ceilingWhileOpen_26 : decode cX0_ceilingWhileOpen 26 = .ok (.ifCond .eq 7, 3) := by decide +kernel
theorem dX0_ceilingWhileOpen_29 : decode cX0_ceilingWhileOpen 29 = .ok (.iconst 4, 1) := by decide +kernel
theorem dX0_ceilingWhileOpen_30 : decode cX0_ceilingWhileOpen 30 = .ok (.goto 4, 3) := by decide +kernel
theorem dX0_ceilingWhileOpen_33 : decode cX0_ceilingWhileOpen 33 = .ok (.iconst 0, 1) := by decide +kernel
theorem dX0_ceilingWhileOpen_34 : decode cX0_ceilingWhileOpen 34 = .ok (.iadd, 1) := by decide +kernel
theorem dX0_ceilingWhileOpen_35 : decode cX0_ceilingWhileOpen 35 = .ok (.ireturn, 1) := by decide +kernel
set_option maxRecDepth 20000 in
theorem ggX0_daysLeft_X0_ceilingWhileOpen : GoodIn wsX0_daysLeft wsX0_ceilingWhileOpen := goodIn_r _ [8, 9, 10, 11, 12, 13, 14, 15, 16, 17, 18, 19, 20, 21, 22, 23, 24, 25, 26] (by decide +kernel) (by decide +kernel)
set_option maxRecDepth 20000 in
theorem gX0_daysLeft_X0_ceilingWhileOpen : GoodIn wsX0_daysLeft (wsV RX0 36 RX0 yX0_ceilingWhileOpen wsX0_ceilingWhileOpen) := goodIn_app (goodIn_of _ (by decide +kernel)) ggX0_daysLeft_X0_ceilingWhileOpen
theorem dX0_daysLeft_0 : decode cX0_daysLeft 0 = .ok (.aload_n 0, 1) := by decide +kernel
theorem dX0_daysLeft_1 : decode cX0_daysLeft 1 = .ok (.getfield 9, 3) := by decide +kernel
theorem dX0_daysLeft_4 : decode cX0_daysLeft 4 = .ok (.iconst 2, 1) := by decide +kernel
theorem dX0_daysLeft_5 : decode cX0_daysLeft 5 = .ok (.if_icmp .ne 13, 3) := by decide +kernel
theorem dX0_daysLeft_8 : decode cX0_daysLeft 8 = .ok (.bipush 60, 2) := by decide +kernel
theorem dX0_daysLeft_10 : decode cX0_daysLeft 10 = .ok (.aload_n 0, 1) := by decide +kernel
theorem dX0_daysLeft_11 : decode cX0_daysLeft 11 = .ok (.getfield 33, 3) := by decide +kernel
theorem dX0_daysLeft_14 : decode cX0_daysLeft 14 = .ok (.isub, 1) := by decide +kernel
theorem dX0_daysLeft_15 : decode cX0_daysLeft 15 = .ok (.goto 12, 3) := by decide +kernel
theorem dX0_daysLeft_18 : decode cX0_daysLeft 18 = .ok (.aload_n 0, 1) := by decide +kernel
theorem dX0_daysLeft_19 : decode cX0_daysLeft 19 = .ok (.invokevirtual 36, 3) := by decide +kernel
theorem dX0_daysLeft_22 : decode cX0_daysLeft 22 = .ok (.aload_n 0, 1) := by decide +kernel
theorem dX0_daysLeft_23 : decode cX0_daysLeft 23 = .ok (.getfield 40, 3) := by decide +kernel
theorem dX0_daysLeft_26 : decode cX0_daysLeft 26 = .ok (.isub, 1) := by decide +kernel
theorem dX0_daysLeft_27 : decode cX0_daysLeft 27 = .ok (.ireturn, 1) := by decide +kernel
set_option maxRecDepth 20000 in
theorem ggX0_isReleasedAfter_X0_daysLeft : GoodIn wsX0_isReleasedAfter wsX0_daysLeft := goodIn_r _ [13, 5, 6, 7, 14, 15, 16, 12, 17, 18, 19, 20, 21, 22, 23, 24, 25, 26, 27, 28, 29, 30, 31, 32, 33, 34, 35] (by decide +kernel) (by decide +kernel)
set_option maxRecDepth 20000 in
theorem gX0_isReleasedAfter_X0_daysLeft : GoodIn wsX0_isReleasedAfter (wsV RX0 43 RX0 yX0_daysLeft wsX0_daysLeft) := goodIn_app (goodIn_of _ (by decide +kernel)) ggX0_isReleasedAfter_X0_daysLeft
theorem dX0_isReleasedAfter_0 : decode cX0_isReleasedAfter 0 = .ok (.aload_n 0, 1) := by decide +kernel
theorem dX0_isReleasedAfter_1 : decode cX0_isReleasedAfter 1 = .ok (.invokevirtual 43, 3) := by decide +kernel
theorem dX0_isReleasedAfter_4 : decode cX0_isReleasedAfter 4 = .ok (.istore_n 2, 1) := by decide +kernel
theorem dX0_isReleasedAfter_5 : decode cX0_isReleasedAfter 5 = .ok (.iload_n 1, 1) := by decide +kernel
theorem dX0_isReleasedAfter_6 : decode cX0_isReleasedAfter 6 = .ok (.iload_n 2, 1) := by decide +kernel
theorem dX0_isReleasedAfter_7 : decode cX0_isReleasedAfter 7 = .ok (.invokestatic 46, 3) := by decide +kernel
theorem dX0_isReleasedAfter_10 : decode cX0_isReleasedAfter 10 = .ok (.istore_n 3, 1) := by decide +kernel
theorem dX0_isReleasedAfter_11 : decode cX0_isReleasedAfter 11 = .ok (.aload_n 0, 1) := by decide +kernel
theorem dX0_isReleasedAfter_12 : decode cX0_isReleasedAfter 12 = .ok (.getfield 9, 3) := by decide +kernel
theorem dX0_isReleasedAfter_15 : decode cX0_isReleasedAfter 15 = .ok (.iconst 2, 1) := by decide +kernel
theorem dX0_isReleasedAfter_16 : decode cX0_isReleasedAfter 16 = .ok (.if_icmp .ne 16, 3) := by decide +kernel
theorem dX0_isReleasedAfter_19 : decode cX0_isReleasedAfter 19 = .ok (.aload_n 0, 1) := by decide +kernel
theorem dX0_isReleasedAfter_20 : decode cX0_isReleasedAfter 20 = .ok (.dup, 1) := by decide +kernel
theorem dX0_isReleasedAfter_21 : decode cX0_isReleasedAfter 21 = .ok (.getfield 33, 3) := by decide +kernel
theorem dX0_isReleasedAfter_24 : decode cX0_isReleasedAfter 24 = .ok (.iload_n 3, 1) := by decide +kernel
theorem dX0_isReleasedAfter_25 : decode cX0_isReleasedAfter 25 = .ok (.iadd, 1) := by decide +kernel
theorem dX0_isReleasedAfter_26 : decode cX0_isReleasedAfter 26 = .ok (.putfield 33, 3) := by decide +kernel
theorem dX0_isReleasedAfter_29 : decode cX0_isReleasedAfter 29 = .ok (.goto 13, 3) := by decide +kernel
theorem dX0_isReleasedAfter_32 : decode cX0_isReleasedAfter 32 = .ok (.aload_n 0, 1) := by decide +kernel
theorem dX0_isReleasedAfter_33 : decode cX0_isReleasedAfter 33 = .ok (.dup, 1) := by decide +kernel
theorem dX0_isReleasedAfter_34 : decode cX0_isReleasedAfter 34 = .ok (.getfield 40, 3) := by decide +kernel
theorem dX0_isReleasedAfter_37 : decode cX0_isReleasedAfter 37 = .ok (.iload_n 3, 1) := by decide +kernel
theorem dX0_isReleasedAfter_38 : decode cX0_isReleasedAfter 38 = .ok (.iadd, 1) := by decide +kernel
theorem dX0_isReleasedAfter_39 : decode cX0_isReleasedAfter 39 = .ok (.putfield 40, 3) := by decide +kernel
theorem dX0_isReleasedAfter_42 : decode cX0_isReleasedAfter 42 = .ok (.aload_n 0, 1) := by decide +kernel
theorem dX0_isReleasedAfter_43 : decode cX0_isReleasedAfter 43 = .ok (.iload_n 3, 1) := by decide +kernel
theorem dX0_isReleasedAfter_44 : decode cX0_isReleasedAfter 44 = .ok (.iload_n 2, 1) := by decide +kernel
theorem dX0_isReleasedAfter_45 : decode cX0_isReleasedAfter 45 = .ok (.if_icmp .ge 7, 3) := by decide +kernel
theorem dX0_isReleasedAfter_48 : decode cX0_isReleasedAfter 48 = .ok (.iconst 1, 1) := by decide +kernel
theorem dX0_isReleasedAfter_49 : decode cX0_isReleasedAfter 49 = .ok (.goto 4, 3) := by decide +kernel
theorem dX0_isReleasedAfter_52 : decode cX0_isReleasedAfter 52 = .ok (.iconst 0, 1) := by decide +kernel
theorem dX0_isReleasedAfter_53 : decode cX0_isReleasedAfter 53 = .ok (.putfield 52, 3) := by decide +kernel
theorem dX0_isReleasedAfter_56 : decode cX0_isReleasedAfter 56 = .ok (.aload_n 0, 1) := by decide +kernel
theorem dX0_isReleasedAfter_57 : decode cX0_isReleasedAfter 57 = .ok (.getfield 52, 3) := by decide +kernel
theorem dX0_isReleasedAfter_60 : decode cX0_isReleasedAfter 60 = .ok (.ifCond .ne 7, 3) := by decide +kernel
theorem dX0_isReleasedAfter_63 : decode cX0_isReleasedAfter 63 = .ok (.iconst 1, 1) := by decide +kernel
theorem dX0_isReleasedAfter_64 : decode cX0_isReleasedAfter 64 = .ok (.goto 4, 3) := by decide +kernel
theorem dX0_isReleasedAfter_67 : decode cX0_isReleasedAfter 67 = .ok (.iconst 0, 1) := by decide +kernel
theorem dX0_isReleasedAfter_68 : decode cX0_isReleasedAfter 68 = .ok (.ireturn, 1) := by decide +kernel
theorem dX0_hadAnswered_0 : decode cX0_hadAnswered 0 = .ok (.iload_n 1, 1) := by decide +kernel
theorem dX0_hadAnswered_1 : decode cX0_hadAnswered 1 = .ok (.ifCond .lt 12, 3) := by decide +kernel
theorem dX0_hadAnswered_4 : decode cX0_hadAnswered 4 = .ok (.iload_n 1, 1) := by decide +kernel
theorem dX0_hadAnswered_5 : decode cX0_hadAnswered 5 = .ok (.aload_n 0, 1) := by decide +kernel
theorem dX0_hadAnswered_6 : decode cX0_hadAnswered 6 = .ok (.getfield 15, 3) := by decide +kernel
theorem dX0_hadAnswered_9 : decode cX0_hadAnswered 9 = .ok (.arraylength, 1) := by decide +kernel
theorem dX0_hadAnswered_10 : decode cX0_hadAnswered 10 = .ok (.if_icmp .lt 5, 3) := by decide +kernel
theorem dX0_hadAnswered_13 : decode cX0_hadAnswered 13 = .ok (.iconst 0, 1) := by decide +kernel
theorem dX0_hadAnswered_14 : decode cX0_hadAnswered 14 = .ok (.ireturn, 1) := by decide +kernel
theorem dX0_hadAnswered_15 : decode cX0_hadAnswered 15 = .ok (.aload_n 0, 1) := by decide +kernel
theorem dX0_hadAnswered_16 : decode cX0_hadAnswered 16 = .ok (.getfield 15, 3) := by decide +kernel
theorem dX0_hadAnswered_19 : decode cX0_hadAnswered 19 = .ok (.iload_n 1, 1) := by decide +kernel
theorem dX0_hadAnswered_20 : decode cX0_hadAnswered 20 = .ok (.iaload, 1) := by decide +kernel
theorem dX0_hadAnswered_21 : decode cX0_hadAnswered 21 = .ok (.iconst (-1), 1) := by decide +kernel
theorem dX0_hadAnswered_22 : decode cX0_hadAnswered 22 = .ok (.if_icmp .eq 17, 3) := by decide +kernel
theorem dX0_hadAnswered_25 : decode cX0_hadAnswered 25 = .ok (.aload_n 0, 1) := by decide +kernel
theorem dX0_hadAnswered_26 : decode cX0_hadAnswered 26 = .ok (.getfield 15, 3) := by decide +kernel
theorem dX0_hadAnswered_29 : decode cX0_hadAnswered 29 = .ok (.iload_n 1, 1) := by decide +kernel
theorem dX0_hadAnswered_30 : decode cX0_hadAnswered 30 = .ok (.iaload, 1) := by decide +kernel
theorem dX0_hadAnswered_31 : decode cX0_hadAnswered 31 = .ok (.iload_n 2, 1) := by decide +kernel
theorem dX0_hadAnswered_32 : decode cX0_hadAnswered 32 = .ok (.if_icmp .gt 7, 3) := by decide +kernel
theorem dX0_hadAnswered_35 : decode cX0_hadAnswered 35 = .ok (.iconst 1, 1) := by decide +kernel
theorem dX0_hadAnswered_36 : decode cX0_hadAnswered 36 = .ok (.goto 4, 3) := by decide +kernel
theorem dX0_hadAnswered_39 : decode cX0_hadAnswered 39 = .ok (.iconst 0, 1) := by decide +kernel
theorem dX0_hadAnswered_40 : decode cX0_hadAnswered 40 = .ok (.ireturn, 1) := by decide +kernel
set_option maxRecDepth 20000 in
theorem ggX0_answerCharges_X4_hasBit : GoodIn wsX0_answerCharges wsX4_hasBit := goodIn_r _ [9] (by decide +kernel) (by decide +kernel)
set_option maxRecDepth 20000 in
theorem gX0_answerCharges_X4_hasBit_n29 : GoodIn wsX0_answerCharges (wsX4_hasBit) := ggX0_answerCharges_X4_hasBit
theorem dX0_answerCharges_0 : decode cX0_answerCharges 0 = .ok (.iconst 0, 1) := by decide +kernel
theorem dX0_answerCharges_1 : decode cX0_answerCharges 1 = .ok (.istore_n 3, 1) := by decide +kernel
theorem dX0_answerCharges_2 : decode cX0_answerCharges 2 = .ok (.iload_n 3, 1) := by decide +kernel
theorem dX0_answerCharges_3 : decode cX0_answerCharges 3 = .ok (.aload_n 0, 1) := by decide +kernel
theorem dX0_answerCharges_4 : decode cX0_answerCharges 4 = .ok (.getfield 15, 3) := by decide +kernel
theorem dX0_answerCharges_7 : decode cX0_answerCharges 7 = .ok (.arraylength, 1) := by decide +kernel
theorem dX0_answerCharges_8 : decode cX0_answerCharges 8 = .ok (.if_icmp .ge 37, 3) := by decide +kernel
theorem dX0_answerCharges_11 : decode cX0_answerCharges 11 = .ok (.aload_n 0, 1) := by decide +kernel
theorem dX0_answerCharges_12 : decode cX0_answerCharges 12 = .ok (.getfield 56, 3) := by decide +kernel
theorem dX0_answerCharges_15 : decode cX0_answerCharges 15 = .ok (.iload_n 3, 1) := by decide +kernel
theorem dX0_answerCharges_16 : decode cX0_answerCharges 16 = .ok (.invokestatic 29, 3) := by decide +kernel
theorem dX0_answerCharges_19 : decode cX0_answerCharges 19 = .ok (.ifCond .eq 20, 3) := by decide +kernel
theorem dX0_answerCharges_22 : decode cX0_answerCharges 22 = .ok (.aload_n 0, 1) := by decide +kernel
theorem dX0_answerCharges_23 : decode cX0_answerCharges 23 = .ok (.getfield 15, 3) := by decide +kernel
theorem dX0_answerCharges_26 : decode cX0_answerCharges 26 = .ok (.iload_n 3, 1) := by decide +kernel
theorem dX0_answerCharges_27 : decode cX0_answerCharges 27 = .ok (.iaload, 1) := by decide +kernel
theorem dX0_answerCharges_28 : decode cX0_answerCharges 28 = .ok (.iconst (-1), 1) := by decide +kernel
theorem dX0_answerCharges_29 : decode cX0_answerCharges 29 = .ok (.if_icmp .ne 10, 3) := by decide +kernel
theorem dX0_answerCharges_32 : decode cX0_answerCharges 32 = .ok (.aload_n 0, 1) := by decide +kernel
theorem dX0_answerCharges_33 : decode cX0_answerCharges 33 = .ok (.getfield 15, 3) := by decide +kernel
theorem dX0_answerCharges_36 : decode cX0_answerCharges 36 = .ok (.iload_n 3, 1) := by decide +kernel
theorem dX0_answerCharges_37 : decode cX0_answerCharges 37 = .ok (.iload_n 2, 1) := by decide +kernel
theorem dX0_answerCharges_38 : decode cX0_answerCharges 38 = .ok (.iastore, 1) := by decide +kernel
theorem dX0_answerCharges_39 : decode cX0_answerCharges 39 = .ok (.iinc 3 1, 3) := by decide +kernel
theorem dX0_answerCharges_42 : decode cX0_answerCharges 42 = .ok (.goto (-40), 3) := by decide +kernel
theorem dX0_answerCharges_45 : decode cX0_answerCharges 45 = .ok (.aload_n 0, 1) := by decide +kernel
theorem dX0_answerCharges_46 : decode cX0_answerCharges 46 = .ok (.dup, 1) := by decide +kernel
theorem dX0_answerCharges_47 : decode cX0_answerCharges 47 = .ok (.getfield 59, 3) := by decide +kernel
theorem dX0_answerCharges_50 : decode cX0_answerCharges 50 = .ok (.iload_n 1, 1) := by decide +kernel
theorem dX0_answerCharges_51 : decode cX0_answerCharges 51 = .ok (.ior, 1) := by decide +kernel
theorem dX0_answerCharges_52 : decode cX0_answerCharges 52 = .ok (.putfield 59, 3) := by decide +kernel
theorem dX0_answerCharges_55 : decode cX0_answerCharges 55 = .ok (.aload_n 0, 1) := by decide +kernel
theorem dX0_answerCharges_56 : decode cX0_answerCharges 56 = .ok (.iconst 0, 1) := by decide +kernel
theorem dX0_answerCharges_57 : decode cX0_answerCharges 57 = .ok (.putfield 56, 3) := by decide +kernel
theorem dX0_answerCharges_60 : decode cX0_answerCharges 60 = .ok (.aload_n 0, 1) := by decide +kernel
theorem dX0_answerCharges_61 : decode cX0_answerCharges 61 = .ok (.iconst 0, 1) := by decide +kernel
theorem dX0_answerCharges_62 : decode cX0_answerCharges 62 = .ok (.putfield 33, 3) := by decide +kernel
theorem dX0_answerCharges_65 : decode cX0_answerCharges 65 = .ok (.aload_n 0, 1) := by decide +kernel
theorem dX0_answerCharges_66 : decode cX0_answerCharges 66 = .ok (.iconst 0, 1) := by decide +kernel
theorem dX0_answerCharges_67 : decode cX0_answerCharges 67 = .ok (.putfield 52, 3) := by decide +kernel
theorem dX0_answerCharges_70 : decode cX0_answerCharges 70 = .ok (.aload_n 0, 1) := by decide +kernel
theorem dX0_answerCharges_71 : decode cX0_answerCharges 71 = .ok (.iconst 0, 1) := by decide +kernel
theorem dX0_answerCharges_72 : decode cX0_answerCharges 72 = .ok (.putfield 9, 3) := by decide +kernel
theorem dX0_answerCharges_75 : decode cX0_answerCharges 75 = .ok (.return_, 1) := by decide +kernel
theorem dX1_init_0 : decode cX1_init 0 = .ok (.aload_n 0, 1) := by decide +kernel
theorem dX1_init_1 : decode cX1_init 1 = .ok (.invokespecial 3, 3) := by decide +kernel
theorem dX1_init_4 : decode cX1_init 4 = .ok (.aload_n 0, 1) := by decide +kernel
theorem dX1_init_5 : decode cX1_init 5 = .ok (.bipush 8, 2) := by decide +kernel
theorem dX1_init_7 : decode cX1_init 7 = .ok (.anewarray 9, 3) := by decide +kernel
theorem dX1_init_10 : decode cX1_init 10 = .ok (.putfield 11, 3) := by decide +kernel
theorem dX1_init_13 : decode cX1_init 13 = .ok (.aload_n 0, 1) := by decide +kernel
theorem dX1_init_14 : decode cX1_init 14 = .ok (.iload_n 1, 1) := by decide +kernel
theorem dX1_init_15 : decode cX1_init 15 = .ok (.putfield 17, 3) := by decide +kernel
theorem dX1_init_18 : decode cX1_init 18 = .ok (.aload_n 0, 1) := by decide +kernel
theorem dX1_init_19 : decode cX1_init 19 = .ok (.iload_n 2, 1) := by decide +kernel
theorem dX1_init_20 : decode cX1_init 20 = .ok (.putfield 21, 3) := by decide +kernel
theorem dX1_init_23 : decode cX1_init 23 = .ok (.aload_n 0, 1) := by decide +kernel
theorem dX1_init_24 : decode cX1_init 24 = .ok (.iload_n 3, 1) := by decide +kernel
theorem dX1_init_25 : decode cX1_init 25 = .ok (.putfield 24, 3) := by decide +kernel
theorem dX1_init_28 : decode cX1_init 28 = .ok (.aload_n 0, 1) := by decide +kernel
theorem dX1_init_29 : decode cX1_init 29 = .ok (.iload 4, 2) := by decide +kernel
theorem dX1_init_31 : decode cX1_init 31 = .ok (.putfield 27, 3) := by decide +kernel
theorem dX1_init_34 : decode cX1_init 34 = .ok (.return_, 1) := by decide +kernel
theorem dX1_hasAll_0 : decode cX1_hasAll 0 = .ok (.iload_n 1, 1) := by decide +kernel
theorem dX1_hasAll_1 : decode cX1_hasAll 1 = .ok (.ifCond .eq 18, 3) := by decide +kernel
theorem dX1_hasAll_4 : decode cX1_hasAll 4 = .ok (.iload_n 1, 1) := by decide +kernel
theorem dX1_hasAll_5 : decode cX1_hasAll 5 = .ok (.aload_n 0, 1) := by decide +kernel
theorem dX1_hasAll_6 : decode cX1_hasAll 6 = .ok (.getfield 24, 3) := by decide +kernel
theorem dX1_hasAll_9 : decode cX1_hasAll 9 = .ok (.iconst (-1), 1) := by decide +kernel
theorem dX1_hasAll_10 : decode cX1_hasAll 10 = .ok (.ixor, 1) := by decide +kernel
theorem dX1_hasAll_11 : decode cX1_hasAll 11 = .ok (.iand, 1) := by decide +kernel
theorem dX1_hasAll_12 : decode cX1_hasAll 12 = .ok (.ifCond .ne 7, 3) := by decide +kernel
theorem dX1_hasAll_15 : decode cX1_hasAll 15 = .ok (.iconst 1, 1) := by decide +kernel
theorem dX1_hasAll_16 : decode cX1_hasAll 16 = .ok (.goto 4, 3) := by decide +kernel
theorem dX1_hasAll_19 : decode cX1_hasAll 19 = .ok (.iconst 0, 1) := by decide +kernel
theorem dX1_hasAll_20 : decode cX1_hasAll 20 = .ok (.ireturn, 1) := by decide +kernel
theorem dX1_rowOf_0 : decode cX1_rowOf 0 = .ok (.iload_n 1, 1) := by decide +kernel
theorem dX1_rowOf_1 : decode cX1_rowOf 1 = .ok (.ifCond .lt 12, 3) := by decide +kernel
theorem dX1_rowOf_4 : decode cX1_rowOf 4 = .ok (.iload_n 1, 1) := by decide +kernel
theorem dX1_rowOf_5 : decode cX1_rowOf 5 = .ok (.aload_n 0, 1) := by decide +kernel
theorem dX1_rowOf_6 : decode cX1_rowOf 6 = .ok (.getfield 11, 3) := by decide +kernel
theorem dX1_rowOf_9 : decode cX1_rowOf 9 = .ok (.arraylength, 1) := by decide +kernel
theorem dX1_rowOf_10 : decode cX1_rowOf 10 = .ok (.if_icmp .lt 7, 3) := by decide +kernel
theorem dX1_rowOf_13 : decode cX1_rowOf 13 = .ok (.aconst_null, 1) := by decide +kernel
theorem dX1_rowOf_14 : decode cX1_rowOf 14 = .ok (.goto 9, 3) := by decide +kernel
theorem dX1_rowOf_17 : decode cX1_rowOf 17 = .ok (.aload_n 0, 1) := by decide +kernel
theorem dX1_rowOf_18 : decode cX1_rowOf 18 = .ok (.getfield 11, 3) := by decide +kernel
theorem dX1_rowOf_21 : decode cX1_rowOf 21 = .ok (.iload_n 1, 1) := by decide +kernel
theorem dX1_rowOf_22 : decode cX1_rowOf 22 = .ok (.aaload, 1) := by decide +kernel
theorem dX1_rowOf_23 : decode cX1_rowOf 23 = .ok (.areturn, 1) := by decide +kernel
set_option maxRecDepth 20000 in
theorem ggX1_passInCustody_X0_isReleasedAfter : GoodIn wsX1_passInCustody wsX0_isReleasedAfter := goodIn_r _ [7, 8, 9, 10, 11, 12, 13, 14, 15, 16, 17, 18, 6, 19, 20, 21, 22, 23, 24, 25, 26, 27, 33, 34, 35, 36, 37, 38, 39, 40, 41, 42, 43, 44, 45, 46] (by decide +kernel) (by decide +kernel)
set_option maxRecDepth 20000 in
theorem gX1_passInCustody_X0_isReleasedAfter : GoodIn wsX1_passInCustody (wsV RX1 34 RX0 yX0_isReleasedAfter wsX0_isReleasedAfter) := goodIn_app (goodIn_of _ (by decide +kernel)) ggX1_passInCustody_X0_isReleasedAfter
theorem dX1_passInCustody_0 : decode cX1_passInCustody 0 = .ok (.iconst 0, 1) := by decide +kernel
theorem dX1_passInCustody_1 : decode cX1_passInCustody 1 = .ok (.istore_n 2, 1) := by decide +kernel
theorem dX1_passInCustody_2 : decode cX1_passInCustody 2 = .ok (.aload_n 0, 1) := by decide +kernel
theorem dX1_passInCustody_3 : decode cX1_passInCustody 3 = .ok (.getfield 11, 3) := by decide +kernel
theorem dX1_passInCustody_6 : decode cX1_passInCustody 6 = .ok (.astore_n 3, 1) := by decide +kernel
theorem dX1_passInCustody_7 : decode cX1_passInCustody 7 = .ok (.aload_n 3, 1) := by decide +kernel
theorem dX1_passInCustody_8 : decode cX1_passInCustody 8 = .ok (.arraylength, 1) := by decide +kernel
theorem dX1_passInCustody_9 : decode cX1_passInCustody 9 = .ok (.istore 4, 2) := by decide +kernel
theorem dX1_passInCustody_11 : decode cX1_passInCustody 11 = .ok (.iconst 0, 1) := by decide +kernel
theorem dX1_passInCustody_12 : decode cX1_passInCustody 12 = .ok (.istore 5, 2) := by decide +kernel
theorem dX1_passInCustody_14 : decode cX1_passInCustody 14 = .ok (.iload 5, 2) := by decide +kernel
theorem dX1_passInCustody_16 : decode cX1_passInCustody 16 = .ok (.iload 4, 2) := by decide +kernel
theorem dX1_passInCustody_18 : decode cX1_passInCustody 18 = .ok (.if_icmp .ge 40, 3) := by decide +kernel
theorem dX1_passInCustody_21 : decode cX1_passInCustody 21 = .ok (.aload_n 3, 1) := by decide +kernel
theorem dX1_passInCustody_22 : decode cX1_passInCustody 22 = .ok (.iload 5, 2) := by decide +kernel
theorem dX1_passInCustody_24 : decode cX1_passInCustody 24 = .ok (.aaload, 1) := by decide +kernel
theorem dX1_passInCustody_25 : decode cX1_passInCustody 25 = .ok (.astore 6, 2) := by decide +kernel
theorem dX1_passInCustody_27 : decode cX1_passInCustody 27 = .ok (.aload 6, 2) := by decide +kernel
theorem dX1_passInCustody_29 : decode cX1_passInCustody 29 = .ok (.ifnull 23, 3) := by decide +kernel
theorem dX1_passInCustody_32 : decode cX1_passInCustody 32 = .ok (.aload 6, 2) := by decide +kernel
theorem dX1_passInCustody_34 : decode cX1_passInCustody 34 = .ok (.getfield 30, 3) := by decide +kernel
theorem dX1_passInCustody_37 : decode cX1_passInCustody 37 = .ok (.ifCond .eq 15, 3) := by decide +kernel
theorem dX1_passInCustody_40 : decode cX1_passInCustody 40 = .ok (.aload 6, 2) := by decide +kernel
theorem dX1_passInCustody_42 : decode cX1_passInCustody 42 = .ok (.iload_n 1, 1) := by decide +kernel
theorem dX1_passInCustody_43 : decode cX1_passInCustody 43 = .ok (.invokevirtual 34, 3) := by decide +kernel
theorem dX1_passInCustody_46 : decode cX1_passInCustody 46 = .ok (.ifCond .eq 6, 3) := by decide +kernel
theorem dX1_passInCustody_49 : decode cX1_passInCustody 49 = .ok (.iinc 2 1, 3) := by decide +kernel
theorem dX1_passInCustody_52 : decode cX1_passInCustody 52 = .ok (.iinc 5 1, 3) := by decide +kernel
theorem dX1_passInCustody_55 : decode cX1_passInCustody 55 = .ok (.goto (-41), 3) := by decide +kernel
theorem dX1_passInCustody_58 : decode cX1_passInCustody 58 = .ok (.iload_n 2, 1) := by decide +kernel
theorem dX1_passInCustody_59 : decode cX1_passInCustody 59 = .ok (.ireturn, 1) := by decide +kernel
theorem dX2_init_0 : decode cX2_init 0 = .ok (.aload_n 0, 1) := by decide +kernel
theorem dX2_init_1 : decode cX2_init 1 = .ok (.invokespecial 3, 3) := by decide +kernel
theorem dX2_init_4 : decode cX2_init 4 = .ok (.aload_n 0, 1) := by decide +kernel
theorem dX2_init_5 : decode cX2_init 5 = .ok (.iconst (-1), 1) := by decide +kernel
theorem dX2_init_6 : decode cX2_init 6 = .ok (.putfield 9, 3) := by decide +kernel
theorem dX2_init_9 : decode cX2_init 9 = .ok (.aload_n 0, 1) := by decide +kernel
theorem dX2_init_10 : decode cX2_init 10 = .ok (.iload_n 1, 1) := by decide +kernel
theorem dX2_init_11 : decode cX2_init 11 = .ok (.putfield 15, 3) := by decide +kernel
theorem dX2_init_14 : decode cX2_init 14 = .ok (.aload_n 0, 1) := by decide +kernel
theorem dX2_init_15 : decode cX2_init 15 = .ok (.iload_n 2, 1) := by decide +kernel
theorem dX2_init_16 : decode cX2_init 16 = .ok (.putfield 18, 3) := by decide +kernel
theorem dX2_init_19 : decode cX2_init 19 = .ok (.aload_n 0, 1) := by decide +kernel
theorem dX2_init_20 : decode cX2_init 20 = .ok (.iload_n 3, 1) := by decide +kernel
theorem dX2_init_21 : decode cX2_init 21 = .ok (.putfield 21, 3) := by decide +kernel
theorem dX2_init_24 : decode cX2_init 24 = .ok (.aload_n 0, 1) := by decide +kernel
theorem dX2_init_25 : decode cX2_init 25 = .ok (.iload 4, 2) := by decide +kernel
theorem dX2_init_27 : decode cX2_init 27 = .ok (.putfield 24, 3) := by decide +kernel
theorem dX2_init_30 : decode cX2_init 30 = .ok (.aload_n 0, 1) := by decide +kernel
theorem dX2_init_31 : decode cX2_init 31 = .ok (.iload 5, 2) := by decide +kernel
theorem dX2_init_33 : decode cX2_init 33 = .ok (.putfield 27, 3) := by decide +kernel
theorem dX2_init_36 : decode cX2_init 36 = .ok (.aload_n 0, 1) := by decide +kernel
theorem dX2_init_37 : decode cX2_init 37 = .ok (.iload 6, 2) := by decide +kernel
theorem dX2_init_39 : decode cX2_init 39 = .ok (.putfield 30, 3) := by decide +kernel
theorem dX2_init_42 : decode cX2_init 42 = .ok (.aload_n 0, 1) := by decide +kernel
theorem dX2_init_43 : decode cX2_init 43 = .ok (.iload 7, 2) := by decide +kernel
theorem dX2_init_45 : decode cX2_init 45 = .ok (.putfield 34, 3) := by decide +kernel
theorem dX2_init_48 : decode cX2_init 48 = .ok (.return_, 1) := by decide +kernel
set_option maxRecDepth 20000 in
theorem ggX2_isAgainst_X4_hasBit : GoodIn wsX2_isAgainst wsX4_hasBit := goodIn_r _ [4] (by decide +kernel) (by decide +kernel)
set_option maxRecDepth 20000 in
theorem gX2_isAgainst_X4_hasBit_n37 : GoodIn wsX2_isAgainst (wsX4_hasBit) := ggX2_isAgainst_X4_hasBit
theorem dX2_isAgainst_0 : decode cX2_isAgainst 0 = .ok (.aload_n 0, 1) := by decide +kernel
theorem dX2_isAgainst_1 : decode cX2_isAgainst 1 = .ok (.getfield 24, 3) := by decide +kernel
theorem dX2_isAgainst_4 : decode cX2_isAgainst 4 = .ok (.iload_n 1, 1) := by decide +kernel
theorem dX2_isAgainst_5 : decode cX2_isAgainst 5 = .ok (.invokestatic 37, 3) := by decide +kernel
theorem dX2_isAgainst_8 : decode cX2_isAgainst 8 = .ok (.ireturn, 1) := by decide +kernel
set_option maxRecDepth 20000 in
theorem ggX2_wasShownTo_X4_hasBit : GoodIn wsX2_wasShownTo wsX4_hasBit := goodIn_r _ [4] (by decide +kernel) (by decide +kernel)
set_option maxRecDepth 20000 in
theorem gX2_wasShownTo_X4_hasBit_n37 : GoodIn wsX2_wasShownTo (wsX4_hasBit) := ggX2_wasShownTo_X4_hasBit
theorem dX2_wasShownTo_0 : decode cX2_wasShownTo 0 = .ok (.aload_n 0, 1) := by decide +kernel
theorem dX2_wasShownTo_1 : decode cX2_wasShownTo 1 = .ok (.getfield 41, 3) := by decide +kernel
theorem dX2_wasShownTo_4 : decode cX2_wasShownTo 4 = .ok (.iload_n 1, 1) := by decide +kernel
theorem dX2_wasShownTo_5 : decode cX2_wasShownTo 5 = .ok (.invokestatic 37, 3) := by decide +kernel
theorem dX2_wasShownTo_8 : decode cX2_wasShownTo 8 = .ok (.ireturn, 1) := by decide +kernel
theorem dX2_countsOn_0 : decode cX2_countsOn 0 = .ok (.aload_n 0, 1) := by decide +kernel
theorem dX2_countsOn_1 : decode cX2_countsOn 1 = .ok (.getfield 9, 3) := by decide +kernel
theorem dX2_countsOn_4 : decode cX2_countsOn 4 = .ok (.iconst (-1), 1) := by decide +kernel
theorem dX2_countsOn_5 : decode cX2_countsOn 5 = .ok (.if_icmp .eq 15, 3) := by decide +kernel
theorem dX2_countsOn_8 : decode cX2_countsOn 8 = .ok (.aload_n 0, 1) := by decide +kernel
theorem dX2_countsOn_9 : decode cX2_countsOn 9 = .ok (.getfield 9, 3) := by decide +kernel
theorem dX2_countsOn_12 : decode cX2_countsOn 12 = .ok (.iload_n 1, 1) := by decide +kernel
theorem dX2_countsOn_13 : decode cX2_countsOn 13 = .ok (.if_icmp .gt 7, 3) := by decide +kernel
theorem dX2_countsOn_16 : decode cX2_countsOn 16 = .ok (.iconst 1, 1) := by decide +kernel
theorem dX2_countsOn_17 : decode cX2_countsOn 17 = .ok (.goto 4, 3) := by decide +kernel
theorem dX2_countsOn_20 : decode cX2_countsOn 20 = .ok (.iconst 0, 1) := by decide +kernel
theorem dX2_countsOn_21 : decode cX2_countsOn 21 = .ok (.istore_n 2, 1) := by decide +kernel
theorem dX2_countsOn_22 : decode cX2_countsOn 22 = .ok (.aload_n 0, 1) := by decide +kernel
theorem dX2_countsOn_23 : decode cX2_countsOn 23 = .ok (.getfield 34, 3) := by decide +kernel
theorem dX2_countsOn_26 : decode cX2_countsOn 26 = .ok (.iload_n 1, 1) := by decide +kernel
theorem dX2_countsOn_27 : decode cX2_countsOn 27 = .ok (.if_icmp .gt 18, 3) := by decide +kernel
theorem dX2_countsOn_30 : decode cX2_countsOn 30 = .ok (.aload_n 0, 1) := by decide +kernel
theorem dX2_countsOn_31 : decode cX2_countsOn 31 = .ok (.getfield 27, 3) := by decide +kernel
theorem dX2_countsOn_34 : decode cX2_countsOn 34 = .ok (.ifCond .eq 7, 3) := by decide +kernel
theorem dX2_countsOn_37 : decode cX2_countsOn 37 = .ok (.iload_n 2, 1) := by decide +kernel
theorem dX2_countsOn_38 : decode cX2_countsOn 38 = .ok (.ifCond .eq 7, 3) := by decide +kernel
theorem dX2_countsOn_41 : decode cX2_countsOn 41 = .ok (.iconst 1, 1) := by decide +kernel
theorem dX2_countsOn_42 : decode cX2_countsOn 42 = .ok (.goto 4, 3) := by decide +kernel
theorem dX2_countsOn_45 : decode cX2_countsOn 45 = .ok (.iconst 0, 1) := by decide +kernel
theorem dX2_countsOn_46 : decode cX2_countsOn 46 = .ok (.ireturn, 1) := by decide +kernel
set_option maxRecDepth 20000 in
theorem ggX2_isLackedBy_X2_isAgainst : GoodIn wsX2_isLackedBy wsX2_isAgainst := goodIn_r _ [7, 8, 9, 10, 11, 17, 18, 19, 20, 21, 22, 23, 24, 25, 26] (by decide +kernel) (by decide +kernel)
set_option maxRecDepth 20000 in
theorem gX2_isLackedBy_X2_isAgainst : GoodIn wsX2_isLackedBy (wsV RX2 44 RX2 yX2_isAgainst wsX2_isAgainst) := goodIn_app (goodIn_of _ (by decide +kernel)) ggX2_isLackedBy_X2_isAgainst
set_option maxRecDepth 20000 in
theorem ggX2_isLackedBy_X2_wasShownTo : GoodIn wsX2_isLackedBy wsX2_wasShownTo := goodIn_r _ [15, 16, 9, 10, 11, 17, 18, 19, 20, 21, 22, 23, 24, 25, 26] (by decide +kernel) (by decide +kernel)
set_option maxRecDepth 20000 in
theorem gX2_isLackedBy_X2_wasShownTo : GoodIn wsX2_isLackedBy (wsV RX2 48 RX2 yX2_wasShownTo wsX2_wasShownTo) := goodIn_app (goodIn_of _ (by decide +kernel)) ggX2_isLackedBy_X2_wasShownTo
theorem dX2_isLackedBy_0 : decode cX2_isLackedBy 0 = .ok (.aload_n 0, 1) := by decide +kernel
theorem dX2_isLackedBy_1 : decode cX2_isLackedBy 1 = .ok (.getfield 21, 3) := by decide +kernel
theorem dX2_isLackedBy_4 : decode cX2_isLackedBy 4 = .ok (.ifCond .ge 30, 3) := by decide +kernel
theorem dX2_isLackedBy_7 : decode cX2_isLackedBy 7 = .ok (.aload_n 0, 1) := by decide +kernel
theorem dX2_isLackedBy_8 : decode cX2_isLackedBy 8 = .ok (.iload_n 1, 1) := by decide +kernel
theorem dX2_isLackedBy_9 : decode cX2_isLackedBy 9 = .ok (.invokevirtual 44, 3) := by decide +kernel
theorem dX2_isLackedBy_12 : decode cX2_isLackedBy 12 = .ok (.ifCond .eq 22, 3) := by decide +kernel
theorem dX2_isLackedBy_15 : decode cX2_isLackedBy 15 = .ok (.aload_n 0, 1) := by decide +kernel
theorem dX2_isLackedBy_16 : decode cX2_isLackedBy 16 = .ok (.iload_n 1, 1) := by decide +kernel
theorem dX2_isLackedBy_17 : decode cX2_isLackedBy 17 = .ok (.invokevirtual 48, 3) := by decide +kernel
theorem dX2_isLackedBy_20 : decode cX2_isLackedBy 20 = .ok (.ifCond .ne 14, 3) := by decide +kernel
theorem dX2_isLackedBy_23 : decode cX2_isLackedBy 23 = .ok (.aload_n 0, 1) := by decide +kernel
theorem dX2_isLackedBy_24 : decode cX2_isLackedBy 24 = .ok (.getfield 51, 3) := by decide +kernel
theorem dX2_isLackedBy_27 : decode cX2_isLackedBy 27 = .ok (.ifCond .ne 7, 3) := by decide +kernel
theorem dX2_isLackedBy_30 : decode cX2_isLackedBy 30 = .ok (.iconst 1, 1) := by decide +kernel
theorem dX2_isLackedBy_31 : decode cX2_isLackedBy 31 = .ok (.goto 4, 3) := by decide +kernel
theorem dX2_isLackedBy_34 : decode cX2_isLackedBy 34 = .ok (.iconst 0, 1) := by decide +kernel
theorem dX2_isLackedBy_35 : decode cX2_isLackedBy 35 = .ok (.ireturn, 1) := by decide +kernel
theorem dX3_init_0 : decode cX3_init 0 = .ok (.aload_n 0, 1) := by decide +kernel
theorem dX3_init_1 : decode cX3_init 1 = .ok (.invokespecial 1, 3) := by decide +kernel
theorem dX3_init_4 : decode cX3_init 4 = .ok (.aload_n 0, 1) := by decide +kernel
theorem dX3_init_5 : decode cX3_init 5 = .ok (.iload_n 1, 1) := by decide +kernel
theorem dX3_init_6 : decode cX3_init 6 = .ok (.putfield 7, 3) := by decide +kernel
theorem dX3_init_9 : decode cX3_init 9 = .ok (.aload_n 0, 1) := by decide +kernel
theorem dX3_init_10 : decode cX3_init 10 = .ok (.iload_n 2, 1) := by decide +kernel
theorem dX3_init_11 : decode cX3_init 11 = .ok (.putfield 13, 3) := by decide +kernel
theorem dX3_init_14 : decode cX3_init 14 = .ok (.aload_n 0, 1) := by decide +kernel
theorem dX3_init_15 : decode cX3_init 15 = .ok (.iload_n 3, 1) := by decide +kernel
theorem dX3_init_16 : decode cX3_init 16 = .ok (.putfield 16, 3) := by decide +kernel
theorem dX3_init_19 : decode cX3_init 19 = .ok (.return_, 1) := by decide +kernel
set_option maxRecDepth 20000 in
theorem ggX3_excludes_X4_hasBit : GoodIn wsX3_excludes wsX4_hasBit := goodIn_r _ [4] (by decide +kernel) (by decide +kernel)
set_option maxRecDepth 20000 in
theorem gX3_excludes_X4_hasBit_n22 : GoodIn wsX3_excludes (wsX4_hasBit) := ggX3_excludes_X4_hasBit
theorem dX3_excludes_0 : decode cX3_excludes 0 = .ok (.aload_n 0, 1) := by decide +kernel
theorem dX3_excludes_1 : decode cX3_excludes 1 = .ok (.getfield 19, 3) := by decide +kernel
theorem dX3_excludes_4 : decode cX3_excludes 4 = .ok (.iload_n 1, 1) := by decide +kernel
theorem dX3_excludes_5 : decode cX3_excludes 5 = .ok (.invokestatic 22, 3) := by decide +kernel
theorem dX3_excludes_8 : decode cX3_excludes 8 = .ok (.ireturn, 1) := by decide +kernel
theorem dX3_nestsIn_0 : decode cX3_nestsIn 0 = .ok (.aload_n 0, 1) := by decide +kernel
theorem dX3_nestsIn_1 : decode cX3_nestsIn 1 = .ok (.getfield 7, 3) := by decide +kernel
theorem dX3_nestsIn_4 : decode cX3_nestsIn 4 = .ok (.aload_n 1, 1) := by decide +kernel
theorem dX3_nestsIn_5 : decode cX3_nestsIn 5 = .ok (.getfield 7, 3) := by decide +kernel
theorem dX3_nestsIn_8 : decode cX3_nestsIn 8 = .ok (.if_icmp .eq 21, 3) := by decide +kernel
theorem dX3_nestsIn_11 : decode cX3_nestsIn 11 = .ok (.aload_n 0, 1) := by decide +kernel
theorem dX3_nestsIn_12 : decode cX3_nestsIn 12 = .ok (.getfield 7, 3) := by decide +kernel
theorem dX3_nestsIn_15 : decode cX3_nestsIn 15 = .ok (.aload_n 1, 1) := by decide +kernel
theorem dX3_nestsIn_16 : decode cX3_nestsIn 16 = .ok (.getfield 7, 3) := by decide +kernel
theorem dX3_nestsIn_19 : decode cX3_nestsIn 19 = .ok (.iconst (-1), 1) := by decide +kernel
theorem dX3_nestsIn_20 : decode cX3_nestsIn 20 = .ok (.ixor, 1) := by decide +kernel
theorem dX3_nestsIn_21 : decode cX3_nestsIn 21 = .ok (.iand, 1) := by decide +kernel
theorem dX3_nestsIn_22 : decode cX3_nestsIn 22 = .ok (.ifCond .ne 7, 3) := by decide +kernel
theorem dX3_nestsIn_25 : decode cX3_nestsIn 25 = .ok (.iconst 1, 1) := by decide +kernel
theorem dX3_nestsIn_26 : decode cX3_nestsIn 26 = .ok (.goto 4, 3) := by decide +kernel
theorem dX3_nestsIn_29 : decode cX3_nestsIn 29 = .ok (.iconst 0, 1) := by decide +kernel
theorem dX3_nestsIn_30 : decode cX3_nestsIn 30 = .ok (.ireturn, 1) := by decide +kernel
set_option maxRecDepth 20000 in
theorem ggX3_isAkinTo_X3_nestsIn : GoodIn wsX3_isAkinTo wsX3_nestsIn := goodIn_r _ [6, 1, 7, 8, 9, 10] (by decide +kernel) (by decide +kernel)
set_option maxRecDepth 20000 in
theorem gX3_isAkinTo_X3_nestsIn : GoodIn wsX3_isAkinTo (wsV RX3 28 RX3 yX3_nestsIn wsX3_nestsIn) := goodIn_app (goodIn_of _ (by decide +kernel)) ggX3_isAkinTo_X3_nestsIn
theorem dX3_isAkinTo_0 : decode cX3_isAkinTo 0 = .ok (.aload_n 0, 1) := by decide +kernel
theorem dX3_isAkinTo_1 : decode cX3_isAkinTo 1 = .ok (.getfield 7, 3) := by decide +kernel
theorem dX3_isAkinTo_4 : decode cX3_isAkinTo 4 = .ok (.aload_n 1, 1) := by decide +kernel
theorem dX3_isAkinTo_5 : decode cX3_isAkinTo 5 = .ok (.getfield 7, 3) := by decide +kernel
theorem dX3_isAkinTo_8 : decode cX3_isAkinTo 8 = .ok (.if_icmp .eq 19, 3) := by decide +kernel
theorem dX3_isAkinTo_11 : decode cX3_isAkinTo 11 = .ok (.aload_n 0, 1) := by decide +kernel
theorem dX3_isAkinTo_12 : decode cX3_isAkinTo 12 = .ok (.aload_n 1, 1) := by decide +kernel
theorem dX3_isAkinTo_13 : decode cX3_isAkinTo 13 = .ok (.invokevirtual 28, 3) := by decide +kernel
theorem dX3_isAkinTo_16 : decode cX3_isAkinTo 16 = .ok (.ifCond .ne 11, 3) := by decide +kernel
theorem dX3_isAkinTo_19 : decode cX3_isAkinTo 19 = .ok (.aload_n 1, 1) := by decide +kernel
theorem dX3_isAkinTo_20 : decode cX3_isAkinTo 20 = .ok (.aload_n 0, 1) := by decide +kernel
theorem dX3_isAkinTo_21 : decode cX3_isAkinTo 21 = .ok (.invokevirtual 28, 3) := by decide +kernel
theorem dX3_isAkinTo_24 : decode cX3_isAkinTo 24 = .ok (.ifCond .eq 7, 3) := by decide +kernel
theorem dX3_isAkinTo_27 : decode cX3_isAkinTo 27 = .ok (.iconst 1, 1) := by decide +kernel
theorem dX3_isAkinTo_28 : decode cX3_isAkinTo 28 = .ok (.goto 4, 3) := by decide +kernel
theorem dX3_isAkinTo_31 : decode cX3_isAkinTo 31 = .ok (.iconst 0, 1) := by decide +kernel
theorem dX3_isAkinTo_32 : decode cX3_isAkinTo 32 = .ok (.ireturn, 1) := by decide +kernel
theorem dX4_init_0 : decode cX4_init 0 = .ok (.aload_n 0, 1) := by decide +kernel
theorem dX4_init_1 : decode cX4_init 1 = .ok (.invokespecial 1, 3) := by decide +kernel
theorem dX4_init_4 : decode cX4_init 4 = .ok (.aload_n 0, 1) := by decide +kernel
theorem dX4_init_5 : decode cX4_init 5 = .ok (.bipush 8, 2) := by decide +kernel
theorem dX4_init_7 : decode cX4_init 7 = .ok (.anewarray 9, 3) := by decide +kernel
theorem dX4_init_10 : decode cX4_init 10 = .ok (.putfield 11, 3) := by decide +kernel
theorem dX4_init_13 : decode cX4_init 13 = .ok (.aload_n 0, 1) := by decide +kernel
theorem dX4_init_14 : decode cX4_init 14 = .ok (.bipush 6, 2) := by decide +kernel
theorem dX4_init_16 : decode cX4_init 16 = .ok (.anewarray 15, 3) := by decide +kernel
theorem dX4_init_19 : decode cX4_init 19 = .ok (.putfield 17, 3) := by decide +kernel
theorem dX4_init_22 : decode cX4_init 22 = .ok (.aload_n 0, 1) := by decide +kernel
theorem dX4_init_23 : decode cX4_init 23 = .ok (.bipush 40, 2) := by decide +kernel
theorem dX4_init_25 : decode cX4_init 25 = .ok (.anewarray 21, 3) := by decide +kernel
theorem dX4_init_28 : decode cX4_init 28 = .ok (.putfield 23, 3) := by decide +kernel
theorem dX4_init_31 : decode cX4_init 31 = .ok (.return_, 1) := by decide +kernel
set_option maxRecDepth 20000 in
theorem ggX4_offence_X4_isWithin : GoodIn wsX4_offence wsX4_isWithin := goodIn_r _ [13] (by decide +kernel) (by decide +kernel)
set_option maxRecDepth 20000 in
theorem gX4_offence_X4_isWithin : GoodIn wsX4_offence (va_wsS RX4 27 yX4_isWithin wsX4_isWithin) := goodIn_app (goodIn_of _ (by decide +kernel)) ggX4_offence_X4_isWithin
set_option maxRecDepth 20000 in
theorem ggX4_offence_X3_init : GoodIn wsX4_offence wsX3_init := goodIn_r _ [16, 17, 18, 19, 20, 21, 22, 36, 37, 38, 39] (by decide +kernel) (by decide +kernel)
set_option maxRecDepth 20000 in
theorem gX4_offence_X3_init : GoodIn wsX4_offence (wsX3_init) := ggX4_offence_X3_init
theorem dX4_offence_0 : decode cX4_offence 0 = .ok (.iload_n 1, 1) := by decide +kernel
theorem dX4_offence_1 : decode cX4_offence 1 = .ok (.iconst 1, 1) := by decide +kernel
theorem dX4_offence_2 : decode cX4_offence 2 = .ok (.sipush 1023, 3) := by decide +kernel
theorem dX4_offence_5 : decode cX4_offence 5 = .ok (.invokestatic 27, 3) := by decide +kernel
theorem dX4_offence_8 : decode cX4_offence 8 = .ok (.ifCond .eq 24, 3) := by decide +kernel
theorem dX4_offence_11 : decode cX4_offence 11 = .ok (.iload_n 2, 1) := by decide +kernel
theorem dX4_offence_12 : decode cX4_offence 12 = .ok (.iconst 1, 1) := by decide +kernel
theorem dX4_offence_13 : decode cX4_offence 13 = .ok (.bipush 9, 2) := by decide +kernel
theorem dX4_offence_15 : decode cX4_offence 15 = .ok (.invokestatic 27, 3) := by decide +kernel
theorem dX4_offence_18 : decode cX4_offence 18 = .ok (.ifCond .eq 14, 3) := by decide +kernel
theorem dX4_offence_21 : decode cX4_offence 21 = .ok (.iload_n 3, 1) := by decide +kernel
theorem dX4_offence_22 : decode cX4_offence 22 = .ok (.iconst 1, 1) := by decide +kernel
theorem dX4_offence_23 : decode cX4_offence 23 = .ok (.sipush 2000, 3) := by decide +kernel
theorem dX4_offence_26 : decode cX4_offence 26 = .ok (.invokestatic 27, 3) := by decide +kernel
theorem dX4_offence_29 : decode cX4_offence 29 = .ok (.ifCond .ne 13, 3) := by decide +kernel
theorem dX4_offence_32 : decode cX4_offence 32 = .ok (.new 31, 3) := by decide +kernel
theorem dX4_offence_35 : decode cX4_offence 35 = .ok (.dup, 1) := by decide +kernel
theorem dX4_offence_36 : decode cX4_offence 36 = .ok (.ldc 33, 2) := by decide +kernel
theorem dX4_offence_38 : decode cX4_offence 38 = .ok (.invokespecial 35, 3) := by decide +kernel
theorem dX4_offence_41 : decode cX4_offence 41 = .ok (.athrow, 1) := by decide +kernel
theorem dX4_offence_42 : decode cX4_offence 42 = .ok (.aload_n 0, 1) := by decide +kernel
theorem dX4_offence_43 : decode cX4_offence 43 = .ok (.getfield 38, 3) := by decide +kernel
theorem dX4_offence_46 : decode cX4_offence 46 = .ok (.aload_n 0, 1) := by decide +kernel
theorem dX4_offence_47 : decode cX4_offence 47 = .ok (.getfield 11, 3) := by decide +kernel
theorem dX4_offence_50 : decode cX4_offence 50 = .ok (.arraylength, 1) := by decide +kernel
theorem dX4_offence_51 : decode cX4_offence 51 = .ok (.if_icmp .lt 13, 3) := by decide +kernel
theorem dX4_offence_54 : decode cX4_offence 54 = .ok (.new 42, 3) := by decide +kernel
theorem dX4_offence_57 : decode cX4_offence 57 = .ok (.dup, 1) := by decide +kernel
theorem dX4_offence_58 : decode cX4_offence 58 = .ok (.ldc 44, 2) := by decide +kernel
theorem dX4_offence_60 : decode cX4_offence 60 = .ok (.invokespecial 46, 3) := by decide +kernel
theorem dX4_offence_63 : decode cX4_offence 63 = .ok (.athrow, 1) := by decide +kernel
theorem dX4_offence_64 : decode cX4_offence 64 = .ok (.aload_n 0, 1) := by decide +kernel
theorem dX4_offence_65 : decode cX4_offence 65 = .ok (.getfield 11, 3) := by decide +kernel
theorem dX4_offence_68 : decode cX4_offence 68 = .ok (.aload_n 0, 1) := by decide +kernel
theorem dX4_offence_69 : decode cX4_offence 69 = .ok (.getfield 38, 3) := by decide +kernel
theorem dX4_offence_72 : decode cX4_offence 72 = .ok (.new 9, 3) := by decide +kernel
theorem dX4_offence_75 : decode cX4_offence 75 = .ok (.dup, 1) := by decide +kernel
theorem dX4_offence_76 : decode cX4_offence 76 = .ok (.iload_n 1, 1) := by decide +kernel
theorem dX4_offence_77 : decode cX4_offence 77 = .ok (.iload_n 2, 1) := by decide +kernel
theorem dX4_offence_78 : decode cX4_offence 78 = .ok (.iload_n 3, 1) := by decide +kernel
theorem dX4_offence_79 : decode cX4_offence 79 = .ok (.invokespecial 47, 3) := by decide +kernel
theorem dX4_offence_82 : decode cX4_offence 82 = .ok (.aastore, 1) := by decide +kernel
theorem dX4_offence_83 : decode cX4_offence 83 = .ok (.aload_n 0, 1) := by decide +kernel
theorem dX4_offence_84 : decode cX4_offence 84 = .ok (.dup, 1) := by decide +kernel
theorem dX4_offence_85 : decode cX4_offence 85 = .ok (.getfield 38, 3) := by decide +kernel
theorem dX4_offence_88 : decode cX4_offence 88 = .ok (.iconst 1, 1) := by decide +kernel
theorem dX4_offence_89 : decode cX4_offence 89 = .ok (.iadd, 1) := by decide +kernel
theorem dX4_offence_90 : decode cX4_offence 90 = .ok (.putfield 38, 3) := by decide +kernel
theorem dX4_offence_93 : decode cX4_offence 93 = .ok (.aload_n 0, 1) := by decide +kernel
theorem dX4_offence_94 : decode cX4_offence 94 = .ok (.getfield 38, 3) := by decide +kernel
theorem dX4_offence_97 : decode cX4_offence 97 = .ok (.iconst 1, 1) := by decide +kernel
theorem dX4_offence_98 : decode cX4_offence 98 = .ok (.isub, 1) := by decide +kernel
theorem dX4_offence_99 : decode cX4_offence 99 = .ok (.ireturn, 1) := by decide +kernel
set_option maxRecDepth 20000 in
theorem ggX4_exclude_X4_offenceAt : GoodIn wsX4_exclude wsX4_offenceAt := goodIn_r _ [10, 11, 24, 25, 26, 27, 28, 29, 30, 31, 32, 33, 34, 35, 36] (by decide +kernel) (by decide +kernel)
set_option maxRecDepth 20000 in
theorem gX4_exclude_X4_offenceAt : GoodIn wsX4_exclude (wsV RX4 50 RX4 yX4_offenceAt wsX4_offenceAt) := goodIn_app (goodIn_of _ (by decide +kernel)) ggX4_exclude_X4_offenceAt
set_option maxRecDepth 20000 in
theorem ggX4_exclude_X3_excludes : GoodIn wsX4_exclude wsX3_excludes := goodIn_r _ [16, 17, 18, 9, 19, 20, 21, 22, 23] (by decide +kernel) (by decide +kernel)
set_option maxRecDepth 20000 in
theorem gX4_exclude_X3_excludes : GoodIn wsX4_exclude (wsV RX4 61 RX3 yX3_excludes wsX3_excludes) := goodIn_app (goodIn_of _ (by decide +kernel)) ggX4_exclude_X3_excludes
theorem dX4_exclude_0 : decode cX4_exclude 0 = .ok (.aload_n 0, 1) := by decide +kernel
theorem dX4_exclude_1 : decode cX4_exclude 1 = .ok (.iload_n 1, 1) := by decide +kernel
theorem dX4_exclude_2 : decode cX4_exclude 2 = .ok (.invokevirtual 50, 3) := by decide +kernel
theorem dX4_exclude_5 : decode cX4_exclude 5 = .ok (.astore_n 3, 1) := by decide +kernel
theorem dX4_exclude_6 : decode cX4_exclude 6 = .ok (.aload_n 0, 1) := by decide +kernel
theorem dX4_exclude_7 : decode cX4_exclude 7 = .ok (.iload_n 2, 1) := by decide +kernel
theorem dX4_exclude_8 : decode cX4_exclude 8 = .ok (.invokevirtual 50, 3) := by decide +kernel
theorem dX4_exclude_11 : decode cX4_exclude 11 = .ok (.astore 4, 2) := by decide +kernel
theorem dX4_exclude_13 : decode cX4_exclude 13 = .ok (.aload_n 3, 1) := by decide +kernel
theorem dX4_exclude_14 : decode cX4_exclude 14 = .ok (.ifnull 8, 3) := by decide +kernel
theorem dX4_exclude_17 : decode cX4_exclude 17 = .ok (.aload 4, 2) := by decide +kernel
theorem dX4_exclude_19 : decode cX4_exclude 19 = .ok (.ifnonnull 13, 3) := by decide +kernel
theorem dX4_exclude_22 : decode cX4_exclude 22 = .ok (.new 54, 3) := by decide +kernel
theorem dX4_exclude_25 : decode cX4_exclude 25 = .ok (.dup, 1) := by decide +kernel
theorem dX4_exclude_26 : decode cX4_exclude 26 = .ok (.ldc 56, 2) := by decide +kernel
theorem dX4_exclude_28 : decode cX4_exclude 28 = .ok (.invokespecial 58, 3) := by decide +kernel
theorem dX4_exclude_31 : decode cX4_exclude 31 = .ok (.athrow, 1) := by decide +kernel
theorem dX4_exclude_32 : decode cX4_exclude 32 = .ok (.iload_n 1, 1) := by decide +kernel
theorem dX4_exclude_33 : decode cX4_exclude 33 = .ok (.iload_n 2, 1) := by decide +kernel
theorem dX4_exclude_34 : decode cX4_exclude 34 = .ok (.if_icmp .ne 13, 3) := by decide +kernel
theorem dX4_exclude_37 : decode cX4_exclude 37 = .ok (.new 31, 3) := by decide +kernel
theorem dX4_exclude_40 : decode cX4_exclude 40 = .ok (.dup, 1) := by decide +kernel
theorem dX4_exclude_41 : decode cX4_exclude 41 = .ok (.ldc 59, 2) := by decide +kernel
theorem dX4_exclude_43 : decode cX4_exclude 43 = .ok (.invokespecial 35, 3) := by decide +kernel
theorem dX4_exclude_46 : decode cX4_exclude 46 = .ok (.athrow, 1) := by decide +kernel
theorem dX4_exclude_47 : decode cX4_exclude 47 = .ok (.aload_n 3, 1) := by decide +kernel
theorem dX4_exclude_48 : decode cX4_exclude 48 = .ok (.iload_n 2, 1) := by decide +kernel
theorem dX4_exclude_49 : decode cX4_exclude 49 = .ok (.invokevirtual 61, 3) := by decide +kernel
theorem dX4_exclude_52 : decode cX4_exclude 52 = .ok (.istore 5, 2) := by decide +kernel
theorem dX4_exclude_54 : decode cX4_exclude 54 = .ok (.aload_n 3, 1) := by decide +kernel
theorem dX4_exclude_55 : decode cX4_exclude 55 = .ok (.dup, 1) := by decide +kernel
theorem dX4_exclude_56 : decode cX4_exclude 56 = .ok (.getfield 65, 3) := by decide +kernel
theorem dX4_exclude_59 : decode cX4_exclude 59 = .ok (.iconst 1, 1) := by decide +kernel
theorem dX4_exclude_60 : decode cX4_exclude 60 = .ok (.iload_n 2, 1) := by decide +kernel
theorem dX4_exclude_61 : decode cX4_exclude 61 = .ok (.ishl, 1) := by decide +kernel
theorem dX4_exclude_62 : decode cX4_exclude 62 = .ok (.ior, 1) := by decide +kernel
theorem dX4_exclude_63 : decode cX4_exclude 63 = .ok (.putfield 65, 3) := by decide +kernel
theorem dX4_exclude_66 : decode cX4_exclude 66 = .ok (.aload 4, 2) := by decide +kernel
theorem dX4_exclude_68 : decode cX4_exclude 68 = .ok (.dup, 1) := by decide +kernel
theorem dX4_exclude_69 : decode cX4_exclude 69 = .ok (.getfield 65, 3) := by decide +kernel
theorem dX4_exclude_72 : decode cX4_exclude 72 = .ok (.iconst 1, 1) := by decide +kernel
theorem dX4_exclude_73 : decode cX4_exclude 73 = .ok (.iload_n 1, 1) := by decide +kernel
theorem dX4_exclude_74 : decode cX4_exclude 74 = .ok (.ishl, 1) := by decide +kernel
theorem dX4_exclude_75 : decode cX4_exclude 75 = .ok (.ior, 1) := by decide +kernel
theorem dX4_exclude_76 : decode cX4_exclude 76 = .ok (.putfield 65, 3) := by decide +kernel
theorem dX4_exclude_79 : decode cX4_exclude 79 = .ok (.iload 5, 2) := by decide +kernel
theorem dX4_exclude_81 : decode cX4_exclude 81 = .ok (.ireturn, 1) := by decide +kernel
set_option maxRecDepth 20000 in
theorem ggX4_pass_X4_isWithin : GoodIn wsX4_pass wsX4_isWithin := goodIn_r _ [11] (by decide +kernel) (by decide +kernel)
set_option maxRecDepth 20000 in
theorem gX4_pass_X4_isWithin : GoodIn wsX4_pass (va_wsS RX4 27 yX4_isWithin wsX4_isWithin) := goodIn_app (goodIn_of _ (by decide +kernel)) ggX4_pass_X4_isWithin
set_option maxRecDepth 20000 in
theorem ggX4_pass_X1_passInCustody : GoodIn wsX4_pass wsX1_passInCustody := goodIn_r _ [16, 17, 18, 19, 20, 21, 22, 23, 24, 25, 26, 27, 28, 29, 30, 31, 32, 33, 34, 35, 36, 37, 38, 39, 40, 41, 10, 42, 56, 57, 58, 59, 60, 61, 62, 63, 64, 65, 66, 67, 68, 69, 70, 71, 72, 73, 74] (by decide +kernel) (by decide +kernel)
set_option maxRecDepth 20000 in
theorem gX4_pass_X1_passInCustody : GoodIn wsX4_pass (wsV RX4 78 RX1 yX1_passInCustody wsX1_passInCustody) := goodIn_app (goodIn_of _ (by decide +kernel)) ggX4_pass_X1_passInCustody
theorem dX4_pass_0 : decode cX4_pass 0 = .ok (.iload_n 1, 1) := by decide +kernel
theorem dX4_pass_1 : decode cX4_pass 1 = .ok (.iconst 1, 1) := by decide +kernel
theorem dX4_pass_2 : decode cX4_pass 2 = .ok (.bipush 100, 2) := by decide +kernel
theorem dX4_pass_4 : decode cX4_pass 4 = .ok (.invokestatic 27, 3) := by decide +kernel
theorem dX4_pass_7 : decode cX4_pass 7 = .ok (.ifCond .ne 13, 3) := by decide +kernel
theorem dX4_pass_10 : decode cX4_pass 10 = .ok (.new 31, 3) := by decide +kernel
theorem dX4_pass_13 : decode cX4_pass 13 = .ok (.dup, 1) := by decide +kernel
theorem dX4_pass_14 : decode cX4_pass 14 = .ok (.ldc 68, 2) := by decide +kernel
theorem dX4_pass_16 : decode cX4_pass 16 = .ok (.invokespecial 35, 3) := by decide +kernel
theorem dX4_pass_19 : decode cX4_pass 19 = .ok (.athrow, 1) := by decide +kernel
theorem dX4_pass_20 : decode cX4_pass 20 = .ok (.aload_n 0, 1) := by decide +kernel
theorem dX4_pass_21 : decode cX4_pass 21 = .ok (.getfield 70, 3) := by decide +kernel
theorem dX4_pass_24 : decode cX4_pass 24 = .ok (.iload_n 1, 1) := by decide +kernel
theorem dX4_pass_25 : decode cX4_pass 25 = .ok (.iadd, 1) := by decide +kernel
theorem dX4_pass_26 : decode cX4_pass 26 = .ok (.sipush 5000, 3) := by decide +kernel
theorem dX4_pass_29 : decode cX4_pass 29 = .ok (.if_icmp .le 13, 3) := by decide +kernel
theorem dX4_pass_32 : decode cX4_pass 32 = .ok (.new 42, 3) := by decide +kernel
theorem dX4_pass_35 : decode cX4_pass 35 = .ok (.dup, 1) := by decide +kernel
theorem dX4_pass_36 : decode cX4_pass 36 = .ok (.ldc 73, 2) := by decide +kernel
theorem dX4_pass_38 : decode cX4_pass 38 = .ok (.invokespecial 46, 3) := by decide +kernel
theorem dX4_pass_41 : decode cX4_pass 41 = .ok (.athrow, 1) := by decide +kernel
theorem dX4_pass_42 : decode cX4_pass 42 = .ok (.aload_n 0, 1) := by decide +kernel
theorem dX4_pass_43 : decode cX4_pass 43 = .ok (.getfield 17, 3) := by decide +kernel
theorem dX4_pass_46 : decode cX4_pass 46 = .ok (.astore_n 2, 1) := by decide +kernel
theorem dX4_pass_47 : decode cX4_pass 47 = .ok (.aload_n 2, 1) := by decide +kernel
theorem dX4_pass_48 : decode cX4_pass 48 = .ok (.arraylength, 1) := by decide +kernel
theorem dX4_pass_49 : decode cX4_pass 49 = .ok (.istore_n 3, 1) := by decide +kernel
theorem dX4_pass_50 : decode cX4_pass 50 = .ok (.iconst 0, 1) := by decide +kernel
theorem dX4_pass_51 : decode cX4_pass 51 = .ok (.istore 4, 2) := by decide +kernel
theorem dX4_pass_53 : decode cX4_pass 53 = .ok (.iload 4, 2) := by decide +kernel
theorem dX4_pass_55 : decode cX4_pass 55 = .ok (.iload_n 3, 1) := by decide +kernel
theorem dX4_pass_56 : decode cX4_pass 56 = .ok (.if_icmp .ge 35, 3) := by decide +kernel
theorem dX4_pass_59 : decode cX4_pass 59 = .ok (.aload_n 2, 1) := by decide +kernel
theorem dX4_pass_60 : decode cX4_pass 60 = .ok (.iload 4, 2) := by decide +kernel
theorem dX4_pass_62 : decode cX4_pass 62 = .ok (.aaload, 1) := by decide +kernel
theorem dX4_pass_63 : decode cX4_pass 63 = .ok (.astore 5, 2) := by decide +kernel
theorem dX4_pass_65 : decode cX4_pass 65 = .ok (.aload 5, 2) := by decide +kernel
theorem dX4_pass_67 : decode cX4_pass 67 = .ok (.ifnull 18, 3) := by decide +kernel
theorem dX4_pass_70 : decode cX4_pass 70 = .ok (.aload_n 0, 1) := by decide +kernel
theorem dX4_pass_71 : decode cX4_pass 71 = .ok (.dup, 1) := by decide +kernel
theorem dX4_pass_72 : decode cX4_pass 72 = .ok (.getfield 75, 3) := by decide +kernel
theorem dX4_pass_75 : decode cX4_pass 75 = .ok (.aload 5, 2) := by decide +kernel
theorem dX4_pass_77 : decode cX4_pass 77 = .ok (.iload_n 1, 1) := by decide +kernel
theorem dX4_pass_78 : decode cX4_pass 78 = .ok (.invokevirtual 78, 3) := by decide +kernel
theorem dX4_pass_81 : decode cX4_pass 81 = .ok (.iadd, 1) := by decide +kernel
theorem dX4_pass_82 : decode cX4_pass 82 = .ok (.putfield 75, 3) := by decide +kernel
theorem dX4_pass_85 : decode cX4_pass 85 = .ok (.iinc 4 1, 3) := by decide +kernel
theorem dX4_pass_88 : decode cX4_pass 88 = .ok (.goto (-35), 3) := by decide +kernel
theorem dX4_pass_91 : decode cX4_pass 91 = .ok (.aload_n 0, 1) := by decide +kernel
theorem dX4_pass_92 : decode cX4_pass 92 = .ok (.dup, 1) := by decide +kernel
theorem dX4_pass_93 : decode cX4_pass 93 = .ok (.getfield 70, 3) := by decide +kernel
theorem dX4_pass_96 : decode cX4_pass 96 = .ok (.iload_n 1, 1) := by decide +kernel
theorem dX4_pass_97 : decode cX4_pass 97 = .ok (.iadd, 1) := by decide +kernel
theorem dX4_pass_98 : decode cX4_pass 98 = .ok (.putfield 70, 3) := by decide +kernel
theorem dX4_pass_101 : decode cX4_pass 101 = .ok (.aload_n 0, 1) := by decide +kernel
theorem dX4_pass_102 : decode cX4_pass 102 = .ok (.getfield 70, 3) := by decide +kernel
theorem dX4_pass_105 : decode cX4_pass 105 = .ok (.ireturn, 1) := by decide +kernel
set_option maxRecDepth 20000 in
theorem ggX4_file_X4_isWithin : GoodIn wsX4_file wsX4_isWithin := goodIn_r _ [19] (by decide +kernel) (by decide +kernel)
set_option maxRecDepth 20000 in
theorem gX4_file_X4_isWithin : GoodIn wsX4_file (va_wsS RX4 27 yX4_isWithin wsX4_isWithin) := goodIn_app (goodIn_of _ (by decide +kernel)) ggX4_file_X4_isWithin
set_option maxRecDepth 20000 in
theorem ggX4_file_X1_init : GoodIn wsX4_file wsX1_init := goodIn_r _ [22, 23, 24, 25, 26, 27, 28, 29, 30, 31, 57, 58, 59, 60, 61] (by decide +kernel) (by decide +kernel)
set_option maxRecDepth 20000 in
theorem gX4_file_X1_init : GoodIn wsX4_file (wsX1_init) := ggX4_file_X1_init
set_option maxRecDepth 20000 in
theorem ggX4_file_X4_hasBit : GoodIn wsX4_file wsX4_hasBit := goodIn_r _ [34] (by decide +kernel) (by decide +kernel)
set_option maxRecDepth 20000 in
theorem gX4_file_X4_hasBit : GoodIn wsX4_file (va_wsS RX4 96 yX4_hasBit wsX4_hasBit) := goodIn_app (goodIn_of _ (by decide +kernel)) ggX4_file_X4_hasBit
set_option maxRecDepth 20000 in
theorem ggX4_file_X0_init : GoodIn wsX4_file wsX0_init := goodIn_r _ [37, 38, 24, 25, 39, 40, 41, 42, 43, 62, 63, 64, 65, 66, 67, 68, 69, 70, 71, 72, 73, 74, 75] (by decide +kernel) (by decide +kernel)
set_option maxRecDepth 20000 in
theorem gX4_file_X0_init : GoodIn wsX4_file (wsX0_init) := ggX4_file_X0_init
theorem dX4_file_0 : decode cX4_file 0 = .ok (.iload_n 1, 1) := by decide +kernel
theorem dX4_file_1 : decode cX4_file 1 = .ok (.iconst 0, 1) := by decide +kernel
theorem dX4_file_2 : decode cX4_file 2 = .ok (.aload_n 0, 1) := by decide +kernel
theorem dX4_file_3 : decode cX4_file 3 = .ok (.getfield 70, 3) := by decide +kernel
theorem dX4_file_6 : decode cX4_file 6 = .ok (.invokestatic 27, 3) := by decide +kernel
theorem dX4_file_9 : decode cX4_file 9 = .ok (.ifCond .eq 25, 3) := by decide +kernel
theorem dX4_file_12 : decode cX4_file 12 = .ok (.iload_n 2, 1) := by decide +kernel
theorem dX4_file_13 : decode cX4_file 13 = .ok (.iconst 1, 1) := by decide +kernel
theorem dX4_file_14 : decode cX4_file 14 = .ok (.sipush 255, 3) := by decide +kernel
theorem dX4_file_17 : decode cX4_file 17 = .ok (.invokestatic 27, 3) := by decide +kernel
theorem dX4_file_20 : decode cX4_file 20 = .ok (.ifCond .eq 14, 3) := by decide +kernel
theorem dX4_file_23 : decode cX4_file 23 = .ok (.iload_n 3, 1) := by decide +kernel
theorem dX4_file_24 : decode cX4_file 24 = .ok (.bipush (-9), 2) := by decide +kernel
theorem dX4_file_26 : decode cX4_file 26 = .ok (.bipush 9, 2) := by decide +kernel
theorem dX4_file_28 : decode cX4_file 28 = .ok (.invokestatic 27, 3) := by decide +kernel
theorem dX4_file_31 : decode cX4_file 31 = .ok (.ifCond .ne 13, 3) := by decide +kernel
theorem dX4_file_34 : decode cX4_file 34 = .ok (.new 31, 3) := by decide +kernel
theorem dX4_file_37 : decode cX4_file 37 = .ok (.dup, 1) := by decide +kernel
theorem dX4_file_38 : decode cX4_file 38 = .ok (.ldc 82, 2) := by decide +kernel
theorem dX4_file_40 : decode cX4_file 40 = .ok (.invokespecial 35, 3) := by decide +kernel
theorem dX4_file_43 : decode cX4_file 43 = .ok (.athrow, 1) := by decide +kernel
theorem dX4_file_44 : decode cX4_file 44 = .ok (.aload_n 0, 1) := by decide +kernel
theorem dX4_file_45 : decode cX4_file 45 = .ok (.getfield 84, 3) := by decide +kernel
theorem dX4_file_48 : decode cX4_file 48 = .ok (.aload_n 0, 1) := by decide +kernel
theorem dX4_file_49 : decode cX4_file 49 = .ok (.getfield 17, 3) := by decide +kernel
theorem dX4_file_52 : decode cX4_file 52 = .ok (.arraylength, 1) := by decide +kernel
theorem dX4_file_53 : decode cX4_file 53 = .ok (.if_icmp .lt 13, 3) := by decide +kernel
theorem dX4_file_56 : decode cX4_file 56 = .ok (.new 42, 3) := by decide +kernel
theorem dX4_file_59 : decode cX4_file 59 = .ok (.dup, 1) := by decide +kernel
theorem dX4_file_60 : decode cX4_file 60 = .ok (.ldc 87, 2) := by decide +kernel
theorem dX4_file_62 : decode cX4_file 62 = .ok (.invokespecial 46, 3) := by decide +kernel
theorem dX4_file_65 : decode cX4_file 65 = .ok (.athrow, 1) := by decide +kernel
theorem dX4_file_66 : decode cX4_file 66 = .ok (.new 15, 3) := by decide +kernel
theorem dX4_file_69 : decode cX4_file 69 = .ok (.dup, 1) := by decide +kernel
theorem dX4_file_70 : decode cX4_file 70 = .ok (.aload_n 0, 1) := by decide +kernel
theorem dX4_file_71 : decode cX4_file 71 = .ok (.getfield 84, 3) := by decide +kernel
theorem dX4_file_74 : decode cX4_file 74 = .ok (.iload_n 1, 1) := by decide +kernel
theorem dX4_file_75 : decode cX4_file 75 = .ok (.iload_n 2, 1) := by decide +kernel
theorem dX4_file_76 : decode cX4_file 76 = .ok (.iload_n 3, 1) := by decide +kernel
theorem dX4_file_77 : decode cX4_file 77 = .ok (.invokespecial 89, 3) := by decide +kernel
theorem dX4_file_80 : decode cX4_file 80 = .ok (.astore 4, 2) := by decide +kernel
theorem dX4_file_82 : decode cX4_file 82 = .ok (.iconst 0, 1) := by decide +kernel
theorem dX4_file_83 : decode cX4_file 83 = .ok (.istore 5, 2) := by decide +kernel
theorem dX4_file_85 : decode cX4_file 85 = .ok (.iload 5, 2) := by decide +kernel
theorem dX4_file_87 : decode cX4_file 87 = .ok (.aload 4, 2) := by decide +kernel
theorem dX4_file_89 : decode cX4_file 89 = .ok (.getfield 92, 3) := by decide +kernel
theorem dX4_file_92 : decode cX4_file 92 = .ok (.arraylength, 1) := by decide +kernel
theorem dX4_file_93 : decode cX4_file 93 = .ok (.if_icmp .ge 37, 3) := by decide +kernel
theorem dX4_file_96 : decode cX4_file 96 = .ok (.iload_n 2, 1) := by decide +kernel
theorem dX4_file_97 : decode cX4_file 97 = .ok (.iload 5, 2) := by decide +kernel
theorem dX4_file_99 : decode cX4_file 99 = .ok (.invokestatic 96, 3) := by decide +kernel
theorem dX4_file_102 : decode cX4_file 102 = .ok (.ifCond .eq 22, 3) := by decide +kernel
theorem dX4_file_105 : decode cX4_file 105 = .ok (.aload 4, 2) := by decide +kernel
theorem dX4_file_107 : decode cX4_file 107 = .ok (.getfield 92, 3) := by decide +kernel
theorem dX4_file_110 : decode cX4_file 110 = .ok (.iload 5, 2) := by decide +kernel
theorem dX4_file_112 : decode cX4_file 112 = .ok (.new 100, 3) := by decide +kernel
theorem dX4_file_115 : decode cX4_file 115 = .ok (.dup, 1) := by decide +kernel
theorem dX4_file_116 : decode cX4_file 116 = .ok (.aload 4, 2) := by decide +kernel
theorem dX4_file_118 : decode cX4_file 118 = .ok (.iload 5, 2) := by decide +kernel
theorem dX4_file_120 : decode cX4_file 120 = .ok (.invokespecial 102, 3) := by decide +kernel
theorem dX4_file_123 : decode cX4_file 123 = .ok (.aastore, 1) := by decide +kernel
theorem dX4_file_124 : decode cX4_file 124 = .ok (.iinc 5 1, 3) := by decide +kernel
theorem dX4_file_127 : decode cX4_file 127 = .ok (.goto (-42), 3) := by decide +kernel
theorem dX4_file_130 : decode cX4_file 130 = .ok (.aload_n 0, 1) := by decide +kernel
theorem dX4_file_131 : decode cX4_file 131 = .ok (.getfield 17, 3) := by decide +kernel
theorem dX4_file_134 : decode cX4_file 134 = .ok (.aload_n 0, 1) := by decide +kernel
theorem dX4_file_135 : decode cX4_file 135 = .ok (.getfield 84, 3) := by decide +kernel
theorem dX4_file_138 : decode cX4_file 138 = .ok (.aload 4, 2) := by decide +kernel
theorem dX4_file_140 : decode cX4_file 140 = .ok (.aastore, 1) := by decide +kernel
theorem dX4_file_141 : decode cX4_file 141 = .ok (.aload_n 0, 1) := by decide +kernel
theorem dX4_file_142 : decode cX4_file 142 = .ok (.dup, 1) := by decide +kernel
theorem dX4_file_143 : decode cX4_file 143 = .ok (.getfield 84, 3) := by decide +kernel
theorem dX4_file_146 : decode cX4_file 146 = .ok (.iconst 1, 1) := by decide +kernel
theorem dX4_file_147 : decode cX4_file 147 = .ok (.iadd, 1) := by decide +kernel
theorem dX4_file_148 : decode cX4_file 148 = .ok (.putfield 84, 3) := by decide +kernel
theorem dX4_file_151 : decode cX4_file 151 = .ok (.aload 4, 2) := by decide +kernel
theorem dX4_file_153 : decode cX4_file 153 = .ok (.getfield 105, 3) := by decide +kernel
theorem dX4_file_156 : decode cX4_file 156 = .ok (.ireturn, 1) := by decide +kernel
set_option maxRecDepth 20000 in
theorem ggX4_item_X4_fileAt : GoodIn wsX4_item wsX4_fileAt := goodIn_r _ [17, 18, 42, 43, 44, 45, 46, 47, 48, 49, 50, 51, 52, 53, 54] (by decide +kernel) (by decide +kernel)
set_option maxRecDepth 20000 in
theorem gX4_item_X4_fileAt : GoodIn wsX4_item (wsV RX4 108 RX4 yX4_fileAt wsX4_fileAt) := goodIn_app (goodIn_of _ (by decide +kernel)) ggX4_item_X4_fileAt
set_option maxRecDepth 20000 in
theorem ggX4_item_X4_isWithin : GoodIn wsX4_item wsX4_isWithin := goodIn_r _ [21] (by decide +kernel) (by decide +kernel)
set_option maxRecDepth 20000 in
theorem gX4_item_X4_isWithin : GoodIn wsX4_item (va_wsS RX4 27 yX4_isWithin wsX4_isWithin) := goodIn_app (goodIn_of _ (by decide +kernel)) ggX4_item_X4_isWithin
set_option maxRecDepth 20000 in
theorem ggX4_item_X1_hasAll : GoodIn wsX4_item wsX1_hasAll := goodIn_r _ [26, 27, 65, 66, 67, 68, 69] (by decide +kernel) (by decide +kernel)
set_option maxRecDepth 20000 in
theorem gX4_item_X1_hasAll : GoodIn wsX4_item (wsV RX4 114 RX1 yX1_hasAll wsX1_hasAll) := goodIn_app (goodIn_of _ (by decide +kernel)) ggX4_item_X1_hasAll
set_option maxRecDepth 20000 in
theorem ggX4_item_X2_init : GoodIn wsX4_item wsX2_init := goodIn_r _ [30, 31, 32, 33, 34, 35, 36, 37, 38, 39, 40, 41, 55, 56, 57, 58, 59, 60, 61, 62, 63, 64] (by decide +kernel) (by decide +kernel)
set_option maxRecDepth 20000 in
theorem gX4_item_X2_init : GoodIn wsX4_item (wsX2_init) := ggX4_item_X2_init
theorem dX4_item_0 : decode cX4_item 0 = .ok (.aload_n 0, 1) := by decide +kernel
theorem dX4_item_1 : decode cX4_item 1 = .ok (.iload_n 1, 1) := by decide +kernel
theorem dX4_item_2 : decode cX4_item 2 = .ok (.invokevirtual 108, 3) := by decide +kernel
theorem dX4_item_5 : decode cX4_item 5 = .ok (.astore 7, 2) := by decide +kernel
theorem dX4_item_7 : decode cX4_item 7 = .ok (.aload 7, 2) := by decide +kernel
theorem dX4_item_9 : decode cX4_item 9 = .ok (.ifnull 13, 3) := by decide +kernel
theorem dX4_item_12 : decode cX4_item 12 = .ok (.iload_n 2, 1) := by decide +kernel
theorem dX4_item_13 : decode cX4_item 13 = .ok (.iconst 0, 1) := by decide +kernel
theorem dX4_item_14 : decode cX4_item 14 = .ok (.bipush 9, 2) := by decide +kernel
theorem dX4_item_16 : decode cX4_item 16 = .ok (.invokestatic 27, 3) := by decide +kernel
theorem dX4_item_19 : decode cX4_item 19 = .ok (.ifCond .ne 13, 3) := by decide +kernel
theorem dX4_item_22 : decode cX4_item 22 = .ok (.new 54, 3) := by decide +kernel
theorem dX4_item_25 : decode cX4_item 25 = .ok (.dup, 1) := by decide +kernel
theorem dX4_item_26 : decode cX4_item 26 = .ok (.ldc 112, 2) := by decide +kernel
theorem dX4_item_28 : decode cX4_item 28 = .ok (.invokespecial 58, 3) := by decide +kernel
theorem dX4_item_31 : decode cX4_item 31 = .ok (.athrow, 1) := by decide +kernel
theorem dX4_item_32 : decode cX4_item 32 = .ok (.iload_n 3, 1) := by decide +kernel
theorem dX4_item_33 : decode cX4_item 33 = .ok (.bipush (-9), 2) := by decide +kernel
theorem dX4_item_35 : decode cX4_item 35 = .ok (.bipush 9, 2) := by decide +kernel
theorem dX4_item_37 : decode cX4_item 37 = .ok (.invokestatic 27, 3) := by decide +kernel
theorem dX4_item_40 : decode cX4_item 40 = .ok (.ifCond .eq 27, 3) := by decide +kernel
theorem dX4_item_43 : decode cX4_item 43 = .ok (.iload_n 3, 1) := by decide +kernel
theorem dX4_item_44 : decode cX4_item 44 = .ok (.ifCond .eq 23, 3) := by decide +kernel
theorem dX4_item_47 : decode cX4_item 47 = .ok (.aload 7, 2) := by decide +kernel
theorem dX4_item_49 : decode cX4_item 49 = .ok (.iload 4, 2) := by decide +kernel
theorem dX4_item_51 : decode cX4_item 51 = .ok (.invokevirtual 114, 3) := by decide +kernel
theorem dX4_item_54 : decode cX4_item 54 = .ok (.ifCond .eq 13, 3) := by decide +kernel
theorem dX4_item_57 : decode cX4_item 57 = .ok (.iload 5, 2) := by decide +kernel
theorem dX4_item_59 : decode cX4_item 59 = .ok (.iconst 0, 1) := by decide +kernel
theorem dX4_item_60 : decode cX4_item 60 = .ok (.iconst 2, 1) := by decide +kernel
theorem dX4_item_61 : decode cX4_item 61 = .ok (.invokestatic 27, 3) := by decide +kernel
theorem dX4_item_64 : decode cX4_item 64 = .ok (.ifCond .ne 13, 3) := by decide +kernel
theorem dX4_item_67 : decode cX4_item 67 = .ok (.new 31, 3) := by decide +kernel
theorem dX4_item_70 : decode cX4_item 70 = .ok (.dup, 1) := by decide +kernel
theorem dX4_item_71 : decode cX4_item 71 = .ok (.ldc 117, 2) := by decide +kernel
theorem dX4_item_73 : decode cX4_item 73 = .ok (.invokespecial 35, 3) := by decide +kernel
theorem dX4_item_76 : decode cX4_item 76 = .ok (.athrow, 1) := by decide +kernel
theorem dX4_item_77 : decode cX4_item 77 = .ok (.aload_n 0, 1) := by decide +kernel
theorem dX4_item_78 : decode cX4_item 78 = .ok (.getfield 119, 3) := by decide +kernel
theorem dX4_item_81 : decode cX4_item 81 = .ok (.aload_n 0, 1) := by decide +kernel
theorem dX4_item_82 : decode cX4_item 82 = .ok (.getfield 23, 3) := by decide +kernel
theorem dX4_item_85 : decode cX4_item 85 = .ok (.arraylength, 1) := by decide +kernel
theorem dX4_item_86 : decode cX4_item 86 = .ok (.if_icmp .lt 13, 3) := by decide +kernel
theorem dX4_item_89 : decode cX4_item 89 = .ok (.new 42, 3) := by decide +kernel
theorem dX4_item_92 : decode cX4_item 92 = .ok (.dup, 1) := by decide +kernel
theorem dX4_item_93 : decode cX4_item 93 = .ok (.ldc 122, 2) := by decide +kernel
theorem dX4_item_95 : decode cX4_item 95 = .ok (.invokespecial 46, 3) := by decide +kernel
theorem dX4_item_98 : decode cX4_item 98 = .ok (.athrow, 1) := by decide +kernel
theorem dX4_item_99 : decode cX4_item 99 = .ok (.aload_n 0, 1) := by decide +kernel
theorem dX4_item_100 : decode cX4_item 100 = .ok (.getfield 23, 3) := by decide +kernel
theorem dX4_item_103 : decode cX4_item 103 = .ok (.aload_n 0, 1) := by decide +kernel
theorem dX4_item_104 : decode cX4_item 104 = .ok (.getfield 119, 3) := by decide +kernel
theorem dX4_item_107 : decode cX4_item 107 = .ok (.new 21, 3) := by decide +kernel
theorem dX4_item_110 : decode cX4_item 110 = .ok (.dup, 1) := by decide +kernel
theorem dX4_item_111 : decode cX4_item 111 = .ok (.iload_n 1, 1) := by decide +kernel
theorem dX4_item_112 : decode cX4_item 112 = .ok (.iload_n 2, 1) := by decide +kernel
theorem dX4_item_113 : decode cX4_item 113 = .ok (.iload_n 3, 1) := by decide +kernel
theorem dX4_item_114 : decode cX4_item 114 = .ok (.iload 4, 2) := by decide +kernel
theorem dX4_item_116 : decode cX4_item 116 = .ok (.iload 5, 2) := by decide +kernel
theorem dX4_item_118 : decode cX4_item 118 = .ok (.iload 6, 2) := by decide +kernel
theorem dX4_item_120 : decode cX4_item 120 = .ok (.aload_n 0, 1) := by decide +kernel
theorem dX4_item_121 : decode cX4_item 121 = .ok (.getfield 70, 3) := by decide +kernel
theorem dX4_item_124 : decode cX4_item 124 = .ok (.invokespecial 124, 3) := by decide +kernel
theorem dX4_item_127 : decode cX4_item 127 = .ok (.aastore, 1) := by decide +kernel
theorem dX4_item_128 : decode cX4_item 128 = .ok (.aload_n 0, 1) := by decide +kernel
theorem dX4_item_129 : decode cX4_item 129 = .ok (.dup, 1) := by decide +kernel
theorem dX4_item_130 : decode cX4_item 130 = .ok (.getfield 119, 3) := by decide +kernel
theorem dX4_item_133 : decode cX4_item 133 = .ok (.iconst 1, 1) := by decide +kernel
theorem dX4_item_134 : decode cX4_item 134 = .ok (.iadd, 1) := by decide +kernel
theorem dX4_item_135 : decode cX4_item 135 = .ok (.putfield 119, 3) := by decide +kernel
theorem dX4_item_138 : decode cX4_item 138 = .ok (.aload_n 0, 1) := by decide +kernel
theorem dX4_item_139 : decode cX4_item 139 = .ok (.getfield 119, 3) := by decide +kernel
theorem dX4_item_142 : decode cX4_item 142 = .ok (.iconst 1, 1) := by decide +kernel
theorem dX4_item_143 : decode cX4_item 143 = .ok (.isub, 1) := by decide +kernel
theorem dX4_item_144 : decode cX4_item 144 = .ok (.ireturn, 1) := by decide +kernel
set_option maxRecDepth 20000 in
theorem ggX4_admit_X4_itemAt : GoodIn wsX4_admit wsX4_itemAt := goodIn_r _ [12, 13, 24, 25, 26, 27, 28, 29, 30, 31, 32, 33, 34, 35, 36] (by decide +kernel) (by decide +kernel)
set_option maxRecDepth 20000 in
theorem gX4_admit_X4_itemAt : GoodIn wsX4_admit (wsV RX4 127 RX4 yX4_itemAt wsX4_itemAt) := goodIn_app (goodIn_of _ (by decide +kernel)) ggX4_admit_X4_itemAt
theorem dX4_admit_0 : decode cX4_admit 0 = .ok (.aload_n 0, 1) := by decide +kernel
theorem dX4_admit_1 : decode cX4_admit 1 = .ok (.iload_n 1, 1) := by decide +kernel
theorem dX4_admit_2 : decode cX4_admit 2 = .ok (.invokevirtual 127, 3) := by decide +kernel
theorem dX4_admit_5 : decode cX4_admit 5 = .ok (.astore_n 2, 1) := by decide +kernel
theorem dX4_admit_6 : decode cX4_admit 6 = .ok (.aload_n 2, 1) := by decide +kernel
theorem dX4_admit_7 : decode cX4_admit 7 = .ok (.ifnonnull 13, 3) := by decide +kernel
theorem dX4_admit_10 : decode cX4_admit 10 = .ok (.new 54, 3) := by decide +kernel
theorem dX4_admit_13 : decode cX4_admit 13 = .ok (.dup, 1) := by decide +kernel
theorem dX4_admit_14 : decode cX4_admit 14 = .ok (.ldc 131, 2) := by decide +kernel
theorem dX4_admit_16 : decode cX4_admit 16 = .ok (.invokespecial 58, 3) := by decide +kernel
theorem dX4_admit_19 : decode cX4_admit 19 = .ok (.athrow, 1) := by decide +kernel
theorem dX4_admit_20 : decode cX4_admit 20 = .ok (.aload_n 2, 1) := by decide +kernel
theorem dX4_admit_21 : decode cX4_admit 21 = .ok (.getfield 133, 3) := by decide +kernel
theorem dX4_admit_24 : decode cX4_admit 24 = .ok (.iconst 1, 1) := by decide +kernel
theorem dX4_admit_25 : decode cX4_admit 25 = .ok (.if_icmp .ne 11, 3) := by decide +kernel
theorem dX4_admit_28 : decode cX4_admit 28 = .ok (.aload_n 2, 1) := by decide +kernel
theorem dX4_admit_29 : decode cX4_admit 29 = .ok (.getfield 136, 3) := by decide +kernel
theorem dX4_admit_32 : decode cX4_admit 32 = .ok (.iconst (-1), 1) := by decide +kernel
theorem dX4_admit_33 : decode cX4_admit 33 = .ok (.if_icmp .eq 13, 3) := by decide +kernel
theorem dX4_admit_36 : decode cX4_admit 36 = .ok (.new 42, 3) := by decide +kernel
theorem dX4_admit_39 : decode cX4_admit 39 = .ok (.dup, 1) := by decide +kernel
theorem dX4_admit_40 : decode cX4_admit 40 = .ok (.ldc 139, 2) := by decide +kernel
theorem dX4_admit_42 : decode cX4_admit 42 = .ok (.invokespecial 46, 3) := by decide +kernel
theorem dX4_admit_45 : decode cX4_admit 45 = .ok (.athrow, 1) := by decide +kernel
theorem dX4_admit_46 : decode cX4_admit 46 = .ok (.aload_n 2, 1) := by decide +kernel
theorem dX4_admit_47 : decode cX4_admit 47 = .ok (.aload_n 0, 1) := by decide +kernel
theorem dX4_admit_48 : decode cX4_admit 48 = .ok (.getfield 70, 3) := by decide +kernel
theorem dX4_admit_51 : decode cX4_admit 51 = .ok (.putfield 136, 3) := by decide +kernel
theorem dX4_admit_54 : decode cX4_admit 54 = .ok (.return_, 1) := by decide +kernel
set_option maxRecDepth 20000 in
theorem ggX4_show_X4_itemAt : GoodIn wsX4_show wsX4_itemAt := goodIn_r _ [11, 12, 51, 52, 53, 54, 55, 56, 57, 58, 59, 60, 61, 62, 63] (by decide +kernel) (by decide +kernel)
set_option maxRecDepth 20000 in
theorem gX4_show_X4_itemAt : GoodIn wsX4_show (wsV RX4 127 RX4 yX4_itemAt wsX4_itemAt) := goodIn_app (goodIn_of _ (by decide +kernel)) ggX4_show_X4_itemAt
set_option maxRecDepth 20000 in
theorem ggX4_show_X4_isWithin : GoodIn wsX4_show wsX4_isWithin := goodIn_r _ [15] (by decide +kernel) (by decide +kernel)
set_option maxRecDepth 20000 in
theorem gX4_show_X4_isWithin : GoodIn wsX4_show (va_wsS RX4 27 yX4_isWithin wsX4_isWithin) := goodIn_app (goodIn_of _ (by decide +kernel)) ggX4_show_X4_isWithin
set_option maxRecDepth 20000 in
theorem ggX4_show_X2_isAgainst : GoodIn wsX4_show wsX2_isAgainst := goodIn_r _ [20, 21, 22, 10, 23, 41, 42, 43, 44, 45, 46, 47, 48, 49, 50] (by decide +kernel) (by decide +kernel)
set_option maxRecDepth 20000 in
theorem gX4_show_X2_isAgainst : GoodIn wsX4_show (wsV RX4 143 RX2 yX2_isAgainst wsX2_isAgainst) := goodIn_app (goodIn_of _ (by decide +kernel)) ggX4_show_X2_isAgainst
set_option maxRecDepth 20000 in
theorem ggX4_show_X2_wasShownTo : GoodIn wsX4_show wsX2_wasShownTo := goodIn_r _ [27, 28, 22, 10, 23, 41, 42, 43, 44, 45, 46, 47, 48, 49, 50] (by decide +kernel) (by decide +kernel)
set_option maxRecDepth 20000 in
theorem gX4_show_X2_wasShownTo : GoodIn wsX4_show (wsV RX4 146 RX2 yX2_wasShownTo wsX2_wasShownTo) := goodIn_app (goodIn_of _ (by decide +kernel)) ggX4_show_X2_wasShownTo
set_option maxRecDepth 20000 in
theorem ggX4_show_X4_lackedBy : GoodIn wsX4_show wsX4_lackedBy := goodIn_r _ [32, 12, 6, 33, 34, 35, 19, 36, 37, 38, 39, 17, 18, 20, 21, 22, 10, 23, 40, 25, 26, 27, 28, 51, 52, 53, 54, 55, 56, 57, 58, 59, 60, 61, 62, 63, 41, 42, 43, 44, 45, 46, 47, 48, 49, 50] (by decide +kernel) (by decide +kernel)
set_option maxRecDepth 20000 in
theorem gX4_show_X4_lackedBy : GoodIn wsX4_show (wsV RX4 157 RX4 yX4_lackedBy wsX4_lackedBy) := goodIn_app (goodIn_of _ (by decide +kernel)) ggX4_show_X4_lackedBy
theorem dX4_show_0 : decode cX4_show 0 = .ok (.aload_n 0, 1) := by decide +kernel
theorem dX4_show_1 : decode cX4_show 1 = .ok (.iload_n 1, 1) := by decide +kernel
theorem dX4_show_2 : decode cX4_show 2 = .ok (.invokevirtual 127, 3) := by decide +kernel
theorem dX4_show_5 : decode cX4_show 5 = .ok (.astore_n 3, 1) := by decide +kernel
theorem dX4_show_6 : decode cX4_show 6 = .ok (.aload_n 3, 1) := by decide +kernel
theorem dX4_show_7 : decode cX4_show 7 = .ok (.ifnull 13, 3) := by decide +kernel
theorem dX4_show_10 : decode cX4_show 10 = .ok (.iload_n 2, 1) := by decide +kernel
theorem dX4_show_11 : decode cX4_show 11 = .ok (.iconst 0, 1) := by decide +kernel
theorem dX4_show_12 : decode cX4_show 12 = .ok (.bipush 7, 2) := by decide +kernel
theorem dX4_show_14 : decode cX4_show 14 = .ok (.invokestatic 27, 3) := by decide +kernel
theorem dX4_show_17 : decode cX4_show 17 = .ok (.ifCond .ne 13, 3) := by decide +kernel
theorem dX4_show_20 : decode cX4_show 20 = .ok (.new 54, 3) := by decide +kernel
theorem dX4_show_23 : decode cX4_show 23 = .ok (.dup, 1) := by decide +kernel
theorem dX4_show_24 : decode cX4_show 24 = .ok (.ldc 141, 2) := by decide +kernel
theorem dX4_show_26 : decode cX4_show 26 = .ok (.invokespecial 58, 3) := by decide +kernel
theorem dX4_show_29 : decode cX4_show 29 = .ok (.athrow, 1) := by decide +kernel
theorem dX4_show_30 : decode cX4_show 30 = .ok (.aload_n 3, 1) := by decide +kernel
theorem dX4_show_31 : decode cX4_show 31 = .ok (.iload_n 2, 1) := by decide +kernel
theorem dX4_show_32 : decode cX4_show 32 = .ok (.invokevirtual 143, 3) := by decide +kernel
theorem dX4_show_35 : decode cX4_show 35 = .ok (.ifCond .eq 11, 3) := by decide +kernel
theorem dX4_show_38 : decode cX4_show 38 = .ok (.aload_n 3, 1) := by decide +kernel
theorem dX4_show_39 : decode cX4_show 39 = .ok (.iload_n 2, 1) := by decide +kernel
theorem dX4_show_40 : decode cX4_show 40 = .ok (.invokevirtual 146, 3) := by decide +kernel
theorem dX4_show_43 : decode cX4_show 43 = .ok (.ifCond .eq 13, 3) := by decide +kernel
theorem dX4_show_46 : decode cX4_show 46 = .ok (.new 42, 3) := by decide +kernel
theorem dX4_show_49 : decode cX4_show 49 = .ok (.dup, 1) := by decide +kernel
theorem dX4_show_50 : decode cX4_show 50 = .ok (.ldc 149, 2) := by decide +kernel
theorem dX4_show_52 : decode cX4_show 52 = .ok (.invokespecial 46, 3) := by decide +kernel
theorem dX4_show_55 : decode cX4_show 55 = .ok (.athrow, 1) := by decide +kernel
theorem dX4_show_56 : decode cX4_show 56 = .ok (.aload_n 3, 1) := by decide +kernel
theorem dX4_show_57 : decode cX4_show 57 = .ok (.dup, 1) := by decide +kernel
theorem dX4_show_58 : decode cX4_show 58 = .ok (.getfield 151, 3) := by decide +kernel
theorem dX4_show_61 : decode cX4_show 61 = .ok (.iconst 1, 1) := by decide +kernel
theorem dX4_show_62 : decode cX4_show 62 = .ok (.iload_n 2, 1) := by decide +kernel
theorem dX4_show_63 : decode cX4_show 63 = .ok (.ishl, 1) := by decide +kernel
theorem dX4_show_64 : decode cX4_show 64 = .ok (.ior, 1) := by decide +kernel
theorem dX4_show_65 : decode cX4_show 65 = .ok (.putfield 151, 3) := by decide +kernel
theorem dX4_show_68 : decode cX4_show 68 = .ok (.aload_n 0, 1) := by decide +kernel
theorem dX4_show_69 : decode cX4_show 69 = .ok (.aload_n 3, 1) := by decide +kernel
theorem dX4_show_70 : decode cX4_show 70 = .ok (.getfield 154, 3) := by decide +kernel
theorem dX4_show_73 : decode cX4_show 73 = .ok (.iload_n 2, 1) := by decide +kernel
theorem dX4_show_74 : decode cX4_show 74 = .ok (.invokevirtual 157, 3) := by decide +kernel
theorem dX4_show_77 : decode cX4_show 77 = .ok (.ireturn, 1) := by decide +kernel
set_option maxRecDepth 20000 in
theorem ggX4_withhold_X4_itemAt : GoodIn wsX4_withhold wsX4_itemAt := goodIn_r _ [11, 12, 23, 24, 25, 26, 27, 28, 29, 30, 31, 32, 33, 34, 35] (by decide +kernel) (by decide +kernel)
set_option maxRecDepth 20000 in
theorem gX4_withhold_X4_itemAt : GoodIn wsX4_withhold (wsV RX4 127 RX4 yX4_itemAt wsX4_itemAt) := goodIn_app (goodIn_of _ (by decide +kernel)) ggX4_withhold_X4_itemAt
theorem dX4_withhold_0 : decode cX4_withhold 0 = .ok (.aload_n 0, 1) := by decide +kernel
theorem dX4_withhold_1 : decode cX4_withhold 1 = .ok (.iload_n 1, 1) := by decide +kernel
theorem dX4_withhold_2 : decode cX4_withhold 2 = .ok (.invokevirtual 127, 3) := by decide +kernel
theorem dX4_withhold_5 : decode cX4_withhold 5 = .ok (.astore_n 2, 1) := by decide +kernel
theorem dX4_withhold_6 : decode cX4_withhold 6 = .ok (.aload_n 2, 1) := by decide +kernel
theorem dX4_withhold_7 : decode cX4_withhold 7 = .ok (.ifnonnull 13, 3) := by decide +kernel
theorem dX4_withhold_10 : decode cX4_withhold 10 = .ok (.new 54, 3) := by decide +kernel
theorem dX4_withhold_13 : decode cX4_withhold 13 = .ok (.dup, 1) := by decide +kernel
theorem dX4_withhold_14 : decode cX4_withhold 14 = .ok (.ldc 131, 2) := by decide +kernel
theorem dX4_withhold_16 : decode cX4_withhold 16 = .ok (.invokespecial 58, 3) := by decide +kernel
theorem dX4_withhold_19 : decode cX4_withhold 19 = .ok (.athrow, 1) := by decide +kernel
theorem dX4_withhold_20 : decode cX4_withhold 20 = .ok (.aload_n 2, 1) := by decide +kernel
theorem dX4_withhold_21 : decode cX4_withhold 21 = .ok (.getfield 161, 3) := by decide +kernel
theorem dX4_withhold_24 : decode cX4_withhold 24 = .ok (.ifCond .eq 10, 3) := by decide +kernel
theorem dX4_withhold_27 : decode cX4_withhold 27 = .ok (.aload_n 2, 1) := by decide +kernel
theorem dX4_withhold_28 : decode cX4_withhold 28 = .ok (.getfield 165, 3) := by decide +kernel
theorem dX4_withhold_31 : decode cX4_withhold 31 = .ok (.ifCond .eq 13, 3) := by decide +kernel
theorem dX4_withhold_34 : decode cX4_withhold 34 = .ok (.new 42, 3) := by decide +kernel
theorem dX4_withhold_37 : decode cX4_withhold 37 = .ok (.dup, 1) := by decide +kernel
theorem dX4_withhold_38 : decode cX4_withhold 38 = .ok (.ldc 168, 2) := by decide +kernel
theorem dX4_withhold_40 : decode cX4_withhold 40 = .ok (.invokespecial 46, 3) := by decide +kernel
theorem dX4_withhold_43 : decode cX4_withhold 43 = .ok (.athrow, 1) := by decide +kernel
theorem dX4_withhold_44 : decode cX4_withhold 44 = .ok (.aload_n 2, 1) := by decide +kernel
theorem dX4_withhold_45 : decode cX4_withhold 45 = .ok (.iconst 1, 1) := by decide +kernel
theorem dX4_withhold_46 : decode cX4_withhold 46 = .ok (.putfield 165, 3) := by decide +kernel
theorem dX4_withhold_49 : decode cX4_withhold 49 = .ok (.return_, 1) := by decide +kernel
set_option maxRecDepth 20000 in
theorem ggX4_charge_X4_accusedAt : GoodIn wsX4_charge wsX4_accusedAt := goodIn_ca (goodIn_r _ [11, 12, 13, 14, 15, 16, 10, 17, 18, 19, 20, 21, 22, 23, 24, 139, 140, 141, 142, 143, 144, 145, 146, 147, 148, 149, 150, 151, 152, 153, 154, 155, 156] (by decide +kernel) (by decide +kernel)) (goodIn_sub (fun _ h => List.mem_cons_of_mem _ (List.mem_append_left _ (List.mem_append_right _ h))) (by decide +kernel))
set_option maxRecDepth 20000 in
theorem gX4_charge_X4_accusedAt : GoodIn wsX4_charge (wsV RX4 170 RX4 yX4_accusedAt wsX4_accusedAt) := goodIn_app (goodIn_of _ (by decide +kernel)) ggX4_charge_X4_accusedAt
set_option maxRecDepth 20000 in
theorem ggX4_charge_X4_checkToldOffences : GoodIn wsX4_charge wsX4_checkToldOffences := goodIn_ca (goodIn_r _ [28, 29, 30, 31, 139, 140, 141, 142, 143, 144, 145, 146, 147, 148, 149, 150, 151] (by decide +kernel) (by decide +kernel)) (goodIn_sub (fun _ h => List.mem_cons_of_mem _ (List.mem_append_right _ h)) (by decide +kernel))
set_option maxRecDepth 20000 in
theorem gX4_charge_X4_checkToldOffences : GoodIn wsX4_charge (wsV RX4 174 RX4 yX4_checkToldOffences wsX4_checkToldOffences) := goodIn_app (goodIn_of _ (by decide +kernel)) ggX4_charge_X4_checkToldOffences
set_option maxRecDepth 20000 in
theorem ggX4_charge_X4_chargeable : GoodIn wsX4_charge wsX4_chargeable := goodIn_r _ [35, 36, 37, 38, 39, 10, 40, 41, 42, 43, 44, 45, 46, 47, 48, 49, 50, 51, 52, 53, 54, 55, 56, 57, 58, 59, 60, 61, 62, 63, 64, 65, 66, 67, 68, 69, 70, 71, 72, 73, 74, 75, 76, 77, 78, 79, 80, 81, 82, 83, 84, 85, 86, 87, 88, 89, 90, 91, 92, 93, 94, 95, 96, 139, 140, 141, 142, 143, 144, 145, 146, 147, 148, 149, 150, 151, 125, 126, 127, 128, 129, 130, 131, 132, 133, 134, 135, 136, 137, 138, 152, 153, 154, 155, 156, 157, 158, 159, 160, 161, 162, 163, 164, 165, 166, 167, 168, 169, 170] (by decide +kernel) (by decide +kernel)
set_option maxRecDepth 20000 in
theorem gX4_charge_X4_chargeable : GoodIn wsX4_charge (wsV RX4 181 RX4 yX4_chargeable wsX4_chargeable) := goodIn_app (goodIn_of _ (by decide +kernel)) ggX4_charge_X4_chargeable
set_option maxRecDepth 20000 in
theorem ggX4_charge_X4_isRight : GoodIn wsX4_charge wsX4_isRight := goodIn_r _ [100, 36, 101, 102, 103, 104, 105, 106, 107, 71, 72, 10, 73, 108, 109, 110, 111, 112, 113, 114, 115, 116, 117, 118, 53, 119, 120, 50, 51, 52, 54, 55, 56, 57, 58, 59, 139, 140, 141, 142, 143, 144, 145, 146, 147, 148, 149, 150, 151, 157, 158, 159, 160] (by decide +kernel) (by decide +kernel)
set_option maxRecDepth 20000 in
theorem gX4_charge_X4_isRight : GoodIn wsX4_charge (wsV RX4 185 RX4 yX4_isRight wsX4_isRight) := goodIn_app (goodIn_of _ (by decide +kernel)) ggX4_charge_X4_isRight
set_option maxRecDepth 20000 in
theorem ggX4_charge_X4_gravityOf : GoodIn wsX4_charge wsX4_gravityOf := goodIn_r _ [124, 36, 44, 71, 72, 10, 73, 139, 140, 141, 142, 143, 144, 145, 146, 147, 148, 149, 150, 151, 157, 158, 159, 160] (by decide +kernel) (by decide +kernel)
set_option maxRecDepth 20000 in
theorem gX4_charge_X4_gravityOf : GoodIn wsX4_charge (wsV RX4 196 RX4 yX4_gravityOf wsX4_gravityOf) := goodIn_app (goodIn_of _ (by decide +kernel)) ggX4_charge_X4_gravityOf
theorem dX4_charge_0 : decode cX4_charge 0 = .ok (.aload_n 0, 1) := by decide +kernel
theorem dX4_charge_1 : decode cX4_charge 1 = .ok (.iload_n 1, 1) := by decide +kernel
theorem dX4_charge_2 : decode cX4_charge 2 = .ok (.iload_n 2, 1) := by decide +kernel
theorem dX4_charge_3 : decode cX4_charge 3 = .ok (.invokevirtual 170, 3) := by decide +kernel
theorem dX4_charge_6 : decode cX4_charge 6 = .ok (.astore 4, 2) := by decide +kernel
theorem dX4_charge_8 : decode cX4_charge 8 = .ok (.aload_n 0, 1) := by decide +kernel
theorem dX4_charge_9 : decode cX4_charge 9 = .ok (.iload_n 3, 1) := by decide +kernel
theorem dX4_charge_10 : decode cX4_charge 10 = .ok (.invokevirtual 174, 3) := by decide +kernel
theorem dX4_charge_13 : decode cX4_charge 13 = .ok (.aload 4, 2) := by decide +kernel
theorem dX4_charge_15 : decode cX4_charge 15 = .ok (.getfield 178, 3) := by decide +kernel
theorem dX4_charge_18 : decode cX4_charge 18 = .ok (.ifCond .ne 21, 3) := by decide +kernel
theorem dX4_charge_21 : decode cX4_charge 21 = .ok (.aload_n 0, 1) := by decide +kernel
theorem dX4_charge_22 : decode cX4_charge 22 = .ok (.iload_n 3, 1) := by decide +kernel
theorem dX4_charge_23 : decode cX4_charge 23 = .ok (.aload_n 0, 1) := by decide +kernel
theorem dX4_charge_24 : decode cX4_charge 24 = .ok (.aload 4, 2) := by decide +kernel
theorem dX4_charge_26 : decode cX4_charge 26 = .ok (.aload_n 0, 1) := by decide +kernel
theorem dX4_charge_27 : decode cX4_charge 27 = .ok (.getfield 70, 3) := by decide +kernel
theorem dX4_charge_30 : decode cX4_charge 30 = .ok (.invokevirtual 181, 3) := by decide +kernel
theorem dX4_charge_33 : decode cX4_charge 33 = .ok (.invokevirtual 185, 3) := by decide +kernel
theorem dX4_charge_36 : decode cX4_charge 36 = .ok (.ifCond .ne 13, 3) := by decide +kernel
theorem dX4_charge_39 : decode cX4_charge 39 = .ok (.new 42, 3) := by decide +kernel
theorem dX4_charge_42 : decode cX4_charge 42 = .ok (.dup, 1) := by decide +kernel
theorem dX4_charge_43 : decode cX4_charge 43 = .ok (.ldc 188, 2) := by decide +kernel
theorem dX4_charge_45 : decode cX4_charge 45 = .ok (.invokespecial 46, 3) := by decide +kernel
theorem dX4_charge_48 : decode cX4_charge 48 = .ok (.athrow, 1) := by decide +kernel
theorem dX4_charge_49 : decode cX4_charge 49 = .ok (.aload 4, 2) := by decide +kernel
theorem dX4_charge_51 : decode cX4_charge 51 = .ok (.iconst 2, 1) := by decide +kernel
theorem dX4_charge_52 : decode cX4_charge 52 = .ok (.putfield 178, 3) := by decide +kernel
theorem dX4_charge_55 : decode cX4_charge 55 = .ok (.aload 4, 2) := by decide +kernel
theorem dX4_charge_57 : decode cX4_charge 57 = .ok (.iload_n 3, 1) := by decide +kernel
theorem dX4_charge_58 : decode cX4_charge 58 = .ok (.putfield 190, 3) := by decide +kernel
theorem dX4_charge_61 : decode cX4_charge 61 = .ok (.aload 4, 2) := by decide +kernel
theorem dX4_charge_63 : decode cX4_charge 63 = .ok (.aload_n 0, 1) := by decide +kernel
theorem dX4_charge_64 : decode cX4_charge 64 = .ok (.getfield 70, 3) := by decide +kernel
theorem dX4_charge_67 : decode cX4_charge 67 = .ok (.putfield 193, 3) := by decide +kernel
theorem dX4_charge_70 : decode cX4_charge 70 = .ok (.aload_n 0, 1) := by decide +kernel
theorem dX4_charge_71 : decode cX4_charge 71 = .ok (.iload_n 3, 1) := by decide +kernel
theorem dX4_charge_72 : decode cX4_charge 72 = .ok (.invokevirtual 196, 3) := by decide +kernel
theorem dX4_charge_75 : decode cX4_charge 75 = .ok (.ireturn, 1) := by decide +kernel
set_option maxRecDepth 20000 in
theorem ggX4_drop_X4_accusedAt : GoodIn wsX4_drop wsX4_accusedAt := goodIn_ca (goodIn_r _ [13, 14, 15, 16, 17, 18, 12, 19, 20, 21, 22, 23, 24, 25, 26, 41, 42, 43, 44, 45, 46, 47, 48, 49, 50, 51, 52, 53, 54, 55, 56, 57, 58] (by decide +kernel) (by decide +kernel)) (goodIn_sub (fun _ h => List.mem_cons_of_mem _ (List.mem_append_right _ h)) (by decide +kernel))
set_option maxRecDepth 20000 in
theorem gX4_drop_X4_accusedAt : GoodIn wsX4_drop (wsV RX4 170 RX4 yX4_accusedAt wsX4_accusedAt) := goodIn_app (goodIn_of _ (by decide +kernel)) ggX4_drop_X4_accusedAt
theorem dX4_drop_0 : decode cX4_drop 0 = .ok (.aload_n 0, 1) := by decide +kernel
theorem dX4_drop_1 : decode cX4_drop 1 = .ok (.iload_n 1, 1) := by decide +kernel
theorem dX4_drop_2 : decode cX4_drop 2 = .ok (.iload_n 2, 1) := by decide +kernel
theorem dX4_drop_3 : decode cX4_drop 3 = .ok (.invokevirtual 170, 3) := by decide +kernel
theorem dX4_drop_6 : decode cX4_drop 6 = .ok (.astore_n 3, 1) := by decide +kernel
theorem dX4_drop_7 : decode cX4_drop 7 = .ok (.aload_n 3, 1) := by decide +kernel
theorem dX4_drop_8 : decode cX4_drop 8 = .ok (.getfield 178, 3) := by decide +kernel
theorem dX4_drop_11 : decode cX4_drop 11 = .ok (.ifCond .eq 13, 3) := by decide +kernel
theorem dX4_drop_14 : decode cX4_drop 14 = .ok (.new 42, 3) := by decide +kernel
theorem dX4_drop_17 : decode cX4_drop 17 = .ok (.dup, 1) := by decide +kernel
theorem dX4_drop_18 : decode cX4_drop 18 = .ok (.ldc 199, 2) := by decide +kernel
theorem dX4_drop_20 : decode cX4_drop 20 = .ok (.invokespecial 46, 3) := by decide +kernel
theorem dX4_drop_23 : decode cX4_drop 23 = .ok (.athrow, 1) := by decide +kernel
theorem dX4_drop_24 : decode cX4_drop 24 = .ok (.aload_n 3, 1) := by decide +kernel
theorem dX4_drop_25 : decode cX4_drop 25 = .ok (.iconst 1, 1) := by decide +kernel
theorem dX4_drop_26 : decode cX4_drop 26 = .ok (.putfield 178, 3) := by decide +kernel
theorem dX4_drop_29 : decode cX4_drop 29 = .ok (.aload_n 3, 1) := by decide +kernel
theorem dX4_drop_30 : decode cX4_drop 30 = .ok (.aload_n 0, 1) := by decide +kernel
theorem dX4_drop_31 : decode cX4_drop 31 = .ok (.getfield 70, 3) := by decide +kernel
theorem dX4_drop_34 : decode cX4_drop 34 = .ok (.putfield 201, 3) := by decide +kernel
theorem dX4_drop_37 : decode cX4_drop 37 = .ok (.aload_n 3, 1) := by decide +kernel
theorem dX4_drop_38 : decode cX4_drop 38 = .ok (.iconst 0, 1) := by decide +kernel
theorem dX4_drop_39 : decode cX4_drop 39 = .ok (.putfield 204, 3) := by decide +kernel
theorem dX4_drop_42 : decode cX4_drop 42 = .ok (.aload_n 3, 1) := by decide +kernel
theorem dX4_drop_43 : decode cX4_drop 43 = .ok (.iconst 0, 1) := by decide +kernel
theorem dX4_drop_44 : decode cX4_drop 44 = .ok (.putfield 207, 3) := by decide +kernel
theorem dX4_drop_47 : decode cX4_drop 47 = .ok (.aload_n 0, 1) := by decide +kernel
theorem dX4_drop_48 : decode cX4_drop 48 = .ok (.dup, 1) := by decide +kernel
theorem dX4_drop_49 : decode cX4_drop 49 = .ok (.getfield 210, 3) := by decide +kernel
theorem dX4_drop_52 : decode cX4_drop 52 = .ok (.iconst 1, 1) := by decide +kernel
theorem dX4_drop_53 : decode cX4_drop 53 = .ok (.iadd, 1) := by decide +kernel
theorem dX4_drop_54 : decode cX4_drop 54 = .ok (.putfield 210, 3) := by decide +kernel
theorem dX4_drop_57 : decode cX4_drop 57 = .ok (.return_, 1) := by decide +kernel
set_option maxRecDepth 20000 in
theorem ggX4_review_X4_accusedAt : GoodIn wsX4_review wsX4_accusedAt := goodIn_ca (goodIn_r _ [12, 13, 14, 15, 16, 17, 11, 18, 19, 20, 21, 22, 23, 24, 25, 105, 106, 107, 108, 109, 110, 111, 112, 113, 114, 115, 116, 117, 118, 119, 120, 121, 122] (by decide +kernel) (by decide +kernel)) (goodIn_sub (fun _ h => List.mem_cons_of_mem _ (List.mem_append_right _ h)) (by decide +kernel))
set_option maxRecDepth 20000 in
theorem gX4_review_X4_accusedAt : GoodIn wsX4_review (wsV RX4 170 RX4 yX4_accusedAt wsX4_accusedAt) := goodIn_app (goodIn_of _ (by decide +kernel)) ggX4_review_X4_accusedAt
set_option maxRecDepth 20000 in
theorem ggX4_review_X4_chargeable : GoodIn wsX4_review wsX4_chargeable := goodIn_r _ [29, 30, 31, 32, 33, 11, 34, 35, 36, 37, 38, 39, 40, 41, 42, 43, 44, 45, 46, 47, 48, 49, 50, 51, 52, 53, 54, 55, 56, 57, 58, 59, 60, 61, 62, 63, 64, 65, 66, 67, 68, 69, 70, 71, 72, 73, 74, 75, 76, 77, 78, 79, 80, 81, 82, 83, 84, 85, 86, 87, 88, 89, 90, 105, 106, 107, 108, 109, 110, 111, 112, 113, 114, 115, 116, 117, 91, 92, 93, 94, 95, 96, 97, 98, 99, 100, 101, 102, 103, 104, 118, 119, 120, 121, 122, 123, 124, 125, 126, 127, 128, 129, 130, 131, 132, 133, 134, 135, 136] (by decide +kernel) (by decide +kernel)
set_option maxRecDepth 20000 in
theorem gX4_review_X4_chargeable : GoodIn wsX4_review (wsV RX4 181 RX4 yX4_chargeable wsX4_chargeable) := goodIn_app (goodIn_of _ (by decide +kernel)) ggX4_review_X4_chargeable
theorem dX4_review_0 : decode cX4_review 0 = .ok (.aload_n 0, 1) := by decide +kernel
theorem dX4_review_1 : decode cX4_review 1 = .ok (.iload_n 1, 1) := by decide +kernel
theorem dX4_review_2 : decode cX4_review 2 = .ok (.iload_n 2, 1) := by decide +kernel
theorem dX4_review_3 : decode cX4_review 3 = .ok (.invokevirtual 170, 3) := by decide +kernel
theorem dX4_review_6 : decode cX4_review 6 = .ok (.astore_n 3, 1) := by decide +kernel
theorem dX4_review_7 : decode cX4_review 7 = .ok (.aload_n 3, 1) := by decide +kernel
theorem dX4_review_8 : decode cX4_review 8 = .ok (.getfield 178, 3) := by decide +kernel
theorem dX4_review_11 : decode cX4_review 11 = .ok (.iconst 1, 1) := by decide +kernel
theorem dX4_review_12 : decode cX4_review 12 = .ok (.if_icmp .ne 24, 3) := by decide +kernel
theorem dX4_review_15 : decode cX4_review 15 = .ok (.aload_n 0, 1) := by decide +kernel
theorem dX4_review_16 : decode cX4_review 16 = .ok (.getfield 70, 3) := by decide +kernel
theorem dX4_review_19 : decode cX4_review 19 = .ok (.aload_n 3, 1) := by decide +kernel
theorem dX4_review_20 : decode cX4_review 20 = .ok (.getfield 201, 3) := by decide +kernel
theorem dX4_review_23 : decode cX4_review 23 = .ok (.isub, 1) := by decide +kernel
theorem dX4_review_24 : decode cX4_review 24 = .ok (.bipush 30, 2) := by decide +kernel
theorem dX4_review_26 : decode cX4_review 26 = .ok (.if_icmp .gt 10, 3) := by decide +kernel
theorem dX4_review_29 : decode cX4_review 29 = .ok (.aload_n 3, 1) := by decide +kernel
theorem dX4_review_30 : decode cX4_review 30 = .ok (.getfield 204, 3) := by decide +kernel
theorem dX4_review_33 : decode cX4_review 33 = .ok (.ifCond .eq 13, 3) := by decide +kernel
theorem dX4_review_36 : decode cX4_review 36 = .ok (.new 42, 3) := by decide +kernel
theorem dX4_review_39 : decode cX4_review 39 = .ok (.dup, 1) := by decide +kernel
theorem dX4_review_40 : decode cX4_review 40 = .ok (.ldc 213, 2) := by decide +kernel
theorem dX4_review_42 : decode cX4_review 42 = .ok (.invokespecial 46, 3) := by decide +kernel
theorem dX4_review_45 : decode cX4_review 45 = .ok (.athrow, 1) := by decide +kernel
theorem dX4_review_46 : decode cX4_review 46 = .ok (.aload_n 3, 1) := by decide +kernel
theorem dX4_review_47 : decode cX4_review 47 = .ok (.iconst 1, 1) := by decide +kernel
theorem dX4_review_48 : decode cX4_review 48 = .ok (.putfield 204, 3) := by decide +kernel
theorem dX4_review_51 : decode cX4_review 51 = .ok (.aload_n 0, 1) := by decide +kernel
theorem dX4_review_52 : decode cX4_review 52 = .ok (.aload_n 3, 1) := by decide +kernel
theorem dX4_review_53 : decode cX4_review 53 = .ok (.aload_n 3, 1) := by decide +kernel
theorem dX4_review_54 : decode cX4_review 54 = .ok (.getfield 201, 3) := by decide +kernel
theorem dX4_review_57 : decode cX4_review 57 = .ok (.invokevirtual 181, 3) := by decide +kernel
theorem dX4_review_60 : decode cX4_review 60 = .ok (.ifCond .ne 5, 3) := by decide +kernel
theorem dX4_review_63 : decode cX4_review 63 = .ok (.iconst 0, 1) := by decide +kernel
theorem dX4_review_64 : decode cX4_review 64 = .ok (.ireturn, 1) := by decide +kernel
theorem dX4_review_65 : decode cX4_review 65 = .ok (.aload_n 3, 1) := by decide +kernel
theorem dX4_review_66 : decode cX4_review 66 = .ok (.iconst 0, 1) := by decide +kernel
theorem dX4_review_67 : decode cX4_review 67 = .ok (.putfield 178, 3) := by decide +kernel
theorem dX4_review_70 : decode cX4_review 70 = .ok (.aload_n 0, 1) := by decide +kernel
theorem dX4_review_71 : decode cX4_review 71 = .ok (.dup, 1) := by decide +kernel
theorem dX4_review_72 : decode cX4_review 72 = .ok (.getfield 215, 3) := by decide +kernel
theorem dX4_review_75 : decode cX4_review 75 = .ok (.iconst 1, 1) := by decide +kernel
theorem dX4_review_76 : decode cX4_review 76 = .ok (.iadd, 1) := by decide +kernel
theorem dX4_review_77 : decode cX4_review 77 = .ok (.putfield 215, 3) := by decide +kernel
theorem dX4_review_80 : decode cX4_review 80 = .ok (.iconst 1, 1) := by decide +kernel
theorem dX4_review_81 : decode cX4_review 81 = .ok (.ireturn, 1) := by decide +kernel
set_option maxRecDepth 20000 in
theorem ggX4_trial_X4_accusedAt : GoodIn wsX4_trial wsX4_accusedAt := goodIn_ca (goodIn_r _ [12, 13, 14, 15, 16, 17, 11, 18, 19, 20, 21, 22, 23, 24, 25, 111, 112, 113, 114, 115, 116, 117, 118, 119, 120, 121, 122, 123, 124, 125, 126, 127, 128] (by decide +kernel) (by decide +kernel)) (goodIn_sub (fun _ h => List.mem_cons_of_mem _ (List.mem_append_right _ h)) (by decide +kernel))
set_option maxRecDepth 20000 in
theorem gX4_trial_X4_accusedAt : GoodIn wsX4_trial (wsV RX4 170 RX4 yX4_accusedAt wsX4_accusedAt) := goodIn_app (goodIn_of _ (by decide +kernel)) ggX4_trial_X4_accusedAt
set_option maxRecDepth 20000 in
theorem ggX4_trial_X4_lackedBy : GoodIn wsX4_trial wsX4_lackedBy := goodIn_r _ [29, 30, 31, 32, 33, 34, 35, 36, 37, 38, 39, 40, 41, 42, 43, 44, 11, 45, 46, 47, 48, 49, 50, 111, 112, 113, 114, 115, 116, 117, 118, 119, 120, 121, 122, 123, 129, 130, 131, 132, 133, 134, 135, 136, 137, 138] (by decide +kernel) (by decide +kernel)
set_option maxRecDepth 20000 in
theorem gX4_trial_X4_lackedBy : GoodIn wsX4_trial (wsV RX4 157 RX4 yX4_lackedBy wsX4_lackedBy) := goodIn_app (goodIn_of _ (by decide +kernel)) ggX4_trial_X4_lackedBy
set_option maxRecDepth 20000 in
theorem ggX4_trial_X4_provenCharges : GoodIn wsX4_trial wsX4_provenCharges := goodIn_r _ [54, 55, 6, 7, 56, 44, 11, 45, 57, 58, 59, 60, 61, 62, 63, 64, 65, 30, 31, 66, 67, 68, 69, 70, 71, 40, 41, 35, 42, 43, 72, 73, 74, 75, 76, 77, 78, 111, 112, 113, 114, 115, 116, 117, 118, 119, 120, 121, 122, 123, 97, 98, 99, 100, 101, 102, 103, 104, 105, 106, 107, 108, 109, 110, 139, 140, 141, 142, 129, 130, 131, 132, 133, 134, 135, 136, 137, 138, 124, 125, 126, 127, 128] (by decide +kernel) (by decide +kernel)
set_option maxRecDepth 20000 in
theorem gX4_trial_X4_provenCharges : GoodIn wsX4_trial (wsV RX4 220 RX4 yX4_provenCharges wsX4_provenCharges) := goodIn_app (goodIn_of _ (by decide +kernel)) ggX4_trial_X4_provenCharges
set_option maxRecDepth 20000 in
theorem ggX4_trial_J6_bitCount_0f7a4 : GoodIn wsX4_trial wsJ6_bitCount_0f7a4 := goodIn_r _ [82, 83, 84, 85] (by decide +kernel) (by decide +kernel)
set_option maxRecDepth 20000 in
theorem gX4_trial_J6_bitCount_0f7a4 : GoodIn wsX4_trial (va_wsS RX4 227 yJ6_bitCount_0f7a4 wsJ6_bitCount_0f7a4) := goodIn_app (goodIn_of _ (by decide +kernel)) ggX4_trial_J6_bitCount_0f7a4
set_option maxRecDepth 20000 in
theorem ggX4_trial_X0_answerCharges : GoodIn wsX4_trial wsX0_answerCharges := goodIn_r _ [90, 91, 92, 93, 94, 95, 96, 44, 11, 45, 97, 98, 99, 100, 101, 102, 103, 104, 105, 106, 107, 108, 109, 110] (by decide +kernel) (by decide +kernel)
set_option maxRecDepth 20000 in
theorem gX4_trial_X0_answerCharges : GoodIn wsX4_trial (wsV RX4 235 RX0 yX0_answerCharges wsX0_answerCharges) := goodIn_app (goodIn_of _ (by decide +kernel)) ggX4_trial_X0_answerCharges
theorem dX4_trial_0 : decode cX4_trial 0 = .ok (.aload_n 0, 1) := by decide +kernel
theorem dX4_trial_1 : decode cX4_trial 1 = .ok (.iload_n 1, 1) := by decide +kernel
theorem dX4_trial_2 : decode cX4_trial 2 = .ok (.iload_n 2, 1) := by decide +kernel
theorem dX4_trial_3 : decode cX4_trial 3 = .ok (.invokevirtual 170, 3) := by decide +kernel
theorem dX4_trial_6 : decode cX4_trial 6 = .ok (.astore_n 3, 1) := by decide +kernel
theorem dX4_trial_7 : decode cX4_trial 7 = .ok (.aload_n 3, 1) := by decide +kernel
theorem dX4_trial_8 : decode cX4_trial 8 = .ok (.getfield 178, 3) := by decide +kernel
theorem dX4_trial_11 : decode cX4_trial 11 = .ok (.iconst 2, 1) := by decide +kernel
theorem dX4_trial_12 : decode cX4_trial 12 = .ok (.if_icmp .ne 12, 3) := by decide +kernel
theorem dX4_trial_15 : decode cX4_trial 15 = .ok (.aload_n 0, 1) := by decide +kernel
theorem dX4_trial_16 : decode cX4_trial 16 = .ok (.iload_n 1, 1) := by decide +kernel
theorem dX4_trial_17 : decode cX4_trial 17 = .ok (.iload_n 2, 1) := by decide +kernel
theorem dX4_trial_18 : decode cX4_trial 18 = .ok (.invokevirtual 157, 3) := by decide +kernel
theorem dX4_trial_21 : decode cX4_trial 21 = .ok (.ifCond .le 13, 3) := by decide +kernel
theorem dX4_trial_24 : decode cX4_trial 24 = .ok (.new 42, 3) := by decide +kernel
theorem dX4_trial_27 : decode cX4_trial 27 = .ok (.dup, 1) := by decide +kernel
theorem dX4_trial_28 : decode cX4_trial 28 = .ok (.ldc 218, 2) := by decide +kernel
theorem dX4_trial_30 : decode cX4_trial 30 = .ok (.invokespecial 46, 3) := by decide +kernel
theorem dX4_trial_33 : decode cX4_trial 33 = .ok (.athrow, 1) := by decide +kernel
theorem dX4_trial_34 : decode cX4_trial 34 = .ok (.aload_n 0, 1) := by decide +kernel
theorem dX4_trial_35 : decode cX4_trial 35 = .ok (.aload_n 3, 1) := by decide +kernel
theorem dX4_trial_36 : decode cX4_trial 36 = .ok (.invokevirtual 220, 3) := by decide +kernel
theorem dX4_trial_39 : decode cX4_trial 39 = .ok (.istore 4, 2) := by decide +kernel
theorem dX4_trial_41 : decode cX4_trial 41 = .ok (.aload_n 0, 1) := by decide +kernel
theorem dX4_trial_42 : decode cX4_trial 42 = .ok (.dup, 1) := by decide +kernel
theorem dX4_trial_43 : decode cX4_trial 43 = .ok (.getfield 224, 3) := by decide +kernel
theorem dX4_trial_46 : decode cX4_trial 46 = .ok (.iload 4, 2) := by decide +kernel
theorem dX4_trial_48 : decode cX4_trial 48 = .ok (.invokestatic 227, 3) := by decide +kernel
theorem dX4_trial_51 : decode cX4_trial 51 = .ok (.iadd, 1) := by decide +kernel
theorem dX4_trial_52 : decode cX4_trial 52 = .ok (.putfield 224, 3) := by decide +kernel
theorem dX4_trial_55 : decode cX4_trial 55 = .ok (.aload_n 0, 1) := by decide +kernel
theorem dX4_trial_56 : decode cX4_trial 56 = .ok (.dup, 1) := by decide +kernel
theorem dX4_trial_57 : decode cX4_trial 57 = .ok (.getfield 232, 3) := by decide +kernel
theorem dX4_trial_60 : decode cX4_trial 60 = .ok (.aload_n 3, 1) := by decide +kernel
theorem dX4_trial_61 : decode cX4_trial 61 = .ok (.getfield 190, 3) := by decide +kernel
theorem dX4_trial_64 : decode cX4_trial 64 = .ok (.iload 4, 2) := by decide +kernel
theorem dX4_trial_66 : decode cX4_trial 66 = .ok (.iconst (-1), 1) := by decide +kernel
theorem dX4_trial_67 : decode cX4_trial 67 = .ok (.ixor, 1) := by decide +kernel
theorem dX4_trial_68 : decode cX4_trial 68 = .ok (.iand, 1) := by decide +kernel
theorem dX4_trial_69 : decode cX4_trial 69 = .ok (.invokestatic 227, 3) := by decide +kernel
theorem dX4_trial_72 : decode cX4_trial 72 = .ok (.iadd, 1) := by decide +kernel
theorem dX4_trial_73 : decode cX4_trial 73 = .ok (.putfield 232, 3) := by decide +kernel
theorem dX4_trial_76 : decode cX4_trial 76 = .ok (.aload_n 3, 1) := by decide +kernel
theorem dX4_trial_77 : decode cX4_trial 77 = .ok (.iload 4, 2) := by decide +kernel
theorem dX4_trial_79 : decode cX4_trial 79 = .ok (.aload_n 0, 1) := by decide +kernel
theorem dX4_trial_80 : decode cX4_trial 80 = .ok (.getfield 70, 3) := by decide +kernel
theorem dX4_trial_83 : decode cX4_trial 83 = .ok (.invokevirtual 235, 3) := by decide +kernel
theorem dX4_trial_86 : decode cX4_trial 86 = .ok (.iload 4, 2) := by decide +kernel
theorem dX4_trial_88 : decode cX4_trial 88 = .ok (.ireturn, 1) := by decide +kernel
set_option maxRecDepth 20000 in
theorem ggX4_plea_X4_accusedAt : GoodIn wsX4_plea wsX4_accusedAt := goodIn_ca (goodIn_r _ [14, 15, 16, 17, 18, 19, 13, 20, 21, 22, 23, 24, 25, 26, 27, 79, 80, 81, 82, 83, 84, 85, 86, 87, 88, 89, 90, 91, 92, 93, 94, 95, 96] (by decide +kernel) (by decide +kernel)) (goodIn_sub (fun _ h => List.mem_cons_of_mem _ (List.mem_append_left _ (List.mem_append_right _ h))) (by decide +kernel))
set_option maxRecDepth 20000 in
theorem gX4_plea_X4_accusedAt : GoodIn wsX4_plea (wsV RX4 170 RX4 yX4_accusedAt wsX4_accusedAt) := goodIn_app (goodIn_of _ (by decide +kernel)) ggX4_plea_X4_accusedAt
set_option maxRecDepth 20000 in
theorem ggX4_plea_X4_checkToldOffences : GoodIn wsX4_plea wsX4_checkToldOffences := goodIn_ca (goodIn_r _ [31, 32, 33, 34, 79, 80, 81, 82, 83, 84, 85, 86, 87, 88, 89, 90, 91] (by decide +kernel) (by decide +kernel)) (goodIn_sub (fun _ h => List.mem_cons_of_mem _ (List.mem_append_right _ h)) (by decide +kernel))
set_option maxRecDepth 20000 in
theorem gX4_plea_X4_checkToldOffences : GoodIn wsX4_plea (wsV RX4 174 RX4 yX4_checkToldOffences wsX4_checkToldOffences) := goodIn_app (goodIn_of _ (by decide +kernel)) ggX4_plea_X4_checkToldOffences
set_option maxRecDepth 20000 in
theorem ggX4_plea_X4_gravityOf : GoodIn wsX4_plea wsX4_gravityOf := goodIn_r _ [38, 39, 40, 41, 42, 13, 43, 79, 80, 81, 82, 83, 84, 85, 86, 87, 88, 89, 90, 91, 97, 98, 99, 100] (by decide +kernel) (by decide +kernel)
set_option maxRecDepth 20000 in
theorem gX4_plea_X4_gravityOf : GoodIn wsX4_plea (wsV RX4 196 RX4 yX4_gravityOf wsX4_gravityOf) := goodIn_app (goodIn_of _ (by decide +kernel)) ggX4_plea_X4_gravityOf
set_option maxRecDepth 20000 in
theorem ggX4_plea_X4_discountAfter : GoodIn wsX4_plea wsX4_discountAfter := goodIn_r _ [46] (by decide +kernel) (by decide +kernel)
set_option maxRecDepth 20000 in
theorem gX4_plea_X4_discountAfter : GoodIn wsX4_plea (va_wsS RX4 243 yX4_discountAfter wsX4_discountAfter) := goodIn_app (goodIn_of _ (by decide +kernel)) ggX4_plea_X4_discountAfter
set_option maxRecDepth 20000 in
theorem ggX4_plea_J6_bitCount_0f7a4 : GoodIn wsX4_plea wsJ6_bitCount_0f7a4 := goodIn_r _ [50, 51, 52, 53] (by decide +kernel) (by decide +kernel)
set_option maxRecDepth 20000 in
theorem gX4_plea_J6_bitCount_0f7a4 : GoodIn wsX4_plea (va_wsS RX4 227 yJ6_bitCount_0f7a4 wsJ6_bitCount_0f7a4) := goodIn_app (goodIn_of _ (by decide +kernel)) ggX4_plea_J6_bitCount_0f7a4
set_option maxRecDepth 20000 in
theorem ggX4_plea_X0_answerCharges : GoodIn wsX4_plea wsX0_answerCharges := goodIn_r _ [58, 59, 60, 61, 62, 63, 64, 42, 13, 43, 65, 66, 67, 68, 69, 70, 71, 72, 73, 74, 75, 76, 77, 78] (by decide +kernel) (by decide +kernel)
set_option maxRecDepth 20000 in
theorem gX4_plea_X0_answerCharges : GoodIn wsX4_plea (wsV RX4 235 RX0 yX0_answerCharges wsX0_answerCharges) := goodIn_app (goodIn_of _ (by decide +kernel)) ggX4_plea_X0_answerCharges
end
section
theorem dX4_plea_0 : decode cX4_plea 0 = .ok (.aload_n 0, 1) := by decide +kernel
theorem dX4_plea_1 : decode cX4_plea 1 = .ok (.iload_n 1, 1) := by decide +kernel
theorem dX4_plea_2 : decode cX4_plea 2 = .ok (.iload_n 2, 1) := by decide +kernel
theorem dX4_plea_3 : decode cX4_plea 3 = .ok (.invokevirtual 170, 3) := by decide +kernel
theorem dX4_plea_6 : decode cX4_plea 6 = .ok (.astore 4, 2) := by decide +kernel
theorem dX4_plea_8 : decode cX4_plea 8 = .ok (.aload_n 0, 1) := by decide +kernel
theorem dX4_plea_9 : decode cX4_plea 9 = .ok (.iload_n 3, 1) := by decide +kernel
theorem dX4_plea_10 : decode cX4_plea 10 = .ok (.invokevirtual 174, 3) := by decide +kernel
theorem dX4_plea_13 : decode cX4_plea 13 = .ok (.aload 4, 2) := by decide +kernel
theorem dX4_plea_15 : decode cX4_plea 15 = .ok (.getfield 178, 3) := by decide +kernel
theorem dX4_plea_18 : decode cX4_plea 18 = .ok (.iconst 2, 1) := by decide +kernel
theorem dX4_plea_19 : decode cX4_plea 19 = .ok (.if_icmp .ne 19, 3) := by decide +kernel
theorem dX4_plea_22 : decode cX4_plea 22 = .ok (.iload_n 3, 1) := by decide +kernel
theorem dX4_plea_23 : decode cX4_plea 23 = .ok (.ifCond .eq 15, 3) := by decide +kernel
theorem dX4_plea_26 : decode cX4_plea 26 = .ok (.iload_n 3, 1) := by decide +kernel
theorem dX4_plea_27 : decode cX4_plea 27 = .ok (.aload 4, 2) := by decide +kernel
theorem dX4_plea_29 : decode cX4_plea 29 = .ok (.getfield 190, 3) := by decide +kernel
theorem dX4_plea_32 : decode cX4_plea 32 = .ok (.iconst (-1), 1) := by decide +kernel
theorem dX4_plea_33 : decode cX4_plea 33 = .ok (.ixor, 1) := by decide +kernel
theorem dX4_plea_34 : decode cX4_plea 34 = .ok (.iand, 1) := by decide +kernel
theorem dX4_plea_35 : decode cX4_plea 35 = .ok (.ifCond .eq 13, 3) := by decide +kernel
theorem dX4_plea_38 : decode cX4_plea 38 = .ok (.new 42, 3) := by decide +kernel
theorem dX4_plea_41 : decode cX4_plea 41 = .ok (.dup, 1) := by decide +kernel
theorem dX4_plea_42 : decode cX4_plea 42 = .ok (.ldc 239, 2) := by decide +kernel
theorem dX4_plea_44 : decode cX4_plea 44 = .ok (.invokespecial 46, 3) := by decide +kernel
theorem dX4_plea_47 : decode cX4_plea 47 = .ok (.athrow, 1) := by decide +kernel
theorem dX4_plea_48 : decode cX4_plea 48 = .ok (.aload_n 0, 1) := by decide +kernel
theorem dX4_plea_49 : decode cX4_plea 49 = .ok (.iload_n 3, 1) := by decide +kernel
theorem dX4_plea_50 : decode cX4_plea 50 = .ok (.invokevirtual 196, 3) := by decide +kernel
theorem dX4_plea_53 : decode cX4_plea 53 = .ok (.istore 5, 2) := by decide +kernel
theorem dX4_plea_55 : decode cX4_plea 55 = .ok (.iconst 2, 1) := by decide +kernel
theorem dX4_plea_56 : decode cX4_plea 56 = .ok (.iload 5, 2) := by decide +kernel
theorem dX4_plea_58 : decode cX4_plea 58 = .ok (.imul, 1) := by decide +kernel
theorem dX4_plea_59 : decode cX4_plea 59 = .ok (.aload_n 0, 1) := by decide +kernel
theorem dX4_plea_60 : decode cX4_plea 60 = .ok (.aload 4, 2) := by decide +kernel
theorem dX4_plea_62 : decode cX4_plea 62 = .ok (.getfield 190, 3) := by decide +kernel
theorem dX4_plea_65 : decode cX4_plea 65 = .ok (.invokevirtual 196, 3) := by decide +kernel
theorem dX4_plea_68 : decode cX4_plea 68 = .ok (.if_icmp .ge 13, 3) := by decide +kernel
theorem dX4_plea_71 : decode cX4_plea 71 = .ok (.new 42, 3) := by decide +kernel
theorem dX4_plea_74 : decode cX4_plea 74 = .ok (.dup, 1) := by decide +kernel
theorem dX4_plea_75 : decode cX4_plea 75 = .ok (.ldc 241, 2) := by decide +kernel
theorem dX4_plea_77 : decode cX4_plea 77 = .ok (.invokespecial 46, 3) := by decide +kernel
theorem dX4_plea_80 : decode cX4_plea 80 = .ok (.athrow, 1) := by decide +kernel
theorem dX4_plea_81 : decode cX4_plea 81 = .ok (.bipush 12, 2) := by decide +kernel
theorem dX4_plea_83 : decode cX4_plea 83 = .ok (.iload 5, 2) := by decide +kernel
theorem dX4_plea_85 : decode cX4_plea 85 = .ok (.imul, 1) := by decide +kernel
theorem dX4_plea_86 : decode cX4_plea 86 = .ok (.bipush 100, 2) := by decide +kernel
theorem dX4_plea_88 : decode cX4_plea 88 = .ok (.aload_n 0, 1) := by decide +kernel
theorem dX4_plea_89 : decode cX4_plea 89 = .ok (.getfield 70, 3) := by decide +kernel
theorem dX4_plea_92 : decode cX4_plea 92 = .ok (.aload 4, 2) := by decide +kernel
theorem dX4_plea_94 : decode cX4_plea 94 = .ok (.getfield 193, 3) := by decide +kernel
theorem dX4_plea_97 : decode cX4_plea 97 = .ok (.isub, 1) := by decide +kernel
theorem dX4_plea_98 : decode cX4_plea 98 = .ok (.invokestatic 243, 3) := by decide +kernel
theorem dX4_plea_101 : decode cX4_plea 101 = .ok (.isub, 1) := by decide +kernel
theorem dX4_plea_102 : decode cX4_plea 102 = .ok (.imul, 1) := by decide +kernel
theorem dX4_plea_103 : decode cX4_plea 103 = .ok (.bipush 100, 2) := by decide +kernel
theorem dX4_plea_105 : decode cX4_plea 105 = .ok (.idiv, 1) := by decide +kernel
theorem dX4_plea_106 : decode cX4_plea 106 = .ok (.istore 6, 2) := by decide +kernel
theorem dX4_plea_108 : decode cX4_plea 108 = .ok (.aload_n 0, 1) := by decide +kernel
theorem dX4_plea_109 : decode cX4_plea 109 = .ok (.dup, 1) := by decide +kernel
theorem dX4_plea_110 : decode cX4_plea 110 = .ok (.getfield 246, 3) := by decide +kernel
theorem dX4_plea_113 : decode cX4_plea 113 = .ok (.iconst 1, 1) := by decide +kernel
theorem dX4_plea_114 : decode cX4_plea 114 = .ok (.iadd, 1) := by decide +kernel
theorem dX4_plea_115 : decode cX4_plea 115 = .ok (.putfield 246, 3) := by decide +kernel
theorem dX4_plea_118 : decode cX4_plea 118 = .ok (.aload_n 0, 1) := by decide +kernel
theorem dX4_plea_119 : decode cX4_plea 119 = .ok (.dup, 1) := by decide +kernel
theorem dX4_plea_120 : decode cX4_plea 120 = .ok (.getfield 224, 3) := by decide +kernel
theorem dX4_plea_123 : decode cX4_plea 123 = .ok (.iload_n 3, 1) := by decide +kernel
theorem dX4_plea_124 : decode cX4_plea 124 = .ok (.invokestatic 227, 3) := by decide +kernel
theorem dX4_plea_127 : decode cX4_plea 127 = .ok (.iadd, 1) := by decide +kernel
theorem dX4_plea_128 : decode cX4_plea 128 = .ok (.putfield 224, 3) := by decide +kernel
theorem dX4_plea_131 : decode cX4_plea 131 = .ok (.aload 4, 2) := by decide +kernel
theorem dX4_plea_133 : decode cX4_plea 133 = .ok (.dup, 1) := by decide +kernel
theorem dX4_plea_134 : decode cX4_plea 134 = .ok (.getfield 249, 3) := by decide +kernel
theorem dX4_plea_137 : decode cX4_plea 137 = .ok (.iload 6, 2) := by decide +kernel
theorem dX4_plea_139 : decode cX4_plea 139 = .ok (.iadd, 1) := by decide +kernel
theorem dX4_plea_140 : decode cX4_plea 140 = .ok (.putfield 249, 3) := by decide +kernel
theorem dX4_plea_143 : decode cX4_plea 143 = .ok (.aload 4, 2) := by decide +kernel
theorem dX4_plea_145 : decode cX4_plea 145 = .ok (.iload_n 3, 1) := by decide +kernel
theorem dX4_plea_146 : decode cX4_plea 146 = .ok (.aload_n 0, 1) := by decide +kernel
theorem dX4_plea_147 : decode cX4_plea 147 = .ok (.getfield 70, 3) := by decide +kernel
theorem dX4_plea_150 : decode cX4_plea 150 = .ok (.invokevirtual 235, 3) := by decide +kernel
theorem dX4_plea_153 : decode cX4_plea 153 = .ok (.iload 6, 2) := by decide +kernel
theorem dX4_plea_155 : decode cX4_plea 155 = .ok (.ireturn, 1) := by decide +kernel
set_option maxRecDepth 20000 in
theorem ggX4_arrest_X4_accusedAt : GoodIn wsX4_arrest wsX4_accusedAt := goodIn_ca (goodIn_r _ [9, 10, 11, 12, 13, 14, 8, 15, 16, 17, 18, 19, 20, 21, 22, 52, 53, 54, 55, 56, 57, 58, 59, 60, 61, 62, 63, 64, 65, 66, 67, 68, 69] (by decide +kernel) (by decide +kernel)) (goodIn_sub (fun _ h => List.mem_cons_of_mem _ (List.mem_append_right _ h)) (by decide +kernel))
set_option maxRecDepth 20000 in
theorem gX4_arrest_X4_accusedAt : GoodIn wsX4_arrest (wsV RX4 170 RX4 yX4_accusedAt wsX4_accusedAt) := goodIn_app (goodIn_of _ (by decide +kernel)) ggX4_arrest_X4_accusedAt
set_option maxRecDepth 20000 in
theorem ggX4_arrest_X0_daysLeft : GoodIn wsX4_arrest wsX0_daysLeft := goodIn_r _ [27, 28, 29, 30, 31, 32, 33, 26, 34, 35, 36, 8, 37, 38, 39, 40, 41, 42, 43, 44, 45, 46, 47, 48, 49, 50, 51] (by decide +kernel) (by decide +kernel)
set_option maxRecDepth 20000 in
theorem gX4_arrest_X0_daysLeft : GoodIn wsX4_arrest (wsV RX4 252 RX0 yX0_daysLeft wsX0_daysLeft) := goodIn_app (goodIn_of _ (by decide +kernel)) ggX4_arrest_X0_daysLeft
theorem dX4_arrest_0 : decode cX4_arrest 0 = .ok (.aload_n 0, 1) := by decide +kernel
theorem dX4_arrest_1 : decode cX4_arrest 1 = .ok (.iload_n 1, 1) := by decide +kernel
theorem dX4_arrest_2 : decode cX4_arrest 2 = .ok (.iload_n 2, 1) := by decide +kernel
theorem dX4_arrest_3 : decode cX4_arrest 3 = .ok (.invokevirtual 170, 3) := by decide +kernel
theorem dX4_arrest_6 : decode cX4_arrest 6 = .ok (.astore_n 3, 1) := by decide +kernel
theorem dX4_arrest_7 : decode cX4_arrest 7 = .ok (.aload_n 3, 1) := by decide +kernel
theorem dX4_arrest_8 : decode cX4_arrest 8 = .ok (.invokevirtual 252, 3) := by decide +kernel
theorem dX4_arrest_11 : decode cX4_arrest 11 = .ok (.istore 4, 2) := by decide +kernel
theorem dX4_arrest_13 : decode cX4_arrest 13 = .ok (.aload_n 3, 1) := by decide +kernel
theorem dX4_arrest_14 : decode cX4_arrest 14 = .ok (.getfield 178, 3) := by decide +kernel
theorem dX4_arrest_17 : decode cX4_arrest 17 = .ok (.iconst 1, 1) := by decide +kernel
theorem dX4_arrest_18 : decode cX4_arrest 18 = .ok (.if_icmp .eq 15, 3) := by decide +kernel
theorem dX4_arrest_21 : decode cX4_arrest 21 = .ok (.aload_n 3, 1) := by decide +kernel
theorem dX4_arrest_22 : decode cX4_arrest 22 = .ok (.getfield 207, 3) := by decide +kernel
theorem dX4_arrest_25 : decode cX4_arrest 25 = .ok (.ifCond .ne 8, 3) := by decide +kernel
theorem dX4_arrest_28 : decode cX4_arrest 28 = .ok (.iload 4, 2) := by decide +kernel
theorem dX4_arrest_30 : decode cX4_arrest 30 = .ok (.ifCond .gt 14, 3) := by decide +kernel
theorem dX4_arrest_33 : decode cX4_arrest 33 = .ok (.new 42, 3) := by decide +kernel
theorem dX4_arrest_36 : decode cX4_arrest 36 = .ok (.dup, 1) := by decide +kernel
theorem dX4_arrest_37 : decode cX4_arrest 37 = .ok (.ldc_w 256, 3) := by decide +kernel
theorem dX4_arrest_40 : decode cX4_arrest 40 = .ok (.invokespecial 46, 3) := by decide +kernel
theorem dX4_arrest_43 : decode cX4_arrest 43 = .ok (.athrow, 1) := by decide +kernel
theorem dX4_arrest_44 : decode cX4_arrest 44 = .ok (.aload_n 3, 1) := by decide +kernel
theorem dX4_arrest_45 : decode cX4_arrest 45 = .ok (.iconst 1, 1) := by decide +kernel
theorem dX4_arrest_46 : decode cX4_arrest 46 = .ok (.putfield 207, 3) := by decide +kernel
theorem dX4_arrest_49 : decode cX4_arrest 49 = .ok (.iload 4, 2) := by decide +kernel
theorem dX4_arrest_51 : decode cX4_arrest 51 = .ok (.ireturn, 1) := by decide +kernel
set_option maxRecDepth 20000 in
theorem ggX4_extend_X4_accusedAt : GoodIn wsX4_extend wsX4_accusedAt := goodIn_ca (goodIn_r _ [11, 12, 13, 14, 15, 16, 10, 17, 18, 19, 20, 21, 22, 23, 24, 51, 52, 53, 54, 55, 56, 57, 58, 59, 60, 61, 62, 63, 64, 65, 66, 67, 68] (by decide +kernel) (by decide +kernel)) (goodIn_sub (fun _ h => List.mem_cons_of_mem _ (List.mem_append_right _ h)) (by decide +kernel))
set_option maxRecDepth 20000 in
theorem gX4_extend_X4_accusedAt : GoodIn wsX4_extend (wsV RX4 170 RX4 yX4_accusedAt wsX4_accusedAt) := goodIn_app (goodIn_of _ (by decide +kernel)) ggX4_extend_X4_accusedAt
set_option maxRecDepth 20000 in
theorem ggX4_extend_X4_isWithin : GoodIn wsX4_extend wsX4_isWithin := goodIn_r _ [27] (by decide +kernel) (by decide +kernel)
set_option maxRecDepth 20000 in
theorem gX4_extend_X4_isWithin : GoodIn wsX4_extend (va_wsS RX4 27 yX4_isWithin wsX4_isWithin) := goodIn_app (goodIn_of _ (by decide +kernel)) ggX4_extend_X4_isWithin
set_option maxRecDepth 20000 in
theorem ggX4_extend_X4_hasBit : GoodIn wsX4_extend wsX4_hasBit := goodIn_r _ [30] (by decide +kernel) (by decide +kernel)
set_option maxRecDepth 20000 in
theorem gX4_extend_X4_hasBit : GoodIn wsX4_extend (va_wsS RX4 96 yX4_hasBit wsX4_hasBit) := goodIn_app (goodIn_of _ (by decide +kernel)) ggX4_extend_X4_hasBit
set_option maxRecDepth 20000 in
theorem ggX4_extend_X0_ceilingWhileOpen : GoodIn wsX4_extend wsX0_ceilingWhileOpen := goodIn_r _ [35, 36, 29, 10, 30, 37, 38, 39, 40, 41, 42, 43, 44, 45, 46, 47, 48, 49, 50] (by decide +kernel) (by decide +kernel)
set_option maxRecDepth 20000 in
theorem gX4_extend_X0_ceilingWhileOpen : GoodIn wsX4_extend (wsV RX4 265 RX0 yX0_ceilingWhileOpen wsX0_ceilingWhileOpen) := goodIn_app (goodIn_of _ (by decide +kernel)) ggX4_extend_X0_ceilingWhileOpen
theorem dX4_extend_0 : decode cX4_extend 0 = .ok (.aload_n 0, 1) := by decide +kernel
theorem dX4_extend_1 : decode cX4_extend 1 = .ok (.iload_n 1, 1) := by decide +kernel
theorem dX4_extend_2 : decode cX4_extend 2 = .ok (.iload_n 2, 1) := by decide +kernel
theorem dX4_extend_3 : decode cX4_extend 3 = .ok (.invokevirtual 170, 3) := by decide +kernel
theorem dX4_extend_6 : decode cX4_extend 6 = .ok (.astore 4, 2) := by decide +kernel
theorem dX4_extend_8 : decode cX4_extend 8 = .ok (.iload_n 3, 1) := by decide +kernel
theorem dX4_extend_9 : decode cX4_extend 9 = .ok (.iconst 1, 1) := by decide +kernel
theorem dX4_extend_10 : decode cX4_extend 10 = .ok (.iconst 2, 1) := by decide +kernel
theorem dX4_extend_11 : decode cX4_extend 11 = .ok (.invokestatic 27, 3) := by decide +kernel
theorem dX4_extend_14 : decode cX4_extend 14 = .ok (.ifCond .ne 14, 3) := by decide +kernel
theorem dX4_extend_17 : decode cX4_extend 17 = .ok (.new 31, 3) := by decide +kernel
theorem dX4_extend_20 : decode cX4_extend 20 = .ok (.dup, 1) := by decide +kernel
theorem dX4_extend_21 : decode cX4_extend 21 = .ok (.ldc_w 258, 3) := by decide +kernel
theorem dX4_extend_24 : decode cX4_extend 24 = .ok (.invokespecial 35, 3) := by decide +kernel
theorem dX4_extend_27 : decode cX4_extend 27 = .ok (.athrow, 1) := by decide +kernel
theorem dX4_extend_28 : decode cX4_extend 28 = .ok (.aload 4, 2) := by decide +kernel
theorem dX4_extend_30 : decode cX4_extend 30 = .ok (.getfield 178, 3) := by decide +kernel
theorem dX4_extend_33 : decode cX4_extend 33 = .ok (.ifCond .ne 15, 3) := by decide +kernel
theorem dX4_extend_36 : decode cX4_extend 36 = .ok (.aload 4, 2) := by decide +kernel
theorem dX4_extend_38 : decode cX4_extend 38 = .ok (.getfield 260, 3) := by decide +kernel
theorem dX4_extend_41 : decode cX4_extend 41 = .ok (.iload_n 3, 1) := by decide +kernel
theorem dX4_extend_42 : decode cX4_extend 42 = .ok (.invokestatic 96, 3) := by decide +kernel
theorem dX4_extend_45 : decode cX4_extend 45 = .ok (.ifCond .eq 14, 3) := by decide +kernel
theorem dX4_extend_48 : decode cX4_extend 48 = .ok (.new 42, 3) := by decide +kernel
theorem dX4_extend_51 : decode cX4_extend 51 = .ok (.dup, 1) := by decide +kernel
theorem dX4_extend_52 : decode cX4_extend 52 = .ok (.ldc_w 263, 3) := by decide +kernel
theorem dX4_extend_55 : decode cX4_extend 55 = .ok (.invokespecial 46, 3) := by decide +kernel
theorem dX4_extend_58 : decode cX4_extend 58 = .ok (.athrow, 1) := by decide +kernel
theorem dX4_extend_59 : decode cX4_extend 59 = .ok (.aload 4, 2) := by decide +kernel
theorem dX4_extend_61 : decode cX4_extend 61 = .ok (.dup, 1) := by decide +kernel
theorem dX4_extend_62 : decode cX4_extend 62 = .ok (.getfield 260, 3) := by decide +kernel
theorem dX4_extend_65 : decode cX4_extend 65 = .ok (.iconst 1, 1) := by decide +kernel
theorem dX4_extend_66 : decode cX4_extend 66 = .ok (.iload_n 3, 1) := by decide +kernel
theorem dX4_extend_67 : decode cX4_extend 67 = .ok (.ishl, 1) := by decide +kernel
theorem dX4_extend_68 : decode cX4_extend 68 = .ok (.ior, 1) := by decide +kernel
theorem dX4_extend_69 : decode cX4_extend 69 = .ok (.putfield 260, 3) := by decide +kernel
theorem dX4_extend_72 : decode cX4_extend 72 = .ok (.aload 4, 2) := by decide +kernel
theorem dX4_extend_74 : decode cX4_extend 74 = .ok (.invokevirtual 265, 3) := by decide +kernel
theorem dX4_extend_77 : decode cX4_extend 77 = .ok (.ireturn, 1) := by decide +kernel
set_option maxRecDepth 20000 in
theorem ggX4_release_X4_accusedAt : GoodIn wsX4_release wsX4_accusedAt := goodIn_ca (goodIn_r _ [8, 9, 10, 11, 12, 13, 7, 14, 15, 16, 17, 18, 19, 20, 21, 36, 37, 38, 39, 40, 41, 42, 43, 44, 45, 46, 47, 48, 49, 50, 51, 52, 53] (by decide +kernel) (by decide +kernel)) (goodIn_sub (fun _ h => List.mem_cons_of_mem _ (List.mem_append_right _ h)) (by decide +kernel))
set_option maxRecDepth 20000 in
theorem gX4_release_X4_accusedAt : GoodIn wsX4_release (wsV RX4 170 RX4 yX4_accusedAt wsX4_accusedAt) := goodIn_app (goodIn_of _ (by decide +kernel)) ggX4_release_X4_accusedAt
theorem dX4_release_0 : decode cX4_release 0 = .ok (.aload_n 0, 1) := by decide +kernel
theorem dX4_release_1 : decode cX4_release 1 = .ok (.iload_n 1, 1) := by decide +kernel
theorem dX4_release_2 : decode cX4_release 2 = .ok (.iload_n 2, 1) := by decide +kernel
theorem dX4_release_3 : decode cX4_release 3 = .ok (.invokevirtual 170, 3) := by decide +kernel
theorem dX4_release_6 : decode cX4_release 6 = .ok (.astore_n 3, 1) := by decide +kernel
theorem dX4_release_7 : decode cX4_release 7 = .ok (.aload_n 3, 1) := by decide +kernel
theorem dX4_release_8 : decode cX4_release 8 = .ok (.getfield 207, 3) := by decide +kernel
theorem dX4_release_11 : decode cX4_release 11 = .ok (.ifCond .ne 14, 3) := by decide +kernel
theorem dX4_release_14 : decode cX4_release 14 = .ok (.new 42, 3) := by decide +kernel
theorem dX4_release_17 : decode cX4_release 17 = .ok (.dup, 1) := by decide +kernel
theorem dX4_release_18 : decode cX4_release 18 = .ok (.ldc_w 268, 3) := by decide +kernel
theorem dX4_release_21 : decode cX4_release 21 = .ok (.invokespecial 46, 3) := by decide +kernel
theorem dX4_release_24 : decode cX4_release 24 = .ok (.athrow, 1) := by decide +kernel
theorem dX4_release_25 : decode cX4_release 25 = .ok (.aload_n 3, 1) := by decide +kernel
theorem dX4_release_26 : decode cX4_release 26 = .ok (.iconst 0, 1) := by decide +kernel
theorem dX4_release_27 : decode cX4_release 27 = .ok (.putfield 207, 3) := by decide +kernel
theorem dX4_release_30 : decode cX4_release 30 = .ok (.return_, 1) := by decide +kernel
theorem dX4_day_0 : decode cX4_day 0 = .ok (.aload_n 0, 1) := by decide +kernel
theorem dX4_day_1 : decode cX4_day 1 = .ok (.getfield 70, 3) := by decide +kernel
theorem dX4_day_4 : decode cX4_day 4 = .ok (.ireturn, 1) := by decide +kernel
set_option maxRecDepth 20000 in
theorem ggX4_nests_X4_offenceAt : GoodIn wsX4_nests wsX4_offenceAt := goodIn_r _ [7, 8, 15, 16, 17, 18, 19, 20, 21, 22, 23, 24, 25, 26, 27] (by decide +kernel) (by decide +kernel)
set_option maxRecDepth 20000 in
theorem gX4_nests_X4_offenceAt : GoodIn wsX4_nests (wsV RX4 50 RX4 yX4_offenceAt wsX4_offenceAt) := goodIn_app (goodIn_of _ (by decide +kernel)) ggX4_nests_X4_offenceAt
set_option maxRecDepth 20000 in
theorem ggX4_nests_X3_nestsIn : GoodIn wsX4_nests wsX3_nestsIn := goodIn_r _ [13, 14, 28, 29, 30, 31] (by decide +kernel) (by decide +kernel)
set_option maxRecDepth 20000 in
theorem gX4_nests_X3_nestsIn : GoodIn wsX4_nests (wsV RX4 270 RX3 yX3_nestsIn wsX3_nestsIn) := goodIn_app (goodIn_of _ (by decide +kernel)) ggX4_nests_X3_nestsIn
theorem dX4_nests_0 : decode cX4_nests 0 = .ok (.aload_n 0, 1) := by decide +kernel
theorem dX4_nests_1 : decode cX4_nests 1 = .ok (.iload_n 1, 1) := by decide +kernel
theorem dX4_nests_2 : decode cX4_nests 2 = .ok (.invokevirtual 50, 3) := by decide +kernel
theorem dX4_nests_5 : decode cX4_nests 5 = .ok (.astore_n 3, 1) := by decide +kernel
theorem dX4_nests_6 : decode cX4_nests 6 = .ok (.aload_n 0, 1) := by decide +kernel
theorem dX4_nests_7 : decode cX4_nests 7 = .ok (.iload_n 2, 1) := by decide +kernel
theorem dX4_nests_8 : decode cX4_nests 8 = .ok (.invokevirtual 50, 3) := by decide +kernel
theorem dX4_nests_11 : decode cX4_nests 11 = .ok (.astore 4, 2) := by decide +kernel
theorem dX4_nests_13 : decode cX4_nests 13 = .ok (.aload_n 3, 1) := by decide +kernel
theorem dX4_nests_14 : decode cX4_nests 14 = .ok (.ifnull 8, 3) := by decide +kernel
theorem dX4_nests_17 : decode cX4_nests 17 = .ok (.aload 4, 2) := by decide +kernel
theorem dX4_nests_19 : decode cX4_nests 19 = .ok (.ifnonnull 13, 3) := by decide +kernel
theorem dX4_nests_22 : decode cX4_nests 22 = .ok (.new 54, 3) := by decide +kernel
theorem dX4_nests_25 : decode cX4_nests 25 = .ok (.dup, 1) := by decide +kernel
theorem dX4_nests_26 : decode cX4_nests 26 = .ok (.ldc 56, 2) := by decide +kernel
theorem dX4_nests_28 : decode cX4_nests 28 = .ok (.invokespecial 58, 3) := by decide +kernel
theorem dX4_nests_31 : decode cX4_nests 31 = .ok (.athrow, 1) := by decide +kernel
theorem dX4_nests_32 : decode cX4_nests 32 = .ok (.aload_n 3, 1) := by decide +kernel
theorem dX4_nests_33 : decode cX4_nests 33 = .ok (.aload 4, 2) := by decide +kernel
theorem dX4_nests_35 : decode cX4_nests 35 = .ok (.invokevirtual 270, 3) := by decide +kernel
theorem dX4_nests_38 : decode cX4_nests 38 = .ok (.ireturn, 1) := by decide +kernel
set_option maxRecDepth 20000 in
theorem ggX4_strength_X4_accusedAt : GoodIn wsX4_strength wsX4_accusedAt := goodIn_ca (goodIn_r _ [7, 1, 2, 8, 9, 10, 6, 11, 12, 13, 14, 15, 16, 17, 18, 55, 56, 57, 58, 59, 60, 61, 62, 63, 64, 65, 66, 67, 68, 69, 70, 71, 72] (by decide +kernel) (by decide +kernel)) (goodIn_sub (fun _ h => List.mem_cons_of_mem _ (List.mem_append_left _ (List.mem_append_right _ h))) (by decide +kernel))
set_option maxRecDepth 20000 in
theorem gX4_strength_X4_accusedAt : GoodIn wsX4_strength (wsV RX4 170 RX4 yX4_accusedAt wsX4_accusedAt) := goodIn_app (goodIn_of _ (by decide +kernel)) ggX4_strength_X4_accusedAt
set_option maxRecDepth 20000 in
theorem ggX4_strength_X4_isWithin : GoodIn wsX4_strength wsX4_isWithin := goodIn_r _ [21] (by decide +kernel) (by decide +kernel)
set_option maxRecDepth 20000 in
theorem gX4_strength_X4_isWithin : GoodIn wsX4_strength (va_wsS RX4 27 yX4_isWithin wsX4_isWithin) := goodIn_app (goodIn_of _ (by decide +kernel)) ggX4_strength_X4_isWithin
set_option maxRecDepth 20000 in
theorem ggX4_strength_X4_checkDay : GoodIn wsX4_strength wsX4_checkDay := goodIn_ca (goodIn_r _ [25, 26, 27, 28, 19, 20, 6, 21, 55, 56, 57, 58, 59, 60, 61, 62, 63, 64, 65, 66, 67] (by decide +kernel) (by decide +kernel)) (goodIn_sub (fun _ h => List.mem_cons_of_mem _ (List.mem_append_right _ h)) (by decide +kernel))
set_option maxRecDepth 20000 in
theorem gX4_strength_X4_checkDay : GoodIn wsX4_strength (wsV RX4 276 RX4 yX4_checkDay wsX4_checkDay) := goodIn_app (goodIn_of _ (by decide +kernel)) ggX4_strength_X4_checkDay
set_option maxRecDepth 20000 in
theorem ggX4_strength_X4_strengthAgainst : GoodIn wsX4_strength wsX4_strengthAgainst := goodIn_r _ [32, 33, 34, 35, 36, 37, 38, 39, 40, 41, 42, 43, 44, 45, 46, 6, 47, 48, 49, 50, 51, 52, 53, 54, 55, 56, 57, 58, 59, 60, 61, 62, 63, 64, 65, 66, 67, 73, 74, 75, 76, 77, 78, 79, 80, 81, 82, 83, 84, 85, 86, 87, 88, 89, 90, 91, 92, 93, 94, 95, 96, 68, 69, 70, 71, 72] (by decide +kernel) (by decide +kernel)
set_option maxRecDepth 20000 in
theorem gX4_strength_X4_strengthAgainst : GoodIn wsX4_strength (wsV RX4 279 RX4 yX4_strengthAgainst wsX4_strengthAgainst) := goodIn_app (goodIn_of _ (by decide +kernel)) ggX4_strength_X4_strengthAgainst
theorem dX4_strength_0 : decode cX4_strength 0 = .ok (.aload_n 0, 1) := by decide +kernel
theorem dX4_strength_1 : decode cX4_strength 1 = .ok (.iload_n 1, 1) := by decide +kernel
theorem dX4_strength_2 : decode cX4_strength 2 = .ok (.iload_n 2, 1) := by decide +kernel
theorem dX4_strength_3 : decode cX4_strength 3 = .ok (.invokevirtual 170, 3) := by decide +kernel
theorem dX4_strength_6 : decode cX4_strength 6 = .ok (.astore 5, 2) := by decide +kernel
theorem dX4_strength_8 : decode cX4_strength 8 = .ok (.iload_n 3, 1) := by decide +kernel
theorem dX4_strength_9 : decode cX4_strength 9 = .ok (.iconst 0, 1) := by decide +kernel
theorem dX4_strength_10 : decode cX4_strength 10 = .ok (.bipush 9, 2) := by decide +kernel
theorem dX4_strength_12 : decode cX4_strength 12 = .ok (.invokestatic 27, 3) := by decide +kernel
theorem dX4_strength_15 : decode cX4_strength 15 = .ok (.ifCond .ne 14, 3) := by decide +kernel
theorem dX4_strength_18 : decode cX4_strength 18 = .ok (.new 54, 3) := by decide +kernel
theorem dX4_strength_21 : decode cX4_strength 21 = .ok (.dup, 1) := by decide +kernel
theorem dX4_strength_22 : decode cX4_strength 22 = .ok (.ldc_w 274, 3) := by decide +kernel
theorem dX4_strength_25 : decode cX4_strength 25 = .ok (.invokespecial 58, 3) := by decide +kernel
theorem dX4_strength_28 : decode cX4_strength 28 = .ok (.athrow, 1) := by decide +kernel
theorem dX4_strength_29 : decode cX4_strength 29 = .ok (.aload_n 0, 1) := by decide +kernel
theorem dX4_strength_30 : decode cX4_strength 30 = .ok (.iload 4, 2) := by decide +kernel
theorem dX4_strength_32 : decode cX4_strength 32 = .ok (.invokevirtual 276, 3) := by decide +kernel
theorem dX4_strength_35 : decode cX4_strength 35 = .ok (.aload_n 0, 1) := by decide +kernel
theorem dX4_strength_36 : decode cX4_strength 36 = .ok (.aload 5, 2) := by decide +kernel
theorem dX4_strength_38 : decode cX4_strength 38 = .ok (.iload_n 3, 1) := by decide +kernel
theorem dX4_strength_39 : decode cX4_strength 39 = .ok (.iload 4, 2) := by decide +kernel
theorem dX4_strength_41 : decode cX4_strength 41 = .ok (.invokevirtual 279, 3) := by decide +kernel
theorem dX4_strength_44 : decode cX4_strength 44 = .ok (.ireturn, 1) := by decide +kernel
set_option maxRecDepth 20000 in
theorem ggX4_whyNot_X4_accusedAt : GoodIn wsX4_whyNot wsX4_accusedAt := goodIn_ca (goodIn_r _ [7, 1, 2, 8, 9, 10, 6, 11, 12, 13, 14, 15, 16, 17, 18, 94, 95, 96, 97, 98, 99, 100, 101, 102, 103, 104, 105, 106, 107, 108, 109, 110, 111] (by decide +kernel) (by decide +kernel)) (goodIn_sub (fun _ h => List.mem_cons_of_mem _ (List.mem_append_left _ (List.mem_append_right _ h))) (by decide +kernel))
set_option maxRecDepth 20000 in
theorem gX4_whyNot_X4_accusedAt : GoodIn wsX4_whyNot (wsV RX4 170 RX4 yX4_accusedAt wsX4_accusedAt) := goodIn_app (goodIn_of _ (by decide +kernel)) ggX4_whyNot_X4_accusedAt
set_option maxRecDepth 20000 in
theorem ggX4_whyNot_X4_offenceAt : GoodIn wsX4_whyNot wsX4_offenceAt := goodIn_r _ [22, 23, 94, 95, 96, 97, 98, 99, 100, 101, 102, 103, 104, 105, 106] (by decide +kernel) (by decide +kernel)
set_option maxRecDepth 20000 in
theorem gX4_whyNot_X4_offenceAt : GoodIn wsX4_whyNot (wsV RX4 50 RX4 yX4_offenceAt wsX4_offenceAt) := goodIn_app (goodIn_of _ (by decide +kernel)) ggX4_whyNot_X4_offenceAt
set_option maxRecDepth 20000 in
theorem ggX4_whyNot_X4_checkDay : GoodIn wsX4_whyNot wsX4_checkDay := goodIn_ca (goodIn_r _ [27, 28, 29, 30, 31, 32, 6, 33, 94, 95, 96, 97, 98, 99, 100, 101, 102, 103, 104, 105, 106] (by decide +kernel) (by decide +kernel)) (goodIn_sub (fun _ h => List.mem_cons_of_mem _ (List.mem_append_right _ h)) (by decide +kernel))
set_option maxRecDepth 20000 in
theorem gX4_whyNot_X4_checkDay : GoodIn wsX4_whyNot (wsV RX4 276 RX4 yX4_checkDay wsX4_checkDay) := goodIn_app (goodIn_of _ (by decide +kernel)) ggX4_whyNot_X4_checkDay
set_option maxRecDepth 20000 in
theorem ggX4_whyNot_X4_hindrance : GoodIn wsX4_whyNot wsX4_hindrance := goodIn_r _ [37, 38, 39, 40, 41, 42, 43, 44, 45, 6, 46, 23, 47, 48, 49, 50, 51, 52, 53, 54, 55, 56, 57, 58, 59, 60, 61, 62, 63, 64, 65, 66, 67, 68, 69, 70, 71, 72, 73, 74, 75, 76, 77, 78, 79, 80, 81, 82, 83, 84, 85, 86, 87, 88, 89, 90, 91, 92, 93, 112, 113, 114, 115, 116, 117, 118, 119, 120, 121, 122, 123, 124, 125, 107, 108, 109, 110, 111, 126, 127, 128, 129, 94, 95, 96, 97, 98, 99, 100, 101, 102, 103, 104, 105, 106, 130, 131, 132, 133, 134, 135, 136, 137, 138, 139] (by decide +kernel) (by decide +kernel)
set_option maxRecDepth 20000 in
theorem gX4_whyNot_X4_hindrance : GoodIn wsX4_whyNot (wsV RX4 283 RX4 yX4_hindrance wsX4_hindrance) := goodIn_app (goodIn_of _ (by decide +kernel)) ggX4_whyNot_X4_hindrance
theorem dX4_whyNot_0 : decode cX4_whyNot 0 = .ok (.aload_n 0, 1) := by decide +kernel
theorem dX4_whyNot_1 : decode cX4_whyNot 1 = .ok (.iload_n 1, 1) := by decide +kernel
theorem dX4_whyNot_2 : decode cX4_whyNot 2 = .ok (.iload_n 2, 1) := by decide +kernel
theorem dX4_whyNot_3 : decode cX4_whyNot 3 = .ok (.invokevirtual 170, 3) := by decide +kernel
theorem dX4_whyNot_6 : decode cX4_whyNot 6 = .ok (.astore 5, 2) := by decide +kernel
theorem dX4_whyNot_8 : decode cX4_whyNot 8 = .ok (.aload_n 0, 1) := by decide +kernel
theorem dX4_whyNot_9 : decode cX4_whyNot 9 = .ok (.iload_n 3, 1) := by decide +kernel
theorem dX4_whyNot_10 : decode cX4_whyNot 10 = .ok (.invokevirtual 50, 3) := by decide +kernel
theorem dX4_whyNot_13 : decode cX4_whyNot 13 = .ok (.astore 6, 2) := by decide +kernel
theorem dX4_whyNot_15 : decode cX4_whyNot 15 = .ok (.aload 6, 2) := by decide +kernel
theorem dX4_whyNot_17 : decode cX4_whyNot 17 = .ok (.ifnonnull 13, 3) := by decide +kernel
theorem dX4_whyNot_20 : decode cX4_whyNot 20 = .ok (.new 54, 3) := by decide +kernel
theorem dX4_whyNot_23 : decode cX4_whyNot 23 = .ok (.dup, 1) := by decide +kernel
theorem dX4_whyNot_24 : decode cX4_whyNot 24 = .ok (.ldc 56, 2) := by decide +kernel
theorem dX4_whyNot_26 : decode cX4_whyNot 26 = .ok (.invokespecial 58, 3) := by decide +kernel
theorem dX4_whyNot_29 : decode cX4_whyNot 29 = .ok (.athrow, 1) := by decide +kernel
theorem dX4_whyNot_30 : decode cX4_whyNot 30 = .ok (.aload_n 0, 1) := by decide +kernel
theorem dX4_whyNot_31 : decode cX4_whyNot 31 = .ok (.iload 4, 2) := by decide +kernel
theorem dX4_whyNot_33 : decode cX4_whyNot 33 = .ok (.invokevirtual 276, 3) := by decide +kernel
theorem dX4_whyNot_36 : decode cX4_whyNot 36 = .ok (.aload_n 0, 1) := by decide +kernel
theorem dX4_whyNot_37 : decode cX4_whyNot 37 = .ok (.aload 5, 2) := by decide +kernel
theorem dX4_whyNot_39 : decode cX4_whyNot 39 = .ok (.aload 6, 2) := by decide +kernel
theorem dX4_whyNot_41 : decode cX4_whyNot 41 = .ok (.iload 4, 2) := by decide +kernel
theorem dX4_whyNot_43 : decode cX4_whyNot 43 = .ok (.invokevirtual 283, 3) := by decide +kernel
theorem dX4_whyNot_46 : decode cX4_whyNot 46 = .ok (.ireturn, 1) := by decide +kernel
set_option maxRecDepth 20000 in
theorem ggX4_best_X4_accusedAt : GoodIn wsX4_best wsX4_accusedAt := goodIn_ca (goodIn_r _ [5, 6, 7, 8, 9, 10, 4, 11, 12, 13, 14, 15, 16, 17, 18, 137, 138, 139, 140, 141, 142, 143, 144, 145, 146, 147, 148, 149, 150, 151, 152, 153, 154] (by decide +kernel) (by decide +kernel)) (goodIn_sub (fun _ h => List.mem_cons_of_mem _ (List.mem_append_left _ (List.mem_append_right _ h))) (by decide +kernel))
set_option maxRecDepth 20000 in
theorem gX4_best_X4_accusedAt : GoodIn wsX4_best (wsV RX4 170 RX4 yX4_accusedAt wsX4_accusedAt) := goodIn_app (goodIn_of _ (by decide +kernel)) ggX4_best_X4_accusedAt
set_option maxRecDepth 20000 in
theorem ggX4_best_X4_checkDay : GoodIn wsX4_best wsX4_checkDay := goodIn_ca (goodIn_r _ [22, 23, 24, 25, 26, 27, 4, 28, 137, 138, 139, 140, 141, 142, 143, 144, 145, 146, 147, 148, 149] (by decide +kernel) (by decide +kernel)) (goodIn_sub (fun _ h => List.mem_cons_of_mem _ (List.mem_append_right _ h)) (by decide +kernel))
set_option maxRecDepth 20000 in
theorem gX4_best_X4_checkDay : GoodIn wsX4_best (wsV RX4 276 RX4 yX4_checkDay wsX4_checkDay) := goodIn_app (goodIn_of _ (by decide +kernel)) ggX4_best_X4_checkDay
set_option maxRecDepth 20000 in
theorem ggX4_best_X4_chargeable : GoodIn wsX4_best wsX4_chargeable := goodIn_r _ [32, 33, 34, 35, 36, 4, 37, 38, 39, 40, 41, 42, 43, 44, 45, 46, 47, 48, 49, 50, 51, 52, 53, 54, 55, 56, 57, 58, 59, 60, 61, 62, 63, 64, 65, 66, 67, 68, 69, 70, 71, 72, 73, 74, 75, 76, 77, 78, 79, 80, 81, 82, 83, 84, 85, 86, 87, 88, 89, 90, 91, 92, 93, 137, 138, 139, 140, 141, 142, 143, 144, 145, 146, 147, 148, 149, 155, 156, 157, 158, 159, 160, 161, 162, 163, 164, 165, 166, 167, 168, 150, 151, 152, 153, 154, 169, 170, 171, 172, 173, 174, 175, 176, 177, 178, 179, 180, 181, 182] (by decide +kernel) (by decide +kernel)
set_option maxRecDepth 20000 in
theorem gX4_best_X4_chargeable : GoodIn wsX4_best (wsV RX4 181 RX4 yX4_chargeable wsX4_chargeable) := goodIn_app (goodIn_of _ (by decide +kernel)) ggX4_best_X4_chargeable
set_option maxRecDepth 20000 in
theorem ggX4_best_X4_bestByGrowing : GoodIn wsX4_best wsX4_bestByGrowing := goodIn_r _ [97, 33, 68, 69, 4, 70, 98, 99, 100, 101, 102, 103, 104, 105, 41, 106, 107, 108, 109, 110, 111, 112, 113, 114, 115, 116, 117, 118, 119, 120, 121, 122, 123, 50, 124, 125, 47, 48, 49, 51, 52, 53, 54, 55, 56, 126, 127, 128, 129, 130, 131, 132, 133, 134, 135, 136, 137, 138, 139, 140, 141, 142, 143, 144, 145, 146, 147, 148, 149, 169, 170, 171, 172] (by decide +kernel) (by decide +kernel)
set_option maxRecDepth 20000 in
theorem gX4_best_X4_bestByGrowing : GoodIn wsX4_best (wsV RX4 287 RX4 yX4_bestByGrowing wsX4_bestByGrowing) := goodIn_app (goodIn_of _ (by decide +kernel)) ggX4_best_X4_bestByGrowing
theorem dX4_best_0 : decode cX4_best 0 = .ok (.aload_n 0, 1) := by decide +kernel
theorem dX4_best_1 : decode cX4_best 1 = .ok (.iload_n 1, 1) := by decide +kernel
theorem dX4_best_2 : decode cX4_best 2 = .ok (.iload_n 2, 1) := by decide +kernel
theorem dX4_best_3 : decode cX4_best 3 = .ok (.invokevirtual 170, 3) := by decide +kernel
theorem dX4_best_6 : decode cX4_best 6 = .ok (.astore 4, 2) := by decide +kernel
theorem dX4_best_8 : decode cX4_best 8 = .ok (.aload_n 0, 1) := by decide +kernel
theorem dX4_best_9 : decode cX4_best 9 = .ok (.iload_n 3, 1) := by decide +kernel
theorem dX4_best_10 : decode cX4_best 10 = .ok (.invokevirtual 276, 3) := by decide +kernel
theorem dX4_best_13 : decode cX4_best 13 = .ok (.aload_n 0, 1) := by decide +kernel
theorem dX4_best_14 : decode cX4_best 14 = .ok (.aload_n 0, 1) := by decide +kernel
theorem dX4_best_15 : decode cX4_best 15 = .ok (.aload 4, 2) := by decide +kernel
theorem dX4_best_17 : decode cX4_best 17 = .ok (.iload_n 3, 1) := by decide +kernel
theorem dX4_best_18 : decode cX4_best 18 = .ok (.invokevirtual 181, 3) := by decide +kernel
theorem dX4_best_21 : decode cX4_best 21 = .ok (.invokevirtual 287, 3) := by decide +kernel
theorem dX4_best_24 : decode cX4_best 24 = .ok (.ireturn, 1) := by decide +kernel
set_option maxRecDepth 20000 in
theorem ggX4_bestAnew_X4_accusedAt : GoodIn wsX4_bestAnew wsX4_accusedAt := goodIn_ca (goodIn_r _ [5, 6, 7, 8, 9, 10, 4, 11, 12, 13, 14, 15, 16, 17, 18, 130, 131, 132, 133, 134, 135, 136, 137, 138, 139, 140, 141, 142, 143, 144, 145, 146, 147] (by decide +kernel) (by decide +kernel)) (goodIn_sub (fun _ h => List.mem_cons_of_mem _ (List.mem_append_left _ (List.mem_append_right _ h))) (by decide +kernel))
set_option maxRecDepth 20000 in
theorem gX4_bestAnew_X4_accusedAt : GoodIn wsX4_bestAnew (wsV RX4 170 RX4 yX4_accusedAt wsX4_accusedAt) := goodIn_app (goodIn_of _ (by decide +kernel)) ggX4_bestAnew_X4_accusedAt
set_option maxRecDepth 20000 in
theorem ggX4_bestAnew_X4_checkDay : GoodIn wsX4_bestAnew wsX4_checkDay := goodIn_ca (goodIn_r _ [22, 23, 24, 25, 26, 27, 4, 28, 130, 131, 132, 133, 134, 135, 136, 137, 138, 139, 140, 141, 142] (by decide +kernel) (by decide +kernel)) (goodIn_sub (fun _ h => List.mem_cons_of_mem _ (List.mem_append_right _ h)) (by decide +kernel))
set_option maxRecDepth 20000 in
theorem gX4_bestAnew_X4_checkDay : GoodIn wsX4_bestAnew (wsV RX4 276 RX4 yX4_checkDay wsX4_checkDay) := goodIn_app (goodIn_of _ (by decide +kernel)) ggX4_bestAnew_X4_checkDay
set_option maxRecDepth 20000 in
theorem ggX4_bestAnew_X4_chargeable : GoodIn wsX4_bestAnew wsX4_chargeable := goodIn_r _ [32, 33, 34, 35, 36, 4, 37, 38, 39, 40, 41, 42, 43, 44, 45, 46, 47, 48, 49, 50, 51, 52, 53, 54, 55, 56, 57, 58, 59, 60, 61, 62, 63, 64, 65, 66, 67, 68, 69, 70, 71, 72, 73, 74, 75, 76, 77, 78, 79, 80, 81, 82, 83, 84, 85, 86, 87, 88, 89, 90, 91, 92, 93, 130, 131, 132, 133, 134, 135, 136, 137, 138, 139, 140, 141, 142, 148, 149, 150, 151, 152, 153, 154, 155, 156, 157, 158, 159, 160, 161, 143, 144, 145, 146, 147, 162, 163, 164, 165, 166, 167, 168, 169, 170, 171, 172, 173, 174, 175] (by decide +kernel) (by decide +kernel)
set_option maxRecDepth 20000 in
theorem gX4_bestAnew_X4_chargeable : GoodIn wsX4_bestAnew (wsV RX4 181 RX4 yX4_chargeable wsX4_chargeable) := goodIn_app (goodIn_of _ (by decide +kernel)) ggX4_bestAnew_X4_chargeable
set_option maxRecDepth 20000 in
theorem ggX4_bestAnew_X4_bestOfAllSets : GoodIn wsX4_bestAnew wsX4_bestOfAllSets := goodIn_r _ [97, 98, 99, 100, 4, 101, 33, 102, 103, 104, 105, 106, 107, 108, 68, 69, 70, 109, 110, 111, 112, 113, 114, 115, 116, 117, 118, 119, 50, 120, 121, 47, 48, 49, 51, 52, 53, 54, 55, 56, 122, 123, 124, 125, 126, 127, 128, 129, 41, 130, 131, 132, 133, 134, 135, 136, 137, 138, 139, 140, 141, 142, 162, 163, 164, 165] (by decide +kernel) (by decide +kernel)
set_option maxRecDepth 20000 in
theorem gX4_bestAnew_X4_bestOfAllSets : GoodIn wsX4_bestAnew (wsV RX4 290 RX4 yX4_bestOfAllSets wsX4_bestOfAllSets) := goodIn_app (goodIn_of _ (by decide +kernel)) ggX4_bestAnew_X4_bestOfAllSets
theorem dX4_bestAnew_0 : decode cX4_bestAnew 0 = .ok (.aload_n 0, 1) := by decide +kernel
theorem dX4_bestAnew_1 : decode cX4_bestAnew 1 = .ok (.iload_n 1, 1) := by decide +kernel
theorem dX4_bestAnew_2 : decode cX4_bestAnew 2 = .ok (.iload_n 2, 1) := by decide +kernel
theorem dX4_bestAnew_3 : decode cX4_bestAnew 3 = .ok (.invokevirtual 170, 3) := by decide +kernel
theorem dX4_bestAnew_6 : decode cX4_bestAnew 6 = .ok (.astore 4, 2) := by decide +kernel
theorem dX4_bestAnew_8 : decode cX4_bestAnew 8 = .ok (.aload_n 0, 1) := by decide +kernel
theorem dX4_bestAnew_9 : decode cX4_bestAnew 9 = .ok (.iload_n 3, 1) := by decide +kernel
theorem dX4_bestAnew_10 : decode cX4_bestAnew 10 = .ok (.invokevirtual 276, 3) := by decide +kernel
theorem dX4_bestAnew_13 : decode cX4_bestAnew 13 = .ok (.aload_n 0, 1) := by decide +kernel
theorem dX4_bestAnew_14 : decode cX4_bestAnew 14 = .ok (.aload_n 0, 1) := by decide +kernel
theorem dX4_bestAnew_15 : decode cX4_bestAnew 15 = .ok (.aload 4, 2) := by decide +kernel
theorem dX4_bestAnew_17 : decode cX4_bestAnew 17 = .ok (.iload_n 3, 1) := by decide +kernel
theorem dX4_bestAnew_18 : decode cX4_bestAnew 18 = .ok (.invokevirtual 181, 3) := by decide +kernel
theorem dX4_bestAnew_21 : decode cX4_bestAnew 21 = .ok (.invokevirtual 290, 3) := by decide +kernel
theorem dX4_bestAnew_24 : decode cX4_bestAnew 24 = .ok (.ireturn, 1) := by decide +kernel
set_option maxRecDepth 20000 in
theorem ggX4_lacks_X4_accusedAt : GoodIn wsX4_lacks wsX4_accusedAt := goodIn_ca (goodIn_r _ [8, 9, 10, 11, 12, 13, 7, 14, 15, 16, 17, 18, 19, 20, 21, 66, 67, 68, 69, 70, 71, 72, 73, 74, 75, 76, 77, 78, 61, 62, 63, 64, 65] (by decide +kernel) (by decide +kernel)) (goodIn_sub (fun _ h => List.mem_cons_of_mem _ (List.mem_append_right _ h)) (by decide +kernel))
set_option maxRecDepth 20000 in
theorem gX4_lacks_X4_accusedAt : GoodIn wsX4_lacks (wsV RX4 170 RX4 yX4_accusedAt wsX4_accusedAt) := goodIn_app (goodIn_of _ (by decide +kernel)) ggX4_lacks_X4_accusedAt
set_option maxRecDepth 20000 in
theorem ggX4_lacks_X4_lackedBy : GoodIn wsX4_lacks wsX4_lackedBy := goodIn_r _ [25, 26, 27, 28, 29, 30, 31, 32, 33, 34, 35, 36, 37, 38, 39, 40, 7, 41, 42, 43, 44, 45, 46, 66, 67, 68, 69, 70, 71, 72, 73, 74, 75, 76, 77, 78, 79, 80, 81, 82, 83, 84, 85, 86, 87, 88] (by decide +kernel) (by decide +kernel)
set_option maxRecDepth 20000 in
theorem gX4_lacks_X4_lackedBy : GoodIn wsX4_lacks (wsV RX4 157 RX4 yX4_lackedBy wsX4_lackedBy) := goodIn_app (goodIn_of _ (by decide +kernel)) ggX4_lacks_X4_lackedBy
theorem dX4_lacks_0 : decode cX4_lacks 0 = .ok (.aload_n 0, 1) := by decide +kernel
theorem dX4_lacks_1 : decode cX4_lacks 1 = .ok (.iload_n 1, 1) := by decide +kernel
theorem dX4_lacks_2 : decode cX4_lacks 2 = .ok (.iload_n 2, 1) := by decide +kernel
theorem dX4_lacks_3 : decode cX4_lacks 3 = .ok (.invokevirtual 170, 3) := by decide +kernel
theorem dX4_lacks_6 : decode cX4_lacks 6 = .ok (.astore_n 3, 1) := by decide +kernel
theorem dX4_lacks_7 : decode cX4_lacks 7 = .ok (.aload_n 0, 1) := by decide +kernel
theorem dX4_lacks_8 : decode cX4_lacks 8 = .ok (.aload_n 3, 1) := by decide +kernel
theorem dX4_lacks_9 : decode cX4_lacks 9 = .ok (.getfield 293, 3) := by decide +kernel
theorem dX4_lacks_12 : decode cX4_lacks 12 = .ok (.getfield 105, 3) := by decide +kernel
theorem dX4_lacks_15 : decode cX4_lacks 15 = .ok (.aload_n 3, 1) := by decide +kernel
theorem dX4_lacks_16 : decode cX4_lacks 16 = .ok (.getfield 296, 3) := by decide +kernel
theorem dX4_lacks_19 : decode cX4_lacks 19 = .ok (.invokevirtual 157, 3) := by decide +kernel
theorem dX4_lacks_22 : decode cX4_lacks 22 = .ok (.ireturn, 1) := by decide +kernel
set_option maxRecDepth 20000 in
theorem ggX4_ofItem_X4_itemAt : GoodIn wsX4_ofItem wsX4_itemAt := goodIn_r _ [17, 18, 29, 30, 31, 32, 33, 34, 35, 36, 37, 38, 39, 40, 41] (by decide +kernel) (by decide +kernel)
set_option maxRecDepth 20000 in
theorem gX4_ofItem_X4_itemAt : GoodIn wsX4_ofItem (wsV RX4 127 RX4 yX4_itemAt wsX4_itemAt) := goodIn_app (goodIn_of _ (by decide +kernel)) ggX4_ofItem_X4_itemAt
theorem dX4_ofItem_0 : decode cX4_ofItem 0 = .ok (.aload_n 0, 1) := by decide +kernel
theorem dX4_ofItem_1 : decode cX4_ofItem 1 = .ok (.iload_n 1, 1) := by decide +kernel
theorem dX4_ofItem_2 : decode cX4_ofItem 2 = .ok (.invokevirtual 127, 3) := by decide +kernel
theorem dX4_ofItem_5 : decode cX4_ofItem 5 = .ok (.astore_n 3, 1) := by decide +kernel
theorem dX4_ofItem_6 : decode cX4_ofItem 6 = .ok (.aload_n 3, 1) := by decide +kernel
theorem dX4_ofItem_7 : decode cX4_ofItem 7 = .ok (.ifnonnull 13, 3) := by decide +kernel
theorem dX4_ofItem_10 : decode cX4_ofItem 10 = .ok (.new 54, 3) := by decide +kernel
theorem dX4_ofItem_13 : decode cX4_ofItem 13 = .ok (.dup, 1) := by decide +kernel
theorem dX4_ofItem_14 : decode cX4_ofItem 14 = .ok (.ldc 131, 2) := by decide +kernel
theorem dX4_ofItem_16 : decode cX4_ofItem 16 = .ok (.invokespecial 58, 3) := by decide +kernel
theorem dX4_ofItem_19 : decode cX4_ofItem 19 = .ok (.athrow, 1) := by decide +kernel
theorem dX4_ofItem_20 : decode cX4_ofItem 20 = .ok (.iload_n 2, 1) := by decide +kernel
theorem dX4_ofItem_21 : decode cX4_ofItem 21 = .ok (.tableswitch 95 0 7 #[47, 52, 57, 62, 67, 72, 77, 82], 47) := by decide +kernel
theorem dX4_ofItem_68 : decode cX4_ofItem 68 = .ok (.aload_n 3, 1) := by decide +kernel
theorem dX4_ofItem_69 : decode cX4_ofItem 69 = .ok (.getfield 154, 3) := by decide +kernel
theorem dX4_ofItem_72 : decode cX4_ofItem 72 = .ok (.ireturn, 1) := by decide +kernel
theorem dX4_ofItem_73 : decode cX4_ofItem 73 = .ok (.aload_n 3, 1) := by decide +kernel
theorem dX4_ofItem_74 : decode cX4_ofItem 74 = .ok (.getfield 299, 3) := by decide +kernel
theorem dX4_ofItem_77 : decode cX4_ofItem 77 = .ok (.ireturn, 1) := by decide +kernel
theorem dX4_ofItem_78 : decode cX4_ofItem 78 = .ok (.aload_n 3, 1) := by decide +kernel
theorem dX4_ofItem_79 : decode cX4_ofItem 79 = .ok (.getfield 302, 3) := by decide +kernel
theorem dX4_ofItem_82 : decode cX4_ofItem 82 = .ok (.ireturn, 1) := by decide +kernel
theorem dX4_ofItem_83 : decode cX4_ofItem 83 = .ok (.aload_n 3, 1) := by decide +kernel
theorem dX4_ofItem_84 : decode cX4_ofItem 84 = .ok (.getfield 305, 3) := by decide +kernel
theorem dX4_ofItem_87 : decode cX4_ofItem 87 = .ok (.ireturn, 1) := by decide +kernel
theorem dX4_ofItem_88 : decode cX4_ofItem 88 = .ok (.aload_n 3, 1) := by decide +kernel
theorem dX4_ofItem_89 : decode cX4_ofItem 89 = .ok (.getfield 308, 3) := by decide +kernel
theorem dX4_ofItem_92 : decode cX4_ofItem 92 = .ok (.ireturn, 1) := by decide +kernel
theorem dX4_ofItem_93 : decode cX4_ofItem 93 = .ok (.aload_n 3, 1) := by decide +kernel
theorem dX4_ofItem_94 : decode cX4_ofItem 94 = .ok (.getfield 136, 3) := by decide +kernel
theorem dX4_ofItem_97 : decode cX4_ofItem 97 = .ok (.ireturn, 1) := by decide +kernel
theorem dX4_ofItem_98 : decode cX4_ofItem 98 = .ok (.aload_n 3, 1) := by decide +kernel
theorem dX4_ofItem_99 : decode cX4_ofItem 99 = .ok (.getfield 151, 3) := by decide +kernel
theorem dX4_ofItem_102 : decode cX4_ofItem 102 = .ok (.ireturn, 1) := by decide +kernel
theorem dX4_ofItem_103 : decode cX4_ofItem 103 = .ok (.aload_n 3, 1) := by decide +kernel
theorem dX4_ofItem_104 : decode cX4_ofItem 104 = .ok (.getfield 165, 3) := by decide +kernel
theorem dX4_ofItem_107 : decode cX4_ofItem 107 = .ok (.ifCond .eq 7, 3) := by decide +kernel
theorem dX4_ofItem_110 : decode cX4_ofItem 110 = .ok (.iconst 1, 1) := by decide +kernel
theorem dX4_ofItem_111 : decode cX4_ofItem 111 = .ok (.goto 4, 3) := by decide +kernel
theorem dX4_ofItem_114 : decode cX4_ofItem 114 = .ok (.iconst 0, 1) := by decide +kernel
theorem dX4_ofItem_115 : decode cX4_ofItem 115 = .ok (.ireturn, 1) := by decide +kernel
theorem dX4_ofItem_116 : decode cX4_ofItem 116 = .ok (.new 31, 3) := by decide +kernel
theorem dX4_ofItem_119 : decode cX4_ofItem 119 = .ok (.dup, 1) := by decide +kernel
theorem dX4_ofItem_120 : decode cX4_ofItem 120 = .ok (.ldc_w 311, 3) := by decide +kernel
theorem dX4_ofItem_123 : decode cX4_ofItem 123 = .ok (.invokespecial 35, 3) := by decide +kernel
theorem dX4_ofItem_126 : decode cX4_ofItem 126 = .ok (.athrow, 1) := by decide +kernel
set_option maxRecDepth 20000 in
theorem ggX4_ofAccused_X4_accusedAt : GoodIn wsX4_ofAccused wsX4_accusedAt := goodIn_ca (goodIn_r _ [14, 15, 16, 17, 18, 19, 13, 20, 21, 22, 23, 24, 25, 26, 27, 68, 69, 70, 71, 72, 73, 74, 75, 76, 77, 78, 79, 80, 81, 82, 83, 84, 85] (by decide +kernel) (by decide +kernel)) (goodIn_sub (fun _ h => List.mem_cons_of_mem _ (List.mem_append_right _ h)) (by decide +kernel))
set_option maxRecDepth 20000 in
theorem gX4_ofAccused_X4_accusedAt : GoodIn wsX4_ofAccused (wsV RX4 170 RX4 yX4_accusedAt wsX4_accusedAt) := goodIn_app (goodIn_of _ (by decide +kernel)) ggX4_ofAccused_X4_accusedAt
set_option maxRecDepth 20000 in
theorem ggX4_ofAccused_X4_spentOffences : GoodIn wsX4_ofAccused wsX4_spentOffences := goodIn_r _ [31, 32, 33, 34, 35, 36, 13, 37, 38, 39, 40, 41, 42, 43, 44, 45, 46, 47, 48, 49, 50, 51, 52, 53, 68, 69, 70, 71, 72, 73, 74, 75, 76, 77, 78, 79, 80, 86, 87, 88, 89, 54, 55, 56, 57, 58, 59, 60, 61, 62, 63, 64, 65, 66, 67] (by decide +kernel) (by decide +kernel)
set_option maxRecDepth 20000 in
theorem gX4_ofAccused_X4_spentOffences : GoodIn wsX4_ofAccused (wsV RX4 322 RX4 yX4_spentOffences wsX4_spentOffences) := goodIn_app (goodIn_of _ (by decide +kernel)) ggX4_ofAccused_X4_spentOffences
theorem dX4_ofAccused_0 : decode cX4_ofAccused 0 = .ok (.aload_n 0, 1) := by decide +kernel
theorem dX4_ofAccused_1 : decode cX4_ofAccused 1 = .ok (.iload_n 1, 1) := by decide +kernel
theorem dX4_ofAccused_2 : decode cX4_ofAccused 2 = .ok (.iload_n 2, 1) := by decide +kernel
theorem dX4_ofAccused_3 : decode cX4_ofAccused 3 = .ok (.invokevirtual 170, 3) := by decide +kernel
theorem dX4_ofAccused_6 : decode cX4_ofAccused 6 = .ok (.astore 4, 2) := by decide +kernel
theorem dX4_ofAccused_8 : decode cX4_ofAccused 8 = .ok (.iload_n 3, 1) := by decide +kernel
theorem dX4_ofAccused_9 : decode cX4_ofAccused 9 = .ok (.tableswitch 104 0 7 #[47, 53, 59, 73, 79, 85, 91, 97], 47) := by decide +kernel
theorem dX4_ofAccused_56 : decode cX4_ofAccused 56 = .ok (.aload 4, 2) := by decide +kernel
theorem dX4_ofAccused_58 : decode cX4_ofAccused 58 = .ok (.getfield 178, 3) := by decide +kernel
theorem dX4_ofAccused_61 : decode cX4_ofAccused 61 = .ok (.ireturn, 1) := by decide +kernel
theorem dX4_ofAccused_62 : decode cX4_ofAccused 62 = .ok (.aload 4, 2) := by decide +kernel
theorem dX4_ofAccused_64 : decode cX4_ofAccused 64 = .ok (.getfield 190, 3) := by decide +kernel
theorem dX4_ofAccused_67 : decode cX4_ofAccused 67 = .ok (.ireturn, 1) := by decide +kernel
theorem dX4_ofAccused_68 : decode cX4_ofAccused 68 = .ok (.aload 4, 2) := by decide +kernel
theorem dX4_ofAccused_70 : decode cX4_ofAccused 70 = .ok (.getfield 207, 3) := by decide +kernel
theorem dX4_ofAccused_73 : decode cX4_ofAccused 73 = .ok (.ifCond .eq 7, 3) := by decide +kernel
theorem dX4_ofAccused_76 : decode cX4_ofAccused 76 = .ok (.iconst 1, 1) := by decide +kernel
theorem dX4_ofAccused_77 : decode cX4_ofAccused 77 = .ok (.goto 4, 3) := by decide +kernel
theorem dX4_ofAccused_80 : decode cX4_ofAccused 80 = .ok (.iconst 0, 1) := by decide +kernel
theorem dX4_ofAccused_81 : decode cX4_ofAccused 81 = .ok (.ireturn, 1) := by decide +kernel
theorem dX4_ofAccused_82 : decode cX4_ofAccused 82 = .ok (.aload 4, 2) := by decide +kernel
theorem dX4_ofAccused_84 : decode cX4_ofAccused 84 = .ok (.getfield 313, 3) := by decide +kernel
theorem dX4_ofAccused_87 : decode cX4_ofAccused 87 = .ok (.ireturn, 1) := by decide +kernel
theorem dX4_ofAccused_88 : decode cX4_ofAccused 88 = .ok (.aload 4, 2) := by decide +kernel
theorem dX4_ofAccused_90 : decode cX4_ofAccused 90 = .ok (.getfield 316, 3) := by decide +kernel
theorem dX4_ofAccused_93 : decode cX4_ofAccused 93 = .ok (.ireturn, 1) := by decide +kernel
theorem dX4_ofAccused_94 : decode cX4_ofAccused 94 = .ok (.aload 4, 2) := by decide +kernel
theorem dX4_ofAccused_96 : decode cX4_ofAccused 96 = .ok (.getfield 249, 3) := by decide +kernel
theorem dX4_ofAccused_99 : decode cX4_ofAccused 99 = .ok (.ireturn, 1) := by decide +kernel
theorem dX4_ofAccused_100 : decode cX4_ofAccused 100 = .ok (.aload 4, 2) := by decide +kernel
theorem dX4_ofAccused_102 : decode cX4_ofAccused 102 = .ok (.getfield 319, 3) := by decide +kernel
theorem dX4_ofAccused_105 : decode cX4_ofAccused 105 = .ok (.ireturn, 1) := by decide +kernel
theorem dX4_ofAccused_106 : decode cX4_ofAccused 106 = .ok (.aload_n 0, 1) := by decide +kernel
theorem dX4_ofAccused_107 : decode cX4_ofAccused 107 = .ok (.aload 4, 2) := by decide +kernel
theorem dX4_ofAccused_109 : decode cX4_ofAccused 109 = .ok (.invokevirtual 322, 3) := by decide +kernel
theorem dX4_ofAccused_112 : decode cX4_ofAccused 112 = .ok (.ireturn, 1) := by decide +kernel
theorem dX4_ofAccused_113 : decode cX4_ofAccused 113 = .ok (.new 31, 3) := by decide +kernel
theorem dX4_ofAccused_116 : decode cX4_ofAccused 116 = .ok (.dup, 1) := by decide +kernel
theorem dX4_ofAccused_117 : decode cX4_ofAccused 117 = .ok (.ldc_w 311, 3) := by decide +kernel
theorem dX4_ofAccused_120 : decode cX4_ofAccused 120 = .ok (.invokespecial 35, 3) := by decide +kernel
theorem dX4_ofAccused_123 : decode cX4_ofAccused 123 = .ok (.athrow, 1) := by decide +kernel
theorem dX4_count_0 : decode cX4_count 0 = .ok (.iload_n 1, 1) := by decide +kernel
theorem dX4_count_1 : decode cX4_count 1 = .ok (.tableswitch 69 0 5 #[39, 44, 49, 54, 59, 64], 39) := by decide +kernel
theorem dX4_count_40 : decode cX4_count 40 = .ok (.aload_n 0, 1) := by decide +kernel
theorem dX4_count_41 : decode cX4_count 41 = .ok (.getfield 224, 3) := by decide +kernel
theorem dX4_count_44 : decode cX4_count 44 = .ok (.ireturn, 1) := by decide +kernel
theorem dX4_count_45 : decode cX4_count 45 = .ok (.aload_n 0, 1) := by decide +kernel
theorem dX4_count_46 : decode cX4_count 46 = .ok (.getfield 232, 3) := by decide +kernel
theorem dX4_count_49 : decode cX4_count 49 = .ok (.ireturn, 1) := by decide +kernel
theorem dX4_count_50 : decode cX4_count 50 = .ok (.aload_n 0, 1) := by decide +kernel
theorem dX4_count_51 : decode cX4_count 51 = .ok (.getfield 246, 3) := by decide +kernel
theorem dX4_count_54 : decode cX4_count 54 = .ok (.ireturn, 1) := by decide +kernel
theorem dX4_count_55 : decode cX4_count 55 = .ok (.aload_n 0, 1) := by decide +kernel
theorem dX4_count_56 : decode cX4_count 56 = .ok (.getfield 210, 3) := by decide +kernel
theorem dX4_count_59 : decode cX4_count 59 = .ok (.ireturn, 1) := by decide +kernel
theorem dX4_count_60 : decode cX4_count 60 = .ok (.aload_n 0, 1) := by decide +kernel
theorem dX4_count_61 : decode cX4_count 61 = .ok (.getfield 215, 3) := by decide +kernel
theorem dX4_count_64 : decode cX4_count 64 = .ok (.ireturn, 1) := by decide +kernel
theorem dX4_count_65 : decode cX4_count 65 = .ok (.aload_n 0, 1) := by decide +kernel
theorem dX4_count_66 : decode cX4_count 66 = .ok (.getfield 75, 3) := by decide +kernel
theorem dX4_count_69 : decode cX4_count 69 = .ok (.ireturn, 1) := by decide +kernel
theorem dX4_count_70 : decode cX4_count 70 = .ok (.new 31, 3) := by decide +kernel
theorem dX4_count_73 : decode cX4_count 73 = .ok (.dup, 1) := by decide +kernel
theorem dX4_count_74 : decode cX4_count 74 = .ok (.ldc_w 311, 3) := by decide +kernel
theorem dX4_count_77 : decode cX4_count 77 = .ok (.invokespecial 35, 3) := by decide +kernel
theorem dX4_count_80 : decode cX4_count 80 = .ok (.athrow, 1) := by decide +kernel
theorem dX4_isWithin_0 : decode cX4_isWithin 0 = .ok (.iload_n 0, 1) := by decide +kernel
theorem dX4_isWithin_1 : decode cX4_isWithin 1 = .ok (.iload_n 1, 1) := by decide +kernel
theorem dX4_isWithin_2 : decode cX4_isWithin 2 = .ok (.if_icmp .lt 12, 3) := by decide +kernel
theorem dX4_isWithin_5 : decode cX4_isWithin 5 = .ok (.iload_n 0, 1) := by decide +kernel
theorem dX4_isWithin_6 : decode cX4_isWithin 6 = .ok (.iload_n 2, 1) := by decide +kernel
theorem dX4_isWithin_7 : decode cX4_isWithin 7 = .ok (.if_icmp .gt 7, 3) := by decide +kernel
theorem dX4_isWithin_10 : decode cX4_isWithin 10 = .ok (.iconst 1, 1) := by decide +kernel
theorem dX4_isWithin_11 : decode cX4_isWithin 11 = .ok (.goto 4, 3) := by decide +kernel
theorem dX4_isWithin_14 : decode cX4_isWithin 14 = .ok (.iconst 0, 1) := by decide +kernel
theorem dX4_isWithin_15 : decode cX4_isWithin 15 = .ok (.ireturn, 1) := by decide +kernel
theorem dX4_hasBit_0 : decode cX4_hasBit 0 = .ok (.iload_n 0, 1) := by decide +kernel
theorem dX4_hasBit_1 : decode cX4_hasBit 1 = .ok (.iload_n 1, 1) := by decide +kernel
theorem dX4_hasBit_2 : decode cX4_hasBit 2 = .ok (.ishr, 1) := by decide +kernel
theorem dX4_hasBit_3 : decode cX4_hasBit 3 = .ok (.iconst 1, 1) := by decide +kernel
theorem dX4_hasBit_4 : decode cX4_hasBit 4 = .ok (.iand, 1) := by decide +kernel
theorem dX4_hasBit_5 : decode cX4_hasBit 5 = .ok (.iconst 1, 1) := by decide +kernel
theorem dX4_hasBit_6 : decode cX4_hasBit 6 = .ok (.if_icmp .ne 7, 3) := by decide +kernel
theorem dX4_hasBit_9 : decode cX4_hasBit 9 = .ok (.iconst 1, 1) := by decide +kernel
theorem dX4_hasBit_10 : decode cX4_hasBit 10 = .ok (.goto 4, 3) := by decide +kernel
theorem dX4_hasBit_13 : decode cX4_hasBit 13 = .ok (.iconst 0, 1) := by decide +kernel
theorem dX4_hasBit_14 : decode cX4_hasBit 14 = .ok (.ireturn, 1) := by decide +kernel
theorem dX4_above_0 : decode cX4_above 0 = .ok (.iconst 2, 1) := by decide +kernel
theorem dX4_above_1 : decode cX4_above 1 = .ok (.iload_n 0, 1) := by decide +kernel
theorem dX4_above_2 : decode cX4_above 2 = .ok (.ishl, 1) := by decide +kernel
theorem dX4_above_3 : decode cX4_above 3 = .ok (.ineg, 1) := by decide +kernel
theorem dX4_above_4 : decode cX4_above 4 = .ok (.ireturn, 1) := by decide +kernel
theorem dX4_offenceAt_0 : decode cX4_offenceAt 0 = .ok (.iload_n 1, 1) := by decide +kernel
theorem dX4_offenceAt_1 : decode cX4_offenceAt 1 = .ok (.ifCond .lt 12, 3) := by decide +kernel
theorem dX4_offenceAt_4 : decode cX4_offenceAt 4 = .ok (.iload_n 1, 1) := by decide +kernel
theorem dX4_offenceAt_5 : decode cX4_offenceAt 5 = .ok (.aload_n 0, 1) := by decide +kernel
theorem dX4_offenceAt_6 : decode cX4_offenceAt 6 = .ok (.getfield 11, 3) := by decide +kernel
theorem dX4_offenceAt_9 : decode cX4_offenceAt 9 = .ok (.arraylength, 1) := by decide +kernel
theorem dX4_offenceAt_10 : decode cX4_offenceAt 10 = .ok (.if_icmp .lt 7, 3) := by decide +kernel
theorem dX4_offenceAt_13 : decode cX4_offenceAt 13 = .ok (.aconst_null, 1) := by decide +kernel
theorem dX4_offenceAt_14 : decode cX4_offenceAt 14 = .ok (.goto 9, 3) := by decide +kernel
theorem dX4_offenceAt_17 : decode cX4_offenceAt 17 = .ok (.aload_n 0, 1) := by decide +kernel
theorem dX4_offenceAt_18 : decode cX4_offenceAt 18 = .ok (.getfield 11, 3) := by decide +kernel
theorem dX4_offenceAt_21 : decode cX4_offenceAt 21 = .ok (.iload_n 1, 1) := by decide +kernel
theorem dX4_offenceAt_22 : decode cX4_offenceAt 22 = .ok (.aaload, 1) := by decide +kernel
theorem dX4_offenceAt_23 : decode cX4_offenceAt 23 = .ok (.areturn, 1) := by decide +kernel
theorem dX4_fileAt_0 : decode cX4_fileAt 0 = .ok (.iload_n 1, 1) := by decide +kernel
theorem dX4_fileAt_1 : decode cX4_fileAt 1 = .ok (.ifCond .lt 12, 3) := by decide +kernel
theorem dX4_fileAt_4 : decode cX4_fileAt 4 = .ok (.iload_n 1, 1) := by decide +kernel
theorem dX4_fileAt_5 : decode cX4_fileAt 5 = .ok (.aload_n 0, 1) := by decide +kernel
theorem dX4_fileAt_6 : decode cX4_fileAt 6 = .ok (.getfield 17, 3) := by decide +kernel
theorem dX4_fileAt_9 : decode cX4_fileAt 9 = .ok (.arraylength, 1) := by decide +kernel
theorem dX4_fileAt_10 : decode cX4_fileAt 10 = .ok (.if_icmp .lt 7, 3) := by decide +kernel
theorem dX4_fileAt_13 : decode cX4_fileAt 13 = .ok (.aconst_null, 1) := by decide +kernel
theorem dX4_fileAt_14 : decode cX4_fileAt 14 = .ok (.goto 9, 3) := by decide +kernel
theorem dX4_fileAt_17 : decode cX4_fileAt 17 = .ok (.aload_n 0, 1) := by decide +kernel
theorem dX4_fileAt_18 : decode cX4_fileAt 18 = .ok (.getfield 17, 3) := by decide +kernel
theorem dX4_fileAt_21 : decode cX4_fileAt 21 = .ok (.iload_n 1, 1) := by decide +kernel
theorem dX4_fileAt_22 : decode cX4_fileAt 22 = .ok (.aaload, 1) := by decide +kernel
theorem dX4_fileAt_23 : decode cX4_fileAt 23 = .ok (.areturn, 1) := by decide +kernel
theorem dX4_itemAt_0 : decode cX4_itemAt 0 = .ok (.iload_n 1, 1) := by decide +kernel
theorem dX4_itemAt_1 : decode cX4_itemAt 1 = .ok (.ifCond .lt 12, 3) := by decide +kernel
theorem dX4_itemAt_4 : decode cX4_itemAt 4 = .ok (.iload_n 1, 1) := by decide +kernel
theorem dX4_itemAt_5 : decode cX4_itemAt 5 = .ok (.aload_n 0, 1) := by decide +kernel
theorem dX4_itemAt_6 : decode cX4_itemAt 6 = .ok (.getfield 23, 3) := by decide +kernel
theorem dX4_itemAt_9 : decode cX4_itemAt 9 = .ok (.arraylength, 1) := by decide +kernel
theorem dX4_itemAt_10 : decode cX4_itemAt 10 = .ok (.if_icmp .lt 7, 3) := by decide +kernel
theorem dX4_itemAt_13 : decode cX4_itemAt 13 = .ok (.aconst_null, 1) := by decide +kernel
theorem dX4_itemAt_14 : decode cX4_itemAt 14 = .ok (.goto 9, 3) := by decide +kernel
theorem dX4_itemAt_17 : decode cX4_itemAt 17 = .ok (.aload_n 0, 1) := by decide +kernel
theorem dX4_itemAt_18 : decode cX4_itemAt 18 = .ok (.getfield 23, 3) := by decide +kernel
theorem dX4_itemAt_21 : decode cX4_itemAt 21 = .ok (.iload_n 1, 1) := by decide +kernel
theorem dX4_itemAt_22 : decode cX4_itemAt 22 = .ok (.aaload, 1) := by decide +kernel
theorem dX4_itemAt_23 : decode cX4_itemAt 23 = .ok (.areturn, 1) := by decide +kernel
set_option maxRecDepth 20000 in
theorem ggX4_accusedAt_X4_fileAt : GoodIn wsX4_accusedAt wsX4_fileAt := goodIn_r _ [7, 8, 15, 16, 17, 18, 19, 20, 21, 22, 23, 24, 25, 26, 27] (by decide +kernel) (by decide +kernel)
set_option maxRecDepth 20000 in
theorem gX4_accusedAt_X4_fileAt : GoodIn wsX4_accusedAt (wsV RX4 108 RX4 yX4_fileAt wsX4_fileAt) := goodIn_app (goodIn_of _ (by decide +kernel)) ggX4_accusedAt_X4_fileAt
set_option maxRecDepth 20000 in
theorem ggX4_accusedAt_X1_rowOf : GoodIn wsX4_accusedAt wsX1_rowOf := goodIn_r _ [13, 14, 28, 29, 30, 31, 32] (by decide +kernel) (by decide +kernel)
set_option maxRecDepth 20000 in
theorem gX4_accusedAt_X1_rowOf : GoodIn wsX4_accusedAt (wsV RX4 325 RX1 yX1_rowOf wsX1_rowOf) := goodIn_app (goodIn_of _ (by decide +kernel)) ggX4_accusedAt_X1_rowOf
theorem dX4_accusedAt_0 : decode cX4_accusedAt 0 = .ok (.aload_n 0, 1) := by decide +kernel
theorem dX4_accusedAt_1 : decode cX4_accusedAt 1 = .ok (.iload_n 1, 1) := by decide +kernel
theorem dX4_accusedAt_2 : decode cX4_accusedAt 2 = .ok (.invokevirtual 108, 3) := by decide +kernel
theorem dX4_accusedAt_5 : decode cX4_accusedAt 5 = .ok (.astore_n 3, 1) := by decide +kernel
theorem dX4_accusedAt_6 : decode cX4_accusedAt 6 = .ok (.aload_n 3, 1) := by decide +kernel
theorem dX4_accusedAt_7 : decode cX4_accusedAt 7 = .ok (.ifnonnull 7, 3) := by decide +kernel
theorem dX4_accusedAt_10 : decode cX4_accusedAt 10 = .ok (.aconst_null, 1) := by decide +kernel
theorem dX4_accusedAt_11 : decode cX4_accusedAt 11 = .ok (.goto 8, 3) := by decide +kernel
theorem dX4_accusedAt_14 : decode cX4_accusedAt 14 = .ok (.aload_n 3, 1) := by decide +kernel
theorem dX4_accusedAt_15 : decode cX4_accusedAt 15 = .ok (.iload_n 2, 1) := by decide +kernel
theorem dX4_accusedAt_16 : decode cX4_accusedAt 16 = .ok (.invokevirtual 325, 3) := by decide +kernel
theorem dX4_accusedAt_19 : decode cX4_accusedAt 19 = .ok (.astore 4, 2) := by decide +kernel
theorem dX4_accusedAt_21 : decode cX4_accusedAt 21 = .ok (.aload 4, 2) := by decide +kernel
theorem dX4_accusedAt_23 : decode cX4_accusedAt 23 = .ok (.ifnonnull 14, 3) := by decide +kernel
theorem dX4_accusedAt_26 : decode cX4_accusedAt 26 = .ok (.new 54, 3) := by decide +kernel
theorem dX4_accusedAt_29 : decode cX4_accusedAt 29 = .ok (.dup, 1) := by decide +kernel
theorem dX4_accusedAt_30 : decode cX4_accusedAt 30 = .ok (.ldc_w 329, 3) := by decide +kernel
theorem dX4_accusedAt_33 : decode cX4_accusedAt 33 = .ok (.invokespecial 58, 3) := by decide +kernel
theorem dX4_accusedAt_36 : decode cX4_accusedAt 36 = .ok (.athrow, 1) := by decide +kernel
theorem dX4_accusedAt_37 : decode cX4_accusedAt 37 = .ok (.aload 4, 2) := by decide +kernel
theorem dX4_accusedAt_39 : decode cX4_accusedAt 39 = .ok (.areturn, 1) := by decide +kernel
set_option maxRecDepth 20000 in
theorem ggX4_checkDay_X4_isWithin : GoodIn wsX4_checkDay wsX4_isWithin := goodIn_r _ [7] (by decide +kernel) (by decide +kernel)
set_option maxRecDepth 20000 in
theorem gX4_checkDay_X4_isWithin : GoodIn wsX4_checkDay (va_wsS RX4 27 yX4_isWithin wsX4_isWithin) := goodIn_app (goodIn_of _ (by decide +kernel)) ggX4_checkDay_X4_isWithin
theorem dX4_checkDay_0 : decode cX4_checkDay 0 = .ok (.iload_n 1, 1) := by decide +kernel
theorem dX4_checkDay_1 : decode cX4_checkDay 1 = .ok (.iconst 0, 1) := by decide +kernel
theorem dX4_checkDay_2 : decode cX4_checkDay 2 = .ok (.aload_n 0, 1) := by decide +kernel
theorem dX4_checkDay_3 : decode cX4_checkDay 3 = .ok (.getfield 70, 3) := by decide +kernel
theorem dX4_checkDay_6 : decode cX4_checkDay 6 = .ok (.invokestatic 27, 3) := by decide +kernel
theorem dX4_checkDay_9 : decode cX4_checkDay 9 = .ok (.ifCond .ne 14, 3) := by decide +kernel
theorem dX4_checkDay_12 : decode cX4_checkDay 12 = .ok (.new 31, 3) := by decide +kernel
theorem dX4_checkDay_15 : decode cX4_checkDay 15 = .ok (.dup, 1) := by decide +kernel
theorem dX4_checkDay_16 : decode cX4_checkDay 16 = .ok (.ldc_w 331, 3) := by decide +kernel
theorem dX4_checkDay_19 : decode cX4_checkDay 19 = .ok (.invokespecial 35, 3) := by decide +kernel
theorem dX4_checkDay_22 : decode cX4_checkDay 22 = .ok (.athrow, 1) := by decide +kernel
theorem dX4_checkDay_23 : decode cX4_checkDay 23 = .ok (.return_, 1) := by decide +kernel
theorem dX4_checkToldOffences_0 : decode cX4_checkToldOffences 0 = .ok (.iconst 1, 1) := by decide +kernel
theorem dX4_checkToldOffences_1 : decode cX4_checkToldOffences 1 = .ok (.aload_n 0, 1) := by decide +kernel
theorem dX4_checkToldOffences_2 : decode cX4_checkToldOffences 2 = .ok (.getfield 38, 3) := by decide +kernel
theorem dX4_checkToldOffences_5 : decode cX4_checkToldOffences 5 = .ok (.ishl, 1) := by decide +kernel
theorem dX4_checkToldOffences_6 : decode cX4_checkToldOffences 6 = .ok (.iconst 1, 1) := by decide +kernel
theorem dX4_checkToldOffences_7 : decode cX4_checkToldOffences 7 = .ok (.isub, 1) := by decide +kernel
theorem dX4_checkToldOffences_8 : decode cX4_checkToldOffences 8 = .ok (.istore_n 2, 1) := by decide +kernel
theorem dX4_checkToldOffences_9 : decode cX4_checkToldOffences 9 = .ok (.iload_n 1, 1) := by decide +kernel
theorem dX4_checkToldOffences_10 : decode cX4_checkToldOffences 10 = .ok (.iload_n 2, 1) := by decide +kernel
theorem dX4_checkToldOffences_11 : decode cX4_checkToldOffences 11 = .ok (.iconst (-1), 1) := by decide +kernel
theorem dX4_checkToldOffences_12 : decode cX4_checkToldOffences 12 = .ok (.ixor, 1) := by decide +kernel
theorem dX4_checkToldOffences_13 : decode cX4_checkToldOffences 13 = .ok (.iand, 1) := by decide +kernel
theorem dX4_checkToldOffences_14 : decode cX4_checkToldOffences 14 = .ok (.ifCond .eq 14, 3) := by decide +kernel
theorem dX4_checkToldOffences_17 : decode cX4_checkToldOffences 17 = .ok (.new 31, 3) := by decide +kernel
theorem dX4_checkToldOffences_20 : decode cX4_checkToldOffences 20 = .ok (.dup, 1) := by decide +kernel
theorem dX4_checkToldOffences_21 : decode cX4_checkToldOffences 21 = .ok (.ldc_w 333, 3) := by decide +kernel
theorem dX4_checkToldOffences_24 : decode cX4_checkToldOffences 24 = .ok (.invokespecial 35, 3) := by decide +kernel
theorem dX4_checkToldOffences_27 : decode cX4_checkToldOffences 27 = .ok (.athrow, 1) := by decide +kernel
theorem dX4_checkToldOffences_28 : decode cX4_checkToldOffences 28 = .ok (.return_, 1) := by decide +kernel
set_option maxRecDepth 20000 in
theorem ggX4_strengthAgainst_X2_isAgainst : GoodIn wsX4_strengthAgainst wsX2_isAgainst := goodIn_r _ [12, 13, 14, 15, 16, 37, 38, 39, 40, 41, 42, 43, 44, 45, 46] (by decide +kernel) (by decide +kernel)
set_option maxRecDepth 20000 in
theorem gX4_strengthAgainst_X2_isAgainst : GoodIn wsX4_strengthAgainst (wsV RX4 143 RX2 yX2_isAgainst wsX2_isAgainst) := goodIn_app (goodIn_of _ (by decide +kernel)) ggX4_strengthAgainst_X2_isAgainst
set_option maxRecDepth 20000 in
theorem ggX4_strengthAgainst_X2_countsOn : GoodIn wsX4_strengthAgainst wsX2_countsOn := goodIn_r _ [20, 21, 22, 23, 37, 38, 39, 40, 41, 42, 43, 44, 45, 46] (by decide +kernel) (by decide +kernel)
set_option maxRecDepth 20000 in
theorem gX4_strengthAgainst_X2_countsOn : GoodIn wsX4_strengthAgainst (wsV RX4 335 RX2 yX2_countsOn wsX2_countsOn) := goodIn_app (goodIn_of _ (by decide +kernel)) ggX4_strengthAgainst_X2_countsOn
theorem dX4_strengthAgainst_0 : decode cX4_strengthAgainst 0 = .ok (.iconst 0, 1) := by decide +kernel
theorem dX4_strengthAgainst_1 : decode cX4_strengthAgainst 1 = .ok (.istore 4, 2) := by decide +kernel
theorem dX4_strengthAgainst_3 : decode cX4_strengthAgainst 3 = .ok (.aload_n 0, 1) := by decide +kernel
theorem dX4_strengthAgainst_4 : decode cX4_strengthAgainst 4 = .ok (.getfield 23, 3) := by decide +kernel
theorem dX4_strengthAgainst_7 : decode cX4_strengthAgainst 7 = .ok (.astore 5, 2) := by decide +kernel
theorem dX4_strengthAgainst_9 : decode cX4_strengthAgainst 9 = .ok (.aload 5, 2) := by decide +kernel
theorem dX4_strengthAgainst_11 : decode cX4_strengthAgainst 11 = .ok (.arraylength, 1) := by decide +kernel
theorem dX4_strengthAgainst_12 : decode cX4_strengthAgainst 12 = .ok (.istore 6, 2) := by decide +kernel
theorem dX4_strengthAgainst_14 : decode cX4_strengthAgainst 14 = .ok (.iconst 0, 1) := by decide +kernel
theorem dX4_strengthAgainst_15 : decode cX4_strengthAgainst 15 = .ok (.istore 7, 2) := by decide +kernel
theorem dX4_strengthAgainst_17 : decode cX4_strengthAgainst 17 = .ok (.iload 7, 2) := by decide +kernel
theorem dX4_strengthAgainst_19 : decode cX4_strengthAgainst 19 = .ok (.iload 6, 2) := by decide +kernel
theorem dX4_strengthAgainst_21 : decode cX4_strengthAgainst 21 = .ok (.if_icmp .ge 76, 3) := by decide +kernel
theorem dX4_strengthAgainst_24 : decode cX4_strengthAgainst 24 = .ok (.aload 5, 2) := by decide +kernel
theorem dX4_strengthAgainst_26 : decode cX4_strengthAgainst 26 = .ok (.iload 7, 2) := by decide +kernel
theorem dX4_strengthAgainst_28 : decode cX4_strengthAgainst 28 = .ok (.aaload, 1) := by decide +kernel
theorem dX4_strengthAgainst_29 : decode cX4_strengthAgainst 29 = .ok (.astore 8, 2) := by decide +kernel
theorem dX4_strengthAgainst_31 : decode cX4_strengthAgainst 31 = .ok (.aload 8, 2) := by decide +kernel
theorem dX4_strengthAgainst_33 : decode cX4_strengthAgainst 33 = .ok (.ifnull 58, 3) := by decide +kernel
theorem dX4_strengthAgainst_36 : decode cX4_strengthAgainst 36 = .ok (.aload 8, 2) := by decide +kernel
theorem dX4_strengthAgainst_38 : decode cX4_strengthAgainst 38 = .ok (.getfield 154, 3) := by decide +kernel
theorem dX4_strengthAgainst_41 : decode cX4_strengthAgainst 41 = .ok (.aload_n 1, 1) := by decide +kernel
theorem dX4_strengthAgainst_42 : decode cX4_strengthAgainst 42 = .ok (.getfield 293, 3) := by decide +kernel
theorem dX4_strengthAgainst_45 : decode cX4_strengthAgainst 45 = .ok (.getfield 105, 3) := by decide +kernel
theorem dX4_strengthAgainst_48 : decode cX4_strengthAgainst 48 = .ok (.if_icmp .ne 43, 3) := by decide +kernel
theorem dX4_strengthAgainst_51 : decode cX4_strengthAgainst 51 = .ok (.aload 8, 2) := by decide +kernel
theorem dX4_strengthAgainst_53 : decode cX4_strengthAgainst 53 = .ok (.getfield 299, 3) := by decide +kernel
theorem dX4_strengthAgainst_56 : decode cX4_strengthAgainst 56 = .ok (.iload_n 2, 1) := by decide +kernel
theorem dX4_strengthAgainst_57 : decode cX4_strengthAgainst 57 = .ok (.if_icmp .ne 34, 3) := by decide +kernel
theorem dX4_strengthAgainst_60 : decode cX4_strengthAgainst 60 = .ok (.aload 8, 2) := by decide +kernel
theorem dX4_strengthAgainst_62 : decode cX4_strengthAgainst 62 = .ok (.aload_n 1, 1) := by decide +kernel
theorem dX4_strengthAgainst_63 : decode cX4_strengthAgainst 63 = .ok (.getfield 296, 3) := by decide +kernel
theorem dX4_strengthAgainst_66 : decode cX4_strengthAgainst 66 = .ok (.invokevirtual 143, 3) := by decide +kernel
theorem dX4_strengthAgainst_69 : decode cX4_strengthAgainst 69 = .ok (.ifCond .eq 22, 3) := by decide +kernel
theorem dX4_strengthAgainst_72 : decode cX4_strengthAgainst 72 = .ok (.aload 8, 2) := by decide +kernel
theorem dX4_strengthAgainst_74 : decode cX4_strengthAgainst 74 = .ok (.iload_n 3, 1) := by decide +kernel
theorem dX4_strengthAgainst_75 : decode cX4_strengthAgainst 75 = .ok (.invokevirtual 335, 3) := by decide +kernel
theorem dX4_strengthAgainst_78 : decode cX4_strengthAgainst 78 = .ok (.ifCond .eq 13, 3) := by decide +kernel
theorem dX4_strengthAgainst_81 : decode cX4_strengthAgainst 81 = .ok (.iload 4, 2) := by decide +kernel
theorem dX4_strengthAgainst_83 : decode cX4_strengthAgainst 83 = .ok (.aload 8, 2) := by decide +kernel
theorem dX4_strengthAgainst_85 : decode cX4_strengthAgainst 85 = .ok (.getfield 302, 3) := by decide +kernel
theorem dX4_strengthAgainst_88 : decode cX4_strengthAgainst 88 = .ok (.iadd, 1) := by decide +kernel
theorem dX4_strengthAgainst_89 : decode cX4_strengthAgainst 89 = .ok (.istore 4, 2) := by decide +kernel
theorem dX4_strengthAgainst_91 : decode cX4_strengthAgainst 91 = .ok (.iinc 7 1, 3) := by decide +kernel
theorem dX4_strengthAgainst_94 : decode cX4_strengthAgainst 94 = .ok (.goto (-77), 3) := by decide +kernel
theorem dX4_strengthAgainst_97 : decode cX4_strengthAgainst 97 = .ok (.iload 4, 2) := by decide +kernel
theorem dX4_strengthAgainst_99 : decode cX4_strengthAgainst 99 = .ok (.ireturn, 1) := by decide +kernel
set_option maxRecDepth 20000 in
theorem ggX4_hasStrength_X4_hasBit : GoodIn wsX4_hasStrength wsX4_hasBit := goodIn_r _ [5] (by decide +kernel) (by decide +kernel)
set_option maxRecDepth 20000 in
theorem gX4_hasStrength_X4_hasBit : GoodIn wsX4_hasStrength (va_wsS RX4 96 yX4_hasBit wsX4_hasBit) := goodIn_app (goodIn_of _ (by decide +kernel)) ggX4_hasStrength_X4_hasBit
set_option maxRecDepth 20000 in
theorem ggX4_hasStrength_X4_strengthAgainst : GoodIn wsX4_hasStrength wsX4_strengthAgainst := goodIn_r _ [9, 10, 11, 12, 13, 14, 15, 16, 17, 18, 19, 20, 21, 22, 3, 4, 5, 23, 24, 25, 26, 27, 28, 29, 34, 35, 36, 37, 38, 39, 40, 41, 42, 43, 44, 45, 46, 47, 48, 49, 50, 51, 52, 53, 54, 55, 56, 57, 58, 59, 60, 61, 62, 63, 64, 65, 66, 67, 68, 69, 70, 71, 72, 73, 74, 75] (by decide +kernel) (by decide +kernel)
set_option maxRecDepth 20000 in
theorem gX4_hasStrength_X4_strengthAgainst : GoodIn wsX4_hasStrength (wsV RX4 279 RX4 yX4_strengthAgainst wsX4_strengthAgainst) := goodIn_app (goodIn_of _ (by decide +kernel)) ggX4_hasStrength_X4_strengthAgainst
theorem dX4_hasStrength_0 : decode cX4_hasStrength 0 = .ok (.iconst 0, 1) := by decide +kernel
theorem dX4_hasStrength_1 : decode cX4_hasStrength 1 = .ok (.istore 5, 2) := by decide +kernel
theorem dX4_hasStrength_3 : decode cX4_hasStrength 3 = .ok (.iload 5, 2) := by decide +kernel
theorem dX4_hasStrength_5 : decode cX4_hasStrength 5 = .ok (.bipush 10, 2) := by decide +kernel
theorem dX4_hasStrength_7 : decode cX4_hasStrength 7 = .ok (.if_icmp .ge 36, 3) := by decide +kernel
theorem dX4_hasStrength_10 : decode cX4_hasStrength 10 = .ok (.aload_n 2, 1) := by decide +kernel
theorem dX4_hasStrength_11 : decode cX4_hasStrength 11 = .ok (.getfield 338, 3) := by decide +kernel
theorem dX4_hasStrength_14 : decode cX4_hasStrength 14 = .ok (.iload 5, 2) := by decide +kernel
theorem dX4_hasStrength_16 : decode cX4_hasStrength 16 = .ok (.invokestatic 96, 3) := by decide +kernel
theorem dX4_hasStrength_19 : decode cX4_hasStrength 19 = .ok (.ifCond .eq 18, 3) := by decide +kernel
theorem dX4_hasStrength_22 : decode cX4_hasStrength 22 = .ok (.aload_n 0, 1) := by decide +kernel
theorem dX4_hasStrength_23 : decode cX4_hasStrength 23 = .ok (.aload_n 1, 1) := by decide +kernel
theorem dX4_hasStrength_24 : decode cX4_hasStrength 24 = .ok (.iload 5, 2) := by decide +kernel
theorem dX4_hasStrength_26 : decode cX4_hasStrength 26 = .ok (.iload 4, 2) := by decide +kernel
theorem dX4_hasStrength_28 : decode cX4_hasStrength 28 = .ok (.invokevirtual 279, 3) := by decide +kernel
theorem dX4_hasStrength_31 : decode cX4_hasStrength 31 = .ok (.iload_n 3, 1) := by decide +kernel
theorem dX4_hasStrength_32 : decode cX4_hasStrength 32 = .ok (.if_icmp .ge 5, 3) := by decide +kernel
theorem dX4_hasStrength_35 : decode cX4_hasStrength 35 = .ok (.iconst 0, 1) := by decide +kernel
theorem dX4_hasStrength_36 : decode cX4_hasStrength 36 = .ok (.ireturn, 1) := by decide +kernel
theorem dX4_hasStrength_37 : decode cX4_hasStrength 37 = .ok (.iinc 5 1, 3) := by decide +kernel
theorem dX4_hasStrength_40 : decode cX4_hasStrength 40 = .ok (.goto (-37), 3) := by decide +kernel
theorem dX4_hasStrength_43 : decode cX4_hasStrength 43 = .ok (.iconst 1, 1) := by decide +kernel
theorem dX4_hasStrength_44 : decode cX4_hasStrength 44 = .ok (.ireturn, 1) := by decide +kernel
set_option maxRecDepth 20000 in
theorem ggX4_isSpent_X3_isAkinTo : GoodIn wsX4_isSpent wsX3_isAkinTo := goodIn_r _ [6, 7, 8, 9, 10, 5, 11, 31, 32, 33, 34] (by decide +kernel) (by decide +kernel)
set_option maxRecDepth 20000 in
theorem gX4_isSpent_X3_isAkinTo : GoodIn wsX4_isSpent (wsV RX4 341 RX3 yX3_isAkinTo wsX3_isAkinTo) := goodIn_app (goodIn_of _ (by decide +kernel)) ggX4_isSpent_X3_isAkinTo
set_option maxRecDepth 20000 in
theorem ggX4_isSpent_X0_hadAnswered : GoodIn wsX4_isSpent wsX0_hadAnswered := goodIn_r _ [16, 17, 35, 36, 37, 38, 39, 40, 41, 42, 43, 44, 45, 46, 47, 48] (by decide +kernel) (by decide +kernel)
set_option maxRecDepth 20000 in
theorem gX4_isSpent_X0_hadAnswered : GoodIn wsX4_isSpent (wsV RX4 344 RX0 yX0_hadAnswered wsX0_hadAnswered) := goodIn_app (goodIn_of _ (by decide +kernel)) ggX4_isSpent_X0_hadAnswered
theorem dX4_isSpent_0 : decode cX4_isSpent 0 = .ok (.iconst 0, 1) := by decide +kernel
theorem dX4_isSpent_1 : decode cX4_isSpent 1 = .ok (.istore 4, 2) := by decide +kernel
theorem dX4_isSpent_3 : decode cX4_isSpent 3 = .ok (.iload 4, 2) := by decide +kernel
theorem dX4_isSpent_5 : decode cX4_isSpent 5 = .ok (.aload_n 0, 1) := by decide +kernel
theorem dX4_isSpent_6 : decode cX4_isSpent 6 = .ok (.getfield 11, 3) := by decide +kernel
theorem dX4_isSpent_9 : decode cX4_isSpent 9 = .ok (.arraylength, 1) := by decide +kernel
theorem dX4_isSpent_10 : decode cX4_isSpent 10 = .ok (.if_icmp .ge 44, 3) := by decide +kernel
theorem dX4_isSpent_13 : decode cX4_isSpent 13 = .ok (.aload_n 0, 1) := by decide +kernel
theorem dX4_isSpent_14 : decode cX4_isSpent 14 = .ok (.getfield 11, 3) := by decide +kernel
theorem dX4_isSpent_17 : decode cX4_isSpent 17 = .ok (.iload 4, 2) := by decide +kernel
theorem dX4_isSpent_19 : decode cX4_isSpent 19 = .ok (.aaload, 1) := by decide +kernel
theorem dX4_isSpent_20 : decode cX4_isSpent 20 = .ok (.astore 5, 2) := by decide +kernel
theorem dX4_isSpent_22 : decode cX4_isSpent 22 = .ok (.aload 5, 2) := by decide +kernel
theorem dX4_isSpent_24 : decode cX4_isSpent 24 = .ok (.ifnull 24, 3) := by decide +kernel
theorem dX4_isSpent_27 : decode cX4_isSpent 27 = .ok (.aload 5, 2) := by decide +kernel
theorem dX4_isSpent_29 : decode cX4_isSpent 29 = .ok (.aload_n 2, 1) := by decide +kernel
theorem dX4_isSpent_30 : decode cX4_isSpent 30 = .ok (.invokevirtual 341, 3) := by decide +kernel
theorem dX4_isSpent_33 : decode cX4_isSpent 33 = .ok (.ifCond .eq 15, 3) := by decide +kernel
theorem dX4_isSpent_36 : decode cX4_isSpent 36 = .ok (.aload_n 1, 1) := by decide +kernel
theorem dX4_isSpent_37 : decode cX4_isSpent 37 = .ok (.iload 4, 2) := by decide +kernel
theorem dX4_isSpent_39 : decode cX4_isSpent 39 = .ok (.iload_n 3, 1) := by decide +kernel
theorem dX4_isSpent_40 : decode cX4_isSpent 40 = .ok (.invokevirtual 344, 3) := by decide +kernel
theorem dX4_isSpent_43 : decode cX4_isSpent 43 = .ok (.ifCond .eq 5, 3) := by decide +kernel
theorem dX4_isSpent_46 : decode cX4_isSpent 46 = .ok (.iconst 1, 1) := by decide +kernel
theorem dX4_isSpent_47 : decode cX4_isSpent 47 = .ok (.ireturn, 1) := by decide +kernel
theorem dX4_isSpent_48 : decode cX4_isSpent 48 = .ok (.iinc 4 1, 3) := by decide +kernel
theorem dX4_isSpent_51 : decode cX4_isSpent 51 = .ok (.goto (-48), 3) := by decide +kernel
theorem dX4_isSpent_54 : decode cX4_isSpent 54 = .ok (.iconst 0, 1) := by decide +kernel
theorem dX4_isSpent_55 : decode cX4_isSpent 55 = .ok (.ireturn, 1) := by decide +kernel
set_option maxRecDepth 20000 in
theorem ggX4_spentOffences_X4_isSpent : GoodIn wsX4_spentOffences wsX4_isSpent := goodIn_r _ [7, 1, 8, 9, 10, 11, 12, 13, 14, 15, 16, 17, 18, 19, 20, 21, 22, 23, 24, 25, 26, 27, 28, 29, 30, 31, 32, 33, 34, 35, 36, 37, 38, 39, 40, 41, 42, 43, 44, 45, 46, 47, 48, 49, 50, 51, 52, 53, 54] (by decide +kernel) (by decide +kernel)
set_option maxRecDepth 20000 in
theorem gX4_spentOffences_X4_isSpent : GoodIn wsX4_spentOffences (wsV RX4 347 RX4 yX4_isSpent wsX4_isSpent) := goodIn_app (goodIn_of _ (by decide +kernel)) ggX4_spentOffences_X4_isSpent
theorem dX4_spentOffences_0 : decode cX4_spentOffences 0 = .ok (.iconst 0, 1) := by decide +kernel
theorem dX4_spentOffences_1 : decode cX4_spentOffences 1 = .ok (.istore_n 2, 1) := by decide +kernel
theorem dX4_spentOffences_2 : decode cX4_spentOffences 2 = .ok (.iconst 0, 1) := by decide +kernel
theorem dX4_spentOffences_3 : decode cX4_spentOffences 3 = .ok (.istore_n 3, 1) := by decide +kernel
theorem dX4_spentOffences_4 : decode cX4_spentOffences 4 = .ok (.iload_n 3, 1) := by decide +kernel
theorem dX4_spentOffences_5 : decode cX4_spentOffences 5 = .ok (.aload_n 0, 1) := by decide +kernel
theorem dX4_spentOffences_6 : decode cX4_spentOffences 6 = .ok (.getfield 11, 3) := by decide +kernel
theorem dX4_spentOffences_9 : decode cX4_spentOffences 9 = .ok (.arraylength, 1) := by decide +kernel
theorem dX4_spentOffences_10 : decode cX4_spentOffences 10 = .ok (.if_icmp .ge 42, 3) := by decide +kernel
theorem dX4_spentOffences_13 : decode cX4_spentOffences 13 = .ok (.aload_n 0, 1) := by decide +kernel
theorem dX4_spentOffences_14 : decode cX4_spentOffences 14 = .ok (.getfield 11, 3) := by decide +kernel
theorem dX4_spentOffences_17 : decode cX4_spentOffences 17 = .ok (.iload_n 3, 1) := by decide +kernel
theorem dX4_spentOffences_18 : decode cX4_spentOffences 18 = .ok (.aaload, 1) := by decide +kernel
theorem dX4_spentOffences_19 : decode cX4_spentOffences 19 = .ok (.astore 4, 2) := by decide +kernel
theorem dX4_spentOffences_21 : decode cX4_spentOffences 21 = .ok (.aload 4, 2) := by decide +kernel
theorem dX4_spentOffences_23 : decode cX4_spentOffences 23 = .ok (.ifnull 23, 3) := by decide +kernel
theorem dX4_spentOffences_26 : decode cX4_spentOffences 26 = .ok (.aload_n 0, 1) := by decide +kernel
theorem dX4_spentOffences_27 : decode cX4_spentOffences 27 = .ok (.aload_n 1, 1) := by decide +kernel
theorem dX4_spentOffences_28 : decode cX4_spentOffences 28 = .ok (.aload 4, 2) := by decide +kernel
theorem dX4_spentOffences_30 : decode cX4_spentOffences 30 = .ok (.aload_n 0, 1) := by decide +kernel
theorem dX4_spentOffences_31 : decode cX4_spentOffences 31 = .ok (.getfield 70, 3) := by decide +kernel
theorem dX4_spentOffences_34 : decode cX4_spentOffences 34 = .ok (.invokevirtual 347, 3) := by decide +kernel
theorem dX4_spentOffences_37 : decode cX4_spentOffences 37 = .ok (.ifCond .eq 9, 3) := by decide +kernel
theorem dX4_spentOffences_40 : decode cX4_spentOffences 40 = .ok (.iload_n 2, 1) := by decide +kernel
theorem dX4_spentOffences_41 : decode cX4_spentOffences 41 = .ok (.iconst 1, 1) := by decide +kernel
theorem dX4_spentOffences_42 : decode cX4_spentOffences 42 = .ok (.iload_n 3, 1) := by decide +kernel
theorem dX4_spentOffences_43 : decode cX4_spentOffences 43 = .ok (.ishl, 1) := by decide +kernel
theorem dX4_spentOffences_44 : decode cX4_spentOffences 44 = .ok (.ior, 1) := by decide +kernel
theorem dX4_spentOffences_45 : decode cX4_spentOffences 45 = .ok (.istore_n 2, 1) := by decide +kernel
theorem dX4_spentOffences_46 : decode cX4_spentOffences 46 = .ok (.iinc 3 1, 3) := by decide +kernel
theorem dX4_spentOffences_49 : decode cX4_spentOffences 49 = .ok (.goto (-45), 3) := by decide +kernel
theorem dX4_spentOffences_52 : decode cX4_spentOffences 52 = .ok (.iload_n 2, 1) := by decide +kernel
theorem dX4_spentOffences_53 : decode cX4_spentOffences 53 = .ok (.ireturn, 1) := by decide +kernel
set_option maxRecDepth 20000 in
theorem ggX4_hindrance_X4_isSpent : GoodIn wsX4_hindrance wsX4_isSpent := goodIn_r _ [10, 11, 12, 13, 14, 15, 16, 17, 18, 19, 20, 21, 22, 23, 24, 25, 26, 27, 82, 83, 84, 85, 86, 87, 88, 89, 90, 91, 92, 93, 94, 78, 79, 80, 81, 59, 60, 61, 62, 63, 64, 65, 66, 67, 68, 69, 70, 71, 72] (by decide +kernel) (by decide +kernel)
set_option maxRecDepth 20000 in
theorem gX4_hindrance_X4_isSpent : GoodIn wsX4_hindrance (wsV RX4 347 RX4 yX4_isSpent wsX4_isSpent) := goodIn_app (goodIn_of _ (by decide +kernel)) ggX4_hindrance_X4_isSpent
set_option maxRecDepth 20000 in
theorem ggX4_hindrance_X4_hasStrength : GoodIn wsX4_hindrance wsX4_hasStrength := goodIn_r _ [31, 32, 33, 34, 9, 35, 36, 37, 38, 39, 40, 41, 1, 42, 43, 44, 45, 46, 47, 48, 49, 50, 51, 52, 53, 54, 55, 56, 57, 58, 78, 79, 80, 81, 82, 83, 84, 85, 86, 87, 88, 89, 90, 91, 92, 93, 94, 95, 96, 97, 98, 99, 100, 101, 102, 103, 104, 59, 60, 61, 62, 63, 64, 65, 66, 67, 68, 69, 70, 71, 72, 73, 74, 75, 76, 77] (by decide +kernel) (by decide +kernel)
set_option maxRecDepth 20000 in
theorem gX4_hindrance_X4_hasStrength : GoodIn wsX4_hindrance (wsV RX4 357 RX4 yX4_hasStrength wsX4_hasStrength) := goodIn_app (goodIn_of _ (by decide +kernel)) ggX4_hindrance_X4_hasStrength
theorem dX4_hindrance_0 : decode cX4_hindrance 0 = .ok (.iload_n 3, 1) := by decide +kernel
theorem dX4_hindrance_1 : decode cX4_hindrance 1 = .ok (.aload_n 1, 1) := by decide +kernel
theorem dX4_hindrance_2 : decode cX4_hindrance 2 = .ok (.getfield 293, 3) := by decide +kernel
theorem dX4_hindrance_5 : decode cX4_hindrance 5 = .ok (.getfield 351, 3) := by decide +kernel
theorem dX4_hindrance_8 : decode cX4_hindrance 8 = .ok (.aload_n 2, 1) := by decide +kernel
theorem dX4_hindrance_9 : decode cX4_hindrance 9 = .ok (.getfield 354, 3) := by decide +kernel
theorem dX4_hindrance_12 : decode cX4_hindrance 12 = .ok (.iadd, 1) := by decide +kernel
theorem dX4_hindrance_13 : decode cX4_hindrance 13 = .ok (.if_icmp .le 5, 3) := by decide +kernel
theorem dX4_hindrance_16 : decode cX4_hindrance 16 = .ok (.iconst 1, 1) := by decide +kernel
theorem dX4_hindrance_17 : decode cX4_hindrance 17 = .ok (.ireturn, 1) := by decide +kernel
theorem dX4_hindrance_18 : decode cX4_hindrance 18 = .ok (.aload_n 0, 1) := by decide +kernel
theorem dX4_hindrance_19 : decode cX4_hindrance 19 = .ok (.aload_n 1, 1) := by decide +kernel
theorem dX4_hindrance_20 : decode cX4_hindrance 20 = .ok (.aload_n 2, 1) := by decide +kernel
theorem dX4_hindrance_21 : decode cX4_hindrance 21 = .ok (.iload_n 3, 1) := by decide +kernel
theorem dX4_hindrance_22 : decode cX4_hindrance 22 = .ok (.invokevirtual 347, 3) := by decide +kernel
theorem dX4_hindrance_25 : decode cX4_hindrance 25 = .ok (.ifCond .eq 5, 3) := by decide +kernel
theorem dX4_hindrance_28 : decode cX4_hindrance 28 = .ok (.iconst 2, 1) := by decide +kernel
theorem dX4_hindrance_29 : decode cX4_hindrance 29 = .ok (.ireturn, 1) := by decide +kernel
theorem dX4_hindrance_30 : decode cX4_hindrance 30 = .ok (.aload_n 0, 1) := by decide +kernel
theorem dX4_hindrance_31 : decode cX4_hindrance 31 = .ok (.aload_n 1, 1) := by decide +kernel
theorem dX4_hindrance_32 : decode cX4_hindrance 32 = .ok (.aload_n 2, 1) := by decide +kernel
theorem dX4_hindrance_33 : decode cX4_hindrance 33 = .ok (.iconst 5, 1) := by decide +kernel
theorem dX4_hindrance_34 : decode cX4_hindrance 34 = .ok (.iload_n 3, 1) := by decide +kernel
theorem dX4_hindrance_35 : decode cX4_hindrance 35 = .ok (.invokevirtual 357, 3) := by decide +kernel
theorem dX4_hindrance_38 : decode cX4_hindrance 38 = .ok (.ifCond .ne 5, 3) := by decide +kernel
theorem dX4_hindrance_41 : decode cX4_hindrance 41 = .ok (.iconst 3, 1) := by decide +kernel
theorem dX4_hindrance_42 : decode cX4_hindrance 42 = .ok (.ireturn, 1) := by decide +kernel
theorem dX4_hindrance_43 : decode cX4_hindrance 43 = .ok (.aload_n 2, 1) := by decide +kernel
theorem dX4_hindrance_44 : decode cX4_hindrance 44 = .ok (.getfield 361, 3) := by decide +kernel
theorem dX4_hindrance_47 : decode cX4_hindrance 47 = .ok (.aload_n 1, 1) := by decide +kernel
theorem dX4_hindrance_48 : decode cX4_hindrance 48 = .ok (.getfield 293, 3) := by decide +kernel
theorem dX4_hindrance_51 : decode cX4_hindrance 51 = .ok (.getfield 364, 3) := by decide +kernel
theorem dX4_hindrance_54 : decode cX4_hindrance 54 = .ok (.iadd, 1) := by decide +kernel
theorem dX4_hindrance_55 : decode cX4_hindrance 55 = .ok (.ifCond .gt 7, 3) := by decide +kernel
theorem dX4_hindrance_58 : decode cX4_hindrance 58 = .ok (.iconst 4, 1) := by decide +kernel
theorem dX4_hindrance_59 : decode cX4_hindrance 59 = .ok (.goto 4, 3) := by decide +kernel
theorem dX4_hindrance_62 : decode cX4_hindrance 62 = .ok (.iconst 0, 1) := by decide +kernel
theorem dX4_hindrance_63 : decode cX4_hindrance 63 = .ok (.ireturn, 1) := by decide +kernel
set_option maxRecDepth 20000 in
theorem ggX4_chargeable_X4_hindrance : GoodIn wsX4_chargeable wsX4_hindrance := goodIn_r _ [6, 7, 8, 9, 10, 11, 12, 13, 14, 5, 15, 1, 16, 17, 18, 19, 20, 21, 22, 23, 24, 25, 26, 27, 28, 29, 30, 31, 32, 33, 34, 35, 36, 37, 38, 39, 40, 41, 42, 43, 44, 45, 46, 47, 48, 49, 50, 51, 52, 53, 54, 55, 56, 57, 58, 59, 60, 61, 62, 76, 77, 78, 79, 80, 81, 82, 83, 84, 85, 86, 87, 88, 89, 90, 91, 92, 93, 94, 95, 96, 97, 98, 63, 64, 65, 66, 67, 68, 69, 70, 71, 72, 73, 74, 75, 99, 100, 101, 102, 103, 104, 105, 106, 107, 108] (by decide +kernel) (by decide +kernel)
set_option maxRecDepth 20000 in
theorem gX4_chargeable_X4_hindrance : GoodIn wsX4_chargeable (wsV RX4 283 RX4 yX4_hindrance wsX4_hindrance) := goodIn_app (goodIn_of _ (by decide +kernel)) ggX4_chargeable_X4_hindrance
theorem dX4_chargeable_0 : decode cX4_chargeable 0 = .ok (.iconst 0, 1) := by decide +kernel
theorem dX4_chargeable_1 : decode cX4_chargeable 1 = .ok (.istore_n 3, 1) := by decide +kernel
theorem dX4_chargeable_2 : decode cX4_chargeable 2 = .ok (.iconst 0, 1) := by decide +kernel
theorem dX4_chargeable_3 : decode cX4_chargeable 3 = .ok (.istore 4, 2) := by decide +kernel
theorem dX4_chargeable_5 : decode cX4_chargeable 5 = .ok (.iload 4, 2) := by decide +kernel
theorem dX4_chargeable_7 : decode cX4_chargeable 7 = .ok (.aload_n 0, 1) := by decide +kernel
theorem dX4_chargeable_8 : decode cX4_chargeable 8 = .ok (.getfield 11, 3) := by decide +kernel
theorem dX4_chargeable_11 : decode cX4_chargeable 11 = .ok (.arraylength, 1) := by decide +kernel
theorem dX4_chargeable_12 : decode cX4_chargeable 12 = .ok (.if_icmp .ge 41, 3) := by decide +kernel
theorem dX4_chargeable_15 : decode cX4_chargeable 15 = .ok (.aload_n 0, 1) := by decide +kernel
theorem dX4_chargeable_16 : decode cX4_chargeable 16 = .ok (.getfield 11, 3) := by decide +kernel
theorem dX4_chargeable_19 : decode cX4_chargeable 19 = .ok (.iload 4, 2) := by decide +kernel
theorem dX4_chargeable_21 : decode cX4_chargeable 21 = .ok (.aaload, 1) := by decide +kernel
theorem dX4_chargeable_22 : decode cX4_chargeable 22 = .ok (.astore 5, 2) := by decide +kernel
theorem dX4_chargeable_24 : decode cX4_chargeable 24 = .ok (.aload 5, 2) := by decide +kernel
theorem dX4_chargeable_26 : decode cX4_chargeable 26 = .ok (.ifnull 21, 3) := by decide +kernel
theorem dX4_chargeable_29 : decode cX4_chargeable 29 = .ok (.aload_n 0, 1) := by decide +kernel
theorem dX4_chargeable_30 : decode cX4_chargeable 30 = .ok (.aload_n 1, 1) := by decide +kernel
theorem dX4_chargeable_31 : decode cX4_chargeable 31 = .ok (.aload 5, 2) := by decide +kernel
theorem dX4_chargeable_33 : decode cX4_chargeable 33 = .ok (.iload_n 2, 1) := by decide +kernel
theorem dX4_chargeable_34 : decode cX4_chargeable 34 = .ok (.invokevirtual 283, 3) := by decide +kernel
theorem dX4_chargeable_37 : decode cX4_chargeable 37 = .ok (.ifCond .ne 10, 3) := by decide +kernel
theorem dX4_chargeable_40 : decode cX4_chargeable 40 = .ok (.iload_n 3, 1) := by decide +kernel
theorem dX4_chargeable_41 : decode cX4_chargeable 41 = .ok (.iconst 1, 1) := by decide +kernel
theorem dX4_chargeable_42 : decode cX4_chargeable 42 = .ok (.iload 4, 2) := by decide +kernel
theorem dX4_chargeable_44 : decode cX4_chargeable 44 = .ok (.ishl, 1) := by decide +kernel
theorem dX4_chargeable_45 : decode cX4_chargeable 45 = .ok (.ior, 1) := by decide +kernel
theorem dX4_chargeable_46 : decode cX4_chargeable 46 = .ok (.istore_n 3, 1) := by decide +kernel
theorem dX4_chargeable_47 : decode cX4_chargeable 47 = .ok (.iinc 4 1, 3) := by decide +kernel
theorem dX4_chargeable_50 : decode cX4_chargeable 50 = .ok (.goto (-45), 3) := by decide +kernel
theorem dX4_chargeable_53 : decode cX4_chargeable 53 = .ok (.iload_n 3, 1) := by decide +kernel
theorem dX4_chargeable_54 : decode cX4_chargeable 54 = .ok (.ireturn, 1) := by decide +kernel
set_option maxRecDepth 20000 in
theorem ggX4_provenCharges_X4_hasBit : GoodIn wsX4_provenCharges wsX4_hasBit := goodIn_r _ [7] (by decide +kernel) (by decide +kernel)
set_option maxRecDepth 20000 in
theorem gX4_provenCharges_X4_hasBit : GoodIn wsX4_provenCharges (va_wsS RX4 96 yX4_hasBit wsX4_hasBit) := goodIn_app (goodIn_of _ (by decide +kernel)) ggX4_provenCharges_X4_hasBit
set_option maxRecDepth 20000 in
theorem ggX4_provenCharges_X4_hasStrength : GoodIn wsX4_provenCharges wsX4_hasStrength := goodIn_r _ [11, 12, 4, 5, 6, 7, 13, 14, 15, 16, 17, 18, 19, 20, 21, 22, 23, 24, 25, 26, 27, 28, 29, 30, 31, 32, 33, 34, 35, 36, 64, 65, 66, 67, 37, 38, 39, 40, 41, 42, 43, 44, 45, 46, 47, 48, 49, 68, 69, 70, 71, 72, 73, 74, 75, 76, 77, 50, 51, 52, 53, 54, 55, 56, 57, 58, 59, 60, 61, 62, 63, 78, 79, 80, 81, 82] (by decide +kernel) (by decide +kernel)
set_option maxRecDepth 20000 in
theorem gX4_provenCharges_X4_hasStrength : GoodIn wsX4_provenCharges (wsV RX4 357 RX4 yX4_hasStrength wsX4_hasStrength) := goodIn_app (goodIn_of _ (by decide +kernel)) ggX4_provenCharges_X4_hasStrength
theorem dX4_provenCharges_0 : decode cX4_provenCharges 0 = .ok (.iconst 0, 1) := by decide +kernel
theorem dX4_provenCharges_1 : decode cX4_provenCharges 1 = .ok (.istore_n 2, 1) := by decide +kernel
theorem dX4_provenCharges_2 : decode cX4_provenCharges 2 = .ok (.iconst 0, 1) := by decide +kernel
theorem dX4_provenCharges_3 : decode cX4_provenCharges 3 = .ok (.istore_n 3, 1) := by decide +kernel
theorem dX4_provenCharges_4 : decode cX4_provenCharges 4 = .ok (.iload_n 3, 1) := by decide +kernel
theorem dX4_provenCharges_5 : decode cX4_provenCharges 5 = .ok (.aload_n 0, 1) := by decide +kernel
theorem dX4_provenCharges_6 : decode cX4_provenCharges 6 = .ok (.getfield 11, 3) := by decide +kernel
theorem dX4_provenCharges_9 : decode cX4_provenCharges 9 = .ok (.arraylength, 1) := by decide +kernel
theorem dX4_provenCharges_10 : decode cX4_provenCharges 10 = .ok (.if_icmp .ge 55, 3) := by decide +kernel
theorem dX4_provenCharges_13 : decode cX4_provenCharges 13 = .ok (.aload_n 0, 1) := by decide +kernel
theorem dX4_provenCharges_14 : decode cX4_provenCharges 14 = .ok (.getfield 11, 3) := by decide +kernel
theorem dX4_provenCharges_17 : decode cX4_provenCharges 17 = .ok (.iload_n 3, 1) := by decide +kernel
theorem dX4_provenCharges_18 : decode cX4_provenCharges 18 = .ok (.aaload, 1) := by decide +kernel
theorem dX4_provenCharges_19 : decode cX4_provenCharges 19 = .ok (.astore 4, 2) := by decide +kernel
theorem dX4_provenCharges_21 : decode cX4_provenCharges 21 = .ok (.aload 4, 2) := by decide +kernel
theorem dX4_provenCharges_23 : decode cX4_provenCharges 23 = .ok (.ifnull 36, 3) := by decide +kernel
theorem dX4_provenCharges_26 : decode cX4_provenCharges 26 = .ok (.aload_n 1, 1) := by decide +kernel
theorem dX4_provenCharges_27 : decode cX4_provenCharges 27 = .ok (.getfield 190, 3) := by decide +kernel
theorem dX4_provenCharges_30 : decode cX4_provenCharges 30 = .ok (.iload_n 3, 1) := by decide +kernel
theorem dX4_provenCharges_31 : decode cX4_provenCharges 31 = .ok (.invokestatic 96, 3) := by decide +kernel
theorem dX4_provenCharges_34 : decode cX4_provenCharges 34 = .ok (.ifCond .eq 25, 3) := by decide +kernel
theorem dX4_provenCharges_37 : decode cX4_provenCharges 37 = .ok (.aload_n 0, 1) := by decide +kernel
theorem dX4_provenCharges_38 : decode cX4_provenCharges 38 = .ok (.aload_n 1, 1) := by decide +kernel
theorem dX4_provenCharges_39 : decode cX4_provenCharges 39 = .ok (.aload 4, 2) := by decide +kernel
theorem dX4_provenCharges_41 : decode cX4_provenCharges 41 = .ok (.bipush 8, 2) := by decide +kernel
theorem dX4_provenCharges_43 : decode cX4_provenCharges 43 = .ok (.aload_n 0, 1) := by decide +kernel
theorem dX4_provenCharges_44 : decode cX4_provenCharges 44 = .ok (.getfield 70, 3) := by decide +kernel
theorem dX4_provenCharges_47 : decode cX4_provenCharges 47 = .ok (.invokevirtual 357, 3) := by decide +kernel
theorem dX4_provenCharges_50 : decode cX4_provenCharges 50 = .ok (.ifCond .eq 9, 3) := by decide +kernel
theorem dX4_provenCharges_53 : decode cX4_provenCharges 53 = .ok (.iload_n 2, 1) := by decide +kernel
theorem dX4_provenCharges_54 : decode cX4_provenCharges 54 = .ok (.iconst 1, 1) := by decide +kernel
theorem dX4_provenCharges_55 : decode cX4_provenCharges 55 = .ok (.iload_n 3, 1) := by decide +kernel
theorem dX4_provenCharges_56 : decode cX4_provenCharges 56 = .ok (.ishl, 1) := by decide +kernel
theorem dX4_provenCharges_57 : decode cX4_provenCharges 57 = .ok (.ior, 1) := by decide +kernel
theorem dX4_provenCharges_58 : decode cX4_provenCharges 58 = .ok (.istore_n 2, 1) := by decide +kernel
theorem dX4_provenCharges_59 : decode cX4_provenCharges 59 = .ok (.iinc 3 1, 3) := by decide +kernel
theorem dX4_provenCharges_62 : decode cX4_provenCharges 62 = .ok (.goto (-58), 3) := by decide +kernel
theorem dX4_provenCharges_65 : decode cX4_provenCharges 65 = .ok (.iload_n 2, 1) := by decide +kernel
theorem dX4_provenCharges_66 : decode cX4_provenCharges 66 = .ok (.ireturn, 1) := by decide +kernel
set_option maxRecDepth 20000 in
theorem ggX4_gravityOf_X4_hasBit : GoodIn wsX4_gravityOf wsX4_hasBit := goodIn_r _ [6] (by decide +kernel) (by decide +kernel)
set_option maxRecDepth 20000 in
theorem gX4_gravityOf_X4_hasBit : GoodIn wsX4_gravityOf (va_wsS RX4 96 yX4_hasBit wsX4_hasBit) := goodIn_app (goodIn_of _ (by decide +kernel)) ggX4_gravityOf_X4_hasBit
theorem dX4_gravityOf_0 : decode cX4_gravityOf 0 = .ok (.iconst 0, 1) := by decide +kernel
theorem dX4_gravityOf_1 : decode cX4_gravityOf 1 = .ok (.istore_n 2, 1) := by decide +kernel
theorem dX4_gravityOf_2 : decode cX4_gravityOf 2 = .ok (.iconst 0, 1) := by decide +kernel
theorem dX4_gravityOf_3 : decode cX4_gravityOf 3 = .ok (.istore_n 3, 1) := by decide +kernel
theorem dX4_gravityOf_4 : decode cX4_gravityOf 4 = .ok (.iload_n 3, 1) := by decide +kernel
theorem dX4_gravityOf_5 : decode cX4_gravityOf 5 = .ok (.aload_n 0, 1) := by decide +kernel
theorem dX4_gravityOf_6 : decode cX4_gravityOf 6 = .ok (.getfield 11, 3) := by decide +kernel
theorem dX4_gravityOf_9 : decode cX4_gravityOf 9 = .ok (.arraylength, 1) := by decide +kernel
theorem dX4_gravityOf_10 : decode cX4_gravityOf 10 = .ok (.if_icmp .ge 38, 3) := by decide +kernel
theorem dX4_gravityOf_13 : decode cX4_gravityOf 13 = .ok (.aload_n 0, 1) := by decide +kernel
theorem dX4_gravityOf_14 : decode cX4_gravityOf 14 = .ok (.getfield 11, 3) := by decide +kernel
theorem dX4_gravityOf_17 : decode cX4_gravityOf 17 = .ok (.iload_n 3, 1) := by decide +kernel
theorem dX4_gravityOf_18 : decode cX4_gravityOf 18 = .ok (.aaload, 1) := by decide +kernel
theorem dX4_gravityOf_19 : decode cX4_gravityOf 19 = .ok (.astore 4, 2) := by decide +kernel
theorem dX4_gravityOf_21 : decode cX4_gravityOf 21 = .ok (.aload 4, 2) := by decide +kernel
theorem dX4_gravityOf_23 : decode cX4_gravityOf 23 = .ok (.ifnull 19, 3) := by decide +kernel
theorem dX4_gravityOf_26 : decode cX4_gravityOf 26 = .ok (.iload_n 1, 1) := by decide +kernel
theorem dX4_gravityOf_27 : decode cX4_gravityOf 27 = .ok (.iload_n 3, 1) := by decide +kernel
theorem dX4_gravityOf_28 : decode cX4_gravityOf 28 = .ok (.invokestatic 96, 3) := by decide +kernel
theorem dX4_gravityOf_31 : decode cX4_gravityOf 31 = .ok (.ifCond .eq 11, 3) := by decide +kernel
theorem dX4_gravityOf_34 : decode cX4_gravityOf 34 = .ok (.iload_n 2, 1) := by decide +kernel
theorem dX4_gravityOf_35 : decode cX4_gravityOf 35 = .ok (.aload 4, 2) := by decide +kernel
theorem dX4_gravityOf_37 : decode cX4_gravityOf 37 = .ok (.getfield 361, 3) := by decide +kernel
theorem dX4_gravityOf_40 : decode cX4_gravityOf 40 = .ok (.iadd, 1) := by decide +kernel
theorem dX4_gravityOf_41 : decode cX4_gravityOf 41 = .ok (.istore_n 2, 1) := by decide +kernel
theorem dX4_gravityOf_42 : decode cX4_gravityOf 42 = .ok (.iinc 3 1, 3) := by decide +kernel
theorem dX4_gravityOf_45 : decode cX4_gravityOf 45 = .ok (.goto (-41), 3) := by decide +kernel
theorem dX4_gravityOf_48 : decode cX4_gravityOf 48 = .ok (.iload_n 2, 1) := by decide +kernel
theorem dX4_gravityOf_49 : decode cX4_gravityOf 49 = .ok (.ireturn, 1) := by decide +kernel
set_option maxRecDepth 20000 in
theorem ggX4_matesOf_X4_offenceAt : GoodIn wsX4_matesOf wsX4_offenceAt := goodIn_r _ [6, 1, 24, 25, 26, 27, 28, 29, 30, 31, 32, 33, 34, 35, 36] (by decide +kernel) (by decide +kernel)
set_option maxRecDepth 20000 in
theorem gX4_matesOf_X4_offenceAt : GoodIn wsX4_matesOf (wsV RX4 50 RX4 yX4_offenceAt wsX4_offenceAt) := goodIn_app (goodIn_of _ (by decide +kernel)) ggX4_matesOf_X4_offenceAt
set_option maxRecDepth 20000 in
theorem ggX4_matesOf_X3_excludes : GoodIn wsX4_matesOf wsX3_excludes := goodIn_r _ [11, 12, 13, 5, 14, 37, 38, 39, 40] (by decide +kernel) (by decide +kernel)
set_option maxRecDepth 20000 in
theorem gX4_matesOf_X3_excludes : GoodIn wsX4_matesOf (wsV RX4 61 RX3 yX3_excludes wsX3_excludes) := goodIn_app (goodIn_of _ (by decide +kernel)) ggX4_matesOf_X3_excludes
set_option maxRecDepth 20000 in
theorem ggX4_matesOf_X3_isAkinTo : GoodIn wsX4_matesOf wsX3_isAkinTo := goodIn_r _ [18, 19, 20, 21, 22, 10, 23, 37, 38, 39, 40] (by decide +kernel) (by decide +kernel)
set_option maxRecDepth 20000 in
theorem gX4_matesOf_X3_isAkinTo : GoodIn wsX4_matesOf (wsV RX4 341 RX3 yX3_isAkinTo wsX3_isAkinTo) := goodIn_app (goodIn_of _ (by decide +kernel)) ggX4_matesOf_X3_isAkinTo
theorem dX4_matesOf_0 : decode cX4_matesOf 0 = .ok (.aload_n 0, 1) := by decide +kernel
theorem dX4_matesOf_1 : decode cX4_matesOf 1 = .ok (.iload_n 1, 1) := by decide +kernel
theorem dX4_matesOf_2 : decode cX4_matesOf 2 = .ok (.invokevirtual 50, 3) := by decide +kernel
theorem dX4_matesOf_5 : decode cX4_matesOf 5 = .ok (.astore_n 2, 1) := by decide +kernel
theorem dX4_matesOf_6 : decode cX4_matesOf 6 = .ok (.iconst 0, 1) := by decide +kernel
theorem dX4_matesOf_7 : decode cX4_matesOf 7 = .ok (.istore_n 3, 1) := by decide +kernel
theorem dX4_matesOf_8 : decode cX4_matesOf 8 = .ok (.iconst 0, 1) := by decide +kernel
theorem dX4_matesOf_9 : decode cX4_matesOf 9 = .ok (.istore 4, 2) := by decide +kernel
theorem dX4_matesOf_11 : decode cX4_matesOf 11 = .ok (.iload 4, 2) := by decide +kernel
theorem dX4_matesOf_13 : decode cX4_matesOf 13 = .ok (.aload_n 0, 1) := by decide +kernel
theorem dX4_matesOf_14 : decode cX4_matesOf 14 = .ok (.getfield 11, 3) := by decide +kernel
theorem dX4_matesOf_17 : decode cX4_matesOf 17 = .ok (.arraylength, 1) := by decide +kernel
theorem dX4_matesOf_18 : decode cX4_matesOf 18 = .ok (.if_icmp .ge 52, 3) := by decide +kernel
theorem dX4_matesOf_21 : decode cX4_matesOf 21 = .ok (.aload_n 0, 1) := by decide +kernel
theorem dX4_matesOf_22 : decode cX4_matesOf 22 = .ok (.getfield 11, 3) := by decide +kernel
theorem dX4_matesOf_25 : decode cX4_matesOf 25 = .ok (.iload 4, 2) := by decide +kernel
theorem dX4_matesOf_27 : decode cX4_matesOf 27 = .ok (.aaload, 1) := by decide +kernel
theorem dX4_matesOf_28 : decode cX4_matesOf 28 = .ok (.astore 5, 2) := by decide +kernel
theorem dX4_matesOf_30 : decode cX4_matesOf 30 = .ok (.aload_n 2, 1) := by decide +kernel
theorem dX4_matesOf_31 : decode cX4_matesOf 31 = .ok (.ifnull 33, 3) := by decide +kernel
theorem dX4_matesOf_34 : decode cX4_matesOf 34 = .ok (.aload 5, 2) := by decide +kernel
theorem dX4_matesOf_36 : decode cX4_matesOf 36 = .ok (.ifnull 28, 3) := by decide +kernel
theorem dX4_matesOf_39 : decode cX4_matesOf 39 = .ok (.aload_n 2, 1) := by decide +kernel
theorem dX4_matesOf_40 : decode cX4_matesOf 40 = .ok (.iload 4, 2) := by decide +kernel
theorem dX4_matesOf_42 : decode cX4_matesOf 42 = .ok (.invokevirtual 61, 3) := by decide +kernel
theorem dX4_matesOf_45 : decode cX4_matesOf 45 = .ok (.ifCond .ne 19, 3) := by decide +kernel
theorem dX4_matesOf_48 : decode cX4_matesOf 48 = .ok (.aload_n 2, 1) := by decide +kernel
theorem dX4_matesOf_49 : decode cX4_matesOf 49 = .ok (.aload 5, 2) := by decide +kernel
theorem dX4_matesOf_51 : decode cX4_matesOf 51 = .ok (.invokevirtual 341, 3) := by decide +kernel
theorem dX4_matesOf_54 : decode cX4_matesOf 54 = .ok (.ifCond .ne 10, 3) := by decide +kernel
theorem dX4_matesOf_57 : decode cX4_matesOf 57 = .ok (.iload_n 3, 1) := by decide +kernel
theorem dX4_matesOf_58 : decode cX4_matesOf 58 = .ok (.iconst 1, 1) := by decide +kernel
theorem dX4_matesOf_59 : decode cX4_matesOf 59 = .ok (.iload 4, 2) := by decide +kernel
theorem dX4_matesOf_61 : decode cX4_matesOf 61 = .ok (.ishl, 1) := by decide +kernel
theorem dX4_matesOf_62 : decode cX4_matesOf 62 = .ok (.ior, 1) := by decide +kernel
theorem dX4_matesOf_63 : decode cX4_matesOf 63 = .ok (.istore_n 3, 1) := by decide +kernel
theorem dX4_matesOf_64 : decode cX4_matesOf 64 = .ok (.iinc 4 1, 3) := by decide +kernel
theorem dX4_matesOf_67 : decode cX4_matesOf 67 = .ok (.goto (-56), 3) := by decide +kernel
theorem dX4_matesOf_70 : decode cX4_matesOf 70 = .ok (.iload_n 3, 1) := by decide +kernel
theorem dX4_matesOf_71 : decode cX4_matesOf 71 = .ok (.ireturn, 1) := by decide +kernel
set_option maxRecDepth 20000 in
theorem ggX4_isRight_J6_bitCount_0f7a4 : GoodIn wsX4_isRight wsJ6_bitCount_0f7a4 := goodIn_r _ [5, 6, 7, 8] (by decide +kernel) (by decide +kernel)
set_option maxRecDepth 20000 in
theorem gX4_isRight_J6_bitCount_0f7a4 : GoodIn wsX4_isRight (va_wsS RX4 227 yJ6_bitCount_0f7a4 wsJ6_bitCount_0f7a4) := goodIn_app (goodIn_of _ (by decide +kernel)) ggX4_isRight_J6_bitCount_0f7a4
set_option maxRecDepth 20000 in
theorem ggX4_isRight_X4_hasBit : GoodIn wsX4_isRight wsX4_hasBit := goodIn_r _ [12] (by decide +kernel) (by decide +kernel)
set_option maxRecDepth 20000 in
theorem gX4_isRight_X4_hasBit : GoodIn wsX4_isRight (va_wsS RX4 96 yX4_hasBit wsX4_hasBit) := goodIn_app (goodIn_of _ (by decide +kernel)) ggX4_isRight_X4_hasBit
set_option maxRecDepth 20000 in
theorem ggX4_isRight_X4_matesOf : GoodIn wsX4_isRight wsX4_matesOf := goodIn_r _ [16, 1, 17, 18, 19, 11, 20, 21, 22, 23, 24, 25, 26, 10, 12, 27, 28, 29, 30, 31, 32, 33, 34, 35, 36, 37, 38, 39, 40, 41, 42, 43, 44, 45, 46, 47, 48, 49, 50, 51, 52] (by decide +kernel) (by decide +kernel)
set_option maxRecDepth 20000 in
theorem gX4_isRight_X4_matesOf : GoodIn wsX4_isRight (wsV RX4 367 RX4 yX4_matesOf wsX4_matesOf) := goodIn_app (goodIn_of _ (by decide +kernel)) ggX4_isRight_X4_matesOf
theorem dX4_isRight_0 : decode cX4_isRight 0 = .ok (.iload_n 1, 1) := by decide +kernel
theorem dX4_isRight_1 : decode cX4_isRight 1 = .ok (.invokestatic 227, 3) := by decide +kernel
theorem dX4_isRight_4 : decode cX4_isRight 4 = .ok (.istore_n 3, 1) := by decide +kernel
theorem dX4_isRight_5 : decode cX4_isRight 5 = .ok (.iload_n 3, 1) := by decide +kernel
theorem dX4_isRight_6 : decode cX4_isRight 6 = .ok (.iconst 1, 1) := by decide +kernel
theorem dX4_isRight_7 : decode cX4_isRight 7 = .ok (.if_icmp .lt 16, 3) := by decide +kernel
theorem dX4_isRight_10 : decode cX4_isRight 10 = .ok (.iload_n 3, 1) := by decide +kernel
theorem dX4_isRight_11 : decode cX4_isRight 11 = .ok (.iconst 3, 1) := by decide +kernel
theorem dX4_isRight_12 : decode cX4_isRight 12 = .ok (.if_icmp .gt 11, 3) := by decide +kernel
theorem dX4_isRight_15 : decode cX4_isRight 15 = .ok (.iload_n 1, 1) := by decide +kernel
theorem dX4_isRight_16 : decode cX4_isRight 16 = .ok (.iload_n 2, 1) := by decide +kernel
theorem dX4_isRight_17 : decode cX4_isRight 17 = .ok (.iconst (-1), 1) := by decide +kernel
theorem dX4_isRight_18 : decode cX4_isRight 18 = .ok (.ixor, 1) := by decide +kernel
theorem dX4_isRight_19 : decode cX4_isRight 19 = .ok (.iand, 1) := by decide +kernel
theorem dX4_isRight_20 : decode cX4_isRight 20 = .ok (.ifCond .eq 5, 3) := by decide +kernel
theorem dX4_isRight_23 : decode cX4_isRight 23 = .ok (.iconst 0, 1) := by decide +kernel
theorem dX4_isRight_24 : decode cX4_isRight 24 = .ok (.ireturn, 1) := by decide +kernel
theorem dX4_isRight_25 : decode cX4_isRight 25 = .ok (.iconst 0, 1) := by decide +kernel
theorem dX4_isRight_26 : decode cX4_isRight 26 = .ok (.istore 4, 2) := by decide +kernel
theorem dX4_isRight_28 : decode cX4_isRight 28 = .ok (.iload 4, 2) := by decide +kernel
theorem dX4_isRight_30 : decode cX4_isRight 30 = .ok (.aload_n 0, 1) := by decide +kernel
theorem dX4_isRight_31 : decode cX4_isRight 31 = .ok (.getfield 11, 3) := by decide +kernel
theorem dX4_isRight_34 : decode cX4_isRight 34 = .ok (.arraylength, 1) := by decide +kernel
theorem dX4_isRight_35 : decode cX4_isRight 35 = .ok (.if_icmp .ge 40, 3) := by decide +kernel
theorem dX4_isRight_38 : decode cX4_isRight 38 = .ok (.iload_n 1, 1) := by decide +kernel
theorem dX4_isRight_39 : decode cX4_isRight 39 = .ok (.iload 4, 2) := by decide +kernel
theorem dX4_isRight_41 : decode cX4_isRight 41 = .ok (.invokestatic 96, 3) := by decide +kernel
theorem dX4_isRight_44 : decode cX4_isRight 44 = .ok (.ifCond .eq 25, 3) := by decide +kernel
theorem dX4_isRight_47 : decode cX4_isRight 47 = .ok (.iload_n 1, 1) := by decide +kernel
theorem dX4_isRight_48 : decode cX4_isRight 48 = .ok (.iconst 1, 1) := by decide +kernel
theorem dX4_isRight_49 : decode cX4_isRight 49 = .ok (.iload 4, 2) := by decide +kernel
theorem dX4_isRight_51 : decode cX4_isRight 51 = .ok (.ishl, 1) := by decide +kernel
theorem dX4_isRight_52 : decode cX4_isRight 52 = .ok (.iconst (-1), 1) := by decide +kernel
theorem dX4_isRight_53 : decode cX4_isRight 53 = .ok (.ixor, 1) := by decide +kernel
theorem dX4_isRight_54 : decode cX4_isRight 54 = .ok (.iand, 1) := by decide +kernel
theorem dX4_isRight_55 : decode cX4_isRight 55 = .ok (.aload_n 0, 1) := by decide +kernel
theorem dX4_isRight_56 : decode cX4_isRight 56 = .ok (.iload 4, 2) := by decide +kernel
theorem dX4_isRight_58 : decode cX4_isRight 58 = .ok (.invokevirtual 367, 3) := by decide +kernel
theorem dX4_isRight_61 : decode cX4_isRight 61 = .ok (.iconst (-1), 1) := by decide +kernel
theorem dX4_isRight_62 : decode cX4_isRight 62 = .ok (.ixor, 1) := by decide +kernel
theorem dX4_isRight_63 : decode cX4_isRight 63 = .ok (.iand, 1) := by decide +kernel
theorem dX4_isRight_64 : decode cX4_isRight 64 = .ok (.ifCond .eq 5, 3) := by decide +kernel
theorem dX4_isRight_67 : decode cX4_isRight 67 = .ok (.iconst 0, 1) := by decide +kernel
theorem dX4_isRight_68 : decode cX4_isRight 68 = .ok (.ireturn, 1) := by decide +kernel
theorem dX4_isRight_69 : decode cX4_isRight 69 = .ok (.iinc 4 1, 3) := by decide +kernel
theorem dX4_isRight_72 : decode cX4_isRight 72 = .ok (.goto (-44), 3) := by decide +kernel
theorem dX4_isRight_75 : decode cX4_isRight 75 = .ok (.iconst 1, 1) := by decide +kernel
theorem dX4_isRight_76 : decode cX4_isRight 76 = .ok (.ireturn, 1) := by decide +kernel
set_option maxRecDepth 20000 in
theorem ggX4_better_X4_gravityOf : GoodIn wsX4_better wsX4_gravityOf := goodIn_r _ [5, 6, 7, 8, 9, 4, 10, 18, 19, 20, 21, 22, 23, 24, 25, 26, 27, 28, 29, 30, 31, 32, 33, 34] (by decide +kernel) (by decide +kernel)
set_option maxRecDepth 20000 in
theorem gX4_better_X4_gravityOf : GoodIn wsX4_better (wsV RX4 196 RX4 yX4_gravityOf wsX4_gravityOf) := goodIn_app (goodIn_of _ (by decide +kernel)) ggX4_better_X4_gravityOf
set_option maxRecDepth 20000 in
theorem ggX4_better_J6_bitCount_0f7a4 : GoodIn wsX4_better wsJ6_bitCount_0f7a4 := goodIn_r _ [14, 15, 16, 17] (by decide +kernel) (by decide +kernel)
set_option maxRecDepth 20000 in
theorem gX4_better_J6_bitCount_0f7a4 : GoodIn wsX4_better (va_wsS RX4 227 yJ6_bitCount_0f7a4 wsJ6_bitCount_0f7a4) := goodIn_app (goodIn_of _ (by decide +kernel)) ggX4_better_J6_bitCount_0f7a4
theorem dX4_better_0 : decode cX4_better 0 = .ok (.aload_n 0, 1) := by decide +kernel
theorem dX4_better_1 : decode cX4_better 1 = .ok (.iload_n 2, 1) := by decide +kernel
theorem dX4_better_2 : decode cX4_better 2 = .ok (.invokevirtual 196, 3) := by decide +kernel
theorem dX4_better_5 : decode cX4_better 5 = .ok (.aload_n 0, 1) := by decide +kernel
theorem dX4_better_6 : decode cX4_better 6 = .ok (.iload_n 1, 1) := by decide +kernel
theorem dX4_better_7 : decode cX4_better 7 = .ok (.invokevirtual 196, 3) := by decide +kernel
theorem dX4_better_10 : decode cX4_better 10 = .ok (.isub, 1) := by decide +kernel
theorem dX4_better_11 : decode cX4_better 11 = .ok (.istore_n 3, 1) := by decide +kernel
theorem dX4_better_12 : decode cX4_better 12 = .ok (.iload_n 3, 1) := by decide +kernel
theorem dX4_better_13 : decode cX4_better 13 = .ok (.ifCond .eq 13, 3) := by decide +kernel
theorem dX4_better_16 : decode cX4_better 16 = .ok (.iload_n 3, 1) := by decide +kernel
theorem dX4_better_17 : decode cX4_better 17 = .ok (.ifCond .le 7, 3) := by decide +kernel
theorem dX4_better_20 : decode cX4_better 20 = .ok (.iload_n 2, 1) := by decide +kernel
theorem dX4_better_21 : decode cX4_better 21 = .ok (.goto 4, 3) := by decide +kernel
theorem dX4_better_24 : decode cX4_better 24 = .ok (.iload_n 1, 1) := by decide +kernel
theorem dX4_better_25 : decode cX4_better 25 = .ok (.ireturn, 1) := by decide +kernel
theorem dX4_better_26 : decode cX4_better 26 = .ok (.iload_n 1, 1) := by decide +kernel
theorem dX4_better_27 : decode cX4_better 27 = .ok (.invokestatic 227, 3) := by decide +kernel
theorem dX4_better_30 : decode cX4_better 30 = .ok (.iload_n 2, 1) := by decide +kernel
theorem dX4_better_31 : decode cX4_better 31 = .ok (.invokestatic 227, 3) := by decide +kernel
theorem dX4_better_34 : decode cX4_better 34 = .ok (.isub, 1) := by decide +kernel
theorem dX4_better_35 : decode cX4_better 35 = .ok (.istore 4, 2) := by decide +kernel
theorem dX4_better_37 : decode cX4_better 37 = .ok (.iload 4, 2) := by decide +kernel
theorem dX4_better_39 : decode cX4_better 39 = .ok (.ifCond .eq 14, 3) := by decide +kernel
theorem dX4_better_42 : decode cX4_better 42 = .ok (.iload 4, 2) := by decide +kernel
theorem dX4_better_44 : decode cX4_better 44 = .ok (.ifCond .le 7, 3) := by decide +kernel
theorem dX4_better_47 : decode cX4_better 47 = .ok (.iload_n 2, 1) := by decide +kernel
theorem dX4_better_48 : decode cX4_better 48 = .ok (.goto 4, 3) := by decide +kernel
theorem dX4_better_51 : decode cX4_better 51 = .ok (.iload_n 1, 1) := by decide +kernel
theorem dX4_better_52 : decode cX4_better 52 = .ok (.ireturn, 1) := by decide +kernel
theorem dX4_better_53 : decode cX4_better 53 = .ok (.iload_n 2, 1) := by decide +kernel
theorem dX4_better_54 : decode cX4_better 54 = .ok (.iload_n 1, 1) := by decide +kernel
theorem dX4_better_55 : decode cX4_better 55 = .ok (.if_icmp .ge 7, 3) := by decide +kernel
theorem dX4_better_58 : decode cX4_better 58 = .ok (.iload_n 2, 1) := by decide +kernel
theorem dX4_better_59 : decode cX4_better 59 = .ok (.goto 4, 3) := by decide +kernel
theorem dX4_better_62 : decode cX4_better 62 = .ok (.iload_n 1, 1) := by decide +kernel
theorem dX4_better_63 : decode cX4_better 63 = .ok (.ireturn, 1) := by decide +kernel
set_option maxRecDepth 20000 in
theorem ggX4_bestByGrowing_X4_hasBit : GoodIn wsX4_bestByGrowing wsX4_hasBit := goodIn_r _ [5] (by decide +kernel) (by decide +kernel)
set_option maxRecDepth 20000 in
theorem gX4_bestByGrowing_X4_hasBit : GoodIn wsX4_bestByGrowing (va_wsS RX4 96 yX4_hasBit wsX4_hasBit) := goodIn_app (goodIn_of _ (by decide +kernel)) ggX4_bestByGrowing_X4_hasBit
set_option maxRecDepth 20000 in
theorem ggX4_bestByGrowing_X4_better : GoodIn wsX4_bestByGrowing wsX4_better := goodIn_r _ [9, 10, 11, 12, 4, 13, 1, 14, 2, 3, 5, 15, 16, 17, 18, 19, 20, 21, 56, 57, 58, 59, 60, 61, 62, 63, 64, 65, 66, 67, 68, 69, 70, 71, 72] (by decide +kernel) (by decide +kernel)
set_option maxRecDepth 20000 in
theorem gX4_bestByGrowing_X4_better : GoodIn wsX4_bestByGrowing (wsV RX4 370 RX4 yX4_better wsX4_better) := goodIn_app (goodIn_of _ (by decide +kernel)) ggX4_bestByGrowing_X4_better
set_option maxRecDepth 20000 in
theorem ggX4_bestByGrowing_X4_matesOf : GoodIn wsX4_bestByGrowing wsX4_matesOf := goodIn_r _ [25, 1, 26, 27, 28, 4, 29, 30, 31, 32, 33, 34, 35, 3, 5, 36, 37, 38, 39, 40, 41, 42, 43, 44, 56, 57, 58, 59, 60, 61, 62, 63, 64, 65, 66, 67, 68, 69, 70, 71, 72] (by decide +kernel) (by decide +kernel)
set_option maxRecDepth 20000 in
theorem gX4_bestByGrowing_X4_matesOf : GoodIn wsX4_bestByGrowing (wsV RX4 367 RX4 yX4_matesOf wsX4_matesOf) := goodIn_app (goodIn_of _ (by decide +kernel)) ggX4_bestByGrowing_X4_matesOf
set_option maxRecDepth 20000 in
theorem ggX4_bestByGrowing_X4_above : GoodIn wsX4_bestByGrowing wsX4_above := goodIn_r _ [47] (by decide +kernel) (by decide +kernel)
set_option maxRecDepth 20000 in
theorem gX4_bestByGrowing_X4_above : GoodIn wsX4_bestByGrowing (va_wsS RX4 373 yX4_above wsX4_above) := goodIn_app (goodIn_of _ (by decide +kernel)) ggX4_bestByGrowing_X4_above
set_option maxRecDepth 20000 in
theorem ggX4_bestByGrowing_X4_bestWithMates : GoodIn wsX4_bestByGrowing wsX4_bestWithMates := goodIn_r _ [51, 1, 2, 3, 4, 5, 6, 7, 8, 9, 10, 11, 12, 13, 14, 15, 16, 17, 18, 19, 20, 21, 22, 23, 24, 25, 26, 27, 28, 29, 30, 31, 32, 33, 34, 35, 36, 37, 38, 39, 40, 41, 42, 43, 44, 45, 46, 47, 52, 53, 54, 55, 56, 57, 58, 59, 60, 61, 62, 63, 64, 65, 66, 67, 68, 69, 70, 71, 72] (by decide +kernel) (by decide +kernel)
set_option maxRecDepth 20000 in
theorem gX4_bestByGrowing_X4_bestWithMates : GoodIn wsX4_bestByGrowing (wsV RX4 376 RX4 yX4_bestWithMates wsX4_bestWithMates) := goodIn_app (goodIn_of _ (by decide +kernel)) ggX4_bestByGrowing_X4_bestWithMates
theorem dX4_bestByGrowing_0 : decode cX4_bestByGrowing 0 = .ok (.iconst 0, 1) := by decide +kernel
theorem dX4_bestByGrowing_1 : decode cX4_bestByGrowing 1 = .ok (.istore_n 2, 1) := by decide +kernel
theorem dX4_bestByGrowing_2 : decode cX4_bestByGrowing 2 = .ok (.iconst 0, 1) := by decide +kernel
theorem dX4_bestByGrowing_3 : decode cX4_bestByGrowing 3 = .ok (.istore_n 3, 1) := by decide +kernel
theorem dX4_bestByGrowing_4 : decode cX4_bestByGrowing 4 = .ok (.iload_n 3, 1) := by decide +kernel
theorem dX4_bestByGrowing_5 : decode cX4_bestByGrowing 5 = .ok (.aload_n 0, 1) := by decide +kernel
theorem dX4_bestByGrowing_6 : decode cX4_bestByGrowing 6 = .ok (.getfield 11, 3) := by decide +kernel
theorem dX4_bestByGrowing_9 : decode cX4_bestByGrowing 9 = .ok (.arraylength, 1) := by decide +kernel
theorem dX4_bestByGrowing_10 : decode cX4_bestByGrowing 10 = .ok (.if_icmp .ge 50, 3) := by decide +kernel
theorem dX4_bestByGrowing_13 : decode cX4_bestByGrowing 13 = .ok (.iload_n 1, 1) := by decide +kernel
theorem dX4_bestByGrowing_14 : decode cX4_bestByGrowing 14 = .ok (.iload_n 3, 1) := by decide +kernel
theorem dX4_bestByGrowing_15 : decode cX4_bestByGrowing 15 = .ok (.invokestatic 96, 3) := by decide +kernel
theorem dX4_bestByGrowing_18 : decode cX4_bestByGrowing 18 = .ok (.ifCond .eq 36, 3) := by decide +kernel
theorem dX4_bestByGrowing_21 : decode cX4_bestByGrowing 21 = .ok (.iconst 1, 1) := by decide +kernel
theorem dX4_bestByGrowing_22 : decode cX4_bestByGrowing 22 = .ok (.iload_n 3, 1) := by decide +kernel
theorem dX4_bestByGrowing_23 : decode cX4_bestByGrowing 23 = .ok (.ishl, 1) := by decide +kernel
theorem dX4_bestByGrowing_24 : decode cX4_bestByGrowing 24 = .ok (.istore 4, 2) := by decide +kernel
theorem dX4_bestByGrowing_26 : decode cX4_bestByGrowing 26 = .ok (.aload_n 0, 1) := by decide +kernel
theorem dX4_bestByGrowing_27 : decode cX4_bestByGrowing 27 = .ok (.iload_n 2, 1) := by decide +kernel
theorem dX4_bestByGrowing_28 : decode cX4_bestByGrowing 28 = .ok (.iload 4, 2) := by decide +kernel
theorem dX4_bestByGrowing_30 : decode cX4_bestByGrowing 30 = .ok (.invokevirtual 370, 3) := by decide +kernel
theorem dX4_bestByGrowing_33 : decode cX4_bestByGrowing 33 = .ok (.istore_n 2, 1) := by decide +kernel
theorem dX4_bestByGrowing_34 : decode cX4_bestByGrowing 34 = .ok (.aload_n 0, 1) := by decide +kernel
theorem dX4_bestByGrowing_35 : decode cX4_bestByGrowing 35 = .ok (.iload_n 2, 1) := by decide +kernel
theorem dX4_bestByGrowing_36 : decode cX4_bestByGrowing 36 = .ok (.iload 4, 2) := by decide +kernel
theorem dX4_bestByGrowing_38 : decode cX4_bestByGrowing 38 = .ok (.iload_n 1, 1) := by decide +kernel
theorem dX4_bestByGrowing_39 : decode cX4_bestByGrowing 39 = .ok (.aload_n 0, 1) := by decide +kernel
theorem dX4_bestByGrowing_40 : decode cX4_bestByGrowing 40 = .ok (.iload_n 3, 1) := by decide +kernel
theorem dX4_bestByGrowing_41 : decode cX4_bestByGrowing 41 = .ok (.invokevirtual 367, 3) := by decide +kernel
theorem dX4_bestByGrowing_44 : decode cX4_bestByGrowing 44 = .ok (.iand, 1) := by decide +kernel
theorem dX4_bestByGrowing_45 : decode cX4_bestByGrowing 45 = .ok (.iload_n 3, 1) := by decide +kernel
theorem dX4_bestByGrowing_46 : decode cX4_bestByGrowing 46 = .ok (.invokestatic 373, 3) := by decide +kernel
theorem dX4_bestByGrowing_49 : decode cX4_bestByGrowing 49 = .ok (.iand, 1) := by decide +kernel
theorem dX4_bestByGrowing_50 : decode cX4_bestByGrowing 50 = .ok (.invokevirtual 376, 3) := by decide +kernel
theorem dX4_bestByGrowing_53 : decode cX4_bestByGrowing 53 = .ok (.istore_n 2, 1) := by decide +kernel
theorem dX4_bestByGrowing_54 : decode cX4_bestByGrowing 54 = .ok (.iinc 3 1, 3) := by decide +kernel
theorem dX4_bestByGrowing_57 : decode cX4_bestByGrowing 57 = .ok (.goto (-53), 3) := by decide +kernel
theorem dX4_bestByGrowing_60 : decode cX4_bestByGrowing 60 = .ok (.iload_n 2, 1) := by decide +kernel
theorem dX4_bestByGrowing_61 : decode cX4_bestByGrowing 61 = .ok (.ireturn, 1) := by decide +kernel
set_option maxRecDepth 20000 in
theorem ggX4_bestWithMates_X4_hasBit : GoodIn wsX4_bestWithMates wsX4_hasBit := goodIn_r _ [5] (by decide +kernel) (by decide +kernel)
set_option maxRecDepth 20000 in
theorem gX4_bestWithMates_X4_hasBit : GoodIn wsX4_bestWithMates (va_wsS RX4 96 yX4_hasBit wsX4_hasBit) := goodIn_app (goodIn_of _ (by decide +kernel)) ggX4_bestWithMates_X4_hasBit
set_option maxRecDepth 20000 in
theorem ggX4_bestWithMates_X4_better : GoodIn wsX4_bestWithMates wsX4_better := goodIn_r _ [9, 10, 11, 12, 4, 13, 1, 14, 2, 3, 5, 15, 16, 17, 18, 19, 20, 21, 52, 53, 54, 55, 56, 57, 58, 59, 60, 61, 62, 63, 64, 65, 66, 67, 68] (by decide +kernel) (by decide +kernel)
set_option maxRecDepth 20000 in
theorem gX4_bestWithMates_X4_better : GoodIn wsX4_bestWithMates (wsV RX4 370 RX4 yX4_better wsX4_better) := goodIn_app (goodIn_of _ (by decide +kernel)) ggX4_bestWithMates_X4_better
set_option maxRecDepth 20000 in
theorem ggX4_bestWithMates_X4_matesOf : GoodIn wsX4_bestWithMates wsX4_matesOf := goodIn_r _ [25, 1, 26, 27, 28, 4, 29, 30, 31, 32, 33, 34, 35, 3, 5, 36, 37, 38, 39, 40, 41, 42, 43, 44, 52, 53, 54, 55, 56, 57, 58, 59, 60, 61, 62, 63, 64, 65, 66, 67, 68] (by decide +kernel) (by decide +kernel)
set_option maxRecDepth 20000 in
theorem gX4_bestWithMates_X4_matesOf : GoodIn wsX4_bestWithMates (wsV RX4 367 RX4 yX4_matesOf wsX4_matesOf) := goodIn_app (goodIn_of _ (by decide +kernel)) ggX4_bestWithMates_X4_matesOf
set_option maxRecDepth 20000 in
theorem ggX4_bestWithMates_X4_above : GoodIn wsX4_bestWithMates wsX4_above := goodIn_r _ [47] (by decide +kernel) (by decide +kernel)
set_option maxRecDepth 20000 in
theorem gX4_bestWithMates_X4_above : GoodIn wsX4_bestWithMates (va_wsS RX4 373 yX4_above wsX4_above) := goodIn_app (goodIn_of _ (by decide +kernel)) ggX4_bestWithMates_X4_above
set_option maxRecDepth 20000 in
theorem ggX4_bestWithMates_X4_bestWithThird : GoodIn wsX4_bestWithMates wsX4_bestWithThird := goodIn_r _ [51, 1, 2, 3, 4, 5, 6, 7, 8, 9, 10, 11, 12, 13, 14, 15, 16, 17, 18, 19, 20, 21, 52, 53, 54, 55, 56, 57, 58, 59, 60, 61, 62, 63, 64, 65, 66, 67, 68] (by decide +kernel) (by decide +kernel)
set_option maxRecDepth 20000 in
theorem gX4_bestWithMates_X4_bestWithThird : GoodIn wsX4_bestWithMates (wsV RX4 380 RX4 yX4_bestWithThird wsX4_bestWithThird) := goodIn_app (goodIn_of _ (by decide +kernel)) ggX4_bestWithMates_X4_bestWithThird
theorem dX4_bestWithMates_0 : decode cX4_bestWithMates 0 = .ok (.iload_n 1, 1) := by decide +kernel
theorem dX4_bestWithMates_1 : decode cX4_bestWithMates 1 = .ok (.istore 4, 2) := by decide +kernel
theorem dX4_bestWithMates_3 : decode cX4_bestWithMates 3 = .ok (.iconst 0, 1) := by decide +kernel
theorem dX4_bestWithMates_4 : decode cX4_bestWithMates 4 = .ok (.istore 5, 2) := by decide +kernel
theorem dX4_bestWithMates_6 : decode cX4_bestWithMates 6 = .ok (.iload 5, 2) := by decide +kernel
theorem dX4_bestWithMates_8 : decode cX4_bestWithMates 8 = .ok (.aload_n 0, 1) := by decide +kernel
theorem dX4_bestWithMates_9 : decode cX4_bestWithMates 9 = .ok (.getfield 11, 3) := by decide +kernel
theorem dX4_bestWithMates_12 : decode cX4_bestWithMates 12 = .ok (.arraylength, 1) := by decide +kernel
theorem dX4_bestWithMates_13 : decode cX4_bestWithMates 13 = .ok (.if_icmp .ge 60, 3) := by decide +kernel
theorem dX4_bestWithMates_16 : decode cX4_bestWithMates 16 = .ok (.iload_n 3, 1) := by decide +kernel
theorem dX4_bestWithMates_17 : decode cX4_bestWithMates 17 = .ok (.iload 5, 2) := by decide +kernel
theorem dX4_bestWithMates_19 : decode cX4_bestWithMates 19 = .ok (.invokestatic 96, 3) := by decide +kernel
theorem dX4_bestWithMates_22 : decode cX4_bestWithMates 22 = .ok (.ifCond .eq 45, 3) := by decide +kernel
theorem dX4_bestWithMates_25 : decode cX4_bestWithMates 25 = .ok (.iload_n 2, 1) := by decide +kernel
theorem dX4_bestWithMates_26 : decode cX4_bestWithMates 26 = .ok (.iconst 1, 1) := by decide +kernel
theorem dX4_bestWithMates_27 : decode cX4_bestWithMates 27 = .ok (.iload 5, 2) := by decide +kernel
theorem dX4_bestWithMates_29 : decode cX4_bestWithMates 29 = .ok (.ishl, 1) := by decide +kernel
theorem dX4_bestWithMates_30 : decode cX4_bestWithMates 30 = .ok (.ior, 1) := by decide +kernel
theorem dX4_bestWithMates_31 : decode cX4_bestWithMates 31 = .ok (.istore 6, 2) := by decide +kernel
theorem dX4_bestWithMates_33 : decode cX4_bestWithMates 33 = .ok (.aload_n 0, 1) := by decide +kernel
theorem dX4_bestWithMates_34 : decode cX4_bestWithMates 34 = .ok (.iload 4, 2) := by decide +kernel
theorem dX4_bestWithMates_36 : decode cX4_bestWithMates 36 = .ok (.iload 6, 2) := by decide +kernel
theorem dX4_bestWithMates_38 : decode cX4_bestWithMates 38 = .ok (.invokevirtual 370, 3) := by decide +kernel
theorem dX4_bestWithMates_41 : decode cX4_bestWithMates 41 = .ok (.istore 4, 2) := by decide +kernel
theorem dX4_bestWithMates_43 : decode cX4_bestWithMates 43 = .ok (.aload_n 0, 1) := by decide +kernel
theorem dX4_bestWithMates_44 : decode cX4_bestWithMates 44 = .ok (.iload 4, 2) := by decide +kernel
theorem dX4_bestWithMates_46 : decode cX4_bestWithMates 46 = .ok (.iload 6, 2) := by decide +kernel
theorem dX4_bestWithMates_48 : decode cX4_bestWithMates 48 = .ok (.iload_n 3, 1) := by decide +kernel
theorem dX4_bestWithMates_49 : decode cX4_bestWithMates 49 = .ok (.aload_n 0, 1) := by decide +kernel
theorem dX4_bestWithMates_50 : decode cX4_bestWithMates 50 = .ok (.iload 5, 2) := by decide +kernel
theorem dX4_bestWithMates_52 : decode cX4_bestWithMates 52 = .ok (.invokevirtual 367, 3) := by decide +kernel
theorem dX4_bestWithMates_55 : decode cX4_bestWithMates 55 = .ok (.iand, 1) := by decide +kernel
theorem dX4_bestWithMates_56 : decode cX4_bestWithMates 56 = .ok (.iload 5, 2) := by decide +kernel
theorem dX4_bestWithMates_58 : decode cX4_bestWithMates 58 = .ok (.invokestatic 373, 3) := by decide +kernel
theorem dX4_bestWithMates_61 : decode cX4_bestWithMates 61 = .ok (.iand, 1) := by decide +kernel
theorem dX4_bestWithMates_62 : decode cX4_bestWithMates 62 = .ok (.invokevirtual 380, 3) := by decide +kernel
theorem dX4_bestWithMates_65 : decode cX4_bestWithMates 65 = .ok (.istore 4, 2) := by decide +kernel
theorem dX4_bestWithMates_67 : decode cX4_bestWithMates 67 = .ok (.iinc 5 1, 3) := by decide +kernel
theorem dX4_bestWithMates_70 : decode cX4_bestWithMates 70 = .ok (.goto (-64), 3) := by decide +kernel
theorem dX4_bestWithMates_73 : decode cX4_bestWithMates 73 = .ok (.iload 4, 2) := by decide +kernel
theorem dX4_bestWithMates_75 : decode cX4_bestWithMates 75 = .ok (.ireturn, 1) := by decide +kernel
set_option maxRecDepth 20000 in
theorem ggX4_bestWithThird_X4_hasBit : GoodIn wsX4_bestWithThird wsX4_hasBit := goodIn_r _ [5] (by decide +kernel) (by decide +kernel)
set_option maxRecDepth 20000 in
theorem gX4_bestWithThird_X4_hasBit : GoodIn wsX4_bestWithThird (va_wsS RX4 96 yX4_hasBit wsX4_hasBit) := goodIn_app (goodIn_of _ (by decide +kernel)) ggX4_bestWithThird_X4_hasBit
set_option maxRecDepth 20000 in
theorem ggX4_bestWithThird_X4_better : GoodIn wsX4_bestWithThird wsX4_better := goodIn_r _ [9, 10, 11, 12, 4, 13, 1, 14, 2, 3, 5, 15, 16, 17, 18, 19, 20, 21, 22, 23, 24, 25, 26, 27, 28, 29, 30, 31, 32, 33, 34, 35, 36, 37, 38] (by decide +kernel) (by decide +kernel)
set_option maxRecDepth 20000 in
theorem gX4_bestWithThird_X4_better : GoodIn wsX4_bestWithThird (wsV RX4 370 RX4 yX4_better wsX4_better) := goodIn_app (goodIn_of _ (by decide +kernel)) ggX4_bestWithThird_X4_better
theorem dX4_bestWithThird_0 : decode cX4_bestWithThird 0 = .ok (.iload_n 1, 1) := by decide +kernel
theorem dX4_bestWithThird_1 : decode cX4_bestWithThird 1 = .ok (.istore 4, 2) := by decide +kernel
theorem dX4_bestWithThird_3 : decode cX4_bestWithThird 3 = .ok (.iconst 0, 1) := by decide +kernel
theorem dX4_bestWithThird_4 : decode cX4_bestWithThird 4 = .ok (.istore 5, 2) := by decide +kernel
theorem dX4_bestWithThird_6 : decode cX4_bestWithThird 6 = .ok (.iload 5, 2) := by decide +kernel
theorem dX4_bestWithThird_8 : decode cX4_bestWithThird 8 = .ok (.aload_n 0, 1) := by decide +kernel
theorem dX4_bestWithThird_9 : decode cX4_bestWithThird 9 = .ok (.getfield 11, 3) := by decide +kernel
theorem dX4_bestWithThird_12 : decode cX4_bestWithThird 12 = .ok (.arraylength, 1) := by decide +kernel
theorem dX4_bestWithThird_13 : decode cX4_bestWithThird 13 = .ok (.if_icmp .ge 32, 3) := by decide +kernel
theorem dX4_bestWithThird_16 : decode cX4_bestWithThird 16 = .ok (.iload_n 3, 1) := by decide +kernel
theorem dX4_bestWithThird_17 : decode cX4_bestWithThird 17 = .ok (.iload 5, 2) := by decide +kernel
theorem dX4_bestWithThird_19 : decode cX4_bestWithThird 19 = .ok (.invokestatic 96, 3) := by decide +kernel
theorem dX4_bestWithThird_22 : decode cX4_bestWithThird 22 = .ok (.ifCond .eq 17, 3) := by decide +kernel
theorem dX4_bestWithThird_25 : decode cX4_bestWithThird 25 = .ok (.aload_n 0, 1) := by decide +kernel
theorem dX4_bestWithThird_26 : decode cX4_bestWithThird 26 = .ok (.iload 4, 2) := by decide +kernel
theorem dX4_bestWithThird_28 : decode cX4_bestWithThird 28 = .ok (.iload_n 2, 1) := by decide +kernel
theorem dX4_bestWithThird_29 : decode cX4_bestWithThird 29 = .ok (.iconst 1, 1) := by decide +kernel
theorem dX4_bestWithThird_30 : decode cX4_bestWithThird 30 = .ok (.iload 5, 2) := by decide +kernel
theorem dX4_bestWithThird_32 : decode cX4_bestWithThird 32 = .ok (.ishl, 1) := by decide +kernel
theorem dX4_bestWithThird_33 : decode cX4_bestWithThird 33 = .ok (.ior, 1) := by decide +kernel
theorem dX4_bestWithThird_34 : decode cX4_bestWithThird 34 = .ok (.invokevirtual 370, 3) := by decide +kernel
theorem dX4_bestWithThird_37 : decode cX4_bestWithThird 37 = .ok (.istore 4, 2) := by decide +kernel
theorem dX4_bestWithThird_39 : decode cX4_bestWithThird 39 = .ok (.iinc 5 1, 3) := by decide +kernel
theorem dX4_bestWithThird_42 : decode cX4_bestWithThird 42 = .ok (.goto (-36), 3) := by decide +kernel
theorem dX4_bestWithThird_45 : decode cX4_bestWithThird 45 = .ok (.iload 4, 2) := by decide +kernel
theorem dX4_bestWithThird_47 : decode cX4_bestWithThird 47 = .ok (.ireturn, 1) := by decide +kernel
set_option maxRecDepth 20000 in
theorem ggX4_bestOfAllSets_X4_isRight : GoodIn wsX4_bestOfAllSets wsX4_isRight := goodIn_r _ [5, 6, 7, 8, 9, 10, 11, 12, 13, 14, 15, 4, 16, 17, 18, 19, 20, 21, 22, 23, 24, 25, 26, 27, 28, 29, 30, 31, 32, 33, 34, 35, 36, 37, 38, 39, 49, 50, 51, 52, 53, 54, 55, 56, 57, 58, 59, 60, 61, 62, 63, 64, 65] (by decide +kernel) (by decide +kernel)
set_option maxRecDepth 20000 in
theorem gX4_bestOfAllSets_X4_isRight : GoodIn wsX4_bestOfAllSets (wsV RX4 185 RX4 yX4_isRight wsX4_isRight) := goodIn_app (goodIn_of _ (by decide +kernel)) ggX4_bestOfAllSets_X4_isRight
set_option maxRecDepth 20000 in
theorem ggX4_bestOfAllSets_X4_better : GoodIn wsX4_bestOfAllSets wsX4_better := goodIn_r _ [43, 44, 45, 46, 4, 47, 6, 48, 14, 15, 16, 7, 8, 9, 10, 11, 12, 13, 49, 50, 51, 52, 53, 54, 55, 56, 57, 58, 59, 60, 61, 62, 63, 64, 65] (by decide +kernel) (by decide +kernel)
set_option maxRecDepth 20000 in
theorem gX4_bestOfAllSets_X4_better : GoodIn wsX4_bestOfAllSets (wsV RX4 370 RX4 yX4_better wsX4_better) := goodIn_app (goodIn_of _ (by decide +kernel)) ggX4_bestOfAllSets_X4_better
theorem dX4_bestOfAllSets_0 : decode cX4_bestOfAllSets 0 = .ok (.iconst 0, 1) := by decide +kernel
theorem dX4_bestOfAllSets_1 : decode cX4_bestOfAllSets 1 = .ok (.istore_n 2, 1) := by decide +kernel
theorem dX4_bestOfAllSets_2 : decode cX4_bestOfAllSets 2 = .ok (.iconst 1, 1) := by decide +kernel
theorem dX4_bestOfAllSets_3 : decode cX4_bestOfAllSets 3 = .ok (.istore_n 3, 1) := by decide +kernel
theorem dX4_bestOfAllSets_4 : decode cX4_bestOfAllSets 4 = .ok (.iload_n 3, 1) := by decide +kernel
theorem dX4_bestOfAllSets_5 : decode cX4_bestOfAllSets 5 = .ok (.sipush 256, 3) := by decide +kernel
theorem dX4_bestOfAllSets_8 : decode cX4_bestOfAllSets 8 = .ok (.if_icmp .ge 25, 3) := by decide +kernel
theorem dX4_bestOfAllSets_11 : decode cX4_bestOfAllSets 11 = .ok (.aload_n 0, 1) := by decide +kernel
theorem dX4_bestOfAllSets_12 : decode cX4_bestOfAllSets 12 = .ok (.iload_n 3, 1) := by decide +kernel
theorem dX4_bestOfAllSets_13 : decode cX4_bestOfAllSets 13 = .ok (.iload_n 1, 1) := by decide +kernel
theorem dX4_bestOfAllSets_14 : decode cX4_bestOfAllSets 14 = .ok (.invokevirtual 185, 3) := by decide +kernel
theorem dX4_bestOfAllSets_17 : decode cX4_bestOfAllSets 17 = .ok (.ifCond .eq 10, 3) := by decide +kernel
theorem dX4_bestOfAllSets_20 : decode cX4_bestOfAllSets 20 = .ok (.aload_n 0, 1) := by decide +kernel
theorem dX4_bestOfAllSets_21 : decode cX4_bestOfAllSets 21 = .ok (.iload_n 2, 1) := by decide +kernel
theorem dX4_bestOfAllSets_22 : decode cX4_bestOfAllSets 22 = .ok (.iload_n 3, 1) := by decide +kernel
theorem dX4_bestOfAllSets_23 : decode cX4_bestOfAllSets 23 = .ok (.invokevirtual 370, 3) := by decide +kernel
theorem dX4_bestOfAllSets_26 : decode cX4_bestOfAllSets 26 = .ok (.istore_n 2, 1) := by decide +kernel
theorem dX4_bestOfAllSets_27 : decode cX4_bestOfAllSets 27 = .ok (.iinc 3 1, 3) := by decide +kernel
theorem dX4_bestOfAllSets_30 : decode cX4_bestOfAllSets 30 = .ok (.goto (-26), 3) := by decide +kernel
theorem dX4_bestOfAllSets_33 : decode cX4_bestOfAllSets 33 = .ok (.iload_n 2, 1) := by decide +kernel
theorem dX4_bestOfAllSets_34 : decode cX4_bestOfAllSets 34 = .ok (.ireturn, 1) := by decide +kernel
set_option maxRecDepth 20000 in
theorem ggX4_lackedBy_X2_isLackedBy : GoodIn wsX4_lackedBy wsX2_isLackedBy := goodIn_r _ [7, 8, 9, 10, 11, 12, 6, 13, 14, 15, 16, 17, 18, 19, 20, 21, 22, 36, 37, 38, 39, 40, 41, 42, 43, 44, 45] (by decide +kernel) (by decide +kernel)
set_option maxRecDepth 20000 in
theorem gX4_lackedBy_X2_isLackedBy : GoodIn wsX4_lackedBy (wsV RX4 383 RX2 yX2_isLackedBy wsX2_isLackedBy) := goodIn_app (goodIn_of _ (by decide +kernel)) ggX4_lackedBy_X2_isLackedBy
theorem dX4_lackedBy_0 : decode cX4_lackedBy 0 = .ok (.iconst 0, 1) := by decide +kernel
theorem dX4_lackedBy_1 : decode cX4_lackedBy 1 = .ok (.istore_n 3, 1) := by decide +kernel
theorem dX4_lackedBy_2 : decode cX4_lackedBy 2 = .ok (.aload_n 0, 1) := by decide +kernel
theorem dX4_lackedBy_3 : decode cX4_lackedBy 3 = .ok (.getfield 23, 3) := by decide +kernel
theorem dX4_lackedBy_6 : decode cX4_lackedBy 6 = .ok (.astore 4, 2) := by decide +kernel
theorem dX4_lackedBy_8 : decode cX4_lackedBy 8 = .ok (.aload 4, 2) := by decide +kernel
theorem dX4_lackedBy_10 : decode cX4_lackedBy 10 = .ok (.arraylength, 1) := by decide +kernel
theorem dX4_lackedBy_11 : decode cX4_lackedBy 11 = .ok (.istore 5, 2) := by decide +kernel
theorem dX4_lackedBy_13 : decode cX4_lackedBy 13 = .ok (.iconst 0, 1) := by decide +kernel
theorem dX4_lackedBy_14 : decode cX4_lackedBy 14 = .ok (.istore 6, 2) := by decide +kernel
theorem dX4_lackedBy_16 : decode cX4_lackedBy 16 = .ok (.iload 6, 2) := by decide +kernel
theorem dX4_lackedBy_18 : decode cX4_lackedBy 18 = .ok (.iload 5, 2) := by decide +kernel
theorem dX4_lackedBy_20 : decode cX4_lackedBy 20 = .ok (.if_icmp .ge 42, 3) := by decide +kernel
theorem dX4_lackedBy_23 : decode cX4_lackedBy 23 = .ok (.aload 4, 2) := by decide +kernel
theorem dX4_lackedBy_25 : decode cX4_lackedBy 25 = .ok (.iload 6, 2) := by decide +kernel
theorem dX4_lackedBy_27 : decode cX4_lackedBy 27 = .ok (.aaload, 1) := by decide +kernel
theorem dX4_lackedBy_28 : decode cX4_lackedBy 28 = .ok (.astore 7, 2) := by decide +kernel
theorem dX4_lackedBy_30 : decode cX4_lackedBy 30 = .ok (.aload 7, 2) := by decide +kernel
theorem dX4_lackedBy_32 : decode cX4_lackedBy 32 = .ok (.ifnull 24, 3) := by decide +kernel
theorem dX4_lackedBy_35 : decode cX4_lackedBy 35 = .ok (.aload 7, 2) := by decide +kernel
theorem dX4_lackedBy_37 : decode cX4_lackedBy 37 = .ok (.getfield 154, 3) := by decide +kernel
theorem dX4_lackedBy_40 : decode cX4_lackedBy 40 = .ok (.iload_n 1, 1) := by decide +kernel
theorem dX4_lackedBy_41 : decode cX4_lackedBy 41 = .ok (.if_icmp .ne 15, 3) := by decide +kernel
theorem dX4_lackedBy_44 : decode cX4_lackedBy 44 = .ok (.aload 7, 2) := by decide +kernel
theorem dX4_lackedBy_46 : decode cX4_lackedBy 46 = .ok (.iload_n 2, 1) := by decide +kernel
theorem dX4_lackedBy_47 : decode cX4_lackedBy 47 = .ok (.invokevirtual 383, 3) := by decide +kernel
theorem dX4_lackedBy_50 : decode cX4_lackedBy 50 = .ok (.ifCond .eq 6, 3) := by decide +kernel
theorem dX4_lackedBy_53 : decode cX4_lackedBy 53 = .ok (.iinc 3 1, 3) := by decide +kernel
theorem dX4_lackedBy_56 : decode cX4_lackedBy 56 = .ok (.iinc 6 1, 3) := by decide +kernel
theorem dX4_lackedBy_59 : decode cX4_lackedBy 59 = .ok (.goto (-43), 3) := by decide +kernel
theorem dX4_lackedBy_62 : decode cX4_lackedBy 62 = .ok (.iload_n 3, 1) := by decide +kernel
theorem dX4_lackedBy_63 : decode cX4_lackedBy 63 = .ok (.ireturn, 1) := by decide +kernel
theorem dX4_discountAfter_0 : decode cX4_discountAfter 0 = .ok (.iload_n 0, 1) := by decide +kernel
theorem dX4_discountAfter_1 : decode cX4_discountAfter 1 = .ok (.bipush 10, 2) := by decide +kernel
theorem dX4_discountAfter_3 : decode cX4_discountAfter 3 = .ok (.if_icmp .gt 6, 3) := by decide +kernel
theorem dX4_discountAfter_6 : decode cX4_discountAfter 6 = .ok (.bipush 33, 2) := by decide +kernel
theorem dX4_discountAfter_8 : decode cX4_discountAfter 8 = .ok (.ireturn, 1) := by decide +kernel
theorem dX4_discountAfter_9 : decode cX4_discountAfter 9 = .ok (.iload_n 0, 1) := by decide +kernel
theorem dX4_discountAfter_10 : decode cX4_discountAfter 10 = .ok (.bipush 30, 2) := by decide +kernel
theorem dX4_discountAfter_12 : decode cX4_discountAfter 12 = .ok (.if_icmp .gt 8, 3) := by decide +kernel
theorem dX4_discountAfter_15 : decode cX4_discountAfter 15 = .ok (.bipush 25, 2) := by decide +kernel
theorem dX4_discountAfter_17 : decode cX4_discountAfter 17 = .ok (.goto 5, 3) := by decide +kernel
theorem dX4_discountAfter_20 : decode cX4_discountAfter 20 = .ok (.bipush 10, 2) := by decide +kernel
theorem dX4_discountAfter_22 : decode cX4_discountAfter 22 = .ok (.ireturn, 1) := by decide +kernel
theorem dJ6_bitCount_0f7a4_0 : decode cJ6_bitCount_0f7a4 0 = .ok (.iload_n 0, 1) := by decide +kernel
theorem dJ6_bitCount_0f7a4_1 : decode cJ6_bitCount_0f7a4 1 = .ok (.iload_n 0, 1) := by decide +kernel
theorem dJ6_bitCount_0f7a4_2 : decode cJ6_bitCount_0f7a4 2 = .ok (.iconst 1, 1) := by decide +kernel
theorem dJ6_bitCount_0f7a4_3 : decode cJ6_bitCount_0f7a4 3 = .ok (.iushr, 1) := by decide +kernel
theorem dJ6_bitCount_0f7a4_4 : decode cJ6_bitCount_0f7a4 4 = .ok (.ldc_w 265, 3) := by decide +kernel
theorem dJ6_bitCount_0f7a4_7 : decode cJ6_bitCount_0f7a4 7 = .ok (.iand, 1) := by decide +kernel
theorem dJ6_bitCount_0f7a4_8 : decode cJ6_bitCount_0f7a4 8 = .ok (.isub, 1) := by decide +kernel
theorem dJ6_bitCount_0f7a4_9 : decode cJ6_bitCount_0f7a4 9 = .ok (.istore_n 0, 1) := by decide +kernel
theorem dJ6_bitCount_0f7a4_10 : decode cJ6_bitCount_0f7a4 10 = .ok (.iload_n 0, 1) := by decide +kernel
theorem dJ6_bitCount_0f7a4_11 : decode cJ6_bitCount_0f7a4 11 = .ok (.ldc_w 266, 3) := by decide +kernel
theorem dJ6_bitCount_0f7a4_14 : decode cJ6_bitCount_0f7a4 14 = .ok (.iand, 1) := by decide +kernel
theorem dJ6_bitCount_0f7a4_15 : decode cJ6_bitCount_0f7a4 15 = .ok (.iload_n 0, 1) := by decide +kernel
theorem dJ6_bitCount_0f7a4_16 : decode cJ6_bitCount_0f7a4 16 = .ok (.iconst 2, 1) := by decide +kernel
theorem dJ6_bitCount_0f7a4_17 : decode cJ6_bitCount_0f7a4 17 = .ok (.iushr, 1) := by decide +kernel
theorem dJ6_bitCount_0f7a4_18 : decode cJ6_bitCount_0f7a4 18 = .ok (.ldc_w 266, 3) := by decide +kernel
theorem dJ6_bitCount_0f7a4_21 : decode cJ6_bitCount_0f7a4 21 = .ok (.iand, 1) := by decide +kernel
theorem dJ6_bitCount_0f7a4_22 : decode cJ6_bitCount_0f7a4 22 = .ok (.iadd, 1) := by decide +kernel
theorem dJ6_bitCount_0f7a4_23 : decode cJ6_bitCount_0f7a4 23 = .ok (.istore_n 0, 1) := by decide +kernel
theorem dJ6_bitCount_0f7a4_24 : decode cJ6_bitCount_0f7a4 24 = .ok (.iload_n 0, 1) := by decide +kernel
theorem dJ6_bitCount_0f7a4_25 : decode cJ6_bitCount_0f7a4 25 = .ok (.iload_n 0, 1) := by decide +kernel
theorem dJ6_bitCount_0f7a4_26 : decode cJ6_bitCount_0f7a4 26 = .ok (.iconst 4, 1) := by decide +kernel
theorem dJ6_bitCount_0f7a4_27 : decode cJ6_bitCount_0f7a4 27 = .ok (.iushr, 1) := by decide +kernel
theorem dJ6_bitCount_0f7a4_28 : decode cJ6_bitCount_0f7a4 28 = .ok (.iadd, 1) := by decide +kernel
theorem dJ6_bitCount_0f7a4_29 : decode cJ6_bitCount_0f7a4 29 = .ok (.ldc_w 267, 3) := by decide +kernel
theorem dJ6_bitCount_0f7a4_32 : decode cJ6_bitCount_0f7a4 32 = .ok (.iand, 1) := by decide +kernel
theorem dJ6_bitCount_0f7a4_33 : decode cJ6_bitCount_0f7a4 33 = .ok (.istore_n 0, 1) := by decide +kernel
theorem dJ6_bitCount_0f7a4_34 : decode cJ6_bitCount_0f7a4 34 = .ok (.iload_n 0, 1) := by decide +kernel
theorem dJ6_bitCount_0f7a4_35 : decode cJ6_bitCount_0f7a4 35 = .ok (.iload_n 0, 1) := by decide +kernel
theorem dJ6_bitCount_0f7a4_36 : decode cJ6_bitCount_0f7a4 36 = .ok (.bipush 8, 2) := by decide +kernel
theorem dJ6_bitCount_0f7a4_38 : decode cJ6_bitCount_0f7a4 38 = .ok (.iushr, 1) := by decide +kernel
theorem dJ6_bitCount_0f7a4_39 : decode cJ6_bitCount_0f7a4 39 = .ok (.iadd, 1) := by decide +kernel
theorem dJ6_bitCount_0f7a4_40 : decode cJ6_bitCount_0f7a4 40 = .ok (.istore_n 0, 1) := by decide +kernel
theorem dJ6_bitCount_0f7a4_41 : decode cJ6_bitCount_0f7a4 41 = .ok (.iload_n 0, 1) := by decide +kernel
theorem dJ6_bitCount_0f7a4_42 : decode cJ6_bitCount_0f7a4 42 = .ok (.iload_n 0, 1) := by decide +kernel
theorem dJ6_bitCount_0f7a4_43 : decode cJ6_bitCount_0f7a4 43 = .ok (.bipush 16, 2) := by decide +kernel
theorem dJ6_bitCount_0f7a4_45 : decode cJ6_bitCount_0f7a4 45 = .ok (.iushr, 1) := by decide +kernel
theorem dJ6_bitCount_0f7a4_46 : decode cJ6_bitCount_0f7a4 46 = .ok (.iadd, 1) := by decide +kernel
theorem dJ6_bitCount_0f7a4_47 : decode cJ6_bitCount_0f7a4 47 = .ok (.istore_n 0, 1) := by decide +kernel
theorem dJ6_bitCount_0f7a4_48 : decode cJ6_bitCount_0f7a4 48 = .ok (.iload_n 0, 1) := by decide +kernel
theorem dJ6_bitCount_0f7a4_49 : decode cJ6_bitCount_0f7a4 49 = .ok (.bipush 63, 2) := by decide +kernel
theorem dJ6_bitCount_0f7a4_51 : decode cJ6_bitCount_0f7a4 51 = .ok (.iand, 1) := by decide +kernel
theorem dJ6_bitCount_0f7a4_52 : decode cJ6_bitCount_0f7a4 52 = .ok (.ireturn, 1) := by decide +kernel
theorem dJ9_min_7cf53_0 : decode cJ9_min_7cf53 0 = .ok (.iload_n 0, 1) := by decide +kernel
theorem dJ9_min_7cf53_1 : decode cJ9_min_7cf53 1 = .ok (.iload_n 1, 1) := by decide +kernel
theorem dJ9_min_7cf53_2 : decode cJ9_min_7cf53 2 = .ok (.if_icmp .gt 7, 3) := by decide +kernel
theorem dJ9_min_7cf53_5 : decode cJ9_min_7cf53 5 = .ok (.iload_n 0, 1) := by decide +kernel
theorem dJ9_min_7cf53_6 : decode cJ9_min_7cf53 6 = .ok (.goto 4, 3) := by decide +kernel
theorem dJ9_min_7cf53_9 : decode cJ9_min_7cf53 9 = .ok (.iload_n 1, 1) := by decide +kernel
theorem dJ9_min_7cf53_10 : decode cJ9_min_7cf53 10 = .ok (.ireturn, 1) := by decide +kernel
set_option maxRecDepth 20000 in
theorem ggL_offence_X4_offence : GoodIn wsL_offence wsX4_offence := goodIn_ca (goodIn_ca (goodIn_r _ [8, 9, 10, 11, 12, 13, 14, 15, 16, 17, 18, 19, 7, 20, 21, 22, 23, 24, 25, 26, 27, 28, 29, 30, 31, 32, 33, 34, 35, 36, 37, 38, 39, 40, 41, 42, 43, 44, 45, 46] (by decide +kernel) (by decide +kernel)) (goodIn_sub (fun _ h => List.mem_cons_of_mem _ (List.mem_append_left _ (List.mem_append_right _ h))) (by decide +kernel))) (goodIn_sub (fun _ h => List.mem_cons_of_mem _ (List.mem_append_right _ h)) (by decide +kernel))
set_option maxRecDepth 20000 in
theorem gL_offence_X4_offence : GoodIn wsL_offence (wsV RL 7 RX4 yX4_offence wsX4_offence) := goodIn_app (goodIn_of _ (by decide +kernel)) ggL_offence_X4_offence
end
section
theorem dL_offence_0 : decode cL_offence 0 = .ok (.aload_n 0, 1) := by decide +kernel
theorem dL_offence_1 : decode cL_offence 1 = .ok (.iload_n 1, 1) := by decide +kernel
theorem dL_offence_2 : decode cL_offence 2 = .ok (.iload_n 2, 1) := by decide +kernel
theorem dL_offence_3 : decode cL_offence 3 = .ok (.iload_n 3, 1) := by decide +kernel
theorem dL_offence_4 : decode cL_offence 4 = .ok (.invokevirtual 7, 3) := by decide +kernel
theorem dL_offence_7 : decode cL_offence 7 = .ok (.ireturn, 1) := by decide +kernel
theorem dL_offence_8 : decode cL_offence 8 = .ok (.astore 4, 2) := by decide +kernel
theorem dL_offence_10 : decode cL_offence 10 = .ok (.ldc 15, 2) := by decide +kernel
theorem dL_offence_12 : decode cL_offence 12 = .ok (.ireturn, 1) := by decide +kernel
theorem dL_offence_13 : decode cL_offence 13 = .ok (.astore 4, 2) := by decide +kernel
theorem dL_offence_15 : decode cL_offence 15 = .ok (.ldc 18, 2) := by decide +kernel
theorem dL_offence_17 : decode cL_offence 17 = .ok (.ireturn, 1) := by decide +kernel
set_option maxRecDepth 20000 in
theorem ggL_exclude_X4_exclude : GoodIn wsL_exclude wsX4_exclude := goodIn_ca (goodIn_ca (goodIn_r _ [8, 9, 10, 11, 12, 13, 14, 15, 16, 7, 17, 18, 19, 20, 21, 22, 23, 24, 25, 26, 27, 28, 29, 30, 31, 32, 33, 34, 35, 36, 37, 38, 39, 40, 41, 42, 43] (by decide +kernel) (by decide +kernel)) (goodIn_sub (fun _ h => List.mem_cons_of_mem _ (List.mem_append_left _ (List.mem_append_right _ h))) (by decide +kernel))) (goodIn_sub (fun _ h => List.mem_cons_of_mem _ (List.mem_append_right _ h)) (by decide +kernel))
set_option maxRecDepth 20000 in
theorem gL_exclude_X4_exclude : GoodIn wsL_exclude (wsV RL 19 RX4 yX4_exclude wsX4_exclude) := goodIn_app (goodIn_of _ (by decide +kernel)) ggL_exclude_X4_exclude
theorem dL_exclude_0 : decode cL_exclude 0 = .ok (.aload_n 0, 1) := by decide +kernel
theorem dL_exclude_1 : decode cL_exclude 1 = .ok (.iload_n 1, 1) := by decide +kernel
theorem dL_exclude_2 : decode cL_exclude 2 = .ok (.iload_n 2, 1) := by decide +kernel
theorem dL_exclude_3 : decode cL_exclude 3 = .ok (.invokevirtual 19, 3) := by decide +kernel
theorem dL_exclude_6 : decode cL_exclude 6 = .ok (.ifCond .eq 7, 3) := by decide +kernel
theorem dL_exclude_9 : decode cL_exclude 9 = .ok (.iconst 1, 1) := by decide +kernel
theorem dL_exclude_10 : decode cL_exclude 10 = .ok (.goto 4, 3) := by decide +kernel
theorem dL_exclude_13 : decode cL_exclude 13 = .ok (.iconst 0, 1) := by decide +kernel
theorem dL_exclude_14 : decode cL_exclude 14 = .ok (.ireturn, 1) := by decide +kernel
theorem dL_exclude_15 : decode cL_exclude 15 = .ok (.astore_n 3, 1) := by decide +kernel
theorem dL_exclude_16 : decode cL_exclude 16 = .ok (.ldc 25, 2) := by decide +kernel
theorem dL_exclude_18 : decode cL_exclude 18 = .ok (.ireturn, 1) := by decide +kernel
theorem dL_exclude_19 : decode cL_exclude 19 = .ok (.astore_n 3, 1) := by decide +kernel
theorem dL_exclude_20 : decode cL_exclude 20 = .ok (.ldc 15, 2) := by decide +kernel
theorem dL_exclude_22 : decode cL_exclude 22 = .ok (.ireturn, 1) := by decide +kernel
set_option maxRecDepth 20000 in
theorem ggL_pass_X4_pass : GoodIn wsL_pass wsX4_pass := goodIn_ca (goodIn_ca (goodIn_r _ [8, 9, 10, 11, 12, 13, 14, 15, 16, 17, 7, 18, 19, 20, 21, 22, 23, 24, 25, 26, 27, 28, 29, 30, 31, 32, 33, 34, 35, 36, 37, 38, 39, 40, 41, 42, 43, 44, 45, 46, 47, 48, 49, 50, 51, 52, 53, 54, 55, 56, 57, 58, 59, 60, 61, 62, 63, 64, 65, 66, 67, 68, 69, 70, 71, 72, 73, 74, 75, 76, 77, 78, 79, 80, 81] (by decide +kernel) (by decide +kernel)) (goodIn_sub (fun _ h => List.mem_cons_of_mem _ (List.mem_append_left _ (List.mem_append_right _ h))) (by decide +kernel))) (goodIn_sub (fun _ h => List.mem_cons_of_mem _ (List.mem_append_right _ h)) (by decide +kernel))
set_option maxRecDepth 20000 in
theorem gL_pass_X4_pass : GoodIn wsL_pass (wsV RL 26 RX4 yX4_pass wsX4_pass) := goodIn_app (goodIn_of _ (by decide +kernel)) ggL_pass_X4_pass
theorem dL_pass_0 : decode cL_pass 0 = .ok (.aload_n 0, 1) := by decide +kernel
theorem dL_pass_1 : decode cL_pass 1 = .ok (.iload_n 1, 1) := by decide +kernel
theorem dL_pass_2 : decode cL_pass 2 = .ok (.invokevirtual 26, 3) := by decide +kernel
theorem dL_pass_5 : decode cL_pass 5 = .ok (.ireturn, 1) := by decide +kernel
theorem dL_pass_6 : decode cL_pass 6 = .ok (.astore_n 2, 1) := by decide +kernel
theorem dL_pass_7 : decode cL_pass 7 = .ok (.ldc 15, 2) := by decide +kernel
theorem dL_pass_9 : decode cL_pass 9 = .ok (.ireturn, 1) := by decide +kernel
theorem dL_pass_10 : decode cL_pass 10 = .ok (.astore_n 2, 1) := by decide +kernel
theorem dL_pass_11 : decode cL_pass 11 = .ok (.ldc 18, 2) := by decide +kernel
theorem dL_pass_13 : decode cL_pass 13 = .ok (.ireturn, 1) := by decide +kernel
set_option maxRecDepth 20000 in
theorem ggL_file_X4_file : GoodIn wsL_file wsX4_file := goodIn_ca (goodIn_ca (goodIn_r _ [8, 9, 10, 11, 12, 13, 14, 15, 16, 17, 18, 19, 20, 21, 22, 23, 24, 25, 7, 26, 27, 28, 29, 30, 31, 32, 33, 34, 35, 36, 37, 38, 39, 40, 41, 42, 43, 44, 45, 46, 47, 48, 49, 50, 51, 52, 53, 54, 55, 56, 57, 58, 59, 60, 61, 62, 63, 64, 65, 66, 67, 68, 69, 70, 71, 72, 73, 74, 75, 76, 77, 78, 79, 80, 81, 82] (by decide +kernel) (by decide +kernel)) (goodIn_sub (fun _ h => List.mem_cons_of_mem _ (List.mem_append_left _ (List.mem_append_right _ h))) (by decide +kernel))) (goodIn_sub (fun _ h => List.mem_cons_of_mem _ (List.mem_append_right _ h)) (by decide +kernel))
set_option maxRecDepth 20000 in
theorem gL_file_X4_file : GoodIn wsL_file (wsV RL 30 RX4 yX4_file wsX4_file) := goodIn_app (goodIn_of _ (by decide +kernel)) ggL_file_X4_file
theorem dL_file_0 : decode cL_file 0 = .ok (.aload_n 0, 1) := by decide +kernel
theorem dL_file_1 : decode cL_file 1 = .ok (.iload_n 1, 1) := by decide +kernel
theorem dL_file_2 : decode cL_file 2 = .ok (.iload_n 2, 1) := by decide +kernel
theorem dL_file_3 : decode cL_file 3 = .ok (.iload_n 3, 1) := by decide +kernel
theorem dL_file_4 : decode cL_file 4 = .ok (.invokevirtual 30, 3) := by decide +kernel
theorem dL_file_7 : decode cL_file 7 = .ok (.ireturn, 1) := by decide +kernel
theorem dL_file_8 : decode cL_file 8 = .ok (.astore 4, 2) := by decide +kernel
theorem dL_file_10 : decode cL_file 10 = .ok (.ldc 15, 2) := by decide +kernel
theorem dL_file_12 : decode cL_file 12 = .ok (.ireturn, 1) := by decide +kernel
theorem dL_file_13 : decode cL_file 13 = .ok (.astore 4, 2) := by decide +kernel
theorem dL_file_15 : decode cL_file 15 = .ok (.ldc 18, 2) := by decide +kernel
theorem dL_file_17 : decode cL_file 17 = .ok (.ireturn, 1) := by decide +kernel
set_option maxRecDepth 20000 in
theorem ggL_item_X4_item : GoodIn wsL_item wsX4_item := goodIn_ca (goodIn_ca (goodIn_ca (goodIn_r _ [9, 10, 11, 12, 13, 14, 15, 16, 17, 18, 19, 20, 21, 22, 23, 24, 8, 25, 26, 27, 28, 29, 30, 31, 32, 33, 34, 35, 36, 37, 38, 39, 40, 41, 42, 43, 44, 45, 46, 47, 48, 49, 50, 51, 52, 53, 54, 55, 56, 57, 58, 59, 60, 61, 62, 63, 64, 65, 66, 67, 68, 69, 70, 71, 72, 73, 74, 75, 76, 77] (by decide +kernel) (by decide +kernel)) (goodIn_sub (fun _ h => List.mem_cons_of_mem _ (List.mem_append_left _ (List.mem_append_left _ (List.mem_append_right _ h)))) (by decide +kernel))) (goodIn_sub (fun _ h => List.mem_cons_of_mem _ (List.mem_append_left _ (List.mem_append_right _ h))) (by decide +kernel))) (goodIn_sub (fun _ h => List.mem_cons_of_mem _ (List.mem_append_right _ h)) (by decide +kernel))
set_option maxRecDepth 20000 in
theorem gL_item_X4_item : GoodIn wsL_item (wsV RL 33 RX4 yX4_item wsX4_item) := goodIn_app (goodIn_of _ (by decide +kernel)) ggL_item_X4_item
theorem dL_item_0 : decode cL_item 0 = .ok (.aload_n 0, 1) := by decide +kernel
theorem dL_item_1 : decode cL_item 1 = .ok (.iload_n 1, 1) := by decide +kernel
theorem dL_item_2 : decode cL_item 2 = .ok (.iload_n 2, 1) := by decide +kernel
theorem dL_item_3 : decode cL_item 3 = .ok (.iload_n 3, 1) := by decide +kernel
theorem dL_item_4 : decode cL_item 4 = .ok (.iload 4, 2) := by decide +kernel
theorem dL_item_6 : decode cL_item 6 = .ok (.iload 5, 2) := by decide +kernel
theorem dL_item_8 : decode cL_item 8 = .ok (.iload 6, 2) := by decide +kernel
theorem dL_item_10 : decode cL_item 10 = .ok (.invokevirtual 33, 3) := by decide +kernel
theorem dL_item_13 : decode cL_item 13 = .ok (.ireturn, 1) := by decide +kernel
theorem dL_item_14 : decode cL_item 14 = .ok (.astore 7, 2) := by decide +kernel
theorem dL_item_16 : decode cL_item 16 = .ok (.ldc 25, 2) := by decide +kernel
theorem dL_item_18 : decode cL_item 18 = .ok (.ireturn, 1) := by decide +kernel
theorem dL_item_19 : decode cL_item 19 = .ok (.astore 7, 2) := by decide +kernel
theorem dL_item_21 : decode cL_item 21 = .ok (.ldc 15, 2) := by decide +kernel
theorem dL_item_23 : decode cL_item 23 = .ok (.ireturn, 1) := by decide +kernel
theorem dL_item_24 : decode cL_item 24 = .ok (.astore 7, 2) := by decide +kernel
theorem dL_item_26 : decode cL_item 26 = .ok (.ldc 18, 2) := by decide +kernel
theorem dL_item_28 : decode cL_item 28 = .ok (.ireturn, 1) := by decide +kernel
set_option maxRecDepth 20000 in
theorem ggL_admit_X4_admit : GoodIn wsL_admit wsX4_admit := goodIn_ca (goodIn_ca (goodIn_r _ [8, 9, 10, 11, 12, 13, 14, 15, 16, 17, 18, 7, 19, 20, 21, 22, 23, 24, 25, 26, 27, 28, 29, 30, 31, 32, 33, 34, 35, 36, 37, 38, 39, 40, 41, 42, 43] (by decide +kernel) (by decide +kernel)) (goodIn_sub (fun _ h => List.mem_cons_of_mem _ (List.mem_append_left _ (List.mem_append_right _ h))) (by decide +kernel))) (goodIn_sub (fun _ h => List.mem_cons_of_mem _ (List.mem_append_right _ h)) (by decide +kernel))
set_option maxRecDepth 20000 in
theorem gL_admit_X4_admit : GoodIn wsL_admit (wsV RL 37 RX4 yX4_admit wsX4_admit) := goodIn_app (goodIn_of _ (by decide +kernel)) ggL_admit_X4_admit
theorem dL_admit_0 : decode cL_admit 0 = .ok (.aload_n 0, 1) := by decide +kernel
theorem dL_admit_1 : decode cL_admit 1 = .ok (.iload_n 1, 1) := by decide +kernel
theorem dL_admit_2 : decode cL_admit 2 = .ok (.invokevirtual 37, 3) := by decide +kernel
theorem dL_admit_5 : decode cL_admit 5 = .ok (.iconst 0, 1) := by decide +kernel
theorem dL_admit_6 : decode cL_admit 6 = .ok (.ireturn, 1) := by decide +kernel
theorem dL_admit_7 : decode cL_admit 7 = .ok (.astore_n 2, 1) := by decide +kernel
theorem dL_admit_8 : decode cL_admit 8 = .ok (.ldc 25, 2) := by decide +kernel
theorem dL_admit_10 : decode cL_admit 10 = .ok (.ireturn, 1) := by decide +kernel
theorem dL_admit_11 : decode cL_admit 11 = .ok (.astore_n 2, 1) := by decide +kernel
theorem dL_admit_12 : decode cL_admit 12 = .ok (.ldc 18, 2) := by decide +kernel
theorem dL_admit_14 : decode cL_admit 14 = .ok (.ireturn, 1) := by decide +kernel
set_option maxRecDepth 20000 in
theorem ggL_show_X4_show : GoodIn wsL_show wsX4_show := goodIn_ca (goodIn_ca (goodIn_r _ [8, 9, 10, 11, 12, 13, 14, 15, 16, 17, 7, 18, 19, 20, 21, 22, 23, 24, 25, 26, 27, 28, 29, 30, 31, 32, 33, 34, 35, 36, 37, 38, 39, 40, 41, 42, 43, 44, 45, 46, 47, 48, 49, 50, 51, 52, 53, 54, 55, 56, 57, 58, 59, 60, 61, 62, 63, 64, 65, 66, 67, 68, 69, 70] (by decide +kernel) (by decide +kernel)) (goodIn_sub (fun _ h => List.mem_cons_of_mem _ (List.mem_append_left _ (List.mem_append_right _ h))) (by decide +kernel))) (goodIn_sub (fun _ h => List.mem_cons_of_mem _ (List.mem_append_right _ h)) (by decide +kernel))
set_option maxRecDepth 20000 in
theorem gL_show_X4_show : GoodIn wsL_show (wsV RL 41 RX4 yX4_show wsX4_show) := goodIn_app (goodIn_of _ (by decide +kernel)) ggL_show_X4_show
theorem dL_show_0 : decode cL_show 0 = .ok (.aload_n 0, 1) := by decide +kernel
theorem dL_show_1 : decode cL_show 1 = .ok (.iload_n 1, 1) := by decide +kernel
theorem dL_show_2 : decode cL_show 2 = .ok (.iload_n 2, 1) := by decide +kernel
theorem dL_show_3 : decode cL_show 3 = .ok (.invokevirtual 41, 3) := by decide +kernel
theorem dL_show_6 : decode cL_show 6 = .ok (.ireturn, 1) := by decide +kernel
theorem dL_show_7 : decode cL_show 7 = .ok (.astore_n 3, 1) := by decide +kernel
theorem dL_show_8 : decode cL_show 8 = .ok (.ldc 25, 2) := by decide +kernel
theorem dL_show_10 : decode cL_show 10 = .ok (.ireturn, 1) := by decide +kernel
theorem dL_show_11 : decode cL_show 11 = .ok (.astore_n 3, 1) := by decide +kernel
theorem dL_show_12 : decode cL_show 12 = .ok (.ldc 18, 2) := by decide +kernel
theorem dL_show_14 : decode cL_show 14 = .ok (.ireturn, 1) := by decide +kernel
set_option maxRecDepth 20000 in
theorem ggL_withhold_X4_withhold : GoodIn wsL_withhold wsX4_withhold := goodIn_ca (goodIn_ca (goodIn_r _ [8, 9, 10, 11, 12, 13, 14, 15, 16, 17, 7, 18, 19, 20, 21, 22, 23, 24, 25, 26, 27, 28, 29, 30, 31, 32, 33, 34, 35, 36, 37, 38, 39, 40, 41, 42] (by decide +kernel) (by decide +kernel)) (goodIn_sub (fun _ h => List.mem_cons_of_mem _ (List.mem_append_left _ (List.mem_append_right _ h))) (by decide +kernel))) (goodIn_sub (fun _ h => List.mem_cons_of_mem _ (List.mem_append_right _ h)) (by decide +kernel))
set_option maxRecDepth 20000 in
theorem gL_withhold_X4_withhold : GoodIn wsL_withhold (wsV RL 45 RX4 yX4_withhold wsX4_withhold) := goodIn_app (goodIn_of _ (by decide +kernel)) ggL_withhold_X4_withhold
theorem dL_withhold_0 : decode cL_withhold 0 = .ok (.aload_n 0, 1) := by decide +kernel
theorem dL_withhold_1 : decode cL_withhold 1 = .ok (.iload_n 1, 1) := by decide +kernel
theorem dL_withhold_2 : decode cL_withhold 2 = .ok (.invokevirtual 45, 3) := by decide +kernel
theorem dL_withhold_5 : decode cL_withhold 5 = .ok (.iconst 0, 1) := by decide +kernel
theorem dL_withhold_6 : decode cL_withhold 6 = .ok (.ireturn, 1) := by decide +kernel
theorem dL_withhold_7 : decode cL_withhold 7 = .ok (.astore_n 2, 1) := by decide +kernel
theorem dL_withhold_8 : decode cL_withhold 8 = .ok (.ldc 25, 2) := by decide +kernel
theorem dL_withhold_10 : decode cL_withhold 10 = .ok (.ireturn, 1) := by decide +kernel
theorem dL_withhold_11 : decode cL_withhold 11 = .ok (.astore_n 2, 1) := by decide +kernel
theorem dL_withhold_12 : decode cL_withhold 12 = .ok (.ldc 18, 2) := by decide +kernel
theorem dL_withhold_14 : decode cL_withhold 14 = .ok (.ireturn, 1) := by decide +kernel
set_option maxRecDepth 20000 in
theorem ggL_charge_X4_charge : GoodIn wsL_charge wsX4_charge := goodIn_ca (goodIn_ca (goodIn_ca (goodIn_r _ [9, 10, 11, 12, 13, 14, 15, 16, 17, 18, 8, 19, 20, 21, 22, 23, 24, 25, 26, 27, 28, 29, 30, 31, 32, 33, 34, 35, 36, 37, 38, 39, 40, 41, 42, 43, 44, 45, 46, 47, 48, 49, 50, 51, 52, 53, 54, 55, 56, 57, 58, 59, 60, 61, 62, 63, 64, 65, 66, 67, 68, 69, 70, 71, 72, 73, 74, 75, 76, 77, 78, 79, 80, 81, 82, 83, 84, 85, 86, 87, 88, 89, 90, 91, 92, 93, 94, 95, 96, 97, 98, 99, 100, 101, 102, 103, 104, 105, 106, 107, 108, 109, 110, 111, 112, 113, 114, 115, 116, 117, 118, 119, 120, 121, 122, 123, 124, 125, 126, 127, 128, 129, 130, 131, 132, 133, 134, 135, 136, 137, 138, 139, 140, 141, 142, 143, 144, 145, 146, 147, 148, 149, 150, 151, 152, 153, 154, 155, 156, 157, 158, 159, 160, 161, 162, 163, 164, 165, 166, 167, 168, 169, 170, 171, 172, 173, 174, 175, 176, 177, 178] (by decide +kernel) (by decide +kernel)) (goodIn_sub (fun _ h => List.mem_cons_of_mem _ (List.mem_append_left _ (List.mem_append_left _ (List.mem_append_right _ h)))) (by decide +kernel))) (goodIn_sub (fun _ h => List.mem_cons_of_mem _ (List.mem_append_left _ (List.mem_append_right _ h))) (by decide +kernel))) (goodIn_sub (fun _ h => List.mem_cons_of_mem _ (List.mem_append_right _ h)) (by decide +kernel))
set_option maxRecDepth 20000 in
theorem gL_charge_X4_charge : GoodIn wsL_charge (wsV RL 48 RX4 yX4_charge wsX4_charge) := goodIn_app (goodIn_of _ (by decide +kernel)) ggL_charge_X4_charge
theorem dL_charge_0 : decode cL_charge 0 = .ok (.aload_n 0, 1) := by decide +kernel
theorem dL_charge_1 : decode cL_charge 1 = .ok (.iload_n 1, 1) := by decide +kernel
theorem dL_charge_2 : decode cL_charge 2 = .ok (.iload_n 2, 1) := by decide +kernel
theorem dL_charge_3 : decode cL_charge 3 = .ok (.iload_n 3, 1) := by decide +kernel
theorem dL_charge_4 : decode cL_charge 4 = .ok (.invokevirtual 48, 3) := by decide +kernel
theorem dL_charge_7 : decode cL_charge 7 = .ok (.ireturn, 1) := by decide +kernel
theorem dL_charge_8 : decode cL_charge 8 = .ok (.astore 4, 2) := by decide +kernel
theorem dL_charge_10 : decode cL_charge 10 = .ok (.ldc 25, 2) := by decide +kernel
theorem dL_charge_12 : decode cL_charge 12 = .ok (.ireturn, 1) := by decide +kernel
theorem dL_charge_13 : decode cL_charge 13 = .ok (.astore 4, 2) := by decide +kernel
theorem dL_charge_15 : decode cL_charge 15 = .ok (.ldc 15, 2) := by decide +kernel
theorem dL_charge_17 : decode cL_charge 17 = .ok (.ireturn, 1) := by decide +kernel
theorem dL_charge_18 : decode cL_charge 18 = .ok (.astore 4, 2) := by decide +kernel
theorem dL_charge_20 : decode cL_charge 20 = .ok (.ldc 18, 2) := by decide +kernel
theorem dL_charge_22 : decode cL_charge 22 = .ok (.ireturn, 1) := by decide +kernel
set_option maxRecDepth 20000 in
theorem ggL_drop_X4_drop : GoodIn wsL_drop wsX4_drop := goodIn_ca (goodIn_ca (goodIn_r _ [8, 9, 10, 11, 12, 13, 14, 15, 16, 17, 18, 19, 7, 20, 21, 22, 23, 24, 25, 26, 27, 28, 29, 30, 31, 32, 33, 34, 35, 36, 37, 38, 39, 40, 41, 42, 43, 44, 45, 46, 47, 48, 49, 50, 51, 52, 53, 54, 55, 56, 57, 58, 59, 60, 61, 62, 63, 64, 65] (by decide +kernel) (by decide +kernel)) (goodIn_sub (fun _ h => List.mem_cons_of_mem _ (List.mem_append_left _ (List.mem_append_right _ h))) (by decide +kernel))) (goodIn_sub (fun _ h => List.mem_cons_of_mem _ (List.mem_append_right _ h)) (by decide +kernel))
set_option maxRecDepth 20000 in
theorem gL_drop_X4_drop : GoodIn wsL_drop (wsV RL 51 RX4 yX4_drop wsX4_drop) := goodIn_app (goodIn_of _ (by decide +kernel)) ggL_drop_X4_drop
theorem dL_drop_0 : decode cL_drop 0 = .ok (.aload_n 0, 1) := by decide +kernel
theorem dL_drop_1 : decode cL_drop 1 = .ok (.iload_n 1, 1) := by decide +kernel
theorem dL_drop_2 : decode cL_drop 2 = .ok (.iload_n 2, 1) := by decide +kernel
theorem dL_drop_3 : decode cL_drop 3 = .ok (.invokevirtual 51, 3) := by decide +kernel
theorem dL_drop_6 : decode cL_drop 6 = .ok (.iconst 0, 1) := by decide +kernel
theorem dL_drop_7 : decode cL_drop 7 = .ok (.ireturn, 1) := by decide +kernel
theorem dL_drop_8 : decode cL_drop 8 = .ok (.astore_n 3, 1) := by decide +kernel
theorem dL_drop_9 : decode cL_drop 9 = .ok (.ldc 25, 2) := by decide +kernel
theorem dL_drop_11 : decode cL_drop 11 = .ok (.ireturn, 1) := by decide +kernel
theorem dL_drop_12 : decode cL_drop 12 = .ok (.astore_n 3, 1) := by decide +kernel
theorem dL_drop_13 : decode cL_drop 13 = .ok (.ldc 18, 2) := by decide +kernel
theorem dL_drop_15 : decode cL_drop 15 = .ok (.ireturn, 1) := by decide +kernel
set_option maxRecDepth 20000 in
theorem ggL_review_X4_review : GoodIn wsL_review wsX4_review := goodIn_ca (goodIn_ca (goodIn_r _ [8, 9, 10, 11, 12, 13, 14, 15, 16, 17, 18, 7, 19, 20, 21, 22, 23, 24, 25, 26, 27, 28, 29, 30, 31, 32, 33, 34, 35, 36, 37, 38, 39, 40, 41, 42, 43, 44, 45, 46, 47, 48, 49, 50, 51, 52, 53, 54, 55, 56, 57, 58, 59, 60, 61, 62, 63, 64, 65, 66, 67, 68, 69, 70, 71, 72, 73, 74, 75, 76, 77, 78, 79, 80, 81, 82, 83, 84, 85, 86, 87, 88, 89, 90, 91, 92, 93, 94, 95, 96, 97, 98, 99, 100, 101, 102, 103, 104, 105, 106, 107, 108, 109, 110, 111, 112, 113, 114, 115, 116, 117, 118, 119, 120, 121, 122, 123, 124, 125, 126, 127, 128, 129, 130, 131, 132, 133, 134, 135, 136, 137, 138, 139, 140, 141, 142, 143] (by decide +kernel) (by decide +kernel)) (goodIn_sub (fun _ h => List.mem_cons_of_mem _ (List.mem_append_left _ (List.mem_append_right _ h))) (by decide +kernel))) (goodIn_sub (fun _ h => List.mem_cons_of_mem _ (List.mem_append_right _ h)) (by decide +kernel))
set_option maxRecDepth 20000 in
theorem gL_review_X4_review : GoodIn wsL_review (wsV RL 55 RX4 yX4_review wsX4_review) := goodIn_app (goodIn_of _ (by decide +kernel)) ggL_review_X4_review
theorem dL_review_0 : decode cL_review 0 = .ok (.aload_n 0, 1) := by decide +kernel
theorem dL_review_1 : decode cL_review 1 = .ok (.iload_n 1, 1) := by decide +kernel
theorem dL_review_2 : decode cL_review 2 = .ok (.iload_n 2, 1) := by decide +kernel
theorem dL_review_3 : decode cL_review 3 = .ok (.invokevirtual 55, 3) := by decide +kernel
theorem dL_review_6 : decode cL_review 6 = .ok (.ifCond .eq 7, 3) := by decide +kernel
theorem dL_review_9 : decode cL_review 9 = .ok (.iconst 1, 1) := by decide +kernel
theorem dL_review_10 : decode cL_review 10 = .ok (.goto 4, 3) := by decide +kernel
theorem dL_review_13 : decode cL_review 13 = .ok (.iconst 0, 1) := by decide +kernel
theorem dL_review_14 : decode cL_review 14 = .ok (.ireturn, 1) := by decide +kernel
theorem dL_review_15 : decode cL_review 15 = .ok (.astore_n 3, 1) := by decide +kernel
theorem dL_review_16 : decode cL_review 16 = .ok (.ldc 25, 2) := by decide +kernel
theorem dL_review_18 : decode cL_review 18 = .ok (.ireturn, 1) := by decide +kernel
theorem dL_review_19 : decode cL_review 19 = .ok (.astore_n 3, 1) := by decide +kernel
theorem dL_review_20 : decode cL_review 20 = .ok (.ldc 18, 2) := by decide +kernel
theorem dL_review_22 : decode cL_review 22 = .ok (.ireturn, 1) := by decide +kernel
set_option maxRecDepth 20000 in
theorem ggL_trial_X4_trial : GoodIn wsL_trial wsX4_trial := goodIn_ca (goodIn_ca (goodIn_r _ [8, 9, 10, 11, 12, 13, 14, 15, 16, 17, 18, 7, 19, 20, 21, 22, 23, 24, 25, 26, 27, 28, 29, 30, 31, 32, 33, 34, 35, 36, 37, 38, 39, 40, 41, 42, 43, 44, 45, 46, 47, 48, 49, 50, 51, 52, 53, 54, 55, 56, 57, 58, 59, 60, 61, 62, 63, 64, 65, 66, 67, 68, 69, 70, 71, 72, 73, 74, 75, 76, 77, 78, 79, 80, 81, 82, 83, 84, 85, 86, 87, 88, 89, 90, 91, 92, 93, 94, 95, 96, 97, 98, 99, 100, 101, 102, 103, 104, 105, 106, 107, 108, 109, 110, 111, 112, 113, 114, 115, 116, 117, 118, 119, 120, 121, 122, 123, 124, 125, 126, 127, 128, 129, 130, 131, 132, 133, 134, 135, 136, 137, 138, 139, 140, 141, 142, 143, 144, 145, 146, 147, 148, 149] (by decide +kernel) (by decide +kernel)) (goodIn_sub (fun _ h => List.mem_cons_of_mem _ (List.mem_append_left _ (List.mem_append_right _ h))) (by decide +kernel))) (goodIn_sub (fun _ h => List.mem_cons_of_mem _ (List.mem_append_right _ h)) (by decide +kernel))
set_option maxRecDepth 20000 in
theorem gL_trial_X4_trial : GoodIn wsL_trial (wsV RL 58 RX4 yX4_trial wsX4_trial) := goodIn_app (goodIn_of _ (by decide +kernel)) ggL_trial_X4_trial
theorem dL_trial_0 : decode cL_trial 0 = .ok (.aload_n 0, 1) := by decide +kernel
theorem dL_trial_1 : decode cL_trial 1 = .ok (.iload_n 1, 1) := by decide +kernel
theorem dL_trial_2 : decode cL_trial 2 = .ok (.iload_n 2, 1) := by decide +kernel
theorem dL_trial_3 : decode cL_trial 3 = .ok (.invokevirtual 58, 3) := by decide +kernel
theorem dL_trial_6 : decode cL_trial 6 = .ok (.ireturn, 1) := by decide +kernel
theorem dL_trial_7 : decode cL_trial 7 = .ok (.astore_n 3, 1) := by decide +kernel
theorem dL_trial_8 : decode cL_trial 8 = .ok (.ldc 25, 2) := by decide +kernel
theorem dL_trial_10 : decode cL_trial 10 = .ok (.ireturn, 1) := by decide +kernel
theorem dL_trial_11 : decode cL_trial 11 = .ok (.astore_n 3, 1) := by decide +kernel
theorem dL_trial_12 : decode cL_trial 12 = .ok (.ldc 18, 2) := by decide +kernel
theorem dL_trial_14 : decode cL_trial 14 = .ok (.ireturn, 1) := by decide +kernel
set_option maxRecDepth 20000 in
theorem ggL_plea_X4_plea : GoodIn wsL_plea wsX4_plea := goodIn_ca (goodIn_ca (goodIn_ca (goodIn_r _ [9, 10, 11, 12, 13, 14, 15, 16, 17, 18, 19, 20, 21, 8, 22, 23, 24, 25, 26, 27, 28, 29, 30, 31, 32, 33, 34, 35, 36, 37, 38, 39, 40, 41, 42, 43, 44, 45, 46, 47, 48, 49, 50, 51, 52, 53, 54, 55, 56, 57, 58, 59, 60, 61, 62, 63, 64, 65, 66, 67, 68, 69, 70, 71, 72, 73, 74, 75, 76, 77, 78, 79, 80, 81, 82, 83, 84, 85, 86, 87, 88, 89, 90, 91, 92, 93, 94, 95, 96, 97, 98, 99, 100, 101, 102, 103, 104, 105, 106, 107, 108] (by decide +kernel) (by decide +kernel)) (goodIn_sub (fun _ h => List.mem_cons_of_mem _ (List.mem_append_left _ (List.mem_append_left _ (List.mem_append_right _ h)))) (by decide +kernel))) (goodIn_sub (fun _ h => List.mem_cons_of_mem _ (List.mem_append_left _ (List.mem_append_right _ h))) (by decide +kernel))) (goodIn_sub (fun _ h => List.mem_cons_of_mem _ (List.mem_append_right _ h)) (by decide +kernel))
set_option maxRecDepth 20000 in
theorem gL_plea_X4_plea : GoodIn wsL_plea (wsV RL 61 RX4 yX4_plea wsX4_plea) := goodIn_app (goodIn_of _ (by decide +kernel)) ggL_plea_X4_plea
theorem dL_plea_0 : decode cL_plea 0 = .ok (.aload_n 0, 1) := by decide +kernel
theorem dL_plea_1 : decode cL_plea 1 = .ok (.iload_n 1, 1) := by decide +kernel
theorem dL_plea_2 : decode cL_plea 2 = .ok (.iload_n 2, 1) := by decide +kernel
theorem dL_plea_3 : decode cL_plea 3 = .ok (.iload_n 3, 1) := by decide +kernel
theorem dL_plea_4 : decode cL_plea 4 = .ok (.invokevirtual 61, 3) := by decide +kernel
theorem dL_plea_7 : decode cL_plea 7 = .ok (.ireturn, 1) := by decide +kernel
theorem dL_plea_8 : decode cL_plea 8 = .ok (.astore 4, 2) := by decide +kernel
theorem dL_plea_10 : decode cL_plea 10 = .ok (.ldc 25, 2) := by decide +kernel
theorem dL_plea_12 : decode cL_plea 12 = .ok (.ireturn, 1) := by decide +kernel
theorem dL_plea_13 : decode cL_plea 13 = .ok (.astore 4, 2) := by decide +kernel
theorem dL_plea_15 : decode cL_plea 15 = .ok (.ldc 15, 2) := by decide +kernel
theorem dL_plea_17 : decode cL_plea 17 = .ok (.ireturn, 1) := by decide +kernel
theorem dL_plea_18 : decode cL_plea 18 = .ok (.astore 4, 2) := by decide +kernel
theorem dL_plea_20 : decode cL_plea 20 = .ok (.ldc 18, 2) := by decide +kernel
theorem dL_plea_22 : decode cL_plea 22 = .ok (.ireturn, 1) := by decide +kernel
set_option maxRecDepth 20000 in
theorem ggL_arrest_X4_arrest : GoodIn wsL_arrest wsX4_arrest := goodIn_ca (goodIn_ca (goodIn_r _ [8, 9, 10, 11, 12, 13, 14, 15, 7, 16, 17, 18, 19, 20, 21, 22, 23, 24, 25, 26, 27, 28, 29, 30, 31, 32, 33, 34, 35, 36, 37, 38, 39, 40, 41, 42, 43, 44, 45, 46, 47, 48, 49, 50, 51, 52, 53, 54, 55, 56, 57, 58, 59, 60, 61, 62, 63, 64, 65, 66, 67, 68, 69, 70, 71, 72, 73, 74, 75, 76] (by decide +kernel) (by decide +kernel)) (goodIn_sub (fun _ h => List.mem_cons_of_mem _ (List.mem_append_left _ (List.mem_append_right _ h))) (by decide +kernel))) (goodIn_sub (fun _ h => List.mem_cons_of_mem _ (List.mem_append_right _ h)) (by decide +kernel))
set_option maxRecDepth 20000 in
theorem gL_arrest_X4_arrest : GoodIn wsL_arrest (wsV RL 64 RX4 yX4_arrest wsX4_arrest) := goodIn_app (goodIn_of _ (by decide +kernel)) ggL_arrest_X4_arrest
theorem dL_arrest_0 : decode cL_arrest 0 = .ok (.aload_n 0, 1) := by decide +kernel
theorem dL_arrest_1 : decode cL_arrest 1 = .ok (.iload_n 1, 1) := by decide +kernel
theorem dL_arrest_2 : decode cL_arrest 2 = .ok (.iload_n 2, 1) := by decide +kernel
theorem dL_arrest_3 : decode cL_arrest 3 = .ok (.invokevirtual 64, 3) := by decide +kernel
theorem dL_arrest_6 : decode cL_arrest 6 = .ok (.ireturn, 1) := by decide +kernel
theorem dL_arrest_7 : decode cL_arrest 7 = .ok (.astore_n 3, 1) := by decide +kernel
theorem dL_arrest_8 : decode cL_arrest 8 = .ok (.ldc 25, 2) := by decide +kernel
theorem dL_arrest_10 : decode cL_arrest 10 = .ok (.ireturn, 1) := by decide +kernel
theorem dL_arrest_11 : decode cL_arrest 11 = .ok (.astore_n 3, 1) := by decide +kernel
theorem dL_arrest_12 : decode cL_arrest 12 = .ok (.ldc 18, 2) := by decide +kernel
theorem dL_arrest_14 : decode cL_arrest 14 = .ok (.ireturn, 1) := by decide +kernel
set_option maxRecDepth 20000 in
theorem ggL_extend_X4_extend : GoodIn wsL_extend wsX4_extend := goodIn_ca (goodIn_ca (goodIn_ca (goodIn_r _ [9, 10, 11, 12, 13, 14, 15, 16, 17, 18, 8, 19, 20, 21, 22, 23, 24, 25, 26, 27, 28, 29, 30, 31, 32, 33, 34, 35, 36, 37, 38, 39, 40, 41, 42, 43, 44, 45, 46, 47, 48, 49, 50, 51, 52, 53, 54, 55, 56, 57, 58, 59, 60, 61, 62, 63, 64, 65, 66, 67, 68, 69, 70, 71, 72, 73, 74, 75, 76] (by decide +kernel) (by decide +kernel)) (goodIn_sub (fun _ h => List.mem_cons_of_mem _ (List.mem_append_left _ (List.mem_append_left _ (List.mem_append_right _ h)))) (by decide +kernel))) (goodIn_sub (fun _ h => List.mem_cons_of_mem _ (List.mem_append_left _ (List.mem_append_right _ h))) (by decide +kernel))) (goodIn_sub (fun _ h => List.mem_cons_of_mem _ (List.mem_append_right _ h)) (by decide +kernel))
set_option maxRecDepth 20000 in
theorem gL_extend_X4_extend : GoodIn wsL_extend (wsV RL 67 RX4 yX4_extend wsX4_extend) := goodIn_app (goodIn_of _ (by decide +kernel)) ggL_extend_X4_extend
theorem dL_extend_0 : decode cL_extend 0 = .ok (.aload_n 0, 1) := by decide +kernel
theorem dL_extend_1 : decode cL_extend 1 = .ok (.iload_n 1, 1) := by decide +kernel
theorem dL_extend_2 : decode cL_extend 2 = .ok (.iload_n 2, 1) := by decide +kernel
theorem dL_extend_3 : decode cL_extend 3 = .ok (.iload_n 3, 1) := by decide +kernel
theorem dL_extend_4 : decode cL_extend 4 = .ok (.invokevirtual 67, 3) := by decide +kernel
theorem dL_extend_7 : decode cL_extend 7 = .ok (.ireturn, 1) := by decide +kernel
theorem dL_extend_8 : decode cL_extend 8 = .ok (.astore 4, 2) := by decide +kernel
theorem dL_extend_10 : decode cL_extend 10 = .ok (.ldc 25, 2) := by decide +kernel
theorem dL_extend_12 : decode cL_extend 12 = .ok (.ireturn, 1) := by decide +kernel
theorem dL_extend_13 : decode cL_extend 13 = .ok (.astore 4, 2) := by decide +kernel
theorem dL_extend_15 : decode cL_extend 15 = .ok (.ldc 15, 2) := by decide +kernel
theorem dL_extend_17 : decode cL_extend 17 = .ok (.ireturn, 1) := by decide +kernel
theorem dL_extend_18 : decode cL_extend 18 = .ok (.astore 4, 2) := by decide +kernel
theorem dL_extend_20 : decode cL_extend 20 = .ok (.ldc 18, 2) := by decide +kernel
theorem dL_extend_22 : decode cL_extend 22 = .ok (.ireturn, 1) := by decide +kernel
set_option maxRecDepth 20000 in
theorem ggL_release_X4_release : GoodIn wsL_release wsX4_release := goodIn_ca (goodIn_ca (goodIn_r _ [8, 9, 10, 11, 12, 13, 14, 7, 15, 16, 17, 18, 19, 20, 21, 22, 23, 24, 25, 26, 27, 28, 29, 30, 31, 32, 33, 34, 35, 36, 37, 38, 39, 40, 41, 42, 43, 44, 45, 46, 47, 48, 49, 50, 51, 52, 53, 54, 55, 56, 57, 58, 59, 60] (by decide +kernel) (by decide +kernel)) (goodIn_sub (fun _ h => List.mem_cons_of_mem _ (List.mem_append_left _ (List.mem_append_right _ h))) (by decide +kernel))) (goodIn_sub (fun _ h => List.mem_cons_of_mem _ (List.mem_append_right _ h)) (by decide +kernel))
set_option maxRecDepth 20000 in
theorem gL_release_X4_release : GoodIn wsL_release (wsV RL 70 RX4 yX4_release wsX4_release) := goodIn_app (goodIn_of _ (by decide +kernel)) ggL_release_X4_release
theorem dL_release_0 : decode cL_release 0 = .ok (.aload_n 0, 1) := by decide +kernel
theorem dL_release_1 : decode cL_release 1 = .ok (.iload_n 1, 1) := by decide +kernel
theorem dL_release_2 : decode cL_release 2 = .ok (.iload_n 2, 1) := by decide +kernel
theorem dL_release_3 : decode cL_release 3 = .ok (.invokevirtual 70, 3) := by decide +kernel
theorem dL_release_6 : decode cL_release 6 = .ok (.iconst 0, 1) := by decide +kernel
theorem dL_release_7 : decode cL_release 7 = .ok (.ireturn, 1) := by decide +kernel
theorem dL_release_8 : decode cL_release 8 = .ok (.astore_n 3, 1) := by decide +kernel
theorem dL_release_9 : decode cL_release 9 = .ok (.ldc 25, 2) := by decide +kernel
theorem dL_release_11 : decode cL_release 11 = .ok (.ireturn, 1) := by decide +kernel
theorem dL_release_12 : decode cL_release 12 = .ok (.astore_n 3, 1) := by decide +kernel
theorem dL_release_13 : decode cL_release 13 = .ok (.ldc 18, 2) := by decide +kernel
theorem dL_release_15 : decode cL_release 15 = .ok (.ireturn, 1) := by decide +kernel
set_option maxRecDepth 20000 in
theorem ggL_nests_X4_nests : GoodIn wsL_nests wsX4_nests := goodIn_ca (goodIn_r _ [7, 8, 9, 10, 11, 12, 6, 13, 14, 15, 16, 17, 18, 19, 20, 21, 22, 23, 24, 25, 26, 27, 28, 29, 30, 31, 32, 33, 34, 35, 36, 37] (by decide +kernel) (by decide +kernel)) (goodIn_sub (fun _ h => List.mem_cons_of_mem _ (List.mem_append_right _ h)) (by decide +kernel))
set_option maxRecDepth 20000 in
theorem gL_nests_X4_nests : GoodIn wsL_nests (wsV RL 73 RX4 yX4_nests wsX4_nests) := goodIn_app (goodIn_of _ (by decide +kernel)) ggL_nests_X4_nests
theorem dL_nests_0 : decode cL_nests 0 = .ok (.aload_n 0, 1) := by decide +kernel
theorem dL_nests_1 : decode cL_nests 1 = .ok (.iload_n 1, 1) := by decide +kernel
theorem dL_nests_2 : decode cL_nests 2 = .ok (.iload_n 2, 1) := by decide +kernel
theorem dL_nests_3 : decode cL_nests 3 = .ok (.invokevirtual 73, 3) := by decide +kernel
theorem dL_nests_6 : decode cL_nests 6 = .ok (.ifCond .eq 7, 3) := by decide +kernel
theorem dL_nests_9 : decode cL_nests 9 = .ok (.iconst 1, 1) := by decide +kernel
theorem dL_nests_10 : decode cL_nests 10 = .ok (.goto 4, 3) := by decide +kernel
theorem dL_nests_13 : decode cL_nests 13 = .ok (.iconst 0, 1) := by decide +kernel
theorem dL_nests_14 : decode cL_nests 14 = .ok (.ireturn, 1) := by decide +kernel
theorem dL_nests_15 : decode cL_nests 15 = .ok (.astore_n 3, 1) := by decide +kernel
theorem dL_nests_16 : decode cL_nests 16 = .ok (.ldc 25, 2) := by decide +kernel
theorem dL_nests_18 : decode cL_nests 18 = .ok (.ireturn, 1) := by decide +kernel
set_option maxRecDepth 20000 in
theorem ggL_strength_X4_strength : GoodIn wsL_strength wsX4_strength := goodIn_ca (goodIn_ca (goodIn_r _ [8, 9, 10, 11, 12, 13, 7, 14, 15, 16, 17, 18, 19, 20, 21, 22, 23, 24, 25, 26, 27, 28, 29, 30, 31, 32, 33, 34, 35, 36, 37, 38, 39, 40, 41, 42, 43, 44, 45, 46, 47, 48, 49, 50, 51, 52, 53, 54, 55, 56, 57, 58, 59, 60, 61, 62, 63, 64, 65, 66, 67, 68, 69, 70, 71, 72, 73, 74, 75, 76, 77, 78, 79, 80, 81, 82, 83, 84, 85, 86, 87, 88, 89, 90, 91, 92, 93, 94, 95, 96, 97, 98, 99, 100, 101, 102, 103] (by decide +kernel) (by decide +kernel)) (goodIn_sub (fun _ h => List.mem_cons_of_mem _ (List.mem_append_left _ (List.mem_append_right _ h))) (by decide +kernel))) (goodIn_sub (fun _ h => List.mem_cons_of_mem _ (List.mem_append_right _ h)) (by decide +kernel))
set_option maxRecDepth 20000 in
theorem gL_strength_X4_strength : GoodIn wsL_strength (wsV RL 76 RX4 yX4_strength wsX4_strength) := goodIn_app (goodIn_of _ (by decide +kernel)) ggL_strength_X4_strength
theorem dL_strength_0 : decode cL_strength 0 = .ok (.aload_n 0, 1) := by decide +kernel
theorem dL_strength_1 : decode cL_strength 1 = .ok (.iload_n 1, 1) := by decide +kernel
theorem dL_strength_2 : decode cL_strength 2 = .ok (.iload_n 2, 1) := by decide +kernel
theorem dL_strength_3 : decode cL_strength 3 = .ok (.iload_n 3, 1) := by decide +kernel
theorem dL_strength_4 : decode cL_strength 4 = .ok (.iload 4, 2) := by decide +kernel
theorem dL_strength_6 : decode cL_strength 6 = .ok (.invokevirtual 76, 3) := by decide +kernel
theorem dL_strength_9 : decode cL_strength 9 = .ok (.ireturn, 1) := by decide +kernel
theorem dL_strength_10 : decode cL_strength 10 = .ok (.astore 5, 2) := by decide +kernel
theorem dL_strength_12 : decode cL_strength 12 = .ok (.ldc 25, 2) := by decide +kernel
theorem dL_strength_14 : decode cL_strength 14 = .ok (.ireturn, 1) := by decide +kernel
theorem dL_strength_15 : decode cL_strength 15 = .ok (.astore 5, 2) := by decide +kernel
theorem dL_strength_17 : decode cL_strength 17 = .ok (.ldc 15, 2) := by decide +kernel
theorem dL_strength_19 : decode cL_strength 19 = .ok (.ireturn, 1) := by decide +kernel
set_option maxRecDepth 20000 in
theorem ggL_whyNot_X4_whyNot : GoodIn wsL_whyNot wsX4_whyNot := goodIn_ca (goodIn_ca (goodIn_r _ [8, 9, 10, 11, 12, 13, 7, 14, 15, 16, 17, 18, 19, 20, 21, 22, 23, 24, 25, 26, 27, 28, 29, 30, 31, 32, 33, 34, 35, 36, 37, 38, 39, 40, 41, 42, 43, 44, 45, 46, 47, 48, 49, 50, 51, 52, 53, 54, 55, 56, 57, 58, 59, 60, 61, 62, 63, 64, 65, 66, 67, 68, 69, 70, 71, 72, 73, 74, 75, 76, 77, 78, 79, 80, 81, 82, 83, 84, 85, 86, 87, 88, 89, 90, 91, 92, 93, 94, 95, 96, 97, 98, 99, 100, 101, 102, 103, 104, 105, 106, 107, 108, 109, 110, 111, 112, 113, 114, 115, 116, 117, 118, 119, 120, 121, 122, 123, 124, 125, 126, 127, 128, 129, 130, 131, 132, 133, 134, 135, 136, 137, 138, 139, 140, 141, 142, 143, 144, 145, 146] (by decide +kernel) (by decide +kernel)) (goodIn_sub (fun _ h => List.mem_cons_of_mem _ (List.mem_append_left _ (List.mem_append_right _ h))) (by decide +kernel))) (goodIn_sub (fun _ h => List.mem_cons_of_mem _ (List.mem_append_right _ h)) (by decide +kernel))
set_option maxRecDepth 20000 in
theorem gL_whyNot_X4_whyNot : GoodIn wsL_whyNot (wsV RL 80 RX4 yX4_whyNot wsX4_whyNot) := goodIn_app (goodIn_of _ (by decide +kernel)) ggL_whyNot_X4_whyNot
theorem dL_whyNot_0 : decode cL_whyNot 0 = .ok (.aload_n 0, 1) := by decide +kernel
theorem dL_whyNot_1 : decode cL_whyNot 1 = .ok (.iload_n 1, 1) := by decide +kernel
theorem dL_whyNot_2 : decode cL_whyNot 2 = .ok (.iload_n 2, 1) := by decide +kernel
theorem dL_whyNot_3 : decode cL_whyNot 3 = .ok (.iload_n 3, 1) := by decide +kernel
theorem dL_whyNot_4 : decode cL_whyNot 4 = .ok (.iload 4, 2) := by decide +kernel
theorem dL_whyNot_6 : decode cL_whyNot 6 = .ok (.invokevirtual 80, 3) := by decide +kernel
theorem dL_whyNot_9 : decode cL_whyNot 9 = .ok (.ireturn, 1) := by decide +kernel
theorem dL_whyNot_10 : decode cL_whyNot 10 = .ok (.astore 5, 2) := by decide +kernel
theorem dL_whyNot_12 : decode cL_whyNot 12 = .ok (.ldc 25, 2) := by decide +kernel
theorem dL_whyNot_14 : decode cL_whyNot 14 = .ok (.ireturn, 1) := by decide +kernel
theorem dL_whyNot_15 : decode cL_whyNot 15 = .ok (.astore 5, 2) := by decide +kernel
theorem dL_whyNot_17 : decode cL_whyNot 17 = .ok (.ldc 15, 2) := by decide +kernel
theorem dL_whyNot_19 : decode cL_whyNot 19 = .ok (.ireturn, 1) := by decide +kernel
set_option maxRecDepth 20000 in
theorem ggL_best_X4_best : GoodIn wsL_best wsX4_best := goodIn_ca (goodIn_ca (goodIn_r _ [8, 9, 10, 11, 7, 12, 13, 14, 15, 16, 17, 18, 19, 20, 21, 22, 23, 24, 25, 26, 27, 28, 29, 30, 31, 32, 33, 34, 35, 36, 37, 38, 39, 40, 41, 42, 43, 44, 45, 46, 47, 48, 49, 50, 51, 52, 53, 54, 55, 56, 57, 58, 59, 60, 61, 62, 63, 64, 65, 66, 67, 68, 69, 70, 71, 72, 73, 74, 75, 76, 77, 78, 79, 80, 81, 82, 83, 84, 85, 86, 87, 88, 89, 90, 91, 92, 93, 94, 95, 96, 97, 98, 99, 100, 101, 102, 103, 104, 105, 106, 107, 108, 109, 110, 111, 112, 113, 114, 115, 116, 117, 118, 119, 120, 121, 122, 123, 124, 125, 126, 127, 128, 129, 130, 131, 132, 133, 134, 135, 136, 137, 138, 139, 140, 141, 142, 143, 144, 145, 146, 147, 148, 149, 150, 151, 152, 153, 154, 155, 156, 157, 158, 159, 160, 161, 162, 163, 164, 165, 166, 167, 168, 169, 170, 171, 172, 173, 174, 175, 176, 177, 178, 179, 180, 181, 182, 183, 184, 185, 186, 187, 188, 189] (by decide +kernel) (by decide +kernel)) (goodIn_sub (fun _ h => List.mem_cons_of_mem _ (List.mem_append_left _ (List.mem_append_right _ h))) (by decide +kernel))) (goodIn_sub (fun _ h => List.mem_cons_of_mem _ (List.mem_append_right _ h)) (by decide +kernel))
set_option maxRecDepth 20000 in
theorem gL_best_X4_best : GoodIn wsL_best (wsV RL 83 RX4 yX4_best wsX4_best) := goodIn_app (goodIn_of _ (by decide +kernel)) ggL_best_X4_best
theorem dL_best_0 : decode cL_best 0 = .ok (.aload_n 0, 1) := by decide +kernel
theorem dL_best_1 : decode cL_best 1 = .ok (.iload_n 1, 1) := by decide +kernel
theorem dL_best_2 : decode cL_best 2 = .ok (.iload_n 2, 1) := by decide +kernel
theorem dL_best_3 : decode cL_best 3 = .ok (.iload_n 3, 1) := by decide +kernel
theorem dL_best_4 : decode cL_best 4 = .ok (.invokevirtual 83, 3) := by decide +kernel
theorem dL_best_7 : decode cL_best 7 = .ok (.ireturn, 1) := by decide +kernel
theorem dL_best_8 : decode cL_best 8 = .ok (.astore 4, 2) := by decide +kernel
theorem dL_best_10 : decode cL_best 10 = .ok (.ldc 25, 2) := by decide +kernel
theorem dL_best_12 : decode cL_best 12 = .ok (.ireturn, 1) := by decide +kernel
theorem dL_best_13 : decode cL_best 13 = .ok (.astore 4, 2) := by decide +kernel
theorem dL_best_15 : decode cL_best 15 = .ok (.ldc 15, 2) := by decide +kernel
theorem dL_best_17 : decode cL_best 17 = .ok (.ireturn, 1) := by decide +kernel
set_option maxRecDepth 20000 in
theorem ggL_anew_X4_bestAnew : GoodIn wsL_anew wsX4_bestAnew := goodIn_ca (goodIn_ca (goodIn_r _ [8, 9, 10, 11, 7, 12, 13, 14, 15, 16, 17, 18, 19, 20, 21, 22, 23, 24, 25, 26, 27, 28, 29, 30, 31, 32, 33, 34, 35, 36, 37, 38, 39, 40, 41, 42, 43, 44, 45, 46, 47, 48, 49, 50, 51, 52, 53, 54, 55, 56, 57, 58, 59, 60, 61, 62, 63, 64, 65, 66, 67, 68, 69, 70, 71, 72, 73, 74, 75, 76, 77, 78, 79, 80, 81, 82, 83, 84, 85, 86, 87, 88, 89, 90, 91, 92, 93, 94, 95, 96, 97, 98, 99, 100, 101, 102, 103, 104, 105, 106, 107, 108, 109, 110, 111, 112, 113, 114, 115, 116, 117, 118, 119, 120, 121, 122, 123, 124, 125, 126, 127, 128, 129, 130, 131, 132, 133, 134, 135, 136, 137, 138, 139, 140, 141, 142, 143, 144, 145, 146, 147, 148, 149, 150, 151, 152, 153, 154, 155, 156, 157, 158, 159, 160, 161, 162, 163, 164, 165, 166, 167, 168, 169, 170, 171, 172, 173, 174, 175, 176, 177, 178, 179, 180, 181, 182] (by decide +kernel) (by decide +kernel)) (goodIn_sub (fun _ h => List.mem_cons_of_mem _ (List.mem_append_left _ (List.mem_append_right _ h))) (by decide +kernel))) (goodIn_sub (fun _ h => List.mem_cons_of_mem _ (List.mem_append_right _ h)) (by decide +kernel))
set_option maxRecDepth 20000 in
theorem gL_anew_X4_bestAnew : GoodIn wsL_anew (wsV RL 86 RX4 yX4_bestAnew wsX4_bestAnew) := goodIn_app (goodIn_of _ (by decide +kernel)) ggL_anew_X4_bestAnew
theorem dL_anew_0 : decode cL_anew 0 = .ok (.aload_n 0, 1) := by decide +kernel
theorem dL_anew_1 : decode cL_anew 1 = .ok (.iload_n 1, 1) := by decide +kernel
theorem dL_anew_2 : decode cL_anew 2 = .ok (.iload_n 2, 1) := by decide +kernel
theorem dL_anew_3 : decode cL_anew 3 = .ok (.iload_n 3, 1) := by decide +kernel
theorem dL_anew_4 : decode cL_anew 4 = .ok (.invokevirtual 86, 3) := by decide +kernel
theorem dL_anew_7 : decode cL_anew 7 = .ok (.ireturn, 1) := by decide +kernel
theorem dL_anew_8 : decode cL_anew 8 = .ok (.astore 4, 2) := by decide +kernel
theorem dL_anew_10 : decode cL_anew 10 = .ok (.ldc 25, 2) := by decide +kernel
theorem dL_anew_12 : decode cL_anew 12 = .ok (.ireturn, 1) := by decide +kernel
theorem dL_anew_13 : decode cL_anew 13 = .ok (.astore 4, 2) := by decide +kernel
theorem dL_anew_15 : decode cL_anew 15 = .ok (.ldc 15, 2) := by decide +kernel
theorem dL_anew_17 : decode cL_anew 17 = .ok (.ireturn, 1) := by decide +kernel
set_option maxRecDepth 20000 in
theorem ggL_lacks_X4_lacks : GoodIn wsL_lacks wsX4_lacks := goodIn_ca (goodIn_r _ [7, 8, 9, 10, 11, 12, 13, 6, 14, 15, 16, 17, 18, 19, 20, 21, 22, 23, 24, 25, 26, 27, 28, 29, 30, 31, 32, 33, 34, 35, 36, 37, 38, 39, 40, 41, 42, 43, 44, 45, 46, 47, 48, 49, 50, 51, 52, 53, 54, 55, 56, 57, 58, 59, 60, 61, 62, 63, 64, 65, 66, 67, 68, 69, 70, 71, 72, 73, 74, 75, 76, 77, 78, 79, 80, 81, 82, 83, 84, 85, 86, 87, 88, 89, 90, 91, 92, 93, 94] (by decide +kernel) (by decide +kernel)) (goodIn_sub (fun _ h => List.mem_cons_of_mem _ (List.mem_append_right _ h)) (by decide +kernel))
set_option maxRecDepth 20000 in
theorem gL_lacks_X4_lacks : GoodIn wsL_lacks (wsV RL 89 RX4 yX4_lacks wsX4_lacks) := goodIn_app (goodIn_of _ (by decide +kernel)) ggL_lacks_X4_lacks
theorem dL_lacks_0 : decode cL_lacks 0 = .ok (.aload_n 0, 1) := by decide +kernel
theorem dL_lacks_1 : decode cL_lacks 1 = .ok (.iload_n 1, 1) := by decide +kernel
theorem dL_lacks_2 : decode cL_lacks 2 = .ok (.iload_n 2, 1) := by decide +kernel
theorem dL_lacks_3 : decode cL_lacks 3 = .ok (.invokevirtual 89, 3) := by decide +kernel
theorem dL_lacks_6 : decode cL_lacks 6 = .ok (.ireturn, 1) := by decide +kernel
theorem dL_lacks_7 : decode cL_lacks 7 = .ok (.astore_n 3, 1) := by decide +kernel
theorem dL_lacks_8 : decode cL_lacks 8 = .ok (.ldc 25, 2) := by decide +kernel
theorem dL_lacks_10 : decode cL_lacks 10 = .ok (.ireturn, 1) := by decide +kernel
set_option maxRecDepth 20000 in
theorem ggL_ofItem_X4_ofItem : GoodIn wsL_ofItem wsX4_ofItem := goodIn_ca (goodIn_ca (goodIn_r _ [8, 9, 10, 11, 12, 13, 14, 15, 16, 17, 18, 19, 20, 21, 22, 23, 7, 24, 25, 26, 27, 28, 29, 30, 31, 32, 33, 34, 35, 36, 37, 38, 39, 40, 41, 42, 43, 44, 45, 46, 47, 48] (by decide +kernel) (by decide +kernel)) (goodIn_sub (fun _ h => List.mem_cons_of_mem _ (List.mem_append_left _ (List.mem_append_right _ h))) (by decide +kernel))) (goodIn_sub (fun _ h => List.mem_cons_of_mem _ (List.mem_append_right _ h)) (by decide +kernel))
set_option maxRecDepth 20000 in
theorem gL_ofItem_X4_ofItem : GoodIn wsL_ofItem (wsV RL 92 RX4 yX4_ofItem wsX4_ofItem) := goodIn_app (goodIn_of _ (by decide +kernel)) ggL_ofItem_X4_ofItem
theorem dL_ofItem_0 : decode cL_ofItem 0 = .ok (.aload_n 0, 1) := by decide +kernel
theorem dL_ofItem_1 : decode cL_ofItem 1 = .ok (.iload_n 1, 1) := by decide +kernel
theorem dL_ofItem_2 : decode cL_ofItem 2 = .ok (.iload_n 2, 1) := by decide +kernel
theorem dL_ofItem_3 : decode cL_ofItem 3 = .ok (.invokevirtual 92, 3) := by decide +kernel
theorem dL_ofItem_6 : decode cL_ofItem 6 = .ok (.ireturn, 1) := by decide +kernel
theorem dL_ofItem_7 : decode cL_ofItem 7 = .ok (.astore_n 3, 1) := by decide +kernel
theorem dL_ofItem_8 : decode cL_ofItem 8 = .ok (.ldc 25, 2) := by decide +kernel
theorem dL_ofItem_10 : decode cL_ofItem 10 = .ok (.ireturn, 1) := by decide +kernel
theorem dL_ofItem_11 : decode cL_ofItem 11 = .ok (.astore_n 3, 1) := by decide +kernel
theorem dL_ofItem_12 : decode cL_ofItem 12 = .ok (.ldc 15, 2) := by decide +kernel
theorem dL_ofItem_14 : decode cL_ofItem 14 = .ok (.ireturn, 1) := by decide +kernel
set_option maxRecDepth 20000 in
theorem ggL_of_X4_ofAccused : GoodIn wsL_of wsX4_ofAccused := goodIn_ca (goodIn_ca (goodIn_r _ [8, 9, 10, 11, 12, 13, 14, 15, 16, 17, 18, 19, 20, 7, 21, 22, 23, 24, 25, 26, 27, 28, 29, 30, 31, 32, 33, 34, 35, 36, 37, 38, 39, 40, 41, 42, 43, 44, 45, 46, 47, 48, 49, 50, 51, 52, 53, 54, 55, 56, 57, 58, 59, 60, 61, 62, 63, 64, 65, 66, 67, 68, 69, 70, 71, 72, 73, 74, 75, 76, 77, 78, 79, 80, 81, 82, 83, 84, 85, 86, 87, 88, 89, 90, 91, 92, 93, 94, 95, 96] (by decide +kernel) (by decide +kernel)) (goodIn_sub (fun _ h => List.mem_cons_of_mem _ (List.mem_append_left _ (List.mem_append_right _ h))) (by decide +kernel))) (goodIn_sub (fun _ h => List.mem_cons_of_mem _ (List.mem_append_right _ h)) (by decide +kernel))
set_option maxRecDepth 20000 in
theorem gL_of_X4_ofAccused : GoodIn wsL_of (wsV RL 95 RX4 yX4_ofAccused wsX4_ofAccused) := goodIn_app (goodIn_of _ (by decide +kernel)) ggL_of_X4_ofAccused
theorem dL_of_0 : decode cL_of 0 = .ok (.aload_n 0, 1) := by decide +kernel
theorem dL_of_1 : decode cL_of 1 = .ok (.iload_n 1, 1) := by decide +kernel
theorem dL_of_2 : decode cL_of 2 = .ok (.iload_n 2, 1) := by decide +kernel
theorem dL_of_3 : decode cL_of 3 = .ok (.iload_n 3, 1) := by decide +kernel
theorem dL_of_4 : decode cL_of 4 = .ok (.invokevirtual 95, 3) := by decide +kernel
theorem dL_of_7 : decode cL_of 7 = .ok (.ireturn, 1) := by decide +kernel
theorem dL_of_8 : decode cL_of 8 = .ok (.astore 4, 2) := by decide +kernel
theorem dL_of_10 : decode cL_of 10 = .ok (.ldc 25, 2) := by decide +kernel
theorem dL_of_12 : decode cL_of 12 = .ok (.ireturn, 1) := by decide +kernel
theorem dL_of_13 : decode cL_of 13 = .ok (.astore 4, 2) := by decide +kernel
theorem dL_of_15 : decode cL_of 15 = .ok (.ldc 15, 2) := by decide +kernel
theorem dL_of_17 : decode cL_of 17 = .ok (.ireturn, 1) := by decide +kernel
set_option maxRecDepth 20000 in
theorem ggL_count_X4_count : GoodIn wsL_count wsX4_count := goodIn_ca (goodIn_r _ [7, 8, 9, 10, 11, 12, 13, 14, 15, 16, 17, 18, 19, 20, 21, 22, 23, 24, 25, 26, 27, 28] (by decide +kernel) (by decide +kernel)) (goodIn_sub (fun _ h => List.mem_cons_of_mem _ (List.mem_append_right _ h)) (by decide +kernel))
set_option maxRecDepth 20000 in
theorem gL_count_X4_count : GoodIn wsL_count (wsV RL 98 RX4 yX4_count wsX4_count) := goodIn_app (goodIn_of _ (by decide +kernel)) ggL_count_X4_count
theorem dL_count_0 : decode cL_count 0 = .ok (.aload_n 0, 1) := by decide +kernel
theorem dL_count_1 : decode cL_count 1 = .ok (.iload_n 1, 1) := by decide +kernel
theorem dL_count_2 : decode cL_count 2 = .ok (.invokevirtual 98, 3) := by decide +kernel
theorem dL_count_5 : decode cL_count 5 = .ok (.ireturn, 1) := by decide +kernel
theorem dL_count_6 : decode cL_count 6 = .ok (.astore_n 2, 1) := by decide +kernel
theorem dL_count_7 : decode cL_count 7 = .ok (.ldc 15, 2) := by decide +kernel
theorem dL_count_9 : decode cL_count 9 = .ok (.ireturn, 1) := by decide +kernel
theorem dL_drawn_0 : decode cL_drawn 0 = .ok (.iload_n 1, 1) := by decide +kernel
theorem dL_drawn_1 : decode cL_drawn 1 = .ok (.aload_n 0, 1) := by decide +kernel
theorem dL_drawn_2 : decode cL_drawn 2 = .ok (.arraylength, 1) := by decide +kernel
theorem dL_drawn_3 : decode cL_drawn 3 = .ok (.if_icmp .ge 9, 3) := by decide +kernel
theorem dL_drawn_6 : decode cL_drawn 6 = .ok (.aload_n 0, 1) := by decide +kernel
theorem dL_drawn_7 : decode cL_drawn 7 = .ok (.iload_n 1, 1) := by decide +kernel
theorem dL_drawn_8 : decode cL_drawn 8 = .ok (.iaload, 1) := by decide +kernel
theorem dL_drawn_9 : decode cL_drawn 9 = .ok (.goto 13, 3) := by decide +kernel
theorem dL_drawn_12 : decode cL_drawn 12 = .ok (.ldc 101, 2) := by decide +kernel
theorem dL_drawn_14 : decode cL_drawn 14 = .ok (.iload_n 1, 1) := by decide +kernel
theorem dL_drawn_15 : decode cL_drawn 15 = .ok (.iconst 3, 1) := by decide +kernel
theorem dL_drawn_16 : decode cL_drawn 16 = .ok (.iadd, 1) := by decide +kernel
theorem dL_drawn_17 : decode cL_drawn 17 = .ok (.imul, 1) := by decide +kernel
theorem dL_drawn_18 : decode cL_drawn 18 = .ok (.sipush 16871, 3) := by decide +kernel
theorem dL_drawn_21 : decode cL_drawn 21 = .ok (.iadd, 1) := by decide +kernel
theorem dL_drawn_22 : decode cL_drawn 22 = .ok (.ldc 102, 2) := by decide +kernel
theorem dL_drawn_24 : decode cL_drawn 24 = .ok (.iand, 1) := by decide +kernel
theorem dL_drawn_25 : decode cL_drawn 25 = .ok (.ireturn, 1) := by decide +kernel
theorem dL_isRefused_0 : decode cL_isRefused 0 = .ok (.iload_n 0, 1) := by decide +kernel
theorem dL_isRefused_1 : decode cL_isRefused 1 = .ok (.ldc 25, 2) := by decide +kernel
theorem dL_isRefused_3 : decode cL_isRefused 3 = .ok (.if_icmp .eq 15, 3) := by decide +kernel
theorem dL_isRefused_6 : decode cL_isRefused 6 = .ok (.iload_n 0, 1) := by decide +kernel
theorem dL_isRefused_7 : decode cL_isRefused 7 = .ok (.ldc 15, 2) := by decide +kernel
theorem dL_isRefused_9 : decode cL_isRefused 9 = .ok (.if_icmp .eq 9, 3) := by decide +kernel
theorem dL_isRefused_12 : decode cL_isRefused 12 = .ok (.iload_n 0, 1) := by decide +kernel
theorem dL_isRefused_13 : decode cL_isRefused 13 = .ok (.ldc 18, 2) := by decide +kernel
theorem dL_isRefused_15 : decode cL_isRefused 15 = .ok (.if_icmp .ne 7, 3) := by decide +kernel
theorem dL_isRefused_18 : decode cL_isRefused 18 = .ok (.iconst 1, 1) := by decide +kernel
theorem dL_isRefused_19 : decode cL_isRefused 19 = .ok (.goto 4, 3) := by decide +kernel
theorem dL_isRefused_22 : decode cL_isRefused 22 = .ok (.iconst 0, 1) := by decide +kernel
theorem dL_isRefused_23 : decode cL_isRefused 23 = .ok (.ireturn, 1) := by decide +kernel
theorem dL_bits_0 : decode cL_bits 0 = .ok (.iconst 0, 1) := by decide +kernel
theorem dL_bits_1 : decode cL_bits 1 = .ok (.istore_n 1, 1) := by decide +kernel
theorem dL_bits_2 : decode cL_bits 2 = .ok (.iconst 0, 1) := by decide +kernel
theorem dL_bits_3 : decode cL_bits 3 = .ok (.istore_n 2, 1) := by decide +kernel
theorem dL_bits_4 : decode cL_bits 4 = .ok (.iload_n 2, 1) := by decide +kernel
theorem dL_bits_5 : decode cL_bits 5 = .ok (.bipush 8, 2) := by decide +kernel
theorem dL_bits_7 : decode cL_bits 7 = .ok (.if_icmp .ge 17, 3) := by decide +kernel
theorem dL_bits_10 : decode cL_bits 10 = .ok (.iload_n 1, 1) := by decide +kernel
theorem dL_bits_11 : decode cL_bits 11 = .ok (.iload_n 0, 1) := by decide +kernel
theorem dL_bits_12 : decode cL_bits 12 = .ok (.iload_n 2, 1) := by decide +kernel
theorem dL_bits_13 : decode cL_bits 13 = .ok (.ishr, 1) := by decide +kernel
theorem dL_bits_14 : decode cL_bits 14 = .ok (.iconst 1, 1) := by decide +kernel
theorem dL_bits_15 : decode cL_bits 15 = .ok (.iand, 1) := by decide +kernel
theorem dL_bits_16 : decode cL_bits 16 = .ok (.iadd, 1) := by decide +kernel
theorem dL_bits_17 : decode cL_bits 17 = .ok (.istore_n 1, 1) := by decide +kernel
theorem dL_bits_18 : decode cL_bits 18 = .ok (.iinc 2 1, 3) := by decide +kernel
theorem dL_bits_21 : decode cL_bits 21 = .ok (.goto (-17), 3) := by decide +kernel
theorem dL_bits_24 : decode cL_bits 24 = .ok (.iload_n 1, 1) := by decide +kernel
theorem dL_bits_25 : decode cL_bits 25 = .ok (.ireturn, 1) := by decide +kernel
set_option maxRecDepth 20000 in
theorem ggL_mix_X4_day : GoodIn wsL_mix wsX4_day := goodIn_r _ [12, 13, 122, 123, 124, 125, 126, 127, 128, 129, 130, 131, 132, 133, 134] (by decide +kernel) (by decide +kernel)
set_option maxRecDepth 20000 in
theorem gL_mix_X4_day : GoodIn wsL_mix (wsV RL 105 RX4 yX4_day wsX4_day) := goodIn_app (goodIn_of _ (by decide +kernel)) ggL_mix_X4_day
set_option maxRecDepth 20000 in
theorem ggL_mix_L_count : GoodIn wsL_mix wsL_count := goodIn_ca (goodIn_r _ [17, 18, 19, 20, 21, 22, 11, 23, 24, 25, 26, 27, 28, 29, 30, 31, 122, 123, 124, 125, 126, 127, 128, 129, 130, 131, 132, 133, 134] (by decide +kernel) (by decide +kernel)) (goodIn_sub (fun _ h => List.mem_cons_of_mem _ (List.mem_append_left _ (List.mem_append_right _ h))) (by decide +kernel))
set_option maxRecDepth 20000 in
theorem gL_mix_L_count : GoodIn wsL_mix (va_wsS RL 111 yL_count wsL_count) := goodIn_app (goodIn_of _ (by decide +kernel)) ggL_mix_L_count
set_option maxRecDepth 20000 in
theorem ggL_mix_L_of : GoodIn wsL_mix wsL_of := goodIn_ca (goodIn_ca (goodIn_r _ [34, 35, 36, 19, 37, 38, 39, 11, 40, 24, 25, 41, 42, 43, 44, 45, 46, 47, 48, 49, 50, 51, 52, 53, 54, 55, 56, 57, 58, 59, 60, 61, 62, 63, 64, 65, 66, 67, 68, 69, 13, 70, 71, 72, 73, 74, 75, 76, 77, 78, 79, 80, 81, 82, 83, 84, 85, 86, 87, 88, 89, 135, 136, 137, 138, 139, 140, 141, 142, 143, 144, 145, 146, 147, 148, 122, 123, 124, 125, 126, 127, 128, 129, 130, 131, 132, 133, 134, 149, 150, 151, 152, 153, 154, 155, 156, 157] (by decide +kernel) (by decide +kernel)) (goodIn_sub (fun _ h => List.mem_cons_of_mem _ (List.mem_append_left _ (List.mem_append_right _ h))) (by decide +kernel))) (goodIn_sub (fun _ h => List.mem_cons_of_mem _ (List.mem_append_right _ h)) (by decide +kernel))
set_option maxRecDepth 20000 in
theorem gL_mix_L_of : GoodIn wsL_mix (va_wsS RL 116 yL_of wsL_of) := goodIn_app (goodIn_of _ (by decide +kernel)) ggL_mix_L_of
set_option maxRecDepth 20000 in
theorem ggL_mix_L_ofItem : GoodIn wsL_mix wsL_ofItem := goodIn_ca (goodIn_ca (goodIn_r _ [92, 35, 36, 19, 93, 94, 95, 11, 96, 52, 53, 24, 25, 97, 98, 99, 100, 101, 102, 103, 104, 105, 106, 107, 108, 109, 158, 159, 160, 161, 162, 163, 164, 165, 166, 167, 122, 123, 124, 125, 126, 127, 128, 129, 130, 131, 132, 133, 134] (by decide +kernel) (by decide +kernel)) (goodIn_sub (fun _ h => List.mem_cons_of_mem _ (List.mem_append_right _ h)) (by decide +kernel))) (goodIn_sub (fun _ h => List.mem_cons_of_mem _ (List.mem_append_left _ (List.mem_append_right _ h))) (by decide +kernel))
set_option maxRecDepth 20000 in
theorem gL_mix_L_ofItem : GoodIn wsL_mix (va_wsS RL 122 yL_ofItem wsL_ofItem) := goodIn_app (goodIn_of _ (by decide +kernel)) ggL_mix_L_ofItem
set_option maxRecDepth 20000 in
theorem ggL_mix_L_nests : GoodIn wsL_mix wsL_nests := goodIn_ca (goodIn_r _ [112, 35, 36, 113, 114, 115, 11, 116, 52, 53, 117, 118, 119, 120, 69, 121, 81, 82, 77, 83, 79, 122, 123, 124, 125, 126, 127, 128, 129, 130, 131, 132, 133, 134, 154, 155, 156, 157] (by decide +kernel) (by decide +kernel)) (goodIn_sub (fun _ h => List.mem_cons_of_mem _ (List.mem_append_right _ h)) (by decide +kernel))
set_option maxRecDepth 20000 in
theorem gL_mix_L_nests : GoodIn wsL_mix (va_wsS RL 133 yL_nests wsL_nests) := goodIn_app (goodIn_of _ (by decide +kernel)) ggL_mix_L_nests
theorem dL_mix_0 : decode cL_mix 0 = .ok (.aload_n 0, 1) := by decide +kernel
theorem dL_mix_1 : decode cL_mix 1 = .ok (.invokevirtual 105, 3) := by decide +kernel
theorem dL_mix_4 : decode cL_mix 4 = .ok (.i2l, 1) := by decide +kernel
theorem dL_mix_5 : decode cL_mix 5 = .ok (.lstore_n 3, 1) := by decide +kernel
theorem dL_mix_6 : decode cL_mix 6 = .ok (.iconst 0, 1) := by decide +kernel
theorem dL_mix_7 : decode cL_mix 7 = .ok (.istore 5, 2) := by decide +kernel
theorem dL_mix_9 : decode cL_mix 9 = .ok (.iload 5, 2) := by decide +kernel
theorem dL_mix_11 : decode cL_mix 11 = .ok (.bipush 6, 2) := by decide +kernel
theorem dL_mix_13 : decode cL_mix 13 = .ok (.if_icmp .ge 23, 3) := by decide +kernel
theorem dL_mix_16 : decode cL_mix 16 = .ok (.ldc2_w 109, 3) := by decide +kernel
theorem dL_mix_19 : decode cL_mix 19 = .ok (.lload_n 3, 1) := by decide +kernel
theorem dL_mix_20 : decode cL_mix 20 = .ok (.lmul, 1) := by decide +kernel
theorem dL_mix_21 : decode cL_mix 21 = .ok (.aload_n 0, 1) := by decide +kernel
theorem dL_mix_22 : decode cL_mix 22 = .ok (.iload 5, 2) := by decide +kernel
theorem dL_mix_24 : decode cL_mix 24 = .ok (.invokestatic 111, 3) := by decide +kernel
theorem dL_mix_27 : decode cL_mix 27 = .ok (.i2l, 1) := by decide +kernel
theorem dL_mix_28 : decode cL_mix 28 = .ok (.ladd, 1) := by decide +kernel
theorem dL_mix_29 : decode cL_mix 29 = .ok (.lstore_n 3, 1) := by decide +kernel
theorem dL_mix_30 : decode cL_mix 30 = .ok (.iinc 5 1, 3) := by decide +kernel
theorem dL_mix_33 : decode cL_mix 33 = .ok (.goto (-24), 3) := by decide +kernel
theorem dL_mix_36 : decode cL_mix 36 = .ok (.iconst 0, 1) := by decide +kernel
theorem dL_mix_37 : decode cL_mix 37 = .ok (.istore 5, 2) := by decide +kernel
theorem dL_mix_39 : decode cL_mix 39 = .ok (.iload 5, 2) := by decide +kernel
theorem dL_mix_41 : decode cL_mix 41 = .ok (.bipush 8, 2) := by decide +kernel
theorem dL_mix_43 : decode cL_mix 43 = .ok (.aload_n 1, 1) := by decide +kernel
theorem dL_mix_44 : decode cL_mix 44 = .ok (.iconst 1, 1) := by decide +kernel
theorem dL_mix_45 : decode cL_mix 45 = .ok (.iaload, 1) := by decide +kernel
theorem dL_mix_46 : decode cL_mix 46 = .ok (.imul, 1) := by decide +kernel
theorem dL_mix_47 : decode cL_mix 47 = .ok (.if_icmp .ge 68, 3) := by decide +kernel
theorem dL_mix_50 : decode cL_mix 50 = .ok (.aload_n 2, 1) := by decide +kernel
theorem dL_mix_51 : decode cL_mix 51 = .ok (.iload 5, 2) := by decide +kernel
theorem dL_mix_53 : decode cL_mix 53 = .ok (.bipush 8, 2) := by decide +kernel
theorem dL_mix_55 : decode cL_mix 55 = .ok (.idiv, 1) := by decide +kernel
theorem dL_mix_56 : decode cL_mix 56 = .ok (.iaload, 1) := by decide +kernel
theorem dL_mix_57 : decode cL_mix 57 = .ok (.iload 5, 2) := by decide +kernel
theorem dL_mix_59 : decode cL_mix 59 = .ok (.bipush 8, 2) := by decide +kernel
theorem dL_mix_61 : decode cL_mix 61 = .ok (.irem, 1) := by decide +kernel
theorem dL_mix_62 : decode cL_mix 62 = .ok (.ishr, 1) := by decide +kernel
theorem dL_mix_63 : decode cL_mix 63 = .ok (.iconst 1, 1) := by decide +kernel
theorem dL_mix_64 : decode cL_mix 64 = .ok (.iand, 1) := by decide +kernel
theorem dL_mix_65 : decode cL_mix 65 = .ok (.iconst 1, 1) := by decide +kernel
theorem dL_mix_66 : decode cL_mix 66 = .ok (.if_icmp .ne 43, 3) := by decide +kernel
theorem dL_mix_69 : decode cL_mix 69 = .ok (.iconst 0, 1) := by decide +kernel
theorem dL_mix_70 : decode cL_mix 70 = .ok (.istore 6, 2) := by decide +kernel
theorem dL_mix_72 : decode cL_mix 72 = .ok (.iload 6, 2) := by decide +kernel
theorem dL_mix_74 : decode cL_mix 74 = .ok (.bipush 8, 2) := by decide +kernel
theorem dL_mix_76 : decode cL_mix 76 = .ok (.if_icmp .ge 33, 3) := by decide +kernel
theorem dL_mix_79 : decode cL_mix 79 = .ok (.ldc2_w 114, 3) := by decide +kernel
theorem dL_mix_82 : decode cL_mix 82 = .ok (.lload_n 3, 1) := by decide +kernel
theorem dL_mix_83 : decode cL_mix 83 = .ok (.lmul, 1) := by decide +kernel
theorem dL_mix_84 : decode cL_mix 84 = .ok (.aload_n 0, 1) := by decide +kernel
theorem dL_mix_85 : decode cL_mix 85 = .ok (.iload 5, 2) := by decide +kernel
theorem dL_mix_87 : decode cL_mix 87 = .ok (.bipush 8, 2) := by decide +kernel
theorem dL_mix_89 : decode cL_mix 89 = .ok (.idiv, 1) := by decide +kernel
theorem dL_mix_90 : decode cL_mix 90 = .ok (.iload 5, 2) := by decide +kernel
theorem dL_mix_92 : decode cL_mix 92 = .ok (.bipush 8, 2) := by decide +kernel
theorem dL_mix_94 : decode cL_mix 94 = .ok (.irem, 1) := by decide +kernel
theorem dL_mix_95 : decode cL_mix 95 = .ok (.iload 6, 2) := by decide +kernel
theorem dL_mix_97 : decode cL_mix 97 = .ok (.invokestatic 116, 3) := by decide +kernel
theorem dL_mix_100 : decode cL_mix 100 = .ok (.i2l, 1) := by decide +kernel
theorem dL_mix_101 : decode cL_mix 101 = .ok (.ladd, 1) := by decide +kernel
theorem dL_mix_102 : decode cL_mix 102 = .ok (.lstore_n 3, 1) := by decide +kernel
theorem dL_mix_103 : decode cL_mix 103 = .ok (.iinc 6 1, 3) := by decide +kernel
theorem dL_mix_106 : decode cL_mix 106 = .ok (.goto (-34), 3) := by decide +kernel
theorem dL_mix_109 : decode cL_mix 109 = .ok (.iinc 5 1, 3) := by decide +kernel
theorem dL_mix_112 : decode cL_mix 112 = .ok (.goto (-73), 3) := by decide +kernel
theorem dL_mix_115 : decode cL_mix 115 = .ok (.iconst 0, 1) := by decide +kernel
theorem dL_mix_116 : decode cL_mix 116 = .ok (.istore 5, 2) := by decide +kernel
theorem dL_mix_118 : decode cL_mix 118 = .ok (.iload 5, 2) := by decide +kernel
theorem dL_mix_120 : decode cL_mix 120 = .ok (.aload_n 1, 1) := by decide +kernel
theorem dL_mix_121 : decode cL_mix 121 = .ok (.iconst 2, 1) := by decide +kernel
theorem dL_mix_122 : decode cL_mix 122 = .ok (.iaload, 1) := by decide +kernel
theorem dL_mix_123 : decode cL_mix 123 = .ok (.if_icmp .ge 65, 3) := by decide +kernel
theorem dL_mix_126 : decode cL_mix 126 = .ok (.ldc2_w 120, 3) := by decide +kernel
theorem dL_mix_129 : decode cL_mix 129 = .ok (.lload_n 3, 1) := by decide +kernel
theorem dL_mix_130 : decode cL_mix 130 = .ok (.lmul, 1) := by decide +kernel
theorem dL_mix_131 : decode cL_mix 131 = .ok (.aload_n 0, 1) := by decide +kernel
theorem dL_mix_132 : decode cL_mix 132 = .ok (.iload 5, 2) := by decide +kernel
theorem dL_mix_134 : decode cL_mix 134 = .ok (.iconst 4, 1) := by decide +kernel
theorem dL_mix_135 : decode cL_mix 135 = .ok (.invokestatic 122, 3) := by decide +kernel
theorem dL_mix_138 : decode cL_mix 138 = .ok (.i2l, 1) := by decide +kernel
theorem dL_mix_139 : decode cL_mix 139 = .ok (.ladd, 1) := by decide +kernel
theorem dL_mix_140 : decode cL_mix 140 = .ok (.ldc2_w 125, 3) := by decide +kernel
theorem dL_mix_143 : decode cL_mix 143 = .ok (.aload_n 0, 1) := by decide +kernel
theorem dL_mix_144 : decode cL_mix 144 = .ok (.iload 5, 2) := by decide +kernel
theorem dL_mix_146 : decode cL_mix 146 = .ok (.iconst 5, 1) := by decide +kernel
theorem dL_mix_147 : decode cL_mix 147 = .ok (.invokestatic 122, 3) := by decide +kernel
theorem dL_mix_150 : decode cL_mix 150 = .ok (.i2l, 1) := by decide +kernel
theorem dL_mix_151 : decode cL_mix 151 = .ok (.lmul, 1) := by decide +kernel
theorem dL_mix_152 : decode cL_mix 152 = .ok (.ladd, 1) := by decide +kernel
theorem dL_mix_153 : decode cL_mix 153 = .ok (.ldc2_w 127, 3) := by decide +kernel
theorem dL_mix_156 : decode cL_mix 156 = .ok (.aload_n 0, 1) := by decide +kernel
theorem dL_mix_157 : decode cL_mix 157 = .ok (.iload 5, 2) := by decide +kernel
theorem dL_mix_159 : decode cL_mix 159 = .ok (.bipush 6, 2) := by decide +kernel
theorem dL_mix_161 : decode cL_mix 161 = .ok (.invokestatic 122, 3) := by decide +kernel
theorem dL_mix_164 : decode cL_mix 164 = .ok (.i2l, 1) := by decide +kernel
theorem dL_mix_165 : decode cL_mix 165 = .ok (.lmul, 1) := by decide +kernel
theorem dL_mix_166 : decode cL_mix 166 = .ok (.ladd, 1) := by decide +kernel
theorem dL_mix_167 : decode cL_mix 167 = .ok (.ldc2_w 129, 3) := by decide +kernel
theorem dL_mix_170 : decode cL_mix 170 = .ok (.aload_n 0, 1) := by decide +kernel
theorem dL_mix_171 : decode cL_mix 171 = .ok (.iload 5, 2) := by decide +kernel
theorem dL_mix_173 : decode cL_mix 173 = .ok (.bipush 7, 2) := by decide +kernel
theorem dL_mix_175 : decode cL_mix 175 = .ok (.invokestatic 122, 3) := by decide +kernel
theorem dL_mix_178 : decode cL_mix 178 = .ok (.i2l, 1) := by decide +kernel
theorem dL_mix_179 : decode cL_mix 179 = .ok (.lmul, 1) := by decide +kernel
theorem dL_mix_180 : decode cL_mix 180 = .ok (.ladd, 1) := by decide +kernel
theorem dL_mix_181 : decode cL_mix 181 = .ok (.lstore_n 3, 1) := by decide +kernel
theorem dL_mix_182 : decode cL_mix 182 = .ok (.iinc 5 1, 3) := by decide +kernel
theorem dL_mix_185 : decode cL_mix 185 = .ok (.goto (-67), 3) := by decide +kernel
theorem dL_mix_188 : decode cL_mix 188 = .ok (.iconst 0, 1) := by decide +kernel
theorem dL_mix_189 : decode cL_mix 189 = .ok (.istore 5, 2) := by decide +kernel
theorem dL_mix_191 : decode cL_mix 191 = .ok (.iload 5, 2) := by decide +kernel
theorem dL_mix_193 : decode cL_mix 193 = .ok (.aload_n 1, 1) := by decide +kernel
theorem dL_mix_194 : decode cL_mix 194 = .ok (.iconst 0, 1) := by decide +kernel
theorem dL_mix_195 : decode cL_mix 195 = .ok (.iaload, 1) := by decide +kernel
theorem dL_mix_196 : decode cL_mix 196 = .ok (.aload_n 1, 1) := by decide +kernel
theorem dL_mix_197 : decode cL_mix 197 = .ok (.iconst 0, 1) := by decide +kernel
theorem dL_mix_198 : decode cL_mix 198 = .ok (.iaload, 1) := by decide +kernel
theorem dL_mix_199 : decode cL_mix 199 = .ok (.imul, 1) := by decide +kernel
theorem dL_mix_200 : decode cL_mix 200 = .ok (.if_icmp .ge 33, 3) := by decide +kernel
theorem dL_mix_203 : decode cL_mix 203 = .ok (.ldc2_w 131, 3) := by decide +kernel
theorem dL_mix_206 : decode cL_mix 206 = .ok (.lload_n 3, 1) := by decide +kernel
theorem dL_mix_207 : decode cL_mix 207 = .ok (.lmul, 1) := by decide +kernel
theorem dL_mix_208 : decode cL_mix 208 = .ok (.aload_n 0, 1) := by decide +kernel
theorem dL_mix_209 : decode cL_mix 209 = .ok (.iload 5, 2) := by decide +kernel
theorem dL_mix_211 : decode cL_mix 211 = .ok (.aload_n 1, 1) := by decide +kernel
theorem dL_mix_212 : decode cL_mix 212 = .ok (.iconst 0, 1) := by decide +kernel
theorem dL_mix_213 : decode cL_mix 213 = .ok (.iaload, 1) := by decide +kernel
theorem dL_mix_214 : decode cL_mix 214 = .ok (.idiv, 1) := by decide +kernel
theorem dL_mix_215 : decode cL_mix 215 = .ok (.iload 5, 2) := by decide +kernel
theorem dL_mix_217 : decode cL_mix 217 = .ok (.aload_n 1, 1) := by decide +kernel
theorem dL_mix_218 : decode cL_mix 218 = .ok (.iconst 0, 1) := by decide +kernel
theorem dL_mix_219 : decode cL_mix 219 = .ok (.iaload, 1) := by decide +kernel
theorem dL_mix_220 : decode cL_mix 220 = .ok (.irem, 1) := by decide +kernel
theorem dL_mix_221 : decode cL_mix 221 = .ok (.invokestatic 133, 3) := by decide +kernel
theorem dL_mix_224 : decode cL_mix 224 = .ok (.i2l, 1) := by decide +kernel
theorem dL_mix_225 : decode cL_mix 225 = .ok (.ladd, 1) := by decide +kernel
theorem dL_mix_226 : decode cL_mix 226 = .ok (.lstore_n 3, 1) := by decide +kernel
theorem dL_mix_227 : decode cL_mix 227 = .ok (.iinc 5 1, 3) := by decide +kernel
theorem dL_mix_230 : decode cL_mix 230 = .ok (.goto (-39), 3) := by decide +kernel
theorem dL_mix_233 : decode cL_mix 233 = .ok (.lload_n 3, 1) := by decide +kernel
theorem dL_mix_234 : decode cL_mix 234 = .ok (.lreturn, 1) := by decide +kernel
set_option maxRecDepth 20000 in
theorem ggL_known_L_whyNot : GoodIn wsL_known wsL_whyNot := goodIn_ca (goodIn_ca (goodIn_r _ [6, 7, 8, 9, 10, 11, 12, 13, 14, 15, 16, 17, 18, 19, 20, 21, 22, 23, 24, 25, 26, 27, 28, 29, 30, 31, 32, 33, 34, 35, 36, 37, 38, 39, 40, 41, 42, 43, 44, 45, 46, 47, 48, 49, 50, 51, 52, 53, 54, 55, 56, 57, 58, 59, 60, 61, 62, 63, 64, 65, 66, 67, 68, 69, 70, 71, 72, 73, 74, 75, 76, 77, 78, 79, 80, 81, 82, 83, 84, 85, 86, 87, 88, 89, 90, 91, 92, 93, 94, 95, 96, 97, 98, 99, 100, 101, 102, 103, 104, 105, 106, 114, 115, 116, 117, 118, 119, 120, 121, 122, 123, 124, 125, 126, 127, 128, 129, 130, 131, 132, 133, 134, 135, 136, 137, 138, 139, 140, 141, 142, 143, 144, 145, 146, 147, 148, 149, 150, 151, 152, 153, 154, 155, 156, 157, 158, 159] (by decide +kernel) (by decide +kernel)) (goodIn_sub (fun _ h => List.mem_cons_of_mem _ (List.mem_append_left _ (List.mem_append_right _ h))) (by decide +kernel))) (goodIn_sub (fun _ h => List.mem_cons_of_mem _ (List.mem_append_right _ h)) (by decide +kernel))
set_option maxRecDepth 20000 in
theorem gL_known_L_whyNot : GoodIn wsL_known (va_wsS RL 135 yL_whyNot wsL_whyNot) := goodIn_app (goodIn_of _ (by decide +kernel)) ggL_known_L_whyNot
set_option maxRecDepth 20000 in
theorem ggL_known_L_strength : GoodIn wsL_known wsL_strength := goodIn_ca (goodIn_ca (goodIn_r _ [109, 7, 8, 9, 110, 111, 112, 13, 113, 15, 16, 17, 18, 19, 20, 21, 22, 23, 24, 25, 26, 27, 28, 29, 30, 31, 44, 45, 46, 37, 38, 39, 40, 41, 42, 43, 84, 85, 86, 87, 88, 89, 51, 90, 91, 92, 93, 94, 95, 96, 97, 98, 99, 82, 83, 100, 101, 102, 103, 104, 105, 106, 114, 115, 116, 117, 118, 119, 120, 121, 122, 123, 124, 125, 126, 127, 128, 129, 130, 131, 150, 151, 152, 153, 154, 155, 156, 157, 158, 159, 132, 133, 134, 135, 136, 137, 138, 139, 140, 141, 142, 143, 144, 145] (by decide +kernel) (by decide +kernel)) (goodIn_sub (fun _ h => List.mem_cons_of_mem _ (List.mem_append_left _ (List.mem_append_right _ h))) (by decide +kernel))) (goodIn_sub (fun _ h => List.mem_cons_of_mem _ (List.mem_append_right _ h)) (by decide +kernel))
set_option maxRecDepth 20000 in
theorem gL_known_L_strength : GoodIn wsL_known (va_wsS RL 138 yL_strength wsL_strength) := goodIn_app (goodIn_of _ (by decide +kernel)) ggL_known_L_strength
theorem dL_known_0 : decode cL_known 0 = .ok (.lconst 0, 1) := by decide +kernel
theorem dL_known_1 : decode cL_known 1 = .ok (.lstore 4, 2) := by decide +kernel
theorem dL_known_3 : decode cL_known 3 = .ok (.iconst 0, 1) := by decide +kernel
theorem dL_known_4 : decode cL_known 4 = .ok (.istore 6, 2) := by decide +kernel
theorem dL_known_6 : decode cL_known 6 = .ok (.iload 6, 2) := by decide +kernel
theorem dL_known_8 : decode cL_known 8 = .ok (.aload_n 1, 1) := by decide +kernel
theorem dL_known_9 : decode cL_known 9 = .ok (.iconst 0, 1) := by decide +kernel
theorem dL_known_10 : decode cL_known 10 = .ok (.iaload, 1) := by decide +kernel
theorem dL_known_11 : decode cL_known 11 = .ok (.if_icmp .ge 34, 3) := by decide +kernel
theorem dL_known_14 : decode cL_known 14 = .ok (.ldc2_w 109, 3) := by decide +kernel
theorem dL_known_17 : decode cL_known 17 = .ok (.lload 4, 2) := by decide +kernel
theorem dL_known_19 : decode cL_known 19 = .ok (.lmul, 1) := by decide +kernel
theorem dL_known_20 : decode cL_known 20 = .ok (.aload_n 0, 1) := by decide +kernel
theorem dL_known_21 : decode cL_known 21 = .ok (.iload_n 2, 1) := by decide +kernel
theorem dL_known_22 : decode cL_known 22 = .ok (.bipush 8, 2) := by decide +kernel
theorem dL_known_24 : decode cL_known 24 = .ok (.idiv, 1) := by decide +kernel
theorem dL_known_25 : decode cL_known 25 = .ok (.iload_n 2, 1) := by decide +kernel
theorem dL_known_26 : decode cL_known 26 = .ok (.bipush 8, 2) := by decide +kernel
theorem dL_known_28 : decode cL_known 28 = .ok (.irem, 1) := by decide +kernel
theorem dL_known_29 : decode cL_known 29 = .ok (.iload 6, 2) := by decide +kernel
theorem dL_known_31 : decode cL_known 31 = .ok (.iload_n 3, 1) := by decide +kernel
theorem dL_known_32 : decode cL_known 32 = .ok (.invokestatic 135, 3) := by decide +kernel
theorem dL_known_35 : decode cL_known 35 = .ok (.i2l, 1) := by decide +kernel
theorem dL_known_36 : decode cL_known 36 = .ok (.ladd, 1) := by decide +kernel
theorem dL_known_37 : decode cL_known 37 = .ok (.lstore 4, 2) := by decide +kernel
theorem dL_known_39 : decode cL_known 39 = .ok (.iinc 6 1, 3) := by decide +kernel
theorem dL_known_42 : decode cL_known 42 = .ok (.goto (-36), 3) := by decide +kernel
theorem dL_known_45 : decode cL_known 45 = .ok (.iconst 0, 1) := by decide +kernel
theorem dL_known_46 : decode cL_known 46 = .ok (.istore 6, 2) := by decide +kernel
theorem dL_known_48 : decode cL_known 48 = .ok (.iload 6, 2) := by decide +kernel
theorem dL_known_50 : decode cL_known 50 = .ok (.bipush 10, 2) := by decide +kernel
theorem dL_known_52 : decode cL_known 52 = .ok (.if_icmp .ge 34, 3) := by decide +kernel
theorem dL_known_55 : decode cL_known 55 = .ok (.ldc2_w 114, 3) := by decide +kernel
theorem dL_known_58 : decode cL_known 58 = .ok (.lload 4, 2) := by decide +kernel
theorem dL_known_60 : decode cL_known 60 = .ok (.lmul, 1) := by decide +kernel
theorem dL_known_61 : decode cL_known 61 = .ok (.aload_n 0, 1) := by decide +kernel
theorem dL_known_62 : decode cL_known 62 = .ok (.iload_n 2, 1) := by decide +kernel
theorem dL_known_63 : decode cL_known 63 = .ok (.bipush 8, 2) := by decide +kernel
theorem dL_known_65 : decode cL_known 65 = .ok (.idiv, 1) := by decide +kernel
theorem dL_known_66 : decode cL_known 66 = .ok (.iload_n 2, 1) := by decide +kernel
theorem dL_known_67 : decode cL_known 67 = .ok (.bipush 8, 2) := by decide +kernel
theorem dL_known_69 : decode cL_known 69 = .ok (.irem, 1) := by decide +kernel
theorem dL_known_70 : decode cL_known 70 = .ok (.iload 6, 2) := by decide +kernel
theorem dL_known_72 : decode cL_known 72 = .ok (.iload_n 3, 1) := by decide +kernel
theorem dL_known_73 : decode cL_known 73 = .ok (.invokestatic 138, 3) := by decide +kernel
theorem dL_known_76 : decode cL_known 76 = .ok (.i2l, 1) := by decide +kernel
theorem dL_known_77 : decode cL_known 77 = .ok (.ladd, 1) := by decide +kernel
theorem dL_known_78 : decode cL_known 78 = .ok (.lstore 4, 2) := by decide +kernel
theorem dL_known_80 : decode cL_known 80 = .ok (.iinc 6 1, 3) := by decide +kernel
theorem dL_known_83 : decode cL_known 83 = .ok (.goto (-35), 3) := by decide +kernel
theorem dL_known_86 : decode cL_known 86 = .ok (.lload 4, 2) := by decide +kernel
theorem dL_known_88 : decode cL_known 88 = .ok (.lreturn, 1) := by decide +kernel
set_option maxRecDepth 20000 in
theorem ggL_isHeld_L_of : GoodIn wsL_isHeld wsL_of := goodIn_ca (goodIn_ca (goodIn_r _ [4, 5, 6, 7, 8, 9, 10, 11, 12, 13, 14, 15, 16, 17, 18, 19, 20, 21, 22, 23, 24, 25, 26, 27, 28, 29, 30, 31, 32, 33, 34, 35, 36, 37, 38, 39, 40, 41, 42, 43, 44, 45, 46, 47, 48, 49, 50, 51, 52, 53, 54, 55, 56, 57, 58, 59, 60, 61, 62, 63, 64, 65, 66, 67, 68, 69, 70, 71, 72, 73, 74, 75, 76, 77, 78, 79, 80, 81, 82, 83, 84, 85, 86, 87, 88, 89, 90, 91, 92, 93, 94, 95, 96, 97, 98, 99, 100] (by decide +kernel) (by decide +kernel)) (goodIn_sub (fun _ h => List.mem_cons_of_mem _ (List.mem_append_left _ (List.mem_append_right _ h))) (by decide +kernel))) (goodIn_sub (fun _ h => List.mem_cons_of_mem _ (List.mem_append_right _ h)) (by decide +kernel))
set_option maxRecDepth 20000 in
theorem gL_isHeld_L_of : GoodIn wsL_isHeld (va_wsS RL 116 yL_of wsL_of) := goodIn_app (goodIn_of _ (by decide +kernel)) ggL_isHeld_L_of
end
section
theorem dL_isHeld_0 : decode cL_isHeld 0 = .ok (.iload_n 1, 1) := by decide +kernel
theorem dL_isHeld_1 : decode cL_isHeld 1 = .ok (.bipush 8, 2) := by decide +kernel
theorem dL_isHeld_3 : decode cL_isHeld 3 = .ok (.idiv, 1) := by decide +kernel
theorem dL_isHeld_4 : decode cL_isHeld 4 = .ok (.istore 4, 2) := by decide +kernel
theorem dL_isHeld_6 : decode cL_isHeld 6 = .ok (.iload_n 1, 1) := by decide +kernel
theorem dL_isHeld_7 : decode cL_isHeld 7 = .ok (.bipush 8, 2) := by decide +kernel
theorem dL_isHeld_9 : decode cL_isHeld 9 = .ok (.irem, 1) := by decide +kernel
theorem dL_isHeld_10 : decode cL_isHeld 10 = .ok (.istore 5, 2) := by decide +kernel
theorem dL_isHeld_12 : decode cL_isHeld 12 = .ok (.aload_n 0, 1) := by decide +kernel
theorem dL_isHeld_13 : decode cL_isHeld 13 = .ok (.iload 4, 2) := by decide +kernel
theorem dL_isHeld_15 : decode cL_isHeld 15 = .ok (.iload 5, 2) := by decide +kernel
theorem dL_isHeld_17 : decode cL_isHeld 17 = .ok (.iconst 0, 1) := by decide +kernel
theorem dL_isHeld_18 : decode cL_isHeld 18 = .ok (.invokestatic 116, 3) := by decide +kernel
theorem dL_isHeld_21 : decode cL_isHeld 21 = .ok (.istore 6, 2) := by decide +kernel
theorem dL_isHeld_23 : decode cL_isHeld 23 = .ok (.aload_n 0, 1) := by decide +kernel
theorem dL_isHeld_24 : decode cL_isHeld 24 = .ok (.iload 4, 2) := by decide +kernel
theorem dL_isHeld_26 : decode cL_isHeld 26 = .ok (.iload 5, 2) := by decide +kernel
theorem dL_isHeld_28 : decode cL_isHeld 28 = .ok (.bipush 7, 2) := by decide +kernel
theorem dL_isHeld_30 : decode cL_isHeld 30 = .ok (.invokestatic 116, 3) := by decide +kernel
theorem dL_isHeld_33 : decode cL_isHeld 33 = .ok (.istore 7, 2) := by decide +kernel
theorem dL_isHeld_35 : decode cL_isHeld 35 = .ok (.aload_n 0, 1) := by decide +kernel
theorem dL_isHeld_36 : decode cL_isHeld 36 = .ok (.iload 4, 2) := by decide +kernel
theorem dL_isHeld_38 : decode cL_isHeld 38 = .ok (.iload 5, 2) := by decide +kernel
theorem dL_isHeld_40 : decode cL_isHeld 40 = .ok (.bipush 6, 2) := by decide +kernel
theorem dL_isHeld_42 : decode cL_isHeld 42 = .ok (.invokestatic 116, 3) := by decide +kernel
theorem dL_isHeld_45 : decode cL_isHeld 45 = .ok (.istore 8, 2) := by decide +kernel
theorem dL_isHeld_47 : decode cL_isHeld 47 = .ok (.aload_n 0, 1) := by decide +kernel
theorem dL_isHeld_48 : decode cL_isHeld 48 = .ok (.iload 4, 2) := by decide +kernel
theorem dL_isHeld_50 : decode cL_isHeld 50 = .ok (.iload 5, 2) := by decide +kernel
theorem dL_isHeld_52 : decode cL_isHeld 52 = .ok (.iconst 3, 1) := by decide +kernel
theorem dL_isHeld_53 : decode cL_isHeld 53 = .ok (.invokestatic 116, 3) := by decide +kernel
theorem dL_isHeld_56 : decode cL_isHeld 56 = .ok (.istore 9, 2) := by decide +kernel
theorem dL_isHeld_58 : decode cL_isHeld 58 = .ok (.aload_n 2, 1) := by decide +kernel
theorem dL_isHeld_59 : decode cL_isHeld 59 = .ok (.iload_n 3, 1) := by decide +kernel
theorem dL_isHeld_60 : decode cL_isHeld 60 = .ok (.iaload, 1) := by decide +kernel
theorem dL_isHeld_61 : decode cL_isHeld 61 = .ok (.iload 7, 2) := by decide +kernel
theorem dL_isHeld_63 : decode cL_isHeld 63 = .ok (.iconst (-1), 1) := by decide +kernel
theorem dL_isHeld_64 : decode cL_isHeld 64 = .ok (.ixor, 1) := by decide +kernel
theorem dL_isHeld_65 : decode cL_isHeld 65 = .ok (.iand, 1) := by decide +kernel
theorem dL_isHeld_66 : decode cL_isHeld 66 = .ok (.ifCond .ne 164, 3) := by decide +kernel
theorem dL_isHeld_69 : decode cL_isHeld 69 = .ok (.aload_n 2, 1) := by decide +kernel
theorem dL_isHeld_70 : decode cL_isHeld 70 = .ok (.iload_n 3, 1) := by decide +kernel
theorem dL_isHeld_71 : decode cL_isHeld 71 = .ok (.iconst 1, 1) := by decide +kernel
theorem dL_isHeld_72 : decode cL_isHeld 72 = .ok (.iadd, 1) := by decide +kernel
theorem dL_isHeld_73 : decode cL_isHeld 73 = .ok (.iaload, 1) := by decide +kernel
theorem dL_isHeld_74 : decode cL_isHeld 74 = .ok (.iload 8, 2) := by decide +kernel
theorem dL_isHeld_76 : decode cL_isHeld 76 = .ok (.iconst (-1), 1) := by decide +kernel
theorem dL_isHeld_77 : decode cL_isHeld 77 = .ok (.ixor, 1) := by decide +kernel
theorem dL_isHeld_78 : decode cL_isHeld 78 = .ok (.iand, 1) := by decide +kernel
theorem dL_isHeld_79 : decode cL_isHeld 79 = .ok (.ifCond .ne 151, 3) := by decide +kernel
theorem dL_isHeld_82 : decode cL_isHeld 82 = .ok (.iload 8, 2) := by decide +kernel
theorem dL_isHeld_84 : decode cL_isHeld 84 = .ok (.iload 7, 2) := by decide +kernel
theorem dL_isHeld_86 : decode cL_isHeld 86 = .ok (.iconst (-1), 1) := by decide +kernel
theorem dL_isHeld_87 : decode cL_isHeld 87 = .ok (.ixor, 1) := by decide +kernel
theorem dL_isHeld_88 : decode cL_isHeld 88 = .ok (.iand, 1) := by decide +kernel
theorem dL_isHeld_89 : decode cL_isHeld 89 = .ok (.ifCond .ne 141, 3) := by decide +kernel
theorem dL_isHeld_92 : decode cL_isHeld 92 = .ok (.iload 6, 2) := by decide +kernel
theorem dL_isHeld_94 : decode cL_isHeld 94 = .ok (.ifCond .lt 136, 3) := by decide +kernel
theorem dL_isHeld_97 : decode cL_isHeld 97 = .ok (.iload 6, 2) := by decide +kernel
theorem dL_isHeld_99 : decode cL_isHeld 99 = .ok (.iconst 2, 1) := by decide +kernel
theorem dL_isHeld_100 : decode cL_isHeld 100 = .ok (.if_icmp .gt 130, 3) := by decide +kernel
theorem dL_isHeld_103 : decode cL_isHeld 103 = .ok (.aload_n 0, 1) := by decide +kernel
theorem dL_isHeld_104 : decode cL_isHeld 104 = .ok (.iload 4, 2) := by decide +kernel
theorem dL_isHeld_106 : decode cL_isHeld 106 = .ok (.iload 5, 2) := by decide +kernel
theorem dL_isHeld_108 : decode cL_isHeld 108 = .ok (.iconst 1, 1) := by decide +kernel
theorem dL_isHeld_109 : decode cL_isHeld 109 = .ok (.invokestatic 116, 3) := by decide +kernel
theorem dL_isHeld_112 : decode cL_isHeld 112 = .ok (.ifCond .eq 7, 3) := by decide +kernel
theorem dL_isHeld_115 : decode cL_isHeld 115 = .ok (.iconst 1, 1) := by decide +kernel
theorem dL_isHeld_116 : decode cL_isHeld 116 = .ok (.goto 4, 3) := by decide +kernel
theorem dL_isHeld_119 : decode cL_isHeld 119 = .ok (.iconst 0, 1) := by decide +kernel
theorem dL_isHeld_120 : decode cL_isHeld 120 = .ok (.iload 6, 2) := by decide +kernel
theorem dL_isHeld_122 : decode cL_isHeld 122 = .ok (.iconst 2, 1) := by decide +kernel
theorem dL_isHeld_123 : decode cL_isHeld 123 = .ok (.if_icmp .ne 7, 3) := by decide +kernel
theorem dL_isHeld_126 : decode cL_isHeld 126 = .ok (.iconst 1, 1) := by decide +kernel
theorem dL_isHeld_127 : decode cL_isHeld 127 = .ok (.goto 4, 3) := by decide +kernel
theorem dL_isHeld_130 : decode cL_isHeld 130 = .ok (.iconst 0, 1) := by decide +kernel
theorem dL_isHeld_131 : decode cL_isHeld 131 = .ok (.if_icmp .ne 99, 3) := by decide +kernel
theorem dL_isHeld_134 : decode cL_isHeld 134 = .ok (.iload 6, 2) := by decide +kernel
theorem dL_isHeld_136 : decode cL_isHeld 136 = .ok (.iconst 1, 1) := by decide +kernel
theorem dL_isHeld_137 : decode cL_isHeld 137 = .ok (.if_icmp .ne 15, 3) := by decide +kernel
theorem dL_isHeld_140 : decode cL_isHeld 140 = .ok (.aload_n 0, 1) := by decide +kernel
theorem dL_isHeld_141 : decode cL_isHeld 141 = .ok (.iload 4, 2) := by decide +kernel
theorem dL_isHeld_143 : decode cL_isHeld 143 = .ok (.iload 5, 2) := by decide +kernel
theorem dL_isHeld_145 : decode cL_isHeld 145 = .ok (.iconst 2, 1) := by decide +kernel
theorem dL_isHeld_146 : decode cL_isHeld 146 = .ok (.invokestatic 116, 3) := by decide +kernel
theorem dL_isHeld_149 : decode cL_isHeld 149 = .ok (.ifCond .ne 81, 3) := by decide +kernel
theorem dL_isHeld_152 : decode cL_isHeld 152 = .ok (.iload 9, 2) := by decide +kernel
theorem dL_isHeld_154 : decode cL_isHeld 154 = .ok (.bipush 10, 2) := by decide +kernel
theorem dL_isHeld_156 : decode cL_isHeld 156 = .ok (.if_icmp .gt 74, 3) := by decide +kernel
theorem dL_isHeld_159 : decode cL_isHeld 159 = .ok (.iload 9, 2) := by decide +kernel
theorem dL_isHeld_161 : decode cL_isHeld 161 = .ok (.aload_n 2, 1) := by decide +kernel
theorem dL_isHeld_162 : decode cL_isHeld 162 = .ok (.iload_n 3, 1) := by decide +kernel
theorem dL_isHeld_163 : decode cL_isHeld 163 = .ok (.iconst 2, 1) := by decide +kernel
theorem dL_isHeld_164 : decode cL_isHeld 164 = .ok (.iadd, 1) := by decide +kernel
theorem dL_isHeld_165 : decode cL_isHeld 165 = .ok (.iaload, 1) := by decide +kernel
theorem dL_isHeld_166 : decode cL_isHeld 166 = .ok (.if_icmp .lt 64, 3) := by decide +kernel
theorem dL_isHeld_169 : decode cL_isHeld 169 = .ok (.iload 6, 2) := by decide +kernel
theorem dL_isHeld_171 : decode cL_isHeld 171 = .ok (.ifCond .eq 23, 3) := by decide +kernel
theorem dL_isHeld_174 : decode cL_isHeld 174 = .ok (.aload_n 2, 1) := by decide +kernel
theorem dL_isHeld_175 : decode cL_isHeld 175 = .ok (.iload_n 3, 1) := by decide +kernel
theorem dL_isHeld_176 : decode cL_isHeld 176 = .ok (.iconst 3, 1) := by decide +kernel
theorem dL_isHeld_177 : decode cL_isHeld 177 = .ok (.iadd, 1) := by decide +kernel
theorem dL_isHeld_178 : decode cL_isHeld 178 = .ok (.iaload, 1) := by decide +kernel
theorem dL_isHeld_179 : decode cL_isHeld 179 = .ok (.iload 6, 2) := by decide +kernel
theorem dL_isHeld_181 : decode cL_isHeld 181 = .ok (.if_icmp .ne 13, 3) := by decide +kernel
theorem dL_isHeld_184 : decode cL_isHeld 184 = .ok (.iload 9, 2) := by decide +kernel
theorem dL_isHeld_186 : decode cL_isHeld 186 = .ok (.aload_n 2, 1) := by decide +kernel
theorem dL_isHeld_187 : decode cL_isHeld 187 = .ok (.iload_n 3, 1) := by decide +kernel
theorem dL_isHeld_188 : decode cL_isHeld 188 = .ok (.iconst 2, 1) := by decide +kernel
theorem dL_isHeld_189 : decode cL_isHeld 189 = .ok (.iadd, 1) := by decide +kernel
theorem dL_isHeld_190 : decode cL_isHeld 190 = .ok (.iaload, 1) := by decide +kernel
theorem dL_isHeld_191 : decode cL_isHeld 191 = .ok (.if_icmp .ne 39, 3) := by decide +kernel
theorem dL_isHeld_194 : decode cL_isHeld 194 = .ok (.aload_n 0, 1) := by decide +kernel
theorem dL_isHeld_195 : decode cL_isHeld 195 = .ok (.iload 4, 2) := by decide +kernel
theorem dL_isHeld_197 : decode cL_isHeld 197 = .ok (.iload 5, 2) := by decide +kernel
theorem dL_isHeld_199 : decode cL_isHeld 199 = .ok (.iconst 4, 1) := by decide +kernel
theorem dL_isHeld_200 : decode cL_isHeld 200 = .ok (.invokestatic 116, 3) := by decide +kernel
theorem dL_isHeld_203 : decode cL_isHeld 203 = .ok (.bipush 60, 2) := by decide +kernel
theorem dL_isHeld_205 : decode cL_isHeld 205 = .ok (.if_icmp .gt 25, 3) := by decide +kernel
theorem dL_isHeld_208 : decode cL_isHeld 208 = .ok (.iload 6, 2) := by decide +kernel
theorem dL_isHeld_210 : decode cL_isHeld 210 = .ok (.iconst 2, 1) := by decide +kernel
theorem dL_isHeld_211 : decode cL_isHeld 211 = .ok (.if_icmp .eq 15, 3) := by decide +kernel
theorem dL_isHeld_214 : decode cL_isHeld 214 = .ok (.aload_n 0, 1) := by decide +kernel
theorem dL_isHeld_215 : decode cL_isHeld 215 = .ok (.iload 4, 2) := by decide +kernel
theorem dL_isHeld_217 : decode cL_isHeld 217 = .ok (.iload 5, 2) := by decide +kernel
theorem dL_isHeld_219 : decode cL_isHeld 219 = .ok (.iconst 4, 1) := by decide +kernel
theorem dL_isHeld_220 : decode cL_isHeld 220 = .ok (.invokestatic 116, 3) := by decide +kernel
theorem dL_isHeld_223 : decode cL_isHeld 223 = .ok (.ifCond .ne 7, 3) := by decide +kernel
theorem dL_isHeld_226 : decode cL_isHeld 226 = .ok (.iconst 1, 1) := by decide +kernel
theorem dL_isHeld_227 : decode cL_isHeld 227 = .ok (.goto 4, 3) := by decide +kernel
theorem dL_isHeld_230 : decode cL_isHeld 230 = .ok (.iconst 0, 1) := by decide +kernel
theorem dL_isHeld_231 : decode cL_isHeld 231 = .ok (.istore 10, 2) := by decide +kernel
theorem dL_isHeld_233 : decode cL_isHeld 233 = .ok (.aload_n 2, 1) := by decide +kernel
theorem dL_isHeld_234 : decode cL_isHeld 234 = .ok (.iload_n 3, 1) := by decide +kernel
theorem dL_isHeld_235 : decode cL_isHeld 235 = .ok (.iload 7, 2) := by decide +kernel
theorem dL_isHeld_237 : decode cL_isHeld 237 = .ok (.iastore, 1) := by decide +kernel
theorem dL_isHeld_238 : decode cL_isHeld 238 = .ok (.aload_n 2, 1) := by decide +kernel
theorem dL_isHeld_239 : decode cL_isHeld 239 = .ok (.iload_n 3, 1) := by decide +kernel
theorem dL_isHeld_240 : decode cL_isHeld 240 = .ok (.iconst 1, 1) := by decide +kernel
theorem dL_isHeld_241 : decode cL_isHeld 241 = .ok (.iadd, 1) := by decide +kernel
theorem dL_isHeld_242 : decode cL_isHeld 242 = .ok (.iload 8, 2) := by decide +kernel
theorem dL_isHeld_244 : decode cL_isHeld 244 = .ok (.iastore, 1) := by decide +kernel
theorem dL_isHeld_245 : decode cL_isHeld 245 = .ok (.aload_n 2, 1) := by decide +kernel
theorem dL_isHeld_246 : decode cL_isHeld 246 = .ok (.iload_n 3, 1) := by decide +kernel
theorem dL_isHeld_247 : decode cL_isHeld 247 = .ok (.iconst 2, 1) := by decide +kernel
theorem dL_isHeld_248 : decode cL_isHeld 248 = .ok (.iadd, 1) := by decide +kernel
theorem dL_isHeld_249 : decode cL_isHeld 249 = .ok (.iload 9, 2) := by decide +kernel
theorem dL_isHeld_251 : decode cL_isHeld 251 = .ok (.iastore, 1) := by decide +kernel
theorem dL_isHeld_252 : decode cL_isHeld 252 = .ok (.aload_n 2, 1) := by decide +kernel
theorem dL_isHeld_253 : decode cL_isHeld 253 = .ok (.iload_n 3, 1) := by decide +kernel
theorem dL_isHeld_254 : decode cL_isHeld 254 = .ok (.iconst 3, 1) := by decide +kernel
theorem dL_isHeld_255 : decode cL_isHeld 255 = .ok (.iadd, 1) := by decide +kernel
theorem dL_isHeld_256 : decode cL_isHeld 256 = .ok (.iload 6, 2) := by decide +kernel
theorem dL_isHeld_258 : decode cL_isHeld 258 = .ok (.iastore, 1) := by decide +kernel
theorem dL_isHeld_259 : decode cL_isHeld 259 = .ok (.iload 10, 2) := by decide +kernel
theorem dL_isHeld_261 : decode cL_isHeld 261 = .ok (.ireturn, 1) := by decide +kernel
set_option maxRecDepth 20000 in
theorem ggL_isBest_L_best : GoodIn wsL_isBest wsL_best := goodIn_ca (goodIn_ca (goodIn_r _ [4, 5, 6, 7, 8, 9, 10, 11, 12, 13, 14, 15, 16, 17, 18, 19, 20, 21, 22, 23, 24, 25, 26, 27, 28, 29, 30, 31, 32, 33, 34, 35, 36, 37, 38, 39, 40, 41, 42, 43, 44, 45, 46, 47, 48, 49, 50, 51, 52, 53, 54, 55, 56, 57, 58, 59, 60, 61, 62, 63, 64, 65, 66, 67, 68, 69, 70, 71, 72, 73, 74, 75, 76, 77, 78, 79, 80, 81, 82, 83, 84, 85, 86, 87, 88, 89, 90, 91, 92, 93, 94, 95, 96, 97, 98, 99, 100, 101, 102, 103, 104, 105, 106, 107, 108, 109, 110, 111, 112, 113, 114, 115, 116, 117, 118, 119, 120, 121, 122, 123, 124, 125, 126, 127, 128, 129, 130, 131, 132, 133, 134, 135, 136, 137, 138, 139, 140, 141, 142, 143, 144, 145, 146, 147, 181, 182, 183, 184, 185, 186, 187, 188, 189, 190, 191, 192, 193, 194, 195, 196, 197, 198, 199, 200, 201, 202, 203, 204, 205, 206, 207, 208, 209, 210, 211, 212, 213, 214, 215, 216, 217, 218, 219, 220, 221, 222, 223, 224, 225, 226] (by decide +kernel) (by decide +kernel)) (goodIn_sub (fun _ h => List.mem_cons_of_mem _ (List.mem_append_left _ (List.mem_append_right _ h))) (by decide +kernel))) (goodIn_sub (fun _ h => List.mem_cons_of_mem _ (List.mem_append_right _ h)) (by decide +kernel))
set_option maxRecDepth 20000 in
theorem gL_isBest_L_best : GoodIn wsL_isBest (va_wsS RL 140 yL_best wsL_best) := goodIn_app (goodIn_of _ (by decide +kernel)) ggL_isBest_L_best
set_option maxRecDepth 20000 in
theorem ggL_isBest_L_anew : GoodIn wsL_isBest wsL_anew := goodIn_ca (goodIn_ca (goodIn_r _ [150, 5, 6, 7, 151, 152, 153, 11, 154, 13, 14, 15, 16, 17, 18, 19, 20, 21, 22, 23, 24, 25, 26, 27, 28, 29, 30, 31, 32, 33, 34, 35, 36, 37, 38, 39, 40, 41, 42, 43, 44, 45, 46, 47, 48, 49, 50, 51, 52, 53, 54, 55, 56, 57, 58, 59, 60, 61, 62, 63, 64, 65, 66, 67, 68, 69, 70, 71, 72, 73, 74, 75, 76, 77, 78, 79, 80, 81, 82, 83, 84, 85, 86, 87, 88, 89, 90, 91, 92, 93, 94, 95, 96, 97, 98, 99, 100, 101, 102, 103, 104, 155, 156, 157, 158, 159, 160, 161, 162, 117, 118, 119, 120, 121, 122, 123, 124, 125, 126, 127, 128, 129, 130, 131, 132, 133, 134, 135, 136, 109, 110, 111, 112, 113, 114, 115, 116, 181, 182, 183, 184, 185, 186, 187, 188, 189, 190, 191, 192, 193, 194, 195, 196, 197, 198, 199, 200, 201, 202, 203, 204, 205, 206, 207, 208, 209, 210, 211, 212, 213, 214, 215, 216, 217, 218, 219, 220, 221, 222, 223, 224, 225, 226] (by decide +kernel) (by decide +kernel)) (goodIn_sub (fun _ h => List.mem_cons_of_mem _ (List.mem_append_left _ (List.mem_append_right _ h))) (by decide +kernel))) (goodIn_sub (fun _ h => List.mem_cons_of_mem _ (List.mem_append_right _ h)) (by decide +kernel))
set_option maxRecDepth 20000 in
theorem gL_isBest_L_anew : GoodIn wsL_isBest (va_wsS RL 142 yL_anew wsL_anew) := goodIn_app (goodIn_of _ (by decide +kernel)) ggL_isBest_L_anew
set_option maxRecDepth 20000 in
theorem ggL_isBest_L_bits : GoodIn wsL_isBest wsL_bits := goodIn_r _ [165] (by decide +kernel) (by decide +kernel)
set_option maxRecDepth 20000 in
theorem gL_isBest_L_bits : GoodIn wsL_isBest (va_wsS RL 145 yL_bits wsL_bits) := goodIn_app (goodIn_of _ (by decide +kernel)) ggL_isBest_L_bits
set_option maxRecDepth 20000 in
theorem ggL_isBest_L_whyNot : GoodIn wsL_isBest wsL_whyNot := goodIn_ca (goodIn_ca (goodIn_r _ [168, 5, 6, 7, 169, 170, 171, 11, 172, 17, 18, 13, 14, 15, 16, 19, 20, 21, 22, 23, 24, 25, 26, 27, 28, 29, 128, 129, 130, 131, 44, 30, 31, 32, 33, 34, 35, 36, 37, 38, 39, 45, 46, 47, 48, 49, 50, 51, 52, 53, 54, 55, 56, 57, 58, 59, 60, 61, 62, 63, 64, 65, 66, 67, 68, 69, 70, 71, 72, 73, 74, 75, 76, 77, 78, 79, 80, 81, 82, 83, 84, 85, 86, 87, 88, 89, 90, 91, 92, 93, 94, 95, 96, 97, 98, 99, 100, 101, 102, 103, 104, 181, 182, 183, 184, 185, 186, 187, 188, 189, 190, 191, 192, 193, 194, 195, 196, 197, 198, 199, 200, 201, 202, 203, 204, 205, 206, 207, 208, 209, 210, 211, 212, 213, 214, 215, 216, 217, 218, 219, 220, 221, 222, 223, 224, 225, 226] (by decide +kernel) (by decide +kernel)) (goodIn_sub (fun _ h => List.mem_cons_of_mem _ (List.mem_append_left _ (List.mem_append_right _ h))) (by decide +kernel))) (goodIn_sub (fun _ h => List.mem_cons_of_mem _ (List.mem_append_right _ h)) (by decide +kernel))
set_option maxRecDepth 20000 in
theorem gL_isBest_L_whyNot : GoodIn wsL_isBest (va_wsS RL 135 yL_whyNot wsL_whyNot) := goodIn_app (goodIn_of _ (by decide +kernel)) ggL_isBest_L_whyNot
set_option maxRecDepth 20000 in
theorem ggL_isBest_L_nests : GoodIn wsL_isBest wsL_nests := goodIn_ca (goodIn_r _ [175, 5, 6, 176, 177, 178, 11, 179, 17, 18, 128, 129, 130, 131, 44, 180, 65, 66, 61, 67, 63, 181, 182, 183, 184, 185, 186, 187, 188, 189, 190, 191, 192, 193, 213, 214, 215, 216] (by decide +kernel) (by decide +kernel)) (goodIn_sub (fun _ h => List.mem_cons_of_mem _ (List.mem_append_left _ (List.mem_append_right _ h))) (by decide +kernel))
set_option maxRecDepth 20000 in
theorem gL_isBest_L_nests : GoodIn wsL_isBest (va_wsS RL 133 yL_nests wsL_nests) := goodIn_app (goodIn_of _ (by decide +kernel)) ggL_isBest_L_nests
theorem dL_isBest_0 : decode cL_isBest 0 = .ok (.aload_n 0, 1) := by decide +kernel
theorem dL_isBest_1 : decode cL_isBest 1 = .ok (.iload_n 2, 1) := by decide +kernel
theorem dL_isBest_2 : decode cL_isBest 2 = .ok (.bipush 8, 2) := by decide +kernel
theorem dL_isBest_4 : decode cL_isBest 4 = .ok (.idiv, 1) := by decide +kernel
theorem dL_isBest_5 : decode cL_isBest 5 = .ok (.iload_n 2, 1) := by decide +kernel
theorem dL_isBest_6 : decode cL_isBest 6 = .ok (.bipush 8, 2) := by decide +kernel
theorem dL_isBest_8 : decode cL_isBest 8 = .ok (.irem, 1) := by decide +kernel
theorem dL_isBest_9 : decode cL_isBest 9 = .ok (.iload_n 3, 1) := by decide +kernel
theorem dL_isBest_10 : decode cL_isBest 10 = .ok (.invokestatic 140, 3) := by decide +kernel
theorem dL_isBest_13 : decode cL_isBest 13 = .ok (.istore 4, 2) := by decide +kernel
theorem dL_isBest_15 : decode cL_isBest 15 = .ok (.iload 4, 2) := by decide +kernel
theorem dL_isBest_17 : decode cL_isBest 17 = .ok (.aload_n 0, 1) := by decide +kernel
theorem dL_isBest_18 : decode cL_isBest 18 = .ok (.iload_n 2, 1) := by decide +kernel
theorem dL_isBest_19 : decode cL_isBest 19 = .ok (.bipush 8, 2) := by decide +kernel
theorem dL_isBest_21 : decode cL_isBest 21 = .ok (.idiv, 1) := by decide +kernel
theorem dL_isBest_22 : decode cL_isBest 22 = .ok (.iload_n 2, 1) := by decide +kernel
theorem dL_isBest_23 : decode cL_isBest 23 = .ok (.bipush 8, 2) := by decide +kernel
theorem dL_isBest_25 : decode cL_isBest 25 = .ok (.irem, 1) := by decide +kernel
theorem dL_isBest_26 : decode cL_isBest 26 = .ok (.iload_n 3, 1) := by decide +kernel
theorem dL_isBest_27 : decode cL_isBest 27 = .ok (.invokestatic 142, 3) := by decide +kernel
theorem dL_isBest_30 : decode cL_isBest 30 = .ok (.if_icmp .ne 21, 3) := by decide +kernel
theorem dL_isBest_33 : decode cL_isBest 33 = .ok (.iload 4, 2) := by decide +kernel
theorem dL_isBest_35 : decode cL_isBest 35 = .ok (.ifCond .lt 16, 3) := by decide +kernel
theorem dL_isBest_38 : decode cL_isBest 38 = .ok (.iload 4, 2) := by decide +kernel
theorem dL_isBest_40 : decode cL_isBest 40 = .ok (.invokestatic 145, 3) := by decide +kernel
theorem dL_isBest_43 : decode cL_isBest 43 = .ok (.iconst 3, 1) := by decide +kernel
theorem dL_isBest_44 : decode cL_isBest 44 = .ok (.if_icmp .gt 7, 3) := by decide +kernel
theorem dL_isBest_47 : decode cL_isBest 47 = .ok (.iconst 1, 1) := by decide +kernel
theorem dL_isBest_48 : decode cL_isBest 48 = .ok (.goto 4, 3) := by decide +kernel
theorem dL_isBest_51 : decode cL_isBest 51 = .ok (.iconst 0, 1) := by decide +kernel
theorem dL_isBest_52 : decode cL_isBest 52 = .ok (.istore 5, 2) := by decide +kernel
theorem dL_isBest_54 : decode cL_isBest 54 = .ok (.iconst 0, 1) := by decide +kernel
theorem dL_isBest_55 : decode cL_isBest 55 = .ok (.istore 6, 2) := by decide +kernel
theorem dL_isBest_57 : decode cL_isBest 57 = .ok (.iconst 0, 1) := by decide +kernel
theorem dL_isBest_58 : decode cL_isBest 58 = .ok (.istore 7, 2) := by decide +kernel
theorem dL_isBest_60 : decode cL_isBest 60 = .ok (.iload 7, 2) := by decide +kernel
theorem dL_isBest_62 : decode cL_isBest 62 = .ok (.aload_n 1, 1) := by decide +kernel
theorem dL_isBest_63 : decode cL_isBest 63 = .ok (.iconst 0, 1) := by decide +kernel
theorem dL_isBest_64 : decode cL_isBest 64 = .ok (.iaload, 1) := by decide +kernel
theorem dL_isBest_65 : decode cL_isBest 65 = .ok (.if_icmp .ge 40, 3) := by decide +kernel
theorem dL_isBest_68 : decode cL_isBest 68 = .ok (.iload 6, 2) := by decide +kernel
theorem dL_isBest_70 : decode cL_isBest 70 = .ok (.aload_n 0, 1) := by decide +kernel
theorem dL_isBest_71 : decode cL_isBest 71 = .ok (.iload_n 2, 1) := by decide +kernel
theorem dL_isBest_72 : decode cL_isBest 72 = .ok (.bipush 8, 2) := by decide +kernel
theorem dL_isBest_74 : decode cL_isBest 74 = .ok (.idiv, 1) := by decide +kernel
theorem dL_isBest_75 : decode cL_isBest 75 = .ok (.iload_n 2, 1) := by decide +kernel
theorem dL_isBest_76 : decode cL_isBest 76 = .ok (.bipush 8, 2) := by decide +kernel
theorem dL_isBest_78 : decode cL_isBest 78 = .ok (.irem, 1) := by decide +kernel
theorem dL_isBest_79 : decode cL_isBest 79 = .ok (.iload 7, 2) := by decide +kernel
theorem dL_isBest_81 : decode cL_isBest 81 = .ok (.iload_n 3, 1) := by decide +kernel
theorem dL_isBest_82 : decode cL_isBest 82 = .ok (.invokestatic 135, 3) := by decide +kernel
theorem dL_isBest_85 : decode cL_isBest 85 = .ok (.ifCond .ne 10, 3) := by decide +kernel
theorem dL_isBest_88 : decode cL_isBest 88 = .ok (.iconst 1, 1) := by decide +kernel
theorem dL_isBest_89 : decode cL_isBest 89 = .ok (.iload 7, 2) := by decide +kernel
theorem dL_isBest_91 : decode cL_isBest 91 = .ok (.ishl, 1) := by decide +kernel
theorem dL_isBest_92 : decode cL_isBest 92 = .ok (.goto 4, 3) := by decide +kernel
theorem dL_isBest_95 : decode cL_isBest 95 = .ok (.iconst 0, 1) := by decide +kernel
theorem dL_isBest_96 : decode cL_isBest 96 = .ok (.iadd, 1) := by decide +kernel
theorem dL_isBest_97 : decode cL_isBest 97 = .ok (.istore 6, 2) := by decide +kernel
theorem dL_isBest_99 : decode cL_isBest 99 = .ok (.iinc 7 1, 3) := by decide +kernel
theorem dL_isBest_102 : decode cL_isBest 102 = .ok (.goto (-42), 3) := by decide +kernel
theorem dL_isBest_105 : decode cL_isBest 105 = .ok (.iload 5, 2) := by decide +kernel
theorem dL_isBest_107 : decode cL_isBest 107 = .ok (.ifCond .eq 40, 3) := by decide +kernel
theorem dL_isBest_110 : decode cL_isBest 110 = .ok (.iload 4, 2) := by decide +kernel
theorem dL_isBest_112 : decode cL_isBest 112 = .ok (.iload 6, 2) := by decide +kernel
theorem dL_isBest_114 : decode cL_isBest 114 = .ok (.iconst (-1), 1) := by decide +kernel
theorem dL_isBest_115 : decode cL_isBest 115 = .ok (.ixor, 1) := by decide +kernel
theorem dL_isBest_116 : decode cL_isBest 116 = .ok (.iand, 1) := by decide +kernel
theorem dL_isBest_117 : decode cL_isBest 117 = .ok (.ifCond .ne 30, 3) := by decide +kernel
theorem dL_isBest_120 : decode cL_isBest 120 = .ok (.iload 4, 2) := by decide +kernel
theorem dL_isBest_122 : decode cL_isBest 122 = .ok (.ifCond .ne 7, 3) := by decide +kernel
theorem dL_isBest_125 : decode cL_isBest 125 = .ok (.iconst 1, 1) := by decide +kernel
theorem dL_isBest_126 : decode cL_isBest 126 = .ok (.goto 4, 3) := by decide +kernel
theorem dL_isBest_129 : decode cL_isBest 129 = .ok (.iconst 0, 1) := by decide +kernel
theorem dL_isBest_130 : decode cL_isBest 130 = .ok (.iload 6, 2) := by decide +kernel
theorem dL_isBest_132 : decode cL_isBest 132 = .ok (.ifCond .ne 7, 3) := by decide +kernel
theorem dL_isBest_135 : decode cL_isBest 135 = .ok (.iconst 1, 1) := by decide +kernel
theorem dL_isBest_136 : decode cL_isBest 136 = .ok (.goto 4, 3) := by decide +kernel
theorem dL_isBest_139 : decode cL_isBest 139 = .ok (.iconst 0, 1) := by decide +kernel
theorem dL_isBest_140 : decode cL_isBest 140 = .ok (.if_icmp .ne 7, 3) := by decide +kernel
theorem dL_isBest_143 : decode cL_isBest 143 = .ok (.iconst 1, 1) := by decide +kernel
theorem dL_isBest_144 : decode cL_isBest 144 = .ok (.goto 4, 3) := by decide +kernel
theorem dL_isBest_147 : decode cL_isBest 147 = .ok (.iconst 0, 1) := by decide +kernel
theorem dL_isBest_148 : decode cL_isBest 148 = .ok (.istore 5, 2) := by decide +kernel
theorem dL_isBest_150 : decode cL_isBest 150 = .ok (.iconst 0, 1) := by decide +kernel
theorem dL_isBest_151 : decode cL_isBest 151 = .ok (.istore 7, 2) := by decide +kernel
theorem dL_isBest_153 : decode cL_isBest 153 = .ok (.iload 7, 2) := by decide +kernel
theorem dL_isBest_155 : decode cL_isBest 155 = .ok (.aload_n 1, 1) := by decide +kernel
theorem dL_isBest_156 : decode cL_isBest 156 = .ok (.iconst 0, 1) := by decide +kernel
theorem dL_isBest_157 : decode cL_isBest 157 = .ok (.iaload, 1) := by decide +kernel
theorem dL_isBest_158 : decode cL_isBest 158 = .ok (.aload_n 1, 1) := by decide +kernel
theorem dL_isBest_159 : decode cL_isBest 159 = .ok (.iconst 0, 1) := by decide +kernel
theorem dL_isBest_160 : decode cL_isBest 160 = .ok (.iaload, 1) := by decide +kernel
theorem dL_isBest_161 : decode cL_isBest 161 = .ok (.imul, 1) := by decide +kernel
theorem dL_isBest_162 : decode cL_isBest 162 = .ok (.if_icmp .ge 82, 3) := by decide +kernel
theorem dL_isBest_165 : decode cL_isBest 165 = .ok (.iload 5, 2) := by decide +kernel
theorem dL_isBest_167 : decode cL_isBest 167 = .ok (.ifCond .eq 77, 3) := by decide +kernel
theorem dL_isBest_170 : decode cL_isBest 170 = .ok (.iload 4, 2) := by decide +kernel
theorem dL_isBest_172 : decode cL_isBest 172 = .ok (.iload 7, 2) := by decide +kernel
theorem dL_isBest_174 : decode cL_isBest 174 = .ok (.aload_n 1, 1) := by decide +kernel
theorem dL_isBest_175 : decode cL_isBest 175 = .ok (.iconst 0, 1) := by decide +kernel
theorem dL_isBest_176 : decode cL_isBest 176 = .ok (.iaload, 1) := by decide +kernel
theorem dL_isBest_177 : decode cL_isBest 177 = .ok (.idiv, 1) := by decide +kernel
theorem dL_isBest_178 : decode cL_isBest 178 = .ok (.ishr, 1) := by decide +kernel
theorem dL_isBest_179 : decode cL_isBest 179 = .ok (.iconst 1, 1) := by decide +kernel
theorem dL_isBest_180 : decode cL_isBest 180 = .ok (.iand, 1) := by decide +kernel
theorem dL_isBest_181 : decode cL_isBest 181 = .ok (.iconst 1, 1) := by decide +kernel
theorem dL_isBest_182 : decode cL_isBest 182 = .ok (.if_icmp .ne 22, 3) := by decide +kernel
theorem dL_isBest_185 : decode cL_isBest 185 = .ok (.iload 4, 2) := by decide +kernel
theorem dL_isBest_187 : decode cL_isBest 187 = .ok (.iload 7, 2) := by decide +kernel
theorem dL_isBest_189 : decode cL_isBest 189 = .ok (.aload_n 1, 1) := by decide +kernel
theorem dL_isBest_190 : decode cL_isBest 190 = .ok (.iconst 0, 1) := by decide +kernel
theorem dL_isBest_191 : decode cL_isBest 191 = .ok (.iaload, 1) := by decide +kernel
theorem dL_isBest_192 : decode cL_isBest 192 = .ok (.irem, 1) := by decide +kernel
theorem dL_isBest_193 : decode cL_isBest 193 = .ok (.ishr, 1) := by decide +kernel
theorem dL_isBest_194 : decode cL_isBest 194 = .ok (.iconst 1, 1) := by decide +kernel
theorem dL_isBest_195 : decode cL_isBest 195 = .ok (.iand, 1) := by decide +kernel
theorem dL_isBest_196 : decode cL_isBest 196 = .ok (.iconst 1, 1) := by decide +kernel
theorem dL_isBest_197 : decode cL_isBest 197 = .ok (.if_icmp .ne 7, 3) := by decide +kernel
theorem dL_isBest_200 : decode cL_isBest 200 = .ok (.iconst 1, 1) := by decide +kernel
theorem dL_isBest_201 : decode cL_isBest 201 = .ok (.goto 4, 3) := by decide +kernel
theorem dL_isBest_204 : decode cL_isBest 204 = .ok (.iconst 0, 1) := by decide +kernel
theorem dL_isBest_205 : decode cL_isBest 205 = .ok (.istore 8, 2) := by decide +kernel
theorem dL_isBest_207 : decode cL_isBest 207 = .ok (.iload 8, 2) := by decide +kernel
theorem dL_isBest_209 : decode cL_isBest 209 = .ok (.ifCond .eq 22, 3) := by decide +kernel
theorem dL_isBest_212 : decode cL_isBest 212 = .ok (.aload_n 0, 1) := by decide +kernel
theorem dL_isBest_213 : decode cL_isBest 213 = .ok (.iload 7, 2) := by decide +kernel
theorem dL_isBest_215 : decode cL_isBest 215 = .ok (.aload_n 1, 1) := by decide +kernel
theorem dL_isBest_216 : decode cL_isBest 216 = .ok (.iconst 0, 1) := by decide +kernel
theorem dL_isBest_217 : decode cL_isBest 217 = .ok (.iaload, 1) := by decide +kernel
theorem dL_isBest_218 : decode cL_isBest 218 = .ok (.idiv, 1) := by decide +kernel
theorem dL_isBest_219 : decode cL_isBest 219 = .ok (.iload 7, 2) := by decide +kernel
theorem dL_isBest_221 : decode cL_isBest 221 = .ok (.aload_n 1, 1) := by decide +kernel
theorem dL_isBest_222 : decode cL_isBest 222 = .ok (.iconst 0, 1) := by decide +kernel
theorem dL_isBest_223 : decode cL_isBest 223 = .ok (.iaload, 1) := by decide +kernel
theorem dL_isBest_224 : decode cL_isBest 224 = .ok (.irem, 1) := by decide +kernel
theorem dL_isBest_225 : decode cL_isBest 225 = .ok (.invokestatic 133, 3) := by decide +kernel
theorem dL_isBest_228 : decode cL_isBest 228 = .ok (.ifCond .ne 7, 3) := by decide +kernel
theorem dL_isBest_231 : decode cL_isBest 231 = .ok (.iconst 1, 1) := by decide +kernel
theorem dL_isBest_232 : decode cL_isBest 232 = .ok (.goto 4, 3) := by decide +kernel
theorem dL_isBest_235 : decode cL_isBest 235 = .ok (.iconst 0, 1) := by decide +kernel
theorem dL_isBest_236 : decode cL_isBest 236 = .ok (.istore 5, 2) := by decide +kernel
theorem dL_isBest_238 : decode cL_isBest 238 = .ok (.iinc 7 1, 3) := by decide +kernel
theorem dL_isBest_241 : decode cL_isBest 241 = .ok (.goto (-88), 3) := by decide +kernel
theorem dL_isBest_244 : decode cL_isBest 244 = .ok (.iload 5, 2) := by decide +kernel
theorem dL_isBest_246 : decode cL_isBest 246 = .ok (.ireturn, 1) := by decide +kernel
set_option maxRecDepth 20000 in
theorem ggL_areNested_L_nests : GoodIn wsL_areNested wsL_nests := goodIn_ca (goodIn_r _ [4, 5, 6, 7, 8, 9, 10, 11, 12, 13, 14, 15, 16, 17, 18, 19, 20, 21, 22, 23, 24, 25, 26, 27, 28, 29, 30, 31, 32, 33, 34, 35, 36, 37, 38, 39, 40, 41] (by decide +kernel) (by decide +kernel)) (goodIn_sub (fun _ h => List.mem_cons_of_mem _ (List.mem_append_right _ h)) (by decide +kernel))
set_option maxRecDepth 20000 in
theorem gL_areNested_L_nests : GoodIn wsL_areNested (va_wsS RL 133 yL_nests wsL_nests) := goodIn_app (goodIn_of _ (by decide +kernel)) ggL_areNested_L_nests
theorem dL_areNested_0 : decode cL_areNested 0 = .ok (.iload_n 2, 1) := by decide +kernel
theorem dL_areNested_1 : decode cL_areNested 1 = .ok (.aload_n 1, 1) := by decide +kernel
theorem dL_areNested_2 : decode cL_areNested 2 = .ok (.iconst 0, 1) := by decide +kernel
theorem dL_areNested_3 : decode cL_areNested 3 = .ok (.iaload, 1) := by decide +kernel
theorem dL_areNested_4 : decode cL_areNested 4 = .ok (.irem, 1) := by decide +kernel
theorem dL_areNested_5 : decode cL_areNested 5 = .ok (.istore_n 3, 1) := by decide +kernel
theorem dL_areNested_6 : decode cL_areNested 6 = .ok (.iload_n 2, 1) := by decide +kernel
theorem dL_areNested_7 : decode cL_areNested 7 = .ok (.bipush 8, 2) := by decide +kernel
theorem dL_areNested_9 : decode cL_areNested 9 = .ok (.idiv, 1) := by decide +kernel
theorem dL_areNested_10 : decode cL_areNested 10 = .ok (.aload_n 1, 1) := by decide +kernel
theorem dL_areNested_11 : decode cL_areNested 11 = .ok (.iconst 0, 1) := by decide +kernel
theorem dL_areNested_12 : decode cL_areNested 12 = .ok (.iaload, 1) := by decide +kernel
theorem dL_areNested_13 : decode cL_areNested 13 = .ok (.irem, 1) := by decide +kernel
theorem dL_areNested_14 : decode cL_areNested 14 = .ok (.istore 4, 2) := by decide +kernel
theorem dL_areNested_16 : decode cL_areNested 16 = .ok (.iload_n 2, 1) := by decide +kernel
theorem dL_areNested_17 : decode cL_areNested 17 = .ok (.bipush 64, 2) := by decide +kernel
theorem dL_areNested_19 : decode cL_areNested 19 = .ok (.idiv, 1) := by decide +kernel
theorem dL_areNested_20 : decode cL_areNested 20 = .ok (.aload_n 1, 1) := by decide +kernel
theorem dL_areNested_21 : decode cL_areNested 21 = .ok (.iconst 0, 1) := by decide +kernel
theorem dL_areNested_22 : decode cL_areNested 22 = .ok (.iaload, 1) := by decide +kernel
theorem dL_areNested_23 : decode cL_areNested 23 = .ok (.irem, 1) := by decide +kernel
theorem dL_areNested_24 : decode cL_areNested 24 = .ok (.istore 5, 2) := by decide +kernel
theorem dL_areNested_26 : decode cL_areNested 26 = .ok (.aload_n 0, 1) := by decide +kernel
theorem dL_areNested_27 : decode cL_areNested 27 = .ok (.iload_n 3, 1) := by decide +kernel
theorem dL_areNested_28 : decode cL_areNested 28 = .ok (.iload 4, 2) := by decide +kernel
theorem dL_areNested_30 : decode cL_areNested 30 = .ok (.invokestatic 133, 3) := by decide +kernel
theorem dL_areNested_33 : decode cL_areNested 33 = .ok (.iconst 1, 1) := by decide +kernel
theorem dL_areNested_34 : decode cL_areNested 34 = .ok (.if_icmp .ne 7, 3) := by decide +kernel
theorem dL_areNested_37 : decode cL_areNested 37 = .ok (.iconst 1, 1) := by decide +kernel
theorem dL_areNested_38 : decode cL_areNested 38 = .ok (.goto 4, 3) := by decide +kernel
theorem dL_areNested_41 : decode cL_areNested 41 = .ok (.iconst 0, 1) := by decide +kernel
theorem dL_areNested_42 : decode cL_areNested 42 = .ok (.istore 6, 2) := by decide +kernel
theorem dL_areNested_44 : decode cL_areNested 44 = .ok (.aload_n 0, 1) := by decide +kernel
theorem dL_areNested_45 : decode cL_areNested 45 = .ok (.iload 4, 2) := by decide +kernel
theorem dL_areNested_47 : decode cL_areNested 47 = .ok (.iload 5, 2) := by decide +kernel
theorem dL_areNested_49 : decode cL_areNested 49 = .ok (.invokestatic 133, 3) := by decide +kernel
theorem dL_areNested_52 : decode cL_areNested 52 = .ok (.iconst 1, 1) := by decide +kernel
theorem dL_areNested_53 : decode cL_areNested 53 = .ok (.if_icmp .ne 7, 3) := by decide +kernel
theorem dL_areNested_56 : decode cL_areNested 56 = .ok (.iconst 1, 1) := by decide +kernel
theorem dL_areNested_57 : decode cL_areNested 57 = .ok (.goto 4, 3) := by decide +kernel
theorem dL_areNested_60 : decode cL_areNested 60 = .ok (.iconst 0, 1) := by decide +kernel
theorem dL_areNested_61 : decode cL_areNested 61 = .ok (.istore 7, 2) := by decide +kernel
theorem dL_areNested_63 : decode cL_areNested 63 = .ok (.iload 6, 2) := by decide +kernel
theorem dL_areNested_65 : decode cL_areNested 65 = .ok (.ifCond .eq 14, 3) := by decide +kernel
theorem dL_areNested_68 : decode cL_areNested 68 = .ok (.aload_n 0, 1) := by decide +kernel
theorem dL_areNested_69 : decode cL_areNested 69 = .ok (.iload 4, 2) := by decide +kernel
theorem dL_areNested_71 : decode cL_areNested 71 = .ok (.iload_n 3, 1) := by decide +kernel
theorem dL_areNested_72 : decode cL_areNested 72 = .ok (.invokestatic 133, 3) := by decide +kernel
theorem dL_areNested_75 : decode cL_areNested 75 = .ok (.iconst 1, 1) := by decide +kernel
theorem dL_areNested_76 : decode cL_areNested 76 = .ok (.if_icmp .eq 37, 3) := by decide +kernel
theorem dL_areNested_79 : decode cL_areNested 79 = .ok (.iload 6, 2) := by decide +kernel
theorem dL_areNested_81 : decode cL_areNested 81 = .ok (.ifCond .eq 19, 3) := by decide +kernel
theorem dL_areNested_84 : decode cL_areNested 84 = .ok (.iload 7, 2) := by decide +kernel
theorem dL_areNested_86 : decode cL_areNested 86 = .ok (.ifCond .eq 14, 3) := by decide +kernel
theorem dL_areNested_89 : decode cL_areNested 89 = .ok (.aload_n 0, 1) := by decide +kernel
theorem dL_areNested_90 : decode cL_areNested 90 = .ok (.iload_n 3, 1) := by decide +kernel
theorem dL_areNested_91 : decode cL_areNested 91 = .ok (.iload 5, 2) := by decide +kernel
theorem dL_areNested_93 : decode cL_areNested 93 = .ok (.invokestatic 133, 3) := by decide +kernel
theorem dL_areNested_96 : decode cL_areNested 96 = .ok (.iconst 1, 1) := by decide +kernel
theorem dL_areNested_97 : decode cL_areNested 97 = .ok (.if_icmp .ne 16, 3) := by decide +kernel
theorem dL_areNested_100 : decode cL_areNested 100 = .ok (.aload_n 0, 1) := by decide +kernel
theorem dL_areNested_101 : decode cL_areNested 101 = .ok (.iload_n 3, 1) := by decide +kernel
theorem dL_areNested_102 : decode cL_areNested 102 = .ok (.iload_n 3, 1) := by decide +kernel
theorem dL_areNested_103 : decode cL_areNested 103 = .ok (.invokestatic 133, 3) := by decide +kernel
theorem dL_areNested_106 : decode cL_areNested 106 = .ok (.ifCond .ne 7, 3) := by decide +kernel
theorem dL_areNested_109 : decode cL_areNested 109 = .ok (.iconst 1, 1) := by decide +kernel
theorem dL_areNested_110 : decode cL_areNested 110 = .ok (.goto 4, 3) := by decide +kernel
theorem dL_areNested_113 : decode cL_areNested 113 = .ok (.iconst 0, 1) := by decide +kernel
theorem dL_areNested_114 : decode cL_areNested 114 = .ok (.ireturn, 1) := by decide +kernel
set_option maxRecDepth 20000 in
theorem ggL_isLawful_L_count : GoodIn wsL_isLawful wsL_count := goodIn_ca (goodIn_r _ [4, 5, 6, 7, 8, 9, 10, 11, 12, 13, 14, 15, 16, 17, 18, 19, 226, 227, 228, 229, 230, 231, 232, 233, 234, 235, 236, 237, 238] (by decide +kernel) (by decide +kernel)) (goodIn_sub (fun _ h => List.mem_cons_of_mem _ (List.mem_append_left _ (List.mem_append_right _ h))) (by decide +kernel))
set_option maxRecDepth 20000 in
theorem gL_isLawful_L_count : GoodIn wsL_isLawful (va_wsS RL 111 yL_count wsL_count) := goodIn_app (goodIn_of _ (by decide +kernel)) ggL_isLawful_L_count
set_option maxRecDepth 20000 in
theorem ggL_isLawful_L_isHeld : GoodIn wsL_isLawful wsL_isHeld := goodIn_ca (goodIn_ca (goodIn_r _ [22, 23, 24, 3, 25, 26, 27, 6, 28, 29, 30, 10, 31, 12, 13, 32, 33, 34, 35, 36, 37, 38, 39, 40, 41, 42, 43, 44, 45, 46, 47, 48, 49, 50, 51, 52, 53, 54, 55, 56, 57, 58, 59, 60, 61, 62, 63, 64, 65, 66, 67, 68, 69, 70, 71, 72, 73, 74, 75, 76, 77, 78, 79, 80, 81, 239, 240, 241, 242, 243, 244, 245, 246, 247, 248, 249, 250, 251, 252, 226, 227, 228, 229, 230, 231, 232, 233, 234, 235, 236, 237, 238, 253, 254, 255, 256, 257, 258, 259, 260, 261] (by decide +kernel) (by decide +kernel)) (goodIn_sub (fun _ h => List.mem_cons_of_mem _ (List.mem_append_left _ (List.mem_append_right _ h))) (by decide +kernel))) (goodIn_sub (fun _ h => List.mem_cons_of_mem _ (List.mem_append_right _ h)) (by decide +kernel))
set_option maxRecDepth 20000 in
theorem gL_isLawful_L_isHeld : GoodIn wsL_isLawful (va_wsS RL 148 yL_isHeld wsL_isHeld) := goodIn_app (goodIn_of _ (by decide +kernel)) ggL_isLawful_L_isHeld
set_option maxRecDepth 20000 in
theorem ggL_isLawful_X4_day : GoodIn wsL_isLawful wsX4_day := goodIn_r _ [85, 61, 226, 227, 228, 229, 230, 231, 232, 233, 234, 235, 236, 237, 238] (by decide +kernel) (by decide +kernel)
set_option maxRecDepth 20000 in
theorem gL_isLawful_X4_day : GoodIn wsL_isLawful (wsV RL 105 RX4 yX4_day wsX4_day) := goodIn_app (goodIn_of _ (by decide +kernel)) ggL_isLawful_X4_day
set_option maxRecDepth 20000 in
theorem ggL_isLawful_L_isBest : GoodIn wsL_isLawful wsL_isBest := goodIn_ca (goodIn_ca (goodIn_r _ [88, 89, 90, 3, 91, 26, 27, 6, 92, 93, 94, 10, 95, 39, 40, 41, 42, 43, 44, 45, 46, 47, 48, 49, 50, 51, 52, 53, 54, 55, 96, 97, 98, 99, 12, 13, 61, 100, 101, 102, 103, 104, 105, 106, 60, 107, 108, 109, 110, 111, 112, 113, 114, 115, 62, 63, 64, 65, 66, 67, 68, 69, 70, 71, 72, 73, 74, 75, 76, 77, 78, 79, 80, 81, 116, 117, 118, 119, 120, 121, 122, 123, 124, 125, 126, 127, 128, 129, 130, 131, 132, 133, 134, 135, 136, 137, 138, 139, 140, 141, 142, 143, 144, 145, 146, 147, 148, 149, 150, 151, 152, 153, 154, 155, 156, 157, 158, 159, 160, 161, 162, 163, 164, 165, 166, 167, 168, 169, 170, 171, 172, 173, 174, 175, 176, 177, 178, 179, 180, 181, 182, 183, 184, 185, 186, 187, 188, 189, 190, 191, 192, 193, 194, 195, 196, 197, 198, 199, 200, 201, 202, 203, 204, 205, 206, 207, 208, 209, 210, 211, 212, 213, 214, 215, 216, 217, 218, 219, 220, 221, 222, 226, 227, 228, 229, 230, 231, 232, 233, 234, 235, 236, 237, 238, 253, 254, 255, 256, 257, 239, 240, 241, 242, 243, 244, 245, 246, 247, 248, 249, 250, 251, 252, 258, 259, 260, 261, 262, 263, 264, 265, 266, 267, 268, 269, 270, 271] (by decide +kernel) (by decide +kernel)) (goodIn_sub (fun _ h => List.mem_cons_of_mem _ (List.mem_append_right _ h)) (by decide +kernel))) (goodIn_sub (fun _ h => List.mem_cons_of_mem _ (List.mem_append_left _ (List.mem_append_right _ h))) (by decide +kernel))
set_option maxRecDepth 20000 in
theorem gL_isLawful_L_isBest : GoodIn wsL_isLawful (va_wsS RL 152 yL_isBest wsL_isBest) := goodIn_app (goodIn_of _ (by decide +kernel)) ggL_isLawful_L_isBest
set_option maxRecDepth 20000 in
theorem ggL_isLawful_L_areNested : GoodIn wsL_isLawful wsL_areNested := goodIn_ca (goodIn_r _ [225, 215, 216, 3, 217, 26, 27, 218, 219, 220, 10, 221, 43, 44, 170, 171, 172, 173, 60, 222, 73, 74, 69, 75, 71, 226, 227, 228, 229, 230, 231, 232, 233, 234, 235, 236, 237, 238, 258, 259, 260, 261] (by decide +kernel) (by decide +kernel)) (goodIn_sub (fun _ h => List.mem_cons_of_mem _ (List.mem_append_right _ h)) (by decide +kernel))
set_option maxRecDepth 20000 in
theorem gL_isLawful_L_areNested : GoodIn wsL_isLawful (va_wsS RL 156 yL_areNested wsL_areNested) := goodIn_app (goodIn_of _ (by decide +kernel)) ggL_isLawful_L_areNested
set_option maxRecDepth 20000 in
theorem ggL_isLawful_L_of : GoodIn wsL_isLawful wsL_of := goodIn_ca (goodIn_ca (goodIn_r _ [25, 26, 27, 6, 28, 29, 30, 10, 31, 12, 13, 32, 33, 34, 35, 36, 37, 38, 39, 40, 41, 42, 43, 44, 45, 46, 47, 48, 49, 50, 51, 52, 53, 54, 55, 56, 57, 58, 59, 60, 61, 62, 63, 64, 65, 66, 67, 68, 69, 70, 71, 72, 73, 74, 75, 76, 77, 78, 79, 80, 81, 239, 240, 241, 242, 243, 244, 245, 246, 247, 248, 249, 250, 251, 252, 226, 227, 228, 229, 230, 231, 232, 233, 234, 235, 236, 237, 238, 253, 254, 255, 256, 257, 258, 259, 260, 261] (by decide +kernel) (by decide +kernel)) (goodIn_sub (fun _ h => List.mem_cons_of_mem _ (List.mem_append_left _ (List.mem_append_right _ h))) (by decide +kernel))) (goodIn_sub (fun _ h => List.mem_cons_of_mem _ (List.mem_append_right _ h)) (by decide +kernel))
set_option maxRecDepth 20000 in
theorem gL_isLawful_L_of : GoodIn wsL_isLawful (va_wsS RL 116 yL_of wsL_of) := goodIn_app (goodIn_of _ (by decide +kernel)) ggL_isLawful_L_of
set_option maxRecDepth 20000 in
theorem ggL_isLawful_L_whyNot : GoodIn wsL_isLawful wsL_whyNot := goodIn_ca (goodIn_ca (goodIn_r _ [210, 26, 27, 6, 211, 212, 213, 10, 214, 43, 44, 39, 40, 41, 42, 45, 46, 47, 48, 49, 50, 51, 52, 53, 54, 55, 170, 171, 172, 173, 60, 96, 97, 98, 99, 12, 13, 61, 100, 101, 102, 107, 108, 109, 110, 111, 112, 113, 114, 115, 62, 63, 64, 65, 66, 67, 68, 69, 70, 71, 72, 73, 74, 75, 76, 77, 78, 79, 80, 81, 116, 117, 118, 119, 120, 121, 122, 123, 124, 125, 126, 127, 128, 129, 130, 131, 132, 133, 134, 135, 136, 137, 138, 139, 140, 141, 142, 143, 144, 145, 146, 226, 227, 228, 229, 230, 231, 232, 233, 234, 235, 236, 237, 238, 253, 254, 255, 256, 257, 239, 240, 241, 242, 243, 244, 245, 246, 247, 248, 249, 250, 251, 252, 258, 259, 260, 261, 262, 263, 264, 265, 266, 267, 268, 269, 270, 271] (by decide +kernel) (by decide +kernel)) (goodIn_sub (fun _ h => List.mem_cons_of_mem _ (List.mem_append_right _ h)) (by decide +kernel))) (goodIn_sub (fun _ h => List.mem_cons_of_mem _ (List.mem_append_left _ (List.mem_append_right _ h))) (by decide +kernel))
set_option maxRecDepth 20000 in
theorem gL_isLawful_L_whyNot : GoodIn wsL_isLawful (va_wsS RL 135 yL_whyNot wsL_whyNot) := goodIn_app (goodIn_of _ (by decide +kernel)) ggL_isLawful_L_whyNot
theorem dL_isLawful_0 : decode cL_isLawful 0 = .ok (.iconst 1, 1) := by decide +kernel
theorem dL_isLawful_1 : decode cL_isLawful 1 = .ok (.istore 6, 2) := by decide +kernel
theorem dL_isLawful_3 : decode cL_isLawful 3 = .ok (.iconst 0, 1) := by decide +kernel
theorem dL_isLawful_4 : decode cL_isLawful 4 = .ok (.istore 7, 2) := by decide +kernel
theorem dL_isLawful_6 : decode cL_isLawful 6 = .ok (.iload 7, 2) := by decide +kernel
theorem dL_isLawful_8 : decode cL_isLawful 8 = .ok (.bipush 6, 2) := by decide +kernel
theorem dL_isLawful_10 : decode cL_isLawful 10 = .ok (.if_icmp .ge 46, 3) := by decide +kernel
theorem dL_isLawful_13 : decode cL_isLawful 13 = .ok (.iload 6, 2) := by decide +kernel
theorem dL_isLawful_15 : decode cL_isLawful 15 = .ok (.ifCond .eq 41, 3) := by decide +kernel
theorem dL_isLawful_18 : decode cL_isLawful 18 = .ok (.aload_n 0, 1) := by decide +kernel
theorem dL_isLawful_19 : decode cL_isLawful 19 = .ok (.iload 7, 2) := by decide +kernel
theorem dL_isLawful_21 : decode cL_isLawful 21 = .ok (.invokestatic 111, 3) := by decide +kernel
theorem dL_isLawful_24 : decode cL_isLawful 24 = .ok (.aload 4, 2) := by decide +kernel
theorem dL_isLawful_26 : decode cL_isLawful 26 = .ok (.iload 7, 2) := by decide +kernel
theorem dL_isLawful_28 : decode cL_isLawful 28 = .ok (.iaload, 1) := by decide +kernel
theorem dL_isLawful_29 : decode cL_isLawful 29 = .ok (.if_icmp .lt 7, 3) := by decide +kernel
theorem dL_isLawful_32 : decode cL_isLawful 32 = .ok (.iconst 1, 1) := by decide +kernel
theorem dL_isLawful_33 : decode cL_isLawful 33 = .ok (.goto 4, 3) := by decide +kernel
theorem dL_isLawful_36 : decode cL_isLawful 36 = .ok (.iconst 0, 1) := by decide +kernel
theorem dL_isLawful_37 : decode cL_isLawful 37 = .ok (.istore 6, 2) := by decide +kernel
theorem dL_isLawful_39 : decode cL_isLawful 39 = .ok (.aload 4, 2) := by decide +kernel
theorem dL_isLawful_41 : decode cL_isLawful 41 = .ok (.iload 7, 2) := by decide +kernel
theorem dL_isLawful_43 : decode cL_isLawful 43 = .ok (.aload_n 0, 1) := by decide +kernel
theorem dL_isLawful_44 : decode cL_isLawful 44 = .ok (.iload 7, 2) := by decide +kernel
theorem dL_isLawful_46 : decode cL_isLawful 46 = .ok (.invokestatic 111, 3) := by decide +kernel
theorem dL_isLawful_49 : decode cL_isLawful 49 = .ok (.iastore, 1) := by decide +kernel
theorem dL_isLawful_50 : decode cL_isLawful 50 = .ok (.iinc 7 1, 3) := by decide +kernel
theorem dL_isLawful_53 : decode cL_isLawful 53 = .ok (.goto (-47), 3) := by decide +kernel
theorem dL_isLawful_56 : decode cL_isLawful 56 = .ok (.iconst 0, 1) := by decide +kernel
theorem dL_isLawful_57 : decode cL_isLawful 57 = .ok (.istore 7, 2) := by decide +kernel
theorem dL_isLawful_59 : decode cL_isLawful 59 = .ok (.iload 7, 2) := by decide +kernel
theorem dL_isLawful_61 : decode cL_isLawful 61 = .ok (.bipush 12, 2) := by decide +kernel
theorem dL_isLawful_63 : decode cL_isLawful 63 = .ok (.if_icmp .ge 68, 3) := by decide +kernel
theorem dL_isLawful_66 : decode cL_isLawful 66 = .ok (.iload 6, 2) := by decide +kernel
theorem dL_isLawful_68 : decode cL_isLawful 68 = .ok (.ifCond .eq 63, 3) := by decide +kernel
theorem dL_isLawful_71 : decode cL_isLawful 71 = .ok (.iload 7, 2) := by decide +kernel
theorem dL_isLawful_73 : decode cL_isLawful 73 = .ok (.iconst 4, 1) := by decide +kernel
theorem dL_isLawful_74 : decode cL_isLawful 74 = .ok (.idiv, 1) := by decide +kernel
theorem dL_isLawful_75 : decode cL_isLawful 75 = .ok (.bipush 8, 2) := by decide +kernel
theorem dL_isLawful_77 : decode cL_isLawful 77 = .ok (.imul, 1) := by decide +kernel
theorem dL_isLawful_78 : decode cL_isLawful 78 = .ok (.iload 7, 2) := by decide +kernel
theorem dL_isLawful_80 : decode cL_isLawful 80 = .ok (.iconst 4, 1) := by decide +kernel
theorem dL_isLawful_81 : decode cL_isLawful 81 = .ok (.irem, 1) := by decide +kernel
theorem dL_isLawful_82 : decode cL_isLawful 82 = .ok (.iadd, 1) := by decide +kernel
theorem dL_isLawful_83 : decode cL_isLawful 83 = .ok (.istore 8, 2) := by decide +kernel
theorem dL_isLawful_85 : decode cL_isLawful 85 = .ok (.iload 7, 2) := by decide +kernel
theorem dL_isLawful_87 : decode cL_isLawful 87 = .ok (.iconst 4, 1) := by decide +kernel
theorem dL_isLawful_88 : decode cL_isLawful 88 = .ok (.idiv, 1) := by decide +kernel
theorem dL_isLawful_89 : decode cL_isLawful 89 = .ok (.aload_n 1, 1) := by decide +kernel
theorem dL_isLawful_90 : decode cL_isLawful 90 = .ok (.iconst 1, 1) := by decide +kernel
theorem dL_isLawful_91 : decode cL_isLawful 91 = .ok (.iaload, 1) := by decide +kernel
theorem dL_isLawful_92 : decode cL_isLawful 92 = .ok (.if_icmp .ge 33, 3) := by decide +kernel
theorem dL_isLawful_95 : decode cL_isLawful 95 = .ok (.aload_n 2, 1) := by decide +kernel
theorem dL_isLawful_96 : decode cL_isLawful 96 = .ok (.iload 7, 2) := by decide +kernel
theorem dL_isLawful_98 : decode cL_isLawful 98 = .ok (.iconst 4, 1) := by decide +kernel
theorem dL_isLawful_99 : decode cL_isLawful 99 = .ok (.idiv, 1) := by decide +kernel
theorem dL_isLawful_100 : decode cL_isLawful 100 = .ok (.iaload, 1) := by decide +kernel
theorem dL_isLawful_101 : decode cL_isLawful 101 = .ok (.iload 7, 2) := by decide +kernel
theorem dL_isLawful_103 : decode cL_isLawful 103 = .ok (.iconst 4, 1) := by decide +kernel
theorem dL_isLawful_104 : decode cL_isLawful 104 = .ok (.irem, 1) := by decide +kernel
theorem dL_isLawful_105 : decode cL_isLawful 105 = .ok (.ishr, 1) := by decide +kernel
theorem dL_isLawful_106 : decode cL_isLawful 106 = .ok (.iconst 1, 1) := by decide +kernel
theorem dL_isLawful_107 : decode cL_isLawful 107 = .ok (.iand, 1) := by decide +kernel
theorem dL_isLawful_108 : decode cL_isLawful 108 = .ok (.iconst 1, 1) := by decide +kernel
theorem dL_isLawful_109 : decode cL_isLawful 109 = .ok (.if_icmp .ne 16, 3) := by decide +kernel
theorem dL_isLawful_112 : decode cL_isLawful 112 = .ok (.aload_n 0, 1) := by decide +kernel
theorem dL_isLawful_113 : decode cL_isLawful 113 = .ok (.iload 8, 2) := by decide +kernel
theorem dL_isLawful_115 : decode cL_isLawful 115 = .ok (.aload_n 3, 1) := by decide +kernel
theorem dL_isLawful_116 : decode cL_isLawful 116 = .ok (.iconst 4, 1) := by decide +kernel
theorem dL_isLawful_117 : decode cL_isLawful 117 = .ok (.iload 7, 2) := by decide +kernel
theorem dL_isLawful_119 : decode cL_isLawful 119 = .ok (.imul, 1) := by decide +kernel
theorem dL_isLawful_120 : decode cL_isLawful 120 = .ok (.invokestatic 148, 3) := by decide +kernel
theorem dL_isLawful_123 : decode cL_isLawful 123 = .ok (.istore 6, 2) := by decide +kernel
theorem dL_isLawful_125 : decode cL_isLawful 125 = .ok (.iinc 7 1, 3) := by decide +kernel
theorem dL_isLawful_128 : decode cL_isLawful 128 = .ok (.goto (-69), 3) := by decide +kernel
theorem dL_isLawful_131 : decode cL_isLawful 131 = .ok (.iload 5, 2) := by decide +kernel
theorem dL_isLawful_133 : decode cL_isLawful 133 = .ok (.bipush 48, 2) := by decide +kernel
theorem dL_isLawful_135 : decode cL_isLawful 135 = .ok (.irem, 1) := by decide +kernel
theorem dL_isLawful_136 : decode cL_isLawful 136 = .ok (.istore 7, 2) := by decide +kernel
theorem dL_isLawful_138 : decode cL_isLawful 138 = .ok (.iload 6, 2) := by decide +kernel
theorem dL_isLawful_140 : decode cL_isLawful 140 = .ok (.ifCond .eq 197, 3) := by decide +kernel
theorem dL_isLawful_143 : decode cL_isLawful 143 = .ok (.aload_n 1, 1) := by decide +kernel
theorem dL_isLawful_144 : decode cL_isLawful 144 = .ok (.iconst 0, 1) := by decide +kernel
theorem dL_isLawful_145 : decode cL_isLawful 145 = .ok (.iaload, 1) := by decide +kernel
theorem dL_isLawful_146 : decode cL_isLawful 146 = .ok (.ifCond .le 191, 3) := by decide +kernel
theorem dL_isLawful_149 : decode cL_isLawful 149 = .ok (.iload 7, 2) := by decide +kernel
theorem dL_isLawful_151 : decode cL_isLawful 151 = .ok (.bipush 8, 2) := by decide +kernel
theorem dL_isLawful_153 : decode cL_isLawful 153 = .ok (.aload_n 1, 1) := by decide +kernel
theorem dL_isLawful_154 : decode cL_isLawful 154 = .ok (.iconst 1, 1) := by decide +kernel
theorem dL_isLawful_155 : decode cL_isLawful 155 = .ok (.iaload, 1) := by decide +kernel
theorem dL_isLawful_156 : decode cL_isLawful 156 = .ok (.imul, 1) := by decide +kernel
theorem dL_isLawful_157 : decode cL_isLawful 157 = .ok (.if_icmp .ge 180, 3) := by decide +kernel
theorem dL_isLawful_160 : decode cL_isLawful 160 = .ok (.aload_n 2, 1) := by decide +kernel
theorem dL_isLawful_161 : decode cL_isLawful 161 = .ok (.iload 7, 2) := by decide +kernel
theorem dL_isLawful_163 : decode cL_isLawful 163 = .ok (.bipush 8, 2) := by decide +kernel
theorem dL_isLawful_165 : decode cL_isLawful 165 = .ok (.idiv, 1) := by decide +kernel
theorem dL_isLawful_166 : decode cL_isLawful 166 = .ok (.iaload, 1) := by decide +kernel
theorem dL_isLawful_167 : decode cL_isLawful 167 = .ok (.iload 7, 2) := by decide +kernel
theorem dL_isLawful_169 : decode cL_isLawful 169 = .ok (.bipush 8, 2) := by decide +kernel
theorem dL_isLawful_171 : decode cL_isLawful 171 = .ok (.irem, 1) := by decide +kernel
theorem dL_isLawful_172 : decode cL_isLawful 172 = .ok (.ishr, 1) := by decide +kernel
theorem dL_isLawful_173 : decode cL_isLawful 173 = .ok (.iconst 1, 1) := by decide +kernel
theorem dL_isLawful_174 : decode cL_isLawful 174 = .ok (.iand, 1) := by decide +kernel
theorem dL_isLawful_175 : decode cL_isLawful 175 = .ok (.iconst 1, 1) := by decide +kernel
theorem dL_isLawful_176 : decode cL_isLawful 176 = .ok (.if_icmp .ne 161, 3) := by decide +kernel
theorem dL_isLawful_179 : decode cL_isLawful 179 = .ok (.aload_n 0, 1) := by decide +kernel
theorem dL_isLawful_180 : decode cL_isLawful 180 = .ok (.aload_n 1, 1) := by decide +kernel
theorem dL_isLawful_181 : decode cL_isLawful 181 = .ok (.iload 7, 2) := by decide +kernel
theorem dL_isLawful_183 : decode cL_isLawful 183 = .ok (.aload_n 0, 1) := by decide +kernel
theorem dL_isLawful_184 : decode cL_isLawful 184 = .ok (.invokevirtual 105, 3) := by decide +kernel
theorem dL_isLawful_187 : decode cL_isLawful 187 = .ok (.invokestatic 152, 3) := by decide +kernel
theorem dL_isLawful_190 : decode cL_isLawful 190 = .ok (.ifCond .eq 39, 3) := by decide +kernel
theorem dL_isLawful_193 : decode cL_isLawful 193 = .ok (.aload_n 0, 1) := by decide +kernel
theorem dL_isLawful_194 : decode cL_isLawful 194 = .ok (.aload_n 1, 1) := by decide +kernel
theorem dL_isLawful_195 : decode cL_isLawful 195 = .ok (.iload 7, 2) := by decide +kernel
theorem dL_isLawful_197 : decode cL_isLawful 197 = .ok (.iload 5, 2) := by decide +kernel
theorem dL_isLawful_199 : decode cL_isLawful 199 = .ok (.bipush 48, 2) := by decide +kernel
theorem dL_isLawful_201 : decode cL_isLawful 201 = .ok (.idiv, 1) := by decide +kernel
theorem dL_isLawful_202 : decode cL_isLawful 202 = .ok (.aload_n 0, 1) := by decide +kernel
theorem dL_isLawful_203 : decode cL_isLawful 203 = .ok (.invokevirtual 105, 3) := by decide +kernel
theorem dL_isLawful_206 : decode cL_isLawful 206 = .ok (.iconst 1, 1) := by decide +kernel
theorem dL_isLawful_207 : decode cL_isLawful 207 = .ok (.iadd, 1) := by decide +kernel
theorem dL_isLawful_208 : decode cL_isLawful 208 = .ok (.irem, 1) := by decide +kernel
theorem dL_isLawful_209 : decode cL_isLawful 209 = .ok (.invokestatic 152, 3) := by decide +kernel
theorem dL_isLawful_212 : decode cL_isLawful 212 = .ok (.ifCond .eq 17, 3) := by decide +kernel
theorem dL_isLawful_215 : decode cL_isLawful 215 = .ok (.aload_n 0, 1) := by decide +kernel
theorem dL_isLawful_216 : decode cL_isLawful 216 = .ok (.aload_n 1, 1) := by decide +kernel
theorem dL_isLawful_217 : decode cL_isLawful 217 = .ok (.iload 5, 2) := by decide +kernel
theorem dL_isLawful_219 : decode cL_isLawful 219 = .ok (.invokestatic 156, 3) := by decide +kernel
theorem dL_isLawful_222 : decode cL_isLawful 222 = .ok (.ifCond .eq 7, 3) := by decide +kernel
theorem dL_isLawful_225 : decode cL_isLawful 225 = .ok (.iconst 1, 1) := by decide +kernel
theorem dL_isLawful_226 : decode cL_isLawful 226 = .ok (.goto 4, 3) := by decide +kernel
theorem dL_isLawful_229 : decode cL_isLawful 229 = .ok (.iconst 0, 1) := by decide +kernel
theorem dL_isLawful_230 : decode cL_isLawful 230 = .ok (.istore 6, 2) := by decide +kernel
theorem dL_isLawful_232 : decode cL_isLawful 232 = .ok (.aload_n 0, 1) := by decide +kernel
theorem dL_isLawful_233 : decode cL_isLawful 233 = .ok (.iload 7, 2) := by decide +kernel
theorem dL_isLawful_235 : decode cL_isLawful 235 = .ok (.bipush 8, 2) := by decide +kernel
theorem dL_isLawful_237 : decode cL_isLawful 237 = .ok (.idiv, 1) := by decide +kernel
theorem dL_isLawful_238 : decode cL_isLawful 238 = .ok (.iload 7, 2) := by decide +kernel
theorem dL_isLawful_240 : decode cL_isLawful 240 = .ok (.bipush 8, 2) := by decide +kernel
theorem dL_isLawful_242 : decode cL_isLawful 242 = .ok (.irem, 1) := by decide +kernel
theorem dL_isLawful_243 : decode cL_isLawful 243 = .ok (.bipush 7, 2) := by decide +kernel
theorem dL_isLawful_245 : decode cL_isLawful 245 = .ok (.invokestatic 116, 3) := by decide +kernel
theorem dL_isLawful_248 : decode cL_isLawful 248 = .ok (.istore 8, 2) := by decide +kernel
theorem dL_isLawful_250 : decode cL_isLawful 250 = .ok (.iconst 0, 1) := by decide +kernel
theorem dL_isLawful_251 : decode cL_isLawful 251 = .ok (.istore 9, 2) := by decide +kernel
theorem dL_isLawful_253 : decode cL_isLawful 253 = .ok (.iload 9, 2) := by decide +kernel
theorem dL_isLawful_255 : decode cL_isLawful 255 = .ok (.aload_n 1, 1) := by decide +kernel
theorem dL_isLawful_256 : decode cL_isLawful 256 = .ok (.iconst 0, 1) := by decide +kernel
theorem dL_isLawful_257 : decode cL_isLawful 257 = .ok (.iaload, 1) := by decide +kernel
theorem dL_isLawful_258 : decode cL_isLawful 258 = .ok (.if_icmp .ge 79, 3) := by decide +kernel
theorem dL_isLawful_261 : decode cL_isLawful 261 = .ok (.iload 6, 2) := by decide +kernel
theorem dL_isLawful_263 : decode cL_isLawful 263 = .ok (.ifCond .eq 74, 3) := by decide +kernel
theorem dL_isLawful_266 : decode cL_isLawful 266 = .ok (.aload_n 0, 1) := by decide +kernel
theorem dL_isLawful_267 : decode cL_isLawful 267 = .ok (.iload 7, 2) := by decide +kernel
theorem dL_isLawful_269 : decode cL_isLawful 269 = .ok (.bipush 8, 2) := by decide +kernel
theorem dL_isLawful_271 : decode cL_isLawful 271 = .ok (.idiv, 1) := by decide +kernel
theorem dL_isLawful_272 : decode cL_isLawful 272 = .ok (.iload 7, 2) := by decide +kernel
theorem dL_isLawful_274 : decode cL_isLawful 274 = .ok (.bipush 8, 2) := by decide +kernel
theorem dL_isLawful_276 : decode cL_isLawful 276 = .ok (.irem, 1) := by decide +kernel
theorem dL_isLawful_277 : decode cL_isLawful 277 = .ok (.iload 9, 2) := by decide +kernel
theorem dL_isLawful_279 : decode cL_isLawful 279 = .ok (.aload_n 0, 1) := by decide +kernel
theorem dL_isLawful_280 : decode cL_isLawful 280 = .ok (.invokevirtual 105, 3) := by decide +kernel
theorem dL_isLawful_283 : decode cL_isLawful 283 = .ok (.invokestatic 135, 3) := by decide +kernel
theorem dL_isLawful_286 : decode cL_isLawful 286 = .ok (.istore 10, 2) := by decide +kernel
theorem dL_isLawful_288 : decode cL_isLawful 288 = .ok (.iload 8, 2) := by decide +kernel
theorem dL_isLawful_290 : decode cL_isLawful 290 = .ok (.iload 9, 2) := by decide +kernel
theorem dL_isLawful_292 : decode cL_isLawful 292 = .ok (.ishr, 1) := by decide +kernel
theorem dL_isLawful_293 : decode cL_isLawful 293 = .ok (.iconst 1, 1) := by decide +kernel
theorem dL_isLawful_294 : decode cL_isLawful 294 = .ok (.iand, 1) := by decide +kernel
theorem dL_isLawful_295 : decode cL_isLawful 295 = .ok (.ifCond .ne 17, 3) := by decide +kernel
theorem dL_isLawful_298 : decode cL_isLawful 298 = .ok (.iload 10, 2) := by decide +kernel
theorem dL_isLawful_300 : decode cL_isLawful 300 = .ok (.iconst 2, 1) := by decide +kernel
theorem dL_isLawful_301 : decode cL_isLawful 301 = .ok (.if_icmp .eq 7, 3) := by decide +kernel
theorem dL_isLawful_304 : decode cL_isLawful 304 = .ok (.iconst 1, 1) := by decide +kernel
theorem dL_isLawful_305 : decode cL_isLawful 305 = .ok (.goto 24, 3) := by decide +kernel
theorem dL_isLawful_308 : decode cL_isLawful 308 = .ok (.iconst 0, 1) := by decide +kernel
theorem dL_isLawful_309 : decode cL_isLawful 309 = .ok (.goto 20, 3) := by decide +kernel
theorem dL_isLawful_312 : decode cL_isLawful 312 = .ok (.iload 10, 2) := by decide +kernel
theorem dL_isLawful_314 : decode cL_isLawful 314 = .ok (.iconst 1, 1) := by decide +kernel
theorem dL_isLawful_315 : decode cL_isLawful 315 = .ok (.if_icmp .eq 9, 3) := by decide +kernel
theorem dL_isLawful_318 : decode cL_isLawful 318 = .ok (.iload 10, 2) := by decide +kernel
theorem dL_isLawful_320 : decode cL_isLawful 320 = .ok (.iconst 2, 1) := by decide +kernel
theorem dL_isLawful_321 : decode cL_isLawful 321 = .ok (.if_icmp .ne 7, 3) := by decide +kernel
theorem dL_isLawful_324 : decode cL_isLawful 324 = .ok (.iconst 1, 1) := by decide +kernel
theorem dL_isLawful_325 : decode cL_isLawful 325 = .ok (.goto 4, 3) := by decide +kernel
theorem dL_isLawful_328 : decode cL_isLawful 328 = .ok (.iconst 0, 1) := by decide +kernel
theorem dL_isLawful_329 : decode cL_isLawful 329 = .ok (.istore 6, 2) := by decide +kernel
theorem dL_isLawful_331 : decode cL_isLawful 331 = .ok (.iinc 9 1, 3) := by decide +kernel
theorem dL_isLawful_334 : decode cL_isLawful 334 = .ok (.goto (-81), 3) := by decide +kernel
theorem dL_isLawful_337 : decode cL_isLawful 337 = .ok (.iload 6, 2) := by decide +kernel
theorem dL_isLawful_339 : decode cL_isLawful 339 = .ok (.ireturn, 1) := by decide +kernel
set_option maxRecDepth 20000 in
theorem ggL_tells_L_offence : GoodIn wsL_tells wsL_offence := goodIn_ca (goodIn_ca (goodIn_r _ [5, 6, 7, 8, 9, 10, 11, 12, 13, 14, 15, 16, 17, 18, 19, 20, 21, 22, 23, 24, 25, 26, 27, 28, 29, 30, 31, 32, 33, 34, 118, 119, 120, 121, 122, 123, 124, 125, 126, 127, 128, 129, 130, 131, 132, 133, 134] (by decide +kernel) (by decide +kernel)) (goodIn_sub (fun _ h => List.mem_cons_of_mem _ (List.mem_append_left _ (List.mem_append_left _ (List.mem_append_right _ h)))) (by decide +kernel))) (goodIn_sub (fun _ h => List.mem_cons_of_mem _ (List.mem_append_left _ (List.mem_append_right _ h))) (by decide +kernel))
set_option maxRecDepth 20000 in
theorem gL_tells_L_offence : GoodIn wsL_tells (va_wsS RL 160 yL_offence wsL_offence) := goodIn_app (goodIn_of _ (by decide +kernel)) ggL_tells_L_offence
set_option maxRecDepth 20000 in
theorem ggL_tells_L_isRefused : GoodIn wsL_tells wsL_isRefused := goodIn_r _ [37, 38, 7, 8] (by decide +kernel) (by decide +kernel)
set_option maxRecDepth 20000 in
theorem gL_tells_L_isRefused : GoodIn wsL_tells (va_wsS RL 162 yL_isRefused wsL_isRefused) := goodIn_app (goodIn_of _ (by decide +kernel)) ggL_tells_L_isRefused
set_option maxRecDepth 20000 in
theorem ggL_tells_X4_day : GoodIn wsL_tells wsX4_day := goodIn_r _ [42, 43, 118, 119, 120, 121, 122, 123, 124, 125, 126, 127, 128, 129, 130] (by decide +kernel) (by decide +kernel)
set_option maxRecDepth 20000 in
theorem gL_tells_X4_day : GoodIn wsL_tells (wsV RL 105 RX4 yX4_day wsX4_day) := goodIn_app (goodIn_of _ (by decide +kernel)) ggL_tells_X4_day
set_option maxRecDepth 20000 in
theorem ggL_tells_L_file : GoodIn wsL_tells wsL_file := goodIn_ca (goodIn_ca (goodIn_r _ [46, 6, 7, 8, 47, 48, 49, 12, 50, 14, 15, 16, 17, 43, 51, 52, 53, 54, 55, 56, 57, 58, 59, 60, 23, 24, 25, 61, 62, 63, 64, 30, 31, 65, 66, 67, 68, 69, 70, 71, 72, 73, 74, 75, 76, 77, 78, 79, 80, 81, 82, 118, 119, 120, 121, 122, 123, 124, 125, 126, 127, 128, 129, 130, 135, 136, 137, 138, 139, 140, 141, 142, 143, 144, 145, 146, 147, 148, 149, 150, 151, 152, 153] (by decide +kernel) (by decide +kernel)) (goodIn_sub (fun _ h => List.mem_cons_of_mem _ (List.mem_append_left _ (List.mem_append_left _ (List.mem_append_right _ h)))) (by decide +kernel))) (goodIn_sub (fun _ h => List.mem_cons_of_mem _ (List.mem_append_left _ (List.mem_append_right _ h))) (by decide +kernel))
set_option maxRecDepth 20000 in
theorem gL_tells_L_file : GoodIn wsL_tells (va_wsS RL 166 yL_file wsL_file) := goodIn_app (goodIn_of _ (by decide +kernel)) ggL_tells_L_file
set_option maxRecDepth 20000 in
theorem ggL_tells_L_item : GoodIn wsL_tells wsL_item := goodIn_ca (goodIn_ca (goodIn_ca (goodIn_r _ [85, 86, 38, 7, 8, 87, 88, 89, 12, 90, 91, 92, 14, 15, 16, 17, 93, 94, 95, 96, 97, 43, 98, 99, 100, 101, 52, 23, 24, 25, 102, 103, 104, 55, 105, 69, 106, 107, 108, 109, 30, 31, 110, 111, 112, 113, 114, 115, 116, 117, 118, 119, 120, 121, 122, 123, 124, 125, 126, 127, 128, 129, 130, 154, 155, 156, 157, 158, 159, 160, 161, 162, 163, 135, 136, 137, 138, 139] (by decide +kernel) (by decide +kernel)) (goodIn_sub (fun _ h => List.mem_cons_of_mem _ (List.mem_append_right _ h)) (by decide +kernel))) (goodIn_sub (fun _ h => List.mem_cons_of_mem _ (List.mem_append_left _ (List.mem_append_left _ (List.mem_append_right _ h)))) (by decide +kernel))) (goodIn_sub (fun _ h => List.mem_cons_of_mem _ (List.mem_append_left _ (List.mem_append_right _ h))) (by decide +kernel))
set_option maxRecDepth 20000 in
theorem gL_tells_L_item : GoodIn wsL_tells (va_wsS RL 169 yL_item wsL_item) := goodIn_app (goodIn_of _ (by decide +kernel)) ggL_tells_L_item
end
section
theorem dL_tells_0 : decode cL_tells 0 = .ok (.iload 4, 2) := by decide +kernel
theorem dL_tells_2 : decode cL_tells 2 = .ok (.ifCond .ne 86, 3) := by decide +kernel
theorem dL_tells_5 : decode cL_tells 5 = .ok (.aload_n 0, 1) := by decide +kernel
theorem dL_tells_6 : decode cL_tells 6 = .ok (.iload_n 3, 1) := by decide +kernel
theorem dL_tells_7 : decode cL_tells 7 = .ok (.iconst 3, 1) := by decide +kernel
theorem dL_tells_8 : decode cL_tells 8 = .ok (.irem, 1) := by decide +kernel
theorem dL_tells_9 : decode cL_tells 9 = .ok (.ifCond .ne 13, 3) := by decide +kernel
theorem dL_tells_12 : decode cL_tells 12 = .ok (.iload_n 3, 1) := by decide +kernel
theorem dL_tells_13 : decode cL_tells 13 = .ok (.iconst 3, 1) := by decide +kernel
theorem dL_tells_14 : decode cL_tells 14 = .ok (.idiv, 1) := by decide +kernel
theorem dL_tells_15 : decode cL_tells 15 = .ok (.sipush 1025, 3) := by decide +kernel
theorem dL_tells_18 : decode cL_tells 18 = .ok (.irem, 1) := by decide +kernel
theorem dL_tells_19 : decode cL_tells 19 = .ok (.goto 11, 3) := by decide +kernel
theorem dL_tells_22 : decode cL_tells 22 = .ok (.iconst 1, 1) := by decide +kernel
theorem dL_tells_23 : decode cL_tells 23 = .ok (.iload_n 3, 1) := by decide +kernel
theorem dL_tells_24 : decode cL_tells 24 = .ok (.iconst 3, 1) := by decide +kernel
theorem dL_tells_25 : decode cL_tells 25 = .ok (.idiv, 1) := by decide +kernel
theorem dL_tells_26 : decode cL_tells 26 = .ok (.bipush 15, 2) := by decide +kernel
theorem dL_tells_28 : decode cL_tells 28 = .ok (.irem, 1) := by decide +kernel
theorem dL_tells_29 : decode cL_tells 29 = .ok (.iadd, 1) := by decide +kernel
theorem dL_tells_30 : decode cL_tells 30 = .ok (.iload_n 3, 1) := by decide +kernel
theorem dL_tells_31 : decode cL_tells 31 = .ok (.bipush 50, 2) := by decide +kernel
theorem dL_tells_33 : decode cL_tells 33 = .ok (.idiv, 1) := by decide +kernel
theorem dL_tells_34 : decode cL_tells 34 = .ok (.bipush 11, 2) := by decide +kernel
theorem dL_tells_36 : decode cL_tells 36 = .ok (.irem, 1) := by decide +kernel
theorem dL_tells_37 : decode cL_tells 37 = .ok (.iload_n 3, 1) := by decide +kernel
theorem dL_tells_38 : decode cL_tells 38 = .ok (.sipush 600, 3) := by decide +kernel
theorem dL_tells_41 : decode cL_tells 41 = .ok (.idiv, 1) := by decide +kernel
theorem dL_tells_42 : decode cL_tells 42 = .ok (.iconst 4, 1) := by decide +kernel
theorem dL_tells_43 : decode cL_tells 43 = .ok (.irem, 1) := by decide +kernel
theorem dL_tells_44 : decode cL_tells 44 = .ok (.ifCond .ne 14, 3) := by decide +kernel
theorem dL_tells_47 : decode cL_tells 47 = .ok (.iload_n 3, 1) := by decide +kernel
theorem dL_tells_48 : decode cL_tells 48 = .ok (.sipush 2400, 3) := by decide +kernel
theorem dL_tells_51 : decode cL_tells 51 = .ok (.idiv, 1) := by decide +kernel
theorem dL_tells_52 : decode cL_tells 52 = .ok (.bipush 40, 2) := by decide +kernel
theorem dL_tells_54 : decode cL_tells 54 = .ok (.irem, 1) := by decide +kernel
theorem dL_tells_55 : decode cL_tells 55 = .ok (.goto 6, 3) := by decide +kernel
theorem dL_tells_58 : decode cL_tells 58 = .ok (.sipush 700, 3) := by decide +kernel
theorem dL_tells_61 : decode cL_tells 61 = .ok (.invokestatic 160, 3) := by decide +kernel
theorem dL_tells_64 : decode cL_tells 64 = .ok (.istore 5, 2) := by decide +kernel
theorem dL_tells_66 : decode cL_tells 66 = .ok (.aload_n 1, 1) := by decide +kernel
theorem dL_tells_67 : decode cL_tells 67 = .ok (.iconst 0, 1) := by decide +kernel
theorem dL_tells_68 : decode cL_tells 68 = .ok (.dup2, 1) := by decide +kernel
theorem dL_tells_69 : decode cL_tells 69 = .ok (.iaload, 1) := by decide +kernel
theorem dL_tells_70 : decode cL_tells 70 = .ok (.iload 5, 2) := by decide +kernel
theorem dL_tells_72 : decode cL_tells 72 = .ok (.invokestatic 162, 3) := by decide +kernel
theorem dL_tells_75 : decode cL_tells 75 = .ok (.ifCond .eq 7, 3) := by decide +kernel
theorem dL_tells_78 : decode cL_tells 78 = .ok (.iconst 0, 1) := by decide +kernel
theorem dL_tells_79 : decode cL_tells 79 = .ok (.goto 4, 3) := by decide +kernel
theorem dL_tells_82 : decode cL_tells 82 = .ok (.iconst 1, 1) := by decide +kernel
theorem dL_tells_83 : decode cL_tells 83 = .ok (.iadd, 1) := by decide +kernel
theorem dL_tells_84 : decode cL_tells 84 = .ok (.iastore, 1) := by decide +kernel
theorem dL_tells_85 : decode cL_tells 85 = .ok (.iload 5, 2) := by decide +kernel
theorem dL_tells_87 : decode cL_tells 87 = .ok (.ireturn, 1) := by decide +kernel
theorem dL_tells_88 : decode cL_tells 88 = .ok (.iload 4, 2) := by decide +kernel
theorem dL_tells_90 : decode cL_tells 90 = .ok (.iconst 1, 1) := by decide +kernel
theorem dL_tells_91 : decode cL_tells 91 = .ok (.if_icmp .ne 62, 3) := by decide +kernel
theorem dL_tells_94 : decode cL_tells 94 = .ok (.iload_n 3, 1) := by decide +kernel
theorem dL_tells_95 : decode cL_tells 95 = .ok (.bipush 100, 2) := by decide +kernel
theorem dL_tells_97 : decode cL_tells 97 = .ok (.idiv, 1) := by decide +kernel
theorem dL_tells_98 : decode cL_tells 98 = .ok (.bipush 17, 2) := by decide +kernel
theorem dL_tells_100 : decode cL_tells 100 = .ok (.irem, 1) := by decide +kernel
theorem dL_tells_101 : decode cL_tells 101 = .ok (.istore 6, 2) := by decide +kernel
theorem dL_tells_103 : decode cL_tells 103 = .ok (.aload_n 0, 1) := by decide +kernel
theorem dL_tells_104 : decode cL_tells 104 = .ok (.iload_n 3, 1) := by decide +kernel
theorem dL_tells_105 : decode cL_tells 105 = .ok (.aload_n 0, 1) := by decide +kernel
theorem dL_tells_106 : decode cL_tells 106 = .ok (.invokevirtual 105, 3) := by decide +kernel
theorem dL_tells_109 : decode cL_tells 109 = .ok (.iconst 2, 1) := by decide +kernel
theorem dL_tells_110 : decode cL_tells 110 = .ok (.iadd, 1) := by decide +kernel
theorem dL_tells_111 : decode cL_tells 111 = .ok (.irem, 1) := by decide +kernel
theorem dL_tells_112 : decode cL_tells 112 = .ok (.iload 6, 2) := by decide +kernel
theorem dL_tells_114 : decode cL_tells 114 = .ok (.iload_n 3, 1) := by decide +kernel
theorem dL_tells_115 : decode cL_tells 115 = .ok (.sipush 1700, 3) := by decide +kernel
theorem dL_tells_118 : decode cL_tells 118 = .ok (.idiv, 1) := by decide +kernel
theorem dL_tells_119 : decode cL_tells 119 = .ok (.bipush 13, 2) := by decide +kernel
theorem dL_tells_121 : decode cL_tells 121 = .ok (.irem, 1) := by decide +kernel
theorem dL_tells_122 : decode cL_tells 122 = .ok (.iconst 5, 1) := by decide +kernel
theorem dL_tells_123 : decode cL_tells 123 = .ok (.isub, 1) := by decide +kernel
theorem dL_tells_124 : decode cL_tells 124 = .ok (.invokestatic 166, 3) := by decide +kernel
theorem dL_tells_127 : decode cL_tells 127 = .ok (.istore 5, 2) := by decide +kernel
theorem dL_tells_129 : decode cL_tells 129 = .ok (.iload 5, 2) := by decide +kernel
theorem dL_tells_131 : decode cL_tells 131 = .ok (.invokestatic 162, 3) := by decide +kernel
theorem dL_tells_134 : decode cL_tells 134 = .ok (.ifCond .ne 16, 3) := by decide +kernel
theorem dL_tells_137 : decode cL_tells 137 = .ok (.aload_n 2, 1) := by decide +kernel
theorem dL_tells_138 : decode cL_tells 138 = .ok (.iload 5, 2) := by decide +kernel
theorem dL_tells_140 : decode cL_tells 140 = .ok (.iload 6, 2) := by decide +kernel
theorem dL_tells_142 : decode cL_tells 142 = .ok (.iastore, 1) := by decide +kernel
theorem dL_tells_143 : decode cL_tells 143 = .ok (.aload_n 1, 1) := by decide +kernel
theorem dL_tells_144 : decode cL_tells 144 = .ok (.iconst 1, 1) := by decide +kernel
theorem dL_tells_145 : decode cL_tells 145 = .ok (.dup2, 1) := by decide +kernel
theorem dL_tells_146 : decode cL_tells 146 = .ok (.iaload, 1) := by decide +kernel
theorem dL_tells_147 : decode cL_tells 147 = .ok (.iconst 1, 1) := by decide +kernel
theorem dL_tells_148 : decode cL_tells 148 = .ok (.iadd, 1) := by decide +kernel
theorem dL_tells_149 : decode cL_tells 149 = .ok (.iastore, 1) := by decide +kernel
theorem dL_tells_150 : decode cL_tells 150 = .ok (.iload 5, 2) := by decide +kernel
theorem dL_tells_152 : decode cL_tells 152 = .ok (.ireturn, 1) := by decide +kernel
theorem dL_tells_153 : decode cL_tells 153 = .ok (.iload_n 3, 1) := by decide +kernel
theorem dL_tells_154 : decode cL_tells 154 = .ok (.aload_n 1, 1) := by decide +kernel
theorem dL_tells_155 : decode cL_tells 155 = .ok (.iconst 1, 1) := by decide +kernel
theorem dL_tells_156 : decode cL_tells 156 = .ok (.iaload, 1) := by decide +kernel
theorem dL_tells_157 : decode cL_tells 157 = .ok (.iconst 1, 1) := by decide +kernel
theorem dL_tells_158 : decode cL_tells 158 = .ok (.iadd, 1) := by decide +kernel
theorem dL_tells_159 : decode cL_tells 159 = .ok (.irem, 1) := by decide +kernel
theorem dL_tells_160 : decode cL_tells 160 = .ok (.istore 6, 2) := by decide +kernel
theorem dL_tells_162 : decode cL_tells 162 = .ok (.iload_n 3, 1) := by decide +kernel
theorem dL_tells_163 : decode cL_tells 163 = .ok (.bipush 30, 2) := by decide +kernel
theorem dL_tells_165 : decode cL_tells 165 = .ok (.idiv, 1) := by decide +kernel
theorem dL_tells_166 : decode cL_tells 166 = .ok (.iconst 4, 1) := by decide +kernel
theorem dL_tells_167 : decode cL_tells 167 = .ok (.irem, 1) := by decide +kernel
theorem dL_tells_168 : decode cL_tells 168 = .ok (.ifCond .ne 13, 3) := by decide +kernel
theorem dL_tells_171 : decode cL_tells 171 = .ok (.iload_n 3, 1) := by decide +kernel
theorem dL_tells_172 : decode cL_tells 172 = .ok (.bipush 120, 2) := by decide +kernel
theorem dL_tells_174 : decode cL_tells 174 = .ok (.idiv, 1) := by decide +kernel
theorem dL_tells_175 : decode cL_tells 175 = .ok (.bipush 17, 2) := by decide +kernel
theorem dL_tells_177 : decode cL_tells 177 = .ok (.irem, 1) := by decide +kernel
theorem dL_tells_178 : decode cL_tells 178 = .ok (.goto 10, 3) := by decide +kernel
theorem dL_tells_181 : decode cL_tells 181 = .ok (.aload_n 2, 1) := by decide +kernel
theorem dL_tells_182 : decode cL_tells 182 = .ok (.iload 6, 2) := by decide +kernel
theorem dL_tells_184 : decode cL_tells 184 = .ok (.bipush 6, 2) := by decide +kernel
theorem dL_tells_186 : decode cL_tells 186 = .ok (.irem, 1) := by decide +kernel
theorem dL_tells_187 : decode cL_tells 187 = .ok (.iaload, 1) := by decide +kernel
theorem dL_tells_188 : decode cL_tells 188 = .ok (.istore 7, 2) := by decide +kernel
theorem dL_tells_190 : decode cL_tells 190 = .ok (.aload_n 0, 1) := by decide +kernel
theorem dL_tells_191 : decode cL_tells 191 = .ok (.iload 6, 2) := by decide +kernel
theorem dL_tells_193 : decode cL_tells 193 = .ok (.iload_n 3, 1) := by decide +kernel
theorem dL_tells_194 : decode cL_tells 194 = .ok (.bipush 7, 2) := by decide +kernel
theorem dL_tells_196 : decode cL_tells 196 = .ok (.idiv, 1) := by decide +kernel
theorem dL_tells_197 : decode cL_tells 197 = .ok (.iconst 5, 1) := by decide +kernel
theorem dL_tells_198 : decode cL_tells 198 = .ok (.irem, 1) := by decide +kernel
theorem dL_tells_199 : decode cL_tells 199 = .ok (.iload_n 3, 1) := by decide +kernel
theorem dL_tells_200 : decode cL_tells 200 = .ok (.sipush 600, 3) := by decide +kernel
theorem dL_tells_203 : decode cL_tells 203 = .ok (.idiv, 1) := by decide +kernel
theorem dL_tells_204 : decode cL_tells 204 = .ok (.bipush 15, 2) := by decide +kernel
theorem dL_tells_206 : decode cL_tells 206 = .ok (.irem, 1) := by decide +kernel
theorem dL_tells_207 : decode cL_tells 207 = .ok (.iconst 4, 1) := by decide +kernel
theorem dL_tells_208 : decode cL_tells 208 = .ok (.isub, 1) := by decide +kernel
theorem dL_tells_209 : decode cL_tells 209 = .ok (.iload 7, 2) := by decide +kernel
theorem dL_tells_211 : decode cL_tells 211 = .ok (.iload_n 3, 1) := by decide +kernel
theorem dL_tells_212 : decode cL_tells 212 = .ok (.sipush 9000, 3) := by decide +kernel
theorem dL_tells_215 : decode cL_tells 215 = .ok (.idiv, 1) := by decide +kernel
theorem dL_tells_216 : decode cL_tells 216 = .ok (.bipush 7, 2) := by decide +kernel
theorem dL_tells_218 : decode cL_tells 218 = .ok (.irem, 1) := by decide +kernel
theorem dL_tells_219 : decode cL_tells 219 = .ok (.iconst 3, 1) := by decide +kernel
theorem dL_tells_220 : decode cL_tells 220 = .ok (.idiv, 1) := by decide +kernel
theorem dL_tells_221 : decode cL_tells 221 = .ok (.iload_n 3, 1) := by decide +kernel
theorem dL_tells_222 : decode cL_tells 222 = .ok (.ldc 168, 2) := by decide +kernel
theorem dL_tells_224 : decode cL_tells 224 = .ok (.idiv, 1) := by decide +kernel
theorem dL_tells_225 : decode cL_tells 225 = .ok (.iconst 2, 1) := by decide +kernel
theorem dL_tells_226 : decode cL_tells 226 = .ok (.irem, 1) := by decide +kernel
theorem dL_tells_227 : decode cL_tells 227 = .ok (.ifCond .ne 7, 3) := by decide +kernel
theorem dL_tells_230 : decode cL_tells 230 = .ok (.iconst 1, 1) := by decide +kernel
theorem dL_tells_231 : decode cL_tells 231 = .ok (.goto 4, 3) := by decide +kernel
theorem dL_tells_234 : decode cL_tells 234 = .ok (.iconst 0, 1) := by decide +kernel
theorem dL_tells_235 : decode cL_tells 235 = .ok (.invokestatic 169, 3) := by decide +kernel
theorem dL_tells_238 : decode cL_tells 238 = .ok (.istore 5, 2) := by decide +kernel
theorem dL_tells_240 : decode cL_tells 240 = .ok (.aload_n 1, 1) := by decide +kernel
theorem dL_tells_241 : decode cL_tells 241 = .ok (.iconst 2, 1) := by decide +kernel
theorem dL_tells_242 : decode cL_tells 242 = .ok (.dup2, 1) := by decide +kernel
theorem dL_tells_243 : decode cL_tells 243 = .ok (.iaload, 1) := by decide +kernel
theorem dL_tells_244 : decode cL_tells 244 = .ok (.iload 5, 2) := by decide +kernel
theorem dL_tells_246 : decode cL_tells 246 = .ok (.invokestatic 162, 3) := by decide +kernel
theorem dL_tells_249 : decode cL_tells 249 = .ok (.ifCond .eq 7, 3) := by decide +kernel
theorem dL_tells_252 : decode cL_tells 252 = .ok (.iconst 0, 1) := by decide +kernel
theorem dL_tells_253 : decode cL_tells 253 = .ok (.goto 4, 3) := by decide +kernel
theorem dL_tells_256 : decode cL_tells 256 = .ok (.iconst 1, 1) := by decide +kernel
theorem dL_tells_257 : decode cL_tells 257 = .ok (.iadd, 1) := by decide +kernel
theorem dL_tells_258 : decode cL_tells 258 = .ok (.iastore, 1) := by decide +kernel
theorem dL_tells_259 : decode cL_tells 259 = .ok (.iload 5, 2) := by decide +kernel
theorem dL_tells_261 : decode cL_tells 261 = .ok (.ireturn, 1) := by decide +kernel
set_option maxRecDepth 20000 in
theorem ggL_decides_X4_day : GoodIn wsL_decides wsX4_day := goodIn_r _ [5, 6, 270, 271, 272, 273, 274, 275, 276, 277, 278, 279, 280, 281, 282] (by decide +kernel) (by decide +kernel)
set_option maxRecDepth 20000 in
theorem gL_decides_X4_day : GoodIn wsL_decides (wsV RL 105 RX4 yX4_day wsX4_day) := goodIn_app (goodIn_of _ (by decide +kernel)) ggL_decides_X4_day
set_option maxRecDepth 20000 in
theorem ggL_decides_L_best : GoodIn wsL_decides wsL_best := goodIn_ca (goodIn_ca (goodIn_r _ [10, 11, 12, 13, 14, 15, 16, 4, 17, 18, 19, 20, 21, 22, 23, 24, 25, 26, 27, 28, 29, 30, 31, 32, 33, 34, 35, 36, 37, 38, 39, 40, 6, 41, 42, 43, 44, 45, 46, 47, 48, 49, 50, 51, 52, 53, 54, 55, 56, 57, 58, 59, 60, 61, 62, 63, 64, 65, 66, 67, 68, 69, 70, 71, 72, 73, 74, 75, 76, 77, 78, 79, 80, 81, 82, 83, 84, 85, 86, 87, 88, 89, 90, 91, 92, 93, 94, 95, 96, 97, 98, 99, 100, 101, 102, 103, 104, 105, 106, 107, 108, 109, 110, 111, 112, 113, 114, 115, 116, 117, 118, 119, 120, 121, 122, 123, 124, 125, 126, 127, 128, 129, 130, 131, 132, 133, 134, 135, 136, 137, 138, 139, 140, 141, 142, 143, 144, 145, 146, 147, 148, 149, 150, 151, 270, 271, 272, 273, 274, 275, 276, 277, 278, 279, 280, 281, 282, 283, 284, 285, 286, 287, 288, 289, 290, 291, 292, 293, 294, 295, 296, 297, 298, 299, 300, 301, 302, 303, 304, 305, 306, 307, 308, 309, 310, 311, 312, 313, 314, 315] (by decide +kernel) (by decide +kernel)) (goodIn_sub (fun _ h => List.mem_cons_of_mem _ (List.mem_append_left _ (List.mem_append_left _ (List.mem_append_right _ h)))) (by decide +kernel))) (goodIn_sub (fun _ h => List.mem_cons_of_mem _ (List.mem_append_left _ (List.mem_append_right _ h))) (by decide +kernel))
set_option maxRecDepth 20000 in
theorem gL_decides_L_best : GoodIn wsL_decides (va_wsS RL 140 yL_best wsL_best) := goodIn_app (goodIn_of _ (by decide +kernel)) ggL_decides_L_best
set_option maxRecDepth 20000 in
theorem ggL_decides_L_isRefused : GoodIn wsL_decides wsL_isRefused := goodIn_r _ [154, 12, 13, 155] (by decide +kernel) (by decide +kernel)
set_option maxRecDepth 20000 in
theorem gL_decides_L_isRefused : GoodIn wsL_decides (va_wsS RL 162 yL_isRefused wsL_isRefused) := goodIn_app (goodIn_of _ (by decide +kernel)) ggL_decides_L_isRefused
set_option maxRecDepth 20000 in
theorem ggL_decides_L_of : GoodIn wsL_decides wsL_of := goodIn_ca (goodIn_ca (goodIn_r _ [158, 11, 12, 13, 159, 160, 161, 4, 162, 39, 40, 163, 164, 165, 166, 167, 168, 169, 18, 19, 20, 21, 22, 23, 24, 25, 26, 27, 28, 29, 30, 31, 32, 33, 34, 170, 171, 172, 173, 48, 6, 58, 59, 60, 61, 62, 63, 64, 65, 66, 67, 68, 69, 70, 71, 72, 73, 74, 75, 76, 77, 288, 289, 290, 291, 292, 293, 294, 295, 296, 297, 298, 299, 300, 301, 270, 271, 272, 273, 274, 275, 276, 277, 278, 279, 280, 281, 282, 283, 284, 285, 286, 287, 302, 303, 304, 305] (by decide +kernel) (by decide +kernel)) (goodIn_sub (fun _ h => List.mem_cons_of_mem _ (List.mem_append_left _ (List.mem_append_right _ h))) (by decide +kernel))) (goodIn_sub (fun _ h => List.mem_cons_of_mem _ (List.mem_append_left _ (List.mem_append_left _ (List.mem_append_right _ h)))) (by decide +kernel))
set_option maxRecDepth 20000 in
theorem gL_decides_L_of : GoodIn wsL_decides (va_wsS RL 116 yL_of wsL_of) := goodIn_app (goodIn_of _ (by decide +kernel)) ggL_decides_L_of
set_option maxRecDepth 20000 in
theorem ggL_decides_L_charge : GoodIn wsL_decides wsL_charge := goodIn_ca (goodIn_ca (goodIn_ca (goodIn_r _ [176, 11, 12, 13, 155, 177, 178, 179, 4, 180, 181, 182, 163, 6, 164, 183, 18, 19, 20, 21, 22, 23, 24, 25, 26, 27, 28, 29, 30, 31, 32, 33, 34, 184, 185, 186, 187, 39, 40, 188, 44, 45, 46, 47, 48, 49, 50, 51, 52, 53, 54, 55, 56, 57, 58, 59, 60, 61, 62, 63, 64, 65, 66, 67, 68, 69, 70, 71, 72, 73, 74, 75, 76, 77, 78, 79, 80, 81, 82, 83, 84, 85, 86, 87, 88, 89, 90, 91, 92, 93, 94, 95, 96, 97, 98, 99, 100, 101, 102, 103, 104, 105, 106, 107, 108, 189, 190, 191, 192, 121, 122, 123, 124, 125, 126, 127, 128, 129, 130, 131, 132, 133, 134, 135, 136, 137, 138, 139, 140, 117, 118, 119, 120, 288, 289, 290, 291, 292, 293, 294, 295, 296, 297, 298, 299, 300, 301, 270, 271, 272, 273, 274, 275, 276, 277, 278, 279, 280, 281, 282, 283, 284, 285, 286, 287, 302, 303, 304, 305, 306, 307, 308, 309, 310, 311, 312, 313, 314, 315] (by decide +kernel) (by decide +kernel)) (goodIn_sub (fun _ h => List.mem_cons_of_mem _ (List.mem_append_right _ h)) (by decide +kernel))) (goodIn_sub (fun _ h => List.mem_cons_of_mem _ (List.mem_append_left _ (List.mem_append_left _ (List.mem_append_right _ h)))) (by decide +kernel))) (goodIn_sub (fun _ h => List.mem_cons_of_mem _ (List.mem_append_left _ (List.mem_append_right _ h))) (by decide +kernel))
set_option maxRecDepth 20000 in
theorem gL_decides_L_charge : GoodIn wsL_decides (va_wsS RL 172 yL_charge wsL_charge) := goodIn_app (goodIn_of _ (by decide +kernel)) ggL_decides_L_charge
set_option maxRecDepth 20000 in
theorem ggL_decides_L_whyNot : GoodIn wsL_decides wsL_whyNot := goodIn_ca (goodIn_ca (goodIn_r _ [195, 11, 12, 13, 196, 197, 198, 4, 199, 22, 23, 18, 19, 20, 21, 24, 25, 26, 27, 28, 29, 30, 31, 32, 33, 34, 132, 133, 134, 135, 48, 35, 36, 37, 38, 39, 40, 6, 41, 42, 43, 49, 50, 51, 52, 53, 54, 55, 56, 57, 58, 59, 60, 61, 62, 63, 64, 65, 66, 67, 68, 69, 70, 71, 72, 73, 74, 75, 76, 77, 78, 79, 80, 81, 82, 83, 84, 85, 86, 87, 88, 89, 90, 91, 92, 93, 94, 95, 96, 97, 98, 99, 100, 101, 102, 103, 104, 105, 106, 107, 108, 270, 271, 272, 273, 274, 275, 276, 277, 278, 279, 280, 281, 282, 283, 284, 285, 286, 287, 288, 289, 290, 291, 292, 293, 294, 295, 296, 297, 298, 299, 300, 301, 302, 303, 304, 305, 306, 307, 308, 309, 310, 311, 312, 313, 314, 315] (by decide +kernel) (by decide +kernel)) (goodIn_sub (fun _ h => List.mem_cons_of_mem _ (List.mem_append_left _ (List.mem_append_left _ (List.mem_append_right _ h)))) (by decide +kernel))) (goodIn_sub (fun _ h => List.mem_cons_of_mem _ (List.mem_append_left _ (List.mem_append_right _ h))) (by decide +kernel))
set_option maxRecDepth 20000 in
theorem gL_decides_L_whyNot : GoodIn wsL_decides (va_wsS RL 135 yL_whyNot wsL_whyNot) := goodIn_app (goodIn_of _ (by decide +kernel)) ggL_decides_L_whyNot
set_option maxRecDepth 20000 in
theorem ggL_decides_L_lacks : GoodIn wsL_decides wsL_lacks := goodIn_ca (goodIn_r _ [202, 11, 12, 203, 204, 205, 4, 206, 53, 92, 94, 18, 19, 20, 21, 22, 23, 24, 25, 26, 27, 28, 29, 30, 31, 32, 33, 34, 207, 208, 209, 210, 90, 91, 211, 212, 213, 99, 214, 215, 216, 217, 97, 98, 100, 101, 84, 85, 218, 219, 220, 221, 222, 288, 289, 290, 291, 292, 293, 294, 295, 296, 297, 298, 299, 300, 301, 283, 284, 285, 286, 287, 270, 271, 272, 273, 274, 275, 276, 277, 278, 279, 280, 281, 282, 306, 307, 308, 309, 310, 311, 312, 313, 314, 315] (by decide +kernel) (by decide +kernel)) (goodIn_sub (fun _ h => List.mem_cons_of_mem _ (List.mem_append_left _ (List.mem_append_left _ (List.mem_append_right _ h)))) (by decide +kernel))
set_option maxRecDepth 20000 in
theorem gL_decides_L_lacks : GoodIn wsL_decides (va_wsS RL 174 yL_lacks wsL_lacks) := goodIn_app (goodIn_of _ (by decide +kernel)) ggL_decides_L_lacks
set_option maxRecDepth 20000 in
theorem ggL_decides_L_count : GoodIn wsL_decides wsL_count := goodIn_ca (goodIn_r _ [225, 226, 13, 227, 228, 229, 4, 230, 39, 40, 231, 232, 233, 234, 235, 236, 270, 271, 272, 273, 274, 275, 276, 277, 278, 279, 280, 281, 282] (by decide +kernel) (by decide +kernel)) (goodIn_sub (fun _ h => List.mem_cons_of_mem _ (List.mem_append_left _ (List.mem_append_right _ h))) (by decide +kernel))
set_option maxRecDepth 20000 in
theorem gL_decides_L_count : GoodIn wsL_decides (va_wsS RL 111 yL_count wsL_count) := goodIn_app (goodIn_of _ (by decide +kernel)) ggL_decides_L_count
set_option maxRecDepth 20000 in
theorem ggL_decides_L_trial : GoodIn wsL_decides wsL_trial := goodIn_ca (goodIn_ca (goodIn_r _ [239, 11, 12, 155, 240, 241, 242, 4, 243, 181, 182, 163, 231, 232, 164, 6, 18, 19, 20, 21, 22, 23, 24, 25, 26, 27, 28, 29, 30, 31, 32, 33, 34, 207, 208, 209, 210, 90, 91, 211, 212, 213, 99, 214, 215, 216, 217, 97, 98, 100, 101, 84, 85, 218, 219, 220, 221, 222, 244, 245, 246, 247, 48, 83, 78, 79, 80, 81, 82, 86, 87, 88, 89, 53, 92, 93, 94, 95, 96, 102, 103, 104, 105, 106, 107, 108, 121, 122, 123, 124, 125, 126, 127, 248, 249, 250, 75, 251, 77, 252, 253, 254, 255, 256, 288, 289, 290, 291, 292, 293, 294, 295, 296, 297, 298, 299, 300, 301, 270, 271, 272, 273, 274, 275, 276, 277, 278, 279, 280, 281, 282, 283, 284, 285, 286, 287, 306, 307, 308, 309, 310, 311, 312, 313, 314, 315, 302, 303, 304, 305] (by decide +kernel) (by decide +kernel)) (goodIn_sub (fun _ h => List.mem_cons_of_mem _ (List.mem_append_right _ h)) (by decide +kernel))) (goodIn_sub (fun _ h => List.mem_cons_of_mem _ (List.mem_append_left _ (List.mem_append_left _ (List.mem_append_right _ h)))) (by decide +kernel))
set_option maxRecDepth 20000 in
theorem gL_decides_L_trial : GoodIn wsL_decides (va_wsS RL 176 yL_trial wsL_trial) := goodIn_app (goodIn_of _ (by decide +kernel)) ggL_decides_L_trial
set_option maxRecDepth 20000 in
theorem ggL_decides_L_bits : GoodIn wsL_decides wsL_bits := goodIn_r _ [259] (by decide +kernel) (by decide +kernel)
set_option maxRecDepth 20000 in
theorem gL_decides_L_bits : GoodIn wsL_decides (va_wsS RL 145 yL_bits wsL_bits) := goodIn_app (goodIn_of _ (by decide +kernel)) ggL_decides_L_bits
set_option maxRecDepth 20000 in
theorem ggL_decides_L_plea : GoodIn wsL_decides wsL_plea := goodIn_ca (goodIn_ca (goodIn_ca (goodIn_r _ [262, 11, 12, 13, 155, 263, 264, 265, 4, 266, 181, 182, 163, 164, 6, 183, 233, 231, 168, 18, 19, 20, 21, 22, 23, 24, 25, 26, 27, 28, 29, 30, 31, 32, 33, 34, 184, 185, 186, 187, 39, 40, 188, 117, 118, 119, 120, 48, 56, 83, 84, 85, 267, 268, 269, 121, 122, 123, 124, 125, 126, 127, 248, 249, 250, 75, 251, 77, 252, 253, 254, 255, 256, 288, 289, 290, 291, 292, 293, 294, 295, 296, 297, 298, 299, 300, 301, 270, 271, 272, 273, 274, 275, 276, 277, 278, 279, 280, 281, 282, 283, 284, 285, 286, 287, 302, 303, 304, 305] (by decide +kernel) (by decide +kernel)) (goodIn_sub (fun _ h => List.mem_cons_of_mem _ (List.mem_append_right _ h)) (by decide +kernel))) (goodIn_sub (fun _ h => List.mem_cons_of_mem _ (List.mem_append_left _ (List.mem_append_left _ (List.mem_append_right _ h)))) (by decide +kernel))) (goodIn_sub (fun _ h => List.mem_cons_of_mem _ (List.mem_append_left _ (List.mem_append_right _ h))) (by decide +kernel))
set_option maxRecDepth 20000 in
theorem gL_decides_L_plea : GoodIn wsL_decides (va_wsS RL 178 yL_plea wsL_plea) := goodIn_app (goodIn_of _ (by decide +kernel)) ggL_decides_L_plea
theorem dL_decides_0 : decode cL_decides 0 = .ok (.iload 4, 2) := by decide +kernel
theorem dL_decides_2 : decode cL_decides 2 = .ok (.ifCond .ne 179, 3) := by decide +kernel
theorem dL_decides_5 : decode cL_decides 5 = .ok (.aload_n 0, 1) := by decide +kernel
theorem dL_decides_6 : decode cL_decides 6 = .ok (.iload_n 1, 1) := by decide +kernel
theorem dL_decides_7 : decode cL_decides 7 = .ok (.iload_n 2, 1) := by decide +kernel
theorem dL_decides_8 : decode cL_decides 8 = .ok (.aload_n 0, 1) := by decide +kernel
theorem dL_decides_9 : decode cL_decides 9 = .ok (.invokevirtual 105, 3) := by decide +kernel
theorem dL_decides_12 : decode cL_decides 12 = .ok (.invokestatic 140, 3) := by decide +kernel
theorem dL_decides_15 : decode cL_decides 15 = .ok (.istore 5, 2) := by decide +kernel
theorem dL_decides_17 : decode cL_decides 17 = .ok (.iload 5, 2) := by decide +kernel
theorem dL_decides_19 : decode cL_decides 19 = .ok (.invokestatic 162, 3) := by decide +kernel
theorem dL_decides_22 : decode cL_decides 22 = .ok (.ifCond .eq 6, 3) := by decide +kernel
theorem dL_decides_25 : decode cL_decides 25 = .ok (.iload 5, 2) := by decide +kernel
theorem dL_decides_27 : decode cL_decides 27 = .ok (.ireturn, 1) := by decide +kernel
theorem dL_decides_28 : decode cL_decides 28 = .ok (.iload_n 3, 1) := by decide +kernel
theorem dL_decides_29 : decode cL_decides 29 = .ok (.iconst 3, 1) := by decide +kernel
theorem dL_decides_30 : decode cL_decides 30 = .ok (.irem, 1) := by decide +kernel
theorem dL_decides_31 : decode cL_decides 31 = .ok (.ifCond .ne 13, 3) := by decide +kernel
theorem dL_decides_34 : decode cL_decides 34 = .ok (.iload_n 3, 1) := by decide +kernel
theorem dL_decides_35 : decode cL_decides 35 = .ok (.iconst 3, 1) := by decide +kernel
theorem dL_decides_36 : decode cL_decides 36 = .ok (.idiv, 1) := by decide +kernel
theorem dL_decides_37 : decode cL_decides 37 = .ok (.sipush 260, 3) := by decide +kernel
theorem dL_decides_40 : decode cL_decides 40 = .ok (.irem, 1) := by decide +kernel
theorem dL_decides_41 : decode cL_decides 41 = .ok (.goto 5, 3) := by decide +kernel
theorem dL_decides_44 : decode cL_decides 44 = .ok (.iload 5, 2) := by decide +kernel
theorem dL_decides_46 : decode cL_decides 46 = .ok (.istore 6, 2) := by decide +kernel
theorem dL_decides_48 : decode cL_decides 48 = .ok (.iload 6, 2) := by decide +kernel
theorem dL_decides_50 : decode cL_decides 50 = .ok (.iload 5, 2) := by decide +kernel
theorem dL_decides_52 : decode cL_decides 52 = .ok (.if_icmp .ne 22, 3) := by decide +kernel
theorem dL_decides_55 : decode cL_decides 55 = .ok (.iload 5, 2) := by decide +kernel
theorem dL_decides_57 : decode cL_decides 57 = .ok (.ifCond .eq 17, 3) := by decide +kernel
theorem dL_decides_60 : decode cL_decides 60 = .ok (.aload_n 0, 1) := by decide +kernel
theorem dL_decides_61 : decode cL_decides 61 = .ok (.iload_n 1, 1) := by decide +kernel
theorem dL_decides_62 : decode cL_decides 62 = .ok (.iload_n 2, 1) := by decide +kernel
theorem dL_decides_63 : decode cL_decides 63 = .ok (.iconst 0, 1) := by decide +kernel
theorem dL_decides_64 : decode cL_decides 64 = .ok (.invokestatic 116, 3) := by decide +kernel
theorem dL_decides_67 : decode cL_decides 67 = .ok (.ifCond .ne 7, 3) := by decide +kernel
theorem dL_decides_70 : decode cL_decides 70 = .ok (.iconst 1, 1) := by decide +kernel
theorem dL_decides_71 : decode cL_decides 71 = .ok (.goto 4, 3) := by decide +kernel
theorem dL_decides_74 : decode cL_decides 74 = .ok (.iconst 0, 1) := by decide +kernel
theorem dL_decides_75 : decode cL_decides 75 = .ok (.istore 7, 2) := by decide +kernel
theorem dL_decides_77 : decode cL_decides 77 = .ok (.aload_n 0, 1) := by decide +kernel
theorem dL_decides_78 : decode cL_decides 78 = .ok (.iload_n 1, 1) := by decide +kernel
theorem dL_decides_79 : decode cL_decides 79 = .ok (.iload_n 2, 1) := by decide +kernel
theorem dL_decides_80 : decode cL_decides 80 = .ok (.iload 6, 2) := by decide +kernel
theorem dL_decides_82 : decode cL_decides 82 = .ok (.invokestatic 172, 3) := by decide +kernel
theorem dL_decides_85 : decode cL_decides 85 = .ok (.istore 8, 2) := by decide +kernel
theorem dL_decides_87 : decode cL_decides 87 = .ok (.iload 7, 2) := by decide +kernel
theorem dL_decides_89 : decode cL_decides 89 = .ok (.ifCond .eq 11, 3) := by decide +kernel
theorem dL_decides_92 : decode cL_decides 92 = .ok (.iload 8, 2) := by decide +kernel
theorem dL_decides_94 : decode cL_decides 94 = .ok (.invokestatic 162, 3) := by decide +kernel
theorem dL_decides_97 : decode cL_decides 97 = .ok (.ifCond .ne 7, 3) := by decide +kernel
theorem dL_decides_100 : decode cL_decides 100 = .ok (.iconst 1, 1) := by decide +kernel
theorem dL_decides_101 : decode cL_decides 101 = .ok (.goto 4, 3) := by decide +kernel
theorem dL_decides_104 : decode cL_decides 104 = .ok (.iconst 0, 1) := by decide +kernel
theorem dL_decides_105 : decode cL_decides 105 = .ok (.istore 9, 2) := by decide +kernel
theorem dL_decides_107 : decode cL_decides 107 = .ok (.iconst 0, 1) := by decide +kernel
theorem dL_decides_108 : decode cL_decides 108 = .ok (.istore 10, 2) := by decide +kernel
theorem dL_decides_110 : decode cL_decides 110 = .ok (.iload 10, 2) := by decide +kernel
theorem dL_decides_112 : decode cL_decides 112 = .ok (.bipush 8, 2) := by decide +kernel
theorem dL_decides_114 : decode cL_decides 114 = .ok (.if_icmp .ge 54, 3) := by decide +kernel
theorem dL_decides_117 : decode cL_decides 117 = .ok (.iload 9, 2) := by decide +kernel
theorem dL_decides_119 : decode cL_decides 119 = .ok (.ifCond .eq 49, 3) := by decide +kernel
theorem dL_decides_122 : decode cL_decides 122 = .ok (.iload 8, 2) := by decide +kernel
theorem dL_decides_124 : decode cL_decides 124 = .ok (.invokestatic 162, 3) := by decide +kernel
theorem dL_decides_127 : decode cL_decides 127 = .ok (.ifCond .ne 41, 3) := by decide +kernel
theorem dL_decides_130 : decode cL_decides 130 = .ok (.iload 6, 2) := by decide +kernel
theorem dL_decides_132 : decode cL_decides 132 = .ok (.iload 10, 2) := by decide +kernel
theorem dL_decides_134 : decode cL_decides 134 = .ok (.ishr, 1) := by decide +kernel
theorem dL_decides_135 : decode cL_decides 135 = .ok (.iconst 1, 1) := by decide +kernel
theorem dL_decides_136 : decode cL_decides 136 = .ok (.iand, 1) := by decide +kernel
theorem dL_decides_137 : decode cL_decides 137 = .ok (.ifCond .eq 18, 3) := by decide +kernel
theorem dL_decides_140 : decode cL_decides 140 = .ok (.aload_n 0, 1) := by decide +kernel
theorem dL_decides_141 : decode cL_decides 141 = .ok (.iload_n 1, 1) := by decide +kernel
theorem dL_decides_142 : decode cL_decides 142 = .ok (.iload_n 2, 1) := by decide +kernel
theorem dL_decides_143 : decode cL_decides 143 = .ok (.iload 10, 2) := by decide +kernel
theorem dL_decides_145 : decode cL_decides 145 = .ok (.aload_n 0, 1) := by decide +kernel
theorem dL_decides_146 : decode cL_decides 146 = .ok (.invokevirtual 105, 3) := by decide +kernel
theorem dL_decides_149 : decode cL_decides 149 = .ok (.invokestatic 135, 3) := by decide +kernel
theorem dL_decides_152 : decode cL_decides 152 = .ok (.ifCond .ne 7, 3) := by decide +kernel
theorem dL_decides_155 : decode cL_decides 155 = .ok (.iconst 1, 1) := by decide +kernel
theorem dL_decides_156 : decode cL_decides 156 = .ok (.goto 4, 3) := by decide +kernel
theorem dL_decides_159 : decode cL_decides 159 = .ok (.iconst 0, 1) := by decide +kernel
theorem dL_decides_160 : decode cL_decides 160 = .ok (.istore 9, 2) := by decide +kernel
theorem dL_decides_162 : decode cL_decides 162 = .ok (.iinc 10 1, 3) := by decide +kernel
theorem dL_decides_165 : decode cL_decides 165 = .ok (.goto (-55), 3) := by decide +kernel
theorem dL_decides_168 : decode cL_decides 168 = .ok (.iload 9, 2) := by decide +kernel
theorem dL_decides_170 : decode cL_decides 170 = .ok (.ifCond .eq 8, 3) := by decide +kernel
theorem dL_decides_173 : decode cL_decides 173 = .ok (.iload 8, 2) := by decide +kernel
theorem dL_decides_175 : decode cL_decides 175 = .ok (.goto 5, 3) := by decide +kernel
theorem dL_decides_178 : decode cL_decides 178 = .ok (.bipush (-9), 2) := by decide +kernel
theorem dL_decides_180 : decode cL_decides 180 = .ok (.ireturn, 1) := by decide +kernel
theorem dL_decides_181 : decode cL_decides 181 = .ok (.iload 4, 2) := by decide +kernel
theorem dL_decides_183 : decode cL_decides 183 = .ok (.iconst 1, 1) := by decide +kernel
theorem dL_decides_184 : decode cL_decides 184 = .ok (.if_icmp .ne 150, 3) := by decide +kernel
theorem dL_decides_187 : decode cL_decides 187 = .ok (.aload_n 0, 1) := by decide +kernel
theorem dL_decides_188 : decode cL_decides 188 = .ok (.iload_n 1, 1) := by decide +kernel
theorem dL_decides_189 : decode cL_decides 189 = .ok (.iload_n 2, 1) := by decide +kernel
theorem dL_decides_190 : decode cL_decides 190 = .ok (.invokestatic 174, 3) := by decide +kernel
theorem dL_decides_193 : decode cL_decides 193 = .ok (.istore 5, 2) := by decide +kernel
theorem dL_decides_195 : decode cL_decides 195 = .ok (.aload_n 0, 1) := by decide +kernel
theorem dL_decides_196 : decode cL_decides 196 = .ok (.iload_n 1, 1) := by decide +kernel
theorem dL_decides_197 : decode cL_decides 197 = .ok (.iload_n 2, 1) := by decide +kernel
theorem dL_decides_198 : decode cL_decides 198 = .ok (.iconst 1, 1) := by decide +kernel
theorem dL_decides_199 : decode cL_decides 199 = .ok (.invokestatic 116, 3) := by decide +kernel
theorem dL_decides_202 : decode cL_decides 202 = .ok (.istore 6, 2) := by decide +kernel
theorem dL_decides_204 : decode cL_decides 204 = .ok (.aload_n 0, 1) := by decide +kernel
theorem dL_decides_205 : decode cL_decides 205 = .ok (.iconst 0, 1) := by decide +kernel
theorem dL_decides_206 : decode cL_decides 206 = .ok (.invokestatic 111, 3) := by decide +kernel
theorem dL_decides_209 : decode cL_decides 209 = .ok (.istore 7, 2) := by decide +kernel
theorem dL_decides_211 : decode cL_decides 211 = .ok (.aload_n 0, 1) := by decide +kernel
theorem dL_decides_212 : decode cL_decides 212 = .ok (.iload_n 1, 1) := by decide +kernel
theorem dL_decides_213 : decode cL_decides 213 = .ok (.iload_n 2, 1) := by decide +kernel
theorem dL_decides_214 : decode cL_decides 214 = .ok (.invokestatic 176, 3) := by decide +kernel
theorem dL_decides_217 : decode cL_decides 217 = .ok (.istore 8, 2) := by decide +kernel
theorem dL_decides_219 : decode cL_decides 219 = .ok (.iload 8, 2) := by decide +kernel
theorem dL_decides_221 : decode cL_decides 221 = .ok (.invokestatic 162, 3) := by decide +kernel
theorem dL_decides_224 : decode cL_decides 224 = .ok (.ifCond .ne 90, 3) := by decide +kernel
theorem dL_decides_227 : decode cL_decides 227 = .ok (.iload 5, 2) := by decide +kernel
theorem dL_decides_229 : decode cL_decides 229 = .ok (.ifCond .ne 89, 3) := by decide +kernel
theorem dL_decides_232 : decode cL_decides 232 = .ok (.iload 8, 2) := by decide +kernel
theorem dL_decides_234 : decode cL_decides 234 = .ok (.iload 6, 2) := by decide +kernel
theorem dL_decides_236 : decode cL_decides 236 = .ok (.iconst (-1), 1) := by decide +kernel
theorem dL_decides_237 : decode cL_decides 237 = .ok (.ixor, 1) := by decide +kernel
theorem dL_decides_238 : decode cL_decides 238 = .ok (.iand, 1) := by decide +kernel
theorem dL_decides_239 : decode cL_decides 239 = .ok (.ifCond .ne 79, 3) := by decide +kernel
theorem dL_decides_242 : decode cL_decides 242 = .ok (.aload_n 0, 1) := by decide +kernel
theorem dL_decides_243 : decode cL_decides 243 = .ok (.iload_n 1, 1) := by decide +kernel
theorem dL_decides_244 : decode cL_decides 244 = .ok (.iload_n 2, 1) := by decide +kernel
theorem dL_decides_245 : decode cL_decides 245 = .ok (.iconst 0, 1) := by decide +kernel
theorem dL_decides_246 : decode cL_decides 246 = .ok (.invokestatic 116, 3) := by decide +kernel
theorem dL_decides_249 : decode cL_decides 249 = .ok (.ifCond .ne 69, 3) := by decide +kernel
theorem dL_decides_252 : decode cL_decides 252 = .ok (.aload_n 0, 1) := by decide +kernel
theorem dL_decides_253 : decode cL_decides 253 = .ok (.iload_n 1, 1) := by decide +kernel
theorem dL_decides_254 : decode cL_decides 254 = .ok (.iload_n 2, 1) := by decide +kernel
theorem dL_decides_255 : decode cL_decides 255 = .ok (.iconst 1, 1) := by decide +kernel
theorem dL_decides_256 : decode cL_decides 256 = .ok (.invokestatic 116, 3) := by decide +kernel
theorem dL_decides_259 : decode cL_decides 259 = .ok (.ifCond .ne 59, 3) := by decide +kernel
theorem dL_decides_262 : decode cL_decides 262 = .ok (.aload_n 0, 1) := by decide +kernel
theorem dL_decides_263 : decode cL_decides 263 = .ok (.iload_n 1, 1) := by decide +kernel
theorem dL_decides_264 : decode cL_decides 264 = .ok (.iload_n 2, 1) := by decide +kernel
theorem dL_decides_265 : decode cL_decides 265 = .ok (.iconst 2, 1) := by decide +kernel
theorem dL_decides_266 : decode cL_decides 266 = .ok (.invokestatic 116, 3) := by decide +kernel
theorem dL_decides_269 : decode cL_decides 269 = .ok (.ifCond .ne 49, 3) := by decide +kernel
theorem dL_decides_272 : decode cL_decides 272 = .ok (.aload_n 0, 1) := by decide +kernel
theorem dL_decides_273 : decode cL_decides 273 = .ok (.iload_n 1, 1) := by decide +kernel
theorem dL_decides_274 : decode cL_decides 274 = .ok (.iload_n 2, 1) := by decide +kernel
theorem dL_decides_275 : decode cL_decides 275 = .ok (.iconst 4, 1) := by decide +kernel
theorem dL_decides_276 : decode cL_decides 276 = .ok (.invokestatic 116, 3) := by decide +kernel
theorem dL_decides_279 : decode cL_decides 279 = .ok (.ifCond .ne 39, 3) := by decide +kernel
theorem dL_decides_282 : decode cL_decides 282 = .ok (.aload_n 0, 1) := by decide +kernel
theorem dL_decides_283 : decode cL_decides 283 = .ok (.iconst 0, 1) := by decide +kernel
theorem dL_decides_284 : decode cL_decides 284 = .ok (.invokestatic 111, 3) := by decide +kernel
theorem dL_decides_287 : decode cL_decides 287 = .ok (.iload 7, 2) := by decide +kernel
theorem dL_decides_289 : decode cL_decides 289 = .ok (.iload 8, 2) := by decide +kernel
theorem dL_decides_291 : decode cL_decides 291 = .ok (.invokestatic 145, 3) := by decide +kernel
theorem dL_decides_294 : decode cL_decides 294 = .ok (.iadd, 1) := by decide +kernel
theorem dL_decides_295 : decode cL_decides 295 = .ok (.if_icmp .ne 23, 3) := by decide +kernel
theorem dL_decides_298 : decode cL_decides 298 = .ok (.iload 6, 2) := by decide +kernel
theorem dL_decides_300 : decode cL_decides 300 = .ok (.aload_n 0, 1) := by decide +kernel
theorem dL_decides_301 : decode cL_decides 301 = .ok (.iload_n 1, 1) := by decide +kernel
theorem dL_decides_302 : decode cL_decides 302 = .ok (.iload_n 2, 1) := by decide +kernel
theorem dL_decides_303 : decode cL_decides 303 = .ok (.bipush 7, 2) := by decide +kernel
theorem dL_decides_305 : decode cL_decides 305 = .ok (.invokestatic 116, 3) := by decide +kernel
theorem dL_decides_308 : decode cL_decides 308 = .ok (.iconst (-1), 1) := by decide +kernel
theorem dL_decides_309 : decode cL_decides 309 = .ok (.ixor, 1) := by decide +kernel
theorem dL_decides_310 : decode cL_decides 310 = .ok (.iand, 1) := by decide +kernel
theorem dL_decides_311 : decode cL_decides 311 = .ok (.ifCond .ne 7, 3) := by decide +kernel
theorem dL_decides_314 : decode cL_decides 314 = .ok (.iconst 1, 1) := by decide +kernel
theorem dL_decides_315 : decode cL_decides 315 = .ok (.goto 4, 3) := by decide +kernel
theorem dL_decides_318 : decode cL_decides 318 = .ok (.iconst 0, 1) := by decide +kernel
theorem dL_decides_319 : decode cL_decides 319 = .ok (.istore 9, 2) := by decide +kernel
theorem dL_decides_321 : decode cL_decides 321 = .ok (.iload 9, 2) := by decide +kernel
theorem dL_decides_323 : decode cL_decides 323 = .ok (.ifCond .eq 8, 3) := by decide +kernel
theorem dL_decides_326 : decode cL_decides 326 = .ok (.iload 8, 2) := by decide +kernel
theorem dL_decides_328 : decode cL_decides 328 = .ok (.goto 5, 3) := by decide +kernel
theorem dL_decides_331 : decode cL_decides 331 = .ok (.bipush (-9), 2) := by decide +kernel
theorem dL_decides_333 : decode cL_decides 333 = .ok (.ireturn, 1) := by decide +kernel
theorem dL_decides_334 : decode cL_decides 334 = .ok (.aload_n 0, 1) := by decide +kernel
theorem dL_decides_335 : decode cL_decides 335 = .ok (.iload_n 1, 1) := by decide +kernel
theorem dL_decides_336 : decode cL_decides 336 = .ok (.iload_n 2, 1) := by decide +kernel
theorem dL_decides_337 : decode cL_decides 337 = .ok (.iconst 1, 1) := by decide +kernel
theorem dL_decides_338 : decode cL_decides 338 = .ok (.invokestatic 116, 3) := by decide +kernel
theorem dL_decides_341 : decode cL_decides 341 = .ok (.istore 5, 2) := by decide +kernel
theorem dL_decides_343 : decode cL_decides 343 = .ok (.iload_n 3, 1) := by decide +kernel
theorem dL_decides_344 : decode cL_decides 344 = .ok (.iconst 3, 1) := by decide +kernel
theorem dL_decides_345 : decode cL_decides 345 = .ok (.irem, 1) := by decide +kernel
theorem dL_decides_346 : decode cL_decides 346 = .ok (.ifCond .ne 13, 3) := by decide +kernel
theorem dL_decides_349 : decode cL_decides 349 = .ok (.iload_n 3, 1) := by decide +kernel
theorem dL_decides_350 : decode cL_decides 350 = .ok (.iconst 3, 1) := by decide +kernel
theorem dL_decides_351 : decode cL_decides 351 = .ok (.idiv, 1) := by decide +kernel
theorem dL_decides_352 : decode cL_decides 352 = .ok (.sipush 260, 3) := by decide +kernel
theorem dL_decides_355 : decode cL_decides 355 = .ok (.irem, 1) := by decide +kernel
theorem dL_decides_356 : decode cL_decides 356 = .ok (.goto 13, 3) := by decide +kernel
theorem dL_decides_359 : decode cL_decides 359 = .ok (.iload 5, 2) := by decide +kernel
theorem dL_decides_361 : decode cL_decides 361 = .ok (.iload_n 3, 1) := by decide +kernel
theorem dL_decides_362 : decode cL_decides 362 = .ok (.iconst 3, 1) := by decide +kernel
theorem dL_decides_363 : decode cL_decides 363 = .ok (.irem, 1) := by decide +kernel
theorem dL_decides_364 : decode cL_decides 364 = .ok (.iconst 1, 1) := by decide +kernel
theorem dL_decides_365 : decode cL_decides 365 = .ok (.isub, 1) := by decide +kernel
theorem dL_decides_366 : decode cL_decides 366 = .ok (.iconst (-1), 1) := by decide +kernel
theorem dL_decides_367 : decode cL_decides 367 = .ok (.ixor, 1) := by decide +kernel
theorem dL_decides_368 : decode cL_decides 368 = .ok (.iand, 1) := by decide +kernel
theorem dL_decides_369 : decode cL_decides 369 = .ok (.istore 6, 2) := by decide +kernel
theorem dL_decides_371 : decode cL_decides 371 = .ok (.aload_n 0, 1) := by decide +kernel
theorem dL_decides_372 : decode cL_decides 372 = .ok (.iconst 0, 1) := by decide +kernel
theorem dL_decides_373 : decode cL_decides 373 = .ok (.invokestatic 111, 3) := by decide +kernel
theorem dL_decides_376 : decode cL_decides 376 = .ok (.istore 7, 2) := by decide +kernel
theorem dL_decides_378 : decode cL_decides 378 = .ok (.aload_n 0, 1) := by decide +kernel
theorem dL_decides_379 : decode cL_decides 379 = .ok (.iload_n 1, 1) := by decide +kernel
theorem dL_decides_380 : decode cL_decides 380 = .ok (.iload_n 2, 1) := by decide +kernel
theorem dL_decides_381 : decode cL_decides 381 = .ok (.iload 5, 2) := by decide +kernel
theorem dL_decides_383 : decode cL_decides 383 = .ok (.invokestatic 162, 3) := by decide +kernel
theorem dL_decides_386 : decode cL_decides 386 = .ok (.ifCond .eq 7, 3) := by decide +kernel
theorem dL_decides_389 : decode cL_decides 389 = .ok (.iconst 0, 1) := by decide +kernel
theorem dL_decides_390 : decode cL_decides 390 = .ok (.goto 5, 3) := by decide +kernel
theorem dL_decides_393 : decode cL_decides 393 = .ok (.iload 6, 2) := by decide +kernel
theorem dL_decides_395 : decode cL_decides 395 = .ok (.invokestatic 178, 3) := by decide +kernel
theorem dL_decides_398 : decode cL_decides 398 = .ok (.istore 8, 2) := by decide +kernel
theorem dL_decides_400 : decode cL_decides 400 = .ok (.iload 8, 2) := by decide +kernel
theorem dL_decides_402 : decode cL_decides 402 = .ok (.invokestatic 162, 3) := by decide +kernel
theorem dL_decides_405 : decode cL_decides 405 = .ok (.ifCond .ne 85, 3) := by decide +kernel
theorem dL_decides_408 : decode cL_decides 408 = .ok (.aload_n 0, 1) := by decide +kernel
theorem dL_decides_409 : decode cL_decides 409 = .ok (.iload_n 1, 1) := by decide +kernel
theorem dL_decides_410 : decode cL_decides 410 = .ok (.iload_n 2, 1) := by decide +kernel
theorem dL_decides_411 : decode cL_decides 411 = .ok (.iconst 0, 1) := by decide +kernel
theorem dL_decides_412 : decode cL_decides 412 = .ok (.invokestatic 116, 3) := by decide +kernel
theorem dL_decides_415 : decode cL_decides 415 = .ok (.ifCond .ne 79, 3) := by decide +kernel
theorem dL_decides_418 : decode cL_decides 418 = .ok (.aload_n 0, 1) := by decide +kernel
theorem dL_decides_419 : decode cL_decides 419 = .ok (.iload_n 1, 1) := by decide +kernel
theorem dL_decides_420 : decode cL_decides 420 = .ok (.iload_n 2, 1) := by decide +kernel
theorem dL_decides_421 : decode cL_decides 421 = .ok (.iconst 1, 1) := by decide +kernel
theorem dL_decides_422 : decode cL_decides 422 = .ok (.invokestatic 116, 3) := by decide +kernel
theorem dL_decides_425 : decode cL_decides 425 = .ok (.ifCond .ne 69, 3) := by decide +kernel
theorem dL_decides_428 : decode cL_decides 428 = .ok (.aload_n 0, 1) := by decide +kernel
theorem dL_decides_429 : decode cL_decides 429 = .ok (.iload_n 1, 1) := by decide +kernel
theorem dL_decides_430 : decode cL_decides 430 = .ok (.iload_n 2, 1) := by decide +kernel
theorem dL_decides_431 : decode cL_decides 431 = .ok (.iconst 2, 1) := by decide +kernel
theorem dL_decides_432 : decode cL_decides 432 = .ok (.invokestatic 116, 3) := by decide +kernel
theorem dL_decides_435 : decode cL_decides 435 = .ok (.ifCond .ne 59, 3) := by decide +kernel
theorem dL_decides_438 : decode cL_decides 438 = .ok (.aload_n 0, 1) := by decide +kernel
theorem dL_decides_439 : decode cL_decides 439 = .ok (.iload_n 1, 1) := by decide +kernel
theorem dL_decides_440 : decode cL_decides 440 = .ok (.iload_n 2, 1) := by decide +kernel
theorem dL_decides_441 : decode cL_decides 441 = .ok (.iconst 4, 1) := by decide +kernel
theorem dL_decides_442 : decode cL_decides 442 = .ok (.invokestatic 116, 3) := by decide +kernel
theorem dL_decides_445 : decode cL_decides 445 = .ok (.ifCond .ne 49, 3) := by decide +kernel
theorem dL_decides_448 : decode cL_decides 448 = .ok (.iload 6, 2) := by decide +kernel
theorem dL_decides_450 : decode cL_decides 450 = .ok (.iload 5, 2) := by decide +kernel
theorem dL_decides_452 : decode cL_decides 452 = .ok (.iconst (-1), 1) := by decide +kernel
theorem dL_decides_453 : decode cL_decides 453 = .ok (.ixor, 1) := by decide +kernel
theorem dL_decides_454 : decode cL_decides 454 = .ok (.iand, 1) := by decide +kernel
theorem dL_decides_455 : decode cL_decides 455 = .ok (.ifCond .ne 39, 3) := by decide +kernel
theorem dL_decides_458 : decode cL_decides 458 = .ok (.aload_n 0, 1) := by decide +kernel
theorem dL_decides_459 : decode cL_decides 459 = .ok (.iconst 0, 1) := by decide +kernel
theorem dL_decides_460 : decode cL_decides 460 = .ok (.invokestatic 111, 3) := by decide +kernel
theorem dL_decides_463 : decode cL_decides 463 = .ok (.iload 7, 2) := by decide +kernel
theorem dL_decides_465 : decode cL_decides 465 = .ok (.iload 6, 2) := by decide +kernel
theorem dL_decides_467 : decode cL_decides 467 = .ok (.invokestatic 145, 3) := by decide +kernel
theorem dL_decides_470 : decode cL_decides 470 = .ok (.iadd, 1) := by decide +kernel
theorem dL_decides_471 : decode cL_decides 471 = .ok (.if_icmp .ne 23, 3) := by decide +kernel
theorem dL_decides_474 : decode cL_decides 474 = .ok (.iload 5, 2) := by decide +kernel
theorem dL_decides_476 : decode cL_decides 476 = .ok (.aload_n 0, 1) := by decide +kernel
theorem dL_decides_477 : decode cL_decides 477 = .ok (.iload_n 1, 1) := by decide +kernel
theorem dL_decides_478 : decode cL_decides 478 = .ok (.iload_n 2, 1) := by decide +kernel
theorem dL_decides_479 : decode cL_decides 479 = .ok (.bipush 7, 2) := by decide +kernel
theorem dL_decides_481 : decode cL_decides 481 = .ok (.invokestatic 116, 3) := by decide +kernel
theorem dL_decides_484 : decode cL_decides 484 = .ok (.iconst (-1), 1) := by decide +kernel
theorem dL_decides_485 : decode cL_decides 485 = .ok (.ixor, 1) := by decide +kernel
theorem dL_decides_486 : decode cL_decides 486 = .ok (.iand, 1) := by decide +kernel
theorem dL_decides_487 : decode cL_decides 487 = .ok (.ifCond .ne 7, 3) := by decide +kernel
theorem dL_decides_490 : decode cL_decides 490 = .ok (.iconst 1, 1) := by decide +kernel
theorem dL_decides_491 : decode cL_decides 491 = .ok (.goto 4, 3) := by decide +kernel
theorem dL_decides_494 : decode cL_decides 494 = .ok (.iconst 0, 1) := by decide +kernel
theorem dL_decides_495 : decode cL_decides 495 = .ok (.istore 9, 2) := by decide +kernel
theorem dL_decides_497 : decode cL_decides 497 = .ok (.iload 9, 2) := by decide +kernel
theorem dL_decides_499 : decode cL_decides 499 = .ok (.ifCond .eq 8, 3) := by decide +kernel
theorem dL_decides_502 : decode cL_decides 502 = .ok (.iload 8, 2) := by decide +kernel
theorem dL_decides_504 : decode cL_decides 504 = .ok (.goto 5, 3) := by decide +kernel
theorem dL_decides_507 : decode cL_decides 507 = .ok (.bipush (-9), 2) := by decide +kernel
theorem dL_decides_509 : decode cL_decides 509 = .ok (.ireturn, 1) := by decide +kernel
set_option maxRecDepth 20000 in
theorem ggL_does_L_tells : GoodIn wsL_does wsL_tells := goodIn_ca (goodIn_ca (goodIn_ca (goodIn_r _ [4, 5, 6, 7, 3, 8, 9, 10, 11, 12, 13, 14, 15, 16, 17, 18, 19, 20, 21, 22, 23, 24, 25, 26, 27, 28, 29, 30, 31, 32, 33, 34, 35, 36, 37, 38, 39, 40, 41, 42, 43, 44, 45, 46, 47, 48, 49, 50, 51, 52, 53, 54, 55, 56, 57, 58, 59, 60, 61, 62, 63, 64, 65, 66, 67, 68, 69, 70, 71, 72, 73, 74, 75, 76, 77, 78, 79, 80, 81, 82, 83, 84, 85, 86, 87, 88, 89, 90, 91, 92, 93, 94, 95, 96, 97, 98, 99, 100, 101, 102, 103, 104, 105, 106, 107, 108, 109, 110, 111, 112, 113, 114, 115, 116, 117, 118, 119, 120, 453, 454, 455, 456, 457, 458, 459, 460, 461, 462, 463, 464, 465, 466, 467, 468, 469, 470, 471, 472, 473, 474, 475, 476, 477, 478, 479, 480, 481, 482, 483, 484, 485, 486, 487, 488, 489, 490, 491, 492, 493, 494, 495, 496, 497, 498] (by decide +kernel) (by decide +kernel)) (goodIn_sub (fun _ h => List.mem_cons_of_mem _ (List.mem_append_left _ (List.mem_append_left _ (List.mem_append_right _ h)))) (by decide +kernel))) (goodIn_sub (fun _ h => List.mem_cons_of_mem _ (List.mem_append_left _ (List.mem_append_right _ h))) (by decide +kernel))) (goodIn_sub (fun _ h => List.mem_cons_of_mem _ (List.mem_append_right _ h)) (by decide +kernel))
set_option maxRecDepth 20000 in
theorem gL_does_L_tells : GoodIn wsL_does (va_wsS RL 180 yL_tells wsL_tells) := goodIn_app (goodIn_of _ (by decide +kernel)) ggL_does_L_tells
set_option maxRecDepth 20000 in
theorem ggL_does_L_exclude : GoodIn wsL_does wsL_exclude := goodIn_ca (goodIn_ca (goodIn_r _ [123, 89, 41, 10, 124, 125, 126, 15, 127, 94, 95, 17, 18, 128, 129, 130, 131, 132, 22, 133, 134, 135, 25, 136, 137, 75, 76, 466, 467, 468, 469, 453, 454, 455, 456, 457, 458, 459, 460, 461, 462, 463, 464, 465] (by decide +kernel) (by decide +kernel)) (goodIn_sub (fun _ h => List.mem_cons_of_mem _ (List.mem_append_right _ h)) (by decide +kernel))) (goodIn_sub (fun _ h => List.mem_cons_of_mem _ (List.mem_append_left _ (List.mem_append_left _ (List.mem_append_right _ h)))) (by decide +kernel))
set_option maxRecDepth 20000 in
theorem gL_does_L_exclude : GoodIn wsL_does (va_wsS RL 184 yL_exclude wsL_exclude) := goodIn_app (goodIn_of _ (by decide +kernel)) ggL_does_L_exclude
set_option maxRecDepth 20000 in
theorem ggL_does_L_admit : GoodIn wsL_does wsL_admit := goodIn_ca (goodIn_ca (goodIn_r _ [140, 89, 41, 11, 141, 142, 143, 15, 144, 94, 95, 19, 20, 145, 146, 46, 147, 148, 149, 150, 97, 489, 490, 491, 492, 493, 494, 495, 496, 497, 498, 453, 454, 455, 456, 457, 458, 459, 460, 461, 462, 463, 464, 465] (by decide +kernel) (by decide +kernel)) (goodIn_sub (fun _ h => List.mem_cons_of_mem _ (List.mem_append_right _ h)) (by decide +kernel))) (goodIn_sub (fun _ h => List.mem_cons_of_mem _ (List.mem_append_left _ (List.mem_append_right _ h))) (by decide +kernel))
set_option maxRecDepth 20000 in
theorem gL_does_L_admit : GoodIn wsL_does (va_wsS RL 186 yL_admit wsL_admit) := goodIn_app (goodIn_of _ (by decide +kernel)) ggL_does_L_admit
set_option maxRecDepth 20000 in
theorem ggL_does_L_show : GoodIn wsL_does wsL_show := goodIn_ca (goodIn_ca (goodIn_r _ [153, 89, 41, 11, 154, 155, 156, 15, 157, 94, 95, 19, 20, 158, 159, 147, 148, 149, 150, 97, 26, 27, 28, 160, 161, 162, 100, 163, 117, 75, 76, 164, 165, 166, 167, 168, 169, 170, 171, 172, 173, 174, 175, 176, 116, 177, 178, 179, 489, 490, 491, 492, 493, 494, 495, 496, 497, 498, 453, 454, 455, 456, 457, 458, 459, 460, 461, 462, 463, 464, 465] (by decide +kernel) (by decide +kernel)) (goodIn_sub (fun _ h => List.mem_cons_of_mem _ (List.mem_append_right _ h)) (by decide +kernel))) (goodIn_sub (fun _ h => List.mem_cons_of_mem _ (List.mem_append_left _ (List.mem_append_right _ h))) (by decide +kernel))
set_option maxRecDepth 20000 in
theorem gL_does_L_show : GoodIn wsL_does (va_wsS RL 188 yL_show wsL_show) := goodIn_app (goodIn_of _ (by decide +kernel)) ggL_does_L_show
set_option maxRecDepth 20000 in
theorem ggL_does_L_withhold : GoodIn wsL_does wsL_withhold := goodIn_ca (goodIn_ca (goodIn_r _ [182, 89, 41, 11, 183, 184, 185, 15, 186, 94, 95, 19, 20, 187, 188, 147, 148, 149, 150, 97, 489, 490, 491, 492, 493, 494, 495, 496, 497, 498, 453, 454, 455, 456, 457, 458, 459, 460, 461, 462, 463, 464, 465] (by decide +kernel) (by decide +kernel)) (goodIn_sub (fun _ h => List.mem_cons_of_mem _ (List.mem_append_right _ h)) (by decide +kernel))) (goodIn_sub (fun _ h => List.mem_cons_of_mem _ (List.mem_append_left _ (List.mem_append_right _ h))) (by decide +kernel))
set_option maxRecDepth 20000 in
theorem gL_does_L_withhold : GoodIn wsL_does (va_wsS RL 190 yL_withhold wsL_withhold) := goodIn_app (goodIn_of _ (by decide +kernel)) ggL_does_L_withhold
set_option maxRecDepth 20000 in
theorem ggL_does_L_arrest : GoodIn wsL_does wsL_arrest := goodIn_ca (goodIn_ca (goodIn_r _ [191, 89, 41, 11, 192, 193, 194, 15, 195, 19, 20, 196, 197, 198, 199, 200, 201, 94, 95, 101, 102, 103, 104, 55, 202, 203, 204, 58, 205, 69, 206, 207, 208, 62, 209, 81, 210, 211, 212, 213, 214, 215, 216, 75, 76, 475, 476, 477, 478, 479, 480, 481, 482, 483, 484, 485, 486, 487, 488, 453, 454, 455, 456, 457, 458, 459, 460, 461, 462, 463, 464, 465, 470, 471, 472, 473, 474] (by decide +kernel) (by decide +kernel)) (goodIn_sub (fun _ h => List.mem_cons_of_mem _ (List.mem_append_left _ (List.mem_append_right _ h))) (by decide +kernel))) (goodIn_sub (fun _ h => List.mem_cons_of_mem _ (List.mem_append_right _ h)) (by decide +kernel))
set_option maxRecDepth 20000 in
theorem gL_does_L_arrest : GoodIn wsL_does (va_wsS RL 192 yL_arrest wsL_arrest) := goodIn_app (goodIn_of _ (by decide +kernel)) ggL_does_L_arrest
set_option maxRecDepth 20000 in
theorem ggL_does_L_extend : GoodIn wsL_does wsL_extend := goodIn_ca (goodIn_ca (goodIn_ca (goodIn_r _ [219, 89, 41, 10, 11, 220, 221, 222, 15, 223, 17, 18, 19, 20, 196, 224, 198, 199, 200, 201, 94, 95, 101, 102, 103, 104, 55, 202, 203, 204, 58, 205, 69, 26, 27, 28, 74, 75, 76, 225, 213, 214, 62, 215, 216, 475, 476, 477, 478, 479, 480, 481, 482, 483, 484, 485, 486, 487, 488, 453, 454, 455, 456, 457, 458, 459, 460, 461, 462, 463, 464, 465, 470, 471, 472, 473, 474] (by decide +kernel) (by decide +kernel)) (goodIn_sub (fun _ h => List.mem_cons_of_mem _ (List.mem_append_left _ (List.mem_append_left _ (List.mem_append_right _ h)))) (by decide +kernel))) (goodIn_sub (fun _ h => List.mem_cons_of_mem _ (List.mem_append_left _ (List.mem_append_right _ h))) (by decide +kernel))) (goodIn_sub (fun _ h => List.mem_cons_of_mem _ (List.mem_append_right _ h)) (by decide +kernel))
set_option maxRecDepth 20000 in
theorem gL_does_L_extend : GoodIn wsL_does (va_wsS RL 194 yL_extend wsL_extend) := goodIn_app (goodIn_of _ (by decide +kernel)) ggL_does_L_extend
set_option maxRecDepth 20000 in
theorem ggL_does_L_release : GoodIn wsL_does wsL_release := goodIn_ca (goodIn_ca (goodIn_r _ [228, 89, 41, 11, 229, 230, 231, 15, 232, 19, 20, 197, 198, 199, 200, 201, 94, 95, 101, 102, 103, 104, 55, 202, 203, 204, 58, 205, 69, 475, 476, 477, 478, 479, 480, 481, 482, 483, 484, 485, 486, 487, 488, 453, 454, 455, 456, 457, 458, 459, 460, 461, 462, 463, 464, 465, 470, 471, 472, 473, 474] (by decide +kernel) (by decide +kernel)) (goodIn_sub (fun _ h => List.mem_cons_of_mem _ (List.mem_append_left _ (List.mem_append_right _ h))) (by decide +kernel))) (goodIn_sub (fun _ h => List.mem_cons_of_mem _ (List.mem_append_right _ h)) (by decide +kernel))
set_option maxRecDepth 20000 in
theorem gL_does_L_release : GoodIn wsL_does (va_wsS RL 196 yL_release wsL_release) := goodIn_app (goodIn_of _ (by decide +kernel)) ggL_does_L_release
set_option maxRecDepth 20000 in
theorem ggL_does_L_drop : GoodIn wsL_does wsL_drop := goodIn_ca (goodIn_ca (goodIn_r _ [235, 89, 41, 11, 236, 237, 238, 15, 239, 19, 20, 196, 46, 240, 241, 197, 242, 198, 199, 200, 201, 94, 95, 101, 102, 103, 104, 55, 202, 203, 204, 58, 205, 69, 475, 476, 477, 478, 479, 480, 481, 482, 483, 484, 485, 486, 487, 488, 453, 454, 455, 456, 457, 458, 459, 460, 461, 462, 463, 464, 465, 470, 471, 472, 473, 474] (by decide +kernel) (by decide +kernel)) (goodIn_sub (fun _ h => List.mem_cons_of_mem _ (List.mem_append_left _ (List.mem_append_right _ h))) (by decide +kernel))) (goodIn_sub (fun _ h => List.mem_cons_of_mem _ (List.mem_append_right _ h)) (by decide +kernel))
set_option maxRecDepth 20000 in
theorem gL_does_L_drop : GoodIn wsL_does (va_wsS RL 198 yL_drop wsL_drop) := goodIn_app (goodIn_of _ (by decide +kernel)) ggL_does_L_drop
set_option maxRecDepth 20000 in
theorem ggL_does_L_review : GoodIn wsL_does wsL_review := goodIn_ca (goodIn_ca (goodIn_r _ [245, 89, 41, 11, 246, 247, 248, 15, 249, 19, 20, 196, 46, 240, 241, 250, 198, 199, 200, 201, 94, 95, 101, 102, 103, 104, 55, 202, 203, 204, 58, 205, 69, 251, 252, 253, 254, 22, 255, 256, 257, 258, 259, 260, 261, 262, 263, 264, 265, 266, 267, 268, 269, 270, 25, 271, 35, 272, 273, 274, 275, 276, 277, 278, 62, 279, 83, 280, 281, 282, 283, 284, 74, 75, 76, 285, 286, 287, 288, 97, 159, 63, 289, 290, 291, 160, 161, 162, 100, 163, 117, 292, 293, 294, 295, 113, 120, 118, 475, 476, 477, 478, 479, 480, 481, 482, 483, 484, 485, 486, 487, 488, 453, 454, 455, 456, 457, 458, 459, 460, 461, 462, 463, 464, 465, 470, 471, 472, 473, 474, 466, 467, 468, 469, 489, 490, 491, 492, 493, 494, 495, 496, 497, 498] (by decide +kernel) (by decide +kernel)) (goodIn_sub (fun _ h => List.mem_cons_of_mem _ (List.mem_append_left _ (List.mem_append_right _ h))) (by decide +kernel))) (goodIn_sub (fun _ h => List.mem_cons_of_mem _ (List.mem_append_right _ h)) (by decide +kernel))
set_option maxRecDepth 20000 in
theorem gL_does_L_review : GoodIn wsL_does (va_wsS RL 200 yL_review wsL_review) := goodIn_app (goodIn_of _ (by decide +kernel)) ggL_does_L_review
set_option maxRecDepth 20000 in
theorem ggL_does_L_decides : GoodIn wsL_does wsL_decides := goodIn_ca (goodIn_ca (goodIn_ca (goodIn_r _ [298, 42, 43, 44, 15, 45, 46, 299, 300, 3, 301, 89, 41, 10, 302, 303, 304, 305, 198, 199, 200, 201, 94, 95, 101, 102, 103, 104, 55, 202, 203, 204, 58, 205, 69, 306, 307, 308, 309, 17, 18, 26, 27, 28, 251, 252, 253, 254, 22, 255, 256, 257, 258, 259, 260, 261, 262, 263, 264, 265, 266, 267, 268, 269, 270, 25, 271, 35, 272, 273, 274, 275, 276, 277, 278, 62, 279, 83, 280, 281, 282, 283, 284, 74, 75, 76, 285, 286, 287, 288, 97, 159, 63, 289, 290, 291, 160, 161, 162, 100, 163, 117, 292, 293, 294, 295, 113, 120, 118, 310, 311, 312, 313, 314, 315, 316, 317, 318, 319, 320, 321, 322, 323, 324, 325, 326, 327, 328, 329, 330, 331, 332, 129, 130, 131, 132, 133, 134, 135, 136, 137, 333, 334, 335, 336, 337, 338, 339, 340, 341, 342, 343, 38, 39, 40, 11, 344, 345, 346, 347, 348, 349, 350, 196, 351, 197, 352, 353, 354, 355, 356, 357, 358, 359, 360, 361, 362, 363, 364, 365, 366, 19, 20, 367, 368, 369, 370, 371, 21, 372, 373, 374, 375, 376, 377, 378, 379, 380, 381, 382, 383, 384, 385, 386, 387, 388, 389, 169, 170, 171, 172, 173, 174, 175, 176, 116, 177, 178, 179, 165, 166, 167, 168, 390, 391, 392, 9, 393, 394, 395, 396, 397, 398, 399, 242, 250, 400, 401, 402, 403, 404, 405, 406, 407, 408, 409, 410, 411, 412, 413, 414, 415, 416, 417, 210, 418, 81, 419, 420, 421, 422, 423, 424, 425, 426, 427, 428, 429, 430, 431, 453, 454, 455, 456, 457, 458, 459, 460, 461, 462, 463, 464, 465, 470, 471, 472, 473, 474, 475, 476, 477, 478, 479, 480, 481, 482, 483, 484, 485, 486, 487, 488, 466, 467, 468, 469, 489, 490, 491, 492, 493, 494, 495, 496, 497, 498] (by decide +kernel) (by decide +kernel)) (goodIn_sub (fun _ h => List.mem_cons_of_mem _ (List.mem_append_right _ h)) (by decide +kernel))) (goodIn_sub (fun _ h => List.mem_cons_of_mem _ (List.mem_append_left _ (List.mem_append_left _ (List.mem_append_right _ h)))) (by decide +kernel))) (goodIn_sub (fun _ h => List.mem_cons_of_mem _ (List.mem_append_left _ (List.mem_append_right _ h))) (by decide +kernel))
set_option maxRecDepth 20000 in
theorem gL_does_L_decides : GoodIn wsL_does (va_wsS RL 202 yL_decides wsL_decides) := goodIn_app (goodIn_of _ (by decide +kernel)) ggL_does_L_decides
set_option maxRecDepth 20000 in
theorem ggL_does_L_pass : GoodIn wsL_does wsL_pass := goodIn_ca (goodIn_ca (goodIn_r _ [434, 9, 10, 11, 435, 436, 437, 15, 438, 17, 18, 19, 20, 46, 55, 400, 26, 27, 28, 439, 440, 441, 58, 442, 69, 443, 444, 445, 446, 62, 447, 448, 449, 450, 451, 81, 210, 211, 418, 452, 207, 208, 209, 212, 213, 214, 215, 216, 75, 76, 453, 454, 455, 456, 457, 458, 459, 460, 461, 462, 463, 464, 465, 470, 471, 472, 473, 474, 475, 476, 477, 478, 479, 480, 481, 482, 483, 484, 485, 486, 487, 488] (by decide +kernel) (by decide +kernel)) (goodIn_sub (fun _ h => List.mem_cons_of_mem _ (List.mem_append_left _ (List.mem_append_left _ (List.mem_append_right _ h)))) (by decide +kernel))) (goodIn_sub (fun _ h => List.mem_cons_of_mem _ (List.mem_append_left _ (List.mem_append_right _ h))) (by decide +kernel))
set_option maxRecDepth 20000 in
theorem gL_does_L_pass : GoodIn wsL_does (va_wsS RL 205 yL_pass wsL_pass) := goodIn_app (goodIn_of _ (by decide +kernel)) ggL_does_L_pass
theorem dL_does_0 : decode cL_does 0 = .ok (.iload_n 3, 1) := by decide +kernel
theorem dL_does_1 : decode cL_does 1 = .ok (.bipush 26, 2) := by decide +kernel
theorem dL_does_3 : decode cL_does 3 = .ok (.idiv, 1) := by decide +kernel
theorem dL_does_4 : decode cL_does 4 = .ok (.istore 4, 2) := by decide +kernel
theorem dL_does_6 : decode cL_does 6 = .ok (.iload 4, 2) := by decide +kernel
theorem dL_does_8 : decode cL_does 8 = .ok (.bipush 30, 2) := by decide +kernel
theorem dL_does_10 : decode cL_does 10 = .ok (.idiv, 1) := by decide +kernel
theorem dL_does_11 : decode cL_does 11 = .ok (.istore 5, 2) := by decide +kernel
theorem dL_does_13 : decode cL_does 13 = .ok (.iload 4, 2) := by decide +kernel
theorem dL_does_15 : decode cL_does 15 = .ok (.aload_n 1, 1) := by decide +kernel
theorem dL_does_16 : decode cL_does 16 = .ok (.iconst 1, 1) := by decide +kernel
theorem dL_does_17 : decode cL_does 17 = .ok (.iaload, 1) := by decide +kernel
theorem dL_does_18 : decode cL_does 18 = .ok (.iconst 1, 1) := by decide +kernel
theorem dL_does_19 : decode cL_does 19 = .ok (.iadd, 1) := by decide +kernel
theorem dL_does_20 : decode cL_does 20 = .ok (.irem, 1) := by decide +kernel
theorem dL_does_21 : decode cL_does 21 = .ok (.istore 6, 2) := by decide +kernel
theorem dL_does_23 : decode cL_does 23 = .ok (.iload 4, 2) := by decide +kernel
theorem dL_does_25 : decode cL_does 25 = .ok (.bipush 6, 2) := by decide +kernel
theorem dL_does_27 : decode cL_does 27 = .ok (.idiv, 1) := by decide +kernel
theorem dL_does_28 : decode cL_does 28 = .ok (.iconst 5, 1) := by decide +kernel
theorem dL_does_29 : decode cL_does 29 = .ok (.irem, 1) := by decide +kernel
theorem dL_does_30 : decode cL_does 30 = .ok (.istore 7, 2) := by decide +kernel
theorem dL_does_32 : decode cL_does 32 = .ok (.iload_n 3, 1) := by decide +kernel
theorem dL_does_33 : decode cL_does 33 = .ok (.bipush 26, 2) := by decide +kernel
theorem dL_does_35 : decode cL_does 35 = .ok (.irem, 1) := by decide +kernel
theorem dL_does_36 : decode cL_does 36 = .ok (.tableswitch 314 0 22 #[108, 118, 128, 128, 128, 138, 157, 170, 170, 170, 188, 201, 210, 223, 250, 259, 268, 268, 268, 280, 280, 292, 304], 108) := by decide +kernel
theorem dL_does_144 : decode cL_does 144 = .ok (.aload_n 0, 1) := by decide +kernel
theorem dL_does_145 : decode cL_does 145 = .ok (.aload_n 1, 1) := by decide +kernel
theorem dL_does_146 : decode cL_does 146 = .ok (.aload_n 2, 1) := by decide +kernel
theorem dL_does_147 : decode cL_does 147 = .ok (.iload 4, 2) := by decide +kernel
theorem dL_does_149 : decode cL_does 149 = .ok (.iconst 0, 1) := by decide +kernel
theorem dL_does_150 : decode cL_does 150 = .ok (.invokestatic 180, 3) := by decide +kernel
theorem dL_does_153 : decode cL_does 153 = .ok (.ireturn, 1) := by decide +kernel
theorem dL_does_154 : decode cL_does 154 = .ok (.aload_n 0, 1) := by decide +kernel
theorem dL_does_155 : decode cL_does 155 = .ok (.aload_n 1, 1) := by decide +kernel
theorem dL_does_156 : decode cL_does 156 = .ok (.aload_n 2, 1) := by decide +kernel
theorem dL_does_157 : decode cL_does 157 = .ok (.iload 4, 2) := by decide +kernel
theorem dL_does_159 : decode cL_does 159 = .ok (.iconst 1, 1) := by decide +kernel
theorem dL_does_160 : decode cL_does 160 = .ok (.invokestatic 180, 3) := by decide +kernel
theorem dL_does_163 : decode cL_does 163 = .ok (.ireturn, 1) := by decide +kernel
theorem dL_does_164 : decode cL_does 164 = .ok (.aload_n 0, 1) := by decide +kernel
theorem dL_does_165 : decode cL_does 165 = .ok (.aload_n 1, 1) := by decide +kernel
theorem dL_does_166 : decode cL_does 166 = .ok (.aload_n 2, 1) := by decide +kernel
theorem dL_does_167 : decode cL_does 167 = .ok (.iload 4, 2) := by decide +kernel
theorem dL_does_169 : decode cL_does 169 = .ok (.iconst 2, 1) := by decide +kernel
theorem dL_does_170 : decode cL_does 170 = .ok (.invokestatic 180, 3) := by decide +kernel
theorem dL_does_173 : decode cL_does 173 = .ok (.ireturn, 1) := by decide +kernel
theorem dL_does_174 : decode cL_does 174 = .ok (.aload_n 0, 1) := by decide +kernel
theorem dL_does_175 : decode cL_does 175 = .ok (.iload 4, 2) := by decide +kernel
theorem dL_does_177 : decode cL_does 177 = .ok (.bipush 9, 2) := by decide +kernel
theorem dL_does_179 : decode cL_does 179 = .ok (.irem, 1) := by decide +kernel
theorem dL_does_180 : decode cL_does 180 = .ok (.iload 5, 2) := by decide +kernel
theorem dL_does_182 : decode cL_does 182 = .ok (.bipush 9, 2) := by decide +kernel
theorem dL_does_184 : decode cL_does 184 = .ok (.irem, 1) := by decide +kernel
theorem dL_does_185 : decode cL_does 185 = .ok (.invokestatic 184, 3) := by decide +kernel
theorem dL_does_188 : decode cL_does 188 = .ok (.istore 8, 2) := by decide +kernel
theorem dL_does_190 : decode cL_does 190 = .ok (.iload 8, 2) := by decide +kernel
theorem dL_does_192 : decode cL_does 192 = .ok (.ireturn, 1) := by decide +kernel
theorem dL_does_193 : decode cL_does 193 = .ok (.aload_n 0, 1) := by decide +kernel
theorem dL_does_194 : decode cL_does 194 = .ok (.iload 4, 2) := by decide +kernel
theorem dL_does_196 : decode cL_does 196 = .ok (.aload_n 1, 1) := by decide +kernel
theorem dL_does_197 : decode cL_does 197 = .ok (.iconst 2, 1) := by decide +kernel
theorem dL_does_198 : decode cL_does 198 = .ok (.iaload, 1) := by decide +kernel
theorem dL_does_199 : decode cL_does 199 = .ok (.iconst 1, 1) := by decide +kernel
theorem dL_does_200 : decode cL_does 200 = .ok (.iadd, 1) := by decide +kernel
theorem dL_does_201 : decode cL_does 201 = .ok (.irem, 1) := by decide +kernel
theorem dL_does_202 : decode cL_does 202 = .ok (.invokestatic 186, 3) := by decide +kernel
theorem dL_does_205 : decode cL_does 205 = .ok (.ireturn, 1) := by decide +kernel
theorem dL_does_206 : decode cL_does 206 = .ok (.aload_n 0, 1) := by decide +kernel
theorem dL_does_207 : decode cL_does 207 = .ok (.iload 4, 2) := by decide +kernel
theorem dL_does_209 : decode cL_does 209 = .ok (.aload_n 1, 1) := by decide +kernel
theorem dL_does_210 : decode cL_does 210 = .ok (.iconst 2, 1) := by decide +kernel
theorem dL_does_211 : decode cL_does 211 = .ok (.iaload, 1) := by decide +kernel
theorem dL_does_212 : decode cL_does 212 = .ok (.iconst 1, 1) := by decide +kernel
theorem dL_does_213 : decode cL_does 213 = .ok (.iadd, 1) := by decide +kernel
theorem dL_does_214 : decode cL_does 214 = .ok (.irem, 1) := by decide +kernel
theorem dL_does_215 : decode cL_does 215 = .ok (.iload 5, 2) := by decide +kernel
theorem dL_does_217 : decode cL_does 217 = .ok (.bipush 6, 2) := by decide +kernel
theorem dL_does_219 : decode cL_does 219 = .ok (.irem, 1) := by decide +kernel
theorem dL_does_220 : decode cL_does 220 = .ok (.invokestatic 188, 3) := by decide +kernel
theorem dL_does_223 : decode cL_does 223 = .ok (.ireturn, 1) := by decide +kernel
theorem dL_does_224 : decode cL_does 224 = .ok (.aload_n 0, 1) := by decide +kernel
theorem dL_does_225 : decode cL_does 225 = .ok (.iload 4, 2) := by decide +kernel
theorem dL_does_227 : decode cL_does 227 = .ok (.aload_n 1, 1) := by decide +kernel
theorem dL_does_228 : decode cL_does 228 = .ok (.iconst 2, 1) := by decide +kernel
theorem dL_does_229 : decode cL_does 229 = .ok (.iaload, 1) := by decide +kernel
theorem dL_does_230 : decode cL_does 230 = .ok (.iconst 1, 1) := by decide +kernel
theorem dL_does_231 : decode cL_does 231 = .ok (.iadd, 1) := by decide +kernel
theorem dL_does_232 : decode cL_does 232 = .ok (.irem, 1) := by decide +kernel
theorem dL_does_233 : decode cL_does 233 = .ok (.invokestatic 190, 3) := by decide +kernel
theorem dL_does_236 : decode cL_does 236 = .ok (.ireturn, 1) := by decide +kernel
theorem dL_does_237 : decode cL_does 237 = .ok (.aload_n 0, 1) := by decide +kernel
theorem dL_does_238 : decode cL_does 238 = .ok (.iload 6, 2) := by decide +kernel
theorem dL_does_240 : decode cL_does 240 = .ok (.iload 7, 2) := by decide +kernel
theorem dL_does_242 : decode cL_does 242 = .ok (.invokestatic 192, 3) := by decide +kernel
theorem dL_does_245 : decode cL_does 245 = .ok (.ireturn, 1) := by decide +kernel
theorem dL_does_246 : decode cL_does 246 = .ok (.aload_n 0, 1) := by decide +kernel
theorem dL_does_247 : decode cL_does 247 = .ok (.iload 6, 2) := by decide +kernel
theorem dL_does_249 : decode cL_does 249 = .ok (.iload 7, 2) := by decide +kernel
theorem dL_does_251 : decode cL_does 251 = .ok (.iload 5, 2) := by decide +kernel
theorem dL_does_253 : decode cL_does 253 = .ok (.iconst 4, 1) := by decide +kernel
theorem dL_does_254 : decode cL_does 254 = .ok (.irem, 1) := by decide +kernel
theorem dL_does_255 : decode cL_does 255 = .ok (.invokestatic 194, 3) := by decide +kernel
theorem dL_does_258 : decode cL_does 258 = .ok (.ireturn, 1) := by decide +kernel
theorem dL_does_259 : decode cL_does 259 = .ok (.iload 5, 2) := by decide +kernel
theorem dL_does_261 : decode cL_does 261 = .ok (.iconst 3, 1) := by decide +kernel
theorem dL_does_262 : decode cL_does 262 = .ok (.irem, 1) := by decide +kernel
theorem dL_does_263 : decode cL_does 263 = .ok (.ifCond .le 14, 3) := by decide +kernel
theorem dL_does_266 : decode cL_does 266 = .ok (.aload_n 0, 1) := by decide +kernel
theorem dL_does_267 : decode cL_does 267 = .ok (.iload 6, 2) := by decide +kernel
theorem dL_does_269 : decode cL_does 269 = .ok (.iload 7, 2) := by decide +kernel
theorem dL_does_271 : decode cL_does 271 = .ok (.invokestatic 192, 3) := by decide +kernel
theorem dL_does_274 : decode cL_does 274 = .ok (.goto 11, 3) := by decide +kernel
theorem dL_does_277 : decode cL_does 277 = .ok (.aload_n 0, 1) := by decide +kernel
theorem dL_does_278 : decode cL_does 278 = .ok (.iload 6, 2) := by decide +kernel
theorem dL_does_280 : decode cL_does 280 = .ok (.iload 7, 2) := by decide +kernel
theorem dL_does_282 : decode cL_does 282 = .ok (.invokestatic 196, 3) := by decide +kernel
theorem dL_does_285 : decode cL_does 285 = .ok (.ireturn, 1) := by decide +kernel
theorem dL_does_286 : decode cL_does 286 = .ok (.aload_n 0, 1) := by decide +kernel
theorem dL_does_287 : decode cL_does 287 = .ok (.iload 6, 2) := by decide +kernel
theorem dL_does_289 : decode cL_does 289 = .ok (.iload 7, 2) := by decide +kernel
theorem dL_does_291 : decode cL_does 291 = .ok (.invokestatic 198, 3) := by decide +kernel
theorem dL_does_294 : decode cL_does 294 = .ok (.ireturn, 1) := by decide +kernel
theorem dL_does_295 : decode cL_does 295 = .ok (.aload_n 0, 1) := by decide +kernel
theorem dL_does_296 : decode cL_does 296 = .ok (.iload 6, 2) := by decide +kernel
theorem dL_does_298 : decode cL_does 298 = .ok (.iload 7, 2) := by decide +kernel
theorem dL_does_300 : decode cL_does 300 = .ok (.invokestatic 200, 3) := by decide +kernel
theorem dL_does_303 : decode cL_does 303 = .ok (.ireturn, 1) := by decide +kernel
theorem dL_does_304 : decode cL_does 304 = .ok (.aload_n 0, 1) := by decide +kernel
theorem dL_does_305 : decode cL_does 305 = .ok (.iload 6, 2) := by decide +kernel
theorem dL_does_307 : decode cL_does 307 = .ok (.iload 7, 2) := by decide +kernel
theorem dL_does_309 : decode cL_does 309 = .ok (.iload 5, 2) := by decide +kernel
theorem dL_does_311 : decode cL_does 311 = .ok (.iconst 0, 1) := by decide +kernel
theorem dL_does_312 : decode cL_does 312 = .ok (.invokestatic 202, 3) := by decide +kernel
theorem dL_does_315 : decode cL_does 315 = .ok (.ireturn, 1) := by decide +kernel
theorem dL_does_316 : decode cL_does 316 = .ok (.aload_n 0, 1) := by decide +kernel
theorem dL_does_317 : decode cL_does 317 = .ok (.iload 6, 2) := by decide +kernel
theorem dL_does_319 : decode cL_does 319 = .ok (.iload 7, 2) := by decide +kernel
theorem dL_does_321 : decode cL_does 321 = .ok (.iload 5, 2) := by decide +kernel
theorem dL_does_323 : decode cL_does 323 = .ok (.iconst 1, 1) := by decide +kernel
theorem dL_does_324 : decode cL_does 324 = .ok (.invokestatic 202, 3) := by decide +kernel
theorem dL_does_327 : decode cL_does 327 = .ok (.ireturn, 1) := by decide +kernel
theorem dL_does_328 : decode cL_does 328 = .ok (.aload_n 0, 1) := by decide +kernel
theorem dL_does_329 : decode cL_does 329 = .ok (.iload 6, 2) := by decide +kernel
theorem dL_does_331 : decode cL_does 331 = .ok (.iload 7, 2) := by decide +kernel
theorem dL_does_333 : decode cL_does 333 = .ok (.iload 5, 2) := by decide +kernel
theorem dL_does_335 : decode cL_does 335 = .ok (.iconst 2, 1) := by decide +kernel
theorem dL_does_336 : decode cL_does 336 = .ok (.invokestatic 202, 3) := by decide +kernel
theorem dL_does_339 : decode cL_does 339 = .ok (.ireturn, 1) := by decide +kernel
theorem dL_does_340 : decode cL_does 340 = .ok (.aload_n 0, 1) := by decide +kernel
theorem dL_does_341 : decode cL_does 341 = .ok (.iload 5, 2) := by decide +kernel
theorem dL_does_343 : decode cL_does 343 = .ok (.bipush 40, 2) := by decide +kernel
theorem dL_does_345 : decode cL_does 345 = .ok (.irem, 1) := by decide +kernel
theorem dL_does_346 : decode cL_does 346 = .ok (.invokestatic 205, 3) := by decide +kernel
theorem dL_does_349 : decode cL_does 349 = .ok (.ireturn, 1) := by decide +kernel
theorem dL_does_350 : decode cL_does 350 = .ok (.aload_n 0, 1) := by decide +kernel
theorem dL_does_351 : decode cL_does 351 = .ok (.iload 5, 2) := by decide +kernel
theorem dL_does_353 : decode cL_does 353 = .ok (.iconst 5, 1) := by decide +kernel
theorem dL_does_354 : decode cL_does 354 = .ok (.irem, 1) := by decide +kernel
theorem dL_does_355 : decode cL_does 355 = .ok (.invokestatic 205, 3) := by decide +kernel
theorem dL_does_358 : decode cL_does 358 = .ok (.ireturn, 1) := by decide +kernel
set_option maxRecDepth 20000 in
theorem ggL_law_X4_init : GoodIn wsL_law wsX4_init := goodIn_r _ [8, 9, 10, 11, 12, 13, 14, 15, 16, 17, 528, 529, 530, 531, 532, 533, 534, 535, 536, 537, 538, 539, 540] (by decide +kernel) (by decide +kernel)
set_option maxRecDepth 20000 in
theorem gL_law_X4_init : GoodIn wsL_law (wsX4_init) := ggL_law_X4_init
set_option maxRecDepth 20000 in
theorem ggL_law_L_drawn : GoodIn wsL_law wsL_drawn := goodIn_r _ [21, 22, 23] (by decide +kernel) (by decide +kernel)
set_option maxRecDepth 20000 in
theorem gL_law_L_drawn : GoodIn wsL_law (va_wsS RL 208 yL_drawn wsL_drawn) := goodIn_app (goodIn_of _ (by decide +kernel)) ggL_law_L_drawn
set_option maxRecDepth 20000 in
theorem ggL_law_L_mix : GoodIn wsL_law wsL_mix := goodIn_ca (goodIn_ca (goodIn_r _ [26, 27, 28, 29, 30, 31, 32, 33, 34, 35, 36, 2, 37, 38, 39, 40, 20, 41, 42, 43, 44, 45, 46, 47, 48, 49, 50, 51, 52, 53, 54, 55, 56, 57, 58, 59, 60, 61, 62, 63, 64, 65, 66, 67, 68, 69, 70, 71, 72, 73, 74, 75, 76, 77, 78, 79, 80, 81, 15, 82, 83, 84, 85, 86, 87, 88, 89, 90, 91, 13, 92, 93, 94, 95, 96, 97, 98, 99, 100, 101, 102, 103, 104, 105, 106, 107, 108, 109, 110, 111, 112, 113, 114, 115, 116, 117, 118, 119, 120, 121, 122, 123, 124, 125, 126, 127, 128, 129, 130, 17, 131, 132, 133, 134, 135, 136, 137, 138, 139, 140, 141, 142, 528, 529, 530, 531, 532, 533, 534, 535, 536, 537, 538, 539, 540, 541, 542, 543, 544, 545, 546, 547, 548, 549, 550, 551, 552, 553, 554, 555, 556, 557, 558, 559, 560, 561, 562, 563, 564, 565, 566, 567, 568, 569, 570, 571, 572, 573] (by decide +kernel) (by decide +kernel)) (goodIn_sub (fun _ h => List.mem_append_left _ (List.mem_append_left _ (List.mem_append_right _ h))) (by decide +kernel))) (goodIn_sub (fun _ h => List.mem_append_left _ (List.mem_append_right _ h)) (by decide +kernel))
set_option maxRecDepth 20000 in
theorem gL_law_L_mix : GoodIn wsL_law (va_wsS RL 213 yL_mix wsL_mix) := goodIn_app (goodIn_of _ (by decide +kernel)) ggL_law_L_mix
set_option maxRecDepth 20000 in
theorem ggL_law_X4_day : GoodIn wsL_law wsX4_day := goodIn_r _ [37, 38, 528, 529, 530, 531, 532, 533, 534, 535, 536, 537, 538, 539, 540] (by decide +kernel) (by decide +kernel)
set_option maxRecDepth 20000 in
theorem gL_law_X4_day : GoodIn wsL_law (wsV RL 105 RX4 yX4_day wsX4_day) := goodIn_app (goodIn_of _ (by decide +kernel)) ggL_law_X4_day
set_option maxRecDepth 20000 in
theorem ggL_law_L_known : GoodIn wsL_law wsL_known := goodIn_ca (goodIn_ca (goodIn_r _ [145, 27, 28, 146, 147, 20, 148, 59, 60, 43, 149, 150, 151, 2, 152, 76, 77, 72, 73, 74, 75, 78, 79, 80, 81, 15, 82, 83, 84, 85, 86, 87, 138, 139, 140, 141, 13, 153, 154, 155, 156, 48, 49, 38, 157, 158, 159, 160, 161, 162, 163, 164, 165, 166, 167, 168, 92, 93, 94, 95, 96, 97, 98, 99, 100, 101, 102, 103, 104, 105, 106, 107, 108, 109, 110, 111, 169, 170, 171, 172, 173, 174, 175, 176, 177, 178, 179, 180, 17, 119, 181, 120, 182, 121, 183, 184, 185, 186, 187, 188, 189, 190, 191, 192, 193, 194, 195, 196, 197, 198, 199, 200, 201, 202, 528, 529, 530, 531, 532, 533, 534, 535, 536, 537, 538, 539, 540, 555, 556, 557, 558, 559, 541, 542, 543, 544, 545, 546, 547, 548, 549, 550, 551, 552, 553, 554, 560, 561, 562, 563, 564, 565, 566, 567, 568, 569, 570, 571, 572, 573] (by decide +kernel) (by decide +kernel)) (goodIn_sub (fun _ h => List.mem_append_left _ (List.mem_append_right _ h)) (by decide +kernel))) (goodIn_sub (fun _ h => List.mem_append_left _ (List.mem_append_left _ (List.mem_append_right _ h))) (by decide +kernel))
set_option maxRecDepth 20000 in
theorem gL_law_L_known : GoodIn wsL_law (va_wsS RL 217 yL_known wsL_known) := goodIn_app (goodIn_of _ (by decide +kernel)) ggL_law_L_known
set_option maxRecDepth 20000 in
theorem ggL_law_L_does : GoodIn wsL_law wsL_does := goodIn_ca (goodIn_ca (goodIn_ca (goodIn_r _ [205, 206, 207, 20, 208, 209, 210, 211, 212, 42, 43, 213, 214, 215, 216, 2, 217, 48, 49, 218, 219, 220, 13, 12, 221, 99, 157, 158, 159, 222, 223, 224, 225, 10, 11, 101, 226, 227, 228, 229, 230, 60, 34, 35, 36, 37, 38, 231, 232, 233, 234, 235, 236, 237, 238, 15, 14, 239, 85, 240, 241, 242, 109, 181, 243, 244, 245, 246, 247, 87, 248, 249, 250, 251, 174, 175, 176, 252, 253, 254, 255, 256, 3, 111, 257, 258, 259, 260, 261, 59, 262, 263, 264, 265, 76, 77, 266, 17, 16, 267, 186, 78, 79, 80, 81, 268, 269, 270, 271, 272, 273, 274, 275, 193, 276, 277, 278, 188, 195, 279, 194, 280, 281, 282, 283, 284, 285, 286, 287, 138, 139, 140, 141, 288, 289, 290, 291, 292, 293, 294, 295, 296, 297, 298, 299, 300, 124, 127, 128, 129, 130, 301, 302, 303, 304, 305, 306, 307, 125, 119, 183, 184, 185, 187, 308, 309, 310, 311, 312, 313, 314, 315, 316, 317, 318, 319, 320, 321, 322, 323, 324, 325, 326, 327, 328, 329, 330, 331, 126, 332, 333, 334, 335, 336, 337, 338, 65, 67, 72, 73, 74, 75, 82, 83, 84, 86, 339, 340, 341, 342, 343, 344, 345, 346, 347, 348, 349, 350, 351, 352, 353, 354, 355, 356, 357, 358, 359, 360, 361, 362, 363, 364, 365, 366, 367, 368, 369, 370, 371, 372, 373, 374, 53, 375, 376, 377, 378, 379, 380, 381, 54, 382, 383, 384, 385, 160, 161, 162, 163, 164, 165, 166, 167, 168, 92, 93, 94, 95, 96, 97, 98, 100, 102, 103, 104, 105, 106, 107, 108, 110, 169, 170, 171, 172, 173, 177, 178, 179, 180, 120, 182, 121, 189, 190, 191, 192, 386, 387, 388, 389, 390, 391, 392, 393, 394, 395, 153, 154, 155, 156, 396, 397, 398, 399, 400, 401, 402, 403, 404, 405, 406, 407, 408, 409, 410, 411, 412, 413, 414, 415, 416, 417, 418, 419, 420, 421, 422, 423, 424, 425, 426, 427, 428, 429, 56, 57, 58, 61, 62, 63, 64, 66, 68, 69, 70, 71, 88, 89, 90, 91, 430, 431, 432, 433, 434, 435, 436, 437, 438, 439, 440, 441, 442, 443, 444, 445, 146, 147, 148, 149, 150, 151, 152, 446, 447, 448, 449, 450, 451, 452, 39, 40, 41, 44, 45, 46, 47, 50, 51, 52, 55, 453, 454, 455, 456, 457, 458, 459, 460, 461, 462, 463, 464, 465, 466, 467, 468, 469, 470, 471, 472, 473, 474, 475, 476, 477, 478, 479, 480, 481, 482, 483, 484, 485, 486, 487, 488, 489, 490, 491, 492, 493, 494, 495, 496, 497, 498, 499, 500, 501, 502, 503, 504, 528, 529, 530, 531, 532, 533, 534, 535, 536, 537, 538, 539, 540, 560, 561, 562, 563, 555, 556, 557, 558, 559, 541, 542, 543, 544, 545, 546, 547, 548, 549, 550, 551, 552, 553, 554, 564, 565, 566, 567, 568, 569, 570, 571, 572, 573] (by decide +kernel) (by decide +kernel)) (goodIn_sub (fun _ h => List.mem_append_left _ (List.mem_append_left _ (List.mem_append_right _ h))) (by decide +kernel))) (goodIn_sub (fun _ h => List.mem_append_right _ h) (by decide +kernel))) (goodIn_sub (fun _ h => List.mem_append_left _ (List.mem_append_right _ h)) (by decide +kernel))
set_option maxRecDepth 20000 in
theorem gL_law_L_does : GoodIn wsL_law (va_wsS RL 221 yL_does wsL_does) := goodIn_app (goodIn_of _ (by decide +kernel)) ggL_law_L_does
set_option maxRecDepth 20000 in
theorem ggL_law_L_isRefused : GoodIn wsL_law wsL_isRefused := goodIn_r _ [230, 60, 43, 213] (by decide +kernel) (by decide +kernel)
set_option maxRecDepth 20000 in
theorem gL_law_L_isRefused : GoodIn wsL_law (va_wsS RL 162 yL_isRefused wsL_isRefused) := goodIn_app (goodIn_of _ (by decide +kernel)) ggL_law_L_isRefused
set_option maxRecDepth 20000 in
theorem ggL_law_L_isLawful : GoodIn wsL_law wsL_isLawful := goodIn_ca (goodIn_ca (goodIn_r _ [507, 39, 40, 20, 41, 42, 43, 44, 45, 46, 2, 47, 48, 49, 50, 51, 52, 53, 54, 55, 508, 509, 510, 56, 57, 58, 59, 60, 61, 62, 63, 64, 65, 66, 67, 68, 69, 70, 71, 72, 73, 74, 75, 76, 77, 78, 79, 80, 81, 15, 82, 83, 84, 85, 86, 87, 88, 89, 90, 91, 13, 38, 92, 93, 94, 95, 96, 97, 98, 99, 100, 101, 102, 103, 104, 105, 106, 107, 108, 109, 110, 111, 34, 35, 36, 37, 511, 512, 513, 389, 390, 391, 392, 393, 394, 395, 153, 154, 155, 156, 157, 158, 159, 382, 383, 384, 385, 160, 161, 162, 163, 164, 165, 166, 167, 168, 169, 170, 171, 172, 173, 174, 175, 176, 177, 178, 179, 180, 17, 119, 181, 120, 182, 121, 183, 184, 185, 186, 187, 188, 189, 190, 191, 192, 193, 194, 195, 396, 397, 398, 399, 400, 401, 402, 403, 404, 405, 406, 407, 408, 409, 410, 411, 412, 413, 414, 415, 416, 417, 418, 138, 139, 140, 141, 288, 289, 290, 291, 292, 419, 420, 421, 422, 423, 424, 425, 426, 427, 428, 429, 514, 515, 516, 517, 518, 519, 520, 521, 522, 523, 524, 442, 443, 444, 445, 471, 472, 473, 146, 147, 148, 149, 150, 151, 152, 131, 132, 133, 134, 135, 136, 137, 142, 525, 526, 527, 528, 529, 530, 531, 532, 533, 534, 535, 536, 537, 538, 539, 540, 541, 542, 543, 544, 545, 546, 547, 548, 549, 550, 551, 552, 553, 554, 555, 556, 557, 558, 559, 560, 561, 562, 563, 564, 565, 566, 567, 568, 569, 570, 571, 572, 573] (by decide +kernel) (by decide +kernel)) (goodIn_sub (fun _ h => List.mem_append_left _ (List.mem_append_left _ (List.mem_append_right _ h))) (by decide +kernel))) (goodIn_sub (fun _ h => List.mem_append_left _ (List.mem_append_right _ h)) (by decide +kernel))
set_option maxRecDepth 20000 in
theorem gL_law_L_isLawful : GoodIn wsL_law (va_wsS RL 226 yL_isLawful wsL_isLawful) := goodIn_app (goodIn_of _ (by decide +kernel)) ggL_law_L_isLawful
theorem dL_law_0 : decode cL_law 0 = .ok (.iconst 1, 1) := by decide +kernel
theorem dL_law_1 : decode cL_law 1 = .ok (.istore_n 1, 1) := by decide +kernel
theorem dL_law_2 : decode cL_law 2 = .ok (.iconst 0, 1) := by decide +kernel
theorem dL_law_3 : decode cL_law 3 = .ok (.istore_n 2, 1) := by decide +kernel
theorem dL_law_4 : decode cL_law 4 = .ok (.iload_n 2, 1) := by decide +kernel
theorem dL_law_5 : decode cL_law 5 = .ok (.iconst 3, 1) := by decide +kernel
theorem dL_law_6 : decode cL_law 6 = .ok (.if_icmp .ge 339, 3) := by decide +kernel
theorem dL_law_9 : decode cL_law 9 = .ok (.iload_n 1, 1) := by decide +kernel
theorem dL_law_10 : decode cL_law 10 = .ok (.ifCond .eq 335, 3) := by decide +kernel
theorem dL_law_13 : decode cL_law 13 = .ok (.new 8, 3) := by decide +kernel
theorem dL_law_16 : decode cL_law 16 = .ok (.dup, 1) := by decide +kernel
theorem dL_law_17 : decode cL_law 17 = .ok (.invokespecial 207, 3) := by decide +kernel
theorem dL_law_20 : decode cL_law 20 = .ok (.astore_n 3, 1) := by decide +kernel
theorem dL_law_21 : decode cL_law 21 = .ok (.iconst 3, 1) := by decide +kernel
theorem dL_law_22 : decode cL_law 22 = .ok (.newarray .int, 2) := by decide +kernel
theorem dL_law_24 : decode cL_law 24 = .ok (.astore 4, 2) := by decide +kernel
theorem dL_law_26 : decode cL_law 26 = .ok (.bipush 6, 2) := by decide +kernel
theorem dL_law_28 : decode cL_law 28 = .ok (.newarray .int, 2) := by decide +kernel
theorem dL_law_30 : decode cL_law 30 = .ok (.astore 5, 2) := by decide +kernel
theorem dL_law_32 : decode cL_law 32 = .ok (.bipush 48, 2) := by decide +kernel
theorem dL_law_34 : decode cL_law 34 = .ok (.newarray .int, 2) := by decide +kernel
theorem dL_law_36 : decode cL_law 36 = .ok (.astore 6, 2) := by decide +kernel
theorem dL_law_38 : decode cL_law 38 = .ok (.bipush 6, 2) := by decide +kernel
theorem dL_law_40 : decode cL_law 40 = .ok (.newarray .int, 2) := by decide +kernel
theorem dL_law_42 : decode cL_law 42 = .ok (.astore 7, 2) := by decide +kernel
theorem dL_law_44 : decode cL_law 44 = .ok (.iconst 0, 1) := by decide +kernel
theorem dL_law_45 : decode cL_law 45 = .ok (.istore 8, 2) := by decide +kernel
theorem dL_law_47 : decode cL_law 47 = .ok (.iload 8, 2) := by decide +kernel
theorem dL_law_49 : decode cL_law 49 = .ok (.bipush 56, 2) := by decide +kernel
theorem dL_law_51 : decode cL_law 51 = .ok (.if_icmp .ge 288, 3) := by decide +kernel
theorem dL_law_54 : decode cL_law 54 = .ok (.iload_n 1, 1) := by decide +kernel
theorem dL_law_55 : decode cL_law 55 = .ok (.ifCond .eq 284, 3) := by decide +kernel
theorem dL_law_58 : decode cL_law 58 = .ok (.aload_n 0, 1) := by decide +kernel
theorem dL_law_59 : decode cL_law 59 = .ok (.bipush 56, 2) := by decide +kernel
theorem dL_law_61 : decode cL_law 61 = .ok (.iload_n 2, 1) := by decide +kernel
theorem dL_law_62 : decode cL_law 62 = .ok (.imul, 1) := by decide +kernel
theorem dL_law_63 : decode cL_law 63 = .ok (.iload 8, 2) := by decide +kernel
theorem dL_law_65 : decode cL_law 65 = .ok (.iadd, 1) := by decide +kernel
theorem dL_law_66 : decode cL_law 66 = .ok (.invokestatic 208, 3) := by decide +kernel
theorem dL_law_69 : decode cL_law 69 = .ok (.ldc 212, 2) := by decide +kernel
theorem dL_law_71 : decode cL_law 71 = .ok (.irem, 1) := by decide +kernel
theorem dL_law_72 : decode cL_law 72 = .ok (.istore 9, 2) := by decide +kernel
theorem dL_law_74 : decode cL_law 74 = .ok (.iload 8, 2) := by decide +kernel
theorem dL_law_76 : decode cL_law 76 = .ok (.iconst 4, 1) := by decide +kernel
theorem dL_law_77 : decode cL_law 77 = .ok (.if_icmp .ge 14, 3) := by decide +kernel
theorem dL_law_80 : decode cL_law 80 = .ok (.bipush 26, 2) := by decide +kernel
theorem dL_law_82 : decode cL_law 82 = .ok (.iload 9, 2) := by decide +kernel
theorem dL_law_84 : decode cL_law 84 = .ok (.bipush 26, 2) := by decide +kernel
theorem dL_law_86 : decode cL_law 86 = .ok (.idiv, 1) := by decide +kernel
theorem dL_law_87 : decode cL_law 87 = .ok (.imul, 1) := by decide +kernel
theorem dL_law_88 : decode cL_law 88 = .ok (.goto 45, 3) := by decide +kernel
theorem dL_law_91 : decode cL_law 91 = .ok (.iload 8, 2) := by decide +kernel
theorem dL_law_93 : decode cL_law 93 = .ok (.bipush 6, 2) := by decide +kernel
theorem dL_law_95 : decode cL_law 95 = .ok (.if_icmp .ge 16, 3) := by decide +kernel
theorem dL_law_98 : decode cL_law 98 = .ok (.bipush 26, 2) := by decide +kernel
theorem dL_law_100 : decode cL_law 100 = .ok (.iload 9, 2) := by decide +kernel
theorem dL_law_102 : decode cL_law 102 = .ok (.bipush 26, 2) := by decide +kernel
theorem dL_law_104 : decode cL_law 104 = .ok (.idiv, 1) := by decide +kernel
theorem dL_law_105 : decode cL_law 105 = .ok (.imul, 1) := by decide +kernel
theorem dL_law_106 : decode cL_law 106 = .ok (.iconst 1, 1) := by decide +kernel
theorem dL_law_107 : decode cL_law 107 = .ok (.iadd, 1) := by decide +kernel
theorem dL_law_108 : decode cL_law 108 = .ok (.goto 25, 3) := by decide +kernel
theorem dL_law_111 : decode cL_law 111 = .ok (.iload 8, 2) := by decide +kernel
theorem dL_law_113 : decode cL_law 113 = .ok (.bipush 18, 2) := by decide +kernel
theorem dL_law_115 : decode cL_law 115 = .ok (.if_icmp .ge 16, 3) := by decide +kernel
theorem dL_law_118 : decode cL_law 118 = .ok (.bipush 26, 2) := by decide +kernel
theorem dL_law_120 : decode cL_law 120 = .ok (.iload 9, 2) := by decide +kernel
theorem dL_law_122 : decode cL_law 122 = .ok (.bipush 26, 2) := by decide +kernel
theorem dL_law_124 : decode cL_law 124 = .ok (.idiv, 1) := by decide +kernel
theorem dL_law_125 : decode cL_law 125 = .ok (.imul, 1) := by decide +kernel
theorem dL_law_126 : decode cL_law 126 = .ok (.iconst 2, 1) := by decide +kernel
theorem dL_law_127 : decode cL_law 127 = .ok (.iadd, 1) := by decide +kernel
theorem dL_law_128 : decode cL_law 128 = .ok (.goto 5, 3) := by decide +kernel
theorem dL_law_131 : decode cL_law 131 = .ok (.iload 9, 2) := by decide +kernel
theorem dL_law_133 : decode cL_law 133 = .ok (.istore 9, 2) := by decide +kernel
theorem dL_law_135 : decode cL_law 135 = .ok (.aload_n 3, 1) := by decide +kernel
theorem dL_law_136 : decode cL_law 136 = .ok (.aload 4, 2) := by decide +kernel
theorem dL_law_138 : decode cL_law 138 = .ok (.aload 5, 2) := by decide +kernel
theorem dL_law_140 : decode cL_law 140 = .ok (.invokestatic 213, 3) := by decide +kernel
theorem dL_law_143 : decode cL_law 143 = .ok (.lstore 10, 2) := by decide +kernel
theorem dL_law_145 : decode cL_law 145 = .ok (.iload 9, 2) := by decide +kernel
theorem dL_law_147 : decode cL_law 147 = .ok (.bipush 24, 2) := by decide +kernel
theorem dL_law_149 : decode cL_law 149 = .ok (.irem, 1) := by decide +kernel
theorem dL_law_150 : decode cL_law 150 = .ok (.istore 12, 2) := by decide +kernel
theorem dL_law_152 : decode cL_law 152 = .ok (.iload 12, 2) := by decide +kernel
theorem dL_law_154 : decode cL_law 154 = .ok (.bipush 8, 2) := by decide +kernel
theorem dL_law_156 : decode cL_law 156 = .ok (.idiv, 1) := by decide +kernel
theorem dL_law_157 : decode cL_law 157 = .ok (.aload 4, 2) := by decide +kernel
theorem dL_law_159 : decode cL_law 159 = .ok (.iconst 1, 1) := by decide +kernel
theorem dL_law_160 : decode cL_law 160 = .ok (.iaload, 1) := by decide +kernel
theorem dL_law_161 : decode cL_law 161 = .ok (.if_icmp .ge 27, 3) := by decide +kernel
theorem dL_law_164 : decode cL_law 164 = .ok (.aload 5, 2) := by decide +kernel
theorem dL_law_166 : decode cL_law 166 = .ok (.iload 12, 2) := by decide +kernel
theorem dL_law_168 : decode cL_law 168 = .ok (.bipush 8, 2) := by decide +kernel
theorem dL_law_170 : decode cL_law 170 = .ok (.idiv, 1) := by decide +kernel
theorem dL_law_171 : decode cL_law 171 = .ok (.iaload, 1) := by decide +kernel
theorem dL_law_172 : decode cL_law 172 = .ok (.iload 12, 2) := by decide +kernel
theorem dL_law_174 : decode cL_law 174 = .ok (.bipush 8, 2) := by decide +kernel
theorem dL_law_176 : decode cL_law 176 = .ok (.irem, 1) := by decide +kernel
theorem dL_law_177 : decode cL_law 177 = .ok (.ishr, 1) := by decide +kernel
theorem dL_law_178 : decode cL_law 178 = .ok (.iconst 1, 1) := by decide +kernel
theorem dL_law_179 : decode cL_law 179 = .ok (.iand, 1) := by decide +kernel
theorem dL_law_180 : decode cL_law 180 = .ok (.iconst 1, 1) := by decide +kernel
theorem dL_law_181 : decode cL_law 181 = .ok (.if_icmp .ne 7, 3) := by decide +kernel
theorem dL_law_184 : decode cL_law 184 = .ok (.iconst 1, 1) := by decide +kernel
theorem dL_law_185 : decode cL_law 185 = .ok (.goto 4, 3) := by decide +kernel
theorem dL_law_188 : decode cL_law 188 = .ok (.iconst 0, 1) := by decide +kernel
theorem dL_law_189 : decode cL_law 189 = .ok (.istore 13, 2) := by decide +kernel
theorem dL_law_191 : decode cL_law 191 = .ok (.aload_n 3, 1) := by decide +kernel
theorem dL_law_192 : decode cL_law 192 = .ok (.invokevirtual 105, 3) := by decide +kernel
theorem dL_law_195 : decode cL_law 195 = .ok (.iconst 1, 1) := by decide +kernel
theorem dL_law_196 : decode cL_law 196 = .ok (.isub, 1) := by decide +kernel
theorem dL_law_197 : decode cL_law 197 = .ok (.istore 14, 2) := by decide +kernel
theorem dL_law_199 : decode cL_law 199 = .ok (.aload 4, 2) := by decide +kernel
theorem dL_law_201 : decode cL_law 201 = .ok (.iconst 0, 1) := by decide +kernel
theorem dL_law_202 : decode cL_law 202 = .ok (.iaload, 1) := by decide +kernel
theorem dL_law_203 : decode cL_law 203 = .ok (.istore 15, 2) := by decide +kernel
theorem dL_law_205 : decode cL_law 205 = .ok (.iload 13, 2) := by decide +kernel
theorem dL_law_207 : decode cL_law 207 = .ok (.ifCond .eq 21, 3) := by decide +kernel
theorem dL_law_210 : decode cL_law 210 = .ok (.iload 14, 2) := by decide +kernel
theorem dL_law_212 : decode cL_law 212 = .ok (.ifCond .lt 16, 3) := by decide +kernel
theorem dL_law_215 : decode cL_law 215 = .ok (.aload_n 3, 1) := by decide +kernel
theorem dL_law_216 : decode cL_law 216 = .ok (.aload 4, 2) := by decide +kernel
theorem dL_law_218 : decode cL_law 218 = .ok (.iload 12, 2) := by decide +kernel
theorem dL_law_220 : decode cL_law 220 = .ok (.iload 14, 2) := by decide +kernel
theorem dL_law_222 : decode cL_law 222 = .ok (.invokestatic 217, 3) := by decide +kernel
theorem dL_law_225 : decode cL_law 225 = .ok (.goto 4, 3) := by decide +kernel
theorem dL_law_228 : decode cL_law 228 = .ok (.lconst 0, 1) := by decide +kernel
theorem dL_law_229 : decode cL_law 229 = .ok (.lstore 16, 2) := by decide +kernel
theorem dL_law_231 : decode cL_law 231 = .ok (.aload_n 3, 1) := by decide +kernel
theorem dL_law_232 : decode cL_law 232 = .ok (.aload 4, 2) := by decide +kernel
theorem dL_law_234 : decode cL_law 234 = .ok (.aload 5, 2) := by decide +kernel
theorem dL_law_236 : decode cL_law 236 = .ok (.iload 9, 2) := by decide +kernel
theorem dL_law_238 : decode cL_law 238 = .ok (.invokestatic 221, 3) := by decide +kernel
theorem dL_law_241 : decode cL_law 241 = .ok (.istore 18, 2) := by decide +kernel
theorem dL_law_243 : decode cL_law 243 = .ok (.iload 18, 2) := by decide +kernel
theorem dL_law_245 : decode cL_law 245 = .ok (.bipush (-9), 2) := by decide +kernel
theorem dL_law_247 : decode cL_law 247 = .ok (.if_icmp .eq 84, 3) := by decide +kernel
theorem dL_law_250 : decode cL_law 250 = .ok (.iload 18, 2) := by decide +kernel
theorem dL_law_252 : decode cL_law 252 = .ok (.invokestatic 162, 3) := by decide +kernel
theorem dL_law_255 : decode cL_law 255 = .ok (.ifCond .eq 17, 3) := by decide +kernel
theorem dL_law_258 : decode cL_law 258 = .ok (.aload_n 3, 1) := by decide +kernel
theorem dL_law_259 : decode cL_law 259 = .ok (.aload 4, 2) := by decide +kernel
theorem dL_law_261 : decode cL_law 261 = .ok (.aload 5, 2) := by decide +kernel
theorem dL_law_263 : decode cL_law 263 = .ok (.invokestatic 213, 3) := by decide +kernel
theorem dL_law_266 : decode cL_law 266 = .ok (.lload 10, 2) := by decide +kernel
theorem dL_law_268 : decode cL_law 268 = .ok (.lcmp, 1) := by decide +kernel
theorem dL_law_269 : decode cL_law 269 = .ok (.ifCond .ne 62, 3) := by decide +kernel
theorem dL_law_272 : decode cL_law 272 = .ok (.iload 13, 2) := by decide +kernel
theorem dL_law_274 : decode cL_law 274 = .ok (.ifCond .eq 33, 3) := by decide +kernel
theorem dL_law_277 : decode cL_law 277 = .ok (.iload 14, 2) := by decide +kernel
theorem dL_law_279 : decode cL_law 279 = .ok (.ifCond .lt 28, 3) := by decide +kernel
theorem dL_law_282 : decode cL_law 282 = .ok (.aload 4, 2) := by decide +kernel
theorem dL_law_284 : decode cL_law 284 = .ok (.iconst 0, 1) := by decide +kernel
theorem dL_law_285 : decode cL_law 285 = .ok (.iaload, 1) := by decide +kernel
theorem dL_law_286 : decode cL_law 286 = .ok (.iload 15, 2) := by decide +kernel
theorem dL_law_288 : decode cL_law 288 = .ok (.if_icmp .ne 19, 3) := by decide +kernel
theorem dL_law_291 : decode cL_law 291 = .ok (.aload_n 3, 1) := by decide +kernel
theorem dL_law_292 : decode cL_law 292 = .ok (.aload 4, 2) := by decide +kernel
theorem dL_law_294 : decode cL_law 294 = .ok (.iload 12, 2) := by decide +kernel
theorem dL_law_296 : decode cL_law 296 = .ok (.iload 14, 2) := by decide +kernel
theorem dL_law_298 : decode cL_law 298 = .ok (.invokestatic 217, 3) := by decide +kernel
theorem dL_law_301 : decode cL_law 301 = .ok (.lload 16, 2) := by decide +kernel
theorem dL_law_303 : decode cL_law 303 = .ok (.lcmp, 1) := by decide +kernel
theorem dL_law_304 : decode cL_law 304 = .ok (.ifCond .ne 27, 3) := by decide +kernel
theorem dL_law_307 : decode cL_law 307 = .ok (.aload_n 3, 1) := by decide +kernel
theorem dL_law_308 : decode cL_law 308 = .ok (.aload 4, 2) := by decide +kernel
theorem dL_law_310 : decode cL_law 310 = .ok (.aload 5, 2) := by decide +kernel
theorem dL_law_312 : decode cL_law 312 = .ok (.aload 6, 2) := by decide +kernel
theorem dL_law_314 : decode cL_law 314 = .ok (.aload 7, 2) := by decide +kernel
theorem dL_law_316 : decode cL_law 316 = .ok (.iload 9, 2) := by decide +kernel
theorem dL_law_318 : decode cL_law 318 = .ok (.ldc 225, 2) := by decide +kernel
theorem dL_law_320 : decode cL_law 320 = .ok (.irem, 1) := by decide +kernel
theorem dL_law_321 : decode cL_law 321 = .ok (.invokestatic 226, 3) := by decide +kernel
theorem dL_law_324 : decode cL_law 324 = .ok (.ifCond .eq 7, 3) := by decide +kernel
theorem dL_law_327 : decode cL_law 327 = .ok (.iconst 1, 1) := by decide +kernel
theorem dL_law_328 : decode cL_law 328 = .ok (.goto 4, 3) := by decide +kernel
theorem dL_law_331 : decode cL_law 331 = .ok (.iconst 0, 1) := by decide +kernel
theorem dL_law_332 : decode cL_law 332 = .ok (.istore_n 1, 1) := by decide +kernel
theorem dL_law_333 : decode cL_law 333 = .ok (.iinc 8 1, 3) := by decide +kernel
theorem dL_law_336 : decode cL_law 336 = .ok (.goto (-289), 3) := by decide +kernel
theorem dL_law_339 : decode cL_law 339 = .ok (.iinc 2 1, 3) := by decide +kernel
theorem dL_law_342 : decode cL_law 342 = .ok (.goto (-338), 3) := by decide +kernel
theorem dL_law_345 : decode cL_law 345 = .ok (.iload_n 1, 1) := by decide +kernel
theorem dL_law_346 : decode cL_law 346 = .ok (.ireturn, 1) := by decide +kernel
abbrev vwCl : List vw_C := [(RX0, TX0, 14), (RX1, TX1, 5), (RX2, TX2, 10), (RX3, TX3, 4), (RX4, TX4, 13)]
end
section
/-! ===== the heap as a map from addresses; pure reads and writes of it ===== -/
abbrev hE : Type := (Nat × vp_A) ⊕ (Nat × List Value)
abbrev hM : Type := Nat → Option hE
abbrev hG : Type := va_G × (Nat → ClassId)
def hcv (dA : Nat → ClassId) (x : hE) : va_E := match x with
  | .inl a => .inl (dA a.1, a.2)
  | .inr o => .inr o
/-- the map tells the heap -/
def hP (G : hG) (M : hM) (H : Heap) : Prop := ∀ (a : Nat) (x : hE), M a = some x → va_at G.1 vwCl (a, hcv G.2 x) H
/-- the arrays' kinds -/
abbrev hTys (G : hG) : List (ClassId × FieldType) := [(G.2 0, .int), (G.2 1, .boolean), (G.2 2, .long), (G.2 3, .object RX3), (G.2 4, .object RX1), (G.2 5, .object RX2), (G.2 6, .object RX0)]
def hK (G : hG) (U : State) : Prop := va_K G.1 vwCl (hTys G) U
def hst (M : hM) (a : Nat) (x : hE) : hM := fun q => if q = a then some x else M q
theorem hst_s (M : hM) (a : Nat) (x : hE) : hst M a x a = some x := if_pos rfl
theorem hst_n (M : hM) {a q : Nat} (x : hE) (h : q ≠ a) : hst M a x q = M q := if_neg h
def hO (M : hM) (c : Nat) (r : Option Nat) : Option (Nat × List Value) := r.bind fun a => match M a with
  | some (.inr o) => if o.1 = c then some (a, o.2) else none
  | _ => none
def hC (M : hM) (c : Nat) (r : Option Nat) : Option Nat := (hO M c r).map fun p => p.1
def hvI (v : Value) : Option Int32 := match v with
  | .int x => some x
  | _ => none
def hvR (v : Value) : Option (Option Nat) := match v with
  | .ref a => some (some a)
  | .null => some none
  | _ => none
def gI (M : hM) (c k : Nat) (r : Option Nat) : Option Int32 := (hO M c r).bind fun p => (p.2[k]?).bind hvI
def gR (M : hM) (c k : Nat) (r : Option Nat) : Option (Option Nat) := (hO M c r).bind fun p => (p.2[k]?).bind hvR
def pV (M : hM) (c k : Nat) (r : Option Nat) (v : Value) : Option hM := (hO M c r).bind fun p => if k < p.2.length then some (hst M p.1 (.inr (c, p.2.set k v))) else none
def pZ (M : hM) (c k : Nat) (r : Option Nat) (x : Int32) : Option hM := if x = 0 ∨ x = 1 then pV M c k r (.int x) else none
def hA (M : hM) (kd : Nat) (r : Option Nat) : Option (Nat × vp_A) := r.bind fun a => match M a with
  | some (.inl o) => if o.1 = kd then some (a, o.2) else none
  | _ => none
def aL (M : hM) (kd : Nat) (r : Option Nat) : Option Int32 := (hA M kd r).map fun p => Int32.ofNat p.2.1
def aI (M : hM) (kd : Nat) (r : Option Nat) (i : Int32) : Option Int32 := (hA M kd r).bind fun p => match p.2.2 with
  | .inl f => if 0 ≤ i.toInt ∧ i.toInt < (p.2.1 : Int) then some (f i.toNatClampNeg) else none
  | _ => none
def aJ (M : hM) (kd : Nat) (r : Option Nat) (i : Int32) : Option Int64 := (hA M kd r).bind fun p => match p.2.2 with
  | .inr (.inl f) => if 0 ≤ i.toInt ∧ i.toInt < (p.2.1 : Int) then some (f i.toNatClampNeg) else none
  | _ => none
def aR (M : hM) (kd : Nat) (r : Option Nat) (i : Int32) : Option (Option Nat) := (hA M kd r).bind fun p => match p.2.2 with
  | .inr (.inr (.inr (.inr f))) => if 0 ≤ i.toInt ∧ i.toInt < (p.2.1 : Int) then some (f i.toNatClampNeg) else none
  | _ => none
def sI (M : hM) (kd : Nat) (r : Option Nat) (i x : Int32) : Option hM := (hA M kd r).bind fun p => match p.2.2 with
  | .inl f => if 0 ≤ i.toInt ∧ i.toInt < (p.2.1 : Int) then some (hst M p.1 (.inl (kd, p.2.1, .inl (upd f i.toNatClampNeg x)))) else none
  | _ => none
def sZ (M : hM) (kd : Nat) (r : Option Nat) (i x : Int32) : Option hM := if x = 0 ∨ x = 1 then sI M kd r i x else none
def sJ (M : hM) (kd : Nat) (r : Option Nat) (i : Int32) (x : Int64) : Option hM := (hA M kd r).bind fun p => match p.2.2 with
  | .inr (.inl f) => if 0 ≤ i.toInt ∧ i.toInt < (p.2.1 : Int) then some (hst M p.1 (.inl (kd, p.2.1, .inr (.inl (vp_updL f i.toNatClampNeg x))))) else none
  | _ => none
/-- an object of class c into an array of references -/
def sR (M : hM) (kd : Nat) (r : Option Nat) (i : Int32) (c : Nat) (v : Option Nat) : Option hM := (hA M kd r).bind fun p => match p.2.2 with
  | .inr (.inr (.inr (.inr f))) => if 0 ≤ i.toInt ∧ i.toInt < (p.2.1 : Int) then (hC M c v).map fun b => hst M p.1 (.inl (kd, p.2.1, .inr (.inr (.inr (.inr (va_up f i.toNatClampNeg (some b))))))) else none
  | _ => none
theorem hO_inv {M : hM} {c : Nat} {r : Option Nat} {p : Nat × List Value} (h : hO M c r = some p) : r = some p.1 ∧ M p.1 = some (.inr (c, p.2)) := by
  cases r with
  | none => exact absurd h (by simp [hO])
  | some a =>
    simp only [hO, Option.bind_some] at h
    split at h
    · rename_i o ho
      split at h
      · rename_i hc
        cases h
        subst hc
        exact ⟨rfl, ho⟩
      · cases h
    · cases h
theorem hC_inv {M : hM} {c : Nat} {r : Option Nat} {a : Nat} (h : hC M c r = some a) : r = some a ∧ ∃ fs, M a = some (.inr (c, fs)) := by
  obtain ⟨p, hp, rfl⟩ := Option.map_eq_some_iff.mp h
  obtain ⟨h1, h2⟩ := hO_inv hp
  exact ⟨h1, p.2, h2⟩
theorem hvI_inv {v : Value} {x : Int32} (h : hvI v = some x) : v = .int x := by
  cases v <;> simp [hvI] at h
  subst h
  rfl
theorem hvR_inv {v : Value} {x : Option Nat} (h : hvR v = some x) : v = va_rf x := by
  cases v <;> simp [hvR] at h
  · subst h; rfl
  · subst h; rfl
theorem gI_inv {M : hM} {c k : Nat} {r : Option Nat} {x : Int32} (h : gI M c k r = some x) : ∃ a fs, r = some a ∧ M a = some (.inr (c, fs)) ∧ fs[k]? = some (.int x) := by
  obtain ⟨p, hp, h⟩ := Option.bind_eq_some_iff.mp h
  obtain ⟨v, hv, h⟩ := Option.bind_eq_some_iff.mp h
  obtain ⟨h1, h2⟩ := hO_inv hp
  rw [hvI_inv h] at hv
  exact ⟨p.1, p.2, h1, h2, hv⟩
theorem gR_inv {M : hM} {c k : Nat} {r : Option Nat} {x : Option Nat} (h : gR M c k r = some x) : ∃ a fs, r = some a ∧ M a = some (.inr (c, fs)) ∧ fs[k]? = some (va_rf x) := by
  obtain ⟨p, hp, h⟩ := Option.bind_eq_some_iff.mp h
  obtain ⟨v, hv, h⟩ := Option.bind_eq_some_iff.mp h
  obtain ⟨h1, h2⟩ := hO_inv hp
  rw [hvR_inv h] at hv
  exact ⟨p.1, p.2, h1, h2, hv⟩
theorem pV_inv {M M' : hM} {c k : Nat} {r : Option Nat} {v : Value} (h : pV M c k r v = some M') : ∃ a fs, r = some a ∧ M a = some (.inr (c, fs)) ∧ k < fs.length ∧ M' = hst M a (.inr (c, fs.set k v)) := by
  obtain ⟨p, hp, h⟩ := Option.bind_eq_some_iff.mp h
  obtain ⟨h1, h2⟩ := hO_inv hp
  split at h
  · rename_i hk
    cases h
    exact ⟨p.1, p.2, h1, h2, hk, rfl⟩
  · cases h
theorem pZ_inv {M M' : hM} {c k : Nat} {r : Option Nat} {x : Int32} (h : pZ M c k r x = some M') : (x = 0 ∨ x = 1) ∧ pV M c k r (.int x) = some M' := by
  unfold pZ at h
  split at h
  · rename_i hx
    exact ⟨hx, h⟩
  · cases h
theorem hA_inv {M : hM} {kd : Nat} {r : Option Nat} {p : Nat × vp_A} (h : hA M kd r = some p) : r = some p.1 ∧ M p.1 = some (.inl (kd, p.2)) := by
  cases r with
  | none => exact absurd h (by simp [hA])
  | some a =>
    simp only [hA, Option.bind_some] at h
    split at h
    · rename_i o ho
      split at h
      · rename_i hc
        cases h
        subst hc
        exact ⟨rfl, ho⟩
      · cases h
    · cases h
theorem aL_inv {M : hM} {kd : Nat} {r : Option Nat} {x : Int32} (h : aL M kd r = some x) : ∃ a v, r = some a ∧ M a = some (.inl (kd, v)) ∧ x = Int32.ofNat v.1 := by
  obtain ⟨p, hp, rfl⟩ := Option.map_eq_some_iff.mp h
  obtain ⟨h1, h2⟩ := hA_inv hp
  exact ⟨p.1, p.2, h1, h2, rfl⟩
theorem h_in {i : Int32} {n : Nat} (h : 0 ≤ i.toInt ∧ i.toInt < (n : Int)) : vp_in i n := vp_in_iff.mpr h
theorem aI_inv {M : hM} {kd : Nat} {r : Option Nat} {i x : Int32} (h : aI M kd r i = some x) : ∃ a n f, r = some a ∧ M a = some (.inl (kd, n, .inl f)) ∧ vp_in i n ∧ x = f i.toNatClampNeg := by
  obtain ⟨⟨a, n, d⟩, hp, h⟩ := Option.bind_eq_some_iff.mp h
  obtain ⟨h1, h2⟩ := hA_inv hp
  rcases d with f | d
  · simp only at h
    split at h
    · rename_i hi
      cases h
      exact ⟨a, n, f, h1, h2, h_in hi, rfl⟩
    · cases h
  · cases h
theorem aJ_inv {M : hM} {kd : Nat} {r : Option Nat} {i : Int32} {x : Int64} (h : aJ M kd r i = some x) : ∃ a n f, r = some a ∧ M a = some (.inl (kd, n, .inr (.inl f))) ∧ vp_in i n ∧ x = f i.toNatClampNeg := by
  obtain ⟨⟨a, n, d⟩, hp, h⟩ := Option.bind_eq_some_iff.mp h
  obtain ⟨h1, h2⟩ := hA_inv hp
  rcases d with f | f | d
  · cases h
  · simp only at h
    split at h
    · rename_i hi
      cases h
      exact ⟨a, n, f, h1, h2, h_in hi, rfl⟩
    · cases h
  · cases h
theorem aR_inv {M : hM} {kd : Nat} {r : Option Nat} {i : Int32} {x : Option Nat} (h : aR M kd r i = some x) : ∃ a n f, r = some a ∧ M a = some (.inl (kd, n, .inr (.inr (.inr (.inr f))))) ∧ vp_in i n ∧ x = f i.toNatClampNeg := by
  obtain ⟨⟨a, n, d⟩, hp, h⟩ := Option.bind_eq_some_iff.mp h
  obtain ⟨h1, h2⟩ := hA_inv hp
  rcases d with f | f | f | f | f
  · cases h
  · cases h
  · cases h
  · cases h
  · simp only at h
    split at h
    · rename_i hi
      cases h
      exact ⟨a, n, f, h1, h2, h_in hi, rfl⟩
    · cases h
theorem sI_inv {M M' : hM} {kd : Nat} {r : Option Nat} {i x : Int32} (h : sI M kd r i x = some M') : ∃ a n f, r = some a ∧ M a = some (.inl (kd, n, .inl f)) ∧ vp_in i n ∧ M' = hst M a (.inl (kd, n, .inl (upd f i.toNatClampNeg x))) := by
  obtain ⟨⟨a, n, d⟩, hp, h⟩ := Option.bind_eq_some_iff.mp h
  obtain ⟨h1, h2⟩ := hA_inv hp
  rcases d with f | d
  · simp only at h
    split at h
    · rename_i hi
      cases h
      exact ⟨a, n, f, h1, h2, h_in hi, rfl⟩
    · cases h
  · cases h
theorem sZ_inv {M M' : hM} {kd : Nat} {r : Option Nat} {i x : Int32} (h : sZ M kd r i x = some M') : (x = 0 ∨ x = 1) ∧ sI M kd r i x = some M' := by
  unfold sZ at h
  split at h
  · rename_i hx
    exact ⟨hx, h⟩
  · cases h
theorem sJ_inv {M M' : hM} {kd : Nat} {r : Option Nat} {i : Int32} {x : Int64} (h : sJ M kd r i x = some M') : ∃ a n f, r = some a ∧ M a = some (.inl (kd, n, .inr (.inl f))) ∧ vp_in i n ∧ M' = hst M a (.inl (kd, n, .inr (.inl (vp_updL f i.toNatClampNeg x)))) := by
  obtain ⟨⟨a, n, d⟩, hp, h⟩ := Option.bind_eq_some_iff.mp h
  obtain ⟨h1, h2⟩ := hA_inv hp
  rcases d with f | f | d
  · cases h
  · simp only at h
    split at h
    · rename_i hi
      cases h
      exact ⟨a, n, f, h1, h2, h_in hi, rfl⟩
    · cases h
  · cases h
theorem sR_inv {M M' : hM} {kd c : Nat} {r v : Option Nat} {i : Int32} (h : sR M kd r i c v = some M') : ∃ a n f b fs, r = some a ∧ M a = some (.inl (kd, n, .inr (.inr (.inr (.inr f))))) ∧ vp_in i n ∧ v = some b ∧ M b = some (.inr (c, fs)) ∧ M' = hst M a (.inl (kd, n, .inr (.inr (.inr (.inr (va_up f i.toNatClampNeg (some b))))))) := by
  obtain ⟨⟨a, n, d⟩, hp, h⟩ := Option.bind_eq_some_iff.mp h
  obtain ⟨h1, h2⟩ := hA_inv hp
  rcases d with f | f | f | f | f
  · cases h
  · cases h
  · cases h
  · cases h
  · simp only at h
    split at h
    · rename_i hi
      obtain ⟨b, hb, rfl⟩ := Option.map_eq_some_iff.mp h
      obtain ⟨h3, fs, h4⟩ := hC_inv hb
      exact ⟨a, n, f, b, fs, h1, h2, h_in hi, h3, h4, rfl⟩
    · cases h
theorem hP.one {G : hG} {M : hM} {H : Heap} (h : hP G M H) {a : Nat} {x : hE} (hm : M a = some x) : va_P G.1 vwCl [(a, hcv G.2 x)] H := by
  intro k q hk
  have hz : k < 1 := (List.getElem?_eq_some_iff.mp hk).1
  rw [show k = 0 by omega] at hk
  cases hk
  exact h a x hm
theorem hP.lt {G : hG} {M : hM} {H : Heap} (h : hP G M H) {a : Nat} {x : hE} (hm : M a = some x) : a < H.size := (h a x hm).lt
theorem hP.set {G : hG} {M : hM} {H H1 : Heap} (h : hP G M H) {a : Nat} {x : hE} (hx : va_at G.1 vwCl (a, hcv G.2 x) H1) (oq : ∀ q : Nat, q ≠ a → H1[q]? = H[q]?) : hP G (hst M a x) H1 := by
  intro q y hy
  by_cases hq : q = a
  · subst hq
    rw [hst_s] at hy
    cases hy
    exact hx
  · rw [hst_n _ _ hq] at hy
    exact (h q y hy).kept (oq q hq)
theorem hP.new {G : hG} {M : hM} {H H1 : Heap} (h : hP G M H) {x : hE} (hx : va_at G.1 vwCl (H.size, hcv G.2 x) H1) (oq : ∀ q : Nat, q < H.size → H1[q]? = H[q]?) : hP G (hst M H.size x) H1 := by
  intro q y hy
  by_cases hq : q = H.size
  · subst hq
    rw [hst_s] at hy
    cases hy
    exact hx
  · rw [hst_n _ _ hq] at hy
    exact (h q y hy).kept (oq q (h.lt hy))
theorem hP.fresh {G : hG} {M : hM} {H : Heap} (h : hP G M H) : M H.size = none := by
  cases hm : M H.size with
  | none => rfl
  | some x => exact absurd (h.lt hm) (Nat.lt_irrefl _)
theorem hP.kept {G : hG} {M : hM} {H H1 : Heap} (h : hP G M H) (hq : ∀ (a : Nat) (x : hE), M a = some x → H1[a]? = H[a]?) : hP G M H1 := fun a x hm => (h a x hm).kept (hq a x hm)
/-! ===== locals as a list by their places, all of one slot ===== -/
def lw_as : Nat → List (Option Value) → List (Nat × Value)
  | _, [] => []
  | i, none :: t => lw_as (i + 1) t
  | i, some v :: t => (i, v) :: lw_as (i + 1) t
theorem lw_as_mem : ∀ (l : List (Option Value)) (i : Nat) (q : Nat × Value), q ∈ lw_as i l ↔ i ≤ q.1 ∧ l[q.1 - i]? = some (some q.2)
  | [], i, q => by simp [lw_as]
  | none :: t, i, q => by
    rw [lw_as, lw_as_mem t (i + 1) q]
    constructor
    · rintro ⟨h1, h2⟩
      refine ⟨by omega, ?_⟩
      rw [show q.1 - i = (q.1 - (i + 1)) + 1 by omega, List.getElem?_cons_succ]
      exact h2
    · rintro ⟨h1, h2⟩
      by_cases e : q.1 = i
      · rw [e, Nat.sub_self, List.getElem?_cons_zero] at h2
        cases h2
      · refine ⟨by omega, ?_⟩
        rw [show q.1 - i = (q.1 - (i + 1)) + 1 by omega, List.getElem?_cons_succ] at h2
        exact h2
  | some v :: t, i, q => by
    rw [lw_as, List.mem_cons, lw_as_mem t (i + 1) q]
    constructor
    · rintro (rfl | ⟨h1, h2⟩)
      · refine ⟨Nat.le_refl _, ?_⟩
        simp
      · refine ⟨by omega, ?_⟩
        rw [show q.1 - i = (q.1 - (i + 1)) + 1 by omega, List.getElem?_cons_succ]
        exact h2
    · rintro ⟨h1, h2⟩
      by_cases e : q.1 = i
      · left
        rw [e, Nat.sub_self, List.getElem?_cons_zero] at h2
        cases h2
        cases q
        cases e
        rfl
      · right
        refine ⟨by omega, ?_⟩
        rw [show q.1 - i = (q.1 - (i + 1)) + 1 by omega, List.getElem?_cons_succ] at h2
        exact h2
def lw_has (ls : Array Slot) (nL : Nat) (l : List (Option Value)) : Prop := lv_has ls nL (lw_as 0 l) ∧ l.length = nL ∧ ∀ (i : Nat) (v : Value), l[i]? = some (some v) → v.category = 1
theorem lw_at {ls : Array Slot} {nL : Nat} {l : List (Option Value)} (h : lw_has ls nL l) {i : Nat} {v : Value} (hi : l[i]? = some (some v)) : ls[i]? = some (.val v) := by
  have hm : (i, v) ∈ lw_as 0 l := (lw_as_mem l 0 (i, v)).mpr ⟨Nat.zero_le _, hi⟩
  exact h.1.2.2 _ hm
theorem lw_sub {ls : Array Slot} {nL : Nat} {l l' : List (Option Value)} (h : lw_has ls nL l) (hn : l'.length = l.length) (hs : ∀ (i : Nat) (v : Value), l'[i]? = some (some v) → l[i]? = some (some v)) : lw_has ls nL l' := by
  refine ⟨⟨h.1.1, h.1.2.1, fun q hq => ?_⟩, hn.trans h.2.1, fun i v hi => h.2.2 i v (hs i v hi)⟩
  obtain ⟨-, h2⟩ := (lw_as_mem l' 0 q).mp hq
  exact lw_at h (hs _ _ h2)
theorem lw_set {ls ls' : Array Slot} {nL i : Nat} {l : List (Option Value)} {v : Value} (h : lw_has ls nL l) (hi : i < l.length) (hc : v.category = 1)
    (h' : lv_has ls' nL ((i, v) :: (lw_as 0 l).filter (fun q => !(q.1 == i) && !(q.1 + 1 == i && q.2.category == 2)))) : lw_has ls' nL (l.set i (some v)) := by
  have key : ∀ (j : Nat) (w : Value), (l.set i (some v))[j]? = some (some w) → (j = i ∧ w = v) ∨ (j ≠ i ∧ l[j]? = some (some w)) := by
    intro j w hj
    by_cases e : j = i
    · subst e
      rw [List.getElem?_set_self hi] at hj
      cases hj
      exact Or.inl ⟨rfl, rfl⟩
    · rw [List.getElem?_set_ne (Ne.symm e)] at hj
      exact Or.inr ⟨e, hj⟩
  refine ⟨⟨h'.1, h'.2.1, fun q hq => ?_⟩, by rw [List.length_set]; exact h.2.1, fun j w hj => ?_⟩
  · obtain ⟨-, h2⟩ := (lw_as_mem _ 0 q).mp hq
    refine h'.2.2 q ?_
    rcases key _ _ h2 with ⟨e1, e2⟩ | ⟨e1, e2⟩
    · cases q
      simp only [Nat.sub_zero] at e1 e2
      subst e1; subst e2
      exact List.mem_cons_self
    · refine List.mem_cons_of_mem _ (List.mem_filter.mpr ⟨(lw_as_mem l 0 q).mpr ⟨Nat.zero_le _, e2⟩, ?_⟩)
      have hcat := h.2.2 _ _ e2
      have e3 : (q.1 == i) = false := by
        rw [beq_eq_false_iff_ne]
        exact e1
      simp [e3, hcat]
  · rcases key _ _ hj with ⟨-, rfl⟩ | ⟨-, e2⟩
    · exact hc
    · exact h.2.2 _ _ e2
theorem lw_args : ∀ (vs : List Value) (i : Nat), (∀ v ∈ vs, v.category = 1) → lv_args i vs = lw_as i (vs.map some)
  | [], _, _ => rfl
  | v :: vs, i, h => by
    have hv : v.category = 1 := h v List.mem_cons_self
    rw [lv_args, if_neg (by rw [hv]; decide), List.map_cons, lw_as, lw_args vs (i + 1) (fun w hw => h w (List.mem_cons_of_mem _ hw))]
theorem lw_as_none : ∀ (l : List (Option Value)) (i n : Nat), lw_as i (l ++ List.replicate n none) = lw_as i l
  | [], i, 0 => rfl
  | [], i, n + 1 => by
    rw [List.nil_append, List.replicate_succ, lw_as]
    exact lw_as_none [] (i + 1) n
  | none :: t, i, n => by
    rw [List.cons_append, lw_as, lw_as]
    exact lw_as_none t (i + 1) n
  | some v :: t, i, n => by
    rw [List.cons_append, lw_as, lw_as, lw_as_none t (i + 1) n]
theorem lg_sl_len : ∀ (vs : List Value), (∀ v ∈ vs, v.category = 1) → (lg_sl vs).length = vs.length
  | [], _ => rfl
  | v :: vs, h => by
    have hv : v.category = 1 := h v List.mem_cons_self
    have e : lg_sl (v :: vs) = Slot.val v :: lg_sl vs := by simp [lg_sl, hv]
    rw [e, List.length_cons, List.length_cons, lg_sl_len vs (fun w hw => h w (List.mem_cons_of_mem _ hw))]
theorem lw_entry (vs : List Value) {n : Nat} (hc : ∀ v ∈ vs, v.category = 1) (hn : vs.length ≤ n) : lw_has ((lg_sl vs ++ List.replicate (n - (lg_sl vs).length) Slot.unset).toArray) n (vs.map some ++ List.replicate (n - vs.length) none) := by
  have h := lv_entry vs (n := n) (by rw [lg_sl_len vs hc]; exact hn)
  refine ⟨?_, by simp; omega, fun i v hi => ?_⟩
  · rw [lw_as_none, ← lw_args vs 0 hc]
    exact h
  · have hm : (i, v) ∈ lw_as 0 (vs.map some ++ List.replicate (n - vs.length) none) := (lw_as_mem _ 0 (i, v)).mpr ⟨Nat.zero_le _, hi⟩
    rw [lw_as_none] at hm
    obtain ⟨-, h2⟩ := (lw_as_mem _ 0 (i, v)).mp hm
    have h3 := List.mem_of_getElem? h2
    obtain ⟨w, hw, e⟩ := List.mem_map.mp h3
    cases e
    exact hc _ hw
theorem rf_cat (r : Option Nat) : (va_rf r).category = 1 := by cases r <;> rfl
end
