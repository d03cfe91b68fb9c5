/-! ===== the judgement over a map: from every heap that the map tells, the machine at this place comes to Q ===== -/
abbrev hKx : Type _ := Program × Launch × Env × Room × State × MethodId × Array Value × List Frame × Method × Code × (State → Prop) × hG × (hM → Heap → List Loc → Prop) × Nat
abbrev kp (κ : hKx) : Program := κ.1
abbrev kl (κ : hKx) : Launch := κ.2.1
abbrev ke (κ : hKx) : Env := κ.2.2.1
abbrev kR (κ : hKx) : Room := κ.2.2.2.1
abbrev ks (κ : hKx) : State := κ.2.2.2.2.1
abbrev km (κ : hKx) : MethodId := κ.2.2.2.2.2.1
abbrev ka (κ : hKx) : Array Value := κ.2.2.2.2.2.2.1
abbrev kb (κ : hKx) : List Frame := κ.2.2.2.2.2.2.2.1
abbrev kM (κ : hKx) : Method := κ.2.2.2.2.2.2.2.2.1
abbrev kc (κ : hKx) : Code := κ.2.2.2.2.2.2.2.2.2.1
abbrev kQ (κ : hKx) : State → Prop := κ.2.2.2.2.2.2.2.2.2.2.1
abbrev kG (κ : hKx) : hG := κ.2.2.2.2.2.2.2.2.2.2.2.1
abbrev kZ (κ : hKx) : hM → Heap → List Loc → Prop := κ.2.2.2.2.2.2.2.2.2.2.2.2.1
abbrev kn (κ : hKx) : Nat := κ.2.2.2.2.2.2.2.2.2.2.2.2.2
abbrev kW (κ : hKx) (H : Heap) (locs : List Loc) (cells slots : Nat) (g : JFrame) : Prop := W (kp κ) (kl κ) (ke κ) (kR κ) (ks κ) (km κ) (ka κ) (kb κ) (kM κ) (kc κ) H locs cells slots (kQ κ) g
def VW (κ : hKx) (cells slots : Nat) (M : hM) (pc : Nat) (lv : List (Option Value)) (st : List Value) : Prop :=
  ∀ (H : Heap) (locs : List Loc) (ls : Array Slot), hP (kG κ) M H → kZ κ M H locs → lw_has ls (kn κ) lv → kW κ H locs cells slots (F0 (km κ) pc ls st)
/-- the same with an exception of class E thrown over the frame -/
def VX (κ : hKx) (cells slots : Nat) (M : hM) (pc : Nat) (lv : List (Option Value)) (st : List Value) (E : String) : Prop :=
  ∀ (H : Heap) (locs : List Loc) (ls : Array Slot) (q : Addr) (ce : Cell), hP (kG κ) M H → kZ κ M H locs → lw_has ls (kn κ) lv → H[q]? = some ce → ce.vm = .none → (ks κ).vm.findClass E = some ce.cls →
    vx_W (kp κ) (kl κ) (ke κ) (kR κ) (ks κ) (km κ) (ka κ) (kb κ) (kM κ) (kc κ) H locs cells slots (kQ κ) (F0 (km κ) pc ls st) q
/-- words that no table list carries: they stay true while the machine warms -/
def hNest : List (String × Nat × MethodName × String) := [(RX3, 22, yX4_hasBit, RX4), (RX0, 29, yX4_hasBit, RX4), (RX2, 37, yX4_hasBit, RX4)]
def hCast : List (String × String) := [("java/lang/IllegalArgumentException", "java/lang/IllegalArgumentException"), ("java/lang/IllegalStateException", "java/lang/IllegalStateException"), ("java/lang/IndexOutOfBoundsException", "java/lang/IndexOutOfBoundsException")]
def hDecl : List MethodName := [⟨"java/lang/Throwable", "<init>", "(Ljava/lang/String;)V"⟩, ⟨"java/lang/Exception", "<init>", "(Ljava/lang/String;)V"⟩, ⟨"java/lang/RuntimeException", "<init>", "(Ljava/lang/String;)V"⟩, ⟨"java/lang/Throwable", "fillInStackTrace", "()Ljava/lang/Throwable;"⟩]
def hOver : List String := [RX3, RX1, RX2, RX0]
def hNot : List (String × String) := [("java/lang/IllegalStateException", "java/lang/IllegalArgumentException"), ("java/lang/IllegalArgumentException", "java/lang/IllegalStateException"), ("java/lang/IndexOutOfBoundsException", "java/lang/IllegalArgumentException"), ("java/lang/IndexOutOfBoundsException", "java/lang/IllegalStateException"), ("java/lang/IllegalArgumentException", "java/lang/IndexOutOfBoundsException"), ("java/lang/IllegalStateException", "java/lang/IndexOutOfBoundsException")]
def hStr : List (Nat × String) := [(33, "elements, gravity or limit is out of range"), (44, "no more offences can be told"), (56, "no such offence"), (59, "an offence does not exclude itself"), (68, "days is out of range"), (73, "the last day would be passed"), (82, "event, accused or points is out of range"), (87, "no more files can be opened"), (112, "no such file or element"), (117, "weight, against or how is out of range"), (122, "no more items can come"), (131, "no such item"), (139, "the item is not unwarranted, or was admitted"), (141, "no such item or person"), (149, "the item is not against that one, or was shown to that one"), (168, "the item is not sensitive, or is withheld"), (188, "that one is not open, or the set is not right today"), (199, "that one is not open"), (213, "that one is not dropped, or for too long, or it was reviewed"), (218, "that one is not charged, or lacks something"), (239, "that one is not charged, or not with such a set"), (241, "less than the half is pleaded"), (256, "that one is dropped, or in custody, or no day is left"), (258, "rank is out of range"), (263, "that one is not open, or the rank extended it"), (268, "that one is not in custody"), (274, "no such element"), (311, "what is out of range"), (329, "no such file or accused"), (331, "day is out of range"), (333, "offences has others than are there")]
def hS (U : State) : Prop := (∀ q ∈ hNest, va_Nw (.methodLinkNest q.1 q.2.1 q.2.2.1 q.2.2.2) U) ∧ (∀ q ∈ hCast, va_Nw (.castable q.1 q.2) U) ∧ (∀ x ∈ hDecl, va_Nw (.declares x) U) ∧ (∀ C ∈ hOver, va_AO C U) ∧ (∀ q ∈ hNot, va_Nc q.1 q.2 U) ∧ ∀ q ∈ hStr, ∃ a, vk_R RX4 q.1 q.2 a U
theorem hS.warm {s U : State} (hW : s.WarmedH U.vm) (h : hS s) : hS U :=
  ⟨fun q hq => va_Nw.warmM hW (h.1 q hq), fun q hq => va_Nw.warmC hW (h.2.1 q hq), fun x hx => va_Nw.warmD hW (h.2.2.1 x hx), fun C hC => va_AO.moved hW.alike (h.2.2.2.1 C hC), fun q hq => va_Nc.moved hW.alike (h.2.2.2.2.1 q hq), fun q hq => by
    obtain ⟨a, ha⟩ := h.2.2.2.2.2 q hq
    exact ⟨a, vk_R.warm hW ha⟩⟩
theorem hK.moved {G : hG} {u U : State} (hvm : u.vm.Alike U.vm) (h : hK G u) : hK G U := va_K.moved hvm h
/-- the two statics of Throwable that a throw reads -/
def hT (A : Nat → Prop) (U : State) : Prop := vx_Zq Bundle.tN "UNASSIGNED_STACK" Bundle.steD A U U.heap ∧ vx_Zq Bundle.tN "SUPPRESSED_SENTINEL" Bundle.listD A U U.heap
/-- what every walk of a body has -/
def Cx (κ : hKx) (own : String) (cc : ByteArray) (ws : List Cond) : Prop :=
  (kp κ).tables.exec = Jvm.exec ∧ (kc κ).code = cc ∧ (kc κ).maxLocals = kn κ ∧ (ks κ).vm.findClass own = some (km κ).cls ∧ (∀ w ∈ ws, w.before (ka κ) (ks κ) = true) ∧ hK (kG κ) (ks κ) ∧ hS (ks κ) ∧ (kM κ).locks = false
/-- .. where nothing is written -/
def hZp (s : State) : hM → Heap → List Loc → Prop := fun _ H locs => H = s.heap ∧ locs = []
def hQp (v : Option Value) : Array Value → State → Outcome → State → Prop := fun _ st oc t => oc = .returned v ∧ t.heap = st.heap
def Cp (κ : hKx) (own : String) (cc : ByteArray) (ws : List Cond) (rt : Option FieldType) (v : Option Value) : Prop :=
  Cx κ own cc ws ∧ kZ κ = hZp (ks κ) ∧ (kM κ).sig.returnType = rt ∧ kQ κ = MQ (kb κ) (hQp v) (ka κ) (ks κ) 0 0 (fun _ => False)
/-- .. where the cells of A may be written, and new ones come -/
def hZe (A : Nat → Prop) (s : State) : hM → Heap → List Loc → Prop := fun M H locs => (∀ (a : Nat) (x : hE), M a = some x → A a) ∧ va_S A s.heap H locs
def hAA (M : hM) (sz : Nat) : Nat → Prop := fun q => M q ≠ none ∨ sz ≤ q
def hEQ (G : hG) (M : hM) (sz : Nat) (Qf : hM → Option Value → Prop) : Array Value → State → Outcome → State → Prop := fun _ st oc t =>
  (∃ (v : Option Value) (M1 : hM), oc = .returned v ∧ Qf M1 v ∧ hP G M1 t.heap ∧ ∀ (a : Nat) (x : hE), M1 a = some x → hAA M sz a) ∧ va_F (hAA M sz) st t
def hEX (G : hG) (M : hM) (sz : Nat) (Xf : String → hM → Prop) : String → State → State → Prop := fun E st t =>
  (∃ M1 : hM, Xf E M1 ∧ hP G M1 t.heap ∧ ∀ (a : Nat) (x : hE), M1 a = some x → hAA M sz a) ∧ va_F (hAA M sz) st t
def Cw (κ : hKx) (own : String) (cc : ByteArray) (ws : List Cond) (M0 : hM) (sz : Nat) : Prop :=
  Cx κ own cc ws ∧ kZ κ = hZe (hAA M0 sz) (ks κ) ∧ (ks κ).heap.size = sz ∧ (kl κ).stackTraces = false ∧ hT (hAA M0 sz) (ks κ)
def Ce (κ : hKx) (own : String) (cc : ByteArray) (ws : List Cond) (rt : Option FieldType) (M0 : hM) (sz : Nat) (Qf : hM → Option Value → Prop) (Xf : String → hM → Prop) (mc ms : Nat) : Prop :=
  Cw κ own cc ws M0 sz ∧ (kM κ).sig.returnType = rt ∧
    kQ κ = vx_MQ (kb κ) (hEQ (kG κ) M0 sz Qf) (hEX (kG κ) M0 sz Xf) (ka κ) (ks κ) mc ms (hAA M0 sz)
/-- contracts -/
def hPMet (l : Launch) (y : MethodName) (ws : List Cond) (rm : Room) (av : List Value) (G : hG) (M : hM) (v : Option Value) : Prop :=
  Met l y ws rm (va_Pc av (fun U => hP G M U.heap ∧ hK G U ∧ hS U)) (hQp v) 0 0 (fun _ => False)
def hEMet (l : Launch) (y : MethodName) (ws : List Cond) (rm : Room) (av : List Value) (G : hG) (M : hM) (Qf : hM → Option Value → Prop) (Xf : String → hM → Prop) (mc ms : Nat) : Prop :=
  ∀ sz : Nat, vx_Met l y ws rm (va_Pc av (fun U => U.heap.size = sz ∧ hP G M U.heap ∧ hK G U ∧ hS U ∧ hT (hAA M sz) U)) (hEQ G M sz Qf) (hEX G M sz Xf) mc ms (hAA M sz)
def hQi (Q : hM → Int32 → Prop) : hM → Option Value → Prop := fun M v => ∃ x : Int32, v = some (.int x) ∧ Q M x
def hQr (Q : hM → Option Nat → Prop) : hM → Option Value → Prop := fun M v => ∃ r : Option Nat, v = some (va_rf r) ∧ Q M r
def hQv (Q : hM → Prop) : hM → Option Value → Prop := fun M v => v = none ∧ Q M
theorem hS.call {U : State} (h : hS U) (g : JFrame) (mk : MethodId) (a : Array Value) : hS (U.calling g mk a) := h.warm (State.WarmedH.refl U)
/-! entries -/
theorem hp_entry {l : Launch} {y : MethodName} {own : String} {ws ws' : List Cond} {rm : Room} {av : List Value} {G : hG} {M : hM} {v : Option Value} {cc : ByteArray} {maxL : Nat} {ret : Option FieldType} {lv : List (Option Value)}
    (hy : plainName y.cls = true) (hyo : y.cls = own) (hw : ws = Cond.code y cc maxL ret :: ws') (hcat : ∀ w ∈ av, w.category = 1) (hlen : av.length ≤ maxL) (hlv : av.map some ++ List.replicate (maxL - av.length) none = lv)
    (body : ∀ κ : hKx, kG κ = G → kl κ = l → kR κ = rm → Cp κ own cc ws ret v → VW κ 0 0 M 0 lv []) : hPMet l y ws rm av G M v := by
  refine Met.ofW (cc := cc) (maxL := maxL) (ret := ret) hy hw ?_
  intro p e s m args below meth c s₁ B hml hv
  obtain ⟨rfl, hPm, hKs, hSs⟩ := hv
  have hown : s.vm.findClass own = some m.cls := by rw [← hyo]; exact findClass_of_methodNamed B.named
  have hl := lw_entry av hcat hlen
  rw [hlv] at hl
  rw [lg_entry_eq]
  exact body (p, l, e, rm, s, m, av.toArray, below, meth, c, MQ below (hQp v) av.toArray s 0 0 (fun _ => False), G, hZp s, maxL) rfl rfl rfl
    ⟨⟨B.exec, B.bytes, hml, hown, atoms_spec (ws := ws) B.pre, hKs, hSs, B.notSynchronized⟩, rfl, B.returns, rfl⟩ s.heap [] _ hPm ⟨rfl, rfl⟩ hl
theorem he_entry {l : Launch} {y : MethodName} {own : String} {ws ws' : List Cond} {rm : Room} {av : List Value} {G : hG} {M : hM} {Qf : hM → Option Value → Prop} {Xf : String → hM → Prop} {mc ms : Nat} {cc : ByteArray} {maxL : Nat} {ret : Option FieldType} {lv : List (Option Value)} (hfl : l.stackTraces = false)
    (hy : plainName y.cls = true) (hyo : y.cls = own) (hw : ws = Cond.code y cc maxL ret :: ws') (hcat : ∀ w ∈ av, w.category = 1) (hlen : av.length ≤ maxL) (hlv : av.map some ++ List.replicate (maxL - av.length) none = lv)
    (body : ∀ (κ : hKx) (sz : Nat), kG κ = G → kl κ = l → kR κ = rm → Ce κ own cc ws ret M sz Qf Xf mc ms → (∀ x ∈ (kc κ).exceptionTable.toList, False) → (y.name = "<init>" → (kM κ).name = "<init>") → VW κ 0 0 M 0 lv []) : hEMet l y ws rm av G M Qf Xf mc ms := by
  intro sz
  refine vx_ofW (cc := cc) (maxL := maxL) (ret := ret) hy hw ?_
  intro p e s m args below meth c s₁ B hml ht hv
  obtain ⟨rfl, hsz, hPm, hKs, hSs, hTs⟩ := hv
  have hown : s.vm.findClass own = some m.cls := by rw [← hyo]; exact findClass_of_methodNamed B.named
  have hl := lw_entry av hcat hlen
  rw [hlv] at hl
  rw [lg_entry_eq]
  have hnm : y.name = "<init>" → meth.name = "<init>" := fun h => by rw [← h]; exact (name_of_methodNamed B.named B.method).1
  exact body (p, l, e, rm, s, m, av.toArray, below, meth, c, vx_MQ below (hEQ G M sz Qf) (hEX G M sz Xf) av.toArray s mc ms (hAA M sz), G, hZe (hAA M sz) s, maxL) sz rfl rfl rfl
    ⟨⟨⟨B.exec, B.bytes, hml, hown, atoms_spec (ws := ws) B.pre, hKs, hSs, B.notSynchronized⟩, rfl, hsz, hfl, hTs⟩, B.returns, rfl⟩ ht hnm s.heap [] _ hPm
    ⟨fun a x hm => Or.inl (by rw [hm]; exact fun h => by cases h), va_S.rf⟩ hl
theorem he_entryH {l : Launch} {y : MethodName} {own : String} {ws ws' : List Cond} {rm : Room} {av : List Value} {G : hG} {M : hM} {Qf : hM → Option Value → Prop} {Xf : String → hM → Prop} {mc ms : Nat} {cc : ByteArray} {maxL : Nat} {ret : Option FieldType} {hh : List (Nat × Nat × Nat × Nat)} {lv : List (Option Value)} (hfl : l.stackTraces = false)
    (hy : plainName y.cls = true) (hyo : y.cls = own) (hw : ws = Cond.codeWith y cc maxL ret hh :: ws') (hcat : ∀ w ∈ av, w.category = 1) (hlen : av.length ≤ maxL) (hlv : av.map some ++ List.replicate (maxL - av.length) none = lv)
    (body : ∀ (κ : hKx) (sz : Nat), kG κ = G → kl κ = l → kR κ = rm → Ce κ own cc ws ret M sz Qf Xf mc ms → (kc κ).exceptionTable.toList = tableOf hh → VW κ 0 0 M 0 lv []) : hEMet l y ws rm av G M Qf Xf mc ms := by
  intro sz
  refine vx_ofWH (cc := cc) (maxL := maxL) (ret := ret) (hh := hh) hy hw ?_
  intro p e s m args below meth c s₁ B hml hv
  obtain ⟨rfl, hsz, hPm, hKs, hSs, hTs⟩ := hv
  have hown : s.vm.findClass own = some m.cls := by rw [← hyo]; exact findClass_of_methodNamed B.named
  have hl := lw_entry av hcat hlen
  rw [hlv] at hl
  rw [lg_entry_eq]
  have hts := atoms_spec (ws := ws) B.pre
  have htab := vx_table (x := y) B (hts (Cond.codeWith y cc maxL ret hh) (by rw [hw]; exact List.mem_cons_self))
  exact body (p, l, e, rm, s, m, av.toArray, below, meth, c, vx_MQ below (hEQ G M sz Qf) (hEX G M sz Xf) av.toArray s mc ms (hAA M sz), G, hZe (hAA M sz) s, maxL) sz rfl rfl rfl
    ⟨⟨⟨B.exec, B.bytes, hml, hown, hts, hKs, hSs, B.notSynchronized⟩, rfl, hsz, hfl, hTs⟩, B.returns, rfl⟩ htab s.heap [] _ hPm
    ⟨fun a x hm => Or.inl (by rw [hm]; exact fun h => by cases h), va_S.rf⟩ hl
