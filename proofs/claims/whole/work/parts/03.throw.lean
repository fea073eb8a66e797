/-! a method that ends by a throw, and its catching in the caller -/
def tQ (E : String) (B : State → Prop) (A : Nat → Prop) (mc ms : Nat) (free : Addr → Prop) (st : State) (o : Outcome) (t : State) : Prop :=
  ∃ (q : Addr) (ce : Cell) (L : List Loc), o = .threw q ∧ t.heap[q]? = some ce ∧ ce.vm = .none ∧ st.vm.findClass E = some ce.cls ∧ B t ∧ va_F A st t ∧ st.WarmedH t.vm ∧ st.sameButNew ({ t with vm := st.vm } : State) L mc ms ∧ ∀ z ∈ L, free z.base
def tMet (l : Launch) (y : MethodName) (ws : List Cond) (rm : Room) (Pc : Array Value → State → Prop) (E : String) (B : State → Prop) (A : Nat → Prop) (mc ms : Nat) (free : Addr → Prop) : Prop :=
  MetFree l y (headSpec ws rm) Pc (fun _ _ _ _ _ => True) (fun _ st o t => tQ E B A mc ms free st o t)
def tMQ (below : List Frame) (E : String) (B : State → Prop) (A : Nat → Prop) (s : State) (mc ms : Nat) (free : Addr → Prop) : State → Prop := fun t => ∃ o, t.status = .running ∧ Ended t below o ∧ tQ E B A mc ms free s o t
theorem tMet.ofW {l : Launch} {y : MethodName} {ws ws' : List Cond} {rm : Room} {Pc : Array Value → State → Prop} {E : String} {B : State → Prop} {A : Nat → Prop} {mc ms : Nat} {free : Addr → Prop} {cc : ByteArray} {maxL : Nat} {ret : Option FieldType}
    (hy : plainName y.cls = true) (hw : ws = Cond.code y cc maxL ret :: ws')
    (body : ∀ p e s m args below meth c s₁, BodyLoose p l y (headSpec ws rm) cc maxL ret e s m args below meth c s₁ → c.maxLocals = maxL → (∀ (x : ExceptionTableEntry), x ∈ c.exceptionTable.toList → False) → Pc args s →
      W p l e (headSpec ws rm).room s m args below meth c s.heap [] 0 0 (tMQ below E B A s mc ms free) (entryFrame m args maxL)) : tMet l y ws rm Pc E B A mc ms free := by
  refine MetFree.of_bodyS (code := cc) (maxLocals := maxL) (ret := ret) hy ?_ ?_
  · intro args s m h hn
    obtain ⟨meth, c, h1, h2, h3, h4, h5, h6, -, -⟩ := Cond.code_spec hn (atoms_spec (ws := ws) h _ (by rw [hw]; exact List.mem_cons_self))
    exact ⟨meth, c, h1, h2, h3, h4, h5, h6⟩
  · intro p e s m args below meth c s₁ Bd hml hP _
    have hh0 : s₁.heap = s.heap := by rw [Bd.state]; rfl
    have htab : ∀ (x : ExceptionTableEntry), x ∈ c.exceptionTable.toList → False := by
      obtain ⟨meth9, c9, h1, h2, -, -, -, -, h7, -⟩ := Cond.code_spec Bd.named (atoms_spec (ws := ws) Bd.pre _ (by rw [hw]; exact List.mem_cons_self))
      cases Option.some.inj (h1.symm.trans Bd.method)
      cases Option.some.inj (h2.symm.trans (Stand.of_body Bd).code)
      intro x hx
      rw [Array.isEmpty_iff.mp h7] at hx
      cases hx
    obtain ⟨t, a1, o, b1, b2, b3⟩ := body p e s m args below meth c s₁ Bd hml htab hP s₁ hh0 (Stand.of_body Bd)
    exact ⟨t, o, a1, b1, b2, b3⟩
section TT
variable {p : Program} {l : Launch} {e : Env} {R : Room} {s : State} {m : MethodId} {args : Array Value} {below : List Frame} {meth : Method} {c : Code} {H : Heap} {locs : List Loc} {cells slots : Nat}
/-- the same frame counted from here on: what has been laid so far is taken as given -/
theorem restand {T : State} (X : Stand p l e R s m args below meth c T locs cells slots) {R' : Room} (hf : R'.frames ≤ R.frames) (hl : R'.locals ≤ R.locals) (hc : cells + R'.cells ≤ R.cells) (hs : slots + R'.slots ≤ R.slots) :
    Stand p l e R' ((T.setVm s.vm).setFrames (.invoking m args :: below)) m args below meth c T [] 0 0 := by
  have htop : (T.setVm s.vm).topJava?.isSome := X.here.top
  have hF : ((T.setVm s.vm).setFrames (.invoking m args :: below)).frames = .invoking m args :: below := State.frames_setFrames _ (State.cur_lt_of_top htop)
  obtain ⟨g0, hg0⟩ := Option.isSome_iff_exists.mp htop
  obtain ⟨r, hr⟩ := State.topJava?_eq_some.mp hg0
  obtain ⟨t0, ht0, -⟩ := State.frames_cons hr
  have hdrop : T.heap.toList.drop T.heap.size = [] := List.drop_eq_nil_of_le (Nat.le_of_eq Array.length_toList)
  have hlim : e.platform.stackLimits (T.setVm s.vm).me = e.platform.stackLimits s.me := X.limits
  have hbyt : (T.setVm s.vm).me.stackBytes = s.me.stackBytes := X.bytes
  have hroom : ((T.setVm s.vm).setFrames (.invoking m args :: below)).hasRoom e.platform R' = true := by
    have hR := X.room
    have hU : ((T.setVm s.vm).setFrames (.invoking m args :: below)).localsInUse = s.localsInUse := by
      rw [State.localsInUse_invoking hF (meth := meth) (c := c) X.method X.code, State.localsInUse_invoking X.frames X.method X.code]
    simp only [State.hasRoom, Bool.and_eq_true, decide_eq_true_eq] at hR ⊢
    obtain ⟨⟨⟨⟨h1, h2, h3, h4, h5, h6⟩, h7⟩, h8⟩, h9⟩ := hR
    rw [X.frames, List.length_cons] at h2 h3
    have q1 := X.heapSize
    have q2 := X.used
    simp only [hF, hU, List.length_cons, State.stackLimits_setFrames, State.stackBytes_setFrames, hlim, hbyt]
    refine ⟨⟨⟨⟨by omega, by omega, by omega, by omega, by omega, h6⟩, ?_⟩, ?_⟩, X.book⟩
    · exact Nat.le_trans (Nat.add_le_add_right q1 _) (by omega)
    · exact Nat.le_trans (Nat.add_le_add_right q2 _) (by omega)
  have hsame : ((T.setVm s.vm).setFrames (.invoking m args :: below)).sameButNew (T.setVm ((T.setVm s.vm).setFrames (.invoking m args :: below)).vm) [] 0 0 := by
    refine ⟨?_, Nat.le_refl _, Nat.le_refl _, ?_, ?_, fun a c9 h9 => ⟨c9, h9, rfl, rfl, fun _ _ => rfl⟩⟩
    · show T.setVm s.vm = { ((T.setVm s.vm).setFrames (.invoking m args :: below)).setFrames (T.setVm s.vm).frames with heap := T.heap, slotsUsed := T.slotsUsed }
      rw [State.setFrames_setFrames, State.setFrames_self ht0]
      rfl
    · show T.slotsUsed = T.slotsUsed + ((T.heap.toList.drop T.heap.size).map (·.slots.size)).sum
      rw [hdrop]; rfl
    · show ((T.heap.toList.drop T.heap.size).map (·.slots.size)).sum ≤ 0
      rw [hdrop]; exact Nat.le_refl _
  exact ⟨X.admits, X.cas, X.clock, hF, hroom, X.hears, X.method, X.code, X.here, X.tail, X.warmed, by rw [State.stackLimits_setFrames]; rfl, by rw [State.stackBytes_setFrames]; rfl, hsame⟩
/-- 'isRef' of a static that is carried -/
theorem t_isRef {n d : String} {A : Nat → Prop} {U : State} {a : Array Value} (h : va_Zq Bundle.tN n d A U U.heap) : (Cond.isRef (.static Bundle.tN n d)).before a U = true := by
  have go : ∀ v : Value, v.isRef = true → va_Z Bundle.tN n d v A U U.heap → (Cond.isRef (.static Bundle.tN n d)).before a U = true := by
    intro v hv hz
    obtain ⟨cf, kf, fi, f, q, cell, h1, h2, h3, h4, h5, h6, h7, -⟩ := hz
    have he : (Term.static Bundle.tN n d).eval a U none [] U = some v := by
      simp [Term.eval, State.fieldNamed?, h1, h2, h4, h5, h6, h7]
    simp only [Cond.before, Cond.holds, Cond.value, he]
    cases v <;> simp_all [Value.isRef]
  rcases h with h | ⟨t, h⟩
  · exact go _ rfl h
  · exact go _ rfl h
theorem t_laysS {n d : String} {A : Nat → Prop} {U : State} {a : Array Value} (h : lS n d A U U.heap) : (Cond.laysStatic Bundle.tN n d).before a U = true := by
  obtain ⟨c, k, i, f, q, cell, h1, h2, h3, h4, h5, h6, h7, h8, h9, -⟩ := h
  exact Cond.laysStatic_of h1 h2 h3 h4 h5 h6 h7 h8 h9
def t_xs : List Cond := [.isRef (.static Bundle.tN "UNASSIGNED_STACK" Bundle.steD), .isRef (.static Bundle.tN "SUPPRESSED_SENTINEL" Bundle.listD), .laysStatic Bundle.tN "UNASSIGNED_STACK" Bundle.steD, .laysStatic Bundle.tN "SUPPRESSED_SENTINEL" Bundle.listD]
/-- what a throw of cls wants of the tables -/
def t_ok (own : String) (ic : Nat) (cls : String) (names : List String) : Prop := ∀ w ∈ Bundle.ownAtoms own ic cls names, w ∈ t_xs ∨ w ∈ gw ∨ w ∈ nwL
theorem t_atoms {A : Nat → Prop} {U : State} {a : Array Value} {own cls : String} {ic : Nat} {names : List String} (hk : t_ok own ic cls names) (hg : ∀ w ∈ gw, w.before a U = true) (hE : ev A U) : ∀ w ∈ Bundle.ownAtoms own ic cls names, w.before a U = true := by
  intro w hw
  rcases hk w hw with h | h | h
  · simp only [t_xs, List.mem_cons, List.not_mem_nil, or_false] at h
    rcases h with rfl | rfl | rfl | rfl
    · exact t_isRef hE.2.2.2.1.1
    · exact t_isRef hE.2.2.2.2.1.1
    · exact t_laysS hE.2.2.2.1.2
    · exact t_laysS hE.2.2.2.2.1.2
  · exact hg w h
  · exact va_Nw.use (by have := (List.mem_filter.mp h).2; cases w <;> first | rfl | (simp [nwOk] at this)) (hE.1 w h)
/-- the words for an exception X whose constructor hands its text on by the entry ix of its own pool; above it the library's chain from Y on -/
def nAtoms (own : String) (ic : Nat) (X Y : String) (ix : Nat) (bx : ByteArray) (names : List String) : List Cond :=
  Bundle.throwableAtoms ++ Bundle.throwableSAtoms ++ Bundle.passSAtoms X Y ix bx ++ Bundle.chainSAtoms Y names ++
  [.methodLink own ic (Bundle.initS X), .instantiable X 6, .castable X X, .selects X Bundle.tFill0 Bundle.tFill0, .selects X Bundle.tFill Bundle.tFill,
   .lays X Bundle.tN "cause" "Ljava/lang/Throwable;", .lays X Bundle.tN "stackTrace" Bundle.steD, .lays X Bundle.tN "suppressedExceptions" Bundle.listD, .lays X Bundle.tN "detailMessage" "Ljava/lang/String;",
   .isRef (.static Bundle.tN "UNASSIGNED_STACK" Bundle.steD), .isRef (.static Bundle.tN "SUPPRESSED_SENTINEL" Bundle.listD),
   .fieldLink Bundle.tN 198 Bundle.tN "backtrace" "Ljava/lang/Object;", .lays Bundle.tN Bundle.tN "backtrace" "Ljava/lang/Object;", .lays X Bundle.tN "backtrace" "Ljava/lang/Object;"]
def n_ok (own : String) (ic : Nat) (X Y : String) (ix : Nat) (bx : ByteArray) (names : List String) : Prop := ∀ w ∈ nAtoms own ic X Y ix bx names, w ∈ t_xs ∨ w ∈ gw ∨ w ∈ nwL
theorem t_words {A : Nat → Prop} {U : State} {a : Array Value} {L : List Cond} (hk : ∀ w ∈ L, w ∈ t_xs ∨ w ∈ gw ∨ w ∈ nwL) (hg : ∀ w ∈ gw, w.before a U = true) (hE : ev A U) : ∀ w ∈ L, w.before a U = true := by
  intro w hw
  rcases hk w hw with h | h | h
  · simp only [t_xs, List.mem_cons, List.not_mem_nil, or_false] at h
    rcases h with rfl | rfl | rfl | rfl
    · exact t_isRef hE.2.2.2.1.1
    · exact t_isRef hE.2.2.2.2.1.1
    · exact t_laysS hE.2.2.2.1.2
    · exact t_laysS hE.2.2.2.2.1.2
  · exact hg w h
  · exact va_Nw.use (by have := (List.mem_filter.mp h).2; cases w <;> first | rfl | (simp [nwOk] at this)) (hE.1 w h)
/-- the constructor of such an exception, then athrow out of the method -/
theorem n_leave {T0 : State} (X : Stand p l e R s m args below meth c T0 locs cells slots) (hexec : p.tables.exec = Jvm.exec) (htr : e.platform.stackTraces = false) {own cls Y : String} {names : List String} {ic ix : Nat} {bx : ByteArray}
    (b0 : decode bx 0 = .ok (.aload_n 0, 1)) (b1 : decode bx 1 = .ok (.aload_n 1, 1)) (b2 : decode bx 2 = .ok (.invokespecial ix, 3)) (b5 : decode bx 5 = .ok (.return_, 1))
    (hown : s.vm.findClass own = some m.cls) (hcls : Bundle.fit cls = true) (hY : Bundle.fit Y = true) (hnames : ∀ n ∈ names, Bundle.fit n = true)
    (h : ∀ a ∈ nAtoms own ic cls Y ix bx names, a.before args s = true)
    (hlocs : ∀ x ∈ locs, ∀ cell, s.heap[x.base]? = some cell → cell.vm.isStatics = false)
    {a : Addr} {cX : ClassId} {kX : Class} (hfoundX : s.vm.findClass cls = some cX) (hkX : s.vm.classes[cX]? = some kX) (hcell : T0.heap[a]? = some (freshCell cX kX)) (hnew : s.heap.size ≤ a)
    {msg : Value} (hmsg : msg.isRef = true)
    {g : JFrame} (hg : g.method = m) (hsize : g.locals.size = c.maxLocals) (hlocked : g.locked = none) (hentered : g.entered = []) {rest : List Value} (hstack : g.stack = msg :: .ref a :: .ref a :: rest)
    (hd6 : decode c.code g.pc = .ok (.invokespecial ic, 3)) (hd9 : decode c.code (g.pc + 3) = .ok (.athrow, 1)) (hout : ∀ x ∈ c.exceptionTable.toList, covers x (g.pc + 3) = false)
    (hRframes : names.length + 4 < R.frames) (hRlocals : 2 * g.monitorRoom + ((Value.ref a :: rest).map fun v => v.category).sum + (13 * (names.length + 2) + 42) ≤ R.locals) (hlocks : meth.locks = false) :
    ∃ U : State, Steps p.tables e below (T0.setTop g) U ∧ U.status = .running ∧ Ended U below (.threw a) ∧ s.WarmedH U.vm ∧ s.sameButNew ({ U with vm := s.vm } : State) locs cells slots ∧
      ∃ ce : Cell, U.heap[a]? = some ce ∧ s.vm.findClass cls = some ce.cls ∧ ce.vm = .none := by
  have howns : e.platform.frameOwnsMonitors = true := by rw [X.admits.platform]
  have hfin : e.platform.finalization = false := by rw [X.admits.platform]
  have hpl : e.platform.magicAccessors = ({} : Platform).magicAccessors := by rw [X.admits.platform]
  have a' : ∀ x, x ∈ nAtoms own ic cls Y ix bx names → x.holds args s none s [] = true := fun x hx => h x hx
  obtain ⟨T, Z0, L, -, Yt⟩ := ThrowableC.of_atoms (args := args) howns hfin hpl (fun x hx => h x (by simp [nAtoms, hx]))
  obtain ⟨Z, M, LZ, LM, hnZ⟩ := Init0T.ofS_atoms (args := args) hpl L Yt (fun x hx => h x (by simp [nAtoms, hx]))
  obtain ⟨P2, Ps2, hlen2, L2, hL2, hP2m, hlink2, hlinkr⟩ := Bundle.chainS (args := args) hpl hnZ names Y hY hnames (fun x hx => h x (by simp [nAtoms, hx]))
  obtain ⟨P1, L1, hP1m, hP1s⟩ := PassC.ofS_atoms (args := args) (s := s) hpl (X := cls) (Y := Y) (Bundle.fit_spec hcls).1 (Bundle.fit_spec hY).2 b0 b1 b2 b5 (fun x hx => h x (by simp [nAtoms, hx]))
  have hsup : P1.sup = P2.m := Option.some.inj (hP1s.symm.trans hP2m)
  have hfound : s.vm.findClass cls = some P1.m.cls := findClass_of_methodNamed hP1m
  cases Option.some.inj (hfoundX.symm.trans hfound)
  obtain ⟨c1, kX', hc1, hk, hord, -, -, hn6⟩ := Cond.instantiable_spec (a' (.instantiable cls 6) (by simp [nAtoms]))
  cases Option.some.inj (hc1.symm.trans hfound)
  cases Option.some.inj (hkX.symm.trans hk)
  have sel : ∀ (t : MethodName) (mt : MethodId), s.methodNamed? t = some mt → (t.cls ≠ "java/lang/invoke/MethodHandle" ∧ t.cls ≠ "java/lang/invoke/VarHandle") → (Cond.selects cls t t).holds args s none s [] = true → selectMethod e.platform s.vm P1.m.cls mt = .method mt := by
    intro t mt h1 h2 h3
    obtain ⟨c2, r2, m2, q1, q2, q3, q4, -⟩ := Cond.selects_spec h3
    cases Option.some.inj (q1.symm.trans hfound)
    cases Option.some.inj (q2.symm.trans (State.methodFound?_of_named h1 h2))
    cases Option.some.inj (q3.symm.trans h1)
    rw [Launch.admits_selectMethod X.admits]; exact q4
  have hsel0 := sel _ _ Yt.fill0 (by decide) (a' (.selects cls Bundle.tFill0 Bundle.tFill0) (by simp [nAtoms]))
  have hselF := sel _ _ Yt.fill (by decide) (a' (.selects cls Bundle.tFill Bundle.tFill) (by simp [nAtoms]))
  obtain ⟨cellS0, hcS0, hiss⟩ := Yt.statics
  obtain ⟨u0, hu0⟩ := Cond.staticRefV Yt.unassigned L.unassignedStatic L.statics hcS0 hiss (a' (.isRef (.static Bundle.tN "UNASSIGNED_STACK" Bundle.steD)) (by simp [nAtoms]))
  obtain ⟨sen, hsen⟩ := Cond.staticRefV Yt.sentinel L.sentinelStatic L.statics hcS0 hiss (a' (.isRef (.static Bundle.tN "SUPPRESSED_SENTINEL" Bundle.listD)) (by simp [nAtoms]))
  obtain ⟨ci198, i198, fB, hk198, hg198, ha198, hsB, -, hnB, htB, hffB⟩ := Cond.ownField (t := .object "java/lang/Object") Yt.found L.cls (by decide +kernel) (a' (.fieldLink Bundle.tN 198 Bundle.tN "backtrace" "Ljava/lang/Object;") (by simp [nAtoms])) (a' (.lays Bundle.tN Bundle.tN "backtrace" "Ljava/lang/Object;") (by simp [nAtoms])) e.platform hpl
  obtain ⟨cellS, hcS', heS, -, hkeep⟩ := X.same.2.2.2.2.2 T.aS cellS0 hcS0
  have hcellS : T0.heap[T.aS]? = some cellS := hcS'
  have hout' : ∀ i, (⟨T.aS, i⟩ : Loc) ∉ locs := fun i hmem => by
    have := hlocs _ hmem cellS0 hcS0
    rw [hiss] at this; cases this
  have hknownS : cellS.vm ≠ .unknown := by
    rw [heS]; intro hu
    rw [show cellS0.vm = .unknown from hu] at hiss
    cases hiss
  have hneS : T.aS ≠ a := Nat.ne_of_lt (Nat.lt_of_lt_of_le (Array.getElem?_eq_some_iff.mp hcS0).1 hnew)
  obtain ⟨iM, hffM⟩ := Yt.msg
  obtain ⟨tyC, dC, hdC, hdnC⟩ := Cond.laysAt hfound hk Yt.cause (a' (.lays cls Bundle.tN "cause" "Ljava/lang/Throwable;") (by simp [nAtoms]))
  obtain ⟨tyS, dS, hdS, hdnS⟩ := Cond.laysAt hfound hk Yt.stack (a' (.lays cls Bundle.tN "stackTrace" Bundle.steD) (by simp [nAtoms]))
  obtain ⟨tyP, dP, hdP, hdnP⟩ := Cond.laysAt hfound hk Yt.supp (a' (.lays cls Bundle.tN "suppressedExceptions" Bundle.listD) (by simp [nAtoms]))
  obtain ⟨tyM, dM, hdM, hdnM⟩ := Cond.laysAt hfound hk hffM (a' (.lays cls Bundle.tN "detailMessage" "Ljava/lang/String;") (by simp [nAtoms]))
  obtain ⟨tyB, dB, hdB, hdnB⟩ := Cond.laysAt hfound hk hffB (a' (.lays cls Bundle.tN "backtrace" "Ljava/lang/Object;") (by simp [nAtoms]))
  have bC := Cond.laysApart hdB hdC hdnB hdnC (by rw [hnB, Yt.causeName]; decide)
  have bS := Cond.laysApart hdB hdS hdnB hdnS (by rw [hnB, Yt.stackName]; decide)
  have bP := Cond.laysApart hdB hdP hdnB hdnP (by rw [hnB, Yt.suppName]; decide)
  have hskip : SkipFacts T e.platform s (fun u => u) u0 ((preparedCellV T.toThrowableT (freshCell P1.m.cls kX) a u0 sen).withEntry T0.cur) :=
    ⟨{ ci198 := ci198, i198 := i198, fBack := fB }, ⟨hk198, hg198, ha198, hsB⟩, by
      have := fresh_default (c := P1.m.cls) tyB
      rw [htB] at this
      simpa [preparedCellV, Cell.setSlot, Cell.withEntry, Array.getElem?_setIfInBounds, bC, bS, bP, bC.symm, bS.symm, bP.symm, defaultValue] using this, fun _ _ => rfl⟩
  obtain ⟨tm, methC, cdC, kC, vm₁, hnC, -, -, -, -, -, -, -, hW₁, st1⟩ := Steps.initColdS (tb := p.tables) (e := e) (below := below) (s := s) (U := T0) X.here hexec X.warmed hpl hown (t := Bundle.initS cls) rfl rfl (Bundle.fit_spec hcls).2
    (a' (.methodLink own ic (Bundle.initS cls)) (by simp [nAtoms])) (h (.instanceMethod (Bundle.initS cls)) (by simp [nAtoms, Bundle.passSAtoms])) (bytes := bx) (maxL := 2) (h (.code (Bundle.initS cls) bx 2 none) (by simp [nAtoms, Bundle.passSAtoms]))
    (f := g) hg (a := a) (msg := msg) (rest := .ref a :: rest) hstack hd6
  cases Option.some.inj (hnC.symm.trans hP1m)
  have X₁ := X.noted hW₁
  obtain ⟨vm₂, X₂, st2⟩ := X₁.ctorMessageOffV hexec (g := { g with stack := .ref a :: rest }) hg hsize T L Z LZ M LM (P1 :: P2 :: Ps2)
    (fun P hP => by
      rcases List.mem_cons.mp hP with rfl | hP
      · exact L1
      · rcases List.mem_cons.mp hP with rfl | hP
        · exact L2
        · exact hL2 P hP) ⟨hsup, hlink2, hlinkr⟩ (u0 := u0) (sen := sen) (self := a) hmsg (cell := freshCell P1.m.cls kX) (cellS := cellS)
    hcell (fun _ => by simp) (by simp) rfl rfl hsel0 hselF hcellS hneS hknownS (by rw [hkeep _ (hout' _)]; exact hu0) (by rw [hkeep _ (hout' _)]; exact hsen)
    (Takes.of_laid hk hord tyC (by rw [Yt.causeType]; rfl)) (Takes.of_laid hk hord tyS (by rw [Yt.stackType]; exact fits_refV_array _ u0)) (Takes.of_laid hk hord tyP (by rw [Yt.suppType]; exact fits_refV_object _ sen))
    (Takes.of_laid hk hord tyM (by rw [Yt.msgType]; exact fits_refV_object _ ⟨msg, hmsg⟩)) Yt.objLocals hskip htr [] hd6
    (by simp only [List.length_cons, hlen2]; omega) (by simp only [List.length_cons, hlen2]; exact hRlocals)
  obtain ⟨hwalk, hrun, hended, hWU, hsame⟩ := X₂.athrowLeaves hexec (g := { g with stack := .ref a :: rest, pc := g.pc + 3 }) hg hlocked hentered hout (a := a) (rest := rest) rfl hd9
  have hlt : a < ((T0.setVm vm₁).setVm vm₂).heap.size := (Array.getElem?_eq_some_iff.mp hcell).1
  have hU := heapAt_setCell_self (s := (T0.setVm vm₁).setVm vm₂) (plainBareV T.toThrowableT (freshCell P1.m.cls kX) a u0 sen msg) hlt
  refine ⟨_, st1 _ (fun acts => ?_), hrun, hended, hWU, hsame.weaken (fun y hy hlt' => ?_) (Nat.le_refl _) (Nat.le_refl _), _, hU, hfound, rfl⟩
  · rw [doInvoke_state]
    exact st2 _ hwalk
  · rcases List.mem_append.mp hy with h1 | h1
    · exact h1
    · exfalso
      have hb : y.base = a := by
        simp only [List.mem_cons, List.not_mem_nil, or_false] at h1
        rcases h1 with rfl | rfl | rfl | rfl | rfl <;> rfl
      rw [hb] at hlt'
      exact Nat.not_lt.mpr hnew hlt'
/-- 'throw new E("text")' that leaves the method -/
theorem t_throw {cc : ByteArray} {pc : Nat} {ls : Array Slot} {rest : List Value} (hexec : p.tables.exec = Jvm.exec) (hb : c.code = cc) (hl : l.stackTraces = false) {cls text : String} {names : List String} {ik is ic : Nat} {A : Nat → Prop} {B : State → Prop}
    (hown : s.vm.findClass R_RJ = some m.cls) (hcls : Bundle.fit cls = true) (hnames : ∀ n ∈ names, Bundle.fit n = true) (hg : ∀ w ∈ gw, w.before args s = true) (hE : ev A s) (hS : va_S A s.heap H locs)
    (hk : Cond.classLink R_RJ ik cls ∈ gw) (hini : Cond.initialized cls ∈ gw) (hstr : Cond.stringRef R_RJ is text ∈ lw_tbl) (hat : t_ok R_RJ ic cls names) (hsize : ls.size = c.maxLocals)
    (d0 : decode cc pc = .ok (.new ik, 3)) (d3 : decode cc (pc + 3) = .ok (.dup, 1)) (d4 : decode cc (pc + 4) = .ok (.ldc is, 2)) (d6 : decode cc (pc + 6) = .ok (.invokespecial ic, 3)) (d9 : decode cc (pc + 9) = .ok (.athrow, 1))
    (hout : ∀ (x : ExceptionTableEntry), x ∈ c.exceptionTable.toList → False) (hF : names.length + 3 < R.frames) (hL : (rest.map fun v => v.category).sum + (13 * (names.length + 1) + 43) ≤ R.locals) (hc : 1 ≤ R.cells) (hs : 6 ≤ R.slots) (hlocks : meth.locks = false)
    (hB : ∀ t : State, s.vm.Alike t.vm → H.size ≤ t.heap.size → (∀ q : Nat, q < H.size → t.heap[q]? = H[q]?) → B t ∧ va_F A s t) {free : Addr → Prop} (hf : ∀ z ∈ locs, free z.base) :
    W p l e R s m args below meth c H locs 0 0 (tMQ below cls B A s 1 6 free) (F0 m pc ls rest) := by
  intro T hT X
  have htr : e.platform.stackTraces = false := (show e.platform.stackTraces = l.stackTraces by rw [X.admits.platform]).trans hl
  have Y := restand X (R' := { frames := R.frames, locals := R.locals, cells := 1, slots := 6 }) (Nat.le_refl _) (Nat.le_refl _) (by omega) (by omega)
  obtain ⟨s2, hA⟩ : ∃ z, z = (T.setVm s.vm).setFrames (.invoking m args :: below) := ⟨_, rfl⟩
  rw [← hA] at Y
  have hvm : s2.vm = s.vm := by rw [hA]; rfl
  have hhp : s2.heap = H := by rw [hA]; exact hT
  have hW0 : s.WarmedH s2.vm := by rw [hvm]; exact State.WarmedH.refl s
  have hg2 : ∀ w ∈ gw, w.before args s2 = true := fun w hw => word_at hW0 (good_of_word (List.mem_filter.mp hw).2) (hg w hw)
  have hE2 : ev A s2 := hE.to hS (fun _ z => z) hhp hW0
  have hown2 : s2.vm.findClass R_RJ = some m.cls := by rw [hvm]; exact hown
  have h := t_atoms hat hg2 hE2
  have hins : (Cond.instantiable cls 6).before args s2 = true := h _ (by simp [Bundle.ownAtoms])
  obtain ⟨vm1, cX, kX, hfX, hkX, -, -, X1, st1⟩ := Y.newCold hexec (own := R_RJ) (C := cls) (index := ik) (n := 6) hown2 (hg2 _ hk) hins (hg2 _ hini) (g := F0 m pc ls rest) rfl (by rw [hb]; exact d0) (Nat.le_refl _) (Nat.le_refl _)
  generalize hT1 : (T.setVm vm1).pushCell { cls := cX, slots := kX.instanceTypes.map defaultValue, vm := .none } = T1 at X1 st1
  have hcellA : T1.heap[T.heap.size]? = some (freshCell cX kX) := by rw [← hT1]; exact State.heap_pushCell_size _ _
  have d3' : decode c.code (pc + 3) = .ok (.dup, 1) := by rw [hb]; exact d3
  obtain ⟨sa, hsa⟩ := hE2.2.2.1 is text hstr
  have hstr2 : (Cond.stringRef R_RJ is text).before args s2 = true := by
    have := hsa.1
    exact this
  have hev2 : (Term.string R_RJ is).eval args s2 none [] s2 = some (.ref sa) := hsa.2
  have hcat : (Value.ref T.heap.size).category = 1 := rfl
  obtain ⟨U, hsteps, hrun, hend, hW, hsame, ce, hce, hO⟩ := X1.ctorThrowS hexec htr (own := R_RJ) (cls := cls) (names := names) (ic := ic) hown2 hcls hnames h (fun x hx => nomatch hx) hfX hkX hcellA (by rw [hhp, hT]; exact Nat.le_refl _) (msg := .ref sa) rfl
    (g := { method := m, pc := pc + 6, locals := ls, stack := .ref sa :: .ref T.heap.size :: .ref T.heap.size :: rest, locked := none }) rfl hsize rfl rfl (rest := rest) rfl
    (by rw [hb]; exact d6) (by rw [hb]; exact d9) (fun x hx => (hout x hx).elim) hF (by simp only [List.map_cons, List.sum_cons, hcat]; show 2 * 0 + _ + _ ≤ R.locals; omega) hlocks
  have hWs : s.WarmedH U.vm := State.WarmedH.trans hW0 hW
  have hcl : s.vm.findClass cls = some ce.cls := by
    have h9 := hO.cls
    rw [hvm] at h9
    exact h9
  have hfr : H.size ≤ U.heap.size ∧ ∀ q : Nat, q < H.size → U.heap[q]? = H[q]? := by
    obtain ⟨-, k2, -, -, -, k6⟩ := id hsame
    rw [hhp] at k2 k6
    refine ⟨k2, fun q hq => ?_⟩
    obtain ⟨c1, hc1⟩ : ∃ z, H[q]? = some z := ⟨H[q], Array.getElem?_eq_getElem hq⟩
    obtain ⟨c2, hc2, e1, e2, e3⟩ := k6 q c1 hc1
    have hs9 : c2.slots = c1.slots := Array.ext_getElem? fun i => e3 i (fun hm => nomatch hm)
    rw [hs9] at e1
    have e4 : c2 = c1 := e1
    rw [hc1, ← e4]
    exact hc2
  have hall : s.sameButNew ({ U with vm := s.vm } : State) locs 1 6 := by
    subst hA
    obtain ⟨e1, e2⟩ := hsame
    rw [State.setFrames_setFrames] at e1
    have h2 : (T.setVm s.vm).sameButNew ({ U with vm := s.vm } : State) [] (0 + 1) (0 + 6) := ⟨e1, e2⟩
    have h3 := X.same.trans h2
    rw [List.append_nil] at h3
    exact h3
  obtain ⟨b1, b2⟩ := hB U hWs.alike hfr.1 hfr.2
  refine ⟨U, ?_, .threw T.heap.size, hrun, hend, T.heap.size, ce, locs, rfl, hce, hO.vm, hcl, b1, b2, hWs, hall, hf⟩
  refine st1 _ ?_
  show Steps p.tables e below (T1.setTop { method := m, pc := pc + 3, locals := ls, stack := .ref T.heap.size :: rest, locked := none }) _
  jvm_step X1.here [X1.here.top, hexec, d3', Value.category]
  exact X1.ldcString hexec (own := R_RJ) (text := text) (index := is) (a := sa) hown2 hstr2 hev2
    (g := { method := m, pc := pc + 4, locals := ls, stack := .ref T.heap.size :: .ref T.heap.size :: rest, locked := none }) rfl (by rw [hb]; exact d4) _ hsteps
/-- the same for an exception with its own pool entry -/
theorem n_throw {cc : ByteArray} {pc : Nat} {ls : Array Slot} {rest : List Value} (hexec : p.tables.exec = Jvm.exec) (hb : c.code = cc) (hl : l.stackTraces = false) {cls text : String} {Y : String} {names : List String} {ik is ic ix : Nat} {bx : ByteArray} {A : Nat → Prop} {B : State → Prop}
    (hown : s.vm.findClass R_RJ = some m.cls) (hcls : Bundle.fit cls = true) (hY : Bundle.fit Y = true) (hnames : ∀ n ∈ names, Bundle.fit n = true) (b0 : decode bx 0 = .ok (.aload_n 0, 1)) (b1 : decode bx 1 = .ok (.aload_n 1, 1)) (b2 : decode bx 2 = .ok (.invokespecial ix, 3)) (b5 : decode bx 5 = .ok (.return_, 1)) (hg : ∀ w ∈ gw, w.before args s = true) (hE : ev A s) (hS : va_S A s.heap H locs)
    (hk : Cond.classLink R_RJ ik cls ∈ gw) (hini : Cond.initialized cls ∈ gw) (hstr : Cond.stringRef R_RJ is text ∈ lw_tbl) (hat : n_ok R_RJ ic cls Y ix bx names) (hsize : ls.size = c.maxLocals)
    (d0 : decode cc pc = .ok (.new ik, 3)) (d3 : decode cc (pc + 3) = .ok (.dup, 1)) (d4 : decode cc (pc + 4) = .ok (.ldc is, 2)) (d6 : decode cc (pc + 6) = .ok (.invokespecial ic, 3)) (d9 : decode cc (pc + 9) = .ok (.athrow, 1))
    (hout : ∀ (x : ExceptionTableEntry), x ∈ c.exceptionTable.toList → False) (hF : names.length + 4 < R.frames) (hL : (rest.map fun v => v.category).sum + (13 * (names.length + 2) + 43) ≤ R.locals) (hc : 1 ≤ R.cells) (hs : 6 ≤ R.slots) (hlocks : meth.locks = false)
    (hB : ∀ t : State, s.vm.Alike t.vm → H.size ≤ t.heap.size → (∀ q : Nat, q < H.size → t.heap[q]? = H[q]?) → B t ∧ va_F A s t) {free : Addr → Prop} (hf : ∀ z ∈ locs, free z.base) :
    W p l e R s m args below meth c H locs 0 0 (tMQ below cls B A s 1 6 free) (F0 m pc ls rest) := by
  intro T hT X
  have htr : e.platform.stackTraces = false := (show e.platform.stackTraces = l.stackTraces by rw [X.admits.platform]).trans hl
  have Y := restand X (R' := { frames := R.frames, locals := R.locals, cells := 1, slots := 6 }) (Nat.le_refl _) (Nat.le_refl _) (by omega) (by omega)
  obtain ⟨s2, hA⟩ : ∃ z, z = (T.setVm s.vm).setFrames (.invoking m args :: below) := ⟨_, rfl⟩
  rw [← hA] at Y
  have hvm : s2.vm = s.vm := by rw [hA]; rfl
  have hhp : s2.heap = H := by rw [hA]; exact hT
  have hW0 : s.WarmedH s2.vm := by rw [hvm]; exact State.WarmedH.refl s
  have hg2 : ∀ w ∈ gw, w.before args s2 = true := fun w hw => word_at hW0 (good_of_word (List.mem_filter.mp hw).2) (hg w hw)
  have hE2 : ev A s2 := hE.to hS (fun _ z => z) hhp hW0
  have hown2 : s2.vm.findClass R_RJ = some m.cls := by rw [hvm]; exact hown
  have h := t_words hat hg2 hE2
  have hins : (Cond.instantiable cls 6).before args s2 = true := h _ (by simp [nAtoms])
  obtain ⟨vm1, cX, kX, hfX, hkX, -, -, X1, st1⟩ := Y.newCold hexec (own := R_RJ) (C := cls) (index := ik) (n := 6) hown2 (hg2 _ hk) hins (hg2 _ hini) (g := F0 m pc ls rest) rfl (by rw [hb]; exact d0) (Nat.le_refl _) (Nat.le_refl _)
  generalize hT1 : (T.setVm vm1).pushCell { cls := cX, slots := kX.instanceTypes.map defaultValue, vm := .none } = T1 at X1 st1
  have hcellA : T1.heap[T.heap.size]? = some (freshCell cX kX) := by rw [← hT1]; exact State.heap_pushCell_size _ _
  have d3' : decode c.code (pc + 3) = .ok (.dup, 1) := by rw [hb]; exact d3
  obtain ⟨sa, hsa⟩ := hE2.2.2.1 is text hstr
  have hstr2 : (Cond.stringRef R_RJ is text).before args s2 = true := by
    have := hsa.1
    exact this
  have hev2 : (Term.string R_RJ is).eval args s2 none [] s2 = some (.ref sa) := hsa.2
  have hcat : (Value.ref T.heap.size).category = 1 := rfl
  obtain ⟨U, hsteps, hrun, hend, hW, hsame, ce, hce, hO1, hO2⟩ := n_leave X1 hexec htr (own := R_RJ) (cls := cls) (names := names) (ic := ic) b0 b1 b2 b5 hown2 hcls hY hnames h (fun x hx => nomatch hx) hfX hkX hcellA (by rw [hhp, hT]; exact Nat.le_refl _) (msg := .ref sa) rfl
    (g := { method := m, pc := pc + 6, locals := ls, stack := .ref sa :: .ref T.heap.size :: .ref T.heap.size :: rest, locked := none }) rfl hsize rfl rfl (rest := rest) rfl
    (by rw [hb]; exact d6) (by rw [hb]; exact d9) (fun x hx => (hout x hx).elim) hF (by simp only [List.map_cons, List.sum_cons, hcat]; show 2 * 0 + _ + _ ≤ R.locals; omega) hlocks
  have hWs : s.WarmedH U.vm := State.WarmedH.trans hW0 hW
  have hcl : s.vm.findClass cls = some ce.cls := by
    have h9 := hO1
    rw [hvm] at h9
    exact h9
  have hfr : H.size ≤ U.heap.size ∧ ∀ q : Nat, q < H.size → U.heap[q]? = H[q]? := by
    obtain ⟨-, k2, -, -, -, k6⟩ := id hsame
    rw [hhp] at k2 k6
    refine ⟨k2, fun q hq => ?_⟩
    obtain ⟨c1, hc1⟩ : ∃ z, H[q]? = some z := ⟨H[q], Array.getElem?_eq_getElem hq⟩
    obtain ⟨c2, hc2, e1, e2, e3⟩ := k6 q c1 hc1
    have hs9 : c2.slots = c1.slots := Array.ext_getElem? fun i => e3 i (fun hm => nomatch hm)
    rw [hs9] at e1
    have e4 : c2 = c1 := e1
    rw [hc1, ← e4]
    exact hc2
  have hall : s.sameButNew ({ U with vm := s.vm } : State) locs 1 6 := by
    subst hA
    obtain ⟨e1, e2⟩ := hsame
    rw [State.setFrames_setFrames] at e1
    have h2 : (T.setVm s.vm).sameButNew ({ U with vm := s.vm } : State) [] (0 + 1) (0 + 6) := ⟨e1, e2⟩
    have h3 := X.same.trans h2
    rw [List.append_nil] at h3
    exact h3
  obtain ⟨b1, b2⟩ := hB U hWs.alike hfr.1 hfr.2
  refine ⟨U, ?_, .threw T.heap.size, hrun, hend, T.heap.size, ce, locs, rfl, hce, hO2, hcl, b1, b2, hWs, hall, hf⟩
  refine st1 _ ?_
  show Steps p.tables e below (T1.setTop { method := m, pc := pc + 3, locals := ls, stack := .ref T.heap.size :: rest, locked := none }) _
  jvm_step X1.here [X1.here.top, hexec, d3', Value.category]
  exact X1.ldcString hexec (own := R_RJ) (text := text) (index := is) (a := sa) hown2 hstr2 hev2
    (g := { method := m, pc := pc + 4, locals := ls, stack := .ref T.heap.size :: .ref T.heap.size :: rest, locked := none }) rfl (by rw [hb]; exact d4) _ hsteps
/-- one row of the table that covers the place and names a class: the class is looked up (and noted), and it takes the object or the search goes on -/
theorem h_row {Q : Handler → Pre} {E : CtlPost} {d : Bool} {acts : List Action} {S : State} {f : JFrame} {q : Addr} {x : ExceptionTableEntry} {ys : List ExceptionTableEntry} {k : ClassId} {ce : Cell} (hx : covers x f.pc = true) (h0 : x.catchType ≠ 0)
    (hl : S.vm.ClassLinks e.platform f.method.cls x.catchType k) (hce : S.heap[q]? = some ce) (hst : ce.vm.isStatics = false) (h1 : ∃ z, S.vm.classes[ce.cls]? = some z) (h2 : ∃ z, S.vm.classes[k]? = some z) :
    wp (findHandler.go f q (x :: ys)) Q E e d acts S ↔ (if S.vm.assignable ce.cls k = true then Q (.found x.handlerPc) d acts (S.setVm (S.vm.noted f.method.cls x.catchType (.cls k)))
      else wp (findHandler.go f q ys) Q E e d acts (S.setVm (S.vm.noted f.method.cls x.catchType (.cls k)))) := by
  have hr := (resolveClass_links e.toSetting hl).op (op := VmOp.resolveClass f.method.cls x.catchType) rfl
  have hA := (Vm.Alike.refl S.vm).noted f.method.cls x.catchType (.cls k)
  obtain ⟨z1, h1⟩ := h1
  obtain ⟨z2, h2⟩ := h2
  obtain ⟨y1, g1, -⟩ := hA.2.2 _ _ h1
  obtain ⟨y2, g2, -⟩ := hA.2.2 _ _ h2
  have hB : (S.vm.noted f.method.cls x.catchType (.cls k)).assignable ce.cls k = S.vm.assignable ce.cls k := by rw [hA.assignable]
  have hns := VmData.ne_statics_of hst
  simp only [covers] at hx
  cases hv : S.vm.assignable ce.cls k <;> rw [hv] at hB <;> simp [findHandler.go, hx, h0, hr.1, hr.2, hce, hns, g1, g2, hB, VmOp.dirties, VmOp.acts]
/-- the search down to the row that takes it -/
theorem h_seek {f : JFrame} {q : Addr} {ce : Cell} (hst : ce.vm.isStatics = false) (h1 : ∃ z, s.vm.classes[ce.cls]? = some z) {x : ExceptionTableEntry} (suf : List ExceptionTableEntry) (hx : covers x f.pc = true) (h0 : x.catchType ≠ 0)
    {k : ClassId} (hl : s.vm.ClassLinks e.platform f.method.cls x.catchType k) (hfit : s.vm.assignable ce.cls k = true) :
    ∀ (pre : List ExceptionTableEntry) (S : State), s.WarmedH S.vm → S.heap[q]? = some ce →
      (∀ y ∈ pre, covers y f.pc = false ∨ (y.catchType ≠ 0 ∧ ∃ k9, s.vm.ClassLinks e.platform f.method.cls y.catchType k9 ∧ s.vm.assignable ce.cls k9 = false)) →
      ∃ V, s.WarmedH V ∧ ∀ (Q : Handler → Pre) (E : CtlPost) (d : Bool) (acts : List Action), wp (findHandler.go f q (pre ++ x :: suf)) Q E e d acts S ↔ Q (.found x.handlerPc) d acts (S.setVm V) := by
  intro pre
  induction pre with
  | nil =>
    intro S hW hce _
    obtain ⟨z1, h1⟩ := h1
    obtain ⟨d1, _, _, z2, g1, _, _, _, _, g2, _, g3⟩ := hl.here
    obtain ⟨y1, p1, -⟩ := hW.alike.2.2 _ _ h1
    obtain ⟨y2, p2, -⟩ := hW.alike.2.2 _ _ g2
    refine ⟨_, hW.noted g1 g3 (State.rightAt_cls hl), fun Q E d acts => ?_⟩
    have := h_row (Q := Q) (E := E) (d := d) (acts := acts) (ys := suf) hx h0 (hW.classLinks hl) hce hst ⟨y1, p1⟩ ⟨y2, p2⟩
    rw [hW.alike.assignable, if_pos hfit] at this
    exact this
  | cons y ys ih =>
    intro S hW hce hp
    have hp2 := fun z hz => hp z (List.mem_cons_of_mem y hz)
    cases hv : covers y f.pc
    · obtain ⟨V, hV, hq⟩ := ih S hW hce hp2
      exact ⟨V, hV, fun Q E d acts => (W.findHandler_go_skip hv).trans (hq Q E d acts)⟩
    · rcases hp y List.mem_cons_self with h | ⟨hy0, k9, hl9, hno⟩
      · rw [hv] at h; cases h
      obtain ⟨z1, h1⟩ := h1
      obtain ⟨d1, _, _, z2, g1, _, _, _, _, g2, _, g3⟩ := hl9.here
      obtain ⟨y1, p1, -⟩ := hW.alike.2.2 _ _ h1
      obtain ⟨y2, p2, -⟩ := hW.alike.2.2 _ _ g2
      obtain ⟨V, hV, hq⟩ := ih (S.setVm (S.vm.noted f.method.cls y.catchType (.cls k9))) (hW.noted g1 g3 (State.rightAt_cls hl9)) hce hp2
      refine ⟨V, hV, fun Q E d acts => ?_⟩
      have := h_row (Q := Q) (E := E) (d := d) (acts := acts) (ys := ys ++ x :: suf) hv hy0 (hW.classLinks hl9) hce hst ⟨y1, p1⟩ ⟨y2, p2⟩
      rw [hW.alike.assignable, hno, if_neg (by decide)] at this
      exact this.trans (hq Q E d acts)
/-- what is thrown by a method called here is caught here -/
theorem h_caught {T : State} (X : Stand p l e R s m args below meth c T locs cells slots) (q : Addr) {g : JFrame} (hg : g.method = m) {ce : Cell} (hce : T.heap[q]? = some ce) (hst : ce.vm.isStatics = false) (h1 : ∃ z, s.vm.classes[ce.cls]? = some z)
    (pre : List ExceptionTableEntry) (x : ExceptionTableEntry) (suf : List ExceptionTableEntry) (hsplit : c.exceptionTable.toList = pre ++ x :: suf)
    (hp : ∀ y ∈ pre, covers y g.pc = false ∨ (y.catchType ≠ 0 ∧ ∃ k9, s.vm.ClassLinks e.platform m.cls y.catchType k9 ∧ s.vm.assignable ce.cls k9 = false)) (hx : covers x g.pc = true) (h0 : x.catchType ≠ 0)
    {k : ClassId} (hl : s.vm.ClassLinks e.platform m.cls x.catchType k) (hfit : s.vm.assignable ce.cls k = true) :
    ∃ V, Stand p l e R s m args below meth c (T.setVm V) locs cells slots ∧ Steps p.tables e below ((T.setTop g).pushFrame (.throwing q)) ((T.setVm V).setTop { g with pc := x.handlerPc, stack := [.ref q] }) := by
  subst hg
  obtain ⟨V, hV, hq⟩ := h_seek (e := e) hst h1 suf hx h0 hl hfit pre ((T.setTop g).pushFrame (.throwing q)) X.warmed hce hp
  refine ⟨V, X.noted hV, ?_⟩
  obtain ⟨hgo, hw⟩ := X.here.throwing q
  refine Steps.head hgo hw ?_
  have hF : ∀ (Q : Handler → Pre) (E : CtlPost) (d : Bool) (acts : List Action), wp (findHandler g q) Q E e d acts ((T.setTop g).pushFrame (.throwing q)) ↔ Q (.found x.handlerPc) d acts (((T.setTop g).pushFrame (.throwing q)).setVm V) := by
    intro Q E d acts
    have hm : ((T.setTop g).pushFrame (.throwing q)).vm.method? g.method = some meth := X.method'
    rw [W.findHandler_eq hm X.code, hsplit]
    exact hq Q E d acts
  have hS : ∀ rs : List Frame, (stepThrowing e ((T.setTop g).pushFrame (.throwing q)) q (.java g :: rs)).1 = (((T.setTop g).pushFrame (.throwing q)).setVm V).setFrames (.java { g with pc := x.handlerPc, stack := [.ref q] } :: rs) := by
    intro rs
    simp only [stepThrowing, searchFrame, vmDo]
    generalize hz : Sem.go _ e false [] ((T.setTop g).pushFrame (.throwing q)) = res
    obtain ⟨as, rfl, -⟩ := Sem.eq_ok_of hz (a := Handler.found x.handlerPc) (s' := ((T.setTop g).pushFrame (.throwing q)).setVm V) (acts' := []) (by simp [hF])
    rfl
  obtain ⟨g0, hg0⟩ := Option.isSome_iff_exists.mp X.here.top
  obtain ⟨r, hr⟩ := State.topJava?_eq_some.mp hg0
  have hr2 : (T.setVm V).frames = .java g0 :: r := hr
  rw [stepThread_throwing (frames_entered X.here.top _), hS, hr, List.tail_cons, State.setTop_of_frames _ hr2, State.pushFrame, State.setTop_of_frames _ hr]
  have e1 : ∀ (u : State) (F : List Frame), (u.setFrames F).setVm V = (u.setVm V).setFrames F := fun _ _ => rfl
  rw [e1, State.setFrames_setFrames, e1, State.setFrames_setFrames]
  exact Steps.refl _
/-- an invocation of a method that throws: it is caught here, by the entry x of the table behind the entries pre that are passed -/
theorem t_call {y : MethodName} {ws : List Cond} {rm : Room} {Pc : Array Value → State → Prop} {E : String} {B : State → Prop} {A1 A0 : Nat → Prop} {mc ms n : Nat} {own C : String} {index : Nat} {bytes cc : ByteArray} {maxL nL : Nat} {ret : Option FieldType} {Ts : List Cond} {free : Addr → Prop} {b : Nat} {As rest : List Value} {pc : Nat} {ls : Array Slot} {st0 : List Value} {Q : State → Prop} {name : String}
    (S : CallFix p m c cc nL s args Ts own) (hM : tMet l y ws rm Pc E B A1 mc ms free) (cw : CallW R s args own C index y bytes maxL ret ws rm mc ms n) (hp : PreV s H C b Pc As)
    (hn : As.length = n) (hsize : ls.size = nL) (hst : st0 = As.reverse ++ .ref b :: rest) (hW : (rest.map fun v => v.category).sum ≤ 8) (hdg : decode cc pc = .ok (.invokevirtual index, 3)) (hf : cells + mc ≤ R.cells ∧ slots + ms ≤ R.slots)
    (pre : List ExceptionTableEntry) (x : ExceptionTableEntry) (suf : List ExceptionTableEntry) (hsplit : c.exceptionTable.toList = pre ++ x :: suf)
    (hpass : ∀ z ∈ pre, covers z pc = false ∨ (z.catchType ≠ 0 ∧ ∃ nm : String, (Cond.classLink own z.catchType nm).before args s = true ∧ va_Nc E nm s)) (hxc : covers x pc = true) (h0 : x.catchType ≠ 0)
    (hlink : (Cond.classLink own x.catchType name).before args s = true) (hcast : (Cond.castable E name).before args s = true)
    (hS : va_S A0 s.heap H locs) (hA : ∀ q, q < H.size → A1 q → A0 q) (hfr : ∀ q, free q → A0 q)
    (kk : ∀ (q : Addr) (t : State) (H1 : Heap) (locs1 : List Loc), t.heap = H1 → s.vm.Alike t.vm → B t → H.size ≤ H1.size → (∀ q : Nat, q < H.size → ¬ A1 q → H1[q]? = H[q]?) → va_S A0 s.heap H1 locs1 →
      W p l e R s m args below meth c H1 locs1 (cells + mc) (slots + ms) Q (F0 m x.handlerPc ls [.ref q])) :
    W p l e R s m args below meth c H locs cells slots Q (F0 m pc ls st0) := by
  obtain ⟨hexec, hb, hml, hown, hts⟩ := S
  obtain ⟨⟨hrc, hrs, hfrm, hloc, hws, hcw, hcode, hini, hnMH, hlen, hlk⟩, hinst, hsel⟩ := cw
  obtain ⟨hblind, ⟨cellB, hcB, hoB, hclB⟩, hPc⟩ := hp
  intro T hT X
  obtain ⟨mk, methM, hnamed, hmethM, hstM, habM⟩ := Cond.instanceMethod_spec hinst
  obtain ⟨methM', cM, hmethM', hcM, -, hlM, -, -, -, hsigM⟩ := Cond.code_spec hnamed hcode
  cases hmethM.symm.trans hmethM'
  obtain ⟨c2, r2, m2, q1, q2, q3, q4, kP, hkP, hkPi⟩ := Cond.selects_spec hsel
  cases hclB.symm.trans q1
  cases (State.methodFound?_of_named hnamed hnMH).symm.trans q2
  cases hnamed.symm.trans q3
  have hselP : selectMethod e.platform s.vm cellB.cls mk = .method mk := by rw [Launch.admits_selectMethod X.admits]; exact q4
  have hdg' : decode c.code pc = .ok (.invokevirtual index, 3) := by rw [hb]; exact hdg
  obtain ⟨vm1, X1, hstep1⟩ := X.invokevirtual hexec hown hlk hnamed hmethM hstM hkP hkPi hnMH (a := b) (cell := cellB) (by rw [hT]; exact hcB)
    (fun z h => by rw [h] at hoB; cases hoB) hselP hmethM habM hkP hkPi (g := F0 m pc ls st0) rfl (argsL := As) (rest := rest) (hn.trans (hlen _ hsigM)) hst hdg'
  obtain ⟨U, hU⟩ : ∃ z, z = T.setVm vm1 := ⟨_, rfl⟩
  rw [← hU] at X1
  have hUh : U.heap = H := by rw [hU]; exact hT
  obtain ⟨g, hgd⟩ : ∃ z : JFrame, z = F0 m pc ls rest := ⟨_, rfl⟩
  have hg : g.method = m := by rw [hgd]
  have hnamU : U.methodNamed? y = some mk := X1.named hnamed
  have h : At U g.method c below := by rw [hg]; exact X1.here
  have hwU : ∀ w ∈ ws, ∀ a', w.before a' U = true := fun w hw a' => hws w hw a' U X1.warmed
  have hiniU : (Cond.initialized y.cls).before #[] U = true := word_at X1.warmed (Or.inl rfl) hini
  obtain ⟨methY, cY, hmY, hcY, -, hlY, -, -, -, -⟩ := Cond.code_spec hnamU (hwU _ hcw #[])
  obtain ⟨kY, hkY, -⟩ := className_of_methodNamed hnamU
  have hinitY : kY.init = .initialized := Cond.initialized_spec (findClass_of_methodNamed hnamU) hkY hiniU
  obtain ⟨av, hav⟩ : ∃ z : Array Value, z = (Value.ref b :: As).toArray := ⟨_, rfl⟩
  have hdgU : decode c.code g.pc = .ok (.invokevirtual index, 3) := by rw [hgd]; exact hdg'
  have hgs : g.locals.size = c.maxLocals := by rw [hgd, hml]; exact hsize
  have hW8 : 2 * g.monitorRoom + (g.stack.map fun v => v.category).sum ≤ 8 := by
    rw [hgd]
    exact lv_room hW
  have hloc9 : 8 + (maxL + 11) + (headSpec ws rm).room.locals ≤ R.locals := hloc
  have happ : (headSpec ws rm).appliesLoose y e.platform (U.calling g mk av) = true :=
    Spec.appliesLoose_calling (g := g) h hdgU hnamU hkY hinitY
      (X1.room_calling (g := g) (R' := (headSpec ws rm).room) hgs hmY hcY hfrm (by rw [hlY]; omega) (by show _ + rm.cells ≤ _; rw [hrc]; exact hf.1) (by show _ + rm.slots ≤ _; rw [hrs]; exact hf.2)) (atoms_intro fun w hw => hwU w hw _)
  obtain ⟨mid, hmid⟩ := h.above
  have hfrm2 : (U.setTop g).frames = (.java g :: mid) ++ below := by rw [State.frames_setTop' g h.top, hmid]; rfl
  have hPcU : Pc av (U.calling g mk av) := hblind _ _ _ _ (by rw [hav]; exact hPc U hUh X1.warmed)
  obtain ⟨o, s2, hsteps, -, hend, hq⟩ := Steps.callFree hM p X1.admits X1.cas X1.clock (acts := []) hfrm2 happ hPcU trivial
  obtain ⟨q, ce, L, rfl, hce, hcv, hcl, hB, hFr, hW2, hsm, hL⟩ := (hq : tQ E B A1 mc ms free (U.calling g mk av) o s2)
  rw [State.frames_setTop' g h.top] at hend
  obtain ⟨g0, hg0⟩ := Option.isSome_iff_exists.mp h.top
  obtain ⟨r, hr⟩ := State.topJava?_eq_some.mp hg0
  have hr2 : (({ U with heap := s2.heap, slotsUsed := s2.slotsUsed } : State).setVm s2.vm).frames = .java g0 :: r := hr
  have hsm : (U.calling g mk av).sameButNew ({ s2 with vm := (U.calling g mk av).vm } : State) L mc ms := hsm
  obtain ⟨e2, k2, k3, k4, k5, k6⟩ := id hsm
  have e3 : s2 = ({ (U.calling g mk av).setFrames s2.frames with heap := s2.heap, slotsUsed := s2.slotsUsed } : State).setVm s2.vm := by
    have : s2 = ({ s2 with vm := (U.calling g mk av).vm } : State).setVm s2.vm := rfl
    rw [e2] at this
    exact this
  have hf2 : s2.frames = .throwing q :: .java g :: U.frames.tail := hend
  have hW9 : U.WarmedH s2.vm := hW2
  have hs2 : s2 = ((({ U with heap := s2.heap, slotsUsed := s2.slotsUsed } : State).setVm s2.vm).setTop g).pushFrame (.throwing q) := by
    refine e3.trans ?_
    rw [hf2, State.calling_eq h.top, State.setFrames_setFrames, State.pushFrame, State.frames_setTop _ hr2, State.setTop_of_frames _ hr2, State.setFrames_setFrames, hr]
    rfl
  have hsame : U.sameButNew ({ U with heap := s2.heap, slotsUsed := s2.slotsUsed } : State) L mc ms := by
    refine ⟨?_, k2, k3, k4, k5, k6⟩
    obtain ⟨t, ht, -⟩ := State.frames_cons hr
    show ({ U with heap := s2.heap, slotsUsed := s2.slotsUsed } : State) = { U.setFrames U.frames with heap := s2.heap, slotsUsed := s2.slotsUsed }
    rw [State.setFrames_self ht]
  have h9 : At U m c below := X1.here
  have X2 : Stand p l e R s m args below meth c (({ U with heap := s2.heap, slotsUsed := s2.slotsUsed } : State).setVm s2.vm) (locs ++ L) (cells + mc) (slots + ms) :=
    ⟨X1.admits, X1.cas, X1.clock, X1.frames, X1.room, X1.hears, X1.method, X1.code, (h9.setHeapUsed s2.heap s2.slotsUsed).setVm hW9.alike, X1.tail, State.WarmedH.trans X1.warmed hW9, X1.limits, X1.bytes, X1.same.trans (hsame.setVm s.vm)⟩
  have hpl : e.platform.magicAccessors = ({} : Platform).magicAccessors := by rw [X.admits.platform]
  have hclS : s.vm.findClass E = some ce.cls := by rw [← X1.warmed.alike.findClass]; exact hcl
  obtain ⟨c3, c4, hc3, hc4, hasg⟩ := Cond.castable_spec hcast
  cases Option.some.inj (hc3.symm.trans hclS)
  obtain ⟨c5, hc5, hcl5⟩ := Cond.classLink_spec hown hlink e.platform hpl
  cases Option.some.inj (hc4.symm.trans hc5)
  obtain ⟨vm3, X3, st3⟩ := h_caught X2 q (g := g) hg (ce := ce) hce (by rw [hcv]; rfl) (by obtain ⟨k9, h9, -⟩ := Vm.findClass_spec hclS; exact ⟨k9, h9⟩) pre x suf hsplit
    (fun z hz => by
      rcases hpass z hz with h | ⟨hz0, nm, hl1, hn1⟩
      · exact Or.inl (by rw [hgd]; exact h)
      · obtain ⟨c6, hc6, hcl6⟩ := Cond.classLink_spec hown hl1 e.platform hpl
        obtain ⟨a8, b8, h1, h2, h3⟩ := hn1
        cases Option.some.inj (h1.symm.trans hclS)
        cases Option.some.inj (h2.symm.trans hc6)
        exact Or.inr ⟨hz0, _, hcl6, h3⟩) (by rw [hgd]; exact hxc) h0 hcl5 hasg
  obtain ⟨hz, hkeep⟩ := hFr
  have hz1 : H.size ≤ s2.heap.size := by
    have : U.heap.size ≤ s2.heap.size := hz
    rw [hUh] at this
    exact this
  have hkeep1 : ∀ q : Nat, q < H.size → ¬ A1 q → s2.heap[q]? = H[q]? := fun q h1 h2 => by
    have := hkeep q (by show q < U.heap.size; rw [hUh]; exact h1) h2
    rw [this]
    show U.heap[q]? = H[q]?
    rw [hUh]
  have hS1 : va_S A0 s.heap s2.heap (locs ++ L) := ⟨Nat.le_trans hS.1 hz1, fun q h1 h2 => by rw [hkeep1 q (Nat.lt_of_lt_of_le h1 hS.1) (fun z => h2 (hA q (Nat.lt_of_lt_of_le h1 hS.1) z))]; exact hS.2.1 q h1 h2, fun q hq => by
    rcases List.mem_append.mp hq with h | h
    · exact hS.2.2 q h
    · exact hfr _ (hL q h)⟩
  obtain ⟨t2, a1, b1⟩ := kk q s2 s2.heap (locs ++ L) rfl (State.WarmedH.trans X1.warmed hW9).alike hB hz1 hkeep1 hS1 ((({ U with heap := s2.heap, slotsUsed := s2.slotsUsed } : State).setVm s2.vm).setVm vm3) rfl X3
  refine ⟨t2, hstep1 _ fun acts => ?_, b1⟩
  rw [doInvoke_state]
  have hA9 : Steps p.tables e below (doInvoke e (U.setTop g) [] mk av).1 (((({ U with heap := s2.heap, slotsUsed := s2.slotsUsed } : State).setVm s2.vm).setTop g).pushFrame (.throwing q)) := by
    rw [← hs2]; exact hsteps
  have hB9 := (hA9.trans st3).trans (by rw [hgd]; exact a1)
  rw [hU, hgd, hav] at hB9
  exact hB9
end TT
theorem t_B {s : State} {H : Heap} {locs : List Loc} {A : Nat → Prop} {D : va_G} {cA : Nat → ClassId} {ws : va_W} (hP : va_P D classes ws H) (hK : va_K D classes (tys cA) s) (hD : va_D A ws) (hS : va_S A s.heap H locs) (t : State) (hvm : s.vm.Alike t.vm) (hz : H.size ≤ t.heap.size) (hk : ∀ q : Nat, q < H.size → t.heap[q]? = H[q]?) : aR D cA A ws t ∧ va_F A s t :=
  ⟨⟨hP.kept (fun k q h => hk q.1 (hP k q h).lt), va_K.moved hvm hK, hD⟩, Nat.le_trans hS.1 hz, fun q h1 h2 => by rw [hk q (Nat.lt_of_lt_of_le h1 hS.1)]; exact hS.2.1 q h1 h2⟩
set_option maxRecDepth 20000 in
theorem tk_1 : t_ok R_RJ 97 "java/lang/IllegalArgumentException" ["java/lang/RuntimeException", "java/lang/Exception"] := by unfold t_ok; decide +kernel
set_option maxRecDepth 20000 in
theorem tk_2 : t_ok R_RJ 110 "java/lang/IllegalStateException" ["java/lang/RuntimeException", "java/lang/Exception"] := by unfold t_ok; decide +kernel
set_option maxRecDepth 20000 in
theorem tk_3 : n_ok R_RJ 182 "java/util/NoSuchElementException" "java/lang/RuntimeException" 13 prog_19_method_4_code ["java/lang/Exception"] := by unfold n_ok; decide +kernel
theorem nd_0 : decode prog_19_method_4_code 0 = .ok (.aload_n 0, 1) := by decide +kernel
theorem nd_1 : decode prog_19_method_4_code 1 = .ok (.aload_n 1, 1) := by decide +kernel
theorem nd_2 : decode prog_19_method_4_code 2 = .ok (.invokespecial 13, 3) := by decide +kernel
theorem nd_5 : decode prog_19_method_4_code 5 = .ok (.return_, 1) := by decide +kernel
