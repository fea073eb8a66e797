/-! own rows: a function's checks and calls; the surroundings of a method; calls by contract -/
theorem hk_if {α : Type} {b : Prop} [Decidable b] {A : Option α} {o : α} (h : (if b then none else A) = some o) : ¬ b ∧ A = some o := by
  by_cases hb : b
  · rw [if_pos hb] at h; cases h
  · rw [if_neg hb] at h; exact ⟨hb, h⟩
theorem hk_bd {α β : Type} {x : Option α} {k : α → Option β} {o : β} (h : x.bind k = some o) : ∃ a, x = some a ∧ k a = some o := Option.bind_eq_some_iff.mp h
theorem nb_z {v : Int32} (h : v = 0 ∨ v = 1) : narrow .boolean (.int v) = .int v := by
  rcases h with rfl | rfl <;> rfl
/-- the words of a nest mate's members -/
def nwOk : Cond → Bool
  | .fieldLinkNest .. => true
  | .methodLinkNest .. => true
  | .castable .. => true
  | .declares _ => true
  | _ => false
def nwL : List Cond := lw_tbl.filter nwOk
theorem nwL_in {w : Cond} {i : Nat} (h : lw_tbl[i]? = some w) (hg : nwOk w = true) : w ∈ nwL := List.mem_filter.mpr ⟨List.mem_of_getElem? h, hg⟩
theorem nw_warm {s U : State} (hW : s.WarmedH U.vm) {w : Cond} (h : nwOk w = true) (hZ : va_Nw w s) : va_Nw w U := by
  cases w <;> first | exact va_Nw.warmF hW hZ | exact va_Nw.warmM hW hZ | exact va_Nw.warmC hW hZ | exact va_Nw.warmD hW hZ | (simp [nwOk] at h)
def fb_t : List Int32 := [0, 0x1DB71064, 0x3B6E20C8, 0x26D930AC, 0x76DC4190, 0x6B6B51F4, 0x4DB26158, 0x5005713C, -306674912, -267414716, -690576408, -882789492, -1687895376, -2032938284, -1609899400, -1111625188]
def fb (j : Nat) : Int32 := fb_t.getD j 0
/-- where a static of Throwable lies, outside A -/
def lS (n d : String) (A : Nat → Prop) (U : State) (H : Heap) : Prop := ∃ (c : ClassId) (k : Class) (i : Nat) (f : Field) (a : Nat) (cell : Cell), U.vm.findClass Bundle.tN = some c ∧ U.fieldFound? Bundle.tN n d = some (c, k, i, f) ∧ f.isStatic = true ∧ k.statics = some a ∧ H[a]? = some cell ∧ cell.vm.isStatics = true ∧ cell.cls = c ∧ f.slot < cell.slots.size ∧ k.staticTypes[f.slot]? = some f.type ∧ ¬ A a
theorem lS.to {n d : String} {A B : Nat → Prop} {s U : State} {H : Heap} {locs : List Loc} (h : lS n d A s s.heap) (hS : va_S A s.heap H locs) (hB : ∀ q, B q → A q) (hU : U.heap = H) (hvm : s.vm.Alike U.vm) : lS n d B U U.heap := by
  obtain ⟨c, k, i, f, a, cell, h1, h2, h3, h4, h5, h6, h7, h8, h9, h10⟩ := h
  obtain ⟨k', hi', he⟩ := State.fieldFound?_setVm hvm h2
  refine ⟨c, k', i, f, a, cell, by rw [hvm.findClass]; exact h1, hi', h3, by rw [he]; exact h4, ?_, h6, h7, h8, by rw [he]; exact h9, fun z => h10 (hB a z)⟩
  rw [hU, hS.2.1 a (Array.getElem?_eq_some_iff.mp h5).1 h10]
  exact h5
/-- what every method of ours carries: the nest words, the table FOUR_BITS outside A, the texts, what a throw rests on -/
def ev (A : Nat → Prop) (U : State) : Prop := (∀ w ∈ nwL, va_Nw w U) ∧ (∃ t : Nat, va_Z "RoundJournal$Blocks" "FOUR_BITS" "[I" (.ref t) A U U.heap ∧ va_T .int t 16 (fun j => .int (fb j)) A U U.heap) ∧
  (∀ (k : Nat) (tx : String), Cond.stringRef R_RJ k tx ∈ lw_tbl → ∃ a : Nat, vk_R R_RJ k tx a U) ∧
  (va_Zq Bundle.tN "UNASSIGNED_STACK" Bundle.steD A U U.heap ∧ lS "UNASSIGNED_STACK" Bundle.steD A U U.heap) ∧ (va_Zq Bundle.tN "SUPPRESSED_SENTINEL" Bundle.listD A U U.heap ∧ lS "SUPPRESSED_SENTINEL" Bundle.listD A U U.heap) ∧
  va_Nc "java/lang/IllegalStateException" "java/lang/IllegalArgumentException" U
theorem va_Nc.to {C T : String} {s U : State} (hvm : s.vm.Alike U.vm) (h : va_Nc C T s) : va_Nc C T U := by
  obtain ⟨c, t, h1, h2, h3⟩ := h
  exact ⟨c, t, by rw [hvm.findClass]; exact h1, by rw [hvm.findClass]; exact h2, by rw [hvm.assignable]; exact h3⟩
theorem ev.to {A B : Nat → Prop} {s U : State} {H : Heap} {locs : List Loc} (h : ev A s) (hS : va_S A s.heap H locs) (hB : ∀ q, B q → A q) (hU : U.heap = H) (hW : s.WarmedH U.vm) : ev B U := by
  obtain ⟨h1, ⟨t, h2, h3⟩, h4, ⟨h5, h6⟩, ⟨h7, h8⟩, h9⟩ := h
  refine ⟨fun w hw => nw_warm hW (List.mem_filter.mp hw).2 (h1 w hw), ⟨t, ?_, ?_⟩, fun k tx hk => ?_, ⟨?_, h6.to hS hB hU hW.alike⟩, ⟨?_, h8.to hS hB hU hW.alike⟩, h9.to hW.alike⟩
  · rw [hU]; exact va_Z.moved hW.alike ((h2.kept hS.2.1).narrow hB)
  · rw [hU]; exact va_T.moved hW.alike ((h3.kept hS.2.1).narrow hB)
  · obtain ⟨a, ha⟩ := h4 k tx hk
    exact ⟨a, vk_R.warm hW ha⟩
  · rw [hU]; exact va_Zq.moved hW.alike ((h5.kept hS.2.1).narrow hB)
  · rw [hU]; exact va_Zq.moved hW.alike ((h7.kept hS.2.1).narrow hB)
abbrev tys (cA : Nat → ClassId) : List (ClassId × FieldType) := [(cA 0, .int), (cA 1, .byte), (cA 2, .long)]
/-- a contract's start: the world ws, the surroundings -/
def aP (D : va_G) (cA : Nat → ClassId) (ws : va_W) (sz : Nat) (U : State) : Prop := U.heap.size = sz ∧ va_P D classes ws U.heap ∧ va_K D classes (tys cA) U ∧ va_D (fun _ => True) ws ∧ ev (va_A ws sz) U
/-- a contract's end: the world ws -/
def aR (D : va_G) (cA : Nat → ClassId) (A : Nat → Prop) (ws : va_W) (t : State) : Prop := va_P D classes ws t.heap ∧ va_K D classes (tys cA) t ∧ va_D A ws
theorem ev.same {A : Nat → Prop} {U : State} {g : JFrame} {mk : MethodId} {a : Array Value} (h : ev A U) : ev A (U.calling g mk a) :=
  h.to (U := U.calling g mk a) (H := U.heap) (locs := []) va_S.rf (fun _ z => z) rfl (State.WarmedH.refl U)
theorem aP_blind {av : List Value} {D : va_G} {cA : Nat → ClassId} {ws : va_W} {sz : Nat} : FrameBlind (va_Pc av (aP D cA ws sz)) := fun a U g mk q => by
  obtain ⟨q0, q1, qP, qK, qD, qE⟩ := q
  exact ⟨q0, q1, qP, va_K.moved (u := U) (U := U.calling g mk a) (Vm.Alike.refl U.vm) qK, qD, qE.same⟩
theorem q_fm {α : Type} {ws wc : List α} {is : List Nat} (h : is.map (fun i => ws[i]?) = wc.map some) : is.filterMap (fun i => ws[i]?) = wc := by
  have e : is.filterMap (fun i => ws[i]?) = (is.map (fun i => ws[i]?)).filterMap id := by rw [List.filterMap_map]; rfl
  rw [e, h, List.filterMap_map]
  induction wc with
  | nil => rfl
  | cons a t ih => simp
theorem va_Psub {D : va_G} {cl : List vw_C} {ws wc : va_W} {H : Heap} (h : va_P D cl ws H) (is : List Nat) (hs : is.map (fun i => ws[i]?) = wc.map some) : va_P D cl wc H := h.sub is (q_fm hs)
section QC
variable {p : Program} {l : Launch} {e : Env} {R : Room} {s : State} {m : MethodId} {args : Array Value} {below : List Frame} {meth : Method} {c : Code} {H : Heap} {locs : List Loc} {cells slots : Nat} {Q : State → Prop}
variable {pc : Nat} {ls : Array Slot} {rest st0 As : List Value} {A : Nat → Prop} {D : va_G} {cA : Nat → ClassId} {ws wc wr w1 : va_W} {a : Array Value} {b : Nat}
theorem q_aP (hK : va_K D classes (tys cA) s) (hP : va_P D classes ws H) (hD : va_D A ws) (hS : va_S A s.heap H locs) (hA : ∀ q, s.heap.size ≤ q → A q) (hE : ev A s) (isC : List Nat) (hn : va_nd isC = true) (hC : isC.map (fun i => ws[i]?) = wc.map some) (U : State) (hU : U.heap = H) (hW : s.WarmedH U.vm) : aP D cA wc H.size U :=
  ⟨by rw [hU], by rw [hU]; exact va_Psub hP isC hC, va_K.moved hW.alike hK, (hD.sub isC hn hC).weaken (fun _ _ _ _ => trivial), hE.to hS (va_free (wc := wc) hD hS hA isC hC) hU hW⟩
theorem q_pV {C : String} {ci : Nat} {q : vw_C} {fs : List Value} (hK : va_K D classes (tys cA) s) (hP : va_P D classes ws H) (hD : va_D A ws) (hS : va_S A s.heap H locs) (hA : ∀ q, s.heap.size ≤ q → A q) (hE : ev A s) (isC : List Nat) (hn : va_nd isC = true) (hC : isC.map (fun i => ws[i]?) = wc.map some)
    (h0 : wc[0]? = some (b, .inr (ci, fs))) (hc : classes[ci]? = some q) (hq : q.1 = C) : PreV s H C b (va_Pc (.ref b :: As) (aP D cA wc H.size)) As := by
  subst hq
  exact ⟨aP_blind, va_recv hK (va_Psub hP isC hC) hc h0, fun U hU hW => ⟨rfl, q_aP hK hP hD hS hA hE isC hn hC U hU hW⟩⟩
theorem q_pS (hK : va_K D classes (tys cA) s) (hP : va_P D classes ws H) (hD : va_D A ws) (hS : va_S A s.heap H locs) (hA : ∀ q, s.heap.size ≤ q → A q) (hE : ev A s) (isC : List Nat) (hn : va_nd isC = true) (hC : isC.map (fun i => ws[i]?) = wc.map some) : PreS s H (va_Pc As (aP D cA wc H.size)) As :=
  ⟨aP_blind, fun U hU hW => ⟨rfl, q_aP hK hP hD hS hA hE isC hn hC U hU hW⟩⟩
theorem q_i {rv : Int32} (hr : va_Run p l e R s m args below meth c H locs cells slots 0 0 (F0 m pc ls st0) rest (va_Qi (fun r (_ : Unit) => r = rv) (fun _ => aR D cA (va_A wc H.size) w1) (va_A wc H.size) a) (va_A wc H.size)) (hP : va_P D classes ws H) (hD : va_D A ws) (hS : va_S A s.heap H locs) (hA : ∀ q, s.heap.size ≤ q → A q)
    (isC isR : List Nat) (hC : isC.map (fun i => ws[i]?) = wc.map some) (hR : isR.map (fun i => ws[i]?) = wr.map some) (hn : va_nd isR = true) (hd : ∀ i ∈ isR, i ∉ isC)
    (kk : ∀ (H1 : Heap) (locs1 : List Loc), va_P D classes (wr ++ w1) H1 → va_D A (wr ++ w1) → va_S A s.heap H1 locs1 → W p l e R s m args below meth c H1 locs1 cells slots Q (F0 m (pc + 3) ls (.int rv :: rest))) : W p l e R s m args below meth c H locs cells slots Q (F0 m pc ls st0) := by
  have hF := va_free (wc := wc) hD hS hA isC hC
  refine va_calli hr hS (fun q _ h => hF q h) hF (fun r u t H1 locs1 ht hvm hw hB hz hk hS1 => ?_)
  obtain ⟨hP1, hK1, hD1⟩ := hB
  rw [ht] at hP1
  obtain ⟨hP2, hD2⟩ := va_join hP hD isC isR hC hR hn hd hk hF hP1 hD1
  rw [hw]
  exact kk H1 locs1 hP2 hD2 hS1
theorem q_v (hr : va_Run p l e R s m args below meth c H locs cells slots 0 0 (F0 m pc ls st0) rest (va_Qv (fun (_ : Unit) => True) (fun _ => aR D cA (va_A wc H.size) w1) (va_A wc H.size) a) (va_A wc H.size)) (hP : va_P D classes ws H) (hD : va_D A ws) (hS : va_S A s.heap H locs) (hA : ∀ q, s.heap.size ≤ q → A q)
    (isC isR : List Nat) (hC : isC.map (fun i => ws[i]?) = wc.map some) (hR : isR.map (fun i => ws[i]?) = wr.map some) (hn : va_nd isR = true) (hd : ∀ i ∈ isR, i ∉ isC)
    (kk : ∀ (H1 : Heap) (locs1 : List Loc), va_P D classes (wr ++ w1) H1 → va_D A (wr ++ w1) → va_S A s.heap H1 locs1 → W p l e R s m args below meth c H1 locs1 cells slots Q (F0 m (pc + 3) ls rest)) : W p l e R s m args below meth c H locs cells slots Q (F0 m pc ls st0) := by
  have hF := va_free (wc := wc) hD hS hA isC hC
  refine va_callv hr hS (fun q _ h => hF q h) hF (fun u t H1 locs1 ht hvm hw hB hz hk hS1 => ?_)
  obtain ⟨hP1, hK1, hD1⟩ := hB
  rw [ht] at hP1
  obtain ⟨hP2, hD2⟩ := va_join hP hD isC isR hC hR hn hd hk hF hP1 hD1
  exact kk H1 locs1 hP2 hD2 hS1
end QC
/-! words of a call -/
theorem gd_of {x : Cond} {ws : List Cond} (h : ∀ w ∈ ws, w ∈ gw) : GoodIn (x :: gw) ws := fun w hw => ⟨.tail _ (h w hw), good_of_word (List.mem_filter.mp (h w hw)).2⟩
theorem gd_c {y : MethodName} {b : ByteArray} {n : Nat} {r : Option FieldType} (h : Cond.code y b n r ∈ gw) : ∀ w ∈ Cond.code y b n r :: gw, w ∈ gw := fun w hw => by
  rcases List.mem_cons.mp hw with rfl | hw
  · exact h
  · exact hw
theorem gd_V {x : Cond} {own C : String} {i : Nat} {y : MethodName} {b : ByteArray} {n : Nat} {r : Option FieldType} (h1 : Cond.methodLink own i y ∈ gw) (h2 : Cond.instanceMethod y ∈ gw) (h3 : Cond.selects C y y ∈ gw) (h4 : Cond.initialized C ∈ gw) (h5 : Cond.code y b n r ∈ gw) : GoodIn (x :: gw) (wsV own i C y (Cond.code y b n r :: gw)) := gd_of fun w hw => by
  unfold wsV at hw
  rcases List.mem_append.mp hw with hw | hw
  · simp only [List.mem_cons, List.not_mem_nil, or_false] at hw
    rcases hw with rfl | rfl | rfl | rfl <;> assumption
  · exact gd_c h5 w hw
theorem gd_S {x : Cond} {own : String} {i : Nat} {y : MethodName} {b : ByteArray} {n : Nat} {r : Option FieldType} (h1 : Cond.methodLink own i y ∈ gw) (h2 : Cond.static y ∈ gw) (h4 : Cond.initialized y.cls ∈ gw) (h5 : Cond.code y b n r ∈ gw) : GoodIn (x :: gw) (va_wsS own i y (Cond.code y b n r :: gw)) := gd_of fun w hw => by
  unfold va_wsS at hw
  rcases List.mem_append.mp hw with hw | hw
  · simp only [List.mem_cons, List.not_mem_nil, or_false] at hw
    rcases hw with rfl | rfl | rfl <;> assumption
  · exact gd_c h5 w hw
theorem gd_N {x : Cond} {y : MethodName} {b : ByteArray} {n : Nat} {r : Option FieldType} (h5 : Cond.code y b n r ∈ gw) : GoodIn (x :: gw) (Cond.code y b n r :: gw) := gd_of (gd_c h5)
/-! constructors: new arrays of a known class, calls that lay new cells -/
section QN
variable {p : Program} {l : Launch} {e : Env} {R : Room} {s : State} {m : MethodId} {args : Array Value} {below : List Frame} {meth : Method} {c : Code} {H : Heap} {locs : List Loc} {cells slots : Nat} {Q : State → Prop}
variable {pc : Nat} {ls : Array Slot} {rest st0 As : List Value} {A : Nat → Prop} {D : va_G} {cA : Nat → ClassId} {ws wc wr : va_W} {a : Array Value} {b : Nat} {cc : ByteArray}
theorem nk_newa (hx : p.tables.exec = Jvm.exec) (hb : c.code = cc) {atype : ArrayType} (harr : (Cond.arrayClass (newarray.typeOf atype)).before args s = true) {ty : FieldType} (hty : newarray.typeOf atype = ty) (hK : va_K D classes (tys cA) s) (hP : va_P D classes ws H) (hD : va_D A ws) (hS : va_S A s.heap H locs) (hA : ∀ q, s.heap.size ≤ q → A q)
    {n : Int32} {N' : Nat} {a0 : vp_A} (ha : ∀ cA : ClassId, vp_cell cA a0 = arrV cA N' (fun _ => defaultValue ty)) (hn : ¬ n < 0) (hN : n.toNatClampNeg = N') (hbytes : N' * componentBytes ty ≤ 536870912) (hcells : cells + 1 ≤ R.cells) (hslots : slots + N' ≤ R.slots) (hdg : decode cc pc = .ok (.newarray atype, 2))
    (t0 : Nat) {c0 : ClassId} (ht : (tys cA)[t0]? = some (c0, ty))
    (kk : ∀ (q : Nat) (H1 : Heap), va_P D classes (ws ++ [(q, .inl (c0, a0))]) H1 → va_D A (ws ++ [(q, .inl (c0, a0))]) → va_S A s.heap H1 locs →
      W p l e R s m args below meth c H1 locs (cells + 1) (slots + N') Q (F0 m (pc + 2) ls (.ref q :: rest))) : W p l e R s m args below meth c H locs cells slots Q (F0 m pc ls (.int n :: rest)) := by
  refine va_newa hx hb harr hty hK hP hD hS hA ha hn hN hbytes hcells hslots hdg (fun q c1 H1 hK1 hP1 hD1 hS1 => ?_)
  have e1 := (hK1.2 (tys cA).length (c1, ty) (by simp)).2
  have e2 := (hK.2 t0 (c0, ty) ht).2
  have hc : c1 = c0 := by
    cases atype <;> subst hty <;> exact Option.some.inj (e1.symm.trans e2)
  subst hc
  exact kk q H1 hP1 hD1 hS1
theorem q_c {S : Type} {w1 : S → va_W} {mc ms : Nat} (hr : va_Run p l e R s m args below meth c H locs cells slots mc ms (F0 m pc ls st0) rest (va_Qv (fun (_ : Unit) => True) (fun _ t => ∃ u : S, aR D cA (va_A wc H.size) (w1 u) t) (va_A wc H.size) a) (va_A wc H.size)) (hP : va_P D classes ws H) (hD : va_D A ws) (hS : va_S A s.heap H locs) (hA : ∀ q, s.heap.size ≤ q → A q)
    (isC isR : List Nat) (hC : isC.map (fun i => ws[i]?) = wc.map some) (hR : isR.map (fun i => ws[i]?) = wr.map some) (hn : va_nd isR = true) (hd : ∀ i ∈ isR, i ∉ isC)
    (kk : ∀ (u : S) (H1 : Heap) (locs1 : List Loc), va_P D classes (wr ++ w1 u) H1 → va_D A (wr ++ w1 u) → va_S A s.heap H1 locs1 → W p l e R s m args below meth c H1 locs1 (cells + mc) (slots + ms) Q (F0 m (pc + 3) ls rest)) : W p l e R s m args below meth c H locs cells slots Q (F0 m pc ls st0) := by
  have hF := va_free (wc := wc) hD hS hA isC hC
  refine va_callv hr hS (fun q _ h => hF q h) hF (fun _ t H1 locs1 ht hvm hw hB hz hk hS1 => ?_)
  obtain ⟨u, hP1, hK1, hD1⟩ := hB
  rw [ht] at hP1
  obtain ⟨hP2, hD2⟩ := va_join hP hD isC isR hC hR hn hd hk hF hP1 hD1
  exact kk u H1 locs1 hP2 hD2 hS1
end QN
