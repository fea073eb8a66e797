/-! the reference's chain of records: a record is (its address, its array's address, number, kind, page, length, bytes) -/
abbrev NV : Type := Int32 × Int32 × Int32 × Nat × (Nat → Int32)
abbrev PR : Type := Nat × Nat × NV
def pV (r : PR) : NV := r.2.2
def hdv : List PR → Value
  | [] => .null
  | r :: _ => .ref r.1
def lsv : List PR → Value
  | [] => .null
  | r :: t => match t with
    | [] => .ref r.1
    | _ :: _ => lsv t
def rl (cA : Nat → ClassId) : List PR → va_W
  | [] => []
  | r :: t => (r.1, .inr (7, [.int r.2.2.1, .int r.2.2.2.1, .int r.2.2.2.2.1, .ref r.2.1, hdv t])) :: (r.2.1, .inl (cA 0, r.2.2.2.2.2.1, .inl r.2.2.2.2.2.2)) :: rl cA t
theorem rl_at (cA : Nat → ClassId) (pre : List PR) (r : PR) (t : List PR) : (rl cA (pre ++ r :: t))[2 * pre.length]? = some (r.1, .inr (7, [.int r.2.2.1, .int r.2.2.2.1, .int r.2.2.2.2.1, .ref r.2.1, hdv t])) ∧ (rl cA (pre ++ r :: t))[2 * pre.length + 1]? = some (r.2.1, .inl (cA 0, r.2.2.2.2.2.1, .inl r.2.2.2.2.2.2)) := by
  induction pre with
  | nil => exact ⟨rfl, rfl⟩
  | cons z p ih =>
    rw [show 2 * (z :: p).length = 2 * p.length + 1 + 1 by simp only [List.length_cons]; omega]
    exact ih
theorem rl_rec {cA : Nat → ClassId} (X : va_W) (pre : List PR) (r : PR) (t : List PR) : (X ++ rl cA (pre ++ r :: t))[X.length + 2 * pre.length]? = some (r.1, .inr (7, [.int r.2.2.1, .int r.2.2.2.1, .int r.2.2.2.2.1, .ref r.2.1, hdv t])) := by
  rw [List.getElem?_append_right (by omega), Nat.add_sub_cancel_left]
  exact (rl_at cA pre r t).1
theorem rl_arr {cA : Nat → ClassId} (X : va_W) (pre : List PR) (r : PR) (t : List PR) : (X ++ rl cA (pre ++ r :: t))[X.length + 2 * pre.length + 1]? = some (r.2.1, .inl (cA 0, r.2.2.2.2.2.1, .inl r.2.2.2.2.2.2)) := by
  rw [List.getElem?_append_right (by omega), show X.length + 2 * pre.length + 1 - X.length = 2 * pre.length + 1 by omega]
  exact (rl_at cA pre r t).2
section QP
variable {p : Program} {l : Launch} {e : Env} {R : Room} {s : State} {m : MethodId} {args : Array Value} {below : List Frame} {meth : Method} {c : Code} {H : Heap} {locs : List Loc} {cells slots : Nat} {Q : State → Prop}
variable {pc : Nat} {ls : Array Slot} {rest st0 As : List Value} {A : Nat → Prop} {D : va_G} {cA : Nat → ClassId} {X cx wc wr w1 pl pl1 : va_W} {a : Array Value} {b : Nat}
/-- a callee that wants some fixed cells alone -/
theorem q_iQ {rv : Int32} (hr : va_Run p l e R s m args below meth c H locs cells slots 0 0 (F0 m pc ls st0) rest (va_Qi (fun r (_ : Unit) => r = rv) (fun _ => aR D cA (va_A wc H.size) w1) (va_A wc H.size) a) (va_A wc H.size)) (hP : va_P D classes (X ++ pl) H) (hD : va_D A (X ++ pl)) (hS : va_S A s.heap H locs) (hA : ∀ q, s.heap.size ≤ q → A q)
    (isC isR : List Nat) (hC : isC.map (fun i => X[i]?) = wc.map some) (hC2 : isC.map (fun i => (X ++ pl)[i]?) = wc.map some) (hR : isR.map (fun i => X[i]?) = wr.map some) (hn : va_nd isR = true) (hd : ∀ i ∈ isR, i ∉ isC)
    (kk : ∀ (H1 : Heap) (locs1 : List Loc), va_P D classes ((wr ++ w1) ++ pl) H1 → va_D A ((wr ++ w1) ++ pl) → va_S A s.heap H1 locs1 → W p l e R s m args below meth c H1 locs1 cells slots Q (F0 m (pc + 3) ls (.int rv :: rest))) : W p l e R s m args below meth c H locs cells slots Q (F0 m pc ls st0) := by
  have hF := va_free (wc := wc) hD hS hA isC hC2
  refine va_calli hr hS (fun q _ h => hF q h) hF (fun r u t H1 locs1 ht hvm hw hB hz hk hS1 => ?_)
  obtain ⟨hP1, hK1, hD1⟩ := hB
  rw [ht] at hP1
  obtain ⟨hP2, hD2⟩ := va_joinQ hP hD isC isR hC hR hn hd hk hF hP1 hD1
  rw [hw]
  exact kk H1 locs1 hP2 hD2 hS1
theorem q_vQ (hr : va_Run p l e R s m args below meth c H locs cells slots 0 0 (F0 m pc ls st0) rest (va_Qv (fun (_ : Unit) => True) (fun _ => aR D cA (va_A wc H.size) w1) (va_A wc H.size) a) (va_A wc H.size)) (hP : va_P D classes (X ++ pl) H) (hD : va_D A (X ++ pl)) (hS : va_S A s.heap H locs) (hA : ∀ q, s.heap.size ≤ q → A q)
    (isC isR : List Nat) (hC : isC.map (fun i => X[i]?) = wc.map some) (hC2 : isC.map (fun i => (X ++ pl)[i]?) = wc.map some) (hR : isR.map (fun i => X[i]?) = wr.map some) (hn : va_nd isR = true) (hd : ∀ i ∈ isR, i ∉ isC)
    (kk : ∀ (H1 : Heap) (locs1 : List Loc), va_P D classes ((wr ++ w1) ++ pl) H1 → va_D A ((wr ++ w1) ++ pl) → va_S A s.heap H1 locs1 → W p l e R s m args below meth c H1 locs1 cells slots Q (F0 m (pc + 3) ls rest)) : W p l e R s m args below meth c H locs cells slots Q (F0 m pc ls st0) := by
  have hF := va_free (wc := wc) hD hS hA isC hC2
  refine va_callv hr hS (fun q _ h => hF q h) hF (fun u t H1 locs1 ht hvm hw hB hz hk hS1 => ?_)
  obtain ⟨hP1, hK1, hD1⟩ := hB
  rw [ht] at hP1
  obtain ⟨hP2, hD2⟩ := va_joinQ hP hD isC isR hC hR hn hd hk hF hP1 hD1
  exact kk H1 locs1 hP2 hD2 hS1
/-- a callee that wants some fixed cells and the chain -/
theorem q_freeP (hD : va_D A (cx ++ pl)) (hS : va_S A s.heap H locs) (hA : ∀ q, s.heap.size ≤ q → A q) : ∀ q, va_A (cx ++ pl) H.size q → A q := by
  intro q hq
  rcases hq with ⟨k, e9, hk⟩ | h
  · exact hD.2 k _ hk
  · exact hA q (Nat.le_trans hS.1 h)
theorem q_pVP {C : String} {ci : Nat} {q : vw_C} {fs : List Value} (hK : va_K D classes (tys cA) s) (hP : va_P D classes (X ++ pl) H) (hD : va_D A (X ++ pl)) (hS : va_S A s.heap H locs) (hA : ∀ q, s.heap.size ≤ q → A q) (hE : ev A s) (isC : List Nat) (hn : va_nd isC = true) (hC : isC.map (fun i => X[i]?) = cx.map some)
    (h0 : (cx ++ pl)[0]? = some (b, .inr (ci, fs))) (hc : classes[ci]? = some q) (hq : q.1 = C) : PreV s H C b (va_Pc (.ref b :: As) (aP D cA (cx ++ pl) H.size)) As := by
  subst hq
  have hP1 := va_P.part hP isC hC
  have hD1 := va_D.part hD isC hn hC
  exact ⟨aP_blind, va_recv hK hP1 hc h0, fun U hU hW => ⟨rfl, by rw [hU], by rw [hU]; exact hP1, va_K.moved hW.alike hK, hD1.weaken (fun _ _ _ _ => trivial), hE.to hS (q_freeP hD1 hS hA) hU hW⟩⟩
theorem q_vP {mc ms : Nat} {T : Type} {rx : T → va_W} {px : T → va_W} {Pp : T → Prop} (hr : va_Run p l e R s m args below meth c H locs cells slots mc ms (F0 m pc ls st0) rest (va_Qv (fun (_ : Unit) => True) (fun _ t => ∃ u : T, Pp u ∧ aR D cA (va_A (cx ++ pl) H.size) (rx u ++ px u) t) (va_A (cx ++ pl) H.size) a) (va_A (cx ++ pl) H.size)) (hP : va_P D classes (X ++ pl) H) (hD : va_D A (X ++ pl)) (hS : va_S A s.heap H locs) (hA : ∀ q, s.heap.size ≤ q → A q)
    (isC isR : List Nat) (hnC : va_nd isC = true) (hC : isC.map (fun i => X[i]?) = cx.map some) (hR : isR.map (fun i => X[i]?) = wr.map some) (hn : va_nd isR = true) (hd : ∀ i ∈ isR, i ∉ isC)
    (kk : ∀ (u : T) (H1 : Heap) (locs1 : List Loc), Pp u → va_P D classes ((wr ++ rx u) ++ px u) H1 → va_D A ((wr ++ rx u) ++ px u) → va_S A s.heap H1 locs1 → W p l e R s m args below meth c H1 locs1 (cells + mc) (slots + ms) Q (F0 m (pc + 3) ls rest)) : W p l e R s m args below meth c H locs cells slots Q (F0 m pc ls st0) := by
  have hF := q_freeP (va_D.part hD isC hnC hC) hS hA
  refine va_callv hr hS (fun q _ h => hF q h) hF (fun u t H1 locs1 ht hvm hw hB hz hk hS1 => ?_)
  obtain ⟨v, hv, hP1, hK1, hD1⟩ := hB
  rw [ht] at hP1
  obtain ⟨hP2, hD2⟩ := va_joinP hP hD isC isR hC hR hn hd hk hF hP1 hD1
  exact kk v H1 locs1 hv hP2 hD2 hS1
theorem q_iP {mc ms : Nat} {T : Type} {rx : T → va_W} {px : T → va_W} {Pp : T → Prop} {rv : Int32} (hr : va_Run p l e R s m args below meth c H locs cells slots mc ms (F0 m pc ls st0) rest (va_Qi (fun r (_ : Unit) => r = rv) (fun _ t => ∃ u : T, Pp u ∧ aR D cA (va_A (cx ++ pl) H.size) (rx u ++ px u) t) (va_A (cx ++ pl) H.size) a) (va_A (cx ++ pl) H.size)) (hP : va_P D classes (X ++ pl) H) (hD : va_D A (X ++ pl)) (hS : va_S A s.heap H locs) (hA : ∀ q, s.heap.size ≤ q → A q)
    (isC isR : List Nat) (hnC : va_nd isC = true) (hC : isC.map (fun i => X[i]?) = cx.map some) (hR : isR.map (fun i => X[i]?) = wr.map some) (hn : va_nd isR = true) (hd : ∀ i ∈ isR, i ∉ isC)
    (kk : ∀ (u : T) (H1 : Heap) (locs1 : List Loc), Pp u → va_P D classes ((wr ++ rx u) ++ px u) H1 → va_D A ((wr ++ rx u) ++ px u) → va_S A s.heap H1 locs1 → W p l e R s m args below meth c H1 locs1 (cells + mc) (slots + ms) Q (F0 m (pc + 3) ls (.int rv :: rest))) : W p l e R s m args below meth c H locs cells slots Q (F0 m pc ls st0) := by
  have hF := q_freeP (va_D.part hD isC hnC hC) hS hA
  refine va_calli hr hS (fun q _ h => hF q h) hF (fun r u t H1 locs1 ht hvm hw hB hz hk hS1 => ?_)
  obtain ⟨v, hv, hP1, hK1, hD1⟩ := hB
  rw [ht] at hP1
  obtain ⟨hP2, hD2⟩ := va_joinP hP hD isC isR hC hR hn hd hk hF hP1 hD1
  rw [hw]
  exact kk v H1 locs1 hv hP2 hD2 hS1
end QP
section QA
variable {p : Program} {l : Launch} {e : Env} {R : Room} {s : State} {m : MethodId} {args : Array Value} {below : List Frame} {meth : Method} {c : Code} {H : Heap} {locs : List Loc} {cells slots : Nat} {Q : State → Prop}
variable {cc : ByteArray} {pc : Nat} {ls : Array Slot} {rest : List Value}
theorem nk_astore_n {L : List PR} (hexec : p.tables.exec = Jvm.exec) (hb : c.code = cc) {k : Fin 4} {i nL : Nat} {lv lv' : List (Nat × Value)} (hdg : decode cc pc = .ok (.astore_n k, 1)) (hi : (k : Nat) = i) (h : lv_has ls nL lv) (hn : i < nL) (hl : (i, hdv L) :: lv.filter (fun q => !(q.1 == i) && !(q.1 + 1 == i && q.2.category == 2)) = lv')
    (kk : ∀ ls' : Array Slot, lv_has ls' nL lv' → W p l e R s m args below meth c H locs cells slots Q (F0 m (pc + 1) ls' rest)) : W p l e R s m args below meth c H locs cells slots Q (F0 m pc ls (hdv L :: rest)) := by
  cases L with
  | nil => exact lv_astore_nN hexec hb hdg hi h hn hl kk
  | cons r t => exact lv_astore_n hexec hb hdg hi h hn hl kk
end QA
theorem rl_shift (cA : Nat → ClassId) (pre u : List PR) (k : Nat) : (rl cA (pre ++ u))[2 * pre.length + k]? = (rl cA u)[k]? := by
  induction pre with
  | nil => simp
  | cons z p ih =>
    rw [show 2 * (z :: p).length + k = (2 * p.length + k) + 1 + 1 by simp only [List.length_cons]; omega]
    exact ih
theorem rl_len (cA : Nat → ClassId) (u : List PR) : (rl cA u).length = 2 * u.length := by
  induction u with
  | nil => rfl
  | cons z p ih => simp only [rl, List.length_cons, ih]; omega
theorem rl_drop_at (cA : Nat → ClassId) (X : va_W) (pre u : List PR) (k : Nat) (q : Nat × va_E) (h : (X ++ rl cA u)[k]? = some q) : (X ++ rl cA (pre ++ u))[if k < X.length then k else k + 2 * pre.length]? = some q := by
  by_cases hk : k < X.length
  · rw [if_pos hk, List.getElem?_append_left hk]
    rw [List.getElem?_append_left hk] at h
    exact h
  · rw [if_neg hk, List.getElem?_append_right (by omega), show k + 2 * pre.length - X.length = 2 * pre.length + (k - X.length) by omega, rl_shift]
    rw [List.getElem?_append_right (by omega)] at h
    exact h
theorem rl_dropP {D : va_G} {cA : Nat → ClassId} {X : va_W} {L pre u : List PR} {H : Heap} (hL : L = pre ++ u) (h : va_P D classes (X ++ rl cA L) H) : va_P D classes (X ++ rl cA u) H := by
  subst hL
  exact h.by _ (rl_drop_at cA X pre u)
theorem rl_dropD {A : Nat → Prop} {cA : Nat → ClassId} {X : va_W} {L pre u : List PR} (hL : L = pre ++ u) (h : va_D A (X ++ rl cA L)) : va_D A (X ++ rl cA u) := by
  subst hL
  refine h.by _ (rl_drop_at cA X pre u) (fun i j _ _ e => ?_)
  split at e <;> split at e <;> omega
theorem lsv_app (pre : List PR) (r : PR) (t : List PR) : lsv (pre ++ r :: t) = lsv (r :: t) := by
  induction pre with
  | nil => rfl
  | cons z p ih =>
    have e : lsv (z :: (p ++ r :: t)) = lsv (p ++ r :: t) := by
      cases p with
      | nil => rfl
      | cons y q => rfl
    exact e.trans ih
theorem lsv_end (pre : List PR) (r : PR) : lsv (pre ++ [r]) = .ref r.1 := lsv_app pre r []
theorem hdv_fits (C : String) (t : List PR) : fits (.object C) (hdv t) = true := by cases t <;> rfl
