/-- what 'at' answers: nothing, or a record of the chain -/
def atp (L : List PR) (o : Option NV) (r : Option Nat) : Prop := (o = none ∧ r = none) ∨ ∃ (pre : List PR) (x : PR) (t : List PR), L = pre ++ x :: t ∧ o = some (pV x) ∧ r = some x.1
section QT
variable {p : Program} {l : Launch} {e : Env} {R : Room} {s : State} {m : MethodId} {args : Array Value} {below : List Frame} {meth : Method} {c : Code} {H : Heap} {locs : List Loc} {cells slots : Nat} {Q : State → Prop}
variable {pc : Nat} {ls : Array Slot} {rest st0 As : List Value} {A : Nat → Prop} {D : va_G} {cA : Nat → ClassId} {X cx : va_W} {L : List PR} {a : Array Value}
theorem q_at {o9 : Option NV} (hr : va_Run p l e R s m args below meth c H locs cells slots 0 0 (F0 m pc ls st0) rest (va_Qq (fun r (_ : Unit) => atp L o9 r) (fun _ => aR D cA (va_A (cx ++ rl cA L) H.size) (cx ++ rl cA L)) (va_A (cx ++ rl cA L) H.size) a) (va_A (cx ++ rl cA L) H.size)) (hD : va_D A (X ++ rl cA L)) (hS : va_S A s.heap H locs) (hA : ∀ q, s.heap.size ≤ q → A q)
    (isC : List Nat) (hnC : va_nd isC = true) (hC : isC.map (fun i => X[i]?) = cx.map some)
    (kn : ∀ (H1 : Heap) (locs1 : List Loc), o9 = none → va_P D classes (cx ++ rl cA L) H1 → va_D A (cx ++ rl cA L) → va_S A s.heap H1 locs1 → W p l e R s m args below meth c H1 locs1 cells slots Q (F0 m (pc + 3) ls (.null :: rest)))
    (ks : ∀ (pre : List PR) (r : PR) (t : List PR) (H1 : Heap) (locs1 : List Loc), L = pre ++ r :: t → o9 = some (pV r) → va_P D classes (cx ++ rl cA L) H1 → va_D A (cx ++ rl cA L) → va_S A s.heap H1 locs1 → W p l e R s m args below meth c H1 locs1 cells slots Q (F0 m (pc + 3) ls (.ref r.1 :: rest))) :
    W p l e R s m args below meth c H locs cells slots Q (F0 m pc ls st0) := by
  have hD0 := va_D.part hD isC hnC hC
  have hF := q_freeP hD0 hS hA
  refine va_callq hr hS (fun q _ h => hF q h) hF (fun r u t H1 locs1 ht hvm hw hB hz hk hS1 => ?_)
  obtain ⟨hP1, hK1, hD1⟩ := hB
  rw [ht] at hP1
  have hD2 : va_D A (cx ++ rl cA L) := hD1.weaken (fun _ _ _ h => hF _ h)
  rcases hw with ⟨h1, rfl⟩ | ⟨pre, x, t9, h1, h2, rfl⟩
  · exact kn H1 locs1 h1 hP1 hD2 hS1
  · exact ks pre x t9 H1 locs1 h1 h2 hP1 hD2 hS1
end QT
theorem lsv_case (L : List PR) : L = [] ∨ ∃ (pre : List PR) (z : PR), L = pre ++ [z] := by
  rcases List.eq_nil_or_concat L with h | ⟨pre, z, h⟩
  · exact Or.inl h
  · exact Or.inr ⟨pre, z, by simpa using h⟩
theorem set_app {α : Type} (X Y : List α) (k : Nat) (c : α) : (X ++ Y).set (X.length + k) c = X ++ Y.set k c := by
  induction X with
  | nil => simp
  | cons a t ih =>
    rw [show (a :: t).length + k = (t.length + k) + 1 by simp only [List.length_cons]; omega]
    show a :: (t ++ Y).set (t.length + k) c = a :: (t ++ Y.set k c)
    rw [ih]
theorem rl_setX (X : va_W) (h : X.length = 8) {Y : va_W} {k : Nat} {c : Nat × va_E} : (X ++ Y).set (8 + k) c = X ++ Y.set k c := by
  have := set_app X Y k c
  rw [h] at this
  exact this
theorem rl_snoc (cA : Nat → ClassId) (pre : List PR) (z r : PR) : (rl cA (pre ++ [z])).set (2 * pre.length) (z.1, .inr (7, [.int z.2.2.1, .int z.2.2.2.1, .int z.2.2.2.2.1, .ref z.2.1, .ref r.1])) ++ [(r.1, .inr (7, [.int r.2.2.1, .int r.2.2.2.1, .int r.2.2.2.2.1, .ref r.2.1, .null])), (r.2.1, .inl (cA 0, r.2.2.2.2.2.1, .inl r.2.2.2.2.2.2))] = rl cA (pre ++ [z] ++ [r]) := by
  induction pre with
  | nil => rfl
  | cons y p ih =>
    rw [show 2 * (y :: p).length = 2 * p.length + 1 + 1 by simp only [List.length_cons]; omega]
    have e : hdv (p ++ [z]) = hdv (p ++ [z] ++ [r]) := by cases p <;> rfl
    show (y.1, Sum.inr (7, [_, _, _, _, hdv (p ++ [z])])) :: _ :: ((rl cA (p ++ [z])).set (2 * p.length) _ ++ _) = (y.1, Sum.inr (7, [_, _, _, _, hdv (p ++ [z] ++ [r])])) :: _ :: rl cA (p ++ [z] ++ [r])
    rw [ih, e]
