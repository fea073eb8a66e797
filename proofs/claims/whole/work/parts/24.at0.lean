/-- what 'at' answers: nothing, or a record of the chain -/
def atp (L : List PR) (o : Option NV) (r : Option Nat) : Prop := (o = none ∧ r = none) ∨ ∃ (pre : List PR) (x : PR) (t : List PR), L = pre ++ x :: t ∧ o = some (pV x) ∧ r = some x.1
section QT
variable {p : Program} {l : Launch} {e : Env} {R : Room} {s : State} {m : MethodId} {args : Array Value} {below : List Frame} {meth : Method} {c : Code} {H : Heap} {locs : List Loc} {cells slots : Nat} {Q : State → Prop}
variable {pc : Nat} {ls : Array Slot} {rest st0 As : List Value} {A : Nat → Prop} {D : va_G} {cA : Nat → ClassId} {X cx : va_W} {L : List PR} {a : Array Value}
theorem q_at {o9 : Option NV} (hr : va_Run p l e R s m args below meth c H locs cells slots 0 0 (F0 m pc ls st0) rest (va_Qq (fun r (_ : Unit) => atp L o9 r) (fun _ => aR D cA (va_A (cx ++ rl cA L) H.size) (cx ++ rl cA L)) (va_A (cx ++ rl cA L) H.size) a) (va_A (cx ++ rl cA L) H.size)) (hD : va_D A (X ++ rl cA L)) (hS : va_S A s.heap H locs) (hA : ∀ q, s.heap.size ≤ q → A q)
    (isC : List Nat) (hnC : va_nd isC = true) (hC : isC.map (fun i => X[i]?) = cx.map some)
    (kn : ∀ (H1 : Heap) (locs1 : List Loc), o9 = none → va_P D classes (cx ++ rl cA L) H1 → va_D A (cx ++ rl cA L) → va_S A s.heap H1 locs1 → W p l e R s m args below meth c H1 locs1 cells slots Q (F0 m (pc + 3) ls (.null :: rest)))
    (ks : ∀ (pre : List PR) (r : PR) (t : List PR) (H1 : Heap) (locs1 : List Loc), L = pre ++ r :: t → o9 = some (pV r) → va_P D classes (cx ++ rl cA L) H1 → va_D A (cx ++ rl cA L) → va_S A s.heap H1 locs1 → W p l e R s m args below meth c H1 locs1 cells slots Q (F0 m (pc + 3) ls (.ref r.1 :: rest))) :
    W p l e R s m args below meth c H locs cells slots Q (F0 m pc ls st0) := by
  have hD0 := va_D.part hD isC hnC hC
  have hF := q_freeP hD0 hS hA
  refine va_callq hr hS (fun q _ h => hF q h) hF (fun r u t H1 locs1 ht hvm hw hB hz hk hS1 => ?_)
  obtain ⟨hP1, hK1, hD1⟩ := hB
  rw [ht] at hP1
  have hD2 : va_D A (cx ++ rl cA L) := hD1.weaken (fun _ _ _ h => hF _ h)
  rcases hw with ⟨h1, rfl⟩ | ⟨pre, x, t9, h1, h2, rfl⟩
  · exact kn H1 locs1 h1 hP1 hD2 hS1
  · exact ks pre x t9 H1 locs1 h1 h2 hP1 hD2 hS1
end QT
