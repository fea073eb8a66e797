/-! what holds at the law's entry -/
theorem fb_flat : ∀ j : Nat, j < 16 → Cond.eq (.elem (.static "RoundJournal$Blocks" "FOUR_BITS" "[I") (.int (Int32.ofNat j))) (.int (fb j)) ∈ flatC (Jvm.Cond.and given_1 narrow_1) := by decide +kernel
def strOk : Cond → Bool
  | .stringRef o k _ => decide (Cond.exactly (.string o k) "java/lang/String" ∈ flatC (Jvm.Cond.and given_1 narrow_1))
  | _ => true
theorem str_flat : lw_tbl.all strOk = true := by decide +kernel
theorem ev_start {s : State} {b : Nat} (hts : ∀ w ∈ lw_tbl, w.before #[Value.ref b] s = true) (hgv : (Jvm.Cond.and given_1 narrow_1).before #[Value.ref b] s = true) : ev (fun q => s.heap.size ≤ q) s := by
  have hA : ∀ a : Nat, a < s.heap.size → ¬ (fun q : Nat => s.heap.size ≤ q) a := fun a h => Nat.not_le.mpr h
  have hn := flat_of_before _ hgv
  have h34 : (Cond.initialized Bundle.tN).before #[Value.ref b] s = true := hts _ (List.mem_of_getElem? (i := 34) (by decide +kernel))
  have hUs : (Cond.laysStatic Bundle.tN "UNASSIGNED_STACK" Bundle.steD).before #[Value.ref b] s = true := hts _ (List.mem_of_getElem? (i := 391) (by decide +kernel))
  have hSs : (Cond.laysStatic Bundle.tN "SUPPRESSED_SENTINEL" Bundle.listD).before #[Value.ref b] s = true := hts _ (List.mem_of_getElem? (i := 393) (by decide +kernel))
  refine ⟨fun w hw => ?_, ?_, fun k tx hk => ?_, ⟨?_, ?_⟩, ⟨?_, ?_⟩, ?_⟩
  · have h := List.mem_filter.mp hw
    exact va_Nw.of (by have h2 := h.2; cases w <;> first | rfl | (simp [nwOk] at h2)) (hts w h.1)
  · obtain ⟨t, ht, hT⟩ := va_Tof (args := #[Value.ref b]) (s := s) (N := 16) (f := fun j => .int (fb j)) (ty := .int) (tm := .static "RoundJournal$Blocks" "FOUR_BITS" "[I") (A := fun q : Nat => s.heap.size ≤ q) (by decide) (hn _ (by decide +kernel)) (va_eqt (z := Int32.ofNat 16) (hn _ (by decide +kernel))) (fun j hj => va_eqt (hn _ (fb_flat j hj))) hA
    exact ⟨t, va_Zof (hts (.laysStatic "RoundJournal$Blocks" "FOUR_BITS" "[I") (List.mem_of_getElem? (i := 199) (by decide +kernel))) (hts (.initialized "RoundJournal$Blocks") (List.mem_of_getElem? (i := 26) (by decide +kernel))) ht hA, hT⟩
  · have h1 := List.all_eq_true.mp str_flat _ hk
    have h2 : Cond.exactly (.string R_RJ k) "java/lang/String" ∈ flatC (Jvm.Cond.and given_1 narrow_1) := of_decide_eq_true h1
    obtain ⟨a, -, -, -, ha, -⟩ := Cond.exactly_spec (hn _ h2)
    exact ⟨a, vk_R.of (hts _ hk) ha⟩
  · exact va_Zqof hUs h34 (hn _ (by decide +kernel)) hA
  · obtain ⟨c, k, i, f, a, cell, hc, hi, hst, ha, hcell, hs, hcls, hlt, hty⟩ := Cond.laysStatic_spec hUs
    exact ⟨c, k, i, f, a, cell, hc, hi, hst, ha, hcell, hs, hcls, hlt, hty, hA a (Array.getElem?_eq_some_iff.mp hcell).1⟩
  · exact va_Zqof hSs h34 (hn _ (by decide +kernel)) hA
  · obtain ⟨c, k, i, f, a, cell, hc, hi, hst, ha, hcell, hs, hcls, hlt, hty⟩ := Cond.laysStatic_spec hSs
    exact ⟨c, k, i, f, a, cell, hc, hi, hst, ha, hcell, hs, hcls, hlt, hty, hA a (Array.getElem?_eq_some_iff.mp hcell).1⟩
  · exact va_Nc.of (hn (.not (.castable "java/lang/IllegalStateException" "java/lang/IllegalArgumentException")) (by decide +kernel))
theorem arr_start {s : State} {a : Array Value} {ty : FieldType} (h : (Cond.arrayClass ty).before a s = true) : ∃ c : ClassId, ArrOfT s c ty ∧ s.vm.findClass ("[" ++ ty.toString) = some c := by
  obtain ⟨c, k, comp, h1, h2, h3⟩ := Cond.arrayClass_spec h
  exact ⟨c, fun n z => ⟨fun k h => (by cases h), k, h2, comp, h3⟩, h1⟩
theorem k_start {s : State} {b : Nat} (hts : ∀ w ∈ lw_tbl, w.before #[Value.ref b] s = true) : ∃ (D : va_G) (cA : Nat → ClassId), va_K D classes (tys cA) s := by
  obtain ⟨c0, i0, h0⟩ := u_known (C := R_Bl) (T := F_Bl) (N := 2) (n := 2) hts (fun w h => gw_tbl (gu_Bl w h)) (hts _ (List.mem_of_getElem? (i := 51) (by decide +kernel)))
  obtain ⟨c1, i1, h1⟩ := u_known (C := R_Hd) (T := F_Hd) (N := 3) (n := 3) hts (fun w h => gw_tbl (gu_Hd w h)) (hts _ (List.mem_of_getElem? (i := 137) (by decide +kernel)))
  obtain ⟨c2, i2, h2⟩ := u_known (C := R_Pg) (T := F_Pg) (N := 4) (n := 4) hts (fun w h => gw_tbl (gu_Pg w h)) (hts _ (List.mem_of_getElem? (i := 92) (by decide +kernel)))
  obtain ⟨c3, i3, h3⟩ := u_known (C := R_Rc) (T := F_Rc) (N := 4) (n := 4) hts (fun w h => gw_tbl (gu_Rc w h)) (hts _ (List.mem_of_getElem? (i := 116) (by decide +kernel)))
  obtain ⟨c4, i4, h4⟩ := u_known (C := R_Tp) (T := F_Tp) (N := 2) (n := 2) hts (fun w h => gw_tbl (gu_Tp w h)) (hts _ (List.mem_of_getElem? (i := 156) (by decide +kernel)))
  obtain ⟨c5, i5, h5⟩ := u_known (C := R_Wt) (T := F_Wt) (N := 3) (n := 3) hts (fun w h => gw_tbl (gu_Wt w h)) (hts _ (List.mem_of_getElem? (i := 71) (by decide +kernel)))
  obtain ⟨c6, i6, h6⟩ := u_known (C := R_RJ) (T := F_RJ) (N := 9) (n := 9) hts (fun w h => gw_tbl (gu_RJ w h)) (hts _ (List.mem_of_getElem? (i := 43) (by decide +kernel)))
  obtain ⟨c7, i7, h7⟩ := u_known (C := R_Re) (T := F_Re) (N := 5) (n := 5) hts (fun w h => gw_tbl (gu_Re w h)) (hts _ (List.mem_of_getElem? (i := 680) (by decide +kernel)))
  obtain ⟨c8, i8, h8⟩ := u_known (C := R_Md) (T := F_Md) (N := 21) (n := 21) hts (fun w h => gw_tbl (gu_Md w h)) (hts _ (List.mem_of_getElem? (i := 561) (by decide +kernel)))
  obtain ⟨aI, e0, f0⟩ := arr_start (ty := .int) (hts _ (List.mem_of_getElem? (i := 90) (by decide +kernel)))
  obtain ⟨aB, e1, f1⟩ := arr_start (ty := .byte) (hts _ (List.mem_of_getElem? (i := 69) (by decide +kernel)))
  obtain ⟨aJ, e2, f2⟩ := arr_start (ty := .long) (hts _ (List.mem_of_getElem? (i := 778) (by decide +kernel)))
  refine ⟨(fun k => match k with | 0 => c0 | 1 => c1 | 2 => c2 | 3 => c3 | 4 => c4 | 5 => c5 | 6 => c6 | 7 => c7 | _ => c8, fun k => match k with | 0 => i0 | 1 => i1 | 2 => i2 | 3 => i3 | 4 => i4 | 5 => i5 | 6 => i6 | 7 => i7 | _ => i8), fun k => match k with | 0 => aI | 1 => aB | _ => aJ, fun k q hq => ?_, fun k q hq => ?_⟩
  · match k, hq with
    | 0, hq => cases hq; exact h0
    | 1, hq => cases hq; exact h1
    | 2, hq => cases hq; exact h2
    | 3, hq => cases hq; exact h3
    | 4, hq => cases hq; exact h4
    | 5, hq => cases hq; exact h5
    | 6, hq => cases hq; exact h6
    | 7, hq => cases hq; exact h7
    | 8, hq => cases hq; exact h8
    | k + 9, hq => simp [classes] at hq
  · match k, hq with
    | 0, hq => cases hq; exact ⟨e0, f0⟩
    | 1, hq => cases hq; exact ⟨e1, f1⟩
    | 2, hq => cases hq; exact ⟨e2, f2⟩
    | k + 3, hq => simp [tys] at hq
