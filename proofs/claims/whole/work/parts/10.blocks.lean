theorem gm_0 : (.fieldLink R_Bl 18 "RoundJournal$Blocks" "count" "I" : Cond) ∈ gw := gw_in (i := 62) (by decide +kernel) rfl
theorem gm_1 : (.code y_Bl_has b_Bl_has 3 (some .boolean) : Cond) ∈ gw := gw_in (i := 185) (by decide +kernel) rfl
theorem gm_2 : (.methodLink R_Bl 28 y_Bl_has : Cond) ∈ gw := gw_in (i := 182) (by decide +kernel) rfl
theorem gm_3 : (.instanceMethod y_Bl_has : Cond) ∈ gw := gw_in (i := 183) (by decide +kernel) rfl
theorem gm_4 : (.selects R_Bl y_Bl_has y_Bl_has : Cond) ∈ gw := gw_in (i := 184) (by decide +kernel) rfl
theorem gm_5 : (.initialized R_Bl : Cond) ∈ gw := gw_in (i := 26) (by decide +kernel) rfl
theorem gm_6 : (.fieldLink R_Bl 24 "RoundJournal$Blocks" "bytes" "[B" : Cond) ∈ gw := gw_in (i := 63) (by decide +kernel) rfl
theorem gm_7 : (.code y_Bl_set b_Bl_set 4 none : Cond) ∈ gw := gw_in (i := 181) (by decide +kernel) rfl
theorem gm_8 : (.methodLink R_Bl 32 y_Bl_set : Cond) ∈ gw := gw_in (i := 178) (by decide +kernel) rfl
theorem gm_9 : (.instanceMethod y_Bl_set : Cond) ∈ gw := gw_in (i := 179) (by decide +kernel) rfl
theorem gm_10 : (.selects R_Bl y_Bl_set y_Bl_set : Cond) ∈ gw := gw_in (i := 180) (by decide +kernel) rfl
theorem d_Bl_has_0 : decode b_Bl_has 0 = .ok (.iload_n 1, 1) := by decide +kernel
theorem d_Bl_has_1 : decode b_Bl_has 1 = .ok (.ifCond .lt 25, 3) := by decide +kernel
theorem d_Bl_has_4 : decode b_Bl_has 4 = .ok (.iload_n 1, 1) := by decide +kernel
theorem d_Bl_has_5 : decode b_Bl_has 5 = .ok (.aload_n 0, 1) := by decide +kernel
theorem d_Bl_has_6 : decode b_Bl_has 6 = .ok (.getfield 18, 3) := by decide +kernel
theorem d_Bl_has_9 : decode b_Bl_has 9 = .ok (.if_icmp .ge 17, 3) := by decide +kernel
theorem d_Bl_has_12 : decode b_Bl_has 12 = .ok (.iload_n 2, 1) := by decide +kernel
theorem d_Bl_has_13 : decode b_Bl_has 13 = .ok (.ifCond .lt 13, 3) := by decide +kernel
theorem d_Bl_has_16 : decode b_Bl_has 16 = .ok (.iload_n 2, 1) := by decide +kernel
theorem d_Bl_has_17 : decode b_Bl_has 17 = .ok (.bipush 64, 2) := by decide +kernel
theorem d_Bl_has_19 : decode b_Bl_has 19 = .ok (.if_icmp .ge 7, 3) := by decide +kernel
theorem d_Bl_has_22 : decode b_Bl_has 22 = .ok (.iconst 1, 1) := by decide +kernel
theorem d_Bl_has_23 : decode b_Bl_has 23 = .ok (.goto 4, 3) := by decide +kernel
theorem d_Bl_has_26 : decode b_Bl_has 26 = .ok (.iconst 0, 1) := by decide +kernel
theorem d_Bl_has_27 : decode b_Bl_has 27 = .ok (.ireturn, 1) := by decide +kernel
abbrev wd_Bl_has : List Cond := .code y_Bl_has b_Bl_has 3 (some .boolean) :: gw
def f_Bl_has (t_count : Int32) (n_t_bytes : Nat) (t_bytes : Nat → Int32) (p0 : Int32) (p1 : Int32) : Option (Int32) :=
  if p0 < 0 then
    some (0 : Int32)
  else
    if t_count ≤ p0 then
      some (0 : Int32)
    else
      if p1 < 0 then
        some (0 : Int32)
      else
        if (64 : Int32) ≤ p1 then
          some (0 : Int32)
        else
          some (1 : Int32)
set_option maxHeartbeats 4000000 in
set_option maxRecDepth 100000 in
theorem c_Bl_has (l : Launch) (D : va_G) (cA : Nat → ClassId) (a_t a_t_bytes : Nat) (sz : Nat) (t_count : Int32) (n_t_bytes : Nat) (t_bytes : Nat → Int32) (p0 : Int32) (p1 : Int32) (o : Int32) (hf : f_Bl_has t_count n_t_bytes t_bytes p0 p1 = some o) : Met l y_Bl_has wd_Bl_has ({ frames := 0, cells := 0, slots := 0, locals := 0 }) (va_Pc [.ref a_t, .int p0, .int p1] (aP D cA [(a_t, .inr (0, [.int t_count, .ref a_t_bytes])), (a_t_bytes, .inl ((cA 1), n_t_bytes, .inl t_bytes))] sz)) (va_Qi (fun r9 (_ : Unit) => r9 = o) (fun _ => aR D cA (va_A [(a_t, .inr (0, [.int t_count, .ref a_t_bytes])), (a_t_bytes, .inl ((cA 1), n_t_bytes, .inl t_bytes))] sz) [(a_t, .inr (0, [.int t_count, .ref a_t_bytes])), (a_t_bytes, .inl ((cA 1), n_t_bytes, .inl t_bytes))]) (va_A [(a_t, .inr (0, [.int t_count, .ref a_t_bytes])), (a_t_bytes, .inl ((cA 1), n_t_bytes, .inl t_bytes))] sz)) 0 0 (va_A [(a_t, .inr (0, [.int t_count, .ref a_t_bytes])), (a_t_bytes, .inl ((cA 1), n_t_bytes, .inl t_bytes))] sz) := by
  refine Met.ofW (cc := b_Bl_has) (maxL := 3) (ret := (some .boolean)) (by decide +kernel) rfl ?_
  intro p e s m args below meth c s₁ B hml hv
  obtain ⟨rfl, hsz, hP, hK, hD0, hE⟩ := hv
  have hx := B.exec
  have hb := B.bytes
  have hr := B.returns
  have hts := atoms_spec (ws := wd_Bl_has) B.pre
  have hown : s.vm.findClass R_Bl = some m.cls := findClass_of_methodNamed B.named
  have hlocks := B.notSynchronized
  subst hsz
  have hD := hD0.self (sz := s.heap.size)
  generalize hAe : va_A [(a_t, .inr (0, [.int t_count, .ref a_t_bytes])), (a_t_bytes, .inl ((cA 1), n_t_bytes, .inl t_bytes))] s.heap.size = A at hD hE ⊢
  have hA : ∀ q : Nat, s.heap.size ≤ q → A q := fun q h => by rw [← hAe]; exact Or.inr h
  have hS : va_S A s.heap s.heap [] := va_S.rf
  have hl := lv_entry [.ref a_t, .int p0, .int p1] (n := 3) (Nat.le_of_ble_eq_true rfl)
  rw [lg_entry_eq]
  generalize (lg_sl [.ref a_t, .int p0, .int p1] ++ List.replicate (3 - (lg_sl [.ref a_t, .int p0, .int p1]).length) Slot.unset).toArray = ls at hl ⊢
  have hl : lv_has ls 3 [(0, .ref a_t), (1, .int p0), (2, .int p1)] := hl
  unfold f_Bl_has at hf
  refine lv_iload_n hx hb d_Bl_has_0 rfl (lv_at hl 1 rfl) ?_
  refine lv_if_lt (tgt := 26) hx hb d_Bl_has_1 (by decide) (fun c_1 => ?_) (fun c_1 => ?_)
  · replace hf := (if_pos c_1).symm.trans hf
    refine lv_iconst (v := 0) hx hb d_Bl_has_26 (by decide) ?_
    have ho9 := Option.some.inj hf
    subst ho9
    have hP9 := hP.sub (ws' := [(a_t, .inr (0, [.int t_count, .ref a_t_bytes])), (a_t_bytes, .inl ((cA 1), n_t_bytes, .inl t_bytes))]) [0, 1] rfl
    have hD9 := hD.sub (ws' := [(a_t, .inr (0, [.int t_count, .ref a_t_bytes])), (a_t_bytes, .inl ((cA 1), n_t_bytes, .inl t_bytes))]) [0, 1] (by decide) rfl
    exact W.zret (v := (0 : Int32)) hx hb hr rfl (fun t ht hW => ⟨⟨_, (), rfl, rfl, by rw [ht]; exact hP9, va_K.moved hW.alike hK, hD9⟩, hS.F ht⟩) hS.2.2 d_Bl_has_27
  · replace hf := (if_neg c_1).symm.trans hf
    refine lv_iload_n hx hb d_Bl_has_4 rfl (lv_at hl 1 rfl) ?_
    refine lv_aload_n hx hb d_Bl_has_5 rfl (lv_at hl 0 rfl) ?_
    refine va_get (D := D) (ci := 0) (v := .int t_count) (C := R_Bl) (T := F_Bl) (N := 2) hx hb hts (fun w9 h9 => .tail _ (gu_Bl w9 h9)) hown hK hP 0 rfl rfl 0 (by decide) (hts _ (.tail _ gm_0)) (fun _ h9 => h9) rfl d_Bl_has_6 ?_
    refine lv_icmp_ge (tgt := 26) hx hb d_Bl_has_9 (by decide) (fun c_2 => ?_) (fun c_2 => ?_)
    · replace hf := (if_pos c_2).symm.trans hf
      refine lv_iconst (v := 0) hx hb d_Bl_has_26 (by decide) ?_
      have ho9 := Option.some.inj hf
      subst ho9
      have hP9 := hP.sub (ws' := [(a_t, .inr (0, [.int t_count, .ref a_t_bytes])), (a_t_bytes, .inl ((cA 1), n_t_bytes, .inl t_bytes))]) [0, 1] rfl
      have hD9 := hD.sub (ws' := [(a_t, .inr (0, [.int t_count, .ref a_t_bytes])), (a_t_bytes, .inl ((cA 1), n_t_bytes, .inl t_bytes))]) [0, 1] (by decide) rfl
      exact W.zret (v := (0 : Int32)) hx hb hr rfl (fun t ht hW => ⟨⟨_, (), rfl, rfl, by rw [ht]; exact hP9, va_K.moved hW.alike hK, hD9⟩, hS.F ht⟩) hS.2.2 d_Bl_has_27
    · replace hf := (if_neg c_2).symm.trans hf
      refine lv_iload_n hx hb d_Bl_has_12 rfl (lv_at hl 2 rfl) ?_
      refine lv_if_lt (tgt := 26) hx hb d_Bl_has_13 (by decide) (fun c_3 => ?_) (fun c_3 => ?_)
      · replace hf := (if_pos c_3).symm.trans hf
        refine lv_iconst (v := 0) hx hb d_Bl_has_26 (by decide) ?_
        have ho9 := Option.some.inj hf
        subst ho9
        have hP9 := hP.sub (ws' := [(a_t, .inr (0, [.int t_count, .ref a_t_bytes])), (a_t_bytes, .inl ((cA 1), n_t_bytes, .inl t_bytes))]) [0, 1] rfl
        have hD9 := hD.sub (ws' := [(a_t, .inr (0, [.int t_count, .ref a_t_bytes])), (a_t_bytes, .inl ((cA 1), n_t_bytes, .inl t_bytes))]) [0, 1] (by decide) rfl
        exact W.zret (v := (0 : Int32)) hx hb hr rfl (fun t ht hW => ⟨⟨_, (), rfl, rfl, by rw [ht]; exact hP9, va_K.moved hW.alike hK, hD9⟩, hS.F ht⟩) hS.2.2 d_Bl_has_27
      · replace hf := (if_neg c_3).symm.trans hf
        refine lv_iload_n hx hb d_Bl_has_16 rfl (lv_at hl 2 rfl) ?_
        refine lv_bipush (v := 64) hx hb d_Bl_has_17 (by decide) ?_
        refine lv_icmp_ge (tgt := 26) hx hb d_Bl_has_19 (by decide) (fun c_4 => ?_) (fun c_4 => ?_)
        · replace hf := (if_pos c_4).symm.trans hf
          refine lv_iconst (v := 0) hx hb d_Bl_has_26 (by decide) ?_
          have ho9 := Option.some.inj hf
          subst ho9
          have hP9 := hP.sub (ws' := [(a_t, .inr (0, [.int t_count, .ref a_t_bytes])), (a_t_bytes, .inl ((cA 1), n_t_bytes, .inl t_bytes))]) [0, 1] rfl
          have hD9 := hD.sub (ws' := [(a_t, .inr (0, [.int t_count, .ref a_t_bytes])), (a_t_bytes, .inl ((cA 1), n_t_bytes, .inl t_bytes))]) [0, 1] (by decide) rfl
          exact W.zret (v := (0 : Int32)) hx hb hr rfl (fun t ht hW => ⟨⟨_, (), rfl, rfl, by rw [ht]; exact hP9, va_K.moved hW.alike hK, hD9⟩, hS.F ht⟩) hS.2.2 d_Bl_has_27
        · replace hf := (if_neg c_4).symm.trans hf
          refine lv_iconst (v := 1) hx hb d_Bl_has_22 (by decide) ?_
          refine lv_goto (tgt := 27) hx hb d_Bl_has_23 (by decide) ?_
          have ho9 := Option.some.inj hf
          subst ho9
          have hP9 := hP.sub (ws' := [(a_t, .inr (0, [.int t_count, .ref a_t_bytes])), (a_t_bytes, .inl ((cA 1), n_t_bytes, .inl t_bytes))]) [0, 1] rfl
          have hD9 := hD.sub (ws' := [(a_t, .inr (0, [.int t_count, .ref a_t_bytes])), (a_t_bytes, .inl ((cA 1), n_t_bytes, .inl t_bytes))]) [0, 1] (by decide) rfl
          exact W.zret (v := (1 : Int32)) hx hb hr rfl (fun t ht hW => ⟨⟨_, (), rfl, rfl, by rw [ht]; exact hP9, va_K.moved hW.alike hK, hD9⟩, hS.F ht⟩) hS.2.2 d_Bl_has_27
theorem d_Bl_get_0 : decode b_Bl_get 0 = .ok (.aload_n 0, 1) := by decide +kernel
theorem d_Bl_get_1 : decode b_Bl_get 1 = .ok (.iload_n 1, 1) := by decide +kernel
theorem d_Bl_get_2 : decode b_Bl_get 2 = .ok (.iload_n 2, 1) := by decide +kernel
theorem d_Bl_get_3 : decode b_Bl_get 3 = .ok (.invokevirtual 28, 3) := by decide +kernel
theorem d_Bl_get_6 : decode b_Bl_get 6 = .ok (.ifCond .eq 21, 3) := by decide +kernel
theorem d_Bl_get_9 : decode b_Bl_get 9 = .ok (.aload_n 0, 1) := by decide +kernel
theorem d_Bl_get_10 : decode b_Bl_get 10 = .ok (.getfield 24, 3) := by decide +kernel
theorem d_Bl_get_13 : decode b_Bl_get 13 = .ok (.iload_n 1, 1) := by decide +kernel
theorem d_Bl_get_14 : decode b_Bl_get 14 = .ok (.bipush 64, 2) := by decide +kernel
theorem d_Bl_get_16 : decode b_Bl_get 16 = .ok (.imul, 1) := by decide +kernel
theorem d_Bl_get_17 : decode b_Bl_get 17 = .ok (.iload_n 2, 1) := by decide +kernel
theorem d_Bl_get_18 : decode b_Bl_get 18 = .ok (.iadd, 1) := by decide +kernel
theorem d_Bl_get_19 : decode b_Bl_get 19 = .ok (.baload, 1) := by decide +kernel
theorem d_Bl_get_20 : decode b_Bl_get 20 = .ok (.sipush 255, 3) := by decide +kernel
theorem d_Bl_get_23 : decode b_Bl_get 23 = .ok (.iand, 1) := by decide +kernel
theorem d_Bl_get_24 : decode b_Bl_get 24 = .ok (.goto 4, 3) := by decide +kernel
theorem d_Bl_get_27 : decode b_Bl_get 27 = .ok (.iconst 0, 1) := by decide +kernel
theorem d_Bl_get_28 : decode b_Bl_get 28 = .ok (.ireturn, 1) := by decide +kernel
abbrev wd_Bl_get : List Cond := .code y_Bl_get b_Bl_get 3 (some .int) :: gw
def f_Bl_get (t_count : Int32) (n_t_bytes : Nat) (t_bytes : Nat → Int32) (p0 : Int32) (p1 : Int32) : Option (Int32) :=
  (f_Bl_has t_count n_t_bytes t_bytes p0 p1).bind fun o_1 =>
  if o_1 = 0 then
    some (0 : Int32)
  else
    if ((p0 * (64 : Int32)) + p1) < 0 ∨ n_t_bytes ≤ ((p0 * (64 : Int32)) + p1).toNatClampNeg then none else
    some ((t_bytes ((p0 * (64 : Int32)) + p1).toNatClampNeg) &&& (255 : Int32))
set_option maxHeartbeats 4000000 in
set_option maxRecDepth 100000 in
theorem c_Bl_get (l : Launch) (D : va_G) (cA : Nat → ClassId) (a_t a_t_bytes : Nat) (sz : Nat) (t_count : Int32) (n_t_bytes : Nat) (t_bytes : Nat → Int32) (p0 : Int32) (p1 : Int32) (o : Int32) (hf : f_Bl_get t_count n_t_bytes t_bytes p0 p1 = some o) : Met l y_Bl_get wd_Bl_get ({ frames := 1, cells := 0, slots := 0, locals := 22 }) (va_Pc [.ref a_t, .int p0, .int p1] (aP D cA [(a_t, .inr (0, [.int t_count, .ref a_t_bytes])), (a_t_bytes, .inl ((cA 1), n_t_bytes, .inl t_bytes))] sz)) (va_Qi (fun r9 (_ : Unit) => r9 = o) (fun _ => aR D cA (va_A [(a_t, .inr (0, [.int t_count, .ref a_t_bytes])), (a_t_bytes, .inl ((cA 1), n_t_bytes, .inl t_bytes))] sz) [(a_t, .inr (0, [.int t_count, .ref a_t_bytes])), (a_t_bytes, .inl ((cA 1), n_t_bytes, .inl t_bytes))]) (va_A [(a_t, .inr (0, [.int t_count, .ref a_t_bytes])), (a_t_bytes, .inl ((cA 1), n_t_bytes, .inl t_bytes))] sz)) 0 0 (va_A [(a_t, .inr (0, [.int t_count, .ref a_t_bytes])), (a_t_bytes, .inl ((cA 1), n_t_bytes, .inl t_bytes))] sz) := by
  refine Met.ofW (cc := b_Bl_get) (maxL := 3) (ret := (some .int)) (by decide +kernel) rfl ?_
  intro p e s m args below meth c s₁ B hml hv
  obtain ⟨rfl, hsz, hP, hK, hD0, hE⟩ := hv
  have hx := B.exec
  have hb := B.bytes
  have hr := B.returns
  have hts := atoms_spec (ws := wd_Bl_get) B.pre
  have hown : s.vm.findClass R_Bl = some m.cls := findClass_of_methodNamed B.named
  have hlocks := B.notSynchronized
  subst hsz
  have hD := hD0.self (sz := s.heap.size)
  generalize hAe : va_A [(a_t, .inr (0, [.int t_count, .ref a_t_bytes])), (a_t_bytes, .inl ((cA 1), n_t_bytes, .inl t_bytes))] s.heap.size = A at hD hE ⊢
  have hA : ∀ q : Nat, s.heap.size ≤ q → A q := fun q h => by rw [← hAe]; exact Or.inr h
  have hS : va_S A s.heap s.heap [] := va_S.rf
  have hl := lv_entry [.ref a_t, .int p0, .int p1] (n := 3) (Nat.le_of_ble_eq_true rfl)
  rw [lg_entry_eq]
  generalize (lg_sl [.ref a_t, .int p0, .int p1] ++ List.replicate (3 - (lg_sl [.ref a_t, .int p0, .int p1]).length) Slot.unset).toArray = ls at hl ⊢
  have hl : lv_has ls 3 [(0, .ref a_t), (1, .int p0), (2, .int p1)] := hl
  unfold f_Bl_get at hf
  refine lv_aload_n hx hb d_Bl_get_0 rfl (lv_at hl 0 rfl) ?_
  refine lv_iload_n hx hb d_Bl_get_1 rfl (lv_at hl 1 rfl) ?_
  refine lv_iload_n hx hb d_Bl_get_2 rfl (lv_at hl 2 rfl) ?_
  obtain ⟨o_1, ho_1, hf⟩ := hk_bd hf
  refine q_i (wr := []) (va_runV (As := [.int p0, .int p1]) (rest := []) ⟨hx, hb, hml, hown, hts⟩ (c_Bl_has l D cA a_t a_t_bytes _ t_count n_t_bytes t_bytes p0 p1 o_1 ho_1) (cwV 2 hts (gd_V gm_2 gm_3 gm_4 gm_5 gm_1) rfl rfl rfl (by decide +kernel) ⟨Nat.le_of_ble_eq_true rfl, Nat.le_of_ble_eq_true rfl⟩) (q_pV hK hP hD hS hA hE [0, 1] (by decide) rfl rfl rfl rfl) rfl rfl hl.1 rfl (lv_room (Nat.le_of_ble_eq_true rfl)) d_Bl_get_3 ⟨Nat.zero_le _, Nat.zero_le _⟩) hP hD hS hA [0, 1] [] rfl rfl (by decide) (by decide) (fun H locs hP hD hS => ?_)
  have hP : va_P D classes [(a_t, .inr (0, [.int t_count, .ref a_t_bytes])), (a_t_bytes, .inl ((cA 1), n_t_bytes, .inl t_bytes))] H := hP
  have hD : va_D A [(a_t, .inr (0, [.int t_count, .ref a_t_bytes])), (a_t_bytes, .inl ((cA 1), n_t_bytes, .inl t_bytes))] := hD
  refine lv_if_eq (tgt := 27) hx hb d_Bl_get_6 (by decide) (fun c_2 => ?_) (fun c_2 => ?_)
  · replace hf := (if_pos c_2).symm.trans hf
    refine lv_iconst (v := 0) hx hb d_Bl_get_27 (by decide) ?_
    have ho9 := Option.some.inj hf
    subst ho9
    have hP9 := hP.sub (ws' := [(a_t, .inr (0, [.int t_count, .ref a_t_bytes])), (a_t_bytes, .inl ((cA 1), n_t_bytes, .inl t_bytes))]) [0, 1] rfl
    have hD9 := hD.sub (ws' := [(a_t, .inr (0, [.int t_count, .ref a_t_bytes])), (a_t_bytes, .inl ((cA 1), n_t_bytes, .inl t_bytes))]) [0, 1] (by decide) rfl
    exact W.iret (v := (0 : Int32)) hx hb hr (fun t ht hW => ⟨⟨_, (), rfl, rfl, by rw [ht]; exact hP9, va_K.moved hW.alike hK, hD9⟩, hS.F ht⟩) hS.2.2 d_Bl_get_28
  · replace hf := (if_neg c_2).symm.trans hf
    refine lv_aload_n hx hb d_Bl_get_9 rfl (lv_at hl 0 rfl) ?_
    refine va_get (D := D) (ci := 0) (v := .ref a_t_bytes) (C := R_Bl) (T := F_Bl) (N := 2) hx hb hts (fun w9 h9 => .tail _ (gu_Bl w9 h9)) hown hK hP 0 rfl rfl 1 (by decide) (hts _ (.tail _ gm_6)) (fun _ h9 => h9) rfl d_Bl_get_10 ?_
    refine lv_iload_n hx hb d_Bl_get_13 rfl (lv_at hl 1 rfl) ?_
    refine lv_bipush (v := 64) hx hb d_Bl_get_14 (by decide) ?_
    refine lv_imul hx hb d_Bl_get_16 ?_
    refine lv_iload_n hx hb d_Bl_get_17 rfl (lv_at hl 2 rfl) ?_
    refine lv_iadd hx hb d_Bl_get_18 ?_
    obtain ⟨ck_3, hf⟩ := hk_if hf
    refine va_bald hx hb hK hP 1 1 rfl rfl ck_3 d_Bl_get_19 ?_
    refine lv_sipush (v := 255) hx hb d_Bl_get_20 (by decide) ?_
    refine lv_iand hx hb d_Bl_get_23 ?_
    refine lv_goto (tgt := 28) hx hb d_Bl_get_24 (by decide) ?_
    have ho9 := Option.some.inj hf
    subst ho9
    have hP9 := hP.sub (ws' := [(a_t, .inr (0, [.int t_count, .ref a_t_bytes])), (a_t_bytes, .inl ((cA 1), n_t_bytes, .inl t_bytes))]) [0, 1] rfl
    have hD9 := hD.sub (ws' := [(a_t, .inr (0, [.int t_count, .ref a_t_bytes])), (a_t_bytes, .inl ((cA 1), n_t_bytes, .inl t_bytes))]) [0, 1] (by decide) rfl
    exact W.iret (v := ((t_bytes ((p0 * (64 : Int32)) + p1).toNatClampNeg) &&& (255 : Int32))) hx hb hr (fun t ht hW => ⟨⟨_, (), rfl, rfl, by rw [ht]; exact hP9, va_K.moved hW.alike hK, hD9⟩, hS.F ht⟩) hS.2.2 d_Bl_get_28
theorem d_Bl_set_0 : decode b_Bl_set 0 = .ok (.aload_n 0, 1) := by decide +kernel
theorem d_Bl_set_1 : decode b_Bl_set 1 = .ok (.iload_n 1, 1) := by decide +kernel
theorem d_Bl_set_2 : decode b_Bl_set 2 = .ok (.iload_n 2, 1) := by decide +kernel
theorem d_Bl_set_3 : decode b_Bl_set 3 = .ok (.invokevirtual 28, 3) := by decide +kernel
theorem d_Bl_set_6 : decode b_Bl_set 6 = .ok (.ifCond .eq 16, 3) := by decide +kernel
theorem d_Bl_set_9 : decode b_Bl_set 9 = .ok (.aload_n 0, 1) := by decide +kernel
theorem d_Bl_set_10 : decode b_Bl_set 10 = .ok (.getfield 24, 3) := by decide +kernel
theorem d_Bl_set_13 : decode b_Bl_set 13 = .ok (.iload_n 1, 1) := by decide +kernel
theorem d_Bl_set_14 : decode b_Bl_set 14 = .ok (.bipush 64, 2) := by decide +kernel
theorem d_Bl_set_16 : decode b_Bl_set 16 = .ok (.imul, 1) := by decide +kernel
theorem d_Bl_set_17 : decode b_Bl_set 17 = .ok (.iload_n 2, 1) := by decide +kernel
theorem d_Bl_set_18 : decode b_Bl_set 18 = .ok (.iadd, 1) := by decide +kernel
theorem d_Bl_set_19 : decode b_Bl_set 19 = .ok (.iload_n 3, 1) := by decide +kernel
theorem d_Bl_set_20 : decode b_Bl_set 20 = .ok (.i2b, 1) := by decide +kernel
theorem d_Bl_set_21 : decode b_Bl_set 21 = .ok (.bastore, 1) := by decide +kernel
theorem d_Bl_set_22 : decode b_Bl_set 22 = .ok (.return_, 1) := by decide +kernel
abbrev wd_Bl_set : List Cond := .code y_Bl_set b_Bl_set 4 none :: gw
def f_Bl_set (t_count : Int32) (n_t_bytes : Nat) (t_bytes : Nat → Int32) (p0 : Int32) (p1 : Int32) (p2 : Int32) : Option ((Nat → Int32)) :=
  (f_Bl_has t_count n_t_bytes t_bytes p0 p1).bind fun o_1 =>
  if o_1 = 0 then
    some t_bytes
  else
    if ((p0 * (64 : Int32)) + p1) < 0 ∨ n_t_bytes ≤ ((p0 * (64 : Int32)) + p1).toNatClampNeg then none else
    some (upd t_bytes ((p0 * (64 : Int32)) + p1).toNatClampNeg (vp_nar .byte p2.toInt8.toInt32))
set_option maxHeartbeats 4000000 in
set_option maxRecDepth 100000 in
theorem c_Bl_set (l : Launch) (D : va_G) (cA : Nat → ClassId) (a_t a_t_bytes : Nat) (sz : Nat) (t_count : Int32) (n_t_bytes : Nat) (t_bytes : Nat → Int32) (p0 : Int32) (p1 : Int32) (p2 : Int32) (o : (Nat → Int32)) (hf : f_Bl_set t_count n_t_bytes t_bytes p0 p1 p2 = some o) : Met l y_Bl_set wd_Bl_set ({ frames := 1, cells := 0, slots := 0, locals := 22 }) (va_Pc [.ref a_t, .int p0, .int p1, .int p2] (aP D cA [(a_t, .inr (0, [.int t_count, .ref a_t_bytes])), (a_t_bytes, .inl ((cA 1), n_t_bytes, .inl t_bytes))] sz)) (va_Qv (fun (_ : Unit) => True) (fun _ => aR D cA (va_A [(a_t, .inr (0, [.int t_count, .ref a_t_bytes])), (a_t_bytes, .inl ((cA 1), n_t_bytes, .inl t_bytes))] sz) [(a_t, .inr (0, [.int t_count, .ref a_t_bytes])), (a_t_bytes, .inl ((cA 1), n_t_bytes, .inl o))]) (va_A [(a_t, .inr (0, [.int t_count, .ref a_t_bytes])), (a_t_bytes, .inl ((cA 1), n_t_bytes, .inl t_bytes))] sz)) 0 0 (va_A [(a_t, .inr (0, [.int t_count, .ref a_t_bytes])), (a_t_bytes, .inl ((cA 1), n_t_bytes, .inl t_bytes))] sz) := by
  refine Met.ofW (cc := b_Bl_set) (maxL := 4) (ret := none) (by decide +kernel) rfl ?_
  intro p e s m args below meth c s₁ B hml hv
  obtain ⟨rfl, hsz, hP, hK, hD0, hE⟩ := hv
  have hx := B.exec
  have hb := B.bytes
  have hr := B.returns
  have hts := atoms_spec (ws := wd_Bl_set) B.pre
  have hown : s.vm.findClass R_Bl = some m.cls := findClass_of_methodNamed B.named
  have hlocks := B.notSynchronized
  subst hsz
  have hD := hD0.self (sz := s.heap.size)
  generalize hAe : va_A [(a_t, .inr (0, [.int t_count, .ref a_t_bytes])), (a_t_bytes, .inl ((cA 1), n_t_bytes, .inl t_bytes))] s.heap.size = A at hD hE ⊢
  have hA : ∀ q : Nat, s.heap.size ≤ q → A q := fun q h => by rw [← hAe]; exact Or.inr h
  have hS : va_S A s.heap s.heap [] := va_S.rf
  have hl := lv_entry [.ref a_t, .int p0, .int p1, .int p2] (n := 4) (Nat.le_of_ble_eq_true rfl)
  rw [lg_entry_eq]
  generalize (lg_sl [.ref a_t, .int p0, .int p1, .int p2] ++ List.replicate (4 - (lg_sl [.ref a_t, .int p0, .int p1, .int p2]).length) Slot.unset).toArray = ls at hl ⊢
  have hl : lv_has ls 4 [(0, .ref a_t), (1, .int p0), (2, .int p1), (3, .int p2)] := hl
  unfold f_Bl_set at hf
  refine lv_aload_n hx hb d_Bl_set_0 rfl (lv_at hl 0 rfl) ?_
  refine lv_iload_n hx hb d_Bl_set_1 rfl (lv_at hl 1 rfl) ?_
  refine lv_iload_n hx hb d_Bl_set_2 rfl (lv_at hl 2 rfl) ?_
  obtain ⟨o_1, ho_1, hf⟩ := hk_bd hf
  refine q_i (wr := []) (va_runV (As := [.int p0, .int p1]) (rest := []) ⟨hx, hb, hml, hown, hts⟩ (c_Bl_has l D cA a_t a_t_bytes _ t_count n_t_bytes t_bytes p0 p1 o_1 ho_1) (cwV 2 hts (gd_V gm_2 gm_3 gm_4 gm_5 gm_1) rfl rfl rfl (by decide +kernel) ⟨Nat.le_of_ble_eq_true rfl, Nat.le_of_ble_eq_true rfl⟩) (q_pV hK hP hD hS hA hE [0, 1] (by decide) rfl rfl rfl rfl) rfl rfl hl.1 rfl (lv_room (Nat.le_of_ble_eq_true rfl)) d_Bl_set_3 ⟨Nat.zero_le _, Nat.zero_le _⟩) hP hD hS hA [0, 1] [] rfl rfl (by decide) (by decide) (fun H locs hP hD hS => ?_)
  have hP : va_P D classes [(a_t, .inr (0, [.int t_count, .ref a_t_bytes])), (a_t_bytes, .inl ((cA 1), n_t_bytes, .inl t_bytes))] H := hP
  have hD : va_D A [(a_t, .inr (0, [.int t_count, .ref a_t_bytes])), (a_t_bytes, .inl ((cA 1), n_t_bytes, .inl t_bytes))] := hD
  refine lv_if_eq (tgt := 22) hx hb d_Bl_set_6 (by decide) (fun c_2 => ?_) (fun c_2 => ?_)
  · replace hf := (if_pos c_2).symm.trans hf
    have ho9 := Option.some.inj hf
    subst ho9
    have hP9 := hP.sub (ws' := [(a_t, .inr (0, [.int t_count, .ref a_t_bytes])), (a_t_bytes, .inl ((cA 1), n_t_bytes, .inl t_bytes))]) [0, 1] rfl
    have hD9 := hD.sub (ws' := [(a_t, .inr (0, [.int t_count, .ref a_t_bytes])), (a_t_bytes, .inl ((cA 1), n_t_bytes, .inl t_bytes))]) [0, 1] (by decide) rfl
    exact W.vret hx hb hr (fun t ht hW => ⟨⟨(), rfl, trivial, by rw [ht]; exact hP9, va_K.moved hW.alike hK, hD9⟩, hS.F ht⟩) hS.2.2 d_Bl_set_22
  · replace hf := (if_neg c_2).symm.trans hf
    refine lv_aload_n hx hb d_Bl_set_9 rfl (lv_at hl 0 rfl) ?_
    refine va_get (D := D) (ci := 0) (v := .ref a_t_bytes) (C := R_Bl) (T := F_Bl) (N := 2) hx hb hts (fun w9 h9 => .tail _ (gu_Bl w9 h9)) hown hK hP 0 rfl rfl 1 (by decide) (hts _ (.tail _ gm_6)) (fun _ h9 => h9) rfl d_Bl_set_10 ?_
    refine lv_iload_n hx hb d_Bl_set_13 rfl (lv_at hl 1 rfl) ?_
    refine lv_bipush (v := 64) hx hb d_Bl_set_14 (by decide) ?_
    refine lv_imul hx hb d_Bl_set_16 ?_
    refine lv_iload_n hx hb d_Bl_set_17 rfl (lv_at hl 2 rfl) ?_
    refine lv_iadd hx hb d_Bl_set_18 ?_
    refine lv_iload_n hx hb d_Bl_set_19 rfl (lv_at hl 3 rfl) ?_
    refine lv_i2b hx hb d_Bl_set_20 rfl ?_
    obtain ⟨ck_3, hf⟩ := hk_if hf
    refine va_bast hx hb hK hP hD hS 1 1 rfl rfl ck_3 d_Bl_set_21 (fun H locs hP hD hS => ?_)
    have hP : va_P D classes [(a_t, .inr (0, [.int t_count, .ref a_t_bytes])), (a_t_bytes, .inl ((cA 1), n_t_bytes, .inl (upd t_bytes ((p0 * (64 : Int32)) + p1).toNatClampNeg (vp_nar .byte p2.toInt8.toInt32))))] H := hP
    have hD : va_D A [(a_t, .inr (0, [.int t_count, .ref a_t_bytes])), (a_t_bytes, .inl ((cA 1), n_t_bytes, .inl (upd t_bytes ((p0 * (64 : Int32)) + p1).toNatClampNeg (vp_nar .byte p2.toInt8.toInt32))))] := hD
    have ho9 := Option.some.inj hf
    subst ho9
    have hP9 := hP.sub (ws' := [(a_t, .inr (0, [.int t_count, .ref a_t_bytes])), (a_t_bytes, .inl ((cA 1), n_t_bytes, .inl (upd t_bytes ((p0 * (64 : Int32)) + p1).toNatClampNeg (vp_nar .byte p2.toInt8.toInt32))))]) [0, 1] rfl
    have hD9 := hD.sub (ws' := [(a_t, .inr (0, [.int t_count, .ref a_t_bytes])), (a_t_bytes, .inl ((cA 1), n_t_bytes, .inl (upd t_bytes ((p0 * (64 : Int32)) + p1).toNatClampNeg (vp_nar .byte p2.toInt8.toInt32))))]) [0, 1] (by decide) rfl
    exact W.vret hx hb hr (fun t ht hW => ⟨⟨(), rfl, trivial, by rw [ht]; exact hP9, va_K.moved hW.alike hK, hD9⟩, hS.F ht⟩) hS.2.2 d_Bl_set_22
theorem d_Bl_u32_0 : decode b_Bl_u32 0 = .ok (.iload_n 2, 1) := by decide +kernel
theorem d_Bl_u32_1 : decode b_Bl_u32 1 = .ok (.bipush 60, 2) := by decide +kernel
theorem d_Bl_u32_3 : decode b_Bl_u32 3 = .ok (.if_icmp .gt 12, 3) := by decide +kernel
theorem d_Bl_u32_6 : decode b_Bl_u32 6 = .ok (.aload_n 0, 1) := by decide +kernel
theorem d_Bl_u32_7 : decode b_Bl_u32 7 = .ok (.iload_n 1, 1) := by decide +kernel
theorem d_Bl_u32_8 : decode b_Bl_u32 8 = .ok (.iload_n 2, 1) := by decide +kernel
theorem d_Bl_u32_9 : decode b_Bl_u32 9 = .ok (.invokevirtual 28, 3) := by decide +kernel
theorem d_Bl_u32_12 : decode b_Bl_u32 12 = .ok (.ifCond .ne 5, 3) := by decide +kernel
theorem d_Bl_u32_15 : decode b_Bl_u32 15 = .ok (.iconst 0, 1) := by decide +kernel
theorem d_Bl_u32_16 : decode b_Bl_u32 16 = .ok (.ireturn, 1) := by decide +kernel
theorem d_Bl_u32_17 : decode b_Bl_u32 17 = .ok (.iload_n 1, 1) := by decide +kernel
theorem d_Bl_u32_18 : decode b_Bl_u32 18 = .ok (.bipush 64, 2) := by decide +kernel
theorem d_Bl_u32_20 : decode b_Bl_u32 20 = .ok (.imul, 1) := by decide +kernel
theorem d_Bl_u32_21 : decode b_Bl_u32 21 = .ok (.iload_n 2, 1) := by decide +kernel
theorem d_Bl_u32_22 : decode b_Bl_u32 22 = .ok (.iadd, 1) := by decide +kernel
theorem d_Bl_u32_23 : decode b_Bl_u32 23 = .ok (.istore_n 3, 1) := by decide +kernel
theorem d_Bl_u32_24 : decode b_Bl_u32 24 = .ok (.aload_n 0, 1) := by decide +kernel
theorem d_Bl_u32_25 : decode b_Bl_u32 25 = .ok (.getfield 24, 3) := by decide +kernel
theorem d_Bl_u32_28 : decode b_Bl_u32 28 = .ok (.iload_n 3, 1) := by decide +kernel
theorem d_Bl_u32_29 : decode b_Bl_u32 29 = .ok (.baload, 1) := by decide +kernel
theorem d_Bl_u32_30 : decode b_Bl_u32 30 = .ok (.sipush 255, 3) := by decide +kernel
theorem d_Bl_u32_33 : decode b_Bl_u32 33 = .ok (.iand, 1) := by decide +kernel
theorem d_Bl_u32_34 : decode b_Bl_u32 34 = .ok (.bipush 24, 2) := by decide +kernel
theorem d_Bl_u32_36 : decode b_Bl_u32 36 = .ok (.ishl, 1) := by decide +kernel
theorem d_Bl_u32_37 : decode b_Bl_u32 37 = .ok (.aload_n 0, 1) := by decide +kernel
theorem d_Bl_u32_38 : decode b_Bl_u32 38 = .ok (.getfield 24, 3) := by decide +kernel
theorem d_Bl_u32_41 : decode b_Bl_u32 41 = .ok (.iload_n 3, 1) := by decide +kernel
theorem d_Bl_u32_42 : decode b_Bl_u32 42 = .ok (.iconst 1, 1) := by decide +kernel
theorem d_Bl_u32_43 : decode b_Bl_u32 43 = .ok (.iadd, 1) := by decide +kernel
theorem d_Bl_u32_44 : decode b_Bl_u32 44 = .ok (.baload, 1) := by decide +kernel
theorem d_Bl_u32_45 : decode b_Bl_u32 45 = .ok (.sipush 255, 3) := by decide +kernel
theorem d_Bl_u32_48 : decode b_Bl_u32 48 = .ok (.iand, 1) := by decide +kernel
theorem d_Bl_u32_49 : decode b_Bl_u32 49 = .ok (.bipush 16, 2) := by decide +kernel
theorem d_Bl_u32_51 : decode b_Bl_u32 51 = .ok (.ishl, 1) := by decide +kernel
theorem d_Bl_u32_52 : decode b_Bl_u32 52 = .ok (.ior, 1) := by decide +kernel
theorem d_Bl_u32_53 : decode b_Bl_u32 53 = .ok (.aload_n 0, 1) := by decide +kernel
theorem d_Bl_u32_54 : decode b_Bl_u32 54 = .ok (.getfield 24, 3) := by decide +kernel
theorem d_Bl_u32_57 : decode b_Bl_u32 57 = .ok (.iload_n 3, 1) := by decide +kernel
theorem d_Bl_u32_58 : decode b_Bl_u32 58 = .ok (.iconst 2, 1) := by decide +kernel
theorem d_Bl_u32_59 : decode b_Bl_u32 59 = .ok (.iadd, 1) := by decide +kernel
theorem d_Bl_u32_60 : decode b_Bl_u32 60 = .ok (.baload, 1) := by decide +kernel
theorem d_Bl_u32_61 : decode b_Bl_u32 61 = .ok (.sipush 255, 3) := by decide +kernel
theorem d_Bl_u32_64 : decode b_Bl_u32 64 = .ok (.iand, 1) := by decide +kernel
theorem d_Bl_u32_65 : decode b_Bl_u32 65 = .ok (.bipush 8, 2) := by decide +kernel
theorem d_Bl_u32_67 : decode b_Bl_u32 67 = .ok (.ishl, 1) := by decide +kernel
theorem d_Bl_u32_68 : decode b_Bl_u32 68 = .ok (.ior, 1) := by decide +kernel
theorem d_Bl_u32_69 : decode b_Bl_u32 69 = .ok (.aload_n 0, 1) := by decide +kernel
theorem d_Bl_u32_70 : decode b_Bl_u32 70 = .ok (.getfield 24, 3) := by decide +kernel
theorem d_Bl_u32_73 : decode b_Bl_u32 73 = .ok (.iload_n 3, 1) := by decide +kernel
theorem d_Bl_u32_74 : decode b_Bl_u32 74 = .ok (.iconst 3, 1) := by decide +kernel
theorem d_Bl_u32_75 : decode b_Bl_u32 75 = .ok (.iadd, 1) := by decide +kernel
theorem d_Bl_u32_76 : decode b_Bl_u32 76 = .ok (.baload, 1) := by decide +kernel
theorem d_Bl_u32_77 : decode b_Bl_u32 77 = .ok (.sipush 255, 3) := by decide +kernel
theorem d_Bl_u32_80 : decode b_Bl_u32 80 = .ok (.iand, 1) := by decide +kernel
theorem d_Bl_u32_81 : decode b_Bl_u32 81 = .ok (.ior, 1) := by decide +kernel
theorem d_Bl_u32_82 : decode b_Bl_u32 82 = .ok (.ireturn, 1) := by decide +kernel
abbrev wd_Bl_u32 : List Cond := .code y_Bl_u32 b_Bl_u32 4 (some .int) :: gw
def f_Bl_u32 (t_count : Int32) (n_t_bytes : Nat) (t_bytes : Nat → Int32) (p0 : Int32) (p1 : Int32) : Option (Int32) :=
  if (60 : Int32) < p1 then
    some (0 : Int32)
  else
    (f_Bl_has t_count n_t_bytes t_bytes p0 p1).bind fun o_2 =>
    if o_2 = 0 then
      some (0 : Int32)
    else
      if ((p0 * (64 : Int32)) + p1) < 0 ∨ n_t_bytes ≤ ((p0 * (64 : Int32)) + p1).toNatClampNeg then none else
      if (((p0 * (64 : Int32)) + p1) + (1 : Int32)) < 0 ∨ n_t_bytes ≤ (((p0 * (64 : Int32)) + p1) + (1 : Int32)).toNatClampNeg then none else
      if (((p0 * (64 : Int32)) + p1) + (2 : Int32)) < 0 ∨ n_t_bytes ≤ (((p0 * (64 : Int32)) + p1) + (2 : Int32)).toNatClampNeg then none else
      if (((p0 * (64 : Int32)) + p1) + (3 : Int32)) < 0 ∨ n_t_bytes ≤ (((p0 * (64 : Int32)) + p1) + (3 : Int32)).toNatClampNeg then none else
      some ((((((t_bytes ((p0 * (64 : Int32)) + p1).toNatClampNeg) &&& (255 : Int32)) <<< ((24 : Int32) &&& 31)) ||| (((t_bytes (((p0 * (64 : Int32)) + p1) + (1 : Int32)).toNatClampNeg) &&& (255 : Int32)) <<< ((16 : Int32) &&& 31))) ||| (((t_bytes (((p0 * (64 : Int32)) + p1) + (2 : Int32)).toNatClampNeg) &&& (255 : Int32)) <<< ((8 : Int32) &&& 31))) ||| ((t_bytes (((p0 * (64 : Int32)) + p1) + (3 : Int32)).toNatClampNeg) &&& (255 : Int32)))
set_option maxHeartbeats 4000000 in
set_option maxRecDepth 100000 in
theorem c_Bl_u32 (l : Launch) (D : va_G) (cA : Nat → ClassId) (a_t a_t_bytes : Nat) (sz : Nat) (t_count : Int32) (n_t_bytes : Nat) (t_bytes : Nat → Int32) (p0 : Int32) (p1 : Int32) (o : Int32) (hf : f_Bl_u32 t_count n_t_bytes t_bytes p0 p1 = some o) : Met l y_Bl_u32 wd_Bl_u32 ({ frames := 1, cells := 0, slots := 0, locals := 22 }) (va_Pc [.ref a_t, .int p0, .int p1] (aP D cA [(a_t, .inr (0, [.int t_count, .ref a_t_bytes])), (a_t_bytes, .inl ((cA 1), n_t_bytes, .inl t_bytes))] sz)) (va_Qi (fun r9 (_ : Unit) => r9 = o) (fun _ => aR D cA (va_A [(a_t, .inr (0, [.int t_count, .ref a_t_bytes])), (a_t_bytes, .inl ((cA 1), n_t_bytes, .inl t_bytes))] sz) [(a_t, .inr (0, [.int t_count, .ref a_t_bytes])), (a_t_bytes, .inl ((cA 1), n_t_bytes, .inl t_bytes))]) (va_A [(a_t, .inr (0, [.int t_count, .ref a_t_bytes])), (a_t_bytes, .inl ((cA 1), n_t_bytes, .inl t_bytes))] sz)) 0 0 (va_A [(a_t, .inr (0, [.int t_count, .ref a_t_bytes])), (a_t_bytes, .inl ((cA 1), n_t_bytes, .inl t_bytes))] sz) := by
  refine Met.ofW (cc := b_Bl_u32) (maxL := 4) (ret := (some .int)) (by decide +kernel) rfl ?_
  intro p e s m args below meth c s₁ B hml hv
  obtain ⟨rfl, hsz, hP, hK, hD0, hE⟩ := hv
  have hx := B.exec
  have hb := B.bytes
  have hr := B.returns
  have hts := atoms_spec (ws := wd_Bl_u32) B.pre
  have hown : s.vm.findClass R_Bl = some m.cls := findClass_of_methodNamed B.named
  have hlocks := B.notSynchronized
  subst hsz
  have hD := hD0.self (sz := s.heap.size)
  generalize hAe : va_A [(a_t, .inr (0, [.int t_count, .ref a_t_bytes])), (a_t_bytes, .inl ((cA 1), n_t_bytes, .inl t_bytes))] s.heap.size = A at hD hE ⊢
  have hA : ∀ q : Nat, s.heap.size ≤ q → A q := fun q h => by rw [← hAe]; exact Or.inr h
  have hS : va_S A s.heap s.heap [] := va_S.rf
  have hl := lv_entry [.ref a_t, .int p0, .int p1] (n := 4) (Nat.le_of_ble_eq_true rfl)
  rw [lg_entry_eq]
  generalize (lg_sl [.ref a_t, .int p0, .int p1] ++ List.replicate (4 - (lg_sl [.ref a_t, .int p0, .int p1]).length) Slot.unset).toArray = ls at hl ⊢
  have hl : lv_has ls 4 [(0, .ref a_t), (1, .int p0), (2, .int p1)] := hl
  unfold f_Bl_u32 at hf
  refine lv_iload_n hx hb d_Bl_u32_0 rfl (lv_at hl 2 rfl) ?_
  refine lv_bipush (v := 60) hx hb d_Bl_u32_1 (by decide) ?_
  refine lv_icmp_gt (tgt := 15) hx hb d_Bl_u32_3 (by decide) (fun c_1 => ?_) (fun c_1 => ?_)
  · replace hf := (if_pos c_1).symm.trans hf
    refine lv_iconst (v := 0) hx hb d_Bl_u32_15 (by decide) ?_
    have ho9 := Option.some.inj hf
    subst ho9
    have hP9 := hP.sub (ws' := [(a_t, .inr (0, [.int t_count, .ref a_t_bytes])), (a_t_bytes, .inl ((cA 1), n_t_bytes, .inl t_bytes))]) [0, 1] rfl
    have hD9 := hD.sub (ws' := [(a_t, .inr (0, [.int t_count, .ref a_t_bytes])), (a_t_bytes, .inl ((cA 1), n_t_bytes, .inl t_bytes))]) [0, 1] (by decide) rfl
    exact W.iret (v := (0 : Int32)) hx hb hr (fun t ht hW => ⟨⟨_, (), rfl, rfl, by rw [ht]; exact hP9, va_K.moved hW.alike hK, hD9⟩, hS.F ht⟩) hS.2.2 d_Bl_u32_16
  · replace hf := (if_neg c_1).symm.trans hf
    refine lv_aload_n hx hb d_Bl_u32_6 rfl (lv_at hl 0 rfl) ?_
    refine lv_iload_n hx hb d_Bl_u32_7 rfl (lv_at hl 1 rfl) ?_
    refine lv_iload_n hx hb d_Bl_u32_8 rfl (lv_at hl 2 rfl) ?_
    obtain ⟨o_2, ho_2, hf⟩ := hk_bd hf
    refine q_i (wr := []) (va_runV (As := [.int p0, .int p1]) (rest := []) ⟨hx, hb, hml, hown, hts⟩ (c_Bl_has l D cA a_t a_t_bytes _ t_count n_t_bytes t_bytes p0 p1 o_2 ho_2) (cwV 2 hts (gd_V gm_2 gm_3 gm_4 gm_5 gm_1) rfl rfl rfl (by decide +kernel) ⟨Nat.le_of_ble_eq_true rfl, Nat.le_of_ble_eq_true rfl⟩) (q_pV hK hP hD hS hA hE [0, 1] (by decide) rfl rfl rfl rfl) rfl rfl hl.1 rfl (lv_room (Nat.le_of_ble_eq_true rfl)) d_Bl_u32_9 ⟨Nat.zero_le _, Nat.zero_le _⟩) hP hD hS hA [0, 1] [] rfl rfl (by decide) (by decide) (fun H locs hP hD hS => ?_)
    have hP : va_P D classes [(a_t, .inr (0, [.int t_count, .ref a_t_bytes])), (a_t_bytes, .inl ((cA 1), n_t_bytes, .inl t_bytes))] H := hP
    have hD : va_D A [(a_t, .inr (0, [.int t_count, .ref a_t_bytes])), (a_t_bytes, .inl ((cA 1), n_t_bytes, .inl t_bytes))] := hD
    refine lv_if_ne (tgt := 17) hx hb d_Bl_u32_12 (by decide) (fun c_3 => ?_) (fun c_3 => ?_)
    · replace hf := (if_neg c_3).symm.trans hf
      refine lv_iload_n hx hb d_Bl_u32_17 rfl (lv_at hl 1 rfl) ?_
      refine lv_bipush (v := 64) hx hb d_Bl_u32_18 (by decide) ?_
      refine lv_imul hx hb d_Bl_u32_20 ?_
      refine lv_iload_n hx hb d_Bl_u32_21 rfl (lv_at hl 2 rfl) ?_
      refine lv_iadd hx hb d_Bl_u32_22 ?_
      refine lv_istore_n (lv' := [(3, .int ((p0 * (64 : Int32)) + p1)), (0, .ref a_t), (1, .int p0), (2, .int p1)]) hx hb d_Bl_u32_23 rfl hl (by decide) rfl (fun ls hl => ?_)
      refine lv_aload_n hx hb d_Bl_u32_24 rfl (lv_at hl 1 rfl) ?_
      refine va_get (D := D) (ci := 0) (v := .ref a_t_bytes) (C := R_Bl) (T := F_Bl) (N := 2) hx hb hts (fun w9 h9 => .tail _ (gu_Bl w9 h9)) hown hK hP 0 rfl rfl 1 (by decide) (hts _ (.tail _ gm_6)) (fun _ h9 => h9) rfl d_Bl_u32_25 ?_
      refine lv_iload_n hx hb d_Bl_u32_28 rfl (lv_at hl 0 rfl) ?_
      obtain ⟨ck_4, hf⟩ := hk_if hf
      refine va_bald hx hb hK hP 1 1 rfl rfl ck_4 d_Bl_u32_29 ?_
      refine lv_sipush (v := 255) hx hb d_Bl_u32_30 (by decide) ?_
      refine lv_iand hx hb d_Bl_u32_33 ?_
      refine lv_bipush (v := 24) hx hb d_Bl_u32_34 (by decide) ?_
      refine lv_ishl hx hb d_Bl_u32_36 ?_
      refine lv_aload_n hx hb d_Bl_u32_37 rfl (lv_at hl 1 rfl) ?_
      refine va_get (D := D) (ci := 0) (v := .ref a_t_bytes) (C := R_Bl) (T := F_Bl) (N := 2) hx hb hts (fun w9 h9 => .tail _ (gu_Bl w9 h9)) hown hK hP 0 rfl rfl 1 (by decide) (hts _ (.tail _ gm_6)) (fun _ h9 => h9) rfl d_Bl_u32_38 ?_
      refine lv_iload_n hx hb d_Bl_u32_41 rfl (lv_at hl 0 rfl) ?_
      refine lv_iconst (v := 1) hx hb d_Bl_u32_42 (by decide) ?_
      refine lv_iadd hx hb d_Bl_u32_43 ?_
      obtain ⟨ck_5, hf⟩ := hk_if hf
      refine va_bald hx hb hK hP 1 1 rfl rfl ck_5 d_Bl_u32_44 ?_
      refine lv_sipush (v := 255) hx hb d_Bl_u32_45 (by decide) ?_
      refine lv_iand hx hb d_Bl_u32_48 ?_
      refine lv_bipush (v := 16) hx hb d_Bl_u32_49 (by decide) ?_
      refine lv_ishl hx hb d_Bl_u32_51 ?_
      refine lv_ior hx hb d_Bl_u32_52 ?_
      refine lv_aload_n hx hb d_Bl_u32_53 rfl (lv_at hl 1 rfl) ?_
      refine va_get (D := D) (ci := 0) (v := .ref a_t_bytes) (C := R_Bl) (T := F_Bl) (N := 2) hx hb hts (fun w9 h9 => .tail _ (gu_Bl w9 h9)) hown hK hP 0 rfl rfl 1 (by decide) (hts _ (.tail _ gm_6)) (fun _ h9 => h9) rfl d_Bl_u32_54 ?_
      refine lv_iload_n hx hb d_Bl_u32_57 rfl (lv_at hl 0 rfl) ?_
      refine lv_iconst (v := 2) hx hb d_Bl_u32_58 (by decide) ?_
      refine lv_iadd hx hb d_Bl_u32_59 ?_
      obtain ⟨ck_6, hf⟩ := hk_if hf
      refine va_bald hx hb hK hP 1 1 rfl rfl ck_6 d_Bl_u32_60 ?_
      refine lv_sipush (v := 255) hx hb d_Bl_u32_61 (by decide) ?_
      refine lv_iand hx hb d_Bl_u32_64 ?_
      refine lv_bipush (v := 8) hx hb d_Bl_u32_65 (by decide) ?_
      refine lv_ishl hx hb d_Bl_u32_67 ?_
      refine lv_ior hx hb d_Bl_u32_68 ?_
      refine lv_aload_n hx hb d_Bl_u32_69 rfl (lv_at hl 1 rfl) ?_
      refine va_get (D := D) (ci := 0) (v := .ref a_t_bytes) (C := R_Bl) (T := F_Bl) (N := 2) hx hb hts (fun w9 h9 => .tail _ (gu_Bl w9 h9)) hown hK hP 0 rfl rfl 1 (by decide) (hts _ (.tail _ gm_6)) (fun _ h9 => h9) rfl d_Bl_u32_70 ?_
      refine lv_iload_n hx hb d_Bl_u32_73 rfl (lv_at hl 0 rfl) ?_
      refine lv_iconst (v := 3) hx hb d_Bl_u32_74 (by decide) ?_
      refine lv_iadd hx hb d_Bl_u32_75 ?_
      obtain ⟨ck_7, hf⟩ := hk_if hf
      refine va_bald hx hb hK hP 1 1 rfl rfl ck_7 d_Bl_u32_76 ?_
      refine lv_sipush (v := 255) hx hb d_Bl_u32_77 (by decide) ?_
      refine lv_iand hx hb d_Bl_u32_80 ?_
      refine lv_ior hx hb d_Bl_u32_81 ?_
      have ho9 := Option.some.inj hf
      subst ho9
      have hP9 := hP.sub (ws' := [(a_t, .inr (0, [.int t_count, .ref a_t_bytes])), (a_t_bytes, .inl ((cA 1), n_t_bytes, .inl t_bytes))]) [0, 1] rfl
      have hD9 := hD.sub (ws' := [(a_t, .inr (0, [.int t_count, .ref a_t_bytes])), (a_t_bytes, .inl ((cA 1), n_t_bytes, .inl t_bytes))]) [0, 1] (by decide) rfl
      exact W.iret (v := ((((((t_bytes ((p0 * (64 : Int32)) + p1).toNatClampNeg) &&& (255 : Int32)) <<< ((24 : Int32) &&& 31)) ||| (((t_bytes (((p0 * (64 : Int32)) + p1) + (1 : Int32)).toNatClampNeg) &&& (255 : Int32)) <<< ((16 : Int32) &&& 31))) ||| (((t_bytes (((p0 * (64 : Int32)) + p1) + (2 : Int32)).toNatClampNeg) &&& (255 : Int32)) <<< ((8 : Int32) &&& 31))) ||| ((t_bytes (((p0 * (64 : Int32)) + p1) + (3 : Int32)).toNatClampNeg) &&& (255 : Int32)))) hx hb hr (fun t ht hW => ⟨⟨_, (), rfl, rfl, by rw [ht]; exact hP9, va_K.moved hW.alike hK, hD9⟩, hS.F ht⟩) hS.2.2 d_Bl_u32_82
    · replace hf := (if_pos c_3).symm.trans hf
      refine lv_iconst (v := 0) hx hb d_Bl_u32_15 (by decide) ?_
      have ho9 := Option.some.inj hf
      subst ho9
      have hP9 := hP.sub (ws' := [(a_t, .inr (0, [.int t_count, .ref a_t_bytes])), (a_t_bytes, .inl ((cA 1), n_t_bytes, .inl t_bytes))]) [0, 1] rfl
      have hD9 := hD.sub (ws' := [(a_t, .inr (0, [.int t_count, .ref a_t_bytes])), (a_t_bytes, .inl ((cA 1), n_t_bytes, .inl t_bytes))]) [0, 1] (by decide) rfl
      exact W.iret (v := (0 : Int32)) hx hb hr (fun t ht hW => ⟨⟨_, (), rfl, rfl, by rw [ht]; exact hP9, va_K.moved hW.alike hK, hD9⟩, hS.F ht⟩) hS.2.2 d_Bl_u32_16
theorem d_Bl_setU32_0 : decode b_Bl_setU32 0 = .ok (.aload_n 0, 1) := by decide +kernel
theorem d_Bl_setU32_1 : decode b_Bl_setU32 1 = .ok (.iload_n 1, 1) := by decide +kernel
theorem d_Bl_setU32_2 : decode b_Bl_setU32 2 = .ok (.iload_n 2, 1) := by decide +kernel
theorem d_Bl_setU32_3 : decode b_Bl_setU32 3 = .ok (.iload_n 3, 1) := by decide +kernel
theorem d_Bl_setU32_4 : decode b_Bl_setU32 4 = .ok (.bipush 24, 2) := by decide +kernel
theorem d_Bl_setU32_6 : decode b_Bl_setU32 6 = .ok (.iushr, 1) := by decide +kernel
theorem d_Bl_setU32_7 : decode b_Bl_setU32 7 = .ok (.invokevirtual 32, 3) := by decide +kernel
theorem d_Bl_setU32_10 : decode b_Bl_setU32 10 = .ok (.aload_n 0, 1) := by decide +kernel
theorem d_Bl_setU32_11 : decode b_Bl_setU32 11 = .ok (.iload_n 1, 1) := by decide +kernel
theorem d_Bl_setU32_12 : decode b_Bl_setU32 12 = .ok (.iload_n 2, 1) := by decide +kernel
theorem d_Bl_setU32_13 : decode b_Bl_setU32 13 = .ok (.iconst 1, 1) := by decide +kernel
theorem d_Bl_setU32_14 : decode b_Bl_setU32 14 = .ok (.iadd, 1) := by decide +kernel
theorem d_Bl_setU32_15 : decode b_Bl_setU32 15 = .ok (.iload_n 3, 1) := by decide +kernel
theorem d_Bl_setU32_16 : decode b_Bl_setU32 16 = .ok (.bipush 16, 2) := by decide +kernel
theorem d_Bl_setU32_18 : decode b_Bl_setU32 18 = .ok (.iushr, 1) := by decide +kernel
theorem d_Bl_setU32_19 : decode b_Bl_setU32 19 = .ok (.invokevirtual 32, 3) := by decide +kernel
theorem d_Bl_setU32_22 : decode b_Bl_setU32 22 = .ok (.aload_n 0, 1) := by decide +kernel
theorem d_Bl_setU32_23 : decode b_Bl_setU32 23 = .ok (.iload_n 1, 1) := by decide +kernel
theorem d_Bl_setU32_24 : decode b_Bl_setU32 24 = .ok (.iload_n 2, 1) := by decide +kernel
theorem d_Bl_setU32_25 : decode b_Bl_setU32 25 = .ok (.iconst 2, 1) := by decide +kernel
theorem d_Bl_setU32_26 : decode b_Bl_setU32 26 = .ok (.iadd, 1) := by decide +kernel
theorem d_Bl_setU32_27 : decode b_Bl_setU32 27 = .ok (.iload_n 3, 1) := by decide +kernel
theorem d_Bl_setU32_28 : decode b_Bl_setU32 28 = .ok (.bipush 8, 2) := by decide +kernel
theorem d_Bl_setU32_30 : decode b_Bl_setU32 30 = .ok (.iushr, 1) := by decide +kernel
theorem d_Bl_setU32_31 : decode b_Bl_setU32 31 = .ok (.invokevirtual 32, 3) := by decide +kernel
theorem d_Bl_setU32_34 : decode b_Bl_setU32 34 = .ok (.aload_n 0, 1) := by decide +kernel
theorem d_Bl_setU32_35 : decode b_Bl_setU32 35 = .ok (.iload_n 1, 1) := by decide +kernel
theorem d_Bl_setU32_36 : decode b_Bl_setU32 36 = .ok (.iload_n 2, 1) := by decide +kernel
theorem d_Bl_setU32_37 : decode b_Bl_setU32 37 = .ok (.iconst 3, 1) := by decide +kernel
theorem d_Bl_setU32_38 : decode b_Bl_setU32 38 = .ok (.iadd, 1) := by decide +kernel
theorem d_Bl_setU32_39 : decode b_Bl_setU32 39 = .ok (.iload_n 3, 1) := by decide +kernel
theorem d_Bl_setU32_40 : decode b_Bl_setU32 40 = .ok (.invokevirtual 32, 3) := by decide +kernel
theorem d_Bl_setU32_43 : decode b_Bl_setU32 43 = .ok (.return_, 1) := by decide +kernel
abbrev wd_Bl_setU32 : List Cond := .code y_Bl_setU32 b_Bl_setU32 4 none :: gw
def f_Bl_setU32 (t_count : Int32) (n_t_bytes : Nat) (t_bytes : Nat → Int32) (p0 : Int32) (p1 : Int32) (p2 : Int32) : Option ((Nat → Int32)) :=
  (f_Bl_set t_count n_t_bytes t_bytes p0 p1 (p2.toUInt32 >>> ((24 : Int32).toUInt32 &&& Int32.toUInt32 31)).toInt32).bind fun o_1 =>
  (f_Bl_set t_count n_t_bytes o_1 p0 (p1 + (1 : Int32)) (p2.toUInt32 >>> ((16 : Int32).toUInt32 &&& Int32.toUInt32 31)).toInt32).bind fun o_2 =>
  (f_Bl_set t_count n_t_bytes o_2 p0 (p1 + (2 : Int32)) (p2.toUInt32 >>> ((8 : Int32).toUInt32 &&& Int32.toUInt32 31)).toInt32).bind fun o_3 =>
  (f_Bl_set t_count n_t_bytes o_3 p0 (p1 + (3 : Int32)) p2).bind fun o_4 =>
  some o_4
set_option maxHeartbeats 4000000 in
set_option maxRecDepth 100000 in
theorem c_Bl_setU32 (l : Launch) (D : va_G) (cA : Nat → ClassId) (a_t a_t_bytes : Nat) (sz : Nat) (t_count : Int32) (n_t_bytes : Nat) (t_bytes : Nat → Int32) (p0 : Int32) (p1 : Int32) (p2 : Int32) (o : (Nat → Int32)) (hf : f_Bl_setU32 t_count n_t_bytes t_bytes p0 p1 p2 = some o) : Met l y_Bl_setU32 wd_Bl_setU32 ({ frames := 2, cells := 0, slots := 0, locals := 45 }) (va_Pc [.ref a_t, .int p0, .int p1, .int p2] (aP D cA [(a_t, .inr (0, [.int t_count, .ref a_t_bytes])), (a_t_bytes, .inl ((cA 1), n_t_bytes, .inl t_bytes))] sz)) (va_Qv (fun (_ : Unit) => True) (fun _ => aR D cA (va_A [(a_t, .inr (0, [.int t_count, .ref a_t_bytes])), (a_t_bytes, .inl ((cA 1), n_t_bytes, .inl t_bytes))] sz) [(a_t, .inr (0, [.int t_count, .ref a_t_bytes])), (a_t_bytes, .inl ((cA 1), n_t_bytes, .inl o))]) (va_A [(a_t, .inr (0, [.int t_count, .ref a_t_bytes])), (a_t_bytes, .inl ((cA 1), n_t_bytes, .inl t_bytes))] sz)) 0 0 (va_A [(a_t, .inr (0, [.int t_count, .ref a_t_bytes])), (a_t_bytes, .inl ((cA 1), n_t_bytes, .inl t_bytes))] sz) := by
  refine Met.ofW (cc := b_Bl_setU32) (maxL := 4) (ret := none) (by decide +kernel) rfl ?_
  intro p e s m args below meth c s₁ B hml hv
  obtain ⟨rfl, hsz, hP, hK, hD0, hE⟩ := hv
  have hx := B.exec
  have hb := B.bytes
  have hr := B.returns
  have hts := atoms_spec (ws := wd_Bl_setU32) B.pre
  have hown : s.vm.findClass R_Bl = some m.cls := findClass_of_methodNamed B.named
  have hlocks := B.notSynchronized
  subst hsz
  have hD := hD0.self (sz := s.heap.size)
  generalize hAe : va_A [(a_t, .inr (0, [.int t_count, .ref a_t_bytes])), (a_t_bytes, .inl ((cA 1), n_t_bytes, .inl t_bytes))] s.heap.size = A at hD hE ⊢
  have hA : ∀ q : Nat, s.heap.size ≤ q → A q := fun q h => by rw [← hAe]; exact Or.inr h
  have hS : va_S A s.heap s.heap [] := va_S.rf
  have hl := lv_entry [.ref a_t, .int p0, .int p1, .int p2] (n := 4) (Nat.le_of_ble_eq_true rfl)
  rw [lg_entry_eq]
  generalize (lg_sl [.ref a_t, .int p0, .int p1, .int p2] ++ List.replicate (4 - (lg_sl [.ref a_t, .int p0, .int p1, .int p2]).length) Slot.unset).toArray = ls at hl ⊢
  have hl : lv_has ls 4 [(0, .ref a_t), (1, .int p0), (2, .int p1), (3, .int p2)] := hl
  unfold f_Bl_setU32 at hf
  refine lv_aload_n hx hb d_Bl_setU32_0 rfl (lv_at hl 0 rfl) ?_
  refine lv_iload_n hx hb d_Bl_setU32_1 rfl (lv_at hl 1 rfl) ?_
  refine lv_iload_n hx hb d_Bl_setU32_2 rfl (lv_at hl 2 rfl) ?_
  refine lv_iload_n hx hb d_Bl_setU32_3 rfl (lv_at hl 3 rfl) ?_
  refine lv_bipush (v := 24) hx hb d_Bl_setU32_4 (by decide) ?_
  refine lv_iushr hx hb d_Bl_setU32_6 rfl ?_
  obtain ⟨o_1, ho_1, hf⟩ := hk_bd hf
  refine q_v (wr := []) (va_runV (As := [.int p0, .int p1, .int (p2.toUInt32 >>> ((24 : Int32).toUInt32 &&& Int32.toUInt32 31)).toInt32]) (rest := []) ⟨hx, hb, hml, hown, hts⟩ (c_Bl_set l D cA a_t a_t_bytes _ t_count n_t_bytes t_bytes p0 p1 (p2.toUInt32 >>> ((24 : Int32).toUInt32 &&& Int32.toUInt32 31)).toInt32 o_1 ho_1) (cwV 3 hts (gd_V gm_8 gm_9 gm_10 gm_5 gm_7) rfl rfl rfl (by decide +kernel) ⟨Nat.le_of_ble_eq_true rfl, Nat.le_of_ble_eq_true rfl⟩) (q_pV hK hP hD hS hA hE [0, 1] (by decide) rfl rfl rfl rfl) rfl rfl hl.1 rfl (lv_room (Nat.le_of_ble_eq_true rfl)) d_Bl_setU32_7 ⟨Nat.zero_le _, Nat.zero_le _⟩) hP hD hS hA [0, 1] [] rfl rfl (by decide) (by decide) (fun H locs hP hD hS => ?_)
  have hP : va_P D classes [(a_t, .inr (0, [.int t_count, .ref a_t_bytes])), (a_t_bytes, .inl ((cA 1), n_t_bytes, .inl o_1))] H := hP
  have hD : va_D A [(a_t, .inr (0, [.int t_count, .ref a_t_bytes])), (a_t_bytes, .inl ((cA 1), n_t_bytes, .inl o_1))] := hD
  refine lv_aload_n hx hb d_Bl_setU32_10 rfl (lv_at hl 0 rfl) ?_
  refine lv_iload_n hx hb d_Bl_setU32_11 rfl (lv_at hl 1 rfl) ?_
  refine lv_iload_n hx hb d_Bl_setU32_12 rfl (lv_at hl 2 rfl) ?_
  refine lv_iconst (v := 1) hx hb d_Bl_setU32_13 (by decide) ?_
  refine lv_iadd hx hb d_Bl_setU32_14 ?_
  refine lv_iload_n hx hb d_Bl_setU32_15 rfl (lv_at hl 3 rfl) ?_
  refine lv_bipush (v := 16) hx hb d_Bl_setU32_16 (by decide) ?_
  refine lv_iushr hx hb d_Bl_setU32_18 rfl ?_
  obtain ⟨o_2, ho_2, hf⟩ := hk_bd hf
  refine q_v (wr := []) (va_runV (As := [.int p0, .int (p1 + (1 : Int32)), .int (p2.toUInt32 >>> ((16 : Int32).toUInt32 &&& Int32.toUInt32 31)).toInt32]) (rest := []) ⟨hx, hb, hml, hown, hts⟩ (c_Bl_set l D cA a_t a_t_bytes _ t_count n_t_bytes o_1 p0 (p1 + (1 : Int32)) (p2.toUInt32 >>> ((16 : Int32).toUInt32 &&& Int32.toUInt32 31)).toInt32 o_2 ho_2) (cwV 3 hts (gd_V gm_8 gm_9 gm_10 gm_5 gm_7) rfl rfl rfl (by decide +kernel) ⟨Nat.le_of_ble_eq_true rfl, Nat.le_of_ble_eq_true rfl⟩) (q_pV hK hP hD hS hA hE [0, 1] (by decide) rfl rfl rfl rfl) rfl rfl hl.1 rfl (lv_room (Nat.le_of_ble_eq_true rfl)) d_Bl_setU32_19 ⟨Nat.zero_le _, Nat.zero_le _⟩) hP hD hS hA [0, 1] [] rfl rfl (by decide) (by decide) (fun H locs hP hD hS => ?_)
  have hP : va_P D classes [(a_t, .inr (0, [.int t_count, .ref a_t_bytes])), (a_t_bytes, .inl ((cA 1), n_t_bytes, .inl o_2))] H := hP
  have hD : va_D A [(a_t, .inr (0, [.int t_count, .ref a_t_bytes])), (a_t_bytes, .inl ((cA 1), n_t_bytes, .inl o_2))] := hD
  refine lv_aload_n hx hb d_Bl_setU32_22 rfl (lv_at hl 0 rfl) ?_
  refine lv_iload_n hx hb d_Bl_setU32_23 rfl (lv_at hl 1 rfl) ?_
  refine lv_iload_n hx hb d_Bl_setU32_24 rfl (lv_at hl 2 rfl) ?_
  refine lv_iconst (v := 2) hx hb d_Bl_setU32_25 (by decide) ?_
  refine lv_iadd hx hb d_Bl_setU32_26 ?_
  refine lv_iload_n hx hb d_Bl_setU32_27 rfl (lv_at hl 3 rfl) ?_
  refine lv_bipush (v := 8) hx hb d_Bl_setU32_28 (by decide) ?_
  refine lv_iushr hx hb d_Bl_setU32_30 rfl ?_
  obtain ⟨o_3, ho_3, hf⟩ := hk_bd hf
  refine q_v (wr := []) (va_runV (As := [.int p0, .int (p1 + (2 : Int32)), .int (p2.toUInt32 >>> ((8 : Int32).toUInt32 &&& Int32.toUInt32 31)).toInt32]) (rest := []) ⟨hx, hb, hml, hown, hts⟩ (c_Bl_set l D cA a_t a_t_bytes _ t_count n_t_bytes o_2 p0 (p1 + (2 : Int32)) (p2.toUInt32 >>> ((8 : Int32).toUInt32 &&& Int32.toUInt32 31)).toInt32 o_3 ho_3) (cwV 3 hts (gd_V gm_8 gm_9 gm_10 gm_5 gm_7) rfl rfl rfl (by decide +kernel) ⟨Nat.le_of_ble_eq_true rfl, Nat.le_of_ble_eq_true rfl⟩) (q_pV hK hP hD hS hA hE [0, 1] (by decide) rfl rfl rfl rfl) rfl rfl hl.1 rfl (lv_room (Nat.le_of_ble_eq_true rfl)) d_Bl_setU32_31 ⟨Nat.zero_le _, Nat.zero_le _⟩) hP hD hS hA [0, 1] [] rfl rfl (by decide) (by decide) (fun H locs hP hD hS => ?_)
  have hP : va_P D classes [(a_t, .inr (0, [.int t_count, .ref a_t_bytes])), (a_t_bytes, .inl ((cA 1), n_t_bytes, .inl o_3))] H := hP
  have hD : va_D A [(a_t, .inr (0, [.int t_count, .ref a_t_bytes])), (a_t_bytes, .inl ((cA 1), n_t_bytes, .inl o_3))] := hD
  refine lv_aload_n hx hb d_Bl_setU32_34 rfl (lv_at hl 0 rfl) ?_
  refine lv_iload_n hx hb d_Bl_setU32_35 rfl (lv_at hl 1 rfl) ?_
  refine lv_iload_n hx hb d_Bl_setU32_36 rfl (lv_at hl 2 rfl) ?_
  refine lv_iconst (v := 3) hx hb d_Bl_setU32_37 (by decide) ?_
  refine lv_iadd hx hb d_Bl_setU32_38 ?_
  refine lv_iload_n hx hb d_Bl_setU32_39 rfl (lv_at hl 3 rfl) ?_
  obtain ⟨o_4, ho_4, hf⟩ := hk_bd hf
  refine q_v (wr := []) (va_runV (As := [.int p0, .int (p1 + (3 : Int32)), .int p2]) (rest := []) ⟨hx, hb, hml, hown, hts⟩ (c_Bl_set l D cA a_t a_t_bytes _ t_count n_t_bytes o_3 p0 (p1 + (3 : Int32)) p2 o_4 ho_4) (cwV 3 hts (gd_V gm_8 gm_9 gm_10 gm_5 gm_7) rfl rfl rfl (by decide +kernel) ⟨Nat.le_of_ble_eq_true rfl, Nat.le_of_ble_eq_true rfl⟩) (q_pV hK hP hD hS hA hE [0, 1] (by decide) rfl rfl rfl rfl) rfl rfl hl.1 rfl (lv_room (Nat.le_of_ble_eq_true rfl)) d_Bl_setU32_40 ⟨Nat.zero_le _, Nat.zero_le _⟩) hP hD hS hA [0, 1] [] rfl rfl (by decide) (by decide) (fun H locs hP hD hS => ?_)
  have hP : va_P D classes [(a_t, .inr (0, [.int t_count, .ref a_t_bytes])), (a_t_bytes, .inl ((cA 1), n_t_bytes, .inl o_4))] H := hP
  have hD : va_D A [(a_t, .inr (0, [.int t_count, .ref a_t_bytes])), (a_t_bytes, .inl ((cA 1), n_t_bytes, .inl o_4))] := hD
  have ho9 := Option.some.inj hf
  subst ho9
  have hP9 := hP.sub (ws' := [(a_t, .inr (0, [.int t_count, .ref a_t_bytes])), (a_t_bytes, .inl ((cA 1), n_t_bytes, .inl o_4))]) [0, 1] rfl
  have hD9 := hD.sub (ws' := [(a_t, .inr (0, [.int t_count, .ref a_t_bytes])), (a_t_bytes, .inl ((cA 1), n_t_bytes, .inl o_4))]) [0, 1] (by decide) rfl
  exact W.vret hx hb hr (fun t ht hW => ⟨⟨(), rfl, trivial, by rw [ht]; exact hP9, va_K.moved hW.alike hK, hD9⟩, hS.F ht⟩) hS.2.2 d_Bl_setU32_43
theorem d_Bl_clear_0 : decode b_Bl_clear 0 = .ok (.iconst 0, 1) := by decide +kernel
theorem d_Bl_clear_1 : decode b_Bl_clear 1 = .ok (.istore_n 2, 1) := by decide +kernel
theorem d_Bl_clear_2 : decode b_Bl_clear 2 = .ok (.iload_n 2, 1) := by decide +kernel
theorem d_Bl_clear_3 : decode b_Bl_clear 3 = .ok (.bipush 64, 2) := by decide +kernel
theorem d_Bl_clear_5 : decode b_Bl_clear 5 = .ok (.if_icmp .ge 16, 3) := by decide +kernel
theorem d_Bl_clear_8 : decode b_Bl_clear 8 = .ok (.aload_n 0, 1) := by decide +kernel
theorem d_Bl_clear_9 : decode b_Bl_clear 9 = .ok (.iload_n 1, 1) := by decide +kernel
theorem d_Bl_clear_10 : decode b_Bl_clear 10 = .ok (.iload_n 2, 1) := by decide +kernel
theorem d_Bl_clear_11 : decode b_Bl_clear 11 = .ok (.iconst 0, 1) := by decide +kernel
theorem d_Bl_clear_12 : decode b_Bl_clear 12 = .ok (.invokevirtual 32, 3) := by decide +kernel
theorem d_Bl_clear_15 : decode b_Bl_clear 15 = .ok (.iinc 2 1, 3) := by decide +kernel
theorem d_Bl_clear_18 : decode b_Bl_clear 18 = .ok (.goto (-16), 3) := by decide +kernel
theorem d_Bl_clear_21 : decode b_Bl_clear 21 = .ok (.return_, 1) := by decide +kernel
abbrev wd_Bl_clear : List Cond := .code y_Bl_clear b_Bl_clear 3 none :: gw
def f_Bl_clear_L2 (t_count : Int32) (n_t_bytes : Nat) (t_bytes : Nat → Int32) (p0 : Int32) : Nat → (Nat → Int32) → Int32 → Option ((Nat → Int32))
  | 0, _, _ => none
  | n2 + 1, t_bytes', x2 =>
    if (64 : Int32) ≤ x2 then
      some t_bytes'
    else
      (f_Bl_set t_count n_t_bytes t_bytes' p0 x2 (0 : Int32)).bind fun o_2 =>
      f_Bl_clear_L2 t_count n_t_bytes t_bytes p0 n2 o_2 (x2 + (1 : Int32))
def f_Bl_clear (t_count : Int32) (n_t_bytes : Nat) (t_bytes : Nat → Int32) (p0 : Int32) : Option ((Nat → Int32)) :=
  f_Bl_clear_L2 t_count n_t_bytes t_bytes p0 70 t_bytes (0 : Int32)
set_option maxHeartbeats 4000000 in
set_option maxRecDepth 100000 in
theorem k_Bl_clear_L2 {p : Program} {l : Launch} {e : Env} {s : State} {m : MethodId} {args : Array Value} {below : List Frame} {meth : Method} {c : Code} (hx : p.tables.exec = Jvm.exec) (hb : c.code = b_Bl_clear) (hr : meth.sig.returnType = none) (hml : c.maxLocals = 3) (hown : s.vm.findClass R_Bl = some m.cls) (hts : ∀ w ∈ wd_Bl_clear, w.before args s = true) (hlocks : meth.locks = false) {A : Nat → Prop} (hA : ∀ q, s.heap.size ≤ q → A q) (hE : ev A s) {D : va_G} {cA : Nat → ClassId} (hK : va_K D classes (tys cA) s) (a_t a_t_bytes : Nat) (t_count : Int32) (n_t_bytes : Nat) (t_bytes : Nat → Int32) (p0 : Int32) (o : (Nat → Int32)) :
    ∀ (n : Nat) (t_bytes' : Nat → Int32) (x2 : Int32) (H : Heap) (locs : List Loc), f_Bl_clear_L2 t_count n_t_bytes t_bytes p0  n t_bytes' x2 = some o → va_P D classes [(a_t, .inr (0, [.int t_count, .ref a_t_bytes])), (a_t_bytes, .inl ((cA 1), n_t_bytes, .inl t_bytes'))] H → va_D A [(a_t, .inr (0, [.int t_count, .ref a_t_bytes])), (a_t_bytes, .inl ((cA 1), n_t_bytes, .inl t_bytes'))] → va_S A s.heap H locs → ∀ ls : Array Slot, lv_has ls 3 [(0, .ref a_t), (1, .int p0), (2, .int x2)] → W p l e ({ frames := 2, cells := 0, slots := 0, locals := 45 }) s m args below meth c H locs 0 0 (MQ below (va_Qv (fun (_ : Unit) => True) (fun _ => aR D cA A [(a_t, .inr (0, [.int t_count, .ref a_t_bytes])), (a_t_bytes, .inl ((cA 1), n_t_bytes, .inl o))]) A) args s 0 0 A) (F0 m 2 ls []) := by
  intro n
  induction n with
  | zero =>
    intro t_bytes' x2 H locs hf
    cases hf
  | succ n2 ih =>
    intro t_bytes' x2 H locs hf hP hD hS ls hl
    rw [f_Bl_clear_L2.eq_2] at hf
    refine lv_iload_n hx hb d_Bl_clear_2 rfl (lv_at hl 2 rfl) ?_
    refine lv_bipush (v := 64) hx hb d_Bl_clear_3 (by decide) ?_
    refine lv_icmp_ge (tgt := 21) hx hb d_Bl_clear_5 (by decide) (fun c_1 => ?_) (fun c_1 => ?_)
    · replace hf := (if_pos c_1).symm.trans hf
      have ho9 := Option.some.inj hf
      subst ho9
      have hP9 := hP.sub (ws' := [(a_t, .inr (0, [.int t_count, .ref a_t_bytes])), (a_t_bytes, .inl ((cA 1), n_t_bytes, .inl t_bytes'))]) [0, 1] rfl
      have hD9 := hD.sub (ws' := [(a_t, .inr (0, [.int t_count, .ref a_t_bytes])), (a_t_bytes, .inl ((cA 1), n_t_bytes, .inl t_bytes'))]) [0, 1] (by decide) rfl
      exact W.vret hx hb hr (fun t ht hW => ⟨⟨(), rfl, trivial, by rw [ht]; exact hP9, va_K.moved hW.alike hK, hD9⟩, hS.F ht⟩) hS.2.2 d_Bl_clear_21
    · replace hf := (if_neg c_1).symm.trans hf
      refine lv_aload_n hx hb d_Bl_clear_8 rfl (lv_at hl 0 rfl) ?_
      refine lv_iload_n hx hb d_Bl_clear_9 rfl (lv_at hl 1 rfl) ?_
      refine lv_iload_n hx hb d_Bl_clear_10 rfl (lv_at hl 2 rfl) ?_
      refine lv_iconst (v := 0) hx hb d_Bl_clear_11 (by decide) ?_
      obtain ⟨o_2, ho_2, hf⟩ := hk_bd hf
      refine q_v (wr := []) (va_runV (As := [.int p0, .int x2, .int (0 : Int32)]) (rest := []) ⟨hx, hb, hml, hown, hts⟩ (c_Bl_set l D cA a_t a_t_bytes _ t_count n_t_bytes t_bytes' p0 x2 (0 : Int32) o_2 ho_2) (cwV 3 hts (gd_V gm_8 gm_9 gm_10 gm_5 gm_7) rfl rfl rfl (by decide +kernel) ⟨Nat.le_of_ble_eq_true rfl, Nat.le_of_ble_eq_true rfl⟩) (q_pV hK hP hD hS hA hE [0, 1] (by decide) rfl rfl rfl rfl) rfl rfl hl.1 rfl (lv_room (Nat.le_of_ble_eq_true rfl)) d_Bl_clear_12 ⟨Nat.zero_le _, Nat.zero_le _⟩) hP hD hS hA [0, 1] [] rfl rfl (by decide) (by decide) (fun H locs hP hD hS => ?_)
      have hP : va_P D classes [(a_t, .inr (0, [.int t_count, .ref a_t_bytes])), (a_t_bytes, .inl ((cA 1), n_t_bytes, .inl o_2))] H := hP
      have hD : va_D A [(a_t, .inr (0, [.int t_count, .ref a_t_bytes])), (a_t_bytes, .inl ((cA 1), n_t_bytes, .inl o_2))] := hD
      refine lv_iinc (v := (x2 + (1 : Int32))) (lv' := [(2, .int (x2 + (1 : Int32))), (0, .ref a_t), (1, .int p0)]) hx hb d_Bl_clear_15 hl (k := 2) rfl rfl (by decide) rfl (fun ls hl => ?_)
      refine lv_goto (tgt := 2) hx hb d_Bl_clear_18 (by decide) ?_
      exact ih o_2 (x2 + (1 : Int32)) _ _ hf (hP.sub [0, 1] rfl) (hD.sub [0, 1] (by decide) rfl) hS ls (lv_sub hl [1, 2, 0] rfl)
set_option maxHeartbeats 4000000 in
set_option maxRecDepth 100000 in
theorem c_Bl_clear (l : Launch) (D : va_G) (cA : Nat → ClassId) (a_t a_t_bytes : Nat) (sz : Nat) (t_count : Int32) (n_t_bytes : Nat) (t_bytes : Nat → Int32) (p0 : Int32) (o : (Nat → Int32)) (hf : f_Bl_clear t_count n_t_bytes t_bytes p0 = some o) : Met l y_Bl_clear wd_Bl_clear ({ frames := 2, cells := 0, slots := 0, locals := 45 }) (va_Pc [.ref a_t, .int p0] (aP D cA [(a_t, .inr (0, [.int t_count, .ref a_t_bytes])), (a_t_bytes, .inl ((cA 1), n_t_bytes, .inl t_bytes))] sz)) (va_Qv (fun (_ : Unit) => True) (fun _ => aR D cA (va_A [(a_t, .inr (0, [.int t_count, .ref a_t_bytes])), (a_t_bytes, .inl ((cA 1), n_t_bytes, .inl t_bytes))] sz) [(a_t, .inr (0, [.int t_count, .ref a_t_bytes])), (a_t_bytes, .inl ((cA 1), n_t_bytes, .inl o))]) (va_A [(a_t, .inr (0, [.int t_count, .ref a_t_bytes])), (a_t_bytes, .inl ((cA 1), n_t_bytes, .inl t_bytes))] sz)) 0 0 (va_A [(a_t, .inr (0, [.int t_count, .ref a_t_bytes])), (a_t_bytes, .inl ((cA 1), n_t_bytes, .inl t_bytes))] sz) := by
  refine Met.ofW (cc := b_Bl_clear) (maxL := 3) (ret := none) (by decide +kernel) rfl ?_
  intro p e s m args below meth c s₁ B hml hv
  obtain ⟨rfl, hsz, hP, hK, hD0, hE⟩ := hv
  have hx := B.exec
  have hb := B.bytes
  have hr := B.returns
  have hts := atoms_spec (ws := wd_Bl_clear) B.pre
  have hown : s.vm.findClass R_Bl = some m.cls := findClass_of_methodNamed B.named
  have hlocks := B.notSynchronized
  subst hsz
  have hD := hD0.self (sz := s.heap.size)
  generalize hAe : va_A [(a_t, .inr (0, [.int t_count, .ref a_t_bytes])), (a_t_bytes, .inl ((cA 1), n_t_bytes, .inl t_bytes))] s.heap.size = A at hD hE ⊢
  have hA : ∀ q : Nat, s.heap.size ≤ q → A q := fun q h => by rw [← hAe]; exact Or.inr h
  have hS : va_S A s.heap s.heap [] := va_S.rf
  have hl := lv_entry [.ref a_t, .int p0] (n := 3) (Nat.le_of_ble_eq_true rfl)
  rw [lg_entry_eq]
  generalize (lg_sl [.ref a_t, .int p0] ++ List.replicate (3 - (lg_sl [.ref a_t, .int p0]).length) Slot.unset).toArray = ls at hl ⊢
  have hl : lv_has ls 3 [(0, .ref a_t), (1, .int p0)] := hl
  unfold f_Bl_clear at hf
  refine lv_iconst (v := 0) hx hb d_Bl_clear_0 (by decide) ?_
  refine lv_istore_n (lv' := [(2, .int (0 : Int32)), (0, .ref a_t), (1, .int p0)]) hx hb d_Bl_clear_1 rfl hl (by decide) rfl (fun ls hl => ?_)
  exact k_Bl_clear_L2 hx hb hr hml hown hts hlocks hA hE hK a_t a_t_bytes t_count n_t_bytes t_bytes p0 _ _ t_bytes (0 : Int32) _ _ hf (hP.sub [0, 1] rfl) (hD.sub [0, 1] (by decide) rfl) hS ls (lv_sub hl [1, 2, 0] rfl)
