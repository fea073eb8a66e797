theorem gm_11 : (.methodLink R_Bl 36 arraycopyName : Cond) ∈ gw := gw_in (i := 298) (by decide +kernel) rfl
theorem gm_12 : (.native arraycopyName : Cond) ∈ gw := gw_in (i := 300) (by decide +kernel) rfl
theorem gm_13 : (.static arraycopyName : Cond) ∈ gw := gw_in (i := 299) (by decide +kernel) rfl
theorem gm_14 : (.initialized "java/lang/System" : Cond) ∈ gw := gw_in (i := 39) (by decide +kernel) rfl
theorem gm_15 : (.fieldLink R_Bl 42 "RoundJournal$Blocks" "FOUR_BITS" "[I" : Cond) ∈ gw := gw_in (i := 198) (by decide +kernel) rfl
theorem gm_16 : (.code y_Bl_checkOf b_Bl_checkOf 5 (some .int) : Cond) ∈ gw := gw_in (i := 197) (by decide +kernel) rfl
theorem gm_17 : (.methodLink R_Bl 46 y_Bl_checkOf : Cond) ∈ gw := gw_in (i := 194) (by decide +kernel) rfl
theorem gm_18 : (.instanceMethod y_Bl_checkOf : Cond) ∈ gw := gw_in (i := 195) (by decide +kernel) rfl
theorem gm_19 : (.selects R_Bl y_Bl_checkOf y_Bl_checkOf : Cond) ∈ gw := gw_in (i := 196) (by decide +kernel) rfl
theorem gm_20 : (.code y_Bl_setU32 b_Bl_setU32 4 none : Cond) ∈ gw := gw_in (i := 189) (by decide +kernel) rfl
theorem gm_21 : (.methodLink R_Bl 50 y_Bl_setU32 : Cond) ∈ gw := gw_in (i := 200) (by decide +kernel) rfl
theorem gm_22 : (.instanceMethod y_Bl_setU32 : Cond) ∈ gw := gw_in (i := 187) (by decide +kernel) rfl
theorem gm_23 : (.selects R_Bl y_Bl_setU32 y_Bl_setU32 : Cond) ∈ gw := gw_in (i := 188) (by decide +kernel) rfl
theorem gm_24 : (.code y_Bl_u32 b_Bl_u32 4 (some .int) : Cond) ∈ gw := gw_in (i := 208) (by decide +kernel) rfl
theorem gm_25 : (.methodLink R_Bl 53 y_Bl_u32 : Cond) ∈ gw := gw_in (i := 499) (by decide +kernel) rfl
theorem gm_26 : (.instanceMethod y_Bl_u32 : Cond) ∈ gw := gw_in (i := 206) (by decide +kernel) rfl
theorem gm_27 : (.selects R_Bl y_Bl_u32 y_Bl_u32 : Cond) ∈ gw := gw_in (i := 207) (by decide +kernel) rfl
theorem d_Bl_copyFrom_0 : decode b_Bl_copyFrom 0 = .ok (.aload_n 0, 1) := by decide +kernel
theorem d_Bl_copyFrom_1 : decode b_Bl_copyFrom 1 = .ok (.iload_n 3, 1) := by decide +kernel
theorem d_Bl_copyFrom_2 : decode b_Bl_copyFrom 2 = .ok (.iconst 0, 1) := by decide +kernel
theorem d_Bl_copyFrom_3 : decode b_Bl_copyFrom 3 = .ok (.invokevirtual 28, 3) := by decide +kernel
theorem d_Bl_copyFrom_6 : decode b_Bl_copyFrom 6 = .ok (.ifCond .eq 45, 3) := by decide +kernel
theorem d_Bl_copyFrom_9 : decode b_Bl_copyFrom 9 = .ok (.aload_n 1, 1) := by decide +kernel
theorem d_Bl_copyFrom_10 : decode b_Bl_copyFrom 10 = .ok (.iload_n 2, 1) := by decide +kernel
theorem d_Bl_copyFrom_11 : decode b_Bl_copyFrom 11 = .ok (.iconst 0, 1) := by decide +kernel
theorem d_Bl_copyFrom_12 : decode b_Bl_copyFrom 12 = .ok (.invokevirtual 28, 3) := by decide +kernel
theorem d_Bl_copyFrom_15 : decode b_Bl_copyFrom 15 = .ok (.ifCond .eq 36, 3) := by decide +kernel
theorem d_Bl_copyFrom_18 : decode b_Bl_copyFrom 18 = .ok (.iload 4, 2) := by decide +kernel
theorem d_Bl_copyFrom_20 : decode b_Bl_copyFrom 20 = .ok (.ifCond .lt 31, 3) := by decide +kernel
theorem d_Bl_copyFrom_23 : decode b_Bl_copyFrom 23 = .ok (.iload 4, 2) := by decide +kernel
theorem d_Bl_copyFrom_25 : decode b_Bl_copyFrom 25 = .ok (.bipush 64, 2) := by decide +kernel
theorem d_Bl_copyFrom_27 : decode b_Bl_copyFrom 27 = .ok (.if_icmp .gt 24, 3) := by decide +kernel
theorem d_Bl_copyFrom_30 : decode b_Bl_copyFrom 30 = .ok (.aload_n 1, 1) := by decide +kernel
theorem d_Bl_copyFrom_31 : decode b_Bl_copyFrom 31 = .ok (.getfield 24, 3) := by decide +kernel
theorem d_Bl_copyFrom_34 : decode b_Bl_copyFrom 34 = .ok (.iload_n 2, 1) := by decide +kernel
theorem d_Bl_copyFrom_35 : decode b_Bl_copyFrom 35 = .ok (.bipush 64, 2) := by decide +kernel
theorem d_Bl_copyFrom_37 : decode b_Bl_copyFrom 37 = .ok (.imul, 1) := by decide +kernel
theorem d_Bl_copyFrom_38 : decode b_Bl_copyFrom 38 = .ok (.aload_n 0, 1) := by decide +kernel
theorem d_Bl_copyFrom_39 : decode b_Bl_copyFrom 39 = .ok (.getfield 24, 3) := by decide +kernel
theorem d_Bl_copyFrom_42 : decode b_Bl_copyFrom 42 = .ok (.iload_n 3, 1) := by decide +kernel
theorem d_Bl_copyFrom_43 : decode b_Bl_copyFrom 43 = .ok (.bipush 64, 2) := by decide +kernel
theorem d_Bl_copyFrom_45 : decode b_Bl_copyFrom 45 = .ok (.imul, 1) := by decide +kernel
theorem d_Bl_copyFrom_46 : decode b_Bl_copyFrom 46 = .ok (.iload 4, 2) := by decide +kernel
theorem d_Bl_copyFrom_48 : decode b_Bl_copyFrom 48 = .ok (.invokestatic 36, 3) := by decide +kernel
theorem d_Bl_copyFrom_51 : decode b_Bl_copyFrom 51 = .ok (.return_, 1) := by decide +kernel
abbrev wd_Bl_copyFrom : List Cond := .code y_Bl_copyFrom b_Bl_copyFrom 5 none :: gw
def f_Bl_copyFrom (t_count : Int32) (n_t_bytes : Nat) (t_bytes : Nat → Int32) (p0_count : Int32) (n_p0_bytes : Nat) (p0_bytes : Nat → Int32) (p1 : Int32) (p2 : Int32) (p3 : Int32) : Option ((Nat → Int32)) :=
  (f_Bl_has t_count n_t_bytes t_bytes p2 (0 : Int32)).bind fun o_1 =>
  if o_1 = 0 then
    some t_bytes
  else
    (f_Bl_has p0_count n_p0_bytes p0_bytes p1 (0 : Int32)).bind fun o_3 =>
    if o_3 = 0 then
      some t_bytes
    else
      if p3 < 0 then
        some t_bytes
      else
        if (64 : Int32) < p3 then
          some t_bytes
        else
          if (p1 * (64 : Int32)) < 0 then none else
          if (p2 * (64 : Int32)) < 0 then none else
          if p3 < 0 then none else
          if ¬ ((p1 * (64 : Int32)).toNatClampNeg + p3.toNatClampNeg ≤ n_p0_bytes) then none else
          if ¬ ((p2 * (64 : Int32)).toNatClampNeg + p3.toNatClampNeg ≤ n_t_bytes) then none else
          if ¬ (∀ i, i < p3.toNatClampNeg → fits .byte (.int (p0_bytes ((p1 * (64 : Int32)).toNatClampNeg + i))) = true) then none else
          some (va_cpy p0_bytes t_bytes (p1 * (64 : Int32)).toNatClampNeg (p2 * (64 : Int32)).toNatClampNeg p3.toNatClampNeg)
set_option maxHeartbeats 4000000 in
set_option maxRecDepth 100000 in
theorem c_Bl_copyFrom (l : Launch) (D : va_G) (cA : Nat → ClassId) (a_t a_t_bytes a_p0 a_p0_bytes : Nat) (sz : Nat) (t_count : Int32) (n_t_bytes : Nat) (t_bytes : Nat → Int32) (p0_count : Int32) (n_p0_bytes : Nat) (p0_bytes : Nat → Int32) (p1 : Int32) (p2 : Int32) (p3 : Int32) (o : (Nat → Int32)) (hf : f_Bl_copyFrom t_count n_t_bytes t_bytes p0_count n_p0_bytes p0_bytes p1 p2 p3 = some o) : Met l y_Bl_copyFrom wd_Bl_copyFrom ({ frames := 1, cells := 0, slots := 0, locals := 40 }) (va_Pc [.ref a_t, .ref a_p0, .int p1, .int p2, .int p3] (aP D cA [(a_t, .inr (0, [.int t_count, .ref a_t_bytes])), (a_t_bytes, .inl ((cA 1), n_t_bytes, .inl t_bytes)), (a_p0, .inr (0, [.int p0_count, .ref a_p0_bytes])), (a_p0_bytes, .inl ((cA 1), n_p0_bytes, .inl p0_bytes))] sz)) (va_Qv (fun (_ : Unit) => True) (fun _ => aR D cA (va_A [(a_t, .inr (0, [.int t_count, .ref a_t_bytes])), (a_t_bytes, .inl ((cA 1), n_t_bytes, .inl t_bytes)), (a_p0, .inr (0, [.int p0_count, .ref a_p0_bytes])), (a_p0_bytes, .inl ((cA 1), n_p0_bytes, .inl p0_bytes))] sz) [(a_t, .inr (0, [.int t_count, .ref a_t_bytes])), (a_t_bytes, .inl ((cA 1), n_t_bytes, .inl o)), (a_p0, .inr (0, [.int p0_count, .ref a_p0_bytes])), (a_p0_bytes, .inl ((cA 1), n_p0_bytes, .inl p0_bytes))]) (va_A [(a_t, .inr (0, [.int t_count, .ref a_t_bytes])), (a_t_bytes, .inl ((cA 1), n_t_bytes, .inl t_bytes)), (a_p0, .inr (0, [.int p0_count, .ref a_p0_bytes])), (a_p0_bytes, .inl ((cA 1), n_p0_bytes, .inl p0_bytes))] sz)) 0 0 (va_A [(a_t, .inr (0, [.int t_count, .ref a_t_bytes])), (a_t_bytes, .inl ((cA 1), n_t_bytes, .inl t_bytes)), (a_p0, .inr (0, [.int p0_count, .ref a_p0_bytes])), (a_p0_bytes, .inl ((cA 1), n_p0_bytes, .inl p0_bytes))] sz) := by
  refine Met.ofW (cc := b_Bl_copyFrom) (maxL := 5) (ret := none) (by decide +kernel) rfl ?_
  intro p e s m args below meth c s₁ B hml hv
  obtain ⟨rfl, hsz, hP, hK, hD0, hE⟩ := hv
  have hx := B.exec
  have hb := B.bytes
  have hr := B.returns
  have hts := atoms_spec (ws := wd_Bl_copyFrom) B.pre
  have hown : s.vm.findClass R_Bl = some m.cls := findClass_of_methodNamed B.named
  have hlocks := B.notSynchronized
  subst hsz
  have hD := hD0.self (sz := s.heap.size)
  generalize hAe : va_A [(a_t, .inr (0, [.int t_count, .ref a_t_bytes])), (a_t_bytes, .inl ((cA 1), n_t_bytes, .inl t_bytes)), (a_p0, .inr (0, [.int p0_count, .ref a_p0_bytes])), (a_p0_bytes, .inl ((cA 1), n_p0_bytes, .inl p0_bytes))] s.heap.size = A at hD hE ⊢
  have hA : ∀ q : Nat, s.heap.size ≤ q → A q := fun q h => by rw [← hAe]; exact Or.inr h
  have hS : va_S A s.heap s.heap [] := va_S.rf
  have hl := lv_entry [.ref a_t, .ref a_p0, .int p1, .int p2, .int p3] (n := 5) (Nat.le_of_ble_eq_true rfl)
  rw [lg_entry_eq]
  generalize (lg_sl [.ref a_t, .ref a_p0, .int p1, .int p2, .int p3] ++ List.replicate (5 - (lg_sl [.ref a_t, .ref a_p0, .int p1, .int p2, .int p3]).length) Slot.unset).toArray = ls at hl ⊢
  have hl : lv_has ls 5 [(0, .ref a_t), (1, .ref a_p0), (2, .int p1), (3, .int p2), (4, .int p3)] := hl
  unfold f_Bl_copyFrom at hf
  refine lv_aload_n hx hb d_Bl_copyFrom_0 rfl (lv_at hl 0 rfl) ?_
  refine lv_iload_n hx hb d_Bl_copyFrom_1 rfl (lv_at hl 3 rfl) ?_
  refine lv_iconst (v := 0) hx hb d_Bl_copyFrom_2 (by decide) ?_
  obtain ⟨o_1, ho_1, hf⟩ := hk_bd hf
  refine q_i (wr := [(a_p0, .inr (0, [.int p0_count, .ref a_p0_bytes])), (a_p0_bytes, .inl ((cA 1), n_p0_bytes, .inl p0_bytes))]) (va_runV (As := [.int p2, .int (0 : Int32)]) (rest := []) ⟨hx, hb, hml, hown, hts⟩ (c_Bl_has l D cA a_t a_t_bytes _ t_count n_t_bytes t_bytes p2 (0 : Int32) o_1 ho_1) (cwV 2 hts (gd_V gm_2 gm_3 gm_4 gm_5 gm_1) rfl rfl rfl (by decide +kernel) ⟨Nat.le_of_ble_eq_true rfl, Nat.le_of_ble_eq_true rfl⟩) (q_pV hK hP hD hS hA hE [0, 1] (by decide) rfl rfl rfl rfl) rfl rfl hl.1 rfl (lv_room (Nat.le_of_ble_eq_true rfl)) d_Bl_copyFrom_3 ⟨Nat.zero_le _, Nat.zero_le _⟩) hP hD hS hA [0, 1] [2, 3] rfl rfl (by decide) (by decide) (fun H locs hP hD hS => ?_)
  have hP : va_P D classes [(a_p0, .inr (0, [.int p0_count, .ref a_p0_bytes])), (a_p0_bytes, .inl ((cA 1), n_p0_bytes, .inl p0_bytes)), (a_t, .inr (0, [.int t_count, .ref a_t_bytes])), (a_t_bytes, .inl ((cA 1), n_t_bytes, .inl t_bytes))] H := hP
  have hD : va_D A [(a_p0, .inr (0, [.int p0_count, .ref a_p0_bytes])), (a_p0_bytes, .inl ((cA 1), n_p0_bytes, .inl p0_bytes)), (a_t, .inr (0, [.int t_count, .ref a_t_bytes])), (a_t_bytes, .inl ((cA 1), n_t_bytes, .inl t_bytes))] := hD
  refine lv_if_eq (tgt := 51) hx hb d_Bl_copyFrom_6 (by decide) (fun c_2 => ?_) (fun c_2 => ?_)
  · replace hf := (if_pos c_2).symm.trans hf
    have ho9 := Option.some.inj hf
    subst ho9
    have hP9 := hP.sub (ws' := [(a_t, .inr (0, [.int t_count, .ref a_t_bytes])), (a_t_bytes, .inl ((cA 1), n_t_bytes, .inl t_bytes)), (a_p0, .inr (0, [.int p0_count, .ref a_p0_bytes])), (a_p0_bytes, .inl ((cA 1), n_p0_bytes, .inl p0_bytes))]) [2, 3, 0, 1] rfl
    have hD9 := hD.sub (ws' := [(a_t, .inr (0, [.int t_count, .ref a_t_bytes])), (a_t_bytes, .inl ((cA 1), n_t_bytes, .inl t_bytes)), (a_p0, .inr (0, [.int p0_count, .ref a_p0_bytes])), (a_p0_bytes, .inl ((cA 1), n_p0_bytes, .inl p0_bytes))]) [2, 3, 0, 1] (by decide) rfl
    exact W.vret hx hb hr (fun t ht hW => ⟨⟨(), rfl, trivial, by rw [ht]; exact hP9, va_K.moved hW.alike hK, hD9⟩, hS.F ht⟩) hS.2.2 d_Bl_copyFrom_51
  · replace hf := (if_neg c_2).symm.trans hf
    refine lv_aload_n hx hb d_Bl_copyFrom_9 rfl (lv_at hl 1 rfl) ?_
    refine lv_iload_n hx hb d_Bl_copyFrom_10 rfl (lv_at hl 2 rfl) ?_
    refine lv_iconst (v := 0) hx hb d_Bl_copyFrom_11 (by decide) ?_
    obtain ⟨o_3, ho_3, hf⟩ := hk_bd hf
    refine q_i (wr := [(a_t, .inr (0, [.int t_count, .ref a_t_bytes])), (a_t_bytes, .inl ((cA 1), n_t_bytes, .inl t_bytes))]) (va_runV (As := [.int p1, .int (0 : Int32)]) (rest := []) ⟨hx, hb, hml, hown, hts⟩ (c_Bl_has l D cA a_p0 a_p0_bytes _ p0_count n_p0_bytes p0_bytes p1 (0 : Int32) o_3 ho_3) (cwV 2 hts (gd_V gm_2 gm_3 gm_4 gm_5 gm_1) rfl rfl rfl (by decide +kernel) ⟨Nat.le_of_ble_eq_true rfl, Nat.le_of_ble_eq_true rfl⟩) (q_pV hK hP hD hS hA hE [0, 1] (by decide) rfl rfl rfl rfl) rfl rfl hl.1 rfl (lv_room (Nat.le_of_ble_eq_true rfl)) d_Bl_copyFrom_12 ⟨Nat.zero_le _, Nat.zero_le _⟩) hP hD hS hA [0, 1] [2, 3] rfl rfl (by decide) (by decide) (fun H locs hP hD hS => ?_)
    have hP : va_P D classes [(a_t, .inr (0, [.int t_count, .ref a_t_bytes])), (a_t_bytes, .inl ((cA 1), n_t_bytes, .inl t_bytes)), (a_p0, .inr (0, [.int p0_count, .ref a_p0_bytes])), (a_p0_bytes, .inl ((cA 1), n_p0_bytes, .inl p0_bytes))] H := hP
    have hD : va_D A [(a_t, .inr (0, [.int t_count, .ref a_t_bytes])), (a_t_bytes, .inl ((cA 1), n_t_bytes, .inl t_bytes)), (a_p0, .inr (0, [.int p0_count, .ref a_p0_bytes])), (a_p0_bytes, .inl ((cA 1), n_p0_bytes, .inl p0_bytes))] := hD
    refine lv_if_eq (tgt := 51) hx hb d_Bl_copyFrom_15 (by decide) (fun c_4 => ?_) (fun c_4 => ?_)
    · replace hf := (if_pos c_4).symm.trans hf
      have ho9 := Option.some.inj hf
      subst ho9
      have hP9 := hP.sub (ws' := [(a_t, .inr (0, [.int t_count, .ref a_t_bytes])), (a_t_bytes, .inl ((cA 1), n_t_bytes, .inl t_bytes)), (a_p0, .inr (0, [.int p0_count, .ref a_p0_bytes])), (a_p0_bytes, .inl ((cA 1), n_p0_bytes, .inl p0_bytes))]) [0, 1, 2, 3] rfl
      have hD9 := hD.sub (ws' := [(a_t, .inr (0, [.int t_count, .ref a_t_bytes])), (a_t_bytes, .inl ((cA 1), n_t_bytes, .inl t_bytes)), (a_p0, .inr (0, [.int p0_count, .ref a_p0_bytes])), (a_p0_bytes, .inl ((cA 1), n_p0_bytes, .inl p0_bytes))]) [0, 1, 2, 3] (by decide) rfl
      exact W.vret hx hb hr (fun t ht hW => ⟨⟨(), rfl, trivial, by rw [ht]; exact hP9, va_K.moved hW.alike hK, hD9⟩, hS.F ht⟩) hS.2.2 d_Bl_copyFrom_51
    · replace hf := (if_neg c_4).symm.trans hf
      refine lv_iload hx hb d_Bl_copyFrom_18 (lv_at hl 4 rfl) ?_
      refine lv_if_lt (tgt := 51) hx hb d_Bl_copyFrom_20 (by decide) (fun c_5 => ?_) (fun c_5 => ?_)
      · replace hf := (if_pos c_5).symm.trans hf
        have ho9 := Option.some.inj hf
        subst ho9
        have hP9 := hP.sub (ws' := [(a_t, .inr (0, [.int t_count, .ref a_t_bytes])), (a_t_bytes, .inl ((cA 1), n_t_bytes, .inl t_bytes)), (a_p0, .inr (0, [.int p0_count, .ref a_p0_bytes])), (a_p0_bytes, .inl ((cA 1), n_p0_bytes, .inl p0_bytes))]) [0, 1, 2, 3] rfl
        have hD9 := hD.sub (ws' := [(a_t, .inr (0, [.int t_count, .ref a_t_bytes])), (a_t_bytes, .inl ((cA 1), n_t_bytes, .inl t_bytes)), (a_p0, .inr (0, [.int p0_count, .ref a_p0_bytes])), (a_p0_bytes, .inl ((cA 1), n_p0_bytes, .inl p0_bytes))]) [0, 1, 2, 3] (by decide) rfl
        exact W.vret hx hb hr (fun t ht hW => ⟨⟨(), rfl, trivial, by rw [ht]; exact hP9, va_K.moved hW.alike hK, hD9⟩, hS.F ht⟩) hS.2.2 d_Bl_copyFrom_51
      · replace hf := (if_neg c_5).symm.trans hf
        refine lv_iload hx hb d_Bl_copyFrom_23 (lv_at hl 4 rfl) ?_
        refine lv_bipush (v := 64) hx hb d_Bl_copyFrom_25 (by decide) ?_
        refine lv_icmp_gt (tgt := 51) hx hb d_Bl_copyFrom_27 (by decide) (fun c_6 => ?_) (fun c_6 => ?_)
        · replace hf := (if_pos c_6).symm.trans hf
          have ho9 := Option.some.inj hf
          subst ho9
          have hP9 := hP.sub (ws' := [(a_t, .inr (0, [.int t_count, .ref a_t_bytes])), (a_t_bytes, .inl ((cA 1), n_t_bytes, .inl t_bytes)), (a_p0, .inr (0, [.int p0_count, .ref a_p0_bytes])), (a_p0_bytes, .inl ((cA 1), n_p0_bytes, .inl p0_bytes))]) [0, 1, 2, 3] rfl
          have hD9 := hD.sub (ws' := [(a_t, .inr (0, [.int t_count, .ref a_t_bytes])), (a_t_bytes, .inl ((cA 1), n_t_bytes, .inl t_bytes)), (a_p0, .inr (0, [.int p0_count, .ref a_p0_bytes])), (a_p0_bytes, .inl ((cA 1), n_p0_bytes, .inl p0_bytes))]) [0, 1, 2, 3] (by decide) rfl
          exact W.vret hx hb hr (fun t ht hW => ⟨⟨(), rfl, trivial, by rw [ht]; exact hP9, va_K.moved hW.alike hK, hD9⟩, hS.F ht⟩) hS.2.2 d_Bl_copyFrom_51
        · replace hf := (if_neg c_6).symm.trans hf
          refine lv_aload_n hx hb d_Bl_copyFrom_30 rfl (lv_at hl 1 rfl) ?_
          refine va_get (D := D) (ci := 0) (v := .ref a_p0_bytes) (C := R_Bl) (T := F_Bl) (N := 2) hx hb hts (fun w9 h9 => .tail _ (gu_Bl w9 h9)) hown hK hP 2 rfl rfl 1 (by decide) (hts _ (.tail _ gm_6)) (fun _ h9 => h9) rfl d_Bl_copyFrom_31 ?_
          refine lv_iload_n hx hb d_Bl_copyFrom_34 rfl (lv_at hl 2 rfl) ?_
          refine lv_bipush (v := 64) hx hb d_Bl_copyFrom_35 (by decide) ?_
          refine lv_imul hx hb d_Bl_copyFrom_37 ?_
          refine lv_aload_n hx hb d_Bl_copyFrom_38 rfl (lv_at hl 0 rfl) ?_
          refine va_get (D := D) (ci := 0) (v := .ref a_t_bytes) (C := R_Bl) (T := F_Bl) (N := 2) hx hb hts (fun w9 h9 => .tail _ (gu_Bl w9 h9)) hown hK hP 0 rfl rfl 1 (by decide) (hts _ (.tail _ gm_6)) (fun _ h9 => h9) rfl d_Bl_copyFrom_39 ?_
          refine lv_iload_n hx hb d_Bl_copyFrom_42 rfl (lv_at hl 3 rfl) ?_
          refine lv_bipush (v := 64) hx hb d_Bl_copyFrom_43 (by decide) ?_
          refine lv_imul hx hb d_Bl_copyFrom_45 ?_
          refine lv_iload hx hb d_Bl_copyFrom_46 (lv_at hl 4 rfl) ?_
          obtain ⟨ck_7, hf⟩ := hk_if hf
          obtain ⟨ck_8, hf⟩ := hk_if hf
          obtain ⟨ck_9, hf⟩ := hk_if hf
          obtain ⟨ck_10, hf⟩ := hk_if hf
          obtain ⟨ck_11, hf⟩ := hk_if hf
          obtain ⟨ck_12, hf⟩ := hk_if hf
          refine va_copyi (ty := .byte) hx hb (by rw [hml]; exact hl.1.symm) hown (hts _ (.tail _ gm_11)) (hts _ (.tail _ gm_12)) (hts _ (.tail _ gm_13)) (hts _ (.tail _ gm_14)) hK hP hD hS 3 1 1 1 rfl rfl rfl rfl rfl ck_7 ck_8 ck_9 (Decidable.not_not.mp ck_10) (Decidable.not_not.mp ck_11) (Decidable.not_not.mp ck_12) (Nat.le_of_ble_eq_true rfl) (Nat.le_of_ble_eq_true rfl) d_Bl_copyFrom_48 (fun H locs hP hD hS => ?_)
          have hP : va_P D classes [(a_t, .inr (0, [.int t_count, .ref a_t_bytes])), (a_t_bytes, .inl ((cA 1), n_t_bytes, .inl (va_cpy p0_bytes t_bytes (p1 * (64 : Int32)).toNatClampNeg (p2 * (64 : Int32)).toNatClampNeg p3.toNatClampNeg))), (a_p0, .inr (0, [.int p0_count, .ref a_p0_bytes])), (a_p0_bytes, .inl ((cA 1), n_p0_bytes, .inl p0_bytes))] H := hP
          have hD : va_D A [(a_t, .inr (0, [.int t_count, .ref a_t_bytes])), (a_t_bytes, .inl ((cA 1), n_t_bytes, .inl (va_cpy p0_bytes t_bytes (p1 * (64 : Int32)).toNatClampNeg (p2 * (64 : Int32)).toNatClampNeg p3.toNatClampNeg))), (a_p0, .inr (0, [.int p0_count, .ref a_p0_bytes])), (a_p0_bytes, .inl ((cA 1), n_p0_bytes, .inl p0_bytes))] := hD
          have ho9 := Option.some.inj hf
          subst ho9
          have hP9 := hP.sub (ws' := [(a_t, .inr (0, [.int t_count, .ref a_t_bytes])), (a_t_bytes, .inl ((cA 1), n_t_bytes, .inl (va_cpy p0_bytes t_bytes (p1 * (64 : Int32)).toNatClampNeg (p2 * (64 : Int32)).toNatClampNeg p3.toNatClampNeg))), (a_p0, .inr (0, [.int p0_count, .ref a_p0_bytes])), (a_p0_bytes, .inl ((cA 1), n_p0_bytes, .inl p0_bytes))]) [0, 1, 2, 3] rfl
          have hD9 := hD.sub (ws' := [(a_t, .inr (0, [.int t_count, .ref a_t_bytes])), (a_t_bytes, .inl ((cA 1), n_t_bytes, .inl (va_cpy p0_bytes t_bytes (p1 * (64 : Int32)).toNatClampNeg (p2 * (64 : Int32)).toNatClampNeg p3.toNatClampNeg))), (a_p0, .inr (0, [.int p0_count, .ref a_p0_bytes])), (a_p0_bytes, .inl ((cA 1), n_p0_bytes, .inl p0_bytes))]) [0, 1, 2, 3] (by decide) rfl
          exact W.vret hx hb hr (fun t ht hW => ⟨⟨(), rfl, trivial, by rw [ht]; exact hP9, va_K.moved hW.alike hK, hD9⟩, hS.F ht⟩) hS.2.2 d_Bl_copyFrom_51
theorem d_Bl_checkOf_0 : decode b_Bl_checkOf 0 = .ok (.aload_n 0, 1) := by decide +kernel
theorem d_Bl_checkOf_1 : decode b_Bl_checkOf 1 = .ok (.iload_n 1, 1) := by decide +kernel
theorem d_Bl_checkOf_2 : decode b_Bl_checkOf 2 = .ok (.iconst 0, 1) := by decide +kernel
theorem d_Bl_checkOf_3 : decode b_Bl_checkOf 3 = .ok (.invokevirtual 28, 3) := by decide +kernel
theorem d_Bl_checkOf_6 : decode b_Bl_checkOf 6 = .ok (.ifCond .ne 5, 3) := by decide +kernel
theorem d_Bl_checkOf_9 : decode b_Bl_checkOf 9 = .ok (.iconst 0, 1) := by decide +kernel
theorem d_Bl_checkOf_10 : decode b_Bl_checkOf 10 = .ok (.ireturn, 1) := by decide +kernel
theorem d_Bl_checkOf_11 : decode b_Bl_checkOf 11 = .ok (.iload_n 1, 1) := by decide +kernel
theorem d_Bl_checkOf_12 : decode b_Bl_checkOf 12 = .ok (.bipush 64, 2) := by decide +kernel
theorem d_Bl_checkOf_14 : decode b_Bl_checkOf 14 = .ok (.imul, 1) := by decide +kernel
theorem d_Bl_checkOf_15 : decode b_Bl_checkOf 15 = .ok (.istore_n 2, 1) := by decide +kernel
theorem d_Bl_checkOf_16 : decode b_Bl_checkOf 16 = .ok (.iconst (-1), 1) := by decide +kernel
theorem d_Bl_checkOf_17 : decode b_Bl_checkOf 17 = .ok (.istore_n 3, 1) := by decide +kernel
theorem d_Bl_checkOf_18 : decode b_Bl_checkOf 18 = .ok (.iconst 0, 1) := by decide +kernel
theorem d_Bl_checkOf_19 : decode b_Bl_checkOf 19 = .ok (.istore 4, 2) := by decide +kernel
theorem d_Bl_checkOf_21 : decode b_Bl_checkOf 21 = .ok (.iload 4, 2) := by decide +kernel
theorem d_Bl_checkOf_23 : decode b_Bl_checkOf 23 = .ok (.bipush 60, 2) := by decide +kernel
theorem d_Bl_checkOf_25 : decode b_Bl_checkOf 25 = .ok (.if_icmp .ge 51, 3) := by decide +kernel
theorem d_Bl_checkOf_28 : decode b_Bl_checkOf 28 = .ok (.iload_n 3, 1) := by decide +kernel
theorem d_Bl_checkOf_29 : decode b_Bl_checkOf 29 = .ok (.aload_n 0, 1) := by decide +kernel
theorem d_Bl_checkOf_30 : decode b_Bl_checkOf 30 = .ok (.getfield 24, 3) := by decide +kernel
theorem d_Bl_checkOf_33 : decode b_Bl_checkOf 33 = .ok (.iload_n 2, 1) := by decide +kernel
theorem d_Bl_checkOf_34 : decode b_Bl_checkOf 34 = .ok (.iload 4, 2) := by decide +kernel
theorem d_Bl_checkOf_36 : decode b_Bl_checkOf 36 = .ok (.iadd, 1) := by decide +kernel
theorem d_Bl_checkOf_37 : decode b_Bl_checkOf 37 = .ok (.baload, 1) := by decide +kernel
theorem d_Bl_checkOf_38 : decode b_Bl_checkOf 38 = .ok (.sipush 255, 3) := by decide +kernel
theorem d_Bl_checkOf_41 : decode b_Bl_checkOf 41 = .ok (.iand, 1) := by decide +kernel
theorem d_Bl_checkOf_42 : decode b_Bl_checkOf 42 = .ok (.ixor, 1) := by decide +kernel
theorem d_Bl_checkOf_43 : decode b_Bl_checkOf 43 = .ok (.istore_n 3, 1) := by decide +kernel
theorem d_Bl_checkOf_44 : decode b_Bl_checkOf 44 = .ok (.iload_n 3, 1) := by decide +kernel
theorem d_Bl_checkOf_45 : decode b_Bl_checkOf 45 = .ok (.iconst 4, 1) := by decide +kernel
theorem d_Bl_checkOf_46 : decode b_Bl_checkOf 46 = .ok (.iushr, 1) := by decide +kernel
theorem d_Bl_checkOf_47 : decode b_Bl_checkOf 47 = .ok (.getstatic 42, 3) := by decide +kernel
theorem d_Bl_checkOf_50 : decode b_Bl_checkOf 50 = .ok (.iload_n 3, 1) := by decide +kernel
theorem d_Bl_checkOf_51 : decode b_Bl_checkOf 51 = .ok (.bipush 15, 2) := by decide +kernel
theorem d_Bl_checkOf_53 : decode b_Bl_checkOf 53 = .ok (.iand, 1) := by decide +kernel
theorem d_Bl_checkOf_54 : decode b_Bl_checkOf 54 = .ok (.iaload, 1) := by decide +kernel
theorem d_Bl_checkOf_55 : decode b_Bl_checkOf 55 = .ok (.ixor, 1) := by decide +kernel
theorem d_Bl_checkOf_56 : decode b_Bl_checkOf 56 = .ok (.istore_n 3, 1) := by decide +kernel
theorem d_Bl_checkOf_57 : decode b_Bl_checkOf 57 = .ok (.iload_n 3, 1) := by decide +kernel
theorem d_Bl_checkOf_58 : decode b_Bl_checkOf 58 = .ok (.iconst 4, 1) := by decide +kernel
theorem d_Bl_checkOf_59 : decode b_Bl_checkOf 59 = .ok (.iushr, 1) := by decide +kernel
theorem d_Bl_checkOf_60 : decode b_Bl_checkOf 60 = .ok (.getstatic 42, 3) := by decide +kernel
theorem d_Bl_checkOf_63 : decode b_Bl_checkOf 63 = .ok (.iload_n 3, 1) := by decide +kernel
theorem d_Bl_checkOf_64 : decode b_Bl_checkOf 64 = .ok (.bipush 15, 2) := by decide +kernel
theorem d_Bl_checkOf_66 : decode b_Bl_checkOf 66 = .ok (.iand, 1) := by decide +kernel
theorem d_Bl_checkOf_67 : decode b_Bl_checkOf 67 = .ok (.iaload, 1) := by decide +kernel
theorem d_Bl_checkOf_68 : decode b_Bl_checkOf 68 = .ok (.ixor, 1) := by decide +kernel
theorem d_Bl_checkOf_69 : decode b_Bl_checkOf 69 = .ok (.istore_n 3, 1) := by decide +kernel
theorem d_Bl_checkOf_70 : decode b_Bl_checkOf 70 = .ok (.iinc 4 1, 3) := by decide +kernel
theorem d_Bl_checkOf_73 : decode b_Bl_checkOf 73 = .ok (.goto (-52), 3) := by decide +kernel
theorem d_Bl_checkOf_76 : decode b_Bl_checkOf 76 = .ok (.iload_n 3, 1) := by decide +kernel
theorem d_Bl_checkOf_77 : decode b_Bl_checkOf 77 = .ok (.iconst (-1), 1) := by decide +kernel
theorem d_Bl_checkOf_78 : decode b_Bl_checkOf 78 = .ok (.ixor, 1) := by decide +kernel
theorem d_Bl_checkOf_79 : decode b_Bl_checkOf 79 = .ok (.ireturn, 1) := by decide +kernel
abbrev wd_Bl_checkOf : List Cond := .code y_Bl_checkOf b_Bl_checkOf 5 (some .int) :: gw
def f_Bl_checkOf_L21 (t_count : Int32) (n_t_bytes : Nat) (t_bytes : Nat → Int32) (p0 : Int32) (y2 : Int32) : Nat → Int32 → Int32 → Option (Int32)
  | 0, _, _ => none
  | n21 + 1, x3, x4 =>
    if (60 : Int32) ≤ x4 then
      some (x3 ^^^ (-1 : Int32))
    else
      if (y2 + x4) < 0 ∨ n_t_bytes ≤ (y2 + x4).toNatClampNeg then none else
      if ((x3 ^^^ ((t_bytes (y2 + x4).toNatClampNeg) &&& (255 : Int32))) &&& (15 : Int32)) < 0 ∨ 16 ≤ ((x3 ^^^ ((t_bytes (y2 + x4).toNatClampNeg) &&& (255 : Int32))) &&& (15 : Int32)).toNatClampNeg then none else
      if ((((x3 ^^^ ((t_bytes (y2 + x4).toNatClampNeg) &&& (255 : Int32))).toUInt32 >>> ((4 : Int32).toUInt32 &&& Int32.toUInt32 31)).toInt32 ^^^ (fb ((x3 ^^^ ((t_bytes (y2 + x4).toNatClampNeg) &&& (255 : Int32))) &&& (15 : Int32)).toNatClampNeg)) &&& (15 : Int32)) < 0 ∨ 16 ≤ ((((x3 ^^^ ((t_bytes (y2 + x4).toNatClampNeg) &&& (255 : Int32))).toUInt32 >>> ((4 : Int32).toUInt32 &&& Int32.toUInt32 31)).toInt32 ^^^ (fb ((x3 ^^^ ((t_bytes (y2 + x4).toNatClampNeg) &&& (255 : Int32))) &&& (15 : Int32)).toNatClampNeg)) &&& (15 : Int32)).toNatClampNeg then none else
      f_Bl_checkOf_L21 t_count n_t_bytes t_bytes p0 y2 n21 (((((x3 ^^^ ((t_bytes (y2 + x4).toNatClampNeg) &&& (255 : Int32))).toUInt32 >>> ((4 : Int32).toUInt32 &&& Int32.toUInt32 31)).toInt32 ^^^ (fb ((x3 ^^^ ((t_bytes (y2 + x4).toNatClampNeg) &&& (255 : Int32))) &&& (15 : Int32)).toNatClampNeg)).toUInt32 >>> ((4 : Int32).toUInt32 &&& Int32.toUInt32 31)).toInt32 ^^^ (fb ((((x3 ^^^ ((t_bytes (y2 + x4).toNatClampNeg) &&& (255 : Int32))).toUInt32 >>> ((4 : Int32).toUInt32 &&& Int32.toUInt32 31)).toInt32 ^^^ (fb ((x3 ^^^ ((t_bytes (y2 + x4).toNatClampNeg) &&& (255 : Int32))) &&& (15 : Int32)).toNatClampNeg)) &&& (15 : Int32)).toNatClampNeg)) (x4 + (1 : Int32))
def f_Bl_checkOf (t_count : Int32) (n_t_bytes : Nat) (t_bytes : Nat → Int32) (p0 : Int32) : Option (Int32) :=
  (f_Bl_has t_count n_t_bytes t_bytes p0 (0 : Int32)).bind fun o_1 =>
  if o_1 = 0 then
    some (0 : Int32)
  else
    f_Bl_checkOf_L21 t_count n_t_bytes t_bytes p0 (p0 * (64 : Int32)) 70 (-1 : Int32) (0 : Int32)
set_option maxHeartbeats 4000000 in
set_option maxRecDepth 100000 in
theorem k_Bl_checkOf_L21 {p : Program} {l : Launch} {e : Env} {s : State} {m : MethodId} {args : Array Value} {below : List Frame} {meth : Method} {c : Code} (hx : p.tables.exec = Jvm.exec) (hb : c.code = b_Bl_checkOf) (hr : meth.sig.returnType = (some .int)) (hml : c.maxLocals = 5) (hown : s.vm.findClass R_Bl = some m.cls) (hts : ∀ w ∈ wd_Bl_checkOf, w.before args s = true) (hlocks : meth.locks = false) {A : Nat → Prop} (hA : ∀ q, s.heap.size ≤ q → A q) (hE : ev A s) {D : va_G} {cA : Nat → ClassId} (hK : va_K D classes (tys cA) s) (a_t a_t_bytes : Nat) (t_count : Int32) (n_t_bytes : Nat) (t_bytes : Nat → Int32) (p0 : Int32) (y2 : Int32) (o : Int32) :
    ∀ (n : Nat) (x3 : Int32) (x4 : Int32) (H : Heap) (locs : List Loc), f_Bl_checkOf_L21 t_count n_t_bytes t_bytes p0 y2 n x3 x4 = some o → va_P D classes [(a_t, .inr (0, [.int t_count, .ref a_t_bytes])), (a_t_bytes, .inl ((cA 1), n_t_bytes, .inl t_bytes))] H → va_D A [(a_t, .inr (0, [.int t_count, .ref a_t_bytes])), (a_t_bytes, .inl ((cA 1), n_t_bytes, .inl t_bytes))] → va_S A s.heap H locs → ∀ ls : Array Slot, lv_has ls 5 [(0, .ref a_t), (1, .int p0), (2, .int y2), (3, .int x3), (4, .int x4)] → W p l e ({ frames := 1, cells := 0, slots := 0, locals := 22 }) s m args below meth c H locs 0 0 (MQ below (va_Qi (fun r9 (_ : Unit) => r9 = o) (fun _ => aR D cA A [(a_t, .inr (0, [.int t_count, .ref a_t_bytes])), (a_t_bytes, .inl ((cA 1), n_t_bytes, .inl t_bytes))]) A) args s 0 0 A) (F0 m 21 ls []) := by
  intro n
  induction n with
  | zero =>
    intro x3 x4 H locs hf
    cases hf
  | succ n21 ih =>
    intro x3 x4 H locs hf hP hD hS ls hl
    rw [f_Bl_checkOf_L21.eq_2] at hf
    refine lv_iload hx hb d_Bl_checkOf_21 (lv_at hl 4 rfl) ?_
    refine lv_bipush (v := 60) hx hb d_Bl_checkOf_23 (by decide) ?_
    refine lv_icmp_ge (tgt := 76) hx hb d_Bl_checkOf_25 (by decide) (fun c_3 => ?_) (fun c_3 => ?_)
    · replace hf := (if_pos c_3).symm.trans hf
      refine lv_iload_n hx hb d_Bl_checkOf_76 rfl (lv_at hl 3 rfl) ?_
      refine lv_iconst (v := (-1)) hx hb d_Bl_checkOf_77 (by decide) ?_
      refine lv_ixor hx hb d_Bl_checkOf_78 ?_
      have ho9 := Option.some.inj hf
      subst ho9
      have hP9 := hP.sub (ws' := [(a_t, .inr (0, [.int t_count, .ref a_t_bytes])), (a_t_bytes, .inl ((cA 1), n_t_bytes, .inl t_bytes))]) [0, 1] rfl
      have hD9 := hD.sub (ws' := [(a_t, .inr (0, [.int t_count, .ref a_t_bytes])), (a_t_bytes, .inl ((cA 1), n_t_bytes, .inl t_bytes))]) [0, 1] (by decide) rfl
      exact W.iret (v := (x3 ^^^ (-1 : Int32))) hx hb hr (fun t ht hW => ⟨⟨_, (), rfl, rfl, by rw [ht]; exact hP9, va_K.moved hW.alike hK, hD9⟩, hS.F ht⟩) hS.2.2 d_Bl_checkOf_79
    · replace hf := (if_neg c_3).symm.trans hf
      refine lv_iload_n hx hb d_Bl_checkOf_28 rfl (lv_at hl 3 rfl) ?_
      refine lv_aload_n hx hb d_Bl_checkOf_29 rfl (lv_at hl 0 rfl) ?_
      refine va_get (D := D) (ci := 0) (v := .ref a_t_bytes) (C := R_Bl) (T := F_Bl) (N := 2) hx hb hts (fun w9 h9 => .tail _ (gu_Bl w9 h9)) hown hK hP 0 rfl rfl 1 (by decide) (hts _ (.tail _ gm_6)) (fun _ h9 => h9) rfl d_Bl_checkOf_30 ?_
      refine lv_iload_n hx hb d_Bl_checkOf_33 rfl (lv_at hl 2 rfl) ?_
      refine lv_iload hx hb d_Bl_checkOf_34 (lv_at hl 4 rfl) ?_
      refine lv_iadd hx hb d_Bl_checkOf_36 ?_
      obtain ⟨ck_4, hf⟩ := hk_if hf
      refine va_bald hx hb hK hP 1 1 rfl rfl ck_4 d_Bl_checkOf_37 ?_
      refine lv_sipush (v := 255) hx hb d_Bl_checkOf_38 (by decide) ?_
      refine lv_iand hx hb d_Bl_checkOf_41 ?_
      refine lv_ixor hx hb d_Bl_checkOf_42 ?_
      refine lv_istore_n (lv' := [(3, .int (x3 ^^^ ((t_bytes (y2 + x4).toNatClampNeg) &&& (255 : Int32)))), (0, .ref a_t), (1, .int p0), (2, .int y2), (4, .int x4)]) hx hb d_Bl_checkOf_43 rfl hl (by decide) rfl (fun ls hl => ?_)
      refine lv_iload_n hx hb d_Bl_checkOf_44 rfl (lv_at hl 0 rfl) ?_
      refine lv_iconst (v := 4) hx hb d_Bl_checkOf_45 (by decide) ?_
      refine lv_iushr hx hb d_Bl_checkOf_46 rfl ?_
      obtain ⟨a_FOUR_BITS, hz9, ht9⟩ := hE.2.1
      refine va_gets hx hb hz9 hS hown (hts _ (.tail _ gm_15)) (fun _ h9 => h9) d_Bl_checkOf_47 ?_
      refine lv_iload_n hx hb d_Bl_checkOf_50 rfl (lv_at hl 0 rfl) ?_
      refine lv_bipush (v := 15) hx hb d_Bl_checkOf_51 (by decide) ?_
      refine lv_iand hx hb d_Bl_checkOf_53 ?_
      obtain ⟨ck_5, hf⟩ := hk_if hf
      refine va_ti (v := .int (fb ((x3 ^^^ ((t_bytes (y2 + x4).toNatClampNeg) &&& (255 : Int32))) &&& (15 : Int32)).toNatClampNeg)) hx hb ht9 hS ck_5 rfl d_Bl_checkOf_54 ?_
      refine lv_ixor hx hb d_Bl_checkOf_55 ?_
      refine lv_istore_n (lv' := [(3, .int (((x3 ^^^ ((t_bytes (y2 + x4).toNatClampNeg) &&& (255 : Int32))).toUInt32 >>> ((4 : Int32).toUInt32 &&& Int32.toUInt32 31)).toInt32 ^^^ (fb ((x3 ^^^ ((t_bytes (y2 + x4).toNatClampNeg) &&& (255 : Int32))) &&& (15 : Int32)).toNatClampNeg))), (0, .ref a_t), (1, .int p0), (2, .int y2), (4, .int x4)]) hx hb d_Bl_checkOf_56 rfl hl (by decide) rfl (fun ls hl => ?_)
      refine lv_iload_n hx hb d_Bl_checkOf_57 rfl (lv_at hl 0 rfl) ?_
      refine lv_iconst (v := 4) hx hb d_Bl_checkOf_58 (by decide) ?_
      refine lv_iushr hx hb d_Bl_checkOf_59 rfl ?_
      obtain ⟨a_FOUR_BITS, hz9, ht9⟩ := hE.2.1
      refine va_gets hx hb hz9 hS hown (hts _ (.tail _ gm_15)) (fun _ h9 => h9) d_Bl_checkOf_60 ?_
      refine lv_iload_n hx hb d_Bl_checkOf_63 rfl (lv_at hl 0 rfl) ?_
      refine lv_bipush (v := 15) hx hb d_Bl_checkOf_64 (by decide) ?_
      refine lv_iand hx hb d_Bl_checkOf_66 ?_
      obtain ⟨ck_6, hf⟩ := hk_if hf
      refine va_ti (v := .int (fb ((((x3 ^^^ ((t_bytes (y2 + x4).toNatClampNeg) &&& (255 : Int32))).toUInt32 >>> ((4 : Int32).toUInt32 &&& Int32.toUInt32 31)).toInt32 ^^^ (fb ((x3 ^^^ ((t_bytes (y2 + x4).toNatClampNeg) &&& (255 : Int32))) &&& (15 : Int32)).toNatClampNeg)) &&& (15 : Int32)).toNatClampNeg)) hx hb ht9 hS ck_6 rfl d_Bl_checkOf_67 ?_
      refine lv_ixor hx hb d_Bl_checkOf_68 ?_
      refine lv_istore_n (lv' := [(3, .int (((((x3 ^^^ ((t_bytes (y2 + x4).toNatClampNeg) &&& (255 : Int32))).toUInt32 >>> ((4 : Int32).toUInt32 &&& Int32.toUInt32 31)).toInt32 ^^^ (fb ((x3 ^^^ ((t_bytes (y2 + x4).toNatClampNeg) &&& (255 : Int32))) &&& (15 : Int32)).toNatClampNeg)).toUInt32 >>> ((4 : Int32).toUInt32 &&& Int32.toUInt32 31)).toInt32 ^^^ (fb ((((x3 ^^^ ((t_bytes (y2 + x4).toNatClampNeg) &&& (255 : Int32))).toUInt32 >>> ((4 : Int32).toUInt32 &&& Int32.toUInt32 31)).toInt32 ^^^ (fb ((x3 ^^^ ((t_bytes (y2 + x4).toNatClampNeg) &&& (255 : Int32))) &&& (15 : Int32)).toNatClampNeg)) &&& (15 : Int32)).toNatClampNeg))), (0, .ref a_t), (1, .int p0), (2, .int y2), (4, .int x4)]) hx hb d_Bl_checkOf_69 rfl hl (by decide) rfl (fun ls hl => ?_)
      refine lv_iinc (v := (x4 + (1 : Int32))) (lv' := [(4, .int (x4 + (1 : Int32))), (3, .int (((((x3 ^^^ ((t_bytes (y2 + x4).toNatClampNeg) &&& (255 : Int32))).toUInt32 >>> ((4 : Int32).toUInt32 &&& Int32.toUInt32 31)).toInt32 ^^^ (fb ((x3 ^^^ ((t_bytes (y2 + x4).toNatClampNeg) &&& (255 : Int32))) &&& (15 : Int32)).toNatClampNeg)).toUInt32 >>> ((4 : Int32).toUInt32 &&& Int32.toUInt32 31)).toInt32 ^^^ (fb ((((x3 ^^^ ((t_bytes (y2 + x4).toNatClampNeg) &&& (255 : Int32))).toUInt32 >>> ((4 : Int32).toUInt32 &&& Int32.toUInt32 31)).toInt32 ^^^ (fb ((x3 ^^^ ((t_bytes (y2 + x4).toNatClampNeg) &&& (255 : Int32))) &&& (15 : Int32)).toNatClampNeg)) &&& (15 : Int32)).toNatClampNeg))), (0, .ref a_t), (1, .int p0), (2, .int y2)]) hx hb d_Bl_checkOf_70 hl (k := 4) rfl rfl (by decide) rfl (fun ls hl => ?_)
      refine lv_goto (tgt := 21) hx hb d_Bl_checkOf_73 (by decide) ?_
      exact ih (((((x3 ^^^ ((t_bytes (y2 + x4).toNatClampNeg) &&& (255 : Int32))).toUInt32 >>> ((4 : Int32).toUInt32 &&& Int32.toUInt32 31)).toInt32 ^^^ (fb ((x3 ^^^ ((t_bytes (y2 + x4).toNatClampNeg) &&& (255 : Int32))) &&& (15 : Int32)).toNatClampNeg)).toUInt32 >>> ((4 : Int32).toUInt32 &&& Int32.toUInt32 31)).toInt32 ^^^ (fb ((((x3 ^^^ ((t_bytes (y2 + x4).toNatClampNeg) &&& (255 : Int32))).toUInt32 >>> ((4 : Int32).toUInt32 &&& Int32.toUInt32 31)).toInt32 ^^^ (fb ((x3 ^^^ ((t_bytes (y2 + x4).toNatClampNeg) &&& (255 : Int32))) &&& (15 : Int32)).toNatClampNeg)) &&& (15 : Int32)).toNatClampNeg)) (x4 + (1 : Int32)) _ _ hf (hP.sub [0, 1] rfl) (hD.sub [0, 1] (by decide) rfl) hS ls (lv_sub hl [2, 3, 4, 1, 0] rfl)
set_option maxHeartbeats 4000000 in
set_option maxRecDepth 100000 in
theorem c_Bl_checkOf (l : Launch) (D : va_G) (cA : Nat → ClassId) (a_t a_t_bytes : Nat) (sz : Nat) (t_count : Int32) (n_t_bytes : Nat) (t_bytes : Nat → Int32) (p0 : Int32) (o : Int32) (hf : f_Bl_checkOf t_count n_t_bytes t_bytes p0 = some o) : Met l y_Bl_checkOf wd_Bl_checkOf ({ frames := 1, cells := 0, slots := 0, locals := 22 }) (va_Pc [.ref a_t, .int p0] (aP D cA [(a_t, .inr (0, [.int t_count, .ref a_t_bytes])), (a_t_bytes, .inl ((cA 1), n_t_bytes, .inl t_bytes))] sz)) (va_Qi (fun r9 (_ : Unit) => r9 = o) (fun _ => aR D cA (va_A [(a_t, .inr (0, [.int t_count, .ref a_t_bytes])), (a_t_bytes, .inl ((cA 1), n_t_bytes, .inl t_bytes))] sz) [(a_t, .inr (0, [.int t_count, .ref a_t_bytes])), (a_t_bytes, .inl ((cA 1), n_t_bytes, .inl t_bytes))]) (va_A [(a_t, .inr (0, [.int t_count, .ref a_t_bytes])), (a_t_bytes, .inl ((cA 1), n_t_bytes, .inl t_bytes))] sz)) 0 0 (va_A [(a_t, .inr (0, [.int t_count, .ref a_t_bytes])), (a_t_bytes, .inl ((cA 1), n_t_bytes, .inl t_bytes))] sz) := by
  refine Met.ofW (cc := b_Bl_checkOf) (maxL := 5) (ret := (some .int)) (by decide +kernel) rfl ?_
  intro p e s m args below meth c s₁ B hml hv
  obtain ⟨rfl, hsz, hP, hK, hD0, hE⟩ := hv
  have hx := B.exec
  have hb := B.bytes
  have hr := B.returns
  have hts := atoms_spec (ws := wd_Bl_checkOf) B.pre
  have hown : s.vm.findClass R_Bl = some m.cls := findClass_of_methodNamed B.named
  have hlocks := B.notSynchronized
  subst hsz
  have hD := hD0.self (sz := s.heap.size)
  generalize hAe : va_A [(a_t, .inr (0, [.int t_count, .ref a_t_bytes])), (a_t_bytes, .inl ((cA 1), n_t_bytes, .inl t_bytes))] s.heap.size = A at hD hE ⊢
  have hA : ∀ q : Nat, s.heap.size ≤ q → A q := fun q h => by rw [← hAe]; exact Or.inr h
  have hS : va_S A s.heap s.heap [] := va_S.rf
  have hl := lv_entry [.ref a_t, .int p0] (n := 5) (Nat.le_of_ble_eq_true rfl)
  rw [lg_entry_eq]
  generalize (lg_sl [.ref a_t, .int p0] ++ List.replicate (5 - (lg_sl [.ref a_t, .int p0]).length) Slot.unset).toArray = ls at hl ⊢
  have hl : lv_has ls 5 [(0, .ref a_t), (1, .int p0)] := hl
  unfold f_Bl_checkOf at hf
  refine lv_aload_n hx hb d_Bl_checkOf_0 rfl (lv_at hl 0 rfl) ?_
  refine lv_iload_n hx hb d_Bl_checkOf_1 rfl (lv_at hl 1 rfl) ?_
  refine lv_iconst (v := 0) hx hb d_Bl_checkOf_2 (by decide) ?_
  obtain ⟨o_1, ho_1, hf⟩ := hk_bd hf
  refine q_i (wr := []) (va_runV (As := [.int p0, .int (0 : Int32)]) (rest := []) ⟨hx, hb, hml, hown, hts⟩ (c_Bl_has l D cA a_t a_t_bytes _ t_count n_t_bytes t_bytes p0 (0 : Int32) o_1 ho_1) (cwV 2 hts (gd_V gm_2 gm_3 gm_4 gm_5 gm_1) rfl rfl rfl (by decide +kernel) ⟨Nat.le_of_ble_eq_true rfl, Nat.le_of_ble_eq_true rfl⟩) (q_pV hK hP hD hS hA hE [0, 1] (by decide) rfl rfl rfl rfl) rfl rfl hl.1 rfl (lv_room (Nat.le_of_ble_eq_true rfl)) d_Bl_checkOf_3 ⟨Nat.zero_le _, Nat.zero_le _⟩) hP hD hS hA [0, 1] [] rfl rfl (by decide) (by decide) (fun H locs hP hD hS => ?_)
  have hP : va_P D classes [(a_t, .inr (0, [.int t_count, .ref a_t_bytes])), (a_t_bytes, .inl ((cA 1), n_t_bytes, .inl t_bytes))] H := hP
  have hD : va_D A [(a_t, .inr (0, [.int t_count, .ref a_t_bytes])), (a_t_bytes, .inl ((cA 1), n_t_bytes, .inl t_bytes))] := hD
  refine lv_if_ne (tgt := 11) hx hb d_Bl_checkOf_6 (by decide) (fun c_2 => ?_) (fun c_2 => ?_)
  · replace hf := (if_neg c_2).symm.trans hf
    refine lv_iload_n hx hb d_Bl_checkOf_11 rfl (lv_at hl 1 rfl) ?_
    refine lv_bipush (v := 64) hx hb d_Bl_checkOf_12 (by decide) ?_
    refine lv_imul hx hb d_Bl_checkOf_14 ?_
    refine lv_istore_n (lv' := [(2, .int (p0 * (64 : Int32))), (0, .ref a_t), (1, .int p0)]) hx hb d_Bl_checkOf_15 rfl hl (by decide) rfl (fun ls hl => ?_)
    refine lv_iconst (v := (-1)) hx hb d_Bl_checkOf_16 (by decide) ?_
    refine lv_istore_n (lv' := [(3, .int (-1 : Int32)), (2, .int (p0 * (64 : Int32))), (0, .ref a_t), (1, .int p0)]) hx hb d_Bl_checkOf_17 rfl hl (by decide) rfl (fun ls hl => ?_)
    refine lv_iconst (v := 0) hx hb d_Bl_checkOf_18 (by decide) ?_
    refine lv_istore (lv' := [(4, .int (0 : Int32)), (3, .int (-1 : Int32)), (2, .int (p0 * (64 : Int32))), (0, .ref a_t), (1, .int p0)]) hx hb d_Bl_checkOf_19 hl (by decide) rfl (fun ls hl => ?_)
    exact k_Bl_checkOf_L21 hx hb hr hml hown hts hlocks hA hE hK a_t a_t_bytes t_count n_t_bytes t_bytes p0 (p0 * (64 : Int32)) _ _ (-1 : Int32) (0 : Int32) _ _ hf (hP.sub [0, 1] rfl) (hD.sub [0, 1] (by decide) rfl) hS ls (lv_sub hl [3, 4, 2, 1, 0] rfl)
  · replace hf := (if_pos c_2).symm.trans hf
    refine lv_iconst (v := 0) hx hb d_Bl_checkOf_9 (by decide) ?_
    have ho9 := Option.some.inj hf
    subst ho9
    have hP9 := hP.sub (ws' := [(a_t, .inr (0, [.int t_count, .ref a_t_bytes])), (a_t_bytes, .inl ((cA 1), n_t_bytes, .inl t_bytes))]) [0, 1] rfl
    have hD9 := hD.sub (ws' := [(a_t, .inr (0, [.int t_count, .ref a_t_bytes])), (a_t_bytes, .inl ((cA 1), n_t_bytes, .inl t_bytes))]) [0, 1] (by decide) rfl
    exact W.iret (v := (0 : Int32)) hx hb hr (fun t ht hW => ⟨⟨_, (), rfl, rfl, by rw [ht]; exact hP9, va_K.moved hW.alike hK, hD9⟩, hS.F ht⟩) hS.2.2 d_Bl_checkOf_10
theorem d_Bl_seal_0 : decode b_Bl_seal 0 = .ok (.aload_n 0, 1) := by decide +kernel
theorem d_Bl_seal_1 : decode b_Bl_seal 1 = .ok (.iload_n 1, 1) := by decide +kernel
theorem d_Bl_seal_2 : decode b_Bl_seal 2 = .ok (.bipush 60, 2) := by decide +kernel
theorem d_Bl_seal_4 : decode b_Bl_seal 4 = .ok (.aload_n 0, 1) := by decide +kernel
theorem d_Bl_seal_5 : decode b_Bl_seal 5 = .ok (.iload_n 1, 1) := by decide +kernel
theorem d_Bl_seal_6 : decode b_Bl_seal 6 = .ok (.invokevirtual 46, 3) := by decide +kernel
theorem d_Bl_seal_9 : decode b_Bl_seal 9 = .ok (.invokevirtual 50, 3) := by decide +kernel
theorem d_Bl_seal_12 : decode b_Bl_seal 12 = .ok (.return_, 1) := by decide +kernel
abbrev wd_Bl_seal : List Cond := .code y_Bl_seal b_Bl_seal 2 none :: gw
def f_Bl_seal (t_count : Int32) (n_t_bytes : Nat) (t_bytes : Nat → Int32) (p0 : Int32) : Option ((Nat → Int32)) :=
  (f_Bl_checkOf t_count n_t_bytes t_bytes p0).bind fun o_1 =>
  (f_Bl_setU32 t_count n_t_bytes t_bytes p0 (60 : Int32) o_1).bind fun o_2 =>
  some o_2
set_option maxHeartbeats 4000000 in
set_option maxRecDepth 100000 in
theorem c_Bl_seal (l : Launch) (D : va_G) (cA : Nat → ClassId) (a_t a_t_bytes : Nat) (sz : Nat) (t_count : Int32) (n_t_bytes : Nat) (t_bytes : Nat → Int32) (p0 : Int32) (o : (Nat → Int32)) (hf : f_Bl_seal t_count n_t_bytes t_bytes p0 = some o) : Met l y_Bl_seal wd_Bl_seal ({ frames := 3, cells := 0, slots := 0, locals := 68 }) (va_Pc [.ref a_t, .int p0] (aP D cA [(a_t, .inr (0, [.int t_count, .ref a_t_bytes])), (a_t_bytes, .inl ((cA 1), n_t_bytes, .inl t_bytes))] sz)) (va_Qv (fun (_ : Unit) => True) (fun _ => aR D cA (va_A [(a_t, .inr (0, [.int t_count, .ref a_t_bytes])), (a_t_bytes, .inl ((cA 1), n_t_bytes, .inl t_bytes))] sz) [(a_t, .inr (0, [.int t_count, .ref a_t_bytes])), (a_t_bytes, .inl ((cA 1), n_t_bytes, .inl o))]) (va_A [(a_t, .inr (0, [.int t_count, .ref a_t_bytes])), (a_t_bytes, .inl ((cA 1), n_t_bytes, .inl t_bytes))] sz)) 0 0 (va_A [(a_t, .inr (0, [.int t_count, .ref a_t_bytes])), (a_t_bytes, .inl ((cA 1), n_t_bytes, .inl t_bytes))] sz) := by
  refine Met.ofW (cc := b_Bl_seal) (maxL := 2) (ret := none) (by decide +kernel) rfl ?_
  intro p e s m args below meth c s₁ B hml hv
  obtain ⟨rfl, hsz, hP, hK, hD0, hE⟩ := hv
  have hx := B.exec
  have hb := B.bytes
  have hr := B.returns
  have hts := atoms_spec (ws := wd_Bl_seal) B.pre
  have hown : s.vm.findClass R_Bl = some m.cls := findClass_of_methodNamed B.named
  have hlocks := B.notSynchronized
  subst hsz
  have hD := hD0.self (sz := s.heap.size)
  generalize hAe : va_A [(a_t, .inr (0, [.int t_count, .ref a_t_bytes])), (a_t_bytes, .inl ((cA 1), n_t_bytes, .inl t_bytes))] s.heap.size = A at hD hE ⊢
  have hA : ∀ q : Nat, s.heap.size ≤ q → A q := fun q h => by rw [← hAe]; exact Or.inr h
  have hS : va_S A s.heap s.heap [] := va_S.rf
  have hl := lv_entry [.ref a_t, .int p0] (n := 2) (Nat.le_of_ble_eq_true rfl)
  rw [lg_entry_eq]
  generalize (lg_sl [.ref a_t, .int p0] ++ List.replicate (2 - (lg_sl [.ref a_t, .int p0]).length) Slot.unset).toArray = ls at hl ⊢
  have hl : lv_has ls 2 [(0, .ref a_t), (1, .int p0)] := hl
  unfold f_Bl_seal at hf
  refine lv_aload_n hx hb d_Bl_seal_0 rfl (lv_at hl 0 rfl) ?_
  refine lv_iload_n hx hb d_Bl_seal_1 rfl (lv_at hl 1 rfl) ?_
  refine lv_bipush (v := 60) hx hb d_Bl_seal_2 (by decide) ?_
  refine lv_aload_n hx hb d_Bl_seal_4 rfl (lv_at hl 0 rfl) ?_
  refine lv_iload_n hx hb d_Bl_seal_5 rfl (lv_at hl 1 rfl) ?_
  obtain ⟨o_1, ho_1, hf⟩ := hk_bd hf
  refine q_i (wr := []) (va_runV (As := [.int p0]) (rest := [.int (60 : Int32), .int p0, .ref a_t]) ⟨hx, hb, hml, hown, hts⟩ (c_Bl_checkOf l D cA a_t a_t_bytes _ t_count n_t_bytes t_bytes p0 o_1 ho_1) (cwV 1 hts (gd_V gm_17 gm_18 gm_19 gm_5 gm_16) rfl rfl rfl (by decide +kernel) ⟨Nat.le_of_ble_eq_true rfl, Nat.le_of_ble_eq_true rfl⟩) (q_pV hK hP hD hS hA hE [0, 1] (by decide) rfl rfl rfl rfl) rfl rfl hl.1 rfl (lv_room (Nat.le_of_ble_eq_true rfl)) d_Bl_seal_6 ⟨Nat.zero_le _, Nat.zero_le _⟩) hP hD hS hA [0, 1] [] rfl rfl (by decide) (by decide) (fun H locs hP hD hS => ?_)
  have hP : va_P D classes [(a_t, .inr (0, [.int t_count, .ref a_t_bytes])), (a_t_bytes, .inl ((cA 1), n_t_bytes, .inl t_bytes))] H := hP
  have hD : va_D A [(a_t, .inr (0, [.int t_count, .ref a_t_bytes])), (a_t_bytes, .inl ((cA 1), n_t_bytes, .inl t_bytes))] := hD
  obtain ⟨o_2, ho_2, hf⟩ := hk_bd hf
  refine q_v (wr := []) (va_runV (As := [.int p0, .int (60 : Int32), .int o_1]) (rest := []) ⟨hx, hb, hml, hown, hts⟩ (c_Bl_setU32 l D cA a_t a_t_bytes _ t_count n_t_bytes t_bytes p0 (60 : Int32) o_1 o_2 ho_2) (cwV 3 hts (gd_V gm_21 gm_22 gm_23 gm_5 gm_20) rfl rfl rfl (by decide +kernel) ⟨Nat.le_of_ble_eq_true rfl, Nat.le_of_ble_eq_true rfl⟩) (q_pV hK hP hD hS hA hE [0, 1] (by decide) rfl rfl rfl rfl) rfl rfl hl.1 rfl (lv_room (Nat.le_of_ble_eq_true rfl)) d_Bl_seal_9 ⟨Nat.zero_le _, Nat.zero_le _⟩) hP hD hS hA [0, 1] [] rfl rfl (by decide) (by decide) (fun H locs hP hD hS => ?_)
  have hP : va_P D classes [(a_t, .inr (0, [.int t_count, .ref a_t_bytes])), (a_t_bytes, .inl ((cA 1), n_t_bytes, .inl o_2))] H := hP
  have hD : va_D A [(a_t, .inr (0, [.int t_count, .ref a_t_bytes])), (a_t_bytes, .inl ((cA 1), n_t_bytes, .inl o_2))] := hD
  have ho9 := Option.some.inj hf
  subst ho9
  have hP9 := hP.sub (ws' := [(a_t, .inr (0, [.int t_count, .ref a_t_bytes])), (a_t_bytes, .inl ((cA 1), n_t_bytes, .inl o_2))]) [0, 1] rfl
  have hD9 := hD.sub (ws' := [(a_t, .inr (0, [.int t_count, .ref a_t_bytes])), (a_t_bytes, .inl ((cA 1), n_t_bytes, .inl o_2))]) [0, 1] (by decide) rfl
  exact W.vret hx hb hr (fun t ht hW => ⟨⟨(), rfl, trivial, by rw [ht]; exact hP9, va_K.moved hW.alike hK, hD9⟩, hS.F ht⟩) hS.2.2 d_Bl_seal_12
theorem d_Bl_isWhole_0 : decode b_Bl_isWhole 0 = .ok (.aload_n 0, 1) := by decide +kernel
theorem d_Bl_isWhole_1 : decode b_Bl_isWhole 1 = .ok (.iload_n 1, 1) := by decide +kernel
theorem d_Bl_isWhole_2 : decode b_Bl_isWhole 2 = .ok (.bipush 60, 2) := by decide +kernel
theorem d_Bl_isWhole_4 : decode b_Bl_isWhole 4 = .ok (.invokevirtual 53, 3) := by decide +kernel
theorem d_Bl_isWhole_7 : decode b_Bl_isWhole 7 = .ok (.aload_n 0, 1) := by decide +kernel
theorem d_Bl_isWhole_8 : decode b_Bl_isWhole 8 = .ok (.iload_n 1, 1) := by decide +kernel
theorem d_Bl_isWhole_9 : decode b_Bl_isWhole 9 = .ok (.invokevirtual 46, 3) := by decide +kernel
theorem d_Bl_isWhole_12 : decode b_Bl_isWhole 12 = .ok (.if_icmp .ne 7, 3) := by decide +kernel
theorem d_Bl_isWhole_15 : decode b_Bl_isWhole 15 = .ok (.iconst 1, 1) := by decide +kernel
theorem d_Bl_isWhole_16 : decode b_Bl_isWhole 16 = .ok (.goto 4, 3) := by decide +kernel
theorem d_Bl_isWhole_19 : decode b_Bl_isWhole 19 = .ok (.iconst 0, 1) := by decide +kernel
theorem d_Bl_isWhole_20 : decode b_Bl_isWhole 20 = .ok (.ireturn, 1) := by decide +kernel
abbrev wd_Bl_isWhole : List Cond := .code y_Bl_isWhole b_Bl_isWhole 2 (some .boolean) :: gw
def f_Bl_isWhole (t_count : Int32) (n_t_bytes : Nat) (t_bytes : Nat → Int32) (p0 : Int32) : Option (Int32) :=
  (f_Bl_u32 t_count n_t_bytes t_bytes p0 (60 : Int32)).bind fun o_1 =>
  (f_Bl_checkOf t_count n_t_bytes t_bytes p0).bind fun o_2 =>
  if o_1 = o_2 then
    some (1 : Int32)
  else
    some (0 : Int32)
set_option maxHeartbeats 4000000 in
set_option maxRecDepth 100000 in
theorem c_Bl_isWhole (l : Launch) (D : va_G) (cA : Nat → ClassId) (a_t a_t_bytes : Nat) (sz : Nat) (t_count : Int32) (n_t_bytes : Nat) (t_bytes : Nat → Int32) (p0 : Int32) (o : Int32) (hf : f_Bl_isWhole t_count n_t_bytes t_bytes p0 = some o) : Met l y_Bl_isWhole wd_Bl_isWhole ({ frames := 2, cells := 0, slots := 0, locals := 46 }) (va_Pc [.ref a_t, .int p0] (aP D cA [(a_t, .inr (0, [.int t_count, .ref a_t_bytes])), (a_t_bytes, .inl ((cA 1), n_t_bytes, .inl t_bytes))] sz)) (va_Qi (fun r9 (_ : Unit) => r9 = o) (fun _ => aR D cA (va_A [(a_t, .inr (0, [.int t_count, .ref a_t_bytes])), (a_t_bytes, .inl ((cA 1), n_t_bytes, .inl t_bytes))] sz) [(a_t, .inr (0, [.int t_count, .ref a_t_bytes])), (a_t_bytes, .inl ((cA 1), n_t_bytes, .inl t_bytes))]) (va_A [(a_t, .inr (0, [.int t_count, .ref a_t_bytes])), (a_t_bytes, .inl ((cA 1), n_t_bytes, .inl t_bytes))] sz)) 0 0 (va_A [(a_t, .inr (0, [.int t_count, .ref a_t_bytes])), (a_t_bytes, .inl ((cA 1), n_t_bytes, .inl t_bytes))] sz) := by
  refine Met.ofW (cc := b_Bl_isWhole) (maxL := 2) (ret := (some .boolean)) (by decide +kernel) rfl ?_
  intro p e s m args below meth c s₁ B hml hv
  obtain ⟨rfl, hsz, hP, hK, hD0, hE⟩ := hv
  have hx := B.exec
  have hb := B.bytes
  have hr := B.returns
  have hts := atoms_spec (ws := wd_Bl_isWhole) B.pre
  have hown : s.vm.findClass R_Bl = some m.cls := findClass_of_methodNamed B.named
  have hlocks := B.notSynchronized
  subst hsz
  have hD := hD0.self (sz := s.heap.size)
  generalize hAe : va_A [(a_t, .inr (0, [.int t_count, .ref a_t_bytes])), (a_t_bytes, .inl ((cA 1), n_t_bytes, .inl t_bytes))] s.heap.size = A at hD hE ⊢
  have hA : ∀ q : Nat, s.heap.size ≤ q → A q := fun q h => by rw [← hAe]; exact Or.inr h
  have hS : va_S A s.heap s.heap [] := va_S.rf
  have hl := lv_entry [.ref a_t, .int p0] (n := 2) (Nat.le_of_ble_eq_true rfl)
  rw [lg_entry_eq]
  generalize (lg_sl [.ref a_t, .int p0] ++ List.replicate (2 - (lg_sl [.ref a_t, .int p0]).length) Slot.unset).toArray = ls at hl ⊢
  have hl : lv_has ls 2 [(0, .ref a_t), (1, .int p0)] := hl
  unfold f_Bl_isWhole at hf
  refine lv_aload_n hx hb d_Bl_isWhole_0 rfl (lv_at hl 0 rfl) ?_
  refine lv_iload_n hx hb d_Bl_isWhole_1 rfl (lv_at hl 1 rfl) ?_
  refine lv_bipush (v := 60) hx hb d_Bl_isWhole_2 (by decide) ?_
  obtain ⟨o_1, ho_1, hf⟩ := hk_bd hf
  refine q_i (wr := []) (va_runV (As := [.int p0, .int (60 : Int32)]) (rest := []) ⟨hx, hb, hml, hown, hts⟩ (c_Bl_u32 l D cA a_t a_t_bytes _ t_count n_t_bytes t_bytes p0 (60 : Int32) o_1 ho_1) (cwV 2 hts (gd_V gm_25 gm_26 gm_27 gm_5 gm_24) rfl rfl rfl (by decide +kernel) ⟨Nat.le_of_ble_eq_true rfl, Nat.le_of_ble_eq_true rfl⟩) (q_pV hK hP hD hS hA hE [0, 1] (by decide) rfl rfl rfl rfl) rfl rfl hl.1 rfl (lv_room (Nat.le_of_ble_eq_true rfl)) d_Bl_isWhole_4 ⟨Nat.zero_le _, Nat.zero_le _⟩) hP hD hS hA [0, 1] [] rfl rfl (by decide) (by decide) (fun H locs hP hD hS => ?_)
  have hP : va_P D classes [(a_t, .inr (0, [.int t_count, .ref a_t_bytes])), (a_t_bytes, .inl ((cA 1), n_t_bytes, .inl t_bytes))] H := hP
  have hD : va_D A [(a_t, .inr (0, [.int t_count, .ref a_t_bytes])), (a_t_bytes, .inl ((cA 1), n_t_bytes, .inl t_bytes))] := hD
  refine lv_aload_n hx hb d_Bl_isWhole_7 rfl (lv_at hl 0 rfl) ?_
  refine lv_iload_n hx hb d_Bl_isWhole_8 rfl (lv_at hl 1 rfl) ?_
  obtain ⟨o_2, ho_2, hf⟩ := hk_bd hf
  refine q_i (wr := []) (va_runV (As := [.int p0]) (rest := [.int o_1]) ⟨hx, hb, hml, hown, hts⟩ (c_Bl_checkOf l D cA a_t a_t_bytes _ t_count n_t_bytes t_bytes p0 o_2 ho_2) (cwV 1 hts (gd_V gm_17 gm_18 gm_19 gm_5 gm_16) rfl rfl rfl (by decide +kernel) ⟨Nat.le_of_ble_eq_true rfl, Nat.le_of_ble_eq_true rfl⟩) (q_pV hK hP hD hS hA hE [0, 1] (by decide) rfl rfl rfl rfl) rfl rfl hl.1 rfl (lv_room (Nat.le_of_ble_eq_true rfl)) d_Bl_isWhole_9 ⟨Nat.zero_le _, Nat.zero_le _⟩) hP hD hS hA [0, 1] [] rfl rfl (by decide) (by decide) (fun H locs hP hD hS => ?_)
  have hP : va_P D classes [(a_t, .inr (0, [.int t_count, .ref a_t_bytes])), (a_t_bytes, .inl ((cA 1), n_t_bytes, .inl t_bytes))] H := hP
  have hD : va_D A [(a_t, .inr (0, [.int t_count, .ref a_t_bytes])), (a_t_bytes, .inl ((cA 1), n_t_bytes, .inl t_bytes))] := hD
  refine lv_icmp_ne (tgt := 19) hx hb d_Bl_isWhole_12 (by decide) (fun c_3 => ?_) (fun c_3 => ?_)
  · replace hf := (if_neg c_3).symm.trans hf
    refine lv_iconst (v := 0) hx hb d_Bl_isWhole_19 (by decide) ?_
    have ho9 := Option.some.inj hf
    subst ho9
    have hP9 := hP.sub (ws' := [(a_t, .inr (0, [.int t_count, .ref a_t_bytes])), (a_t_bytes, .inl ((cA 1), n_t_bytes, .inl t_bytes))]) [0, 1] rfl
    have hD9 := hD.sub (ws' := [(a_t, .inr (0, [.int t_count, .ref a_t_bytes])), (a_t_bytes, .inl ((cA 1), n_t_bytes, .inl t_bytes))]) [0, 1] (by decide) rfl
    exact W.zret (v := (0 : Int32)) hx hb hr rfl (fun t ht hW => ⟨⟨_, (), rfl, rfl, by rw [ht]; exact hP9, va_K.moved hW.alike hK, hD9⟩, hS.F ht⟩) hS.2.2 d_Bl_isWhole_20
  · replace hf := (if_pos c_3).symm.trans hf
    refine lv_iconst (v := 1) hx hb d_Bl_isWhole_15 (by decide) ?_
    refine lv_goto (tgt := 20) hx hb d_Bl_isWhole_16 (by decide) ?_
    have ho9 := Option.some.inj hf
    subst ho9
    have hP9 := hP.sub (ws' := [(a_t, .inr (0, [.int t_count, .ref a_t_bytes])), (a_t_bytes, .inl ((cA 1), n_t_bytes, .inl t_bytes))]) [0, 1] rfl
    have hD9 := hD.sub (ws' := [(a_t, .inr (0, [.int t_count, .ref a_t_bytes])), (a_t_bytes, .inl ((cA 1), n_t_bytes, .inl t_bytes))]) [0, 1] (by decide) rfl
    exact W.zret (v := (1 : Int32)) hx hb hr rfl (fun t ht hW => ⟨⟨_, (), rfl, rfl, by rw [ht]; exact hP9, va_K.moved hW.alike hK, hD9⟩, hS.F ht⟩) hS.2.2 d_Bl_isWhole_20
