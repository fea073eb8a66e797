theorem gm_28 : (.fieldLink R_Tp 15 "RoundJournal$Tape" "length" "I" : Cond) ∈ gw := gw_in (i := 162) (by decide +kernel) rfl
theorem gm_29 : (.fieldLink R_Tp 9 "RoundJournal$Tape" "bytes" "[B" : Cond) ∈ gw := gw_in (i := 161) (by decide +kernel) rfl
theorem gm_30 : (.fieldLink R_Rc 16 "RoundJournal$Records" "kept" "I" : Cond) ∈ gw := gw_in (i := 123) (by decide +kernel) rfl
theorem gm_31 : (.fieldLink R_Rc 20 "RoundJournal$Records" "next" "I" : Cond) ∈ gw := gw_in (i := 126) (by decide +kernel) rfl
theorem gm_32 : (.code y_Ma_floorMod b_Ma_floorMod 3 (some .int) : Cond) ∈ gw := gw_in (i := 226) (by decide +kernel) rfl
theorem gm_33 : (.methodLink R_Rc 27 y_Ma_floorMod : Cond) ∈ gw := gw_in (i := 321) (by decide +kernel) rfl
theorem gm_34 : (.static y_Ma_floorMod : Cond) ∈ gw := gw_in (i := 225) (by decide +kernel) rfl
theorem gm_35 : (.initialized R_Ma : Cond) ∈ gw := gw_in (i := 27) (by decide +kernel) rfl
theorem gm_36 : (.code y_Rc_slotOf b_Rc_slotOf 1 (some .int) : Cond) ∈ gw := gw_in (i := 320) (by decide +kernel) rfl
theorem gm_37 : (.methodLink R_Rc 23 y_Rc_slotOf : Cond) ∈ gw := gw_in (i := 318) (by decide +kernel) rfl
theorem gm_38 : (.static y_Rc_slotOf : Cond) ∈ gw := gw_in (i := 319) (by decide +kernel) rfl
theorem gm_39 : (.initialized R_Rc : Cond) ∈ gw := gw_in (i := 30) (by decide +kernel) rfl
theorem gm_40 : (.fieldLink R_Rc 9 "RoundJournal$Records" "pageBySlot" "[I" : Cond) ∈ gw := gw_in (i := 121) (by decide +kernel) rfl
theorem gm_41 : (.fieldLink R_Rc 13 "RoundJournal$Records" "startBySlot" "[I" : Cond) ∈ gw := gw_in (i := 122) (by decide +kernel) rfl
theorem gm_42 : (.code y_Bl_clear b_Bl_clear 3 none : Cond) ∈ gw := gw_in (i := 177) (by decide +kernel) rfl
theorem gm_43 : (.methodLink R_Hd 9 y_Bl_clear : Cond) ∈ gw := gw_in (i := 174) (by decide +kernel) rfl
theorem gm_44 : (.instanceMethod y_Bl_clear : Cond) ∈ gw := gw_in (i := 175) (by decide +kernel) rfl
theorem gm_45 : (.selects R_Bl y_Bl_clear y_Bl_clear : Cond) ∈ gw := gw_in (i := 176) (by decide +kernel) rfl
theorem gm_46 : (.methodLink R_Hd 15 y_Bl_setU32 : Cond) ∈ gw := gw_in (i := 186) (by decide +kernel) rfl
theorem gm_47 : (.code y_Bl_seal b_Bl_seal 2 none : Cond) ∈ gw := gw_in (i := 193) (by decide +kernel) rfl
theorem gm_48 : (.methodLink R_Hd 19 y_Bl_seal : Cond) ∈ gw := gw_in (i := 190) (by decide +kernel) rfl
theorem gm_49 : (.instanceMethod y_Bl_seal : Cond) ∈ gw := gw_in (i := 191) (by decide +kernel) rfl
theorem gm_50 : (.selects R_Bl y_Bl_seal y_Bl_seal : Cond) ∈ gw := gw_in (i := 192) (by decide +kernel) rfl
theorem gm_51 : (.methodLink R_Hd 22 y_Bl_u32 : Cond) ∈ gw := gw_in (i := 205) (by decide +kernel) rfl
theorem gm_52 : (.fieldLink R_Hd 26 "RoundJournal$Head" "turn" "I" : Cond) ∈ gw := gw_in (i := 142) (by decide +kernel) rfl
theorem gm_53 : (.fieldLink R_Hd 32 "RoundJournal$Head" "oldest" "I" : Cond) ∈ gw := gw_in (i := 145) (by decide +kernel) rfl
theorem gm_54 : (.fieldLink R_Hd 35 "RoundJournal$Head" "kept" "I" : Cond) ∈ gw := gw_in (i := 147) (by decide +kernel) rfl
theorem gm_55 : (.constant R_RJ 243 (1000000 : Int32) : Cond) ∈ gw := gw_in (i := 493) (by decide +kernel) rfl
theorem gm_56 : (.code y_RJ_isNumber b_RJ_isNumber 1 (some .boolean) : Cond) ∈ gw := gw_in (i := 492) (by decide +kernel) rfl
theorem gm_57 : (.initialized R_RJ : Cond) ∈ gw := gw_in (i := 25) (by decide +kernel) rfl
theorem gm_58 : (.static y_RJ_isNumber : Cond) ∈ gw := gw_in (i := 491) (by decide +kernel) rfl
theorem gm_59 : (.code y_Hd_placeOf b_Hd_placeOf 1 (some .int) : Cond) ∈ gw := gw_in (i := 170) (by decide +kernel) rfl
theorem gm_60 : (.methodLink R_Hd 50 y_Hd_placeOf : Cond) ∈ gw := gw_in (i := 494) (by decide +kernel) rfl
theorem gm_61 : (.static y_Hd_placeOf : Cond) ∈ gw := gw_in (i := 169) (by decide +kernel) rfl
theorem gm_62 : (.initialized R_Hd : Cond) ∈ gw := gw_in (i := 31) (by decide +kernel) rfl
theorem gm_63 : (.code y_Bl_isWhole b_Bl_isWhole 2 (some .boolean) : Cond) ∈ gw := gw_in (i := 498) (by decide +kernel) rfl
theorem gm_64 : (.methodLink R_Hd 54 y_Bl_isWhole : Cond) ∈ gw := gw_in (i := 495) (by decide +kernel) rfl
theorem gm_65 : (.instanceMethod y_Bl_isWhole : Cond) ∈ gw := gw_in (i := 496) (by decide +kernel) rfl
theorem gm_66 : (.selects R_Bl y_Bl_isWhole y_Bl_isWhole : Cond) ∈ gw := gw_in (i := 497) (by decide +kernel) rfl
theorem gm_67 : (.code y_Hd_isGood b_Hd_isGood 2 (some .boolean) : Cond) ∈ gw := gw_in (i := 489) (by decide +kernel) rfl
theorem gm_68 : (.methodLink R_Hd 38 y_Hd_isGood : Cond) ∈ gw := gw_in (i := 487) (by decide +kernel) rfl
theorem gm_69 : (.static y_Hd_isGood : Cond) ∈ gw := gw_in (i := 488) (by decide +kernel) rfl
theorem gm_70 : (.code y_Hd_readFrom b_Hd_readFrom 3 none : Cond) ∈ gw := gw_in (i := 204) (by decide +kernel) rfl
theorem gm_71 : (.methodLink R_Hd 42 y_Hd_readFrom : Cond) ∈ gw := gw_in (i := 500) (by decide +kernel) rfl
theorem gm_72 : (.instanceMethod y_Hd_readFrom : Cond) ∈ gw := gw_in (i := 202) (by decide +kernel) rfl
theorem gm_73 : (.selects R_Hd y_Hd_readFrom y_Hd_readFrom : Cond) ∈ gw := gw_in (i := 203) (by decide +kernel) rfl
theorem nw_0 : (.methodLinkNest R_Hd 46 y_RJ_isNumber "RoundJournal" : Cond) ∈ nwL := nwL_in (i := 490) (by decide +kernel) rfl
theorem d_Ma_floorMod_0 : decode b_Ma_floorMod 0 = .ok (.iload_n 0, 1) := by decide +kernel
theorem d_Ma_floorMod_1 : decode b_Ma_floorMod 1 = .ok (.iload_n 1, 1) := by decide +kernel
theorem d_Ma_floorMod_2 : decode b_Ma_floorMod 2 = .ok (.irem, 1) := by decide +kernel
theorem d_Ma_floorMod_3 : decode b_Ma_floorMod 3 = .ok (.istore_n 2, 1) := by decide +kernel
theorem d_Ma_floorMod_4 : decode b_Ma_floorMod 4 = .ok (.iload_n 0, 1) := by decide +kernel
theorem d_Ma_floorMod_5 : decode b_Ma_floorMod 5 = .ok (.iload_n 1, 1) := by decide +kernel
theorem d_Ma_floorMod_6 : decode b_Ma_floorMod 6 = .ok (.ixor, 1) := by decide +kernel
theorem d_Ma_floorMod_7 : decode b_Ma_floorMod 7 = .ok (.ifCond .ge 11, 3) := by decide +kernel
theorem d_Ma_floorMod_10 : decode b_Ma_floorMod 10 = .ok (.iload_n 2, 1) := by decide +kernel
theorem d_Ma_floorMod_11 : decode b_Ma_floorMod 11 = .ok (.ifCond .eq 7, 3) := by decide +kernel
theorem d_Ma_floorMod_14 : decode b_Ma_floorMod 14 = .ok (.iload_n 2, 1) := by decide +kernel
theorem d_Ma_floorMod_15 : decode b_Ma_floorMod 15 = .ok (.iload_n 1, 1) := by decide +kernel
theorem d_Ma_floorMod_16 : decode b_Ma_floorMod 16 = .ok (.iadd, 1) := by decide +kernel
theorem d_Ma_floorMod_17 : decode b_Ma_floorMod 17 = .ok (.ireturn, 1) := by decide +kernel
theorem d_Ma_floorMod_18 : decode b_Ma_floorMod 18 = .ok (.iload_n 2, 1) := by decide +kernel
theorem d_Ma_floorMod_19 : decode b_Ma_floorMod 19 = .ok (.ireturn, 1) := by decide +kernel
abbrev wd_Ma_floorMod : List Cond := .code y_Ma_floorMod b_Ma_floorMod 3 (some .int) :: gw
def f_Ma_floorMod (p0 : Int32) (p1 : Int32) : Option (Int32) :=
  if p1 = 0 then none else
  if 0 ≤ (p0 ^^^ p1) then
    some (p0 - p0 / p1 * p1)
  else
    if (p0 - p0 / p1 * p1) = 0 then
      some (p0 - p0 / p1 * p1)
    else
      some ((p0 - p0 / p1 * p1) + p1)
set_option maxHeartbeats 4000000 in
set_option maxRecDepth 100000 in
theorem c_Ma_floorMod (l : Launch) (D : va_G) (cA : Nat → ClassId) (sz : Nat) (p0 : Int32) (p1 : Int32) (o : Int32) (hf : f_Ma_floorMod p0 p1 = some o) : Met l y_Ma_floorMod wd_Ma_floorMod ({ frames := 0, cells := 0, slots := 0, locals := 0 }) (va_Pc [.int p0, .int p1] (aP D cA [] sz)) (va_Qi (fun r9 (_ : Unit) => r9 = o) (fun _ => aR D cA (va_A [] sz) []) (va_A [] sz)) 0 0 (va_A [] sz) := by
  refine va_MetF (cc := b_Ma_floorMod) (maxL := 3) (ret := (some .int)) (by decide +kernel) rfl ?_
  intro p e s m args below meth c s₁ B hml hv
  obtain ⟨rfl, hsz, hP, hK, hD0, hE⟩ := hv
  have hx := B.exec
  have hb := B.bytes
  have hr := B.returns
  have hts := atoms_spec (ws := wd_Ma_floorMod) B.pre
  have hown : s.vm.findClass R_Ma = some m.cls := findClass_of_methodNamed B.named
  have hlocks := B.notSynchronized
  subst hsz
  have hD := hD0.self (sz := s.heap.size)
  generalize hAe : va_A [] s.heap.size = A at hD hE ⊢
  have hA : ∀ q : Nat, s.heap.size ≤ q → A q := fun q h => by rw [← hAe]; exact Or.inr h
  have hS : va_S A s.heap s.heap [] := va_S.rf
  have hl := lv_entry [.int p0, .int p1] (n := 3) (Nat.le_of_ble_eq_true rfl)
  rw [lg_entry_eq]
  generalize (lg_sl [.int p0, .int p1] ++ List.replicate (3 - (lg_sl [.int p0, .int p1]).length) Slot.unset).toArray = ls at hl ⊢
  have hl : lv_has ls 3 [(0, .int p0), (1, .int p1)] := hl
  unfold f_Ma_floorMod at hf
  refine lv_iload_n hx hb d_Ma_floorMod_0 rfl (lv_at hl 0 rfl) ?_
  refine lv_iload_n hx hb d_Ma_floorMod_1 rfl (lv_at hl 1 rfl) ?_
  obtain ⟨ck_1, hf⟩ := hk_if hf
  refine lv_irem hx hb d_Ma_floorMod_2 ck_1 ?_
  refine lv_istore_n (lv' := [(2, .int (p0 - p0 / p1 * p1)), (0, .int p0), (1, .int p1)]) hx hb d_Ma_floorMod_3 rfl hl (by decide) rfl (fun ls hl => ?_)
  refine lv_iload_n hx hb d_Ma_floorMod_4 rfl (lv_at hl 1 rfl) ?_
  refine lv_iload_n hx hb d_Ma_floorMod_5 rfl (lv_at hl 2 rfl) ?_
  refine lv_ixor hx hb d_Ma_floorMod_6 ?_
  refine lv_if_ge (tgt := 18) hx hb d_Ma_floorMod_7 (by decide) (fun c_2 => ?_) (fun c_2 => ?_)
  · replace hf := (if_pos c_2).symm.trans hf
    refine lv_iload_n hx hb d_Ma_floorMod_18 rfl (lv_at hl 0 rfl) ?_
    have ho9 := Option.some.inj hf
    subst ho9
    have hP9 := hP.sub (ws' := []) [] rfl
    have hD9 := hD.sub (ws' := []) [] (by decide) rfl
    exact W.iret (v := (p0 - p0 / p1 * p1)) hx hb hr (fun t ht hW => ⟨⟨_, (), rfl, rfl, by rw [ht]; exact hP9, va_K.moved hW.alike hK, hD9⟩, hS.F ht⟩) hS.2.2 d_Ma_floorMod_19
  · replace hf := (if_neg c_2).symm.trans hf
    refine lv_iload_n hx hb d_Ma_floorMod_10 rfl (lv_at hl 0 rfl) ?_
    refine lv_if_eq (tgt := 18) hx hb d_Ma_floorMod_11 (by decide) (fun c_3 => ?_) (fun c_3 => ?_)
    · replace hf := (if_pos c_3).symm.trans hf
      refine lv_iload_n hx hb d_Ma_floorMod_18 rfl (lv_at hl 0 rfl) ?_
      have ho9 := Option.some.inj hf
      subst ho9
      have hP9 := hP.sub (ws' := []) [] rfl
      have hD9 := hD.sub (ws' := []) [] (by decide) rfl
      exact W.iret (v := (p0 - p0 / p1 * p1)) hx hb hr (fun t ht hW => ⟨⟨_, (), rfl, rfl, by rw [ht]; exact hP9, va_K.moved hW.alike hK, hD9⟩, hS.F ht⟩) hS.2.2 d_Ma_floorMod_19
    · replace hf := (if_neg c_3).symm.trans hf
      refine lv_iload_n hx hb d_Ma_floorMod_14 rfl (lv_at hl 0 rfl) ?_
      refine lv_iload_n hx hb d_Ma_floorMod_15 rfl (lv_at hl 2 rfl) ?_
      refine lv_iadd hx hb d_Ma_floorMod_16 ?_
      have ho9 := Option.some.inj hf
      subst ho9
      have hP9 := hP.sub (ws' := []) [] rfl
      have hD9 := hD.sub (ws' := []) [] (by decide) rfl
      exact W.iret (v := ((p0 - p0 / p1 * p1) + p1)) hx hb hr (fun t ht hW => ⟨⟨_, (), rfl, rfl, by rw [ht]; exact hP9, va_K.moved hW.alike hK, hD9⟩, hS.F ht⟩) hS.2.2 d_Ma_floorMod_17
theorem d_Tp_put_0 : decode b_Tp_put 0 = .ok (.iload_n 3, 1) := by decide +kernel
theorem d_Tp_put_1 : decode b_Tp_put 1 = .ok (.iconst 1, 1) := by decide +kernel
theorem d_Tp_put_2 : decode b_Tp_put 2 = .ok (.if_icmp .lt 23, 3) := by decide +kernel
theorem d_Tp_put_5 : decode b_Tp_put 5 = .ok (.iload_n 3, 1) := by decide +kernel
theorem d_Tp_put_6 : decode b_Tp_put 6 = .ok (.bipush 8, 2) := by decide +kernel
theorem d_Tp_put_8 : decode b_Tp_put 8 = .ok (.if_icmp .gt 17, 3) := by decide +kernel
theorem d_Tp_put_11 : decode b_Tp_put 11 = .ok (.aload_n 0, 1) := by decide +kernel
theorem d_Tp_put_12 : decode b_Tp_put 12 = .ok (.getfield 15, 3) := by decide +kernel
theorem d_Tp_put_15 : decode b_Tp_put 15 = .ok (.iload_n 3, 1) := by decide +kernel
theorem d_Tp_put_16 : decode b_Tp_put 16 = .ok (.iadd, 1) := by decide +kernel
theorem d_Tp_put_17 : decode b_Tp_put 17 = .ok (.aload_n 0, 1) := by decide +kernel
theorem d_Tp_put_18 : decode b_Tp_put 18 = .ok (.getfield 9, 3) := by decide +kernel
theorem d_Tp_put_21 : decode b_Tp_put 21 = .ok (.arraylength, 1) := by decide +kernel
theorem d_Tp_put_22 : decode b_Tp_put 22 = .ok (.if_icmp .le 5, 3) := by decide +kernel
theorem d_Tp_put_25 : decode b_Tp_put 25 = .ok (.iconst 0, 1) := by decide +kernel
theorem d_Tp_put_26 : decode b_Tp_put 26 = .ok (.ireturn, 1) := by decide +kernel
theorem d_Tp_put_27 : decode b_Tp_put 27 = .ok (.iload_n 3, 1) := by decide +kernel
theorem d_Tp_put_28 : decode b_Tp_put 28 = .ok (.iconst 1, 1) := by decide +kernel
theorem d_Tp_put_29 : decode b_Tp_put 29 = .ok (.isub, 1) := by decide +kernel
theorem d_Tp_put_30 : decode b_Tp_put 30 = .ok (.istore 4, 2) := by decide +kernel
theorem d_Tp_put_32 : decode b_Tp_put 32 = .ok (.iload 4, 2) := by decide +kernel
theorem d_Tp_put_34 : decode b_Tp_put 34 = .ok (.ifCond .lt 37, 3) := by decide +kernel
theorem d_Tp_put_37 : decode b_Tp_put 37 = .ok (.aload_n 0, 1) := by decide +kernel
theorem d_Tp_put_38 : decode b_Tp_put 38 = .ok (.getfield 9, 3) := by decide +kernel
theorem d_Tp_put_41 : decode b_Tp_put 41 = .ok (.aload_n 0, 1) := by decide +kernel
theorem d_Tp_put_42 : decode b_Tp_put 42 = .ok (.getfield 15, 3) := by decide +kernel
theorem d_Tp_put_45 : decode b_Tp_put 45 = .ok (.lload_n 1, 1) := by decide +kernel
theorem d_Tp_put_46 : decode b_Tp_put 46 = .ok (.bipush 8, 2) := by decide +kernel
theorem d_Tp_put_48 : decode b_Tp_put 48 = .ok (.iload 4, 2) := by decide +kernel
theorem d_Tp_put_50 : decode b_Tp_put 50 = .ok (.imul, 1) := by decide +kernel
theorem d_Tp_put_51 : decode b_Tp_put 51 = .ok (.lushr, 1) := by decide +kernel
theorem d_Tp_put_52 : decode b_Tp_put 52 = .ok (.l2i, 1) := by decide +kernel
theorem d_Tp_put_53 : decode b_Tp_put 53 = .ok (.i2b, 1) := by decide +kernel
theorem d_Tp_put_54 : decode b_Tp_put 54 = .ok (.bastore, 1) := by decide +kernel
theorem d_Tp_put_55 : decode b_Tp_put 55 = .ok (.aload_n 0, 1) := by decide +kernel
theorem d_Tp_put_56 : decode b_Tp_put 56 = .ok (.dup, 1) := by decide +kernel
theorem d_Tp_put_57 : decode b_Tp_put 57 = .ok (.getfield 15, 3) := by decide +kernel
theorem d_Tp_put_60 : decode b_Tp_put 60 = .ok (.iconst 1, 1) := by decide +kernel
theorem d_Tp_put_61 : decode b_Tp_put 61 = .ok (.iadd, 1) := by decide +kernel
theorem d_Tp_put_62 : decode b_Tp_put 62 = .ok (.putfield 15, 3) := by decide +kernel
theorem d_Tp_put_65 : decode b_Tp_put 65 = .ok (.iinc 4 (-1), 3) := by decide +kernel
theorem d_Tp_put_68 : decode b_Tp_put 68 = .ok (.goto (-36), 3) := by decide +kernel
theorem d_Tp_put_71 : decode b_Tp_put 71 = .ok (.iconst 1, 1) := by decide +kernel
theorem d_Tp_put_72 : decode b_Tp_put 72 = .ok (.ireturn, 1) := by decide +kernel
abbrev wd_Tp_put : List Cond := .code y_Tp_put b_Tp_put 5 (some .boolean) :: gw
def f_Tp_put_L32 (n_t_bytes : Nat) (t_bytes : Nat → Int32) (t_length : Int32) (p0 : Int64) (p1 : Int32) : Nat → (Nat → Int32) → Int32 → Int32 → Option (Int32 × (Nat → Int32) × Int32)
  | 0, _, _, _ => none
  | n32 + 1, t_bytes', t_length', x4 =>
    if x4 < 0 then
      some ((1 : Int32), t_bytes', t_length')
    else
      if t_length' < 0 ∨ n_t_bytes ≤ t_length'.toNatClampNeg then none else
      f_Tp_put_L32 n_t_bytes t_bytes t_length p0 p1 n32 (upd t_bytes' t_length'.toNatClampNeg (vp_nar .byte (p0.toUInt64 >>> (((8 : Int32) * x4).toInt64.toUInt64 &&& Int64.toUInt64 63)).toInt64.toInt32.toInt8.toInt32)) (t_length' + (1 : Int32)) (x4 + (-1 : Int32))
def f_Tp_put (n_t_bytes : Nat) (t_bytes : Nat → Int32) (t_length : Int32) (p0 : Int64) (p1 : Int32) : Option (Int32 × (Nat → Int32) × Int32) :=
  if p1 < (1 : Int32) then
    some ((0 : Int32), t_bytes, t_length)
  else
    if (8 : Int32) < p1 then
      some ((0 : Int32), t_bytes, t_length)
    else
      if (t_length + p1) ≤ (Int32.ofNat n_t_bytes) then
        f_Tp_put_L32 n_t_bytes t_bytes t_length p0 p1 10 t_bytes t_length (p1 - (1 : Int32))
      else
        some ((0 : Int32), t_bytes, t_length)
set_option maxHeartbeats 4000000 in
set_option maxRecDepth 100000 in
theorem k_Tp_put_L32 {p : Program} {l : Launch} {e : Env} {s : State} {m : MethodId} {args : Array Value} {below : List Frame} {meth : Method} {c : Code} (hx : p.tables.exec = Jvm.exec) (hb : c.code = b_Tp_put) (hr : meth.sig.returnType = (some .boolean)) (hml : c.maxLocals = 5) (hown : s.vm.findClass R_Tp = some m.cls) (hts : ∀ w ∈ wd_Tp_put, w.before args s = true) (hlocks : meth.locks = false) {A : Nat → Prop} (hA : ∀ q, s.heap.size ≤ q → A q) (hE : ev A s) {D : va_G} {cA : Nat → ClassId} (hK : va_K D classes (tys cA) s) (a_t a_t_bytes : Nat) (n_t_bytes : Nat) (t_bytes : Nat → Int32) (t_length : Int32) (p0 : Int64) (p1 : Int32) (o : Int32 × (Nat → Int32) × Int32) :
    ∀ (n : Nat) (t_bytes' : Nat → Int32) (t_length' : Int32) (x4 : Int32) (H : Heap) (locs : List Loc), f_Tp_put_L32 n_t_bytes t_bytes t_length p0 p1  n t_bytes' t_length' x4 = some o → va_P D classes [(a_t, .inr (4, [.ref a_t_bytes, .int t_length'])), (a_t_bytes, .inl ((cA 1), n_t_bytes, .inl t_bytes'))] H → va_D A [(a_t, .inr (4, [.ref a_t_bytes, .int t_length'])), (a_t_bytes, .inl ((cA 1), n_t_bytes, .inl t_bytes'))] → va_S A s.heap H locs → ∀ ls : Array Slot, lv_has ls 5 [(0, .ref a_t), (1, .long p0), (3, .int p1), (4, .int x4)] → W p l e ({ frames := 0, cells := 0, slots := 0, locals := 0 }) s m args below meth c H locs 0 0 (MQ below (va_Qi (fun r9 (_ : Unit) => r9 = o.1) (fun _ => aR D cA A [(a_t, .inr (4, [.ref a_t_bytes, .int o.2.2])), (a_t_bytes, .inl ((cA 1), n_t_bytes, .inl o.2.1))]) A) args s 0 0 A) (F0 m 32 ls []) := by
  intro n
  induction n with
  | zero =>
    intro t_bytes' t_length' x4 H locs hf
    cases hf
  | succ n32 ih =>
    intro t_bytes' t_length' x4 H locs hf hP hD hS ls hl
    rw [f_Tp_put_L32.eq_2] at hf
    refine lv_iload hx hb d_Tp_put_32 (lv_at hl 3 rfl) ?_
    refine lv_if_lt (tgt := 71) hx hb d_Tp_put_34 (by decide) (fun c_4 => ?_) (fun c_4 => ?_)
    · replace hf := (if_pos c_4).symm.trans hf
      refine lv_iconst (v := 1) hx hb d_Tp_put_71 (by decide) ?_
      have ho9 := Option.some.inj hf
      subst ho9
      have hP9 := hP.sub (ws' := [(a_t, .inr (4, [.ref a_t_bytes, .int t_length'])), (a_t_bytes, .inl ((cA 1), n_t_bytes, .inl t_bytes'))]) [0, 1] rfl
      have hD9 := hD.sub (ws' := [(a_t, .inr (4, [.ref a_t_bytes, .int t_length'])), (a_t_bytes, .inl ((cA 1), n_t_bytes, .inl t_bytes'))]) [0, 1] (by decide) rfl
      exact W.zret (v := (1 : Int32)) hx hb hr rfl (fun t ht hW => ⟨⟨_, (), rfl, rfl, by rw [ht]; exact hP9, va_K.moved hW.alike hK, hD9⟩, hS.F ht⟩) hS.2.2 d_Tp_put_72
    · replace hf := (if_neg c_4).symm.trans hf
      refine lv_aload_n hx hb d_Tp_put_37 rfl (lv_at hl 0 rfl) ?_
      refine va_get (D := D) (ci := 4) (v := .ref a_t_bytes) (C := R_Tp) (T := F_Tp) (N := 2) hx hb hts (fun w9 h9 => .tail _ (gu_Tp w9 h9)) hown hK hP 0 rfl rfl 0 (by decide) (hts _ (.tail _ gm_29)) (fun _ h9 => h9) rfl d_Tp_put_38 ?_
      refine lv_aload_n hx hb d_Tp_put_41 rfl (lv_at hl 0 rfl) ?_
      refine va_get (D := D) (ci := 4) (v := .int t_length') (C := R_Tp) (T := F_Tp) (N := 2) hx hb hts (fun w9 h9 => .tail _ (gu_Tp w9 h9)) hown hK hP 0 rfl rfl 1 (by decide) (hts _ (.tail _ gm_28)) (fun _ h9 => h9) rfl d_Tp_put_42 ?_
      refine lv_lload_n hx hb d_Tp_put_45 rfl (lv_at hl 1 rfl) ?_
      refine lv_bipush (v := 8) hx hb d_Tp_put_46 (by decide) ?_
      refine lv_iload hx hb d_Tp_put_48 (lv_at hl 3 rfl) ?_
      refine lv_imul hx hb d_Tp_put_50 ?_
      refine lv_lushr hx hb d_Tp_put_51 rfl ?_
      refine lv_l2i hx hb d_Tp_put_52 rfl ?_
      refine lv_i2b hx hb d_Tp_put_53 rfl ?_
      obtain ⟨ck_5, hf⟩ := hk_if hf
      refine va_bast hx hb hK hP hD hS 1 1 rfl rfl ck_5 d_Tp_put_54 (fun H locs hP hD hS => ?_)
      have hP : va_P D classes [(a_t, .inr (4, [.ref a_t_bytes, .int t_length'])), (a_t_bytes, .inl ((cA 1), n_t_bytes, .inl (upd t_bytes' t_length'.toNatClampNeg (vp_nar .byte (p0.toUInt64 >>> (((8 : Int32) * x4).toInt64.toUInt64 &&& Int64.toUInt64 63)).toInt64.toInt32.toInt8.toInt32))))] H := hP
      have hD : va_D A [(a_t, .inr (4, [.ref a_t_bytes, .int t_length'])), (a_t_bytes, .inl ((cA 1), n_t_bytes, .inl (upd t_bytes' t_length'.toNatClampNeg (vp_nar .byte (p0.toUInt64 >>> (((8 : Int32) * x4).toInt64.toUInt64 &&& Int64.toUInt64 63)).toInt64.toInt32.toInt8.toInt32))))] := hD
      refine lv_aload_n hx hb d_Tp_put_55 rfl (lv_at hl 0 rfl) ?_
      refine lv_dup hx hb d_Tp_put_56 rfl ?_
      refine va_get (D := D) (ci := 4) (v := .int t_length') (C := R_Tp) (T := F_Tp) (N := 2) hx hb hts (fun w9 h9 => .tail _ (gu_Tp w9 h9)) hown hK hP 0 rfl rfl 1 (by decide) (hts _ (.tail _ gm_28)) (fun _ h9 => h9) rfl d_Tp_put_57 ?_
      refine lv_iconst (v := 1) hx hb d_Tp_put_60 (by decide) ?_
      refine lv_iadd hx hb d_Tp_put_61 ?_
      refine va_put (D := D) (ci := 4) (v := .int (t_length' + (1 : Int32))) (ty := .int) (C := R_Tp) (T := F_Tp) (N := 2) hx hb hts (fun w9 h9 => .tail _ (gu_Tp w9 h9)) t_Tp t_Tp_ok n_Tp hown hK hP hD hS 0 rfl rfl 1 (by decide) (hts _ (.tail _ gm_28)) (fun _ h9 => h9) rfl (by decide +kernel) rfl rfl (Nat.le_of_ble_eq_true rfl) d_Tp_put_62 (fun H locs hP hD hS => ?_)
      have hP : va_P D classes [(a_t, .inr (4, [.ref a_t_bytes, .int (t_length' + (1 : Int32))])), (a_t_bytes, .inl ((cA 1), n_t_bytes, .inl (upd t_bytes' t_length'.toNatClampNeg (vp_nar .byte (p0.toUInt64 >>> (((8 : Int32) * x4).toInt64.toUInt64 &&& Int64.toUInt64 63)).toInt64.toInt32.toInt8.toInt32))))] H := hP
      have hD : va_D A [(a_t, .inr (4, [.ref a_t_bytes, .int (t_length' + (1 : Int32))])), (a_t_bytes, .inl ((cA 1), n_t_bytes, .inl (upd t_bytes' t_length'.toNatClampNeg (vp_nar .byte (p0.toUInt64 >>> (((8 : Int32) * x4).toInt64.toUInt64 &&& Int64.toUInt64 63)).toInt64.toInt32.toInt8.toInt32))))] := hD
      refine lv_iinc (v := (x4 + (-1 : Int32))) (lv' := [(4, .int (x4 + (-1 : Int32))), (0, .ref a_t), (1, .long p0), (3, .int p1)]) hx hb d_Tp_put_65 hl (k := 3) rfl rfl (by decide) rfl (fun ls hl => ?_)
      refine lv_goto (tgt := 32) hx hb d_Tp_put_68 (by decide) ?_
      exact ih (upd t_bytes' t_length'.toNatClampNeg (vp_nar .byte (p0.toUInt64 >>> (((8 : Int32) * x4).toInt64.toUInt64 &&& Int64.toUInt64 63)).toInt64.toInt32.toInt8.toInt32)) (t_length' + (1 : Int32)) (x4 + (-1 : Int32)) _ _ hf (hP.sub [0, 1] rfl) (hD.sub [0, 1] (by decide) rfl) hS ls (lv_sub hl [1, 2, 3, 0] rfl)
set_option maxHeartbeats 4000000 in
set_option maxRecDepth 100000 in
theorem c_Tp_put (l : Launch) (D : va_G) (cA : Nat → ClassId) (a_t a_t_bytes : Nat) (sz : Nat) (n_t_bytes : Nat) (t_bytes : Nat → Int32) (t_length : Int32) (p0 : Int64) (p1 : Int32) (o : Int32 × (Nat → Int32) × Int32) (hf : f_Tp_put n_t_bytes t_bytes t_length p0 p1 = some o) : Met l y_Tp_put wd_Tp_put ({ frames := 0, cells := 0, slots := 0, locals := 0 }) (va_Pc [.ref a_t, .long p0, .int p1] (aP D cA [(a_t, .inr (4, [.ref a_t_bytes, .int t_length])), (a_t_bytes, .inl ((cA 1), n_t_bytes, .inl t_bytes))] sz)) (va_Qi (fun r9 (_ : Unit) => r9 = o.1) (fun _ => aR D cA (va_A [(a_t, .inr (4, [.ref a_t_bytes, .int t_length])), (a_t_bytes, .inl ((cA 1), n_t_bytes, .inl t_bytes))] sz) [(a_t, .inr (4, [.ref a_t_bytes, .int o.2.2])), (a_t_bytes, .inl ((cA 1), n_t_bytes, .inl o.2.1))]) (va_A [(a_t, .inr (4, [.ref a_t_bytes, .int t_length])), (a_t_bytes, .inl ((cA 1), n_t_bytes, .inl t_bytes))] sz)) 0 0 (va_A [(a_t, .inr (4, [.ref a_t_bytes, .int t_length])), (a_t_bytes, .inl ((cA 1), n_t_bytes, .inl t_bytes))] sz) := by
  refine Met.ofW (cc := b_Tp_put) (maxL := 5) (ret := (some .boolean)) (by decide +kernel) rfl ?_
  intro p e s m args below meth c s₁ B hml hv
  obtain ⟨rfl, hsz, hP, hK, hD0, hE⟩ := hv
  have hx := B.exec
  have hb := B.bytes
  have hr := B.returns
  have hts := atoms_spec (ws := wd_Tp_put) B.pre
  have hown : s.vm.findClass R_Tp = some m.cls := findClass_of_methodNamed B.named
  have hlocks := B.notSynchronized
  subst hsz
  have hD := hD0.self (sz := s.heap.size)
  generalize hAe : va_A [(a_t, .inr (4, [.ref a_t_bytes, .int t_length])), (a_t_bytes, .inl ((cA 1), n_t_bytes, .inl t_bytes))] s.heap.size = A at hD hE ⊢
  have hA : ∀ q : Nat, s.heap.size ≤ q → A q := fun q h => by rw [← hAe]; exact Or.inr h
  have hS : va_S A s.heap s.heap [] := va_S.rf
  have hl := lv_entry [.ref a_t, .long p0, .int p1] (n := 5) (Nat.le_of_ble_eq_true rfl)
  rw [lg_entry_eq]
  generalize (lg_sl [.ref a_t, .long p0, .int p1] ++ List.replicate (5 - (lg_sl [.ref a_t, .long p0, .int p1]).length) Slot.unset).toArray = ls at hl ⊢
  have hl : lv_has ls 5 [(0, .ref a_t), (1, .long p0), (3, .int p1)] := hl
  unfold f_Tp_put at hf
  refine lv_iload_n hx hb d_Tp_put_0 rfl (lv_at hl 2 rfl) ?_
  refine lv_iconst (v := 1) hx hb d_Tp_put_1 (by decide) ?_
  refine lv_icmp_lt (tgt := 25) hx hb d_Tp_put_2 (by decide) (fun c_1 => ?_) (fun c_1 => ?_)
  · replace hf := (if_pos c_1).symm.trans hf
    refine lv_iconst (v := 0) hx hb d_Tp_put_25 (by decide) ?_
    have ho9 := Option.some.inj hf
    subst ho9
    have hP9 := hP.sub (ws' := [(a_t, .inr (4, [.ref a_t_bytes, .int t_length])), (a_t_bytes, .inl ((cA 1), n_t_bytes, .inl t_bytes))]) [0, 1] rfl
    have hD9 := hD.sub (ws' := [(a_t, .inr (4, [.ref a_t_bytes, .int t_length])), (a_t_bytes, .inl ((cA 1), n_t_bytes, .inl t_bytes))]) [0, 1] (by decide) rfl
    exact W.zret (v := (0 : Int32)) hx hb hr rfl (fun t ht hW => ⟨⟨_, (), rfl, rfl, by rw [ht]; exact hP9, va_K.moved hW.alike hK, hD9⟩, hS.F ht⟩) hS.2.2 d_Tp_put_26
  · replace hf := (if_neg c_1).symm.trans hf
    refine lv_iload_n hx hb d_Tp_put_5 rfl (lv_at hl 2 rfl) ?_
    refine lv_bipush (v := 8) hx hb d_Tp_put_6 (by decide) ?_
    refine lv_icmp_gt (tgt := 25) hx hb d_Tp_put_8 (by decide) (fun c_2 => ?_) (fun c_2 => ?_)
    · replace hf := (if_pos c_2).symm.trans hf
      refine lv_iconst (v := 0) hx hb d_Tp_put_25 (by decide) ?_
      have ho9 := Option.some.inj hf
      subst ho9
      have hP9 := hP.sub (ws' := [(a_t, .inr (4, [.ref a_t_bytes, .int t_length])), (a_t_bytes, .inl ((cA 1), n_t_bytes, .inl t_bytes))]) [0, 1] rfl
      have hD9 := hD.sub (ws' := [(a_t, .inr (4, [.ref a_t_bytes, .int t_length])), (a_t_bytes, .inl ((cA 1), n_t_bytes, .inl t_bytes))]) [0, 1] (by decide) rfl
      exact W.zret (v := (0 : Int32)) hx hb hr rfl (fun t ht hW => ⟨⟨_, (), rfl, rfl, by rw [ht]; exact hP9, va_K.moved hW.alike hK, hD9⟩, hS.F ht⟩) hS.2.2 d_Tp_put_26
    · replace hf := (if_neg c_2).symm.trans hf
      refine lv_aload_n hx hb d_Tp_put_11 rfl (lv_at hl 0 rfl) ?_
      refine va_get (D := D) (ci := 4) (v := .int t_length) (C := R_Tp) (T := F_Tp) (N := 2) hx hb hts (fun w9 h9 => .tail _ (gu_Tp w9 h9)) hown hK hP 0 rfl rfl 1 (by decide) (hts _ (.tail _ gm_28)) (fun _ h9 => h9) rfl d_Tp_put_12 ?_
      refine lv_iload_n hx hb d_Tp_put_15 rfl (lv_at hl 2 rfl) ?_
      refine lv_iadd hx hb d_Tp_put_16 ?_
      refine lv_aload_n hx hb d_Tp_put_17 rfl (lv_at hl 0 rfl) ?_
      refine va_get (D := D) (ci := 4) (v := .ref a_t_bytes) (C := R_Tp) (T := F_Tp) (N := 2) hx hb hts (fun w9 h9 => .tail _ (gu_Tp w9 h9)) hown hK hP 0 rfl rfl 0 (by decide) (hts _ (.tail _ gm_29)) (fun _ h9 => h9) rfl d_Tp_put_18 ?_
      refine va_alen hx hb hK hP 1 1 rfl rfl rfl d_Tp_put_21 ?_
      refine lv_icmp_le (tgt := 27) hx hb d_Tp_put_22 (by decide) (fun c_3 => ?_) (fun c_3 => ?_)
      · replace hf := (if_pos c_3).symm.trans hf
        refine lv_iload_n hx hb d_Tp_put_27 rfl (lv_at hl 2 rfl) ?_
        refine lv_iconst (v := 1) hx hb d_Tp_put_28 (by decide) ?_
        refine lv_isub hx hb d_Tp_put_29 ?_
        refine lv_istore (lv' := [(4, .int (p1 - (1 : Int32))), (0, .ref a_t), (1, .long p0), (3, .int p1)]) hx hb d_Tp_put_30 hl (by decide) rfl (fun ls hl => ?_)
        exact k_Tp_put_L32 hx hb hr hml hown hts hlocks hA hE hK a_t a_t_bytes n_t_bytes t_bytes t_length p0 p1 _ _ t_bytes t_length (p1 - (1 : Int32)) _ _ hf (hP.sub [0, 1] rfl) (hD.sub [0, 1] (by decide) rfl) hS ls (lv_sub hl [1, 2, 3, 0] rfl)
      · replace hf := (if_neg c_3).symm.trans hf
        refine lv_iconst (v := 0) hx hb d_Tp_put_25 (by decide) ?_
        have ho9 := Option.some.inj hf
        subst ho9
        have hP9 := hP.sub (ws' := [(a_t, .inr (4, [.ref a_t_bytes, .int t_length])), (a_t_bytes, .inl ((cA 1), n_t_bytes, .inl t_bytes))]) [0, 1] rfl
        have hD9 := hD.sub (ws' := [(a_t, .inr (4, [.ref a_t_bytes, .int t_length])), (a_t_bytes, .inl ((cA 1), n_t_bytes, .inl t_bytes))]) [0, 1] (by decide) rfl
        exact W.zret (v := (0 : Int32)) hx hb hr rfl (fun t ht hW => ⟨⟨_, (), rfl, rfl, by rw [ht]; exact hP9, va_K.moved hW.alike hK, hD9⟩, hS.F ht⟩) hS.2.2 d_Tp_put_26
theorem d_Tp_lift_0 : decode b_Tp_lift 0 = .ok (.aload_n 0, 1) := by decide +kernel
theorem d_Tp_lift_1 : decode b_Tp_lift 1 = .ok (.getfield 15, 3) := by decide +kernel
theorem d_Tp_lift_4 : decode b_Tp_lift 4 = .ok (.istore_n 1, 1) := by decide +kernel
theorem d_Tp_lift_5 : decode b_Tp_lift 5 = .ok (.aload_n 0, 1) := by decide +kernel
theorem d_Tp_lift_6 : decode b_Tp_lift 6 = .ok (.iconst 0, 1) := by decide +kernel
theorem d_Tp_lift_7 : decode b_Tp_lift 7 = .ok (.putfield 15, 3) := by decide +kernel
theorem d_Tp_lift_10 : decode b_Tp_lift 10 = .ok (.iload_n 1, 1) := by decide +kernel
theorem d_Tp_lift_11 : decode b_Tp_lift 11 = .ok (.ireturn, 1) := by decide +kernel
abbrev wd_Tp_lift : List Cond := .code y_Tp_lift b_Tp_lift 2 (some .int) :: gw
def f_Tp_lift (n_t_bytes : Nat) (t_bytes : Nat → Int32) (t_length : Int32) : Option (Int32 × Int32) :=
  some (t_length, (0 : Int32))
set_option maxHeartbeats 4000000 in
set_option maxRecDepth 100000 in
theorem c_Tp_lift (l : Launch) (D : va_G) (cA : Nat → ClassId) (a_t a_t_bytes : Nat) (sz : Nat) (n_t_bytes : Nat) (t_bytes : Nat → Int32) (t_length : Int32) (o : Int32 × Int32) (hf : f_Tp_lift n_t_bytes t_bytes t_length = some o) : Met l y_Tp_lift wd_Tp_lift ({ frames := 0, cells := 0, slots := 0, locals := 0 }) (va_Pc [.ref a_t] (aP D cA [(a_t, .inr (4, [.ref a_t_bytes, .int t_length])), (a_t_bytes, .inl ((cA 1), n_t_bytes, .inl t_bytes))] sz)) (va_Qi (fun r9 (_ : Unit) => r9 = o.1) (fun _ => aR D cA (va_A [(a_t, .inr (4, [.ref a_t_bytes, .int t_length])), (a_t_bytes, .inl ((cA 1), n_t_bytes, .inl t_bytes))] sz) [(a_t, .inr (4, [.ref a_t_bytes, .int o.2])), (a_t_bytes, .inl ((cA 1), n_t_bytes, .inl t_bytes))]) (va_A [(a_t, .inr (4, [.ref a_t_bytes, .int t_length])), (a_t_bytes, .inl ((cA 1), n_t_bytes, .inl t_bytes))] sz)) 0 0 (va_A [(a_t, .inr (4, [.ref a_t_bytes, .int t_length])), (a_t_bytes, .inl ((cA 1), n_t_bytes, .inl t_bytes))] sz) := by
  refine Met.ofW (cc := b_Tp_lift) (maxL := 2) (ret := (some .int)) (by decide +kernel) rfl ?_
  intro p e s m args below meth c s₁ B hml hv
  obtain ⟨rfl, hsz, hP, hK, hD0, hE⟩ := hv
  have hx := B.exec
  have hb := B.bytes
  have hr := B.returns
  have hts := atoms_spec (ws := wd_Tp_lift) B.pre
  have hown : s.vm.findClass R_Tp = some m.cls := findClass_of_methodNamed B.named
  have hlocks := B.notSynchronized
  subst hsz
  have hD := hD0.self (sz := s.heap.size)
  generalize hAe : va_A [(a_t, .inr (4, [.ref a_t_bytes, .int t_length])), (a_t_bytes, .inl ((cA 1), n_t_bytes, .inl t_bytes))] s.heap.size = A at hD hE ⊢
  have hA : ∀ q : Nat, s.heap.size ≤ q → A q := fun q h => by rw [← hAe]; exact Or.inr h
  have hS : va_S A s.heap s.heap [] := va_S.rf
  have hl := lv_entry [.ref a_t] (n := 2) (Nat.le_of_ble_eq_true rfl)
  rw [lg_entry_eq]
  generalize (lg_sl [.ref a_t] ++ List.replicate (2 - (lg_sl [.ref a_t]).length) Slot.unset).toArray = ls at hl ⊢
  have hl : lv_has ls 2 [(0, .ref a_t)] := hl
  unfold f_Tp_lift at hf
  refine lv_aload_n hx hb d_Tp_lift_0 rfl (lv_at hl 0 rfl) ?_
  refine va_get (D := D) (ci := 4) (v := .int t_length) (C := R_Tp) (T := F_Tp) (N := 2) hx hb hts (fun w9 h9 => .tail _ (gu_Tp w9 h9)) hown hK hP 0 rfl rfl 1 (by decide) (hts _ (.tail _ gm_28)) (fun _ h9 => h9) rfl d_Tp_lift_1 ?_
  refine lv_istore_n (lv' := [(1, .int t_length), (0, .ref a_t)]) hx hb d_Tp_lift_4 rfl hl (by decide) rfl (fun ls hl => ?_)
  refine lv_aload_n hx hb d_Tp_lift_5 rfl (lv_at hl 1 rfl) ?_
  refine lv_iconst (v := 0) hx hb d_Tp_lift_6 (by decide) ?_
  refine va_put (D := D) (ci := 4) (v := .int (0 : Int32)) (ty := .int) (C := R_Tp) (T := F_Tp) (N := 2) hx hb hts (fun w9 h9 => .tail _ (gu_Tp w9 h9)) t_Tp t_Tp_ok n_Tp hown hK hP hD hS 0 rfl rfl 1 (by decide) (hts _ (.tail _ gm_28)) (fun _ h9 => h9) rfl (by decide +kernel) rfl rfl (Nat.le_of_ble_eq_true rfl) d_Tp_lift_7 (fun H locs hP hD hS => ?_)
  have hP : va_P D classes [(a_t, .inr (4, [.ref a_t_bytes, .int (0 : Int32)])), (a_t_bytes, .inl ((cA 1), n_t_bytes, .inl t_bytes))] H := hP
  have hD : va_D A [(a_t, .inr (4, [.ref a_t_bytes, .int (0 : Int32)])), (a_t_bytes, .inl ((cA 1), n_t_bytes, .inl t_bytes))] := hD
  refine lv_iload_n hx hb d_Tp_lift_10 rfl (lv_at hl 0 rfl) ?_
  have ho9 := Option.some.inj hf
  subst ho9
  have hP9 := hP.sub (ws' := [(a_t, .inr (4, [.ref a_t_bytes, .int (0 : Int32)])), (a_t_bytes, .inl ((cA 1), n_t_bytes, .inl t_bytes))]) [0, 1] rfl
  have hD9 := hD.sub (ws' := [(a_t, .inr (4, [.ref a_t_bytes, .int (0 : Int32)])), (a_t_bytes, .inl ((cA 1), n_t_bytes, .inl t_bytes))]) [0, 1] (by decide) rfl
  exact W.iret (v := t_length) hx hb hr (fun t ht hW => ⟨⟨_, (), rfl, rfl, by rw [ht]; exact hP9, va_K.moved hW.alike hK, hD9⟩, hS.F ht⟩) hS.2.2 d_Tp_lift_11
theorem d_Tp_byteAt_0 : decode b_Tp_byteAt 0 = .ok (.iload_n 1, 1) := by decide +kernel
theorem d_Tp_byteAt_1 : decode b_Tp_byteAt 1 = .ok (.ifCond .lt 25, 3) := by decide +kernel
theorem d_Tp_byteAt_4 : decode b_Tp_byteAt 4 = .ok (.iload_n 1, 1) := by decide +kernel
theorem d_Tp_byteAt_5 : decode b_Tp_byteAt 5 = .ok (.aload_n 0, 1) := by decide +kernel
theorem d_Tp_byteAt_6 : decode b_Tp_byteAt 6 = .ok (.getfield 9, 3) := by decide +kernel
theorem d_Tp_byteAt_9 : decode b_Tp_byteAt 9 = .ok (.arraylength, 1) := by decide +kernel
theorem d_Tp_byteAt_10 : decode b_Tp_byteAt 10 = .ok (.if_icmp .ge 16, 3) := by decide +kernel
theorem d_Tp_byteAt_13 : decode b_Tp_byteAt 13 = .ok (.aload_n 0, 1) := by decide +kernel
theorem d_Tp_byteAt_14 : decode b_Tp_byteAt 14 = .ok (.getfield 9, 3) := by decide +kernel
theorem d_Tp_byteAt_17 : decode b_Tp_byteAt 17 = .ok (.iload_n 1, 1) := by decide +kernel
theorem d_Tp_byteAt_18 : decode b_Tp_byteAt 18 = .ok (.baload, 1) := by decide +kernel
theorem d_Tp_byteAt_19 : decode b_Tp_byteAt 19 = .ok (.sipush 255, 3) := by decide +kernel
theorem d_Tp_byteAt_22 : decode b_Tp_byteAt 22 = .ok (.iand, 1) := by decide +kernel
theorem d_Tp_byteAt_23 : decode b_Tp_byteAt 23 = .ok (.goto 4, 3) := by decide +kernel
theorem d_Tp_byteAt_26 : decode b_Tp_byteAt 26 = .ok (.iconst 0, 1) := by decide +kernel
theorem d_Tp_byteAt_27 : decode b_Tp_byteAt 27 = .ok (.ireturn, 1) := by decide +kernel
abbrev wd_Tp_byteAt : List Cond := .code y_Tp_byteAt b_Tp_byteAt 2 (some .int) :: gw
def f_Tp_byteAt (n_t_bytes : Nat) (t_bytes : Nat → Int32) (t_length : Int32) (p0 : Int32) : Option (Int32) :=
  if p0 < 0 then
    some (0 : Int32)
  else
    if (Int32.ofNat n_t_bytes) ≤ p0 then
      some (0 : Int32)
    else
      if p0 < 0 ∨ n_t_bytes ≤ p0.toNatClampNeg then none else
      some ((t_bytes p0.toNatClampNeg) &&& (255 : Int32))
set_option maxHeartbeats 4000000 in
set_option maxRecDepth 100000 in
theorem c_Tp_byteAt (l : Launch) (D : va_G) (cA : Nat → ClassId) (a_t a_t_bytes : Nat) (sz : Nat) (n_t_bytes : Nat) (t_bytes : Nat → Int32) (t_length : Int32) (p0 : Int32) (o : Int32) (hf : f_Tp_byteAt n_t_bytes t_bytes t_length p0 = some o) : Met l y_Tp_byteAt wd_Tp_byteAt ({ frames := 0, cells := 0, slots := 0, locals := 0 }) (va_Pc [.ref a_t, .int p0] (aP D cA [(a_t, .inr (4, [.ref a_t_bytes, .int t_length])), (a_t_bytes, .inl ((cA 1), n_t_bytes, .inl t_bytes))] sz)) (va_Qi (fun r9 (_ : Unit) => r9 = o) (fun _ => aR D cA (va_A [(a_t, .inr (4, [.ref a_t_bytes, .int t_length])), (a_t_bytes, .inl ((cA 1), n_t_bytes, .inl t_bytes))] sz) [(a_t, .inr (4, [.ref a_t_bytes, .int t_length])), (a_t_bytes, .inl ((cA 1), n_t_bytes, .inl t_bytes))]) (va_A [(a_t, .inr (4, [.ref a_t_bytes, .int t_length])), (a_t_bytes, .inl ((cA 1), n_t_bytes, .inl t_bytes))] sz)) 0 0 (va_A [(a_t, .inr (4, [.ref a_t_bytes, .int t_length])), (a_t_bytes, .inl ((cA 1), n_t_bytes, .inl t_bytes))] sz) := by
  refine Met.ofW (cc := b_Tp_byteAt) (maxL := 2) (ret := (some .int)) (by decide +kernel) rfl ?_
  intro p e s m args below meth c s₁ B hml hv
  obtain ⟨rfl, hsz, hP, hK, hD0, hE⟩ := hv
  have hx := B.exec
  have hb := B.bytes
  have hr := B.returns
  have hts := atoms_spec (ws := wd_Tp_byteAt) B.pre
  have hown : s.vm.findClass R_Tp = some m.cls := findClass_of_methodNamed B.named
  have hlocks := B.notSynchronized
  subst hsz
  have hD := hD0.self (sz := s.heap.size)
  generalize hAe : va_A [(a_t, .inr (4, [.ref a_t_bytes, .int t_length])), (a_t_bytes, .inl ((cA 1), n_t_bytes, .inl t_bytes))] s.heap.size = A at hD hE ⊢
  have hA : ∀ q : Nat, s.heap.size ≤ q → A q := fun q h => by rw [← hAe]; exact Or.inr h
  have hS : va_S A s.heap s.heap [] := va_S.rf
  have hl := lv_entry [.ref a_t, .int p0] (n := 2) (Nat.le_of_ble_eq_true rfl)
  rw [lg_entry_eq]
  generalize (lg_sl [.ref a_t, .int p0] ++ List.replicate (2 - (lg_sl [.ref a_t, .int p0]).length) Slot.unset).toArray = ls at hl ⊢
  have hl : lv_has ls 2 [(0, .ref a_t), (1, .int p0)] := hl
  unfold f_Tp_byteAt at hf
  refine lv_iload_n hx hb d_Tp_byteAt_0 rfl (lv_at hl 1 rfl) ?_
  refine lv_if_lt (tgt := 26) hx hb d_Tp_byteAt_1 (by decide) (fun c_1 => ?_) (fun c_1 => ?_)
  · replace hf := (if_pos c_1).symm.trans hf
    refine lv_iconst (v := 0) hx hb d_Tp_byteAt_26 (by decide) ?_
    have ho9 := Option.some.inj hf
    subst ho9
    have hP9 := hP.sub (ws' := [(a_t, .inr (4, [.ref a_t_bytes, .int t_length])), (a_t_bytes, .inl ((cA 1), n_t_bytes, .inl t_bytes))]) [0, 1] rfl
    have hD9 := hD.sub (ws' := [(a_t, .inr (4, [.ref a_t_bytes, .int t_length])), (a_t_bytes, .inl ((cA 1), n_t_bytes, .inl t_bytes))]) [0, 1] (by decide) rfl
    exact W.iret (v := (0 : Int32)) hx hb hr (fun t ht hW => ⟨⟨_, (), rfl, rfl, by rw [ht]; exact hP9, va_K.moved hW.alike hK, hD9⟩, hS.F ht⟩) hS.2.2 d_Tp_byteAt_27
  · replace hf := (if_neg c_1).symm.trans hf
    refine lv_iload_n hx hb d_Tp_byteAt_4 rfl (lv_at hl 1 rfl) ?_
    refine lv_aload_n hx hb d_Tp_byteAt_5 rfl (lv_at hl 0 rfl) ?_
    refine va_get (D := D) (ci := 4) (v := .ref a_t_bytes) (C := R_Tp) (T := F_Tp) (N := 2) hx hb hts (fun w9 h9 => .tail _ (gu_Tp w9 h9)) hown hK hP 0 rfl rfl 0 (by decide) (hts _ (.tail _ gm_29)) (fun _ h9 => h9) rfl d_Tp_byteAt_6 ?_
    refine va_alen hx hb hK hP 1 1 rfl rfl rfl d_Tp_byteAt_9 ?_
    refine lv_icmp_ge (tgt := 26) hx hb d_Tp_byteAt_10 (by decide) (fun c_2 => ?_) (fun c_2 => ?_)
    · replace hf := (if_pos c_2).symm.trans hf
      refine lv_iconst (v := 0) hx hb d_Tp_byteAt_26 (by decide) ?_
      have ho9 := Option.some.inj hf
      subst ho9
      have hP9 := hP.sub (ws' := [(a_t, .inr (4, [.ref a_t_bytes, .int t_length])), (a_t_bytes, .inl ((cA 1), n_t_bytes, .inl t_bytes))]) [0, 1] rfl
      have hD9 := hD.sub (ws' := [(a_t, .inr (4, [.ref a_t_bytes, .int t_length])), (a_t_bytes, .inl ((cA 1), n_t_bytes, .inl t_bytes))]) [0, 1] (by decide) rfl
      exact W.iret (v := (0 : Int32)) hx hb hr (fun t ht hW => ⟨⟨_, (), rfl, rfl, by rw [ht]; exact hP9, va_K.moved hW.alike hK, hD9⟩, hS.F ht⟩) hS.2.2 d_Tp_byteAt_27
    · replace hf := (if_neg c_2).symm.trans hf
      refine lv_aload_n hx hb d_Tp_byteAt_13 rfl (lv_at hl 0 rfl) ?_
      refine va_get (D := D) (ci := 4) (v := .ref a_t_bytes) (C := R_Tp) (T := F_Tp) (N := 2) hx hb hts (fun w9 h9 => .tail _ (gu_Tp w9 h9)) hown hK hP 0 rfl rfl 0 (by decide) (hts _ (.tail _ gm_29)) (fun _ h9 => h9) rfl d_Tp_byteAt_14 ?_
      refine lv_iload_n hx hb d_Tp_byteAt_17 rfl (lv_at hl 1 rfl) ?_
      obtain ⟨ck_3, hf⟩ := hk_if hf
      refine va_bald hx hb hK hP 1 1 rfl rfl ck_3 d_Tp_byteAt_18 ?_
      refine lv_sipush (v := 255) hx hb d_Tp_byteAt_19 (by decide) ?_
      refine lv_iand hx hb d_Tp_byteAt_22 ?_
      refine lv_goto (tgt := 27) hx hb d_Tp_byteAt_23 (by decide) ?_
      have ho9 := Option.some.inj hf
      subst ho9
      have hP9 := hP.sub (ws' := [(a_t, .inr (4, [.ref a_t_bytes, .int t_length])), (a_t_bytes, .inl ((cA 1), n_t_bytes, .inl t_bytes))]) [0, 1] rfl
      have hD9 := hD.sub (ws' := [(a_t, .inr (4, [.ref a_t_bytes, .int t_length])), (a_t_bytes, .inl ((cA 1), n_t_bytes, .inl t_bytes))]) [0, 1] (by decide) rfl
      exact W.iret (v := ((t_bytes p0.toNatClampNeg) &&& (255 : Int32))) hx hb hr (fun t ht hW => ⟨⟨_, (), rfl, rfl, by rw [ht]; exact hP9, va_K.moved hW.alike hK, hD9⟩, hS.F ht⟩) hS.2.2 d_Tp_byteAt_27
theorem d_Rc_restart_0 : decode b_Rc_restart 0 = .ok (.aload_n 0, 1) := by decide +kernel
theorem d_Rc_restart_1 : decode b_Rc_restart 1 = .ok (.iload_n 1, 1) := by decide +kernel
theorem d_Rc_restart_2 : decode b_Rc_restart 2 = .ok (.putfield 16, 3) := by decide +kernel
theorem d_Rc_restart_5 : decode b_Rc_restart 5 = .ok (.aload_n 0, 1) := by decide +kernel
theorem d_Rc_restart_6 : decode b_Rc_restart 6 = .ok (.iload_n 1, 1) := by decide +kernel
theorem d_Rc_restart_7 : decode b_Rc_restart 7 = .ok (.putfield 20, 3) := by decide +kernel
theorem d_Rc_restart_10 : decode b_Rc_restart 10 = .ok (.return_, 1) := by decide +kernel
abbrev wd_Rc_restart : List Cond := .code y_Rc_restart b_Rc_restart 2 none :: gw
def f_Rc_restart (n_t_pageBySlot : Nat) (t_pageBySlot : Nat → Int32) (n_t_startBySlot : Nat) (t_startBySlot : Nat → Int32) (t_kept : Int32) (t_next : Int32) (p0 : Int32) : Option (Int32 × Int32) :=
  some (p0, p0)
set_option maxHeartbeats 4000000 in
set_option maxRecDepth 100000 in
theorem c_Rc_restart (l : Launch) (D : va_G) (cA : Nat → ClassId) (a_t a_t_pageBySlot a_t_startBySlot : Nat) (sz : Nat) (n_t_pageBySlot : Nat) (t_pageBySlot : Nat → Int32) (n_t_startBySlot : Nat) (t_startBySlot : Nat → Int32) (t_kept : Int32) (t_next : Int32) (p0 : Int32) (o : Int32 × Int32) (hf : f_Rc_restart n_t_pageBySlot t_pageBySlot n_t_startBySlot t_startBySlot t_kept t_next p0 = some o) : Met l y_Rc_restart wd_Rc_restart ({ frames := 0, cells := 0, slots := 0, locals := 0 }) (va_Pc [.ref a_t, .int p0] (aP D cA [(a_t, .inr (3, [.ref a_t_pageBySlot, .ref a_t_startBySlot, .int t_kept, .int t_next])), (a_t_pageBySlot, .inl ((cA 0), n_t_pageBySlot, .inl t_pageBySlot)), (a_t_startBySlot, .inl ((cA 0), n_t_startBySlot, .inl t_startBySlot))] sz)) (va_Qv (fun (_ : Unit) => True) (fun _ => aR D cA (va_A [(a_t, .inr (3, [.ref a_t_pageBySlot, .ref a_t_startBySlot, .int t_kept, .int t_next])), (a_t_pageBySlot, .inl ((cA 0), n_t_pageBySlot, .inl t_pageBySlot)), (a_t_startBySlot, .inl ((cA 0), n_t_startBySlot, .inl t_startBySlot))] sz) [(a_t, .inr (3, [.ref a_t_pageBySlot, .ref a_t_startBySlot, .int o.1, .int o.2])), (a_t_pageBySlot, .inl ((cA 0), n_t_pageBySlot, .inl t_pageBySlot)), (a_t_startBySlot, .inl ((cA 0), n_t_startBySlot, .inl t_startBySlot))]) (va_A [(a_t, .inr (3, [.ref a_t_pageBySlot, .ref a_t_startBySlot, .int t_kept, .int t_next])), (a_t_pageBySlot, .inl ((cA 0), n_t_pageBySlot, .inl t_pageBySlot)), (a_t_startBySlot, .inl ((cA 0), n_t_startBySlot, .inl t_startBySlot))] sz)) 0 0 (va_A [(a_t, .inr (3, [.ref a_t_pageBySlot, .ref a_t_startBySlot, .int t_kept, .int t_next])), (a_t_pageBySlot, .inl ((cA 0), n_t_pageBySlot, .inl t_pageBySlot)), (a_t_startBySlot, .inl ((cA 0), n_t_startBySlot, .inl t_startBySlot))] sz) := by
  refine Met.ofW (cc := b_Rc_restart) (maxL := 2) (ret := none) (by decide +kernel) rfl ?_
  intro p e s m args below meth c s₁ B hml hv
  obtain ⟨rfl, hsz, hP, hK, hD0, hE⟩ := hv
  have hx := B.exec
  have hb := B.bytes
  have hr := B.returns
  have hts := atoms_spec (ws := wd_Rc_restart) B.pre
  have hown : s.vm.findClass R_Rc = some m.cls := findClass_of_methodNamed B.named
  have hlocks := B.notSynchronized
  subst hsz
  have hD := hD0.self (sz := s.heap.size)
  generalize hAe : va_A [(a_t, .inr (3, [.ref a_t_pageBySlot, .ref a_t_startBySlot, .int t_kept, .int t_next])), (a_t_pageBySlot, .inl ((cA 0), n_t_pageBySlot, .inl t_pageBySlot)), (a_t_startBySlot, .inl ((cA 0), n_t_startBySlot, .inl t_startBySlot))] s.heap.size = A at hD hE ⊢
  have hA : ∀ q : Nat, s.heap.size ≤ q → A q := fun q h => by rw [← hAe]; exact Or.inr h
  have hS : va_S A s.heap s.heap [] := va_S.rf
  have hl := lv_entry [.ref a_t, .int p0] (n := 2) (Nat.le_of_ble_eq_true rfl)
  rw [lg_entry_eq]
  generalize (lg_sl [.ref a_t, .int p0] ++ List.replicate (2 - (lg_sl [.ref a_t, .int p0]).length) Slot.unset).toArray = ls at hl ⊢
  have hl : lv_has ls 2 [(0, .ref a_t), (1, .int p0)] := hl
  unfold f_Rc_restart at hf
  refine lv_aload_n hx hb d_Rc_restart_0 rfl (lv_at hl 0 rfl) ?_
  refine lv_iload_n hx hb d_Rc_restart_1 rfl (lv_at hl 1 rfl) ?_
  refine va_put (D := D) (ci := 3) (v := .int p0) (ty := .int) (C := R_Rc) (T := F_Rc) (N := 4) hx hb hts (fun w9 h9 => .tail _ (gu_Rc w9 h9)) t_Rc t_Rc_ok n_Rc hown hK hP hD hS 0 rfl rfl 2 (by decide) (hts _ (.tail _ gm_30)) (fun _ h9 => h9) rfl (by decide +kernel) rfl rfl (Nat.le_of_ble_eq_true rfl) d_Rc_restart_2 (fun H locs hP hD hS => ?_)
  have hP : va_P D classes [(a_t, .inr (3, [.ref a_t_pageBySlot, .ref a_t_startBySlot, .int p0, .int t_next])), (a_t_pageBySlot, .inl ((cA 0), n_t_pageBySlot, .inl t_pageBySlot)), (a_t_startBySlot, .inl ((cA 0), n_t_startBySlot, .inl t_startBySlot))] H := hP
  have hD : va_D A [(a_t, .inr (3, [.ref a_t_pageBySlot, .ref a_t_startBySlot, .int p0, .int t_next])), (a_t_pageBySlot, .inl ((cA 0), n_t_pageBySlot, .inl t_pageBySlot)), (a_t_startBySlot, .inl ((cA 0), n_t_startBySlot, .inl t_startBySlot))] := hD
  refine lv_aload_n hx hb d_Rc_restart_5 rfl (lv_at hl 0 rfl) ?_
  refine lv_iload_n hx hb d_Rc_restart_6 rfl (lv_at hl 1 rfl) ?_
  refine va_put (D := D) (ci := 3) (v := .int p0) (ty := .int) (C := R_Rc) (T := F_Rc) (N := 4) hx hb hts (fun w9 h9 => .tail _ (gu_Rc w9 h9)) t_Rc t_Rc_ok n_Rc hown hK hP hD hS 0 rfl rfl 3 (by decide) (hts _ (.tail _ gm_31)) (fun _ h9 => h9) rfl (by decide +kernel) rfl rfl (Nat.le_of_ble_eq_true rfl) d_Rc_restart_7 (fun H locs hP hD hS => ?_)
  have hP : va_P D classes [(a_t, .inr (3, [.ref a_t_pageBySlot, .ref a_t_startBySlot, .int p0, .int p0])), (a_t_pageBySlot, .inl ((cA 0), n_t_pageBySlot, .inl t_pageBySlot)), (a_t_startBySlot, .inl ((cA 0), n_t_startBySlot, .inl t_startBySlot))] H := hP
  have hD : va_D A [(a_t, .inr (3, [.ref a_t_pageBySlot, .ref a_t_startBySlot, .int p0, .int p0])), (a_t_pageBySlot, .inl ((cA 0), n_t_pageBySlot, .inl t_pageBySlot)), (a_t_startBySlot, .inl ((cA 0), n_t_startBySlot, .inl t_startBySlot))] := hD
  have ho9 := Option.some.inj hf
  subst ho9
  have hP9 := hP.sub (ws' := [(a_t, .inr (3, [.ref a_t_pageBySlot, .ref a_t_startBySlot, .int p0, .int p0])), (a_t_pageBySlot, .inl ((cA 0), n_t_pageBySlot, .inl t_pageBySlot)), (a_t_startBySlot, .inl ((cA 0), n_t_startBySlot, .inl t_startBySlot))]) [0, 1, 2] rfl
  have hD9 := hD.sub (ws' := [(a_t, .inr (3, [.ref a_t_pageBySlot, .ref a_t_startBySlot, .int p0, .int p0])), (a_t_pageBySlot, .inl ((cA 0), n_t_pageBySlot, .inl t_pageBySlot)), (a_t_startBySlot, .inl ((cA 0), n_t_startBySlot, .inl t_startBySlot))]) [0, 1, 2] (by decide) rfl
  exact W.vret hx hb hr (fun t ht hW => ⟨⟨(), rfl, trivial, by rw [ht]; exact hP9, va_K.moved hW.alike hK, hD9⟩, hS.F ht⟩) hS.2.2 d_Rc_restart_10
theorem d_Rc_count_0 : decode b_Rc_count 0 = .ok (.aload_n 0, 1) := by decide +kernel
theorem d_Rc_count_1 : decode b_Rc_count 1 = .ok (.getfield 20, 3) := by decide +kernel
theorem d_Rc_count_4 : decode b_Rc_count 4 = .ok (.aload_n 0, 1) := by decide +kernel
theorem d_Rc_count_5 : decode b_Rc_count 5 = .ok (.getfield 16, 3) := by decide +kernel
theorem d_Rc_count_8 : decode b_Rc_count 8 = .ok (.isub, 1) := by decide +kernel
theorem d_Rc_count_9 : decode b_Rc_count 9 = .ok (.ireturn, 1) := by decide +kernel
abbrev wd_Rc_count : List Cond := .code y_Rc_count b_Rc_count 1 (some .int) :: gw
def f_Rc_count (n_t_pageBySlot : Nat) (t_pageBySlot : Nat → Int32) (n_t_startBySlot : Nat) (t_startBySlot : Nat → Int32) (t_kept : Int32) (t_next : Int32) : Option (Int32) :=
  some (t_next - t_kept)
set_option maxHeartbeats 4000000 in
set_option maxRecDepth 100000 in
theorem c_Rc_count (l : Launch) (D : va_G) (cA : Nat → ClassId) (a_t a_t_pageBySlot a_t_startBySlot : Nat) (sz : Nat) (n_t_pageBySlot : Nat) (t_pageBySlot : Nat → Int32) (n_t_startBySlot : Nat) (t_startBySlot : Nat → Int32) (t_kept : Int32) (t_next : Int32) (o : Int32) (hf : f_Rc_count n_t_pageBySlot t_pageBySlot n_t_startBySlot t_startBySlot t_kept t_next = some o) : Met l y_Rc_count wd_Rc_count ({ frames := 0, cells := 0, slots := 0, locals := 0 }) (va_Pc [.ref a_t] (aP D cA [(a_t, .inr (3, [.ref a_t_pageBySlot, .ref a_t_startBySlot, .int t_kept, .int t_next])), (a_t_pageBySlot, .inl ((cA 0), n_t_pageBySlot, .inl t_pageBySlot)), (a_t_startBySlot, .inl ((cA 0), n_t_startBySlot, .inl t_startBySlot))] sz)) (va_Qi (fun r9 (_ : Unit) => r9 = o) (fun _ => aR D cA (va_A [(a_t, .inr (3, [.ref a_t_pageBySlot, .ref a_t_startBySlot, .int t_kept, .int t_next])), (a_t_pageBySlot, .inl ((cA 0), n_t_pageBySlot, .inl t_pageBySlot)), (a_t_startBySlot, .inl ((cA 0), n_t_startBySlot, .inl t_startBySlot))] sz) [(a_t, .inr (3, [.ref a_t_pageBySlot, .ref a_t_startBySlot, .int t_kept, .int t_next])), (a_t_pageBySlot, .inl ((cA 0), n_t_pageBySlot, .inl t_pageBySlot)), (a_t_startBySlot, .inl ((cA 0), n_t_startBySlot, .inl t_startBySlot))]) (va_A [(a_t, .inr (3, [.ref a_t_pageBySlot, .ref a_t_startBySlot, .int t_kept, .int t_next])), (a_t_pageBySlot, .inl ((cA 0), n_t_pageBySlot, .inl t_pageBySlot)), (a_t_startBySlot, .inl ((cA 0), n_t_startBySlot, .inl t_startBySlot))] sz)) 0 0 (va_A [(a_t, .inr (3, [.ref a_t_pageBySlot, .ref a_t_startBySlot, .int t_kept, .int t_next])), (a_t_pageBySlot, .inl ((cA 0), n_t_pageBySlot, .inl t_pageBySlot)), (a_t_startBySlot, .inl ((cA 0), n_t_startBySlot, .inl t_startBySlot))] sz) := by
  refine Met.ofW (cc := b_Rc_count) (maxL := 1) (ret := (some .int)) (by decide +kernel) rfl ?_
  intro p e s m args below meth c s₁ B hml hv
  obtain ⟨rfl, hsz, hP, hK, hD0, hE⟩ := hv
  have hx := B.exec
  have hb := B.bytes
  have hr := B.returns
  have hts := atoms_spec (ws := wd_Rc_count) B.pre
  have hown : s.vm.findClass R_Rc = some m.cls := findClass_of_methodNamed B.named
  have hlocks := B.notSynchronized
  subst hsz
  have hD := hD0.self (sz := s.heap.size)
  generalize hAe : va_A [(a_t, .inr (3, [.ref a_t_pageBySlot, .ref a_t_startBySlot, .int t_kept, .int t_next])), (a_t_pageBySlot, .inl ((cA 0), n_t_pageBySlot, .inl t_pageBySlot)), (a_t_startBySlot, .inl ((cA 0), n_t_startBySlot, .inl t_startBySlot))] s.heap.size = A at hD hE ⊢
  have hA : ∀ q : Nat, s.heap.size ≤ q → A q := fun q h => by rw [← hAe]; exact Or.inr h
  have hS : va_S A s.heap s.heap [] := va_S.rf
  have hl := lv_entry [.ref a_t] (n := 1) (Nat.le_of_ble_eq_true rfl)
  rw [lg_entry_eq]
  generalize (lg_sl [.ref a_t] ++ List.replicate (1 - (lg_sl [.ref a_t]).length) Slot.unset).toArray = ls at hl ⊢
  have hl : lv_has ls 1 [(0, .ref a_t)] := hl
  unfold f_Rc_count at hf
  refine lv_aload_n hx hb d_Rc_count_0 rfl (lv_at hl 0 rfl) ?_
  refine va_get (D := D) (ci := 3) (v := .int t_next) (C := R_Rc) (T := F_Rc) (N := 4) hx hb hts (fun w9 h9 => .tail _ (gu_Rc w9 h9)) hown hK hP 0 rfl rfl 3 (by decide) (hts _ (.tail _ gm_31)) (fun _ h9 => h9) rfl d_Rc_count_1 ?_
  refine lv_aload_n hx hb d_Rc_count_4 rfl (lv_at hl 0 rfl) ?_
  refine va_get (D := D) (ci := 3) (v := .int t_kept) (C := R_Rc) (T := F_Rc) (N := 4) hx hb hts (fun w9 h9 => .tail _ (gu_Rc w9 h9)) hown hK hP 0 rfl rfl 2 (by decide) (hts _ (.tail _ gm_30)) (fun _ h9 => h9) rfl d_Rc_count_5 ?_
  refine lv_isub hx hb d_Rc_count_8 ?_
  have ho9 := Option.some.inj hf
  subst ho9
  have hP9 := hP.sub (ws' := [(a_t, .inr (3, [.ref a_t_pageBySlot, .ref a_t_startBySlot, .int t_kept, .int t_next])), (a_t_pageBySlot, .inl ((cA 0), n_t_pageBySlot, .inl t_pageBySlot)), (a_t_startBySlot, .inl ((cA 0), n_t_startBySlot, .inl t_startBySlot))]) [0, 1, 2] rfl
  have hD9 := hD.sub (ws' := [(a_t, .inr (3, [.ref a_t_pageBySlot, .ref a_t_startBySlot, .int t_kept, .int t_next])), (a_t_pageBySlot, .inl ((cA 0), n_t_pageBySlot, .inl t_pageBySlot)), (a_t_startBySlot, .inl ((cA 0), n_t_startBySlot, .inl t_startBySlot))]) [0, 1, 2] (by decide) rfl
  exact W.iret (v := (t_next - t_kept)) hx hb hr (fun t ht hW => ⟨⟨_, (), rfl, rfl, by rw [ht]; exact hP9, va_K.moved hW.alike hK, hD9⟩, hS.F ht⟩) hS.2.2 d_Rc_count_9
theorem d_Rc_slotOf_0 : decode b_Rc_slotOf 0 = .ok (.iload_n 0, 1) := by decide +kernel
theorem d_Rc_slotOf_1 : decode b_Rc_slotOf 1 = .ok (.sipush 750, 3) := by decide +kernel
theorem d_Rc_slotOf_4 : decode b_Rc_slotOf 4 = .ok (.invokestatic 27, 3) := by decide +kernel
theorem d_Rc_slotOf_7 : decode b_Rc_slotOf 7 = .ok (.ireturn, 1) := by decide +kernel
abbrev wd_Rc_slotOf : List Cond := .code y_Rc_slotOf b_Rc_slotOf 1 (some .int) :: gw
def f_Rc_slotOf (p0 : Int32) : Option (Int32) :=
  (f_Ma_floorMod p0 (750 : Int32)).bind fun o_1 =>
  some o_1
set_option maxHeartbeats 4000000 in
set_option maxRecDepth 100000 in
theorem c_Rc_slotOf (l : Launch) (D : va_G) (cA : Nat → ClassId) (sz : Nat) (p0 : Int32) (o : Int32) (hf : f_Rc_slotOf p0 = some o) : Met l y_Rc_slotOf wd_Rc_slotOf ({ frames := 1, cells := 0, slots := 0, locals := 22 }) (va_Pc [.int p0] (aP D cA [] sz)) (va_Qi (fun r9 (_ : Unit) => r9 = o) (fun _ => aR D cA (va_A [] sz) []) (va_A [] sz)) 0 0 (va_A [] sz) := by
  refine Met.ofW (cc := b_Rc_slotOf) (maxL := 1) (ret := (some .int)) (by decide +kernel) rfl ?_
  intro p e s m args below meth c s₁ B hml hv
  obtain ⟨rfl, hsz, hP, hK, hD0, hE⟩ := hv
  have hx := B.exec
  have hb := B.bytes
  have hr := B.returns
  have hts := atoms_spec (ws := wd_Rc_slotOf) B.pre
  have hown : s.vm.findClass R_Rc = some m.cls := findClass_of_methodNamed B.named
  have hlocks := B.notSynchronized
  subst hsz
  have hD := hD0.self (sz := s.heap.size)
  generalize hAe : va_A [] s.heap.size = A at hD hE ⊢
  have hA : ∀ q : Nat, s.heap.size ≤ q → A q := fun q h => by rw [← hAe]; exact Or.inr h
  have hS : va_S A s.heap s.heap [] := va_S.rf
  have hl := lv_entry [.int p0] (n := 1) (Nat.le_of_ble_eq_true rfl)
  rw [lg_entry_eq]
  generalize (lg_sl [.int p0] ++ List.replicate (1 - (lg_sl [.int p0]).length) Slot.unset).toArray = ls at hl ⊢
  have hl : lv_has ls 1 [(0, .int p0)] := hl
  unfold f_Rc_slotOf at hf
  refine lv_iload_n hx hb d_Rc_slotOf_0 rfl (lv_at hl 0 rfl) ?_
  refine lv_sipush (v := 750) hx hb d_Rc_slotOf_1 (by decide) ?_
  obtain ⟨o_1, ho_1, hf⟩ := hk_bd hf
  refine q_i (wr := []) (va_runS (As := [.int p0, .int (750 : Int32)]) (rest := []) ⟨hx, hb, hml, hown, hts⟩ (c_Ma_floorMod l D cA _ p0 (750 : Int32) o_1 ho_1) (va_cwS 2 hts (gd_S gm_33 gm_34 gm_35 gm_32) rfl rfl rfl (by decide +kernel) ⟨Nat.le_of_ble_eq_true rfl, Nat.le_of_ble_eq_true rfl⟩) (q_pS hK hP hD hS hA hE [] (by decide) rfl) rfl rfl hl.1 rfl (lv_room (Nat.le_of_ble_eq_true rfl)) d_Rc_slotOf_4 ⟨Nat.zero_le _, Nat.zero_le _⟩) hP hD hS hA [] [] rfl rfl (by decide) (by decide) (fun H locs hP hD hS => ?_)
  have hP : va_P D classes [] H := hP
  have hD : va_D A [] := hD
  have ho9 := Option.some.inj hf
  subst ho9
  have hP9 := hP.sub (ws' := []) [] rfl
  have hD9 := hD.sub (ws' := []) [] (by decide) rfl
  exact W.iret (v := o_1) hx hb hr (fun t ht hW => ⟨⟨_, (), rfl, rfl, by rw [ht]; exact hP9, va_K.moved hW.alike hK, hD9⟩, hS.F ht⟩) hS.2.2 d_Rc_slotOf_7
theorem d_Rc_add_0 : decode b_Rc_add 0 = .ok (.aload_n 0, 1) := by decide +kernel
theorem d_Rc_add_1 : decode b_Rc_add 1 = .ok (.getfield 20, 3) := by decide +kernel
theorem d_Rc_add_4 : decode b_Rc_add 4 = .ok (.invokestatic 23, 3) := by decide +kernel
theorem d_Rc_add_7 : decode b_Rc_add 7 = .ok (.istore_n 3, 1) := by decide +kernel
theorem d_Rc_add_8 : decode b_Rc_add 8 = .ok (.aload_n 0, 1) := by decide +kernel
theorem d_Rc_add_9 : decode b_Rc_add 9 = .ok (.getfield 9, 3) := by decide +kernel
theorem d_Rc_add_12 : decode b_Rc_add 12 = .ok (.iload_n 3, 1) := by decide +kernel
theorem d_Rc_add_13 : decode b_Rc_add 13 = .ok (.iload_n 1, 1) := by decide +kernel
theorem d_Rc_add_14 : decode b_Rc_add 14 = .ok (.iastore, 1) := by decide +kernel
theorem d_Rc_add_15 : decode b_Rc_add 15 = .ok (.aload_n 0, 1) := by decide +kernel
theorem d_Rc_add_16 : decode b_Rc_add 16 = .ok (.getfield 13, 3) := by decide +kernel
theorem d_Rc_add_19 : decode b_Rc_add 19 = .ok (.iload_n 3, 1) := by decide +kernel
theorem d_Rc_add_20 : decode b_Rc_add 20 = .ok (.iload_n 2, 1) := by decide +kernel
theorem d_Rc_add_21 : decode b_Rc_add 21 = .ok (.iastore, 1) := by decide +kernel
theorem d_Rc_add_22 : decode b_Rc_add 22 = .ok (.aload_n 0, 1) := by decide +kernel
theorem d_Rc_add_23 : decode b_Rc_add 23 = .ok (.dup, 1) := by decide +kernel
theorem d_Rc_add_24 : decode b_Rc_add 24 = .ok (.getfield 20, 3) := by decide +kernel
theorem d_Rc_add_27 : decode b_Rc_add 27 = .ok (.iconst 1, 1) := by decide +kernel
theorem d_Rc_add_28 : decode b_Rc_add 28 = .ok (.iadd, 1) := by decide +kernel
theorem d_Rc_add_29 : decode b_Rc_add 29 = .ok (.putfield 20, 3) := by decide +kernel
theorem d_Rc_add_32 : decode b_Rc_add 32 = .ok (.aload_n 0, 1) := by decide +kernel
theorem d_Rc_add_33 : decode b_Rc_add 33 = .ok (.getfield 20, 3) := by decide +kernel
theorem d_Rc_add_36 : decode b_Rc_add 36 = .ok (.iconst 1, 1) := by decide +kernel
theorem d_Rc_add_37 : decode b_Rc_add 37 = .ok (.isub, 1) := by decide +kernel
theorem d_Rc_add_38 : decode b_Rc_add 38 = .ok (.ireturn, 1) := by decide +kernel
abbrev wd_Rc_add : List Cond := .code y_Rc_add b_Rc_add 4 (some .int) :: gw
def f_Rc_add (n_t_pageBySlot : Nat) (t_pageBySlot : Nat → Int32) (n_t_startBySlot : Nat) (t_startBySlot : Nat → Int32) (t_kept : Int32) (t_next : Int32) (p0 : Int32) (p1 : Int32) : Option (Int32 × (Nat → Int32) × (Nat → Int32) × Int32) :=
  (f_Rc_slotOf t_next).bind fun o_1 =>
  if o_1 < 0 ∨ n_t_pageBySlot ≤ o_1.toNatClampNeg then none else
  if o_1 < 0 ∨ n_t_startBySlot ≤ o_1.toNatClampNeg then none else
  some (((t_next + (1 : Int32)) - (1 : Int32)), (upd t_pageBySlot o_1.toNatClampNeg p0), (upd t_startBySlot o_1.toNatClampNeg p1), (t_next + (1 : Int32)))
set_option maxHeartbeats 4000000 in
set_option maxRecDepth 100000 in
theorem c_Rc_add (l : Launch) (D : va_G) (cA : Nat → ClassId) (a_t a_t_pageBySlot a_t_startBySlot : Nat) (sz : Nat) (n_t_pageBySlot : Nat) (t_pageBySlot : Nat → Int32) (n_t_startBySlot : Nat) (t_startBySlot : Nat → Int32) (t_kept : Int32) (t_next : Int32) (p0 : Int32) (p1 : Int32) (o : Int32 × (Nat → Int32) × (Nat → Int32) × Int32) (hf : f_Rc_add n_t_pageBySlot t_pageBySlot n_t_startBySlot t_startBySlot t_kept t_next p0 p1 = some o) : Met l y_Rc_add wd_Rc_add ({ frames := 2, cells := 0, slots := 0, locals := 42 }) (va_Pc [.ref a_t, .int p0, .int p1] (aP D cA [(a_t, .inr (3, [.ref a_t_pageBySlot, .ref a_t_startBySlot, .int t_kept, .int t_next])), (a_t_pageBySlot, .inl ((cA 0), n_t_pageBySlot, .inl t_pageBySlot)), (a_t_startBySlot, .inl ((cA 0), n_t_startBySlot, .inl t_startBySlot))] sz)) (va_Qi (fun r9 (_ : Unit) => r9 = o.1) (fun _ => aR D cA (va_A [(a_t, .inr (3, [.ref a_t_pageBySlot, .ref a_t_startBySlot, .int t_kept, .int t_next])), (a_t_pageBySlot, .inl ((cA 0), n_t_pageBySlot, .inl t_pageBySlot)), (a_t_startBySlot, .inl ((cA 0), n_t_startBySlot, .inl t_startBySlot))] sz) [(a_t, .inr (3, [.ref a_t_pageBySlot, .ref a_t_startBySlot, .int t_kept, .int o.2.2.2])), (a_t_pageBySlot, .inl ((cA 0), n_t_pageBySlot, .inl o.2.1)), (a_t_startBySlot, .inl ((cA 0), n_t_startBySlot, .inl o.2.2.1))]) (va_A [(a_t, .inr (3, [.ref a_t_pageBySlot, .ref a_t_startBySlot, .int t_kept, .int t_next])), (a_t_pageBySlot, .inl ((cA 0), n_t_pageBySlot, .inl t_pageBySlot)), (a_t_startBySlot, .inl ((cA 0), n_t_startBySlot, .inl t_startBySlot))] sz)) 0 0 (va_A [(a_t, .inr (3, [.ref a_t_pageBySlot, .ref a_t_startBySlot, .int t_kept, .int t_next])), (a_t_pageBySlot, .inl ((cA 0), n_t_pageBySlot, .inl t_pageBySlot)), (a_t_startBySlot, .inl ((cA 0), n_t_startBySlot, .inl t_startBySlot))] sz) := by
  refine Met.ofW (cc := b_Rc_add) (maxL := 4) (ret := (some .int)) (by decide +kernel) rfl ?_
  intro p e s m args below meth c s₁ B hml hv
  obtain ⟨rfl, hsz, hP, hK, hD0, hE⟩ := hv
  have hx := B.exec
  have hb := B.bytes
  have hr := B.returns
  have hts := atoms_spec (ws := wd_Rc_add) B.pre
  have hown : s.vm.findClass R_Rc = some m.cls := findClass_of_methodNamed B.named
  have hlocks := B.notSynchronized
  subst hsz
  have hD := hD0.self (sz := s.heap.size)
  generalize hAe : va_A [(a_t, .inr (3, [.ref a_t_pageBySlot, .ref a_t_startBySlot, .int t_kept, .int t_next])), (a_t_pageBySlot, .inl ((cA 0), n_t_pageBySlot, .inl t_pageBySlot)), (a_t_startBySlot, .inl ((cA 0), n_t_startBySlot, .inl t_startBySlot))] s.heap.size = A at hD hE ⊢
  have hA : ∀ q : Nat, s.heap.size ≤ q → A q := fun q h => by rw [← hAe]; exact Or.inr h
  have hS : va_S A s.heap s.heap [] := va_S.rf
  have hl := lv_entry [.ref a_t, .int p0, .int p1] (n := 4) (Nat.le_of_ble_eq_true rfl)
  rw [lg_entry_eq]
  generalize (lg_sl [.ref a_t, .int p0, .int p1] ++ List.replicate (4 - (lg_sl [.ref a_t, .int p0, .int p1]).length) Slot.unset).toArray = ls at hl ⊢
  have hl : lv_has ls 4 [(0, .ref a_t), (1, .int p0), (2, .int p1)] := hl
  unfold f_Rc_add at hf
  refine lv_aload_n hx hb d_Rc_add_0 rfl (lv_at hl 0 rfl) ?_
  refine va_get (D := D) (ci := 3) (v := .int t_next) (C := R_Rc) (T := F_Rc) (N := 4) hx hb hts (fun w9 h9 => .tail _ (gu_Rc w9 h9)) hown hK hP 0 rfl rfl 3 (by decide) (hts _ (.tail _ gm_31)) (fun _ h9 => h9) rfl d_Rc_add_1 ?_
  obtain ⟨o_1, ho_1, hf⟩ := hk_bd hf
  refine q_i (wr := [(a_t, .inr (3, [.ref a_t_pageBySlot, .ref a_t_startBySlot, .int t_kept, .int t_next])), (a_t_pageBySlot, .inl ((cA 0), n_t_pageBySlot, .inl t_pageBySlot)), (a_t_startBySlot, .inl ((cA 0), n_t_startBySlot, .inl t_startBySlot))]) (va_runS (As := [.int t_next]) (rest := []) ⟨hx, hb, hml, hown, hts⟩ (c_Rc_slotOf l D cA _ t_next o_1 ho_1) (va_cwS 1 hts (gd_S gm_37 gm_38 gm_39 gm_36) rfl rfl rfl (by decide +kernel) ⟨Nat.le_of_ble_eq_true rfl, Nat.le_of_ble_eq_true rfl⟩) (q_pS hK hP hD hS hA hE [] (by decide) rfl) rfl rfl hl.1 rfl (lv_room (Nat.le_of_ble_eq_true rfl)) d_Rc_add_4 ⟨Nat.zero_le _, Nat.zero_le _⟩) hP hD hS hA [] [0, 1, 2] rfl rfl (by decide) (by decide) (fun H locs hP hD hS => ?_)
  have hP : va_P D classes [(a_t, .inr (3, [.ref a_t_pageBySlot, .ref a_t_startBySlot, .int t_kept, .int t_next])), (a_t_pageBySlot, .inl ((cA 0), n_t_pageBySlot, .inl t_pageBySlot)), (a_t_startBySlot, .inl ((cA 0), n_t_startBySlot, .inl t_startBySlot))] H := hP
  have hD : va_D A [(a_t, .inr (3, [.ref a_t_pageBySlot, .ref a_t_startBySlot, .int t_kept, .int t_next])), (a_t_pageBySlot, .inl ((cA 0), n_t_pageBySlot, .inl t_pageBySlot)), (a_t_startBySlot, .inl ((cA 0), n_t_startBySlot, .inl t_startBySlot))] := hD
  refine lv_istore_n (lv' := [(3, .int o_1), (0, .ref a_t), (1, .int p0), (2, .int p1)]) hx hb d_Rc_add_7 rfl hl (by decide) rfl (fun ls hl => ?_)
  refine lv_aload_n hx hb d_Rc_add_8 rfl (lv_at hl 1 rfl) ?_
  refine va_get (D := D) (ci := 3) (v := .ref a_t_pageBySlot) (C := R_Rc) (T := F_Rc) (N := 4) hx hb hts (fun w9 h9 => .tail _ (gu_Rc w9 h9)) hown hK hP 0 rfl rfl 0 (by decide) (hts _ (.tail _ gm_40)) (fun _ h9 => h9) rfl d_Rc_add_9 ?_
  refine lv_iload_n hx hb d_Rc_add_12 rfl (lv_at hl 0 rfl) ?_
  refine lv_iload_n hx hb d_Rc_add_13 rfl (lv_at hl 2 rfl) ?_
  obtain ⟨ck_2, hf⟩ := hk_if hf
  refine va_iast hx hb hK hP hD hS 1 0 rfl rfl ck_2 d_Rc_add_14 (fun H locs hP hD hS => ?_)
  have hP : va_P D classes [(a_t, .inr (3, [.ref a_t_pageBySlot, .ref a_t_startBySlot, .int t_kept, .int t_next])), (a_t_pageBySlot, .inl ((cA 0), n_t_pageBySlot, .inl (upd t_pageBySlot o_1.toNatClampNeg p0))), (a_t_startBySlot, .inl ((cA 0), n_t_startBySlot, .inl t_startBySlot))] H := hP
  have hD : va_D A [(a_t, .inr (3, [.ref a_t_pageBySlot, .ref a_t_startBySlot, .int t_kept, .int t_next])), (a_t_pageBySlot, .inl ((cA 0), n_t_pageBySlot, .inl (upd t_pageBySlot o_1.toNatClampNeg p0))), (a_t_startBySlot, .inl ((cA 0), n_t_startBySlot, .inl t_startBySlot))] := hD
  refine lv_aload_n hx hb d_Rc_add_15 rfl (lv_at hl 1 rfl) ?_
  refine va_get (D := D) (ci := 3) (v := .ref a_t_startBySlot) (C := R_Rc) (T := F_Rc) (N := 4) hx hb hts (fun w9 h9 => .tail _ (gu_Rc w9 h9)) hown hK hP 0 rfl rfl 1 (by decide) (hts _ (.tail _ gm_41)) (fun _ h9 => h9) rfl d_Rc_add_16 ?_
  refine lv_iload_n hx hb d_Rc_add_19 rfl (lv_at hl 0 rfl) ?_
  refine lv_iload_n hx hb d_Rc_add_20 rfl (lv_at hl 3 rfl) ?_
  obtain ⟨ck_3, hf⟩ := hk_if hf
  refine va_iast hx hb hK hP hD hS 2 0 rfl rfl ck_3 d_Rc_add_21 (fun H locs hP hD hS => ?_)
  have hP : va_P D classes [(a_t, .inr (3, [.ref a_t_pageBySlot, .ref a_t_startBySlot, .int t_kept, .int t_next])), (a_t_pageBySlot, .inl ((cA 0), n_t_pageBySlot, .inl (upd t_pageBySlot o_1.toNatClampNeg p0))), (a_t_startBySlot, .inl ((cA 0), n_t_startBySlot, .inl (upd t_startBySlot o_1.toNatClampNeg p1)))] H := hP
  have hD : va_D A [(a_t, .inr (3, [.ref a_t_pageBySlot, .ref a_t_startBySlot, .int t_kept, .int t_next])), (a_t_pageBySlot, .inl ((cA 0), n_t_pageBySlot, .inl (upd t_pageBySlot o_1.toNatClampNeg p0))), (a_t_startBySlot, .inl ((cA 0), n_t_startBySlot, .inl (upd t_startBySlot o_1.toNatClampNeg p1)))] := hD
  refine lv_aload_n hx hb d_Rc_add_22 rfl (lv_at hl 1 rfl) ?_
  refine lv_dup hx hb d_Rc_add_23 rfl ?_
  refine va_get (D := D) (ci := 3) (v := .int t_next) (C := R_Rc) (T := F_Rc) (N := 4) hx hb hts (fun w9 h9 => .tail _ (gu_Rc w9 h9)) hown hK hP 0 rfl rfl 3 (by decide) (hts _ (.tail _ gm_31)) (fun _ h9 => h9) rfl d_Rc_add_24 ?_
  refine lv_iconst (v := 1) hx hb d_Rc_add_27 (by decide) ?_
  refine lv_iadd hx hb d_Rc_add_28 ?_
  refine va_put (D := D) (ci := 3) (v := .int (t_next + (1 : Int32))) (ty := .int) (C := R_Rc) (T := F_Rc) (N := 4) hx hb hts (fun w9 h9 => .tail _ (gu_Rc w9 h9)) t_Rc t_Rc_ok n_Rc hown hK hP hD hS 0 rfl rfl 3 (by decide) (hts _ (.tail _ gm_31)) (fun _ h9 => h9) rfl (by decide +kernel) rfl rfl (Nat.le_of_ble_eq_true rfl) d_Rc_add_29 (fun H locs hP hD hS => ?_)
  have hP : va_P D classes [(a_t, .inr (3, [.ref a_t_pageBySlot, .ref a_t_startBySlot, .int t_kept, .int (t_next + (1 : Int32))])), (a_t_pageBySlot, .inl ((cA 0), n_t_pageBySlot, .inl (upd t_pageBySlot o_1.toNatClampNeg p0))), (a_t_startBySlot, .inl ((cA 0), n_t_startBySlot, .inl (upd t_startBySlot o_1.toNatClampNeg p1)))] H := hP
  have hD : va_D A [(a_t, .inr (3, [.ref a_t_pageBySlot, .ref a_t_startBySlot, .int t_kept, .int (t_next + (1 : Int32))])), (a_t_pageBySlot, .inl ((cA 0), n_t_pageBySlot, .inl (upd t_pageBySlot o_1.toNatClampNeg p0))), (a_t_startBySlot, .inl ((cA 0), n_t_startBySlot, .inl (upd t_startBySlot o_1.toNatClampNeg p1)))] := hD
  refine lv_aload_n hx hb d_Rc_add_32 rfl (lv_at hl 1 rfl) ?_
  refine va_get (D := D) (ci := 3) (v := .int (t_next + (1 : Int32))) (C := R_Rc) (T := F_Rc) (N := 4) hx hb hts (fun w9 h9 => .tail _ (gu_Rc w9 h9)) hown hK hP 0 rfl rfl 3 (by decide) (hts _ (.tail _ gm_31)) (fun _ h9 => h9) rfl d_Rc_add_33 ?_
  refine lv_iconst (v := 1) hx hb d_Rc_add_36 (by decide) ?_
  refine lv_isub hx hb d_Rc_add_37 ?_
  have ho9 := Option.some.inj hf
  subst ho9
  have hP9 := hP.sub (ws' := [(a_t, .inr (3, [.ref a_t_pageBySlot, .ref a_t_startBySlot, .int t_kept, .int (t_next + (1 : Int32))])), (a_t_pageBySlot, .inl ((cA 0), n_t_pageBySlot, .inl (upd t_pageBySlot o_1.toNatClampNeg p0))), (a_t_startBySlot, .inl ((cA 0), n_t_startBySlot, .inl (upd t_startBySlot o_1.toNatClampNeg p1)))]) [0, 1, 2] rfl
  have hD9 := hD.sub (ws' := [(a_t, .inr (3, [.ref a_t_pageBySlot, .ref a_t_startBySlot, .int t_kept, .int (t_next + (1 : Int32))])), (a_t_pageBySlot, .inl ((cA 0), n_t_pageBySlot, .inl (upd t_pageBySlot o_1.toNatClampNeg p0))), (a_t_startBySlot, .inl ((cA 0), n_t_startBySlot, .inl (upd t_startBySlot o_1.toNatClampNeg p1)))]) [0, 1, 2] (by decide) rfl
  exact W.iret (v := ((t_next + (1 : Int32)) - (1 : Int32))) hx hb hr (fun t ht hW => ⟨⟨_, (), rfl, rfl, by rw [ht]; exact hP9, va_K.moved hW.alike hK, hD9⟩, hS.F ht⟩) hS.2.2 d_Rc_add_38
theorem d_Rc_pageOf_0 : decode b_Rc_pageOf 0 = .ok (.aload_n 0, 1) := by decide +kernel
theorem d_Rc_pageOf_1 : decode b_Rc_pageOf 1 = .ok (.getfield 9, 3) := by decide +kernel
theorem d_Rc_pageOf_4 : decode b_Rc_pageOf 4 = .ok (.iload_n 1, 1) := by decide +kernel
theorem d_Rc_pageOf_5 : decode b_Rc_pageOf 5 = .ok (.invokestatic 23, 3) := by decide +kernel
theorem d_Rc_pageOf_8 : decode b_Rc_pageOf 8 = .ok (.iaload, 1) := by decide +kernel
theorem d_Rc_pageOf_9 : decode b_Rc_pageOf 9 = .ok (.ireturn, 1) := by decide +kernel
abbrev wd_Rc_pageOf : List Cond := .code y_Rc_pageOf b_Rc_pageOf 2 (some .int) :: gw
def f_Rc_pageOf (n_t_pageBySlot : Nat) (t_pageBySlot : Nat → Int32) (n_t_startBySlot : Nat) (t_startBySlot : Nat → Int32) (t_kept : Int32) (t_next : Int32) (p0 : Int32) : Option (Int32) :=
  (f_Rc_slotOf p0).bind fun o_1 =>
  if o_1 < 0 ∨ n_t_pageBySlot ≤ o_1.toNatClampNeg then none else
  some (t_pageBySlot o_1.toNatClampNeg)
set_option maxHeartbeats 4000000 in
set_option maxRecDepth 100000 in
theorem c_Rc_pageOf (l : Launch) (D : va_G) (cA : Nat → ClassId) (a_t a_t_pageBySlot a_t_startBySlot : Nat) (sz : Nat) (n_t_pageBySlot : Nat) (t_pageBySlot : Nat → Int32) (n_t_startBySlot : Nat) (t_startBySlot : Nat → Int32) (t_kept : Int32) (t_next : Int32) (p0 : Int32) (o : Int32) (hf : f_Rc_pageOf n_t_pageBySlot t_pageBySlot n_t_startBySlot t_startBySlot t_kept t_next p0 = some o) : Met l y_Rc_pageOf wd_Rc_pageOf ({ frames := 2, cells := 0, slots := 0, locals := 42 }) (va_Pc [.ref a_t, .int p0] (aP D cA [(a_t, .inr (3, [.ref a_t_pageBySlot, .ref a_t_startBySlot, .int t_kept, .int t_next])), (a_t_pageBySlot, .inl ((cA 0), n_t_pageBySlot, .inl t_pageBySlot)), (a_t_startBySlot, .inl ((cA 0), n_t_startBySlot, .inl t_startBySlot))] sz)) (va_Qi (fun r9 (_ : Unit) => r9 = o) (fun _ => aR D cA (va_A [(a_t, .inr (3, [.ref a_t_pageBySlot, .ref a_t_startBySlot, .int t_kept, .int t_next])), (a_t_pageBySlot, .inl ((cA 0), n_t_pageBySlot, .inl t_pageBySlot)), (a_t_startBySlot, .inl ((cA 0), n_t_startBySlot, .inl t_startBySlot))] sz) [(a_t, .inr (3, [.ref a_t_pageBySlot, .ref a_t_startBySlot, .int t_kept, .int t_next])), (a_t_pageBySlot, .inl ((cA 0), n_t_pageBySlot, .inl t_pageBySlot)), (a_t_startBySlot, .inl ((cA 0), n_t_startBySlot, .inl t_startBySlot))]) (va_A [(a_t, .inr (3, [.ref a_t_pageBySlot, .ref a_t_startBySlot, .int t_kept, .int t_next])), (a_t_pageBySlot, .inl ((cA 0), n_t_pageBySlot, .inl t_pageBySlot)), (a_t_startBySlot, .inl ((cA 0), n_t_startBySlot, .inl t_startBySlot))] sz)) 0 0 (va_A [(a_t, .inr (3, [.ref a_t_pageBySlot, .ref a_t_startBySlot, .int t_kept, .int t_next])), (a_t_pageBySlot, .inl ((cA 0), n_t_pageBySlot, .inl t_pageBySlot)), (a_t_startBySlot, .inl ((cA 0), n_t_startBySlot, .inl t_startBySlot))] sz) := by
  refine Met.ofW (cc := b_Rc_pageOf) (maxL := 2) (ret := (some .int)) (by decide +kernel) rfl ?_
  intro p e s m args below meth c s₁ B hml hv
  obtain ⟨rfl, hsz, hP, hK, hD0, hE⟩ := hv
  have hx := B.exec
  have hb := B.bytes
  have hr := B.returns
  have hts := atoms_spec (ws := wd_Rc_pageOf) B.pre
  have hown : s.vm.findClass R_Rc = some m.cls := findClass_of_methodNamed B.named
  have hlocks := B.notSynchronized
  subst hsz
  have hD := hD0.self (sz := s.heap.size)
  generalize hAe : va_A [(a_t, .inr (3, [.ref a_t_pageBySlot, .ref a_t_startBySlot, .int t_kept, .int t_next])), (a_t_pageBySlot, .inl ((cA 0), n_t_pageBySlot, .inl t_pageBySlot)), (a_t_startBySlot, .inl ((cA 0), n_t_startBySlot, .inl t_startBySlot))] s.heap.size = A at hD hE ⊢
  have hA : ∀ q : Nat, s.heap.size ≤ q → A q := fun q h => by rw [← hAe]; exact Or.inr h
  have hS : va_S A s.heap s.heap [] := va_S.rf
  have hl := lv_entry [.ref a_t, .int p0] (n := 2) (Nat.le_of_ble_eq_true rfl)
  rw [lg_entry_eq]
  generalize (lg_sl [.ref a_t, .int p0] ++ List.replicate (2 - (lg_sl [.ref a_t, .int p0]).length) Slot.unset).toArray = ls at hl ⊢
  have hl : lv_has ls 2 [(0, .ref a_t), (1, .int p0)] := hl
  unfold f_Rc_pageOf at hf
  refine lv_aload_n hx hb d_Rc_pageOf_0 rfl (lv_at hl 0 rfl) ?_
  refine va_get (D := D) (ci := 3) (v := .ref a_t_pageBySlot) (C := R_Rc) (T := F_Rc) (N := 4) hx hb hts (fun w9 h9 => .tail _ (gu_Rc w9 h9)) hown hK hP 0 rfl rfl 0 (by decide) (hts _ (.tail _ gm_40)) (fun _ h9 => h9) rfl d_Rc_pageOf_1 ?_
  refine lv_iload_n hx hb d_Rc_pageOf_4 rfl (lv_at hl 1 rfl) ?_
  obtain ⟨o_1, ho_1, hf⟩ := hk_bd hf
  refine q_i (wr := [(a_t, .inr (3, [.ref a_t_pageBySlot, .ref a_t_startBySlot, .int t_kept, .int t_next])), (a_t_pageBySlot, .inl ((cA 0), n_t_pageBySlot, .inl t_pageBySlot)), (a_t_startBySlot, .inl ((cA 0), n_t_startBySlot, .inl t_startBySlot))]) (va_runS (As := [.int p0]) (rest := [.ref a_t_pageBySlot]) ⟨hx, hb, hml, hown, hts⟩ (c_Rc_slotOf l D cA _ p0 o_1 ho_1) (va_cwS 1 hts (gd_S gm_37 gm_38 gm_39 gm_36) rfl rfl rfl (by decide +kernel) ⟨Nat.le_of_ble_eq_true rfl, Nat.le_of_ble_eq_true rfl⟩) (q_pS hK hP hD hS hA hE [] (by decide) rfl) rfl rfl hl.1 rfl (lv_room (Nat.le_of_ble_eq_true rfl)) d_Rc_pageOf_5 ⟨Nat.zero_le _, Nat.zero_le _⟩) hP hD hS hA [] [0, 1, 2] rfl rfl (by decide) (by decide) (fun H locs hP hD hS => ?_)
  have hP : va_P D classes [(a_t, .inr (3, [.ref a_t_pageBySlot, .ref a_t_startBySlot, .int t_kept, .int t_next])), (a_t_pageBySlot, .inl ((cA 0), n_t_pageBySlot, .inl t_pageBySlot)), (a_t_startBySlot, .inl ((cA 0), n_t_startBySlot, .inl t_startBySlot))] H := hP
  have hD : va_D A [(a_t, .inr (3, [.ref a_t_pageBySlot, .ref a_t_startBySlot, .int t_kept, .int t_next])), (a_t_pageBySlot, .inl ((cA 0), n_t_pageBySlot, .inl t_pageBySlot)), (a_t_startBySlot, .inl ((cA 0), n_t_startBySlot, .inl t_startBySlot))] := hD
  obtain ⟨ck_2, hf⟩ := hk_if hf
  refine va_iald hx hb hK hP 1 0 rfl rfl ck_2 d_Rc_pageOf_8 ?_
  have ho9 := Option.some.inj hf
  subst ho9
  have hP9 := hP.sub (ws' := [(a_t, .inr (3, [.ref a_t_pageBySlot, .ref a_t_startBySlot, .int t_kept, .int t_next])), (a_t_pageBySlot, .inl ((cA 0), n_t_pageBySlot, .inl t_pageBySlot)), (a_t_startBySlot, .inl ((cA 0), n_t_startBySlot, .inl t_startBySlot))]) [0, 1, 2] rfl
  have hD9 := hD.sub (ws' := [(a_t, .inr (3, [.ref a_t_pageBySlot, .ref a_t_startBySlot, .int t_kept, .int t_next])), (a_t_pageBySlot, .inl ((cA 0), n_t_pageBySlot, .inl t_pageBySlot)), (a_t_startBySlot, .inl ((cA 0), n_t_startBySlot, .inl t_startBySlot))]) [0, 1, 2] (by decide) rfl
  exact W.iret (v := (t_pageBySlot o_1.toNatClampNeg)) hx hb hr (fun t ht hW => ⟨⟨_, (), rfl, rfl, by rw [ht]; exact hP9, va_K.moved hW.alike hK, hD9⟩, hS.F ht⟩) hS.2.2 d_Rc_pageOf_9
theorem d_Rc_startOf_0 : decode b_Rc_startOf 0 = .ok (.aload_n 0, 1) := by decide +kernel
theorem d_Rc_startOf_1 : decode b_Rc_startOf 1 = .ok (.getfield 13, 3) := by decide +kernel
theorem d_Rc_startOf_4 : decode b_Rc_startOf 4 = .ok (.iload_n 1, 1) := by decide +kernel
theorem d_Rc_startOf_5 : decode b_Rc_startOf 5 = .ok (.invokestatic 23, 3) := by decide +kernel
theorem d_Rc_startOf_8 : decode b_Rc_startOf 8 = .ok (.iaload, 1) := by decide +kernel
theorem d_Rc_startOf_9 : decode b_Rc_startOf 9 = .ok (.ireturn, 1) := by decide +kernel
abbrev wd_Rc_startOf : List Cond := .code y_Rc_startOf b_Rc_startOf 2 (some .int) :: gw
def f_Rc_startOf (n_t_pageBySlot : Nat) (t_pageBySlot : Nat → Int32) (n_t_startBySlot : Nat) (t_startBySlot : Nat → Int32) (t_kept : Int32) (t_next : Int32) (p0 : Int32) : Option (Int32) :=
  (f_Rc_slotOf p0).bind fun o_1 =>
  if o_1 < 0 ∨ n_t_startBySlot ≤ o_1.toNatClampNeg then none else
  some (t_startBySlot o_1.toNatClampNeg)
set_option maxHeartbeats 4000000 in
set_option maxRecDepth 100000 in
theorem c_Rc_startOf (l : Launch) (D : va_G) (cA : Nat → ClassId) (a_t a_t_pageBySlot a_t_startBySlot : Nat) (sz : Nat) (n_t_pageBySlot : Nat) (t_pageBySlot : Nat → Int32) (n_t_startBySlot : Nat) (t_startBySlot : Nat → Int32) (t_kept : Int32) (t_next : Int32) (p0 : Int32) (o : Int32) (hf : f_Rc_startOf n_t_pageBySlot t_pageBySlot n_t_startBySlot t_startBySlot t_kept t_next p0 = some o) : Met l y_Rc_startOf wd_Rc_startOf ({ frames := 2, cells := 0, slots := 0, locals := 42 }) (va_Pc [.ref a_t, .int p0] (aP D cA [(a_t, .inr (3, [.ref a_t_pageBySlot, .ref a_t_startBySlot, .int t_kept, .int t_next])), (a_t_pageBySlot, .inl ((cA 0), n_t_pageBySlot, .inl t_pageBySlot)), (a_t_startBySlot, .inl ((cA 0), n_t_startBySlot, .inl t_startBySlot))] sz)) (va_Qi (fun r9 (_ : Unit) => r9 = o) (fun _ => aR D cA (va_A [(a_t, .inr (3, [.ref a_t_pageBySlot, .ref a_t_startBySlot, .int t_kept, .int t_next])), (a_t_pageBySlot, .inl ((cA 0), n_t_pageBySlot, .inl t_pageBySlot)), (a_t_startBySlot, .inl ((cA 0), n_t_startBySlot, .inl t_startBySlot))] sz) [(a_t, .inr (3, [.ref a_t_pageBySlot, .ref a_t_startBySlot, .int t_kept, .int t_next])), (a_t_pageBySlot, .inl ((cA 0), n_t_pageBySlot, .inl t_pageBySlot)), (a_t_startBySlot, .inl ((cA 0), n_t_startBySlot, .inl t_startBySlot))]) (va_A [(a_t, .inr (3, [.ref a_t_pageBySlot, .ref a_t_startBySlot, .int t_kept, .int t_next])), (a_t_pageBySlot, .inl ((cA 0), n_t_pageBySlot, .inl t_pageBySlot)), (a_t_startBySlot, .inl ((cA 0), n_t_startBySlot, .inl t_startBySlot))] sz)) 0 0 (va_A [(a_t, .inr (3, [.ref a_t_pageBySlot, .ref a_t_startBySlot, .int t_kept, .int t_next])), (a_t_pageBySlot, .inl ((cA 0), n_t_pageBySlot, .inl t_pageBySlot)), (a_t_startBySlot, .inl ((cA 0), n_t_startBySlot, .inl t_startBySlot))] sz) := by
  refine Met.ofW (cc := b_Rc_startOf) (maxL := 2) (ret := (some .int)) (by decide +kernel) rfl ?_
  intro p e s m args below meth c s₁ B hml hv
  obtain ⟨rfl, hsz, hP, hK, hD0, hE⟩ := hv
  have hx := B.exec
  have hb := B.bytes
  have hr := B.returns
  have hts := atoms_spec (ws := wd_Rc_startOf) B.pre
  have hown : s.vm.findClass R_Rc = some m.cls := findClass_of_methodNamed B.named
  have hlocks := B.notSynchronized
  subst hsz
  have hD := hD0.self (sz := s.heap.size)
  generalize hAe : va_A [(a_t, .inr (3, [.ref a_t_pageBySlot, .ref a_t_startBySlot, .int t_kept, .int t_next])), (a_t_pageBySlot, .inl ((cA 0), n_t_pageBySlot, .inl t_pageBySlot)), (a_t_startBySlot, .inl ((cA 0), n_t_startBySlot, .inl t_startBySlot))] s.heap.size = A at hD hE ⊢
  have hA : ∀ q : Nat, s.heap.size ≤ q → A q := fun q h => by rw [← hAe]; exact Or.inr h
  have hS : va_S A s.heap s.heap [] := va_S.rf
  have hl := lv_entry [.ref a_t, .int p0] (n := 2) (Nat.le_of_ble_eq_true rfl)
  rw [lg_entry_eq]
  generalize (lg_sl [.ref a_t, .int p0] ++ List.replicate (2 - (lg_sl [.ref a_t, .int p0]).length) Slot.unset).toArray = ls at hl ⊢
  have hl : lv_has ls 2 [(0, .ref a_t), (1, .int p0)] := hl
  unfold f_Rc_startOf at hf
  refine lv_aload_n hx hb d_Rc_startOf_0 rfl (lv_at hl 0 rfl) ?_
  refine va_get (D := D) (ci := 3) (v := .ref a_t_startBySlot) (C := R_Rc) (T := F_Rc) (N := 4) hx hb hts (fun w9 h9 => .tail _ (gu_Rc w9 h9)) hown hK hP 0 rfl rfl 1 (by decide) (hts _ (.tail _ gm_41)) (fun _ h9 => h9) rfl d_Rc_startOf_1 ?_
  refine lv_iload_n hx hb d_Rc_startOf_4 rfl (lv_at hl 1 rfl) ?_
  obtain ⟨o_1, ho_1, hf⟩ := hk_bd hf
  refine q_i (wr := [(a_t, .inr (3, [.ref a_t_pageBySlot, .ref a_t_startBySlot, .int t_kept, .int t_next])), (a_t_pageBySlot, .inl ((cA 0), n_t_pageBySlot, .inl t_pageBySlot)), (a_t_startBySlot, .inl ((cA 0), n_t_startBySlot, .inl t_startBySlot))]) (va_runS (As := [.int p0]) (rest := [.ref a_t_startBySlot]) ⟨hx, hb, hml, hown, hts⟩ (c_Rc_slotOf l D cA _ p0 o_1 ho_1) (va_cwS 1 hts (gd_S gm_37 gm_38 gm_39 gm_36) rfl rfl rfl (by decide +kernel) ⟨Nat.le_of_ble_eq_true rfl, Nat.le_of_ble_eq_true rfl⟩) (q_pS hK hP hD hS hA hE [] (by decide) rfl) rfl rfl hl.1 rfl (lv_room (Nat.le_of_ble_eq_true rfl)) d_Rc_startOf_5 ⟨Nat.zero_le _, Nat.zero_le _⟩) hP hD hS hA [] [0, 1, 2] rfl rfl (by decide) (by decide) (fun H locs hP hD hS => ?_)
  have hP : va_P D classes [(a_t, .inr (3, [.ref a_t_pageBySlot, .ref a_t_startBySlot, .int t_kept, .int t_next])), (a_t_pageBySlot, .inl ((cA 0), n_t_pageBySlot, .inl t_pageBySlot)), (a_t_startBySlot, .inl ((cA 0), n_t_startBySlot, .inl t_startBySlot))] H := hP
  have hD : va_D A [(a_t, .inr (3, [.ref a_t_pageBySlot, .ref a_t_startBySlot, .int t_kept, .int t_next])), (a_t_pageBySlot, .inl ((cA 0), n_t_pageBySlot, .inl t_pageBySlot)), (a_t_startBySlot, .inl ((cA 0), n_t_startBySlot, .inl t_startBySlot))] := hD
  obtain ⟨ck_2, hf⟩ := hk_if hf
  refine va_iald hx hb hK hP 2 0 rfl rfl ck_2 d_Rc_startOf_8 ?_
  have ho9 := Option.some.inj hf
  subst ho9
  have hP9 := hP.sub (ws' := [(a_t, .inr (3, [.ref a_t_pageBySlot, .ref a_t_startBySlot, .int t_kept, .int t_next])), (a_t_pageBySlot, .inl ((cA 0), n_t_pageBySlot, .inl t_pageBySlot)), (a_t_startBySlot, .inl ((cA 0), n_t_startBySlot, .inl t_startBySlot))]) [0, 1, 2] rfl
  have hD9 := hD.sub (ws' := [(a_t, .inr (3, [.ref a_t_pageBySlot, .ref a_t_startBySlot, .int t_kept, .int t_next])), (a_t_pageBySlot, .inl ((cA 0), n_t_pageBySlot, .inl t_pageBySlot)), (a_t_startBySlot, .inl ((cA 0), n_t_startBySlot, .inl t_startBySlot))]) [0, 1, 2] (by decide) rfl
  exact W.iret (v := (t_startBySlot o_1.toNatClampNeg)) hx hb hr (fun t ht hW => ⟨⟨_, (), rfl, rfl, by rw [ht]; exact hP9, va_K.moved hW.alike hK, hD9⟩, hS.F ht⟩) hS.2.2 d_Rc_startOf_9
theorem d_Hd_placeOf_0 : decode b_Hd_placeOf 0 = .ok (.iload_n 0, 1) := by decide +kernel
theorem d_Hd_placeOf_1 : decode b_Hd_placeOf 1 = .ok (.iconst 1, 1) := by decide +kernel
theorem d_Hd_placeOf_2 : decode b_Hd_placeOf 2 = .ok (.iand, 1) := by decide +kernel
theorem d_Hd_placeOf_3 : decode b_Hd_placeOf 3 = .ok (.ireturn, 1) := by decide +kernel
abbrev wd_Hd_placeOf : List Cond := .code y_Hd_placeOf b_Hd_placeOf 1 (some .int) :: gw
def f_Hd_placeOf (p0 : Int32) : Option (Int32) :=
  some (p0 &&& (1 : Int32))
set_option maxHeartbeats 4000000 in
set_option maxRecDepth 100000 in
theorem c_Hd_placeOf (l : Launch) (D : va_G) (cA : Nat → ClassId) (sz : Nat) (p0 : Int32) (o : Int32) (hf : f_Hd_placeOf p0 = some o) : Met l y_Hd_placeOf wd_Hd_placeOf ({ frames := 0, cells := 0, slots := 0, locals := 0 }) (va_Pc [.int p0] (aP D cA [] sz)) (va_Qi (fun r9 (_ : Unit) => r9 = o) (fun _ => aR D cA (va_A [] sz) []) (va_A [] sz)) 0 0 (va_A [] sz) := by
  refine Met.ofW (cc := b_Hd_placeOf) (maxL := 1) (ret := (some .int)) (by decide +kernel) rfl ?_
  intro p e s m args below meth c s₁ B hml hv
  obtain ⟨rfl, hsz, hP, hK, hD0, hE⟩ := hv
  have hx := B.exec
  have hb := B.bytes
  have hr := B.returns
  have hts := atoms_spec (ws := wd_Hd_placeOf) B.pre
  have hown : s.vm.findClass R_Hd = some m.cls := findClass_of_methodNamed B.named
  have hlocks := B.notSynchronized
  subst hsz
  have hD := hD0.self (sz := s.heap.size)
  generalize hAe : va_A [] s.heap.size = A at hD hE ⊢
  have hA : ∀ q : Nat, s.heap.size ≤ q → A q := fun q h => by rw [← hAe]; exact Or.inr h
  have hS : va_S A s.heap s.heap [] := va_S.rf
  have hl := lv_entry [.int p0] (n := 1) (Nat.le_of_ble_eq_true rfl)
  rw [lg_entry_eq]
  generalize (lg_sl [.int p0] ++ List.replicate (1 - (lg_sl [.int p0]).length) Slot.unset).toArray = ls at hl ⊢
  have hl : lv_has ls 1 [(0, .int p0)] := hl
  unfold f_Hd_placeOf at hf
  refine lv_iload_n hx hb d_Hd_placeOf_0 rfl (lv_at hl 0 rfl) ?_
  refine lv_iconst (v := 1) hx hb d_Hd_placeOf_1 (by decide) ?_
  refine lv_iand hx hb d_Hd_placeOf_2 ?_
  have ho9 := Option.some.inj hf
  subst ho9
  have hP9 := hP.sub (ws' := []) [] rfl
  have hD9 := hD.sub (ws' := []) [] (by decide) rfl
  exact W.iret (v := (p0 &&& (1 : Int32))) hx hb hr (fun t ht hW => ⟨⟨_, (), rfl, rfl, by rw [ht]; exact hP9, va_K.moved hW.alike hK, hD9⟩, hS.F ht⟩) hS.2.2 d_Hd_placeOf_3
theorem d_Hd_fill_0 : decode b_Hd_fill 0 = .ok (.aload_n 0, 1) := by decide +kernel
theorem d_Hd_fill_1 : decode b_Hd_fill 1 = .ok (.iload_n 1, 1) := by decide +kernel
theorem d_Hd_fill_2 : decode b_Hd_fill 2 = .ok (.invokevirtual 9, 3) := by decide +kernel
theorem d_Hd_fill_5 : decode b_Hd_fill 5 = .ok (.aload_n 0, 1) := by decide +kernel
theorem d_Hd_fill_6 : decode b_Hd_fill 6 = .ok (.iload_n 1, 1) := by decide +kernel
theorem d_Hd_fill_7 : decode b_Hd_fill 7 = .ok (.iconst 0, 1) := by decide +kernel
theorem d_Hd_fill_8 : decode b_Hd_fill 8 = .ok (.iload_n 2, 1) := by decide +kernel
theorem d_Hd_fill_9 : decode b_Hd_fill 9 = .ok (.invokevirtual 15, 3) := by decide +kernel
theorem d_Hd_fill_12 : decode b_Hd_fill 12 = .ok (.aload_n 0, 1) := by decide +kernel
theorem d_Hd_fill_13 : decode b_Hd_fill 13 = .ok (.iload_n 1, 1) := by decide +kernel
theorem d_Hd_fill_14 : decode b_Hd_fill 14 = .ok (.iconst 4, 1) := by decide +kernel
theorem d_Hd_fill_15 : decode b_Hd_fill 15 = .ok (.iload_n 3, 1) := by decide +kernel
theorem d_Hd_fill_16 : decode b_Hd_fill 16 = .ok (.invokevirtual 15, 3) := by decide +kernel
theorem d_Hd_fill_19 : decode b_Hd_fill 19 = .ok (.aload_n 0, 1) := by decide +kernel
theorem d_Hd_fill_20 : decode b_Hd_fill 20 = .ok (.iload_n 1, 1) := by decide +kernel
theorem d_Hd_fill_21 : decode b_Hd_fill 21 = .ok (.bipush 8, 2) := by decide +kernel
theorem d_Hd_fill_23 : decode b_Hd_fill 23 = .ok (.iload 4, 2) := by decide +kernel
theorem d_Hd_fill_25 : decode b_Hd_fill 25 = .ok (.invokevirtual 15, 3) := by decide +kernel
theorem d_Hd_fill_28 : decode b_Hd_fill 28 = .ok (.aload_n 0, 1) := by decide +kernel
theorem d_Hd_fill_29 : decode b_Hd_fill 29 = .ok (.iload_n 1, 1) := by decide +kernel
theorem d_Hd_fill_30 : decode b_Hd_fill 30 = .ok (.invokevirtual 19, 3) := by decide +kernel
theorem d_Hd_fill_33 : decode b_Hd_fill 33 = .ok (.return_, 1) := by decide +kernel
abbrev wd_Hd_fill : List Cond := .code y_Hd_fill b_Hd_fill 5 none :: gw
def f_Hd_fill (p0_count : Int32) (n_p0_bytes : Nat) (p0_bytes : Nat → Int32) (p1 : Int32) (p2 : Int32) (p3 : Int32) (p4 : Int32) : Option ((Nat → Int32)) :=
  (f_Bl_clear p0_count n_p0_bytes p0_bytes p1).bind fun o_1 =>
  (f_Bl_setU32 p0_count n_p0_bytes o_1 p1 (0 : Int32) p2).bind fun o_2 =>
  (f_Bl_setU32 p0_count n_p0_bytes o_2 p1 (4 : Int32) p3).bind fun o_3 =>
  (f_Bl_setU32 p0_count n_p0_bytes o_3 p1 (8 : Int32) p4).bind fun o_4 =>
  (f_Bl_seal p0_count n_p0_bytes o_4 p1).bind fun o_5 =>
  some o_5
set_option maxHeartbeats 4000000 in
set_option maxRecDepth 100000 in
theorem c_Hd_fill (l : Launch) (D : va_G) (cA : Nat → ClassId) (a_p0 a_p0_bytes : Nat) (sz : Nat) (p0_count : Int32) (n_p0_bytes : Nat) (p0_bytes : Nat → Int32) (p1 : Int32) (p2 : Int32) (p3 : Int32) (p4 : Int32) (o : (Nat → Int32)) (hf : f_Hd_fill p0_count n_p0_bytes p0_bytes p1 p2 p3 p4 = some o) : Met l y_Hd_fill wd_Hd_fill ({ frames := 4, cells := 0, slots := 0, locals := 89 }) (va_Pc [.ref a_p0, .int p1, .int p2, .int p3, .int p4] (aP D cA [(a_p0, .inr (0, [.int p0_count, .ref a_p0_bytes])), (a_p0_bytes, .inl ((cA 1), n_p0_bytes, .inl p0_bytes))] sz)) (va_Qv (fun (_ : Unit) => True) (fun _ => aR D cA (va_A [(a_p0, .inr (0, [.int p0_count, .ref a_p0_bytes])), (a_p0_bytes, .inl ((cA 1), n_p0_bytes, .inl p0_bytes))] sz) [(a_p0, .inr (0, [.int p0_count, .ref a_p0_bytes])), (a_p0_bytes, .inl ((cA 1), n_p0_bytes, .inl o))]) (va_A [(a_p0, .inr (0, [.int p0_count, .ref a_p0_bytes])), (a_p0_bytes, .inl ((cA 1), n_p0_bytes, .inl p0_bytes))] sz)) 0 0 (va_A [(a_p0, .inr (0, [.int p0_count, .ref a_p0_bytes])), (a_p0_bytes, .inl ((cA 1), n_p0_bytes, .inl p0_bytes))] sz) := by
  refine Met.ofW (cc := b_Hd_fill) (maxL := 5) (ret := none) (by decide +kernel) rfl ?_
  intro p e s m args below meth c s₁ B hml hv
  obtain ⟨rfl, hsz, hP, hK, hD0, hE⟩ := hv
  have hx := B.exec
  have hb := B.bytes
  have hr := B.returns
  have hts := atoms_spec (ws := wd_Hd_fill) B.pre
  have hown : s.vm.findClass R_Hd = some m.cls := findClass_of_methodNamed B.named
  have hlocks := B.notSynchronized
  subst hsz
  have hD := hD0.self (sz := s.heap.size)
  generalize hAe : va_A [(a_p0, .inr (0, [.int p0_count, .ref a_p0_bytes])), (a_p0_bytes, .inl ((cA 1), n_p0_bytes, .inl p0_bytes))] s.heap.size = A at hD hE ⊢
  have hA : ∀ q : Nat, s.heap.size ≤ q → A q := fun q h => by rw [← hAe]; exact Or.inr h
  have hS : va_S A s.heap s.heap [] := va_S.rf
  have hl := lv_entry [.ref a_p0, .int p1, .int p2, .int p3, .int p4] (n := 5) (Nat.le_of_ble_eq_true rfl)
  rw [lg_entry_eq]
  generalize (lg_sl [.ref a_p0, .int p1, .int p2, .int p3, .int p4] ++ List.replicate (5 - (lg_sl [.ref a_p0, .int p1, .int p2, .int p3, .int p4]).length) Slot.unset).toArray = ls at hl ⊢
  have hl : lv_has ls 5 [(0, .ref a_p0), (1, .int p1), (2, .int p2), (3, .int p3), (4, .int p4)] := hl
  unfold f_Hd_fill at hf
  refine lv_aload_n hx hb d_Hd_fill_0 rfl (lv_at hl 0 rfl) ?_
  refine lv_iload_n hx hb d_Hd_fill_1 rfl (lv_at hl 1 rfl) ?_
  obtain ⟨o_1, ho_1, hf⟩ := hk_bd hf
  refine q_v (wr := []) (va_runV (As := [.int p1]) (rest := []) ⟨hx, hb, hml, hown, hts⟩ (c_Bl_clear l D cA a_p0 a_p0_bytes _ p0_count n_p0_bytes p0_bytes p1 o_1 ho_1) (cwV 1 hts (gd_V gm_43 gm_44 gm_45 gm_5 gm_42) rfl rfl rfl (by decide +kernel) ⟨Nat.le_of_ble_eq_true rfl, Nat.le_of_ble_eq_true rfl⟩) (q_pV hK hP hD hS hA hE [0, 1] (by decide) rfl rfl rfl rfl) rfl rfl hl.1 rfl (lv_room (Nat.le_of_ble_eq_true rfl)) d_Hd_fill_2 ⟨Nat.zero_le _, Nat.zero_le _⟩) hP hD hS hA [0, 1] [] rfl rfl (by decide) (by decide) (fun H locs hP hD hS => ?_)
  have hP : va_P D classes [(a_p0, .inr (0, [.int p0_count, .ref a_p0_bytes])), (a_p0_bytes, .inl ((cA 1), n_p0_bytes, .inl o_1))] H := hP
  have hD : va_D A [(a_p0, .inr (0, [.int p0_count, .ref a_p0_bytes])), (a_p0_bytes, .inl ((cA 1), n_p0_bytes, .inl o_1))] := hD
  refine lv_aload_n hx hb d_Hd_fill_5 rfl (lv_at hl 0 rfl) ?_
  refine lv_iload_n hx hb d_Hd_fill_6 rfl (lv_at hl 1 rfl) ?_
  refine lv_iconst (v := 0) hx hb d_Hd_fill_7 (by decide) ?_
  refine lv_iload_n hx hb d_Hd_fill_8 rfl (lv_at hl 2 rfl) ?_
  obtain ⟨o_2, ho_2, hf⟩ := hk_bd hf
  refine q_v (wr := []) (va_runV (As := [.int p1, .int (0 : Int32), .int p2]) (rest := []) ⟨hx, hb, hml, hown, hts⟩ (c_Bl_setU32 l D cA a_p0 a_p0_bytes _ p0_count n_p0_bytes o_1 p1 (0 : Int32) p2 o_2 ho_2) (cwV 3 hts (gd_V gm_46 gm_22 gm_23 gm_5 gm_20) rfl rfl rfl (by decide +kernel) ⟨Nat.le_of_ble_eq_true rfl, Nat.le_of_ble_eq_true rfl⟩) (q_pV hK hP hD hS hA hE [0, 1] (by decide) rfl rfl rfl rfl) rfl rfl hl.1 rfl (lv_room (Nat.le_of_ble_eq_true rfl)) d_Hd_fill_9 ⟨Nat.zero_le _, Nat.zero_le _⟩) hP hD hS hA [0, 1] [] rfl rfl (by decide) (by decide) (fun H locs hP hD hS => ?_)
  have hP : va_P D classes [(a_p0, .inr (0, [.int p0_count, .ref a_p0_bytes])), (a_p0_bytes, .inl ((cA 1), n_p0_bytes, .inl o_2))] H := hP
  have hD : va_D A [(a_p0, .inr (0, [.int p0_count, .ref a_p0_bytes])), (a_p0_bytes, .inl ((cA 1), n_p0_bytes, .inl o_2))] := hD
  refine lv_aload_n hx hb d_Hd_fill_12 rfl (lv_at hl 0 rfl) ?_
  refine lv_iload_n hx hb d_Hd_fill_13 rfl (lv_at hl 1 rfl) ?_
  refine lv_iconst (v := 4) hx hb d_Hd_fill_14 (by decide) ?_
  refine lv_iload_n hx hb d_Hd_fill_15 rfl (lv_at hl 3 rfl) ?_
  obtain ⟨o_3, ho_3, hf⟩ := hk_bd hf
  refine q_v (wr := []) (va_runV (As := [.int p1, .int (4 : Int32), .int p3]) (rest := []) ⟨hx, hb, hml, hown, hts⟩ (c_Bl_setU32 l D cA a_p0 a_p0_bytes _ p0_count n_p0_bytes o_2 p1 (4 : Int32) p3 o_3 ho_3) (cwV 3 hts (gd_V gm_46 gm_22 gm_23 gm_5 gm_20) rfl rfl rfl (by decide +kernel) ⟨Nat.le_of_ble_eq_true rfl, Nat.le_of_ble_eq_true rfl⟩) (q_pV hK hP hD hS hA hE [0, 1] (by decide) rfl rfl rfl rfl) rfl rfl hl.1 rfl (lv_room (Nat.le_of_ble_eq_true rfl)) d_Hd_fill_16 ⟨Nat.zero_le _, Nat.zero_le _⟩) hP hD hS hA [0, 1] [] rfl rfl (by decide) (by decide) (fun H locs hP hD hS => ?_)
  have hP : va_P D classes [(a_p0, .inr (0, [.int p0_count, .ref a_p0_bytes])), (a_p0_bytes, .inl ((cA 1), n_p0_bytes, .inl o_3))] H := hP
  have hD : va_D A [(a_p0, .inr (0, [.int p0_count, .ref a_p0_bytes])), (a_p0_bytes, .inl ((cA 1), n_p0_bytes, .inl o_3))] := hD
  refine lv_aload_n hx hb d_Hd_fill_19 rfl (lv_at hl 0 rfl) ?_
  refine lv_iload_n hx hb d_Hd_fill_20 rfl (lv_at hl 1 rfl) ?_
  refine lv_bipush (v := 8) hx hb d_Hd_fill_21 (by decide) ?_
  refine lv_iload hx hb d_Hd_fill_23 (lv_at hl 4 rfl) ?_
  obtain ⟨o_4, ho_4, hf⟩ := hk_bd hf
  refine q_v (wr := []) (va_runV (As := [.int p1, .int (8 : Int32), .int p4]) (rest := []) ⟨hx, hb, hml, hown, hts⟩ (c_Bl_setU32 l D cA a_p0 a_p0_bytes _ p0_count n_p0_bytes o_3 p1 (8 : Int32) p4 o_4 ho_4) (cwV 3 hts (gd_V gm_46 gm_22 gm_23 gm_5 gm_20) rfl rfl rfl (by decide +kernel) ⟨Nat.le_of_ble_eq_true rfl, Nat.le_of_ble_eq_true rfl⟩) (q_pV hK hP hD hS hA hE [0, 1] (by decide) rfl rfl rfl rfl) rfl rfl hl.1 rfl (lv_room (Nat.le_of_ble_eq_true rfl)) d_Hd_fill_25 ⟨Nat.zero_le _, Nat.zero_le _⟩) hP hD hS hA [0, 1] [] rfl rfl (by decide) (by decide) (fun H locs hP hD hS => ?_)
  have hP : va_P D classes [(a_p0, .inr (0, [.int p0_count, .ref a_p0_bytes])), (a_p0_bytes, .inl ((cA 1), n_p0_bytes, .inl o_4))] H := hP
  have hD : va_D A [(a_p0, .inr (0, [.int p0_count, .ref a_p0_bytes])), (a_p0_bytes, .inl ((cA 1), n_p0_bytes, .inl o_4))] := hD
  refine lv_aload_n hx hb d_Hd_fill_28 rfl (lv_at hl 0 rfl) ?_
  refine lv_iload_n hx hb d_Hd_fill_29 rfl (lv_at hl 1 rfl) ?_
  obtain ⟨o_5, ho_5, hf⟩ := hk_bd hf
  refine q_v (wr := []) (va_runV (As := [.int p1]) (rest := []) ⟨hx, hb, hml, hown, hts⟩ (c_Bl_seal l D cA a_p0 a_p0_bytes _ p0_count n_p0_bytes o_4 p1 o_5 ho_5) (cwV 1 hts (gd_V gm_48 gm_49 gm_50 gm_5 gm_47) rfl rfl rfl (by decide +kernel) ⟨Nat.le_of_ble_eq_true rfl, Nat.le_of_ble_eq_true rfl⟩) (q_pV hK hP hD hS hA hE [0, 1] (by decide) rfl rfl rfl rfl) rfl rfl hl.1 rfl (lv_room (Nat.le_of_ble_eq_true rfl)) d_Hd_fill_30 ⟨Nat.zero_le _, Nat.zero_le _⟩) hP hD hS hA [0, 1] [] rfl rfl (by decide) (by decide) (fun H locs hP hD hS => ?_)
  have hP : va_P D classes [(a_p0, .inr (0, [.int p0_count, .ref a_p0_bytes])), (a_p0_bytes, .inl ((cA 1), n_p0_bytes, .inl o_5))] H := hP
  have hD : va_D A [(a_p0, .inr (0, [.int p0_count, .ref a_p0_bytes])), (a_p0_bytes, .inl ((cA 1), n_p0_bytes, .inl o_5))] := hD
  have ho9 := Option.some.inj hf
  subst ho9
  have hP9 := hP.sub (ws' := [(a_p0, .inr (0, [.int p0_count, .ref a_p0_bytes])), (a_p0_bytes, .inl ((cA 1), n_p0_bytes, .inl o_5))]) [0, 1] rfl
  have hD9 := hD.sub (ws' := [(a_p0, .inr (0, [.int p0_count, .ref a_p0_bytes])), (a_p0_bytes, .inl ((cA 1), n_p0_bytes, .inl o_5))]) [0, 1] (by decide) rfl
  exact W.vret hx hb hr (fun t ht hW => ⟨⟨(), rfl, trivial, by rw [ht]; exact hP9, va_K.moved hW.alike hK, hD9⟩, hS.F ht⟩) hS.2.2 d_Hd_fill_33
theorem d_Hd_readFrom_0 : decode b_Hd_readFrom 0 = .ok (.aload_n 0, 1) := by decide +kernel
theorem d_Hd_readFrom_1 : decode b_Hd_readFrom 1 = .ok (.aload_n 1, 1) := by decide +kernel
theorem d_Hd_readFrom_2 : decode b_Hd_readFrom 2 = .ok (.iload_n 2, 1) := by decide +kernel
theorem d_Hd_readFrom_3 : decode b_Hd_readFrom 3 = .ok (.iconst 0, 1) := by decide +kernel
theorem d_Hd_readFrom_4 : decode b_Hd_readFrom 4 = .ok (.invokevirtual 22, 3) := by decide +kernel
theorem d_Hd_readFrom_7 : decode b_Hd_readFrom 7 = .ok (.putfield 26, 3) := by decide +kernel
theorem d_Hd_readFrom_10 : decode b_Hd_readFrom 10 = .ok (.aload_n 0, 1) := by decide +kernel
theorem d_Hd_readFrom_11 : decode b_Hd_readFrom 11 = .ok (.aload_n 1, 1) := by decide +kernel
theorem d_Hd_readFrom_12 : decode b_Hd_readFrom 12 = .ok (.iload_n 2, 1) := by decide +kernel
theorem d_Hd_readFrom_13 : decode b_Hd_readFrom 13 = .ok (.iconst 4, 1) := by decide +kernel
theorem d_Hd_readFrom_14 : decode b_Hd_readFrom 14 = .ok (.invokevirtual 22, 3) := by decide +kernel
theorem d_Hd_readFrom_17 : decode b_Hd_readFrom 17 = .ok (.putfield 32, 3) := by decide +kernel
theorem d_Hd_readFrom_20 : decode b_Hd_readFrom 20 = .ok (.aload_n 0, 1) := by decide +kernel
theorem d_Hd_readFrom_21 : decode b_Hd_readFrom 21 = .ok (.aload_n 1, 1) := by decide +kernel
theorem d_Hd_readFrom_22 : decode b_Hd_readFrom 22 = .ok (.iload_n 2, 1) := by decide +kernel
theorem d_Hd_readFrom_23 : decode b_Hd_readFrom 23 = .ok (.bipush 8, 2) := by decide +kernel
theorem d_Hd_readFrom_25 : decode b_Hd_readFrom 25 = .ok (.invokevirtual 22, 3) := by decide +kernel
theorem d_Hd_readFrom_28 : decode b_Hd_readFrom 28 = .ok (.putfield 35, 3) := by decide +kernel
theorem d_Hd_readFrom_31 : decode b_Hd_readFrom 31 = .ok (.return_, 1) := by decide +kernel
abbrev wd_Hd_readFrom : List Cond := .code y_Hd_readFrom b_Hd_readFrom 3 none :: gw
def f_Hd_readFrom (t_turn : Int32) (t_oldest : Int32) (t_kept : Int32) (p0_count : Int32) (n_p0_bytes : Nat) (p0_bytes : Nat → Int32) (p1 : Int32) : Option (Int32 × Int32 × Int32) :=
  (f_Bl_u32 p0_count n_p0_bytes p0_bytes p1 (0 : Int32)).bind fun o_1 =>
  (f_Bl_u32 p0_count n_p0_bytes p0_bytes p1 (4 : Int32)).bind fun o_2 =>
  (f_Bl_u32 p0_count n_p0_bytes p0_bytes p1 (8 : Int32)).bind fun o_3 =>
  some (o_1, o_2, o_3)
set_option maxHeartbeats 4000000 in
set_option maxRecDepth 100000 in
theorem c_Hd_readFrom (l : Launch) (D : va_G) (cA : Nat → ClassId) (a_t a_p0 a_p0_bytes : Nat) (sz : Nat) (t_turn : Int32) (t_oldest : Int32) (t_kept : Int32) (p0_count : Int32) (n_p0_bytes : Nat) (p0_bytes : Nat → Int32) (p1 : Int32) (o : Int32 × Int32 × Int32) (hf : f_Hd_readFrom t_turn t_oldest t_kept p0_count n_p0_bytes p0_bytes p1 = some o) : Met l y_Hd_readFrom wd_Hd_readFrom ({ frames := 2, cells := 0, slots := 0, locals := 45 }) (va_Pc [.ref a_t, .ref a_p0, .int p1] (aP D cA [(a_t, .inr (1, [.int t_turn, .int t_oldest, .int t_kept])), (a_p0, .inr (0, [.int p0_count, .ref a_p0_bytes])), (a_p0_bytes, .inl ((cA 1), n_p0_bytes, .inl p0_bytes))] sz)) (va_Qv (fun (_ : Unit) => True) (fun _ => aR D cA (va_A [(a_t, .inr (1, [.int t_turn, .int t_oldest, .int t_kept])), (a_p0, .inr (0, [.int p0_count, .ref a_p0_bytes])), (a_p0_bytes, .inl ((cA 1), n_p0_bytes, .inl p0_bytes))] sz) [(a_t, .inr (1, [.int o.1, .int o.2.1, .int o.2.2])), (a_p0, .inr (0, [.int p0_count, .ref a_p0_bytes])), (a_p0_bytes, .inl ((cA 1), n_p0_bytes, .inl p0_bytes))]) (va_A [(a_t, .inr (1, [.int t_turn, .int t_oldest, .int t_kept])), (a_p0, .inr (0, [.int p0_count, .ref a_p0_bytes])), (a_p0_bytes, .inl ((cA 1), n_p0_bytes, .inl p0_bytes))] sz)) 0 0 (va_A [(a_t, .inr (1, [.int t_turn, .int t_oldest, .int t_kept])), (a_p0, .inr (0, [.int p0_count, .ref a_p0_bytes])), (a_p0_bytes, .inl ((cA 1), n_p0_bytes, .inl p0_bytes))] sz) := by
  refine Met.ofW (cc := b_Hd_readFrom) (maxL := 3) (ret := none) (by decide +kernel) rfl ?_
  intro p e s m args below meth c s₁ B hml hv
  obtain ⟨rfl, hsz, hP, hK, hD0, hE⟩ := hv
  have hx := B.exec
  have hb := B.bytes
  have hr := B.returns
  have hts := atoms_spec (ws := wd_Hd_readFrom) B.pre
  have hown : s.vm.findClass R_Hd = some m.cls := findClass_of_methodNamed B.named
  have hlocks := B.notSynchronized
  subst hsz
  have hD := hD0.self (sz := s.heap.size)
  generalize hAe : va_A [(a_t, .inr (1, [.int t_turn, .int t_oldest, .int t_kept])), (a_p0, .inr (0, [.int p0_count, .ref a_p0_bytes])), (a_p0_bytes, .inl ((cA 1), n_p0_bytes, .inl p0_bytes))] s.heap.size = A at hD hE ⊢
  have hA : ∀ q : Nat, s.heap.size ≤ q → A q := fun q h => by rw [← hAe]; exact Or.inr h
  have hS : va_S A s.heap s.heap [] := va_S.rf
  have hl := lv_entry [.ref a_t, .ref a_p0, .int p1] (n := 3) (Nat.le_of_ble_eq_true rfl)
  rw [lg_entry_eq]
  generalize (lg_sl [.ref a_t, .ref a_p0, .int p1] ++ List.replicate (3 - (lg_sl [.ref a_t, .ref a_p0, .int p1]).length) Slot.unset).toArray = ls at hl ⊢
  have hl : lv_has ls 3 [(0, .ref a_t), (1, .ref a_p0), (2, .int p1)] := hl
  unfold f_Hd_readFrom at hf
  refine lv_aload_n hx hb d_Hd_readFrom_0 rfl (lv_at hl 0 rfl) ?_
  refine lv_aload_n hx hb d_Hd_readFrom_1 rfl (lv_at hl 1 rfl) ?_
  refine lv_iload_n hx hb d_Hd_readFrom_2 rfl (lv_at hl 2 rfl) ?_
  refine lv_iconst (v := 0) hx hb d_Hd_readFrom_3 (by decide) ?_
  obtain ⟨o_1, ho_1, hf⟩ := hk_bd hf
  refine q_i (wr := [(a_t, .inr (1, [.int t_turn, .int t_oldest, .int t_kept]))]) (va_runV (As := [.int p1, .int (0 : Int32)]) (rest := [.ref a_t]) ⟨hx, hb, hml, hown, hts⟩ (c_Bl_u32 l D cA a_p0 a_p0_bytes _ p0_count n_p0_bytes p0_bytes p1 (0 : Int32) o_1 ho_1) (cwV 2 hts (gd_V gm_51 gm_26 gm_27 gm_5 gm_24) rfl rfl rfl (by decide +kernel) ⟨Nat.le_of_ble_eq_true rfl, Nat.le_of_ble_eq_true rfl⟩) (q_pV hK hP hD hS hA hE [1, 2] (by decide) rfl rfl rfl rfl) rfl rfl hl.1 rfl (lv_room (Nat.le_of_ble_eq_true rfl)) d_Hd_readFrom_4 ⟨Nat.zero_le _, Nat.zero_le _⟩) hP hD hS hA [1, 2] [0] rfl rfl (by decide) (by decide) (fun H locs hP hD hS => ?_)
  have hP : va_P D classes [(a_t, .inr (1, [.int t_turn, .int t_oldest, .int t_kept])), (a_p0, .inr (0, [.int p0_count, .ref a_p0_bytes])), (a_p0_bytes, .inl ((cA 1), n_p0_bytes, .inl p0_bytes))] H := hP
  have hD : va_D A [(a_t, .inr (1, [.int t_turn, .int t_oldest, .int t_kept])), (a_p0, .inr (0, [.int p0_count, .ref a_p0_bytes])), (a_p0_bytes, .inl ((cA 1), n_p0_bytes, .inl p0_bytes))] := hD
  refine va_put (D := D) (ci := 1) (v := .int o_1) (ty := .int) (C := R_Hd) (T := F_Hd) (N := 3) hx hb hts (fun w9 h9 => .tail _ (gu_Hd w9 h9)) t_Hd t_Hd_ok n_Hd hown hK hP hD hS 0 rfl rfl 0 (by decide) (hts _ (.tail _ gm_52)) (fun _ h9 => h9) rfl (by decide +kernel) rfl rfl (Nat.le_of_ble_eq_true rfl) d_Hd_readFrom_7 (fun H locs hP hD hS => ?_)
  have hP : va_P D classes [(a_t, .inr (1, [.int o_1, .int t_oldest, .int t_kept])), (a_p0, .inr (0, [.int p0_count, .ref a_p0_bytes])), (a_p0_bytes, .inl ((cA 1), n_p0_bytes, .inl p0_bytes))] H := hP
  have hD : va_D A [(a_t, .inr (1, [.int o_1, .int t_oldest, .int t_kept])), (a_p0, .inr (0, [.int p0_count, .ref a_p0_bytes])), (a_p0_bytes, .inl ((cA 1), n_p0_bytes, .inl p0_bytes))] := hD
  refine lv_aload_n hx hb d_Hd_readFrom_10 rfl (lv_at hl 0 rfl) ?_
  refine lv_aload_n hx hb d_Hd_readFrom_11 rfl (lv_at hl 1 rfl) ?_
  refine lv_iload_n hx hb d_Hd_readFrom_12 rfl (lv_at hl 2 rfl) ?_
  refine lv_iconst (v := 4) hx hb d_Hd_readFrom_13 (by decide) ?_
  obtain ⟨o_2, ho_2, hf⟩ := hk_bd hf
  refine q_i (wr := [(a_t, .inr (1, [.int o_1, .int t_oldest, .int t_kept]))]) (va_runV (As := [.int p1, .int (4 : Int32)]) (rest := [.ref a_t]) ⟨hx, hb, hml, hown, hts⟩ (c_Bl_u32 l D cA a_p0 a_p0_bytes _ p0_count n_p0_bytes p0_bytes p1 (4 : Int32) o_2 ho_2) (cwV 2 hts (gd_V gm_51 gm_26 gm_27 gm_5 gm_24) rfl rfl rfl (by decide +kernel) ⟨Nat.le_of_ble_eq_true rfl, Nat.le_of_ble_eq_true rfl⟩) (q_pV hK hP hD hS hA hE [1, 2] (by decide) rfl rfl rfl rfl) rfl rfl hl.1 rfl (lv_room (Nat.le_of_ble_eq_true rfl)) d_Hd_readFrom_14 ⟨Nat.zero_le _, Nat.zero_le _⟩) hP hD hS hA [1, 2] [0] rfl rfl (by decide) (by decide) (fun H locs hP hD hS => ?_)
  have hP : va_P D classes [(a_t, .inr (1, [.int o_1, .int t_oldest, .int t_kept])), (a_p0, .inr (0, [.int p0_count, .ref a_p0_bytes])), (a_p0_bytes, .inl ((cA 1), n_p0_bytes, .inl p0_bytes))] H := hP
  have hD : va_D A [(a_t, .inr (1, [.int o_1, .int t_oldest, .int t_kept])), (a_p0, .inr (0, [.int p0_count, .ref a_p0_bytes])), (a_p0_bytes, .inl ((cA 1), n_p0_bytes, .inl p0_bytes))] := hD
  refine va_put (D := D) (ci := 1) (v := .int o_2) (ty := .int) (C := R_Hd) (T := F_Hd) (N := 3) hx hb hts (fun w9 h9 => .tail _ (gu_Hd w9 h9)) t_Hd t_Hd_ok n_Hd hown hK hP hD hS 0 rfl rfl 1 (by decide) (hts _ (.tail _ gm_53)) (fun _ h9 => h9) rfl (by decide +kernel) rfl rfl (Nat.le_of_ble_eq_true rfl) d_Hd_readFrom_17 (fun H locs hP hD hS => ?_)
  have hP : va_P D classes [(a_t, .inr (1, [.int o_1, .int o_2, .int t_kept])), (a_p0, .inr (0, [.int p0_count, .ref a_p0_bytes])), (a_p0_bytes, .inl ((cA 1), n_p0_bytes, .inl p0_bytes))] H := hP
  have hD : va_D A [(a_t, .inr (1, [.int o_1, .int o_2, .int t_kept])), (a_p0, .inr (0, [.int p0_count, .ref a_p0_bytes])), (a_p0_bytes, .inl ((cA 1), n_p0_bytes, .inl p0_bytes))] := hD
  refine lv_aload_n hx hb d_Hd_readFrom_20 rfl (lv_at hl 0 rfl) ?_
  refine lv_aload_n hx hb d_Hd_readFrom_21 rfl (lv_at hl 1 rfl) ?_
  refine lv_iload_n hx hb d_Hd_readFrom_22 rfl (lv_at hl 2 rfl) ?_
  refine lv_bipush (v := 8) hx hb d_Hd_readFrom_23 (by decide) ?_
  obtain ⟨o_3, ho_3, hf⟩ := hk_bd hf
  refine q_i (wr := [(a_t, .inr (1, [.int o_1, .int o_2, .int t_kept]))]) (va_runV (As := [.int p1, .int (8 : Int32)]) (rest := [.ref a_t]) ⟨hx, hb, hml, hown, hts⟩ (c_Bl_u32 l D cA a_p0 a_p0_bytes _ p0_count n_p0_bytes p0_bytes p1 (8 : Int32) o_3 ho_3) (cwV 2 hts (gd_V gm_51 gm_26 gm_27 gm_5 gm_24) rfl rfl rfl (by decide +kernel) ⟨Nat.le_of_ble_eq_true rfl, Nat.le_of_ble_eq_true rfl⟩) (q_pV hK hP hD hS hA hE [1, 2] (by decide) rfl rfl rfl rfl) rfl rfl hl.1 rfl (lv_room (Nat.le_of_ble_eq_true rfl)) d_Hd_readFrom_25 ⟨Nat.zero_le _, Nat.zero_le _⟩) hP hD hS hA [1, 2] [0] rfl rfl (by decide) (by decide) (fun H locs hP hD hS => ?_)
  have hP : va_P D classes [(a_t, .inr (1, [.int o_1, .int o_2, .int t_kept])), (a_p0, .inr (0, [.int p0_count, .ref a_p0_bytes])), (a_p0_bytes, .inl ((cA 1), n_p0_bytes, .inl p0_bytes))] H := hP
  have hD : va_D A [(a_t, .inr (1, [.int o_1, .int o_2, .int t_kept])), (a_p0, .inr (0, [.int p0_count, .ref a_p0_bytes])), (a_p0_bytes, .inl ((cA 1), n_p0_bytes, .inl p0_bytes))] := hD
  refine va_put (D := D) (ci := 1) (v := .int o_3) (ty := .int) (C := R_Hd) (T := F_Hd) (N := 3) hx hb hts (fun w9 h9 => .tail _ (gu_Hd w9 h9)) t_Hd t_Hd_ok n_Hd hown hK hP hD hS 0 rfl rfl 2 (by decide) (hts _ (.tail _ gm_54)) (fun _ h9 => h9) rfl (by decide +kernel) rfl rfl (Nat.le_of_ble_eq_true rfl) d_Hd_readFrom_28 (fun H locs hP hD hS => ?_)
  have hP : va_P D classes [(a_t, .inr (1, [.int o_1, .int o_2, .int o_3])), (a_p0, .inr (0, [.int p0_count, .ref a_p0_bytes])), (a_p0_bytes, .inl ((cA 1), n_p0_bytes, .inl p0_bytes))] H := hP
  have hD : va_D A [(a_t, .inr (1, [.int o_1, .int o_2, .int o_3])), (a_p0, .inr (0, [.int p0_count, .ref a_p0_bytes])), (a_p0_bytes, .inl ((cA 1), n_p0_bytes, .inl p0_bytes))] := hD
  have ho9 := Option.some.inj hf
  subst ho9
  have hP9 := hP.sub (ws' := [(a_t, .inr (1, [.int o_1, .int o_2, .int o_3])), (a_p0, .inr (0, [.int p0_count, .ref a_p0_bytes])), (a_p0_bytes, .inl ((cA 1), n_p0_bytes, .inl p0_bytes))]) [0, 1, 2] rfl
  have hD9 := hD.sub (ws' := [(a_t, .inr (1, [.int o_1, .int o_2, .int o_3])), (a_p0, .inr (0, [.int p0_count, .ref a_p0_bytes])), (a_p0_bytes, .inl ((cA 1), n_p0_bytes, .inl p0_bytes))]) [0, 1, 2] (by decide) rfl
  exact W.vret hx hb hr (fun t ht hW => ⟨⟨(), rfl, trivial, by rw [ht]; exact hP9, va_K.moved hW.alike hK, hD9⟩, hS.F ht⟩) hS.2.2 d_Hd_readFrom_31
theorem d_RJ_isNumber_0 : decode b_RJ_isNumber 0 = .ok (.iload_n 0, 1) := by decide +kernel
theorem d_RJ_isNumber_1 : decode b_RJ_isNumber 1 = .ok (.iconst 1, 1) := by decide +kernel
theorem d_RJ_isNumber_2 : decode b_RJ_isNumber 2 = .ok (.if_icmp .lt 13, 3) := by decide +kernel
theorem d_RJ_isNumber_5 : decode b_RJ_isNumber 5 = .ok (.iload_n 0, 1) := by decide +kernel
theorem d_RJ_isNumber_6 : decode b_RJ_isNumber 6 = .ok (.ldc 243, 2) := by decide +kernel
theorem d_RJ_isNumber_8 : decode b_RJ_isNumber 8 = .ok (.if_icmp .gt 7, 3) := by decide +kernel
theorem d_RJ_isNumber_11 : decode b_RJ_isNumber 11 = .ok (.iconst 1, 1) := by decide +kernel
theorem d_RJ_isNumber_12 : decode b_RJ_isNumber 12 = .ok (.goto 4, 3) := by decide +kernel
theorem d_RJ_isNumber_15 : decode b_RJ_isNumber 15 = .ok (.iconst 0, 1) := by decide +kernel
theorem d_RJ_isNumber_16 : decode b_RJ_isNumber 16 = .ok (.ireturn, 1) := by decide +kernel
abbrev wd_RJ_isNumber : List Cond := .code y_RJ_isNumber b_RJ_isNumber 1 (some .boolean) :: gw
def f_RJ_isNumber (p0 : Int32) : Option (Int32) :=
  if p0 < (1 : Int32) then
    some (0 : Int32)
  else
    if (1000000 : Int32) < p0 then
      some (0 : Int32)
    else
      some (1 : Int32)
set_option maxHeartbeats 4000000 in
set_option maxRecDepth 100000 in
theorem c_RJ_isNumber (l : Launch) (D : va_G) (cA : Nat → ClassId) (sz : Nat) (p0 : Int32) (o : Int32) (hf : f_RJ_isNumber p0 = some o) : Met l y_RJ_isNumber wd_RJ_isNumber ({ frames := 0, cells := 0, slots := 0, locals := 0 }) (va_Pc [.int p0] (aP D cA [] sz)) (va_Qi (fun r9 (_ : Unit) => r9 = o) (fun _ => aR D cA (va_A [] sz) []) (va_A [] sz)) 0 0 (va_A [] sz) := by
  refine Met.ofW (cc := b_RJ_isNumber) (maxL := 1) (ret := (some .boolean)) (by decide +kernel) rfl ?_
  intro p e s m args below meth c s₁ B hml hv
  obtain ⟨rfl, hsz, hP, hK, hD0, hE⟩ := hv
  have hx := B.exec
  have hb := B.bytes
  have hr := B.returns
  have hts := atoms_spec (ws := wd_RJ_isNumber) B.pre
  have hown : s.vm.findClass R_RJ = some m.cls := findClass_of_methodNamed B.named
  have hlocks := B.notSynchronized
  subst hsz
  have hD := hD0.self (sz := s.heap.size)
  generalize hAe : va_A [] s.heap.size = A at hD hE ⊢
  have hA : ∀ q : Nat, s.heap.size ≤ q → A q := fun q h => by rw [← hAe]; exact Or.inr h
  have hS : va_S A s.heap s.heap [] := va_S.rf
  have hl := lv_entry [.int p0] (n := 1) (Nat.le_of_ble_eq_true rfl)
  rw [lg_entry_eq]
  generalize (lg_sl [.int p0] ++ List.replicate (1 - (lg_sl [.int p0]).length) Slot.unset).toArray = ls at hl ⊢
  have hl : lv_has ls 1 [(0, .int p0)] := hl
  unfold f_RJ_isNumber at hf
  refine lv_iload_n hx hb d_RJ_isNumber_0 rfl (lv_at hl 0 rfl) ?_
  refine lv_iconst (v := 1) hx hb d_RJ_isNumber_1 (by decide) ?_
  refine lv_icmp_lt (tgt := 15) hx hb d_RJ_isNumber_2 (by decide) (fun c_1 => ?_) (fun c_1 => ?_)
  · replace hf := (if_pos c_1).symm.trans hf
    refine lv_iconst (v := 0) hx hb d_RJ_isNumber_15 (by decide) ?_
    have ho9 := Option.some.inj hf
    subst ho9
    have hP9 := hP.sub (ws' := []) [] rfl
    have hD9 := hD.sub (ws' := []) [] (by decide) rfl
    exact W.zret (v := (0 : Int32)) hx hb hr rfl (fun t ht hW => ⟨⟨_, (), rfl, rfl, by rw [ht]; exact hP9, va_K.moved hW.alike hK, hD9⟩, hS.F ht⟩) hS.2.2 d_RJ_isNumber_16
  · replace hf := (if_neg c_1).symm.trans hf
    refine lv_iload_n hx hb d_RJ_isNumber_5 rfl (lv_at hl 0 rfl) ?_
    refine lv_ldc (v := (1000000 : Int32)) hx hb hown ((hts _ (.tail _ gm_55))) d_RJ_isNumber_6 ?_
    refine lv_icmp_gt (tgt := 15) hx hb d_RJ_isNumber_8 (by decide) (fun c_2 => ?_) (fun c_2 => ?_)
    · replace hf := (if_pos c_2).symm.trans hf
      refine lv_iconst (v := 0) hx hb d_RJ_isNumber_15 (by decide) ?_
      have ho9 := Option.some.inj hf
      subst ho9
      have hP9 := hP.sub (ws' := []) [] rfl
      have hD9 := hD.sub (ws' := []) [] (by decide) rfl
      exact W.zret (v := (0 : Int32)) hx hb hr rfl (fun t ht hW => ⟨⟨_, (), rfl, rfl, by rw [ht]; exact hP9, va_K.moved hW.alike hK, hD9⟩, hS.F ht⟩) hS.2.2 d_RJ_isNumber_16
    · replace hf := (if_neg c_2).symm.trans hf
      refine lv_iconst (v := 1) hx hb d_RJ_isNumber_11 (by decide) ?_
      refine lv_goto (tgt := 16) hx hb d_RJ_isNumber_12 (by decide) ?_
      have ho9 := Option.some.inj hf
      subst ho9
      have hP9 := hP.sub (ws' := []) [] rfl
      have hD9 := hD.sub (ws' := []) [] (by decide) rfl
      exact W.zret (v := (1 : Int32)) hx hb hr rfl (fun t ht hW => ⟨⟨_, (), rfl, rfl, by rw [ht]; exact hP9, va_K.moved hW.alike hK, hD9⟩, hS.F ht⟩) hS.2.2 d_RJ_isNumber_16
theorem d_Hd_isGood_0 : decode b_Hd_isGood 0 = .ok (.aload_n 0, 1) := by decide +kernel
theorem d_Hd_isGood_1 : decode b_Hd_isGood 1 = .ok (.iload_n 1, 1) := by decide +kernel
theorem d_Hd_isGood_2 : decode b_Hd_isGood 2 = .ok (.iconst 0, 1) := by decide +kernel
theorem d_Hd_isGood_3 : decode b_Hd_isGood 3 = .ok (.invokevirtual 22, 3) := by decide +kernel
theorem d_Hd_isGood_6 : decode b_Hd_isGood 6 = .ok (.invokestatic 46, 3) := by decide +kernel
theorem d_Hd_isGood_9 : decode b_Hd_isGood 9 = .ok (.ifCond .eq 53, 3) := by decide +kernel
theorem d_Hd_isGood_12 : decode b_Hd_isGood 12 = .ok (.aload_n 0, 1) := by decide +kernel
theorem d_Hd_isGood_13 : decode b_Hd_isGood 13 = .ok (.iload_n 1, 1) := by decide +kernel
theorem d_Hd_isGood_14 : decode b_Hd_isGood 14 = .ok (.iconst 0, 1) := by decide +kernel
theorem d_Hd_isGood_15 : decode b_Hd_isGood 15 = .ok (.invokevirtual 22, 3) := by decide +kernel
theorem d_Hd_isGood_18 : decode b_Hd_isGood 18 = .ok (.invokestatic 50, 3) := by decide +kernel
theorem d_Hd_isGood_21 : decode b_Hd_isGood 21 = .ok (.iload_n 1, 1) := by decide +kernel
theorem d_Hd_isGood_22 : decode b_Hd_isGood 22 = .ok (.if_icmp .ne 40, 3) := by decide +kernel
theorem d_Hd_isGood_25 : decode b_Hd_isGood 25 = .ok (.aload_n 0, 1) := by decide +kernel
theorem d_Hd_isGood_26 : decode b_Hd_isGood 26 = .ok (.iload_n 1, 1) := by decide +kernel
theorem d_Hd_isGood_27 : decode b_Hd_isGood 27 = .ok (.iconst 4, 1) := by decide +kernel
theorem d_Hd_isGood_28 : decode b_Hd_isGood 28 = .ok (.invokevirtual 22, 3) := by decide +kernel
theorem d_Hd_isGood_31 : decode b_Hd_isGood 31 = .ok (.invokestatic 46, 3) := by decide +kernel
theorem d_Hd_isGood_34 : decode b_Hd_isGood 34 = .ok (.ifCond .eq 28, 3) := by decide +kernel
theorem d_Hd_isGood_37 : decode b_Hd_isGood 37 = .ok (.aload_n 0, 1) := by decide +kernel
theorem d_Hd_isGood_38 : decode b_Hd_isGood 38 = .ok (.iload_n 1, 1) := by decide +kernel
theorem d_Hd_isGood_39 : decode b_Hd_isGood 39 = .ok (.bipush 8, 2) := by decide +kernel
theorem d_Hd_isGood_41 : decode b_Hd_isGood 41 = .ok (.invokevirtual 22, 3) := by decide +kernel
theorem d_Hd_isGood_44 : decode b_Hd_isGood 44 = .ok (.invokestatic 46, 3) := by decide +kernel
theorem d_Hd_isGood_47 : decode b_Hd_isGood 47 = .ok (.ifCond .eq 15, 3) := by decide +kernel
theorem d_Hd_isGood_50 : decode b_Hd_isGood 50 = .ok (.aload_n 0, 1) := by decide +kernel
theorem d_Hd_isGood_51 : decode b_Hd_isGood 51 = .ok (.iload_n 1, 1) := by decide +kernel
theorem d_Hd_isGood_52 : decode b_Hd_isGood 52 = .ok (.invokevirtual 54, 3) := by decide +kernel
theorem d_Hd_isGood_55 : decode b_Hd_isGood 55 = .ok (.ifCond .eq 7, 3) := by decide +kernel
theorem d_Hd_isGood_58 : decode b_Hd_isGood 58 = .ok (.iconst 1, 1) := by decide +kernel
theorem d_Hd_isGood_59 : decode b_Hd_isGood 59 = .ok (.goto 4, 3) := by decide +kernel
theorem d_Hd_isGood_62 : decode b_Hd_isGood 62 = .ok (.iconst 0, 1) := by decide +kernel
theorem d_Hd_isGood_63 : decode b_Hd_isGood 63 = .ok (.ireturn, 1) := by decide +kernel
abbrev wd_Hd_isGood : List Cond := .code y_Hd_isGood b_Hd_isGood 2 (some .boolean) :: gw
def f_Hd_isGood (p0_count : Int32) (n_p0_bytes : Nat) (p0_bytes : Nat → Int32) (p1 : Int32) : Option (Int32) :=
  (f_Bl_u32 p0_count n_p0_bytes p0_bytes p1 (0 : Int32)).bind fun o_1 =>
  (f_RJ_isNumber o_1).bind fun o_2 =>
  if o_2 = 0 then
    some (0 : Int32)
  else
    (f_Bl_u32 p0_count n_p0_bytes p0_bytes p1 (0 : Int32)).bind fun o_4 =>
    (f_Hd_placeOf o_4).bind fun o_5 =>
    if o_5 = p1 then
      (f_Bl_u32 p0_count n_p0_bytes p0_bytes p1 (4 : Int32)).bind fun o_7 =>
      (f_RJ_isNumber o_7).bind fun o_8 =>
      if o_8 = 0 then
        some (0 : Int32)
      else
        (f_Bl_u32 p0_count n_p0_bytes p0_bytes p1 (8 : Int32)).bind fun o_10 =>
        (f_RJ_isNumber o_10).bind fun o_11 =>
        if o_11 = 0 then
          some (0 : Int32)
        else
          (f_Bl_isWhole p0_count n_p0_bytes p0_bytes p1).bind fun o_13 =>
          if o_13 = 0 then
            some (0 : Int32)
          else
            some (1 : Int32)
    else
      some (0 : Int32)
set_option maxHeartbeats 4000000 in
set_option maxRecDepth 100000 in
theorem c_Hd_isGood (l : Launch) (D : va_G) (cA : Nat → ClassId) (a_p0 a_p0_bytes : Nat) (sz : Nat) (p0_count : Int32) (n_p0_bytes : Nat) (p0_bytes : Nat → Int32) (p1 : Int32) (o : Int32) (hf : f_Hd_isGood p0_count n_p0_bytes p0_bytes p1 = some o) : Met l y_Hd_isGood wd_Hd_isGood ({ frames := 3, cells := 0, slots := 0, locals := 67 }) (va_Pc [.ref a_p0, .int p1] (aP D cA [(a_p0, .inr (0, [.int p0_count, .ref a_p0_bytes])), (a_p0_bytes, .inl ((cA 1), n_p0_bytes, .inl p0_bytes))] sz)) (va_Qi (fun r9 (_ : Unit) => r9 = o) (fun _ => aR D cA (va_A [(a_p0, .inr (0, [.int p0_count, .ref a_p0_bytes])), (a_p0_bytes, .inl ((cA 1), n_p0_bytes, .inl p0_bytes))] sz) [(a_p0, .inr (0, [.int p0_count, .ref a_p0_bytes])), (a_p0_bytes, .inl ((cA 1), n_p0_bytes, .inl p0_bytes))]) (va_A [(a_p0, .inr (0, [.int p0_count, .ref a_p0_bytes])), (a_p0_bytes, .inl ((cA 1), n_p0_bytes, .inl p0_bytes))] sz)) 0 0 (va_A [(a_p0, .inr (0, [.int p0_count, .ref a_p0_bytes])), (a_p0_bytes, .inl ((cA 1), n_p0_bytes, .inl p0_bytes))] sz) := by
  refine Met.ofW (cc := b_Hd_isGood) (maxL := 2) (ret := (some .boolean)) (by decide +kernel) rfl ?_
  intro p e s m args below meth c s₁ B hml hv
  obtain ⟨rfl, hsz, hP, hK, hD0, hE⟩ := hv
  have hx := B.exec
  have hb := B.bytes
  have hr := B.returns
  have hts := atoms_spec (ws := wd_Hd_isGood) B.pre
  have hown : s.vm.findClass R_Hd = some m.cls := findClass_of_methodNamed B.named
  have hlocks := B.notSynchronized
  subst hsz
  have hD := hD0.self (sz := s.heap.size)
  generalize hAe : va_A [(a_p0, .inr (0, [.int p0_count, .ref a_p0_bytes])), (a_p0_bytes, .inl ((cA 1), n_p0_bytes, .inl p0_bytes))] s.heap.size = A at hD hE ⊢
  have hA : ∀ q : Nat, s.heap.size ≤ q → A q := fun q h => by rw [← hAe]; exact Or.inr h
  have hS : va_S A s.heap s.heap [] := va_S.rf
  have hl := lv_entry [.ref a_p0, .int p1] (n := 2) (Nat.le_of_ble_eq_true rfl)
  rw [lg_entry_eq]
  generalize (lg_sl [.ref a_p0, .int p1] ++ List.replicate (2 - (lg_sl [.ref a_p0, .int p1]).length) Slot.unset).toArray = ls at hl ⊢
  have hl : lv_has ls 2 [(0, .ref a_p0), (1, .int p1)] := hl
  unfold f_Hd_isGood at hf
  refine lv_aload_n hx hb d_Hd_isGood_0 rfl (lv_at hl 0 rfl) ?_
  refine lv_iload_n hx hb d_Hd_isGood_1 rfl (lv_at hl 1 rfl) ?_
  refine lv_iconst (v := 0) hx hb d_Hd_isGood_2 (by decide) ?_
  obtain ⟨o_1, ho_1, hf⟩ := hk_bd hf
  refine q_i (wr := []) (va_runV (As := [.int p1, .int (0 : Int32)]) (rest := []) ⟨hx, hb, hml, hown, hts⟩ (c_Bl_u32 l D cA a_p0 a_p0_bytes _ p0_count n_p0_bytes p0_bytes p1 (0 : Int32) o_1 ho_1) (cwV 2 hts (gd_V gm_51 gm_26 gm_27 gm_5 gm_24) rfl rfl rfl (by decide +kernel) ⟨Nat.le_of_ble_eq_true rfl, Nat.le_of_ble_eq_true rfl⟩) (q_pV hK hP hD hS hA hE [0, 1] (by decide) rfl rfl rfl rfl) rfl rfl hl.1 rfl (lv_room (Nat.le_of_ble_eq_true rfl)) d_Hd_isGood_3 ⟨Nat.zero_le _, Nat.zero_le _⟩) hP hD hS hA [0, 1] [] rfl rfl (by decide) (by decide) (fun H locs hP hD hS => ?_)
  have hP : va_P D classes [(a_p0, .inr (0, [.int p0_count, .ref a_p0_bytes])), (a_p0_bytes, .inl ((cA 1), n_p0_bytes, .inl p0_bytes))] H := hP
  have hD : va_D A [(a_p0, .inr (0, [.int p0_count, .ref a_p0_bytes])), (a_p0_bytes, .inl ((cA 1), n_p0_bytes, .inl p0_bytes))] := hD
  obtain ⟨o_2, ho_2, hf⟩ := hk_bd hf
  refine q_i (wr := [(a_p0, .inr (0, [.int p0_count, .ref a_p0_bytes])), (a_p0_bytes, .inl ((cA 1), n_p0_bytes, .inl p0_bytes))]) (va_runSN (As := [.int o_1]) (rest := []) ⟨hx, hb, hml, hown, hts⟩ (c_RJ_isNumber l D cA _ o_1 o_2 ho_2) ⟨va_cnB 1 hts (gd_N gm_56) rfl rfl rfl (hE.1 _ nw_0) (hts _ (.tail _ gm_57)) (by decide +kernel) ⟨Nat.le_of_ble_eq_true rfl, Nat.le_of_ble_eq_true rfl⟩, (hts _ (.tail _ gm_58)), trivial⟩ (q_pS hK hP hD hS hA hE [] (by decide) rfl) rfl rfl hl.1 rfl (lv_room (Nat.le_of_ble_eq_true rfl)) d_Hd_isGood_6 ⟨Nat.zero_le _, Nat.zero_le _⟩) hP hD hS hA [] [0, 1] rfl rfl (by decide) (by decide) (fun H locs hP hD hS => ?_)
  have hP : va_P D classes [(a_p0, .inr (0, [.int p0_count, .ref a_p0_bytes])), (a_p0_bytes, .inl ((cA 1), n_p0_bytes, .inl p0_bytes))] H := hP
  have hD : va_D A [(a_p0, .inr (0, [.int p0_count, .ref a_p0_bytes])), (a_p0_bytes, .inl ((cA 1), n_p0_bytes, .inl p0_bytes))] := hD
  refine lv_if_eq (tgt := 62) hx hb d_Hd_isGood_9 (by decide) (fun c_3 => ?_) (fun c_3 => ?_)
  · replace hf := (if_pos c_3).symm.trans hf
    refine lv_iconst (v := 0) hx hb d_Hd_isGood_62 (by decide) ?_
    have ho9 := Option.some.inj hf
    subst ho9
    have hP9 := hP.sub (ws' := [(a_p0, .inr (0, [.int p0_count, .ref a_p0_bytes])), (a_p0_bytes, .inl ((cA 1), n_p0_bytes, .inl p0_bytes))]) [0, 1] rfl
    have hD9 := hD.sub (ws' := [(a_p0, .inr (0, [.int p0_count, .ref a_p0_bytes])), (a_p0_bytes, .inl ((cA 1), n_p0_bytes, .inl p0_bytes))]) [0, 1] (by decide) rfl
    exact W.zret (v := (0 : Int32)) hx hb hr rfl (fun t ht hW => ⟨⟨_, (), rfl, rfl, by rw [ht]; exact hP9, va_K.moved hW.alike hK, hD9⟩, hS.F ht⟩) hS.2.2 d_Hd_isGood_63
  · replace hf := (if_neg c_3).symm.trans hf
    refine lv_aload_n hx hb d_Hd_isGood_12 rfl (lv_at hl 0 rfl) ?_
    refine lv_iload_n hx hb d_Hd_isGood_13 rfl (lv_at hl 1 rfl) ?_
    refine lv_iconst (v := 0) hx hb d_Hd_isGood_14 (by decide) ?_
    obtain ⟨o_4, ho_4, hf⟩ := hk_bd hf
    refine q_i (wr := []) (va_runV (As := [.int p1, .int (0 : Int32)]) (rest := []) ⟨hx, hb, hml, hown, hts⟩ (c_Bl_u32 l D cA a_p0 a_p0_bytes _ p0_count n_p0_bytes p0_bytes p1 (0 : Int32) o_4 ho_4) (cwV 2 hts (gd_V gm_51 gm_26 gm_27 gm_5 gm_24) rfl rfl rfl (by decide +kernel) ⟨Nat.le_of_ble_eq_true rfl, Nat.le_of_ble_eq_true rfl⟩) (q_pV hK hP hD hS hA hE [0, 1] (by decide) rfl rfl rfl rfl) rfl rfl hl.1 rfl (lv_room (Nat.le_of_ble_eq_true rfl)) d_Hd_isGood_15 ⟨Nat.zero_le _, Nat.zero_le _⟩) hP hD hS hA [0, 1] [] rfl rfl (by decide) (by decide) (fun H locs hP hD hS => ?_)
    have hP : va_P D classes [(a_p0, .inr (0, [.int p0_count, .ref a_p0_bytes])), (a_p0_bytes, .inl ((cA 1), n_p0_bytes, .inl p0_bytes))] H := hP
    have hD : va_D A [(a_p0, .inr (0, [.int p0_count, .ref a_p0_bytes])), (a_p0_bytes, .inl ((cA 1), n_p0_bytes, .inl p0_bytes))] := hD
    obtain ⟨o_5, ho_5, hf⟩ := hk_bd hf
    refine q_i (wr := [(a_p0, .inr (0, [.int p0_count, .ref a_p0_bytes])), (a_p0_bytes, .inl ((cA 1), n_p0_bytes, .inl p0_bytes))]) (va_runS (As := [.int o_4]) (rest := []) ⟨hx, hb, hml, hown, hts⟩ (c_Hd_placeOf l D cA _ o_4 o_5 ho_5) (va_cwS 1 hts (gd_S gm_60 gm_61 gm_62 gm_59) rfl rfl rfl (by decide +kernel) ⟨Nat.le_of_ble_eq_true rfl, Nat.le_of_ble_eq_true rfl⟩) (q_pS hK hP hD hS hA hE [] (by decide) rfl) rfl rfl hl.1 rfl (lv_room (Nat.le_of_ble_eq_true rfl)) d_Hd_isGood_18 ⟨Nat.zero_le _, Nat.zero_le _⟩) hP hD hS hA [] [0, 1] rfl rfl (by decide) (by decide) (fun H locs hP hD hS => ?_)
    have hP : va_P D classes [(a_p0, .inr (0, [.int p0_count, .ref a_p0_bytes])), (a_p0_bytes, .inl ((cA 1), n_p0_bytes, .inl p0_bytes))] H := hP
    have hD : va_D A [(a_p0, .inr (0, [.int p0_count, .ref a_p0_bytes])), (a_p0_bytes, .inl ((cA 1), n_p0_bytes, .inl p0_bytes))] := hD
    refine lv_iload_n hx hb d_Hd_isGood_21 rfl (lv_at hl 1 rfl) ?_
    refine lv_icmp_ne (tgt := 62) hx hb d_Hd_isGood_22 (by decide) (fun c_6 => ?_) (fun c_6 => ?_)
    · replace hf := (if_neg c_6).symm.trans hf
      refine lv_iconst (v := 0) hx hb d_Hd_isGood_62 (by decide) ?_
      have ho9 := Option.some.inj hf
      subst ho9
      have hP9 := hP.sub (ws' := [(a_p0, .inr (0, [.int p0_count, .ref a_p0_bytes])), (a_p0_bytes, .inl ((cA 1), n_p0_bytes, .inl p0_bytes))]) [0, 1] rfl
      have hD9 := hD.sub (ws' := [(a_p0, .inr (0, [.int p0_count, .ref a_p0_bytes])), (a_p0_bytes, .inl ((cA 1), n_p0_bytes, .inl p0_bytes))]) [0, 1] (by decide) rfl
      exact W.zret (v := (0 : Int32)) hx hb hr rfl (fun t ht hW => ⟨⟨_, (), rfl, rfl, by rw [ht]; exact hP9, va_K.moved hW.alike hK, hD9⟩, hS.F ht⟩) hS.2.2 d_Hd_isGood_63
    · replace hf := (if_pos c_6).symm.trans hf
      refine lv_aload_n hx hb d_Hd_isGood_25 rfl (lv_at hl 0 rfl) ?_
      refine lv_iload_n hx hb d_Hd_isGood_26 rfl (lv_at hl 1 rfl) ?_
      refine lv_iconst (v := 4) hx hb d_Hd_isGood_27 (by decide) ?_
      obtain ⟨o_7, ho_7, hf⟩ := hk_bd hf
      refine q_i (wr := []) (va_runV (As := [.int p1, .int (4 : Int32)]) (rest := []) ⟨hx, hb, hml, hown, hts⟩ (c_Bl_u32 l D cA a_p0 a_p0_bytes _ p0_count n_p0_bytes p0_bytes p1 (4 : Int32) o_7 ho_7) (cwV 2 hts (gd_V gm_51 gm_26 gm_27 gm_5 gm_24) rfl rfl rfl (by decide +kernel) ⟨Nat.le_of_ble_eq_true rfl, Nat.le_of_ble_eq_true rfl⟩) (q_pV hK hP hD hS hA hE [0, 1] (by decide) rfl rfl rfl rfl) rfl rfl hl.1 rfl (lv_room (Nat.le_of_ble_eq_true rfl)) d_Hd_isGood_28 ⟨Nat.zero_le _, Nat.zero_le _⟩) hP hD hS hA [0, 1] [] rfl rfl (by decide) (by decide) (fun H locs hP hD hS => ?_)
      have hP : va_P D classes [(a_p0, .inr (0, [.int p0_count, .ref a_p0_bytes])), (a_p0_bytes, .inl ((cA 1), n_p0_bytes, .inl p0_bytes))] H := hP
      have hD : va_D A [(a_p0, .inr (0, [.int p0_count, .ref a_p0_bytes])), (a_p0_bytes, .inl ((cA 1), n_p0_bytes, .inl p0_bytes))] := hD
      obtain ⟨o_8, ho_8, hf⟩ := hk_bd hf
      refine q_i (wr := [(a_p0, .inr (0, [.int p0_count, .ref a_p0_bytes])), (a_p0_bytes, .inl ((cA 1), n_p0_bytes, .inl p0_bytes))]) (va_runSN (As := [.int o_7]) (rest := []) ⟨hx, hb, hml, hown, hts⟩ (c_RJ_isNumber l D cA _ o_7 o_8 ho_8) ⟨va_cnB 1 hts (gd_N gm_56) rfl rfl rfl (hE.1 _ nw_0) (hts _ (.tail _ gm_57)) (by decide +kernel) ⟨Nat.le_of_ble_eq_true rfl, Nat.le_of_ble_eq_true rfl⟩, (hts _ (.tail _ gm_58)), trivial⟩ (q_pS hK hP hD hS hA hE [] (by decide) rfl) rfl rfl hl.1 rfl (lv_room (Nat.le_of_ble_eq_true rfl)) d_Hd_isGood_31 ⟨Nat.zero_le _, Nat.zero_le _⟩) hP hD hS hA [] [0, 1] rfl rfl (by decide) (by decide) (fun H locs hP hD hS => ?_)
      have hP : va_P D classes [(a_p0, .inr (0, [.int p0_count, .ref a_p0_bytes])), (a_p0_bytes, .inl ((cA 1), n_p0_bytes, .inl p0_bytes))] H := hP
      have hD : va_D A [(a_p0, .inr (0, [.int p0_count, .ref a_p0_bytes])), (a_p0_bytes, .inl ((cA 1), n_p0_bytes, .inl p0_bytes))] := hD
      refine lv_if_eq (tgt := 62) hx hb d_Hd_isGood_34 (by decide) (fun c_9 => ?_) (fun c_9 => ?_)
      · replace hf := (if_pos c_9).symm.trans hf
        refine lv_iconst (v := 0) hx hb d_Hd_isGood_62 (by decide) ?_
        have ho9 := Option.some.inj hf
        subst ho9
        have hP9 := hP.sub (ws' := [(a_p0, .inr (0, [.int p0_count, .ref a_p0_bytes])), (a_p0_bytes, .inl ((cA 1), n_p0_bytes, .inl p0_bytes))]) [0, 1] rfl
        have hD9 := hD.sub (ws' := [(a_p0, .inr (0, [.int p0_count, .ref a_p0_bytes])), (a_p0_bytes, .inl ((cA 1), n_p0_bytes, .inl p0_bytes))]) [0, 1] (by decide) rfl
        exact W.zret (v := (0 : Int32)) hx hb hr rfl (fun t ht hW => ⟨⟨_, (), rfl, rfl, by rw [ht]; exact hP9, va_K.moved hW.alike hK, hD9⟩, hS.F ht⟩) hS.2.2 d_Hd_isGood_63
      · replace hf := (if_neg c_9).symm.trans hf
        refine lv_aload_n hx hb d_Hd_isGood_37 rfl (lv_at hl 0 rfl) ?_
        refine lv_iload_n hx hb d_Hd_isGood_38 rfl (lv_at hl 1 rfl) ?_
        refine lv_bipush (v := 8) hx hb d_Hd_isGood_39 (by decide) ?_
        obtain ⟨o_10, ho_10, hf⟩ := hk_bd hf
        refine q_i (wr := []) (va_runV (As := [.int p1, .int (8 : Int32)]) (rest := []) ⟨hx, hb, hml, hown, hts⟩ (c_Bl_u32 l D cA a_p0 a_p0_bytes _ p0_count n_p0_bytes p0_bytes p1 (8 : Int32) o_10 ho_10) (cwV 2 hts (gd_V gm_51 gm_26 gm_27 gm_5 gm_24) rfl rfl rfl (by decide +kernel) ⟨Nat.le_of_ble_eq_true rfl, Nat.le_of_ble_eq_true rfl⟩) (q_pV hK hP hD hS hA hE [0, 1] (by decide) rfl rfl rfl rfl) rfl rfl hl.1 rfl (lv_room (Nat.le_of_ble_eq_true rfl)) d_Hd_isGood_41 ⟨Nat.zero_le _, Nat.zero_le _⟩) hP hD hS hA [0, 1] [] rfl rfl (by decide) (by decide) (fun H locs hP hD hS => ?_)
        have hP : va_P D classes [(a_p0, .inr (0, [.int p0_count, .ref a_p0_bytes])), (a_p0_bytes, .inl ((cA 1), n_p0_bytes, .inl p0_bytes))] H := hP
        have hD : va_D A [(a_p0, .inr (0, [.int p0_count, .ref a_p0_bytes])), (a_p0_bytes, .inl ((cA 1), n_p0_bytes, .inl p0_bytes))] := hD
        obtain ⟨o_11, ho_11, hf⟩ := hk_bd hf
        refine q_i (wr := [(a_p0, .inr (0, [.int p0_count, .ref a_p0_bytes])), (a_p0_bytes, .inl ((cA 1), n_p0_bytes, .inl p0_bytes))]) (va_runSN (As := [.int o_10]) (rest := []) ⟨hx, hb, hml, hown, hts⟩ (c_RJ_isNumber l D cA _ o_10 o_11 ho_11) ⟨va_cnB 1 hts (gd_N gm_56) rfl rfl rfl (hE.1 _ nw_0) (hts _ (.tail _ gm_57)) (by decide +kernel) ⟨Nat.le_of_ble_eq_true rfl, Nat.le_of_ble_eq_true rfl⟩, (hts _ (.tail _ gm_58)), trivial⟩ (q_pS hK hP hD hS hA hE [] (by decide) rfl) rfl rfl hl.1 rfl (lv_room (Nat.le_of_ble_eq_true rfl)) d_Hd_isGood_44 ⟨Nat.zero_le _, Nat.zero_le _⟩) hP hD hS hA [] [0, 1] rfl rfl (by decide) (by decide) (fun H locs hP hD hS => ?_)
        have hP : va_P D classes [(a_p0, .inr (0, [.int p0_count, .ref a_p0_bytes])), (a_p0_bytes, .inl ((cA 1), n_p0_bytes, .inl p0_bytes))] H := hP
        have hD : va_D A [(a_p0, .inr (0, [.int p0_count, .ref a_p0_bytes])), (a_p0_bytes, .inl ((cA 1), n_p0_bytes, .inl p0_bytes))] := hD
        refine lv_if_eq (tgt := 62) hx hb d_Hd_isGood_47 (by decide) (fun c_12 => ?_) (fun c_12 => ?_)
        · replace hf := (if_pos c_12).symm.trans hf
          refine lv_iconst (v := 0) hx hb d_Hd_isGood_62 (by decide) ?_
          have ho9 := Option.some.inj hf
          subst ho9
          have hP9 := hP.sub (ws' := [(a_p0, .inr (0, [.int p0_count, .ref a_p0_bytes])), (a_p0_bytes, .inl ((cA 1), n_p0_bytes, .inl p0_bytes))]) [0, 1] rfl
          have hD9 := hD.sub (ws' := [(a_p0, .inr (0, [.int p0_count, .ref a_p0_bytes])), (a_p0_bytes, .inl ((cA 1), n_p0_bytes, .inl p0_bytes))]) [0, 1] (by decide) rfl
          exact W.zret (v := (0 : Int32)) hx hb hr rfl (fun t ht hW => ⟨⟨_, (), rfl, rfl, by rw [ht]; exact hP9, va_K.moved hW.alike hK, hD9⟩, hS.F ht⟩) hS.2.2 d_Hd_isGood_63
        · replace hf := (if_neg c_12).symm.trans hf
          refine lv_aload_n hx hb d_Hd_isGood_50 rfl (lv_at hl 0 rfl) ?_
          refine lv_iload_n hx hb d_Hd_isGood_51 rfl (lv_at hl 1 rfl) ?_
          obtain ⟨o_13, ho_13, hf⟩ := hk_bd hf
          refine q_i (wr := []) (va_runV (As := [.int p1]) (rest := []) ⟨hx, hb, hml, hown, hts⟩ (c_Bl_isWhole l D cA a_p0 a_p0_bytes _ p0_count n_p0_bytes p0_bytes p1 o_13 ho_13) (cwV 1 hts (gd_V gm_64 gm_65 gm_66 gm_5 gm_63) rfl rfl rfl (by decide +kernel) ⟨Nat.le_of_ble_eq_true rfl, Nat.le_of_ble_eq_true rfl⟩) (q_pV hK hP hD hS hA hE [0, 1] (by decide) rfl rfl rfl rfl) rfl rfl hl.1 rfl (lv_room (Nat.le_of_ble_eq_true rfl)) d_Hd_isGood_52 ⟨Nat.zero_le _, Nat.zero_le _⟩) hP hD hS hA [0, 1] [] rfl rfl (by decide) (by decide) (fun H locs hP hD hS => ?_)
          have hP : va_P D classes [(a_p0, .inr (0, [.int p0_count, .ref a_p0_bytes])), (a_p0_bytes, .inl ((cA 1), n_p0_bytes, .inl p0_bytes))] H := hP
          have hD : va_D A [(a_p0, .inr (0, [.int p0_count, .ref a_p0_bytes])), (a_p0_bytes, .inl ((cA 1), n_p0_bytes, .inl p0_bytes))] := hD
          refine lv_if_eq (tgt := 62) hx hb d_Hd_isGood_55 (by decide) (fun c_14 => ?_) (fun c_14 => ?_)
          · replace hf := (if_pos c_14).symm.trans hf
            refine lv_iconst (v := 0) hx hb d_Hd_isGood_62 (by decide) ?_
            have ho9 := Option.some.inj hf
            subst ho9
            have hP9 := hP.sub (ws' := [(a_p0, .inr (0, [.int p0_count, .ref a_p0_bytes])), (a_p0_bytes, .inl ((cA 1), n_p0_bytes, .inl p0_bytes))]) [0, 1] rfl
            have hD9 := hD.sub (ws' := [(a_p0, .inr (0, [.int p0_count, .ref a_p0_bytes])), (a_p0_bytes, .inl ((cA 1), n_p0_bytes, .inl p0_bytes))]) [0, 1] (by decide) rfl
            exact W.zret (v := (0 : Int32)) hx hb hr rfl (fun t ht hW => ⟨⟨_, (), rfl, rfl, by rw [ht]; exact hP9, va_K.moved hW.alike hK, hD9⟩, hS.F ht⟩) hS.2.2 d_Hd_isGood_63
          · replace hf := (if_neg c_14).symm.trans hf
            refine lv_iconst (v := 1) hx hb d_Hd_isGood_58 (by decide) ?_
            refine lv_goto (tgt := 63) hx hb d_Hd_isGood_59 (by decide) ?_
            have ho9 := Option.some.inj hf
            subst ho9
            have hP9 := hP.sub (ws' := [(a_p0, .inr (0, [.int p0_count, .ref a_p0_bytes])), (a_p0_bytes, .inl ((cA 1), n_p0_bytes, .inl p0_bytes))]) [0, 1] rfl
            have hD9 := hD.sub (ws' := [(a_p0, .inr (0, [.int p0_count, .ref a_p0_bytes])), (a_p0_bytes, .inl ((cA 1), n_p0_bytes, .inl p0_bytes))]) [0, 1] (by decide) rfl
            exact W.zret (v := (1 : Int32)) hx hb hr rfl (fun t ht hW => ⟨⟨_, (), rfl, rfl, by rw [ht]; exact hP9, va_K.moved hW.alike hK, hD9⟩, hS.F ht⟩) hS.2.2 d_Hd_isGood_63
theorem d_Hd_find_0 : decode b_Hd_find 0 = .ok (.aload_n 0, 1) := by decide +kernel
theorem d_Hd_find_1 : decode b_Hd_find 1 = .ok (.iconst 0, 1) := by decide +kernel
theorem d_Hd_find_2 : decode b_Hd_find 2 = .ok (.putfield 26, 3) := by decide +kernel
theorem d_Hd_find_5 : decode b_Hd_find 5 = .ok (.aload_n 0, 1) := by decide +kernel
theorem d_Hd_find_6 : decode b_Hd_find 6 = .ok (.iconst 1, 1) := by decide +kernel
theorem d_Hd_find_7 : decode b_Hd_find 7 = .ok (.putfield 32, 3) := by decide +kernel
theorem d_Hd_find_10 : decode b_Hd_find 10 = .ok (.aload_n 0, 1) := by decide +kernel
theorem d_Hd_find_11 : decode b_Hd_find 11 = .ok (.iconst 1, 1) := by decide +kernel
theorem d_Hd_find_12 : decode b_Hd_find 12 = .ok (.putfield 35, 3) := by decide +kernel
theorem d_Hd_find_15 : decode b_Hd_find 15 = .ok (.iconst 0, 1) := by decide +kernel
theorem d_Hd_find_16 : decode b_Hd_find 16 = .ok (.istore_n 2, 1) := by decide +kernel
theorem d_Hd_find_17 : decode b_Hd_find 17 = .ok (.iload_n 2, 1) := by decide +kernel
theorem d_Hd_find_18 : decode b_Hd_find 18 = .ok (.iconst 2, 1) := by decide +kernel
theorem d_Hd_find_19 : decode b_Hd_find 19 = .ok (.if_icmp .ge 36, 3) := by decide +kernel
theorem d_Hd_find_22 : decode b_Hd_find 22 = .ok (.aload_n 1, 1) := by decide +kernel
theorem d_Hd_find_23 : decode b_Hd_find 23 = .ok (.iload_n 2, 1) := by decide +kernel
theorem d_Hd_find_24 : decode b_Hd_find 24 = .ok (.invokestatic 38, 3) := by decide +kernel
theorem d_Hd_find_27 : decode b_Hd_find 27 = .ok (.ifCond .eq 22, 3) := by decide +kernel
theorem d_Hd_find_30 : decode b_Hd_find 30 = .ok (.aload_n 1, 1) := by decide +kernel
theorem d_Hd_find_31 : decode b_Hd_find 31 = .ok (.iload_n 2, 1) := by decide +kernel
theorem d_Hd_find_32 : decode b_Hd_find 32 = .ok (.iconst 0, 1) := by decide +kernel
theorem d_Hd_find_33 : decode b_Hd_find 33 = .ok (.invokevirtual 22, 3) := by decide +kernel
theorem d_Hd_find_36 : decode b_Hd_find 36 = .ok (.aload_n 0, 1) := by decide +kernel
theorem d_Hd_find_37 : decode b_Hd_find 37 = .ok (.getfield 26, 3) := by decide +kernel
theorem d_Hd_find_40 : decode b_Hd_find 40 = .ok (.if_icmp .le 9, 3) := by decide +kernel
theorem d_Hd_find_43 : decode b_Hd_find 43 = .ok (.aload_n 0, 1) := by decide +kernel
theorem d_Hd_find_44 : decode b_Hd_find 44 = .ok (.aload_n 1, 1) := by decide +kernel
theorem d_Hd_find_45 : decode b_Hd_find 45 = .ok (.iload_n 2, 1) := by decide +kernel
theorem d_Hd_find_46 : decode b_Hd_find 46 = .ok (.invokevirtual 42, 3) := by decide +kernel
theorem d_Hd_find_49 : decode b_Hd_find 49 = .ok (.iinc 2 1, 3) := by decide +kernel
theorem d_Hd_find_52 : decode b_Hd_find 52 = .ok (.goto (-35), 3) := by decide +kernel
theorem d_Hd_find_55 : decode b_Hd_find 55 = .ok (.return_, 1) := by decide +kernel
abbrev wd_Hd_find : List Cond := .code y_Hd_find b_Hd_find 3 none :: gw
def f_Hd_find_L17 (t_turn : Int32) (t_oldest : Int32) (t_kept : Int32) (p0_count : Int32) (n_p0_bytes : Nat) (p0_bytes : Nat → Int32) : Nat → Int32 → Int32 → Int32 → Int32 → Option (Int32 × Int32 × Int32)
  | 0, _, _, _, _ => none
  | n17 + 1, t_turn', t_oldest', t_kept', x2 =>
    if (2 : Int32) ≤ x2 then
      some (t_turn', t_oldest', t_kept')
    else
      (f_Hd_isGood p0_count n_p0_bytes p0_bytes x2).bind fun o_2 =>
      if o_2 = 0 then
        f_Hd_find_L17 t_turn t_oldest t_kept p0_count n_p0_bytes p0_bytes n17 t_turn' t_oldest' t_kept' (x2 + (1 : Int32))
      else
        (f_Bl_u32 p0_count n_p0_bytes p0_bytes x2 (0 : Int32)).bind fun o_4 =>
        if o_4 ≤ t_turn' then
          f_Hd_find_L17 t_turn t_oldest t_kept p0_count n_p0_bytes p0_bytes n17 t_turn' t_oldest' t_kept' (x2 + (1 : Int32))
        else
          (f_Hd_readFrom t_turn' t_oldest' t_kept' p0_count n_p0_bytes p0_bytes x2).bind fun o_6 =>
          f_Hd_find_L17 t_turn t_oldest t_kept p0_count n_p0_bytes p0_bytes n17 o_6.1 o_6.2.1 o_6.2.2 (x2 + (1 : Int32))
def f_Hd_find (t_turn : Int32) (t_oldest : Int32) (t_kept : Int32) (p0_count : Int32) (n_p0_bytes : Nat) (p0_bytes : Nat → Int32) : Option (Int32 × Int32 × Int32) :=
  f_Hd_find_L17 t_turn t_oldest t_kept p0_count n_p0_bytes p0_bytes 5 (0 : Int32) (1 : Int32) (1 : Int32) (0 : Int32)
set_option maxHeartbeats 4000000 in
set_option maxRecDepth 100000 in
theorem k_Hd_find_L17 {p : Program} {l : Launch} {e : Env} {s : State} {m : MethodId} {args : Array Value} {below : List Frame} {meth : Method} {c : Code} (hx : p.tables.exec = Jvm.exec) (hb : c.code = b_Hd_find) (hr : meth.sig.returnType = none) (hml : c.maxLocals = 3) (hown : s.vm.findClass R_Hd = some m.cls) (hts : ∀ w ∈ wd_Hd_find, w.before args s = true) (hlocks : meth.locks = false) {A : Nat → Prop} (hA : ∀ q, s.heap.size ≤ q → A q) (hE : ev A s) {D : va_G} {cA : Nat → ClassId} (hK : va_K D classes (tys cA) s) (a_t a_p0 a_p0_bytes : Nat) (t_turn : Int32) (t_oldest : Int32) (t_kept : Int32) (p0_count : Int32) (n_p0_bytes : Nat) (p0_bytes : Nat → Int32) (o : Int32 × Int32 × Int32) :
    ∀ (n : Nat) (t_turn' : Int32) (t_oldest' : Int32) (t_kept' : Int32) (x2 : Int32) (H : Heap) (locs : List Loc), f_Hd_find_L17 t_turn t_oldest t_kept p0_count n_p0_bytes p0_bytes  n t_turn' t_oldest' t_kept' x2 = some o → va_P D classes [(a_t, .inr (1, [.int t_turn', .int t_oldest', .int t_kept'])), (a_p0, .inr (0, [.int p0_count, .ref a_p0_bytes])), (a_p0_bytes, .inl ((cA 1), n_p0_bytes, .inl p0_bytes))] H → va_D A [(a_t, .inr (1, [.int t_turn', .int t_oldest', .int t_kept'])), (a_p0, .inr (0, [.int p0_count, .ref a_p0_bytes])), (a_p0_bytes, .inl ((cA 1), n_p0_bytes, .inl p0_bytes))] → va_S A s.heap H locs → ∀ ls : Array Slot, lv_has ls 3 [(0, .ref a_t), (1, .ref a_p0), (2, .int x2)] → W p l e ({ frames := 4, cells := 0, slots := 0, locals := 88 }) s m args below meth c H locs 0 0 (MQ below (va_Qv (fun (_ : Unit) => True) (fun _ => aR D cA A [(a_t, .inr (1, [.int o.1, .int o.2.1, .int o.2.2])), (a_p0, .inr (0, [.int p0_count, .ref a_p0_bytes])), (a_p0_bytes, .inl ((cA 1), n_p0_bytes, .inl p0_bytes))]) A) args s 0 0 A) (F0 m 17 ls []) := by
  intro n
  induction n with
  | zero =>
    intro t_turn' t_oldest' t_kept' x2 H locs hf
    cases hf
  | succ n17 ih =>
    intro t_turn' t_oldest' t_kept' x2 H locs hf hP hD hS ls hl
    rw [f_Hd_find_L17.eq_2] at hf
    refine lv_iload_n hx hb d_Hd_find_17 rfl (lv_at hl 2 rfl) ?_
    refine lv_iconst (v := 2) hx hb d_Hd_find_18 (by decide) ?_
    refine lv_icmp_ge (tgt := 55) hx hb d_Hd_find_19 (by decide) (fun c_1 => ?_) (fun c_1 => ?_)
    · replace hf := (if_pos c_1).symm.trans hf
      have ho9 := Option.some.inj hf
      subst ho9
      have hP9 := hP.sub (ws' := [(a_t, .inr (1, [.int t_turn', .int t_oldest', .int t_kept'])), (a_p0, .inr (0, [.int p0_count, .ref a_p0_bytes])), (a_p0_bytes, .inl ((cA 1), n_p0_bytes, .inl p0_bytes))]) [0, 1, 2] rfl
      have hD9 := hD.sub (ws' := [(a_t, .inr (1, [.int t_turn', .int t_oldest', .int t_kept'])), (a_p0, .inr (0, [.int p0_count, .ref a_p0_bytes])), (a_p0_bytes, .inl ((cA 1), n_p0_bytes, .inl p0_bytes))]) [0, 1, 2] (by decide) rfl
      exact W.vret hx hb hr (fun t ht hW => ⟨⟨(), rfl, trivial, by rw [ht]; exact hP9, va_K.moved hW.alike hK, hD9⟩, hS.F ht⟩) hS.2.2 d_Hd_find_55
    · replace hf := (if_neg c_1).symm.trans hf
      refine lv_aload_n hx hb d_Hd_find_22 rfl (lv_at hl 1 rfl) ?_
      refine lv_iload_n hx hb d_Hd_find_23 rfl (lv_at hl 2 rfl) ?_
      obtain ⟨o_2, ho_2, hf⟩ := hk_bd hf
      refine q_i (wr := [(a_t, .inr (1, [.int t_turn', .int t_oldest', .int t_kept']))]) (va_runS (As := [.ref a_p0, .int x2]) (rest := []) ⟨hx, hb, hml, hown, hts⟩ (c_Hd_isGood l D cA a_p0 a_p0_bytes _ p0_count n_p0_bytes p0_bytes x2 o_2 ho_2) (va_cwS 2 hts (gd_S gm_68 gm_69 gm_62 gm_67) rfl rfl rfl (by decide +kernel) ⟨Nat.le_of_ble_eq_true rfl, Nat.le_of_ble_eq_true rfl⟩) (q_pS hK hP hD hS hA hE [1, 2] (by decide) rfl) rfl rfl hl.1 rfl (lv_room (Nat.le_of_ble_eq_true rfl)) d_Hd_find_24 ⟨Nat.zero_le _, Nat.zero_le _⟩) hP hD hS hA [1, 2] [0] rfl rfl (by decide) (by decide) (fun H locs hP hD hS => ?_)
      have hP : va_P D classes [(a_t, .inr (1, [.int t_turn', .int t_oldest', .int t_kept'])), (a_p0, .inr (0, [.int p0_count, .ref a_p0_bytes])), (a_p0_bytes, .inl ((cA 1), n_p0_bytes, .inl p0_bytes))] H := hP
      have hD : va_D A [(a_t, .inr (1, [.int t_turn', .int t_oldest', .int t_kept'])), (a_p0, .inr (0, [.int p0_count, .ref a_p0_bytes])), (a_p0_bytes, .inl ((cA 1), n_p0_bytes, .inl p0_bytes))] := hD
      refine lv_if_eq (tgt := 49) hx hb d_Hd_find_27 (by decide) (fun c_3 => ?_) (fun c_3 => ?_)
      · replace hf := (if_pos c_3).symm.trans hf
        refine lv_iinc (v := (x2 + (1 : Int32))) (lv' := [(2, .int (x2 + (1 : Int32))), (0, .ref a_t), (1, .ref a_p0)]) hx hb d_Hd_find_49 hl (k := 2) rfl rfl (by decide) rfl (fun ls hl => ?_)
        refine lv_goto (tgt := 17) hx hb d_Hd_find_52 (by decide) ?_
        exact ih t_turn' t_oldest' t_kept' (x2 + (1 : Int32)) _ _ hf (hP.sub [0, 1, 2] rfl) (hD.sub [0, 1, 2] (by decide) rfl) hS ls (lv_sub hl [1, 2, 0] rfl)
      · replace hf := (if_neg c_3).symm.trans hf
        refine lv_aload_n hx hb d_Hd_find_30 rfl (lv_at hl 1 rfl) ?_
        refine lv_iload_n hx hb d_Hd_find_31 rfl (lv_at hl 2 rfl) ?_
        refine lv_iconst (v := 0) hx hb d_Hd_find_32 (by decide) ?_
        obtain ⟨o_4, ho_4, hf⟩ := hk_bd hf
        refine q_i (wr := [(a_t, .inr (1, [.int t_turn', .int t_oldest', .int t_kept']))]) (va_runV (As := [.int x2, .int (0 : Int32)]) (rest := []) ⟨hx, hb, hml, hown, hts⟩ (c_Bl_u32 l D cA a_p0 a_p0_bytes _ p0_count n_p0_bytes p0_bytes x2 (0 : Int32) o_4 ho_4) (cwV 2 hts (gd_V gm_51 gm_26 gm_27 gm_5 gm_24) rfl rfl rfl (by decide +kernel) ⟨Nat.le_of_ble_eq_true rfl, Nat.le_of_ble_eq_true rfl⟩) (q_pV hK hP hD hS hA hE [1, 2] (by decide) rfl rfl rfl rfl) rfl rfl hl.1 rfl (lv_room (Nat.le_of_ble_eq_true rfl)) d_Hd_find_33 ⟨Nat.zero_le _, Nat.zero_le _⟩) hP hD hS hA [1, 2] [0] rfl rfl (by decide) (by decide) (fun H locs hP hD hS => ?_)
        have hP : va_P D classes [(a_t, .inr (1, [.int t_turn', .int t_oldest', .int t_kept'])), (a_p0, .inr (0, [.int p0_count, .ref a_p0_bytes])), (a_p0_bytes, .inl ((cA 1), n_p0_bytes, .inl p0_bytes))] H := hP
        have hD : va_D A [(a_t, .inr (1, [.int t_turn', .int t_oldest', .int t_kept'])), (a_p0, .inr (0, [.int p0_count, .ref a_p0_bytes])), (a_p0_bytes, .inl ((cA 1), n_p0_bytes, .inl p0_bytes))] := hD
        refine lv_aload_n hx hb d_Hd_find_36 rfl (lv_at hl 0 rfl) ?_
        refine va_get (D := D) (ci := 1) (v := .int t_turn') (C := R_Hd) (T := F_Hd) (N := 3) hx hb hts (fun w9 h9 => .tail _ (gu_Hd w9 h9)) hown hK hP 0 rfl rfl 0 (by decide) (hts _ (.tail _ gm_52)) (fun _ h9 => h9) rfl d_Hd_find_37 ?_
        refine lv_icmp_le (tgt := 49) hx hb d_Hd_find_40 (by decide) (fun c_5 => ?_) (fun c_5 => ?_)
        · replace hf := (if_pos c_5).symm.trans hf
          refine lv_iinc (v := (x2 + (1 : Int32))) (lv' := [(2, .int (x2 + (1 : Int32))), (0, .ref a_t), (1, .ref a_p0)]) hx hb d_Hd_find_49 hl (k := 2) rfl rfl (by decide) rfl (fun ls hl => ?_)
          refine lv_goto (tgt := 17) hx hb d_Hd_find_52 (by decide) ?_
          exact ih t_turn' t_oldest' t_kept' (x2 + (1 : Int32)) _ _ hf (hP.sub [0, 1, 2] rfl) (hD.sub [0, 1, 2] (by decide) rfl) hS ls (lv_sub hl [1, 2, 0] rfl)
        · replace hf := (if_neg c_5).symm.trans hf
          refine lv_aload_n hx hb d_Hd_find_43 rfl (lv_at hl 0 rfl) ?_
          refine lv_aload_n hx hb d_Hd_find_44 rfl (lv_at hl 1 rfl) ?_
          refine lv_iload_n hx hb d_Hd_find_45 rfl (lv_at hl 2 rfl) ?_
          obtain ⟨o_6, ho_6, hf⟩ := hk_bd hf
          refine q_v (wr := []) (va_runV (As := [.ref a_p0, .int x2]) (rest := []) ⟨hx, hb, hml, hown, hts⟩ (c_Hd_readFrom l D cA a_t a_p0 a_p0_bytes _ t_turn' t_oldest' t_kept' p0_count n_p0_bytes p0_bytes x2 o_6 ho_6) (cwV 2 hts (gd_V gm_71 gm_72 gm_73 gm_62 gm_70) rfl rfl rfl (by decide +kernel) ⟨Nat.le_of_ble_eq_true rfl, Nat.le_of_ble_eq_true rfl⟩) (q_pV hK hP hD hS hA hE [0, 1, 2] (by decide) rfl rfl rfl rfl) rfl rfl hl.1 rfl (lv_room (Nat.le_of_ble_eq_true rfl)) d_Hd_find_46 ⟨Nat.zero_le _, Nat.zero_le _⟩) hP hD hS hA [0, 1, 2] [] rfl rfl (by decide) (by decide) (fun H locs hP hD hS => ?_)
          have hP : va_P D classes [(a_t, .inr (1, [.int o_6.1, .int o_6.2.1, .int o_6.2.2])), (a_p0, .inr (0, [.int p0_count, .ref a_p0_bytes])), (a_p0_bytes, .inl ((cA 1), n_p0_bytes, .inl p0_bytes))] H := hP
          have hD : va_D A [(a_t, .inr (1, [.int o_6.1, .int o_6.2.1, .int o_6.2.2])), (a_p0, .inr (0, [.int p0_count, .ref a_p0_bytes])), (a_p0_bytes, .inl ((cA 1), n_p0_bytes, .inl p0_bytes))] := hD
          refine lv_iinc (v := (x2 + (1 : Int32))) (lv' := [(2, .int (x2 + (1 : Int32))), (0, .ref a_t), (1, .ref a_p0)]) hx hb d_Hd_find_49 hl (k := 2) rfl rfl (by decide) rfl (fun ls hl => ?_)
          refine lv_goto (tgt := 17) hx hb d_Hd_find_52 (by decide) ?_
          exact ih o_6.1 o_6.2.1 o_6.2.2 (x2 + (1 : Int32)) _ _ hf (hP.sub [0, 1, 2] rfl) (hD.sub [0, 1, 2] (by decide) rfl) hS ls (lv_sub hl [1, 2, 0] rfl)
set_option maxHeartbeats 4000000 in
set_option maxRecDepth 100000 in
theorem c_Hd_find (l : Launch) (D : va_G) (cA : Nat → ClassId) (a_t a_p0 a_p0_bytes : Nat) (sz : Nat) (t_turn : Int32) (t_oldest : Int32) (t_kept : Int32) (p0_count : Int32) (n_p0_bytes : Nat) (p0_bytes : Nat → Int32) (o : Int32 × Int32 × Int32) (hf : f_Hd_find t_turn t_oldest t_kept p0_count n_p0_bytes p0_bytes = some o) : Met l y_Hd_find wd_Hd_find ({ frames := 4, cells := 0, slots := 0, locals := 88 }) (va_Pc [.ref a_t, .ref a_p0] (aP D cA [(a_t, .inr (1, [.int t_turn, .int t_oldest, .int t_kept])), (a_p0, .inr (0, [.int p0_count, .ref a_p0_bytes])), (a_p0_bytes, .inl ((cA 1), n_p0_bytes, .inl p0_bytes))] sz)) (va_Qv (fun (_ : Unit) => True) (fun _ => aR D cA (va_A [(a_t, .inr (1, [.int t_turn, .int t_oldest, .int t_kept])), (a_p0, .inr (0, [.int p0_count, .ref a_p0_bytes])), (a_p0_bytes, .inl ((cA 1), n_p0_bytes, .inl p0_bytes))] sz) [(a_t, .inr (1, [.int o.1, .int o.2.1, .int o.2.2])), (a_p0, .inr (0, [.int p0_count, .ref a_p0_bytes])), (a_p0_bytes, .inl ((cA 1), n_p0_bytes, .inl p0_bytes))]) (va_A [(a_t, .inr (1, [.int t_turn, .int t_oldest, .int t_kept])), (a_p0, .inr (0, [.int p0_count, .ref a_p0_bytes])), (a_p0_bytes, .inl ((cA 1), n_p0_bytes, .inl p0_bytes))] sz)) 0 0 (va_A [(a_t, .inr (1, [.int t_turn, .int t_oldest, .int t_kept])), (a_p0, .inr (0, [.int p0_count, .ref a_p0_bytes])), (a_p0_bytes, .inl ((cA 1), n_p0_bytes, .inl p0_bytes))] sz) := by
  refine Met.ofW (cc := b_Hd_find) (maxL := 3) (ret := none) (by decide +kernel) rfl ?_
  intro p e s m args below meth c s₁ B hml hv
  obtain ⟨rfl, hsz, hP, hK, hD0, hE⟩ := hv
  have hx := B.exec
  have hb := B.bytes
  have hr := B.returns
  have hts := atoms_spec (ws := wd_Hd_find) B.pre
  have hown : s.vm.findClass R_Hd = some m.cls := findClass_of_methodNamed B.named
  have hlocks := B.notSynchronized
  subst hsz
  have hD := hD0.self (sz := s.heap.size)
  generalize hAe : va_A [(a_t, .inr (1, [.int t_turn, .int t_oldest, .int t_kept])), (a_p0, .inr (0, [.int p0_count, .ref a_p0_bytes])), (a_p0_bytes, .inl ((cA 1), n_p0_bytes, .inl p0_bytes))] s.heap.size = A at hD hE ⊢
  have hA : ∀ q : Nat, s.heap.size ≤ q → A q := fun q h => by rw [← hAe]; exact Or.inr h
  have hS : va_S A s.heap s.heap [] := va_S.rf
  have hl := lv_entry [.ref a_t, .ref a_p0] (n := 3) (Nat.le_of_ble_eq_true rfl)
  rw [lg_entry_eq]
  generalize (lg_sl [.ref a_t, .ref a_p0] ++ List.replicate (3 - (lg_sl [.ref a_t, .ref a_p0]).length) Slot.unset).toArray = ls at hl ⊢
  have hl : lv_has ls 3 [(0, .ref a_t), (1, .ref a_p0)] := hl
  unfold f_Hd_find at hf
  refine lv_aload_n hx hb d_Hd_find_0 rfl (lv_at hl 0 rfl) ?_
  refine lv_iconst (v := 0) hx hb d_Hd_find_1 (by decide) ?_
  refine va_put (D := D) (ci := 1) (v := .int (0 : Int32)) (ty := .int) (C := R_Hd) (T := F_Hd) (N := 3) hx hb hts (fun w9 h9 => .tail _ (gu_Hd w9 h9)) t_Hd t_Hd_ok n_Hd hown hK hP hD hS 0 rfl rfl 0 (by decide) (hts _ (.tail _ gm_52)) (fun _ h9 => h9) rfl (by decide +kernel) rfl rfl (Nat.le_of_ble_eq_true rfl) d_Hd_find_2 (fun H locs hP hD hS => ?_)
  have hP : va_P D classes [(a_t, .inr (1, [.int (0 : Int32), .int t_oldest, .int t_kept])), (a_p0, .inr (0, [.int p0_count, .ref a_p0_bytes])), (a_p0_bytes, .inl ((cA 1), n_p0_bytes, .inl p0_bytes))] H := hP
  have hD : va_D A [(a_t, .inr (1, [.int (0 : Int32), .int t_oldest, .int t_kept])), (a_p0, .inr (0, [.int p0_count, .ref a_p0_bytes])), (a_p0_bytes, .inl ((cA 1), n_p0_bytes, .inl p0_bytes))] := hD
  refine lv_aload_n hx hb d_Hd_find_5 rfl (lv_at hl 0 rfl) ?_
  refine lv_iconst (v := 1) hx hb d_Hd_find_6 (by decide) ?_
  refine va_put (D := D) (ci := 1) (v := .int (1 : Int32)) (ty := .int) (C := R_Hd) (T := F_Hd) (N := 3) hx hb hts (fun w9 h9 => .tail _ (gu_Hd w9 h9)) t_Hd t_Hd_ok n_Hd hown hK hP hD hS 0 rfl rfl 1 (by decide) (hts _ (.tail _ gm_53)) (fun _ h9 => h9) rfl (by decide +kernel) rfl rfl (Nat.le_of_ble_eq_true rfl) d_Hd_find_7 (fun H locs hP hD hS => ?_)
  have hP : va_P D classes [(a_t, .inr (1, [.int (0 : Int32), .int (1 : Int32), .int t_kept])), (a_p0, .inr (0, [.int p0_count, .ref a_p0_bytes])), (a_p0_bytes, .inl ((cA 1), n_p0_bytes, .inl p0_bytes))] H := hP
  have hD : va_D A [(a_t, .inr (1, [.int (0 : Int32), .int (1 : Int32), .int t_kept])), (a_p0, .inr (0, [.int p0_count, .ref a_p0_bytes])), (a_p0_bytes, .inl ((cA 1), n_p0_bytes, .inl p0_bytes))] := hD
  refine lv_aload_n hx hb d_Hd_find_10 rfl (lv_at hl 0 rfl) ?_
  refine lv_iconst (v := 1) hx hb d_Hd_find_11 (by decide) ?_
  refine va_put (D := D) (ci := 1) (v := .int (1 : Int32)) (ty := .int) (C := R_Hd) (T := F_Hd) (N := 3) hx hb hts (fun w9 h9 => .tail _ (gu_Hd w9 h9)) t_Hd t_Hd_ok n_Hd hown hK hP hD hS 0 rfl rfl 2 (by decide) (hts _ (.tail _ gm_54)) (fun _ h9 => h9) rfl (by decide +kernel) rfl rfl (Nat.le_of_ble_eq_true rfl) d_Hd_find_12 (fun H locs hP hD hS => ?_)
  have hP : va_P D classes [(a_t, .inr (1, [.int (0 : Int32), .int (1 : Int32), .int (1 : Int32)])), (a_p0, .inr (0, [.int p0_count, .ref a_p0_bytes])), (a_p0_bytes, .inl ((cA 1), n_p0_bytes, .inl p0_bytes))] H := hP
  have hD : va_D A [(a_t, .inr (1, [.int (0 : Int32), .int (1 : Int32), .int (1 : Int32)])), (a_p0, .inr (0, [.int p0_count, .ref a_p0_bytes])), (a_p0_bytes, .inl ((cA 1), n_p0_bytes, .inl p0_bytes))] := hD
  refine lv_iconst (v := 0) hx hb d_Hd_find_15 (by decide) ?_
  refine lv_istore_n (lv' := [(2, .int (0 : Int32)), (0, .ref a_t), (1, .ref a_p0)]) hx hb d_Hd_find_16 rfl hl (by decide) rfl (fun ls hl => ?_)
  exact k_Hd_find_L17 hx hb hr hml hown hts hlocks hA hE hK a_t a_p0 a_p0_bytes t_turn t_oldest t_kept p0_count n_p0_bytes p0_bytes _ _ (0 : Int32) (1 : Int32) (1 : Int32) (0 : Int32) _ _ hf (hP.sub [0, 1, 2] rfl) (hD.sub [0, 1, 2] (by decide) rfl) hS ls (lv_sub hl [1, 2, 0] rfl)
