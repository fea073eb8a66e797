theorem gm_74 : (.methodLink R_Pg 20 y_Ma_floorMod : Cond) ∈ gw := gw_in (i := 224) (by decide +kernel) rfl
theorem gm_75 : (.code y_Pg_rowOf b_Pg_rowOf 1 (some .int) : Cond) ∈ gw := gw_in (i := 223) (by decide +kernel) rfl
theorem gm_76 : (.methodLink R_Pg 26 y_Pg_rowOf : Cond) ∈ gw := gw_in (i := 221) (by decide +kernel) rfl
theorem gm_77 : (.static y_Pg_rowOf : Cond) ∈ gw := gw_in (i := 222) (by decide +kernel) rfl
theorem gm_78 : (.initialized R_Pg : Cond) ∈ gw := gw_in (i := 29) (by decide +kernel) rfl
theorem gm_79 : (.fieldLink R_Pg 30 "RoundJournal$Pages" "open" "I" : Cond) ∈ gw := gw_in (i := 102) (by decide +kernel) rfl
theorem gm_80 : (.fieldLink R_Pg 34 "RoundJournal$Pages" "used" "I" : Cond) ∈ gw := gw_in (i := 103) (by decide +kernel) rfl
theorem gm_81 : (.fieldLink R_Pg 37 "RoundJournal$Pages" "next" "I" : Cond) ∈ gw := gw_in (i := 104) (by decide +kernel) rfl
theorem gm_82 : (.fieldLink R_Pg 14 "RoundJournal$Pages" "rows" "LRoundJournal$Blocks;" : Cond) ∈ gw := gw_in (i := 99) (by decide +kernel) rfl
theorem gm_83 : (.methodLink R_Pg 40 y_Bl_clear : Cond) ∈ gw := gw_in (i := 227) (by decide +kernel) rfl
theorem gm_84 : (.methodLink R_Pg 43 y_Bl_setU32 : Cond) ∈ gw := gw_in (i := 228) (by decide +kernel) rfl
theorem gm_85 : (.code y_Bl_copyFrom b_Bl_copyFrom 5 none : Cond) ∈ gw := gw_in (i := 297) (by decide +kernel) rfl
theorem gm_86 : (.methodLink R_Pg 47 y_Bl_copyFrom : Cond) ∈ gw := gw_in (i := 521) (by decide +kernel) rfl
theorem gm_87 : (.instanceMethod y_Bl_copyFrom : Cond) ∈ gw := gw_in (i := 295) (by decide +kernel) rfl
theorem gm_88 : (.selects R_Bl y_Bl_copyFrom y_Bl_copyFrom : Cond) ∈ gw := gw_in (i := 296) (by decide +kernel) rfl
theorem gm_89 : (.code y_Bl_get b_Bl_get 3 (some .int) : Cond) ∈ gw := gw_in (i := 284) (by decide +kernel) rfl
theorem gm_90 : (.methodLink R_Pg 65 y_Bl_get : Cond) ∈ gw := gw_in (i := 281) (by decide +kernel) rfl
theorem gm_91 : (.instanceMethod y_Bl_get : Cond) ∈ gw := gw_in (i := 282) (by decide +kernel) rfl
theorem gm_92 : (.selects R_Bl y_Bl_get y_Bl_get : Cond) ∈ gw := gw_in (i := 283) (by decide +kernel) rfl
theorem gm_93 : (.code y_Pg_byteAt b_Pg_byteAt 3 (some .int) : Cond) ∈ gw := gw_in (i := 280) (by decide +kernel) rfl
theorem gm_94 : (.methodLink R_Pg 51 y_Pg_byteAt : Cond) ∈ gw := gw_in (i := 277) (by decide +kernel) rfl
theorem gm_95 : (.instanceMethod y_Pg_byteAt : Cond) ∈ gw := gw_in (i := 278) (by decide +kernel) rfl
theorem gm_96 : (.selects R_Pg y_Pg_byteAt y_Pg_byteAt : Cond) ∈ gw := gw_in (i := 279) (by decide +kernel) rfl
theorem gm_97 : (.methodLink R_Pg 54 y_Bl_set : Cond) ∈ gw := gw_in (i := 459) (by decide +kernel) rfl
theorem gm_98 : (.code y_Pg_openCount b_Pg_openCount 1 (some .int) : Cond) ∈ gw := gw_in (i := 276) (by decide +kernel) rfl
theorem gm_99 : (.methodLink R_Pg 61 y_Pg_openCount : Cond) ∈ gw := gw_in (i := 464) (by decide +kernel) rfl
theorem gm_100 : (.instanceMethod y_Pg_openCount : Cond) ∈ gw := gw_in (i := 274) (by decide +kernel) rfl
theorem gm_101 : (.selects R_Pg y_Pg_openCount y_Pg_openCount : Cond) ∈ gw := gw_in (i := 275) (by decide +kernel) rfl
theorem gm_102 : (.code y_Tp_byteAt b_Tp_byteAt 2 (some .int) : Cond) ∈ gw := gw_in (i := 463) (by decide +kernel) rfl
theorem gm_103 : (.methodLink R_Pg 57 y_Tp_byteAt : Cond) ∈ gw := gw_in (i := 460) (by decide +kernel) rfl
theorem gm_104 : (.instanceMethod y_Tp_byteAt : Cond) ∈ gw := gw_in (i := 461) (by decide +kernel) rfl
theorem gm_105 : (.selects R_Tp y_Tp_byteAt y_Tp_byteAt : Cond) ∈ gw := gw_in (i := 462) (by decide +kernel) rfl
theorem gm_106 : (.initialized R_Tp : Cond) ∈ gw := gw_in (i := 32) (by decide +kernel) rfl
theorem gm_107 : (.fieldLink R_Wt 20 "RoundJournal$Waiting" "places" "[I" : Cond) ∈ gw := gw_in (i := 80) (by decide +kernel) rfl
theorem gm_108 : (.fieldLink R_Wt 24 "RoundJournal$Waiting" "count" "I" : Cond) ∈ gw := gw_in (i := 81) (by decide +kernel) rfl
theorem gm_109 : (.code y_Pg_placeOf b_Pg_placeOf 1 (some .int) : Cond) ∈ gw := gw_in (i := 293) (by decide +kernel) rfl
theorem gm_110 : (.methodLink R_Wt 28 y_Pg_placeOf : Cond) ∈ gw := gw_in (i := 291) (by decide +kernel) rfl
theorem gm_111 : (.static y_Pg_placeOf : Cond) ∈ gw := gw_in (i := 292) (by decide +kernel) rfl
theorem gm_112 : (.fieldLink R_Wt 14 "RoundJournal$Waiting" "blocks" "LRoundJournal$Blocks;" : Cond) ∈ gw := gw_in (i := 78) (by decide +kernel) rfl
theorem gm_113 : (.methodLink R_Wt 34 y_Bl_copyFrom : Cond) ∈ gw := gw_in (i := 294) (by decide +kernel) rfl
theorem gm_114 : (.methodLink R_Wt 38 y_Hd_placeOf : Cond) ∈ gw := gw_in (i := 330) (by decide +kernel) rfl
theorem gm_115 : (.code y_Hd_fill b_Hd_fill 5 none : Cond) ∈ gw := gw_in (i := 173) (by decide +kernel) rfl
theorem gm_116 : (.methodLink R_Wt 41 y_Hd_fill : Cond) ∈ gw := gw_in (i := 331) (by decide +kernel) rfl
theorem gm_117 : (.static y_Hd_fill : Cond) ∈ gw := gw_in (i := 172) (by decide +kernel) rfl
theorem d_Pg_rowOf_0 : decode b_Pg_rowOf 0 = .ok (.iload_n 0, 1) := by decide +kernel
theorem d_Pg_rowOf_1 : decode b_Pg_rowOf 1 = .ok (.iconst 1, 1) := by decide +kernel
theorem d_Pg_rowOf_2 : decode b_Pg_rowOf 2 = .ok (.isub, 1) := by decide +kernel
theorem d_Pg_rowOf_3 : decode b_Pg_rowOf 3 = .ok (.bipush 30, 2) := by decide +kernel
theorem d_Pg_rowOf_5 : decode b_Pg_rowOf 5 = .ok (.invokestatic 20, 3) := by decide +kernel
theorem d_Pg_rowOf_8 : decode b_Pg_rowOf 8 = .ok (.ireturn, 1) := by decide +kernel
abbrev wd_Pg_rowOf : List Cond := .code y_Pg_rowOf b_Pg_rowOf 1 (some .int) :: gw
def f_Pg_rowOf (p0 : Int32) : Option (Int32) :=
  (f_Ma_floorMod (p0 - (1 : Int32)) (30 : Int32)).bind fun o_1 =>
  some o_1
set_option maxHeartbeats 4000000 in
set_option maxRecDepth 100000 in
theorem c_Pg_rowOf (l : Launch) (D : va_G) (cA : Nat → ClassId) (sz : Nat) (p0 : Int32) (o : Int32) (hf : f_Pg_rowOf p0 = some o) : Met l y_Pg_rowOf wd_Pg_rowOf ({ frames := 1, cells := 0, slots := 0, locals := 22 }) (va_Pc [.int p0] (aP D cA [] sz)) (va_Qi (fun r9 (_ : Unit) => r9 = o) (fun _ => aR D cA (va_A [] sz) []) (va_A [] sz)) 0 0 (va_A [] sz) := by
  refine Met.ofW (cc := b_Pg_rowOf) (maxL := 1) (ret := (some .int)) (by decide +kernel) rfl ?_
  intro p e s m args below meth c s₁ B hml hv
  obtain ⟨rfl, hsz, hP, hK, hD0, hE⟩ := hv
  have hx := B.exec
  have hb := B.bytes
  have hr := B.returns
  have hts := atoms_spec (ws := wd_Pg_rowOf) B.pre
  have hown : s.vm.findClass R_Pg = some m.cls := findClass_of_methodNamed B.named
  have hlocks := B.notSynchronized
  subst hsz
  have hD := hD0.self (sz := s.heap.size)
  generalize hAe : va_A [] s.heap.size = A at hD hE ⊢
  have hA : ∀ q : Nat, s.heap.size ≤ q → A q := fun q h => by rw [← hAe]; exact Or.inr h
  have hS : va_S A s.heap s.heap [] := va_S.rf
  have hl := lv_entry [.int p0] (n := 1) (Nat.le_of_ble_eq_true rfl)
  rw [lg_entry_eq]
  generalize (lg_sl [.int p0] ++ List.replicate (1 - (lg_sl [.int p0]).length) Slot.unset).toArray = ls at hl ⊢
  have hl : lv_has ls 1 [(0, .int p0)] := hl
  unfold f_Pg_rowOf at hf
  refine lv_iload_n hx hb d_Pg_rowOf_0 rfl (lv_at hl 0 rfl) ?_
  refine lv_iconst (v := 1) hx hb d_Pg_rowOf_1 (by decide) ?_
  refine lv_isub hx hb d_Pg_rowOf_2 ?_
  refine lv_bipush (v := 30) hx hb d_Pg_rowOf_3 (by decide) ?_
  obtain ⟨o_1, ho_1, hf⟩ := hk_bd hf
  refine q_i (wr := []) (va_runS (As := [.int (p0 - (1 : Int32)), .int (30 : Int32)]) (rest := []) ⟨hx, hb, hml, hown, hts⟩ (c_Ma_floorMod l D cA _ (p0 - (1 : Int32)) (30 : Int32) o_1 ho_1) (va_cwS 2 hts (gd_S gm_74 gm_34 gm_35 gm_32) rfl rfl rfl (by decide +kernel) ⟨Nat.le_of_ble_eq_true rfl, Nat.le_of_ble_eq_true rfl⟩) (q_pS hK hP hD hS hA hE [] (by decide) rfl) rfl rfl hl.1 rfl (lv_room (Nat.le_of_ble_eq_true rfl)) d_Pg_rowOf_5 ⟨Nat.zero_le _, Nat.zero_le _⟩) hP hD hS hA [] [] rfl rfl (by decide) (by decide) (fun H locs hP hD hS => ?_)
  have hP : va_P D classes [] H := hP
  have hD : va_D A [] := hD
  have ho9 := Option.some.inj hf
  subst ho9
  have hP9 := hP.sub (ws' := []) [] rfl
  have hD9 := hD.sub (ws' := []) [] (by decide) rfl
  exact W.iret (v := o_1) hx hb hr (fun t ht hW => ⟨⟨_, (), rfl, rfl, by rw [ht]; exact hP9, va_K.moved hW.alike hK, hD9⟩, hS.F ht⟩) hS.2.2 d_Pg_rowOf_8
theorem d_Pg_placeOf_0 : decode b_Pg_placeOf 0 = .ok (.iconst 2, 1) := by decide +kernel
theorem d_Pg_placeOf_1 : decode b_Pg_placeOf 1 = .ok (.iload_n 0, 1) := by decide +kernel
theorem d_Pg_placeOf_2 : decode b_Pg_placeOf 2 = .ok (.invokestatic 26, 3) := by decide +kernel
theorem d_Pg_placeOf_5 : decode b_Pg_placeOf 5 = .ok (.iadd, 1) := by decide +kernel
theorem d_Pg_placeOf_6 : decode b_Pg_placeOf 6 = .ok (.ireturn, 1) := by decide +kernel
abbrev wd_Pg_placeOf : List Cond := .code y_Pg_placeOf b_Pg_placeOf 1 (some .int) :: gw
def f_Pg_placeOf (p0 : Int32) : Option (Int32) :=
  (f_Pg_rowOf p0).bind fun o_1 =>
  some ((2 : Int32) + o_1)
set_option maxHeartbeats 4000000 in
set_option maxRecDepth 100000 in
theorem c_Pg_placeOf (l : Launch) (D : va_G) (cA : Nat → ClassId) (sz : Nat) (p0 : Int32) (o : Int32) (hf : f_Pg_placeOf p0 = some o) : Met l y_Pg_placeOf wd_Pg_placeOf ({ frames := 2, cells := 0, slots := 0, locals := 42 }) (va_Pc [.int p0] (aP D cA [] sz)) (va_Qi (fun r9 (_ : Unit) => r9 = o) (fun _ => aR D cA (va_A [] sz) []) (va_A [] sz)) 0 0 (va_A [] sz) := by
  refine Met.ofW (cc := b_Pg_placeOf) (maxL := 1) (ret := (some .int)) (by decide +kernel) rfl ?_
  intro p e s m args below meth c s₁ B hml hv
  obtain ⟨rfl, hsz, hP, hK, hD0, hE⟩ := hv
  have hx := B.exec
  have hb := B.bytes
  have hr := B.returns
  have hts := atoms_spec (ws := wd_Pg_placeOf) B.pre
  have hown : s.vm.findClass R_Pg = some m.cls := findClass_of_methodNamed B.named
  have hlocks := B.notSynchronized
  subst hsz
  have hD := hD0.self (sz := s.heap.size)
  generalize hAe : va_A [] s.heap.size = A at hD hE ⊢
  have hA : ∀ q : Nat, s.heap.size ≤ q → A q := fun q h => by rw [← hAe]; exact Or.inr h
  have hS : va_S A s.heap s.heap [] := va_S.rf
  have hl := lv_entry [.int p0] (n := 1) (Nat.le_of_ble_eq_true rfl)
  rw [lg_entry_eq]
  generalize (lg_sl [.int p0] ++ List.replicate (1 - (lg_sl [.int p0]).length) Slot.unset).toArray = ls at hl ⊢
  have hl : lv_has ls 1 [(0, .int p0)] := hl
  unfold f_Pg_placeOf at hf
  refine lv_iconst (v := 2) hx hb d_Pg_placeOf_0 (by decide) ?_
  refine lv_iload_n hx hb d_Pg_placeOf_1 rfl (lv_at hl 0 rfl) ?_
  obtain ⟨o_1, ho_1, hf⟩ := hk_bd hf
  refine q_i (wr := []) (va_runS (As := [.int p0]) (rest := [.int (2 : Int32)]) ⟨hx, hb, hml, hown, hts⟩ (c_Pg_rowOf l D cA _ p0 o_1 ho_1) (va_cwS 1 hts (gd_S gm_76 gm_77 gm_78 gm_75) rfl rfl rfl (by decide +kernel) ⟨Nat.le_of_ble_eq_true rfl, Nat.le_of_ble_eq_true rfl⟩) (q_pS hK hP hD hS hA hE [] (by decide) rfl) rfl rfl hl.1 rfl (lv_room (Nat.le_of_ble_eq_true rfl)) d_Pg_placeOf_2 ⟨Nat.zero_le _, Nat.zero_le _⟩) hP hD hS hA [] [] rfl rfl (by decide) (by decide) (fun H locs hP hD hS => ?_)
  have hP : va_P D classes [] H := hP
  have hD : va_D A [] := hD
  refine lv_iadd hx hb d_Pg_placeOf_5 ?_
  have ho9 := Option.some.inj hf
  subst ho9
  have hP9 := hP.sub (ws' := []) [] rfl
  have hD9 := hD.sub (ws' := []) [] (by decide) rfl
  exact W.iret (v := ((2 : Int32) + o_1)) hx hb hr (fun t ht hW => ⟨⟨_, (), rfl, rfl, by rw [ht]; exact hP9, va_K.moved hW.alike hK, hD9⟩, hS.F ht⟩) hS.2.2 d_Pg_placeOf_6
theorem d_Pg_restart_0 : decode b_Pg_restart 0 = .ok (.aload_n 0, 1) := by decide +kernel
theorem d_Pg_restart_1 : decode b_Pg_restart 1 = .ok (.iconst 0, 1) := by decide +kernel
theorem d_Pg_restart_2 : decode b_Pg_restart 2 = .ok (.putfield 30, 3) := by decide +kernel
theorem d_Pg_restart_5 : decode b_Pg_restart 5 = .ok (.aload_n 0, 1) := by decide +kernel
theorem d_Pg_restart_6 : decode b_Pg_restart 6 = .ok (.iconst 0, 1) := by decide +kernel
theorem d_Pg_restart_7 : decode b_Pg_restart 7 = .ok (.putfield 34, 3) := by decide +kernel
theorem d_Pg_restart_10 : decode b_Pg_restart 10 = .ok (.aload_n 0, 1) := by decide +kernel
theorem d_Pg_restart_11 : decode b_Pg_restart 11 = .ok (.iload_n 1, 1) := by decide +kernel
theorem d_Pg_restart_12 : decode b_Pg_restart 12 = .ok (.putfield 37, 3) := by decide +kernel
theorem d_Pg_restart_15 : decode b_Pg_restart 15 = .ok (.return_, 1) := by decide +kernel
abbrev wd_Pg_restart : List Cond := .code y_Pg_restart b_Pg_restart 2 none :: gw
def f_Pg_restart (t_rows_count : Int32) (n_t_rows_bytes : Nat) (t_rows_bytes : Nat → Int32) (t_open : Int32) (t_used : Int32) (t_next : Int32) (p0 : Int32) : Option (Int32 × Int32 × Int32) :=
  some ((0 : Int32), (0 : Int32), p0)
set_option maxHeartbeats 4000000 in
set_option maxRecDepth 100000 in
theorem c_Pg_restart (l : Launch) (D : va_G) (cA : Nat → ClassId) (a_t a_t_rows a_t_rows_bytes : Nat) (sz : Nat) (t_rows_count : Int32) (n_t_rows_bytes : Nat) (t_rows_bytes : Nat → Int32) (t_open : Int32) (t_used : Int32) (t_next : Int32) (p0 : Int32) (o : Int32 × Int32 × Int32) (hf : f_Pg_restart t_rows_count n_t_rows_bytes t_rows_bytes t_open t_used t_next p0 = some o) : Met l y_Pg_restart wd_Pg_restart ({ frames := 0, cells := 0, slots := 0, locals := 0 }) (va_Pc [.ref a_t, .int p0] (aP D cA [(a_t, .inr (2, [.ref a_t_rows, .int t_open, .int t_used, .int t_next])), (a_t_rows, .inr (0, [.int t_rows_count, .ref a_t_rows_bytes])), (a_t_rows_bytes, .inl ((cA 1), n_t_rows_bytes, .inl t_rows_bytes))] sz)) (va_Qv (fun (_ : Unit) => True) (fun _ => aR D cA (va_A [(a_t, .inr (2, [.ref a_t_rows, .int t_open, .int t_used, .int t_next])), (a_t_rows, .inr (0, [.int t_rows_count, .ref a_t_rows_bytes])), (a_t_rows_bytes, .inl ((cA 1), n_t_rows_bytes, .inl t_rows_bytes))] sz) [(a_t, .inr (2, [.ref a_t_rows, .int o.1, .int o.2.1, .int o.2.2])), (a_t_rows, .inr (0, [.int t_rows_count, .ref a_t_rows_bytes])), (a_t_rows_bytes, .inl ((cA 1), n_t_rows_bytes, .inl t_rows_bytes))]) (va_A [(a_t, .inr (2, [.ref a_t_rows, .int t_open, .int t_used, .int t_next])), (a_t_rows, .inr (0, [.int t_rows_count, .ref a_t_rows_bytes])), (a_t_rows_bytes, .inl ((cA 1), n_t_rows_bytes, .inl t_rows_bytes))] sz)) 0 0 (va_A [(a_t, .inr (2, [.ref a_t_rows, .int t_open, .int t_used, .int t_next])), (a_t_rows, .inr (0, [.int t_rows_count, .ref a_t_rows_bytes])), (a_t_rows_bytes, .inl ((cA 1), n_t_rows_bytes, .inl t_rows_bytes))] sz) := by
  refine Met.ofW (cc := b_Pg_restart) (maxL := 2) (ret := none) (by decide +kernel) rfl ?_
  intro p e s m args below meth c s₁ B hml hv
  obtain ⟨rfl, hsz, hP, hK, hD0, hE⟩ := hv
  have hx := B.exec
  have hb := B.bytes
  have hr := B.returns
  have hts := atoms_spec (ws := wd_Pg_restart) B.pre
  have hown : s.vm.findClass R_Pg = some m.cls := findClass_of_methodNamed B.named
  have hlocks := B.notSynchronized
  subst hsz
  have hD := hD0.self (sz := s.heap.size)
  generalize hAe : va_A [(a_t, .inr (2, [.ref a_t_rows, .int t_open, .int t_used, .int t_next])), (a_t_rows, .inr (0, [.int t_rows_count, .ref a_t_rows_bytes])), (a_t_rows_bytes, .inl ((cA 1), n_t_rows_bytes, .inl t_rows_bytes))] s.heap.size = A at hD hE ⊢
  have hA : ∀ q : Nat, s.heap.size ≤ q → A q := fun q h => by rw [← hAe]; exact Or.inr h
  have hS : va_S A s.heap s.heap [] := va_S.rf
  have hl := lv_entry [.ref a_t, .int p0] (n := 2) (Nat.le_of_ble_eq_true rfl)
  rw [lg_entry_eq]
  generalize (lg_sl [.ref a_t, .int p0] ++ List.replicate (2 - (lg_sl [.ref a_t, .int p0]).length) Slot.unset).toArray = ls at hl ⊢
  have hl : lv_has ls 2 [(0, .ref a_t), (1, .int p0)] := hl
  unfold f_Pg_restart at hf
  refine lv_aload_n hx hb d_Pg_restart_0 rfl (lv_at hl 0 rfl) ?_
  refine lv_iconst (v := 0) hx hb d_Pg_restart_1 (by decide) ?_
  refine va_put (D := D) (ci := 2) (v := .int (0 : Int32)) (ty := .int) (C := R_Pg) (T := F_Pg) (N := 4) hx hb hts (fun w9 h9 => .tail _ (gu_Pg w9 h9)) t_Pg t_Pg_ok n_Pg hown hK hP hD hS 0 rfl rfl 1 (by decide) (hts _ (.tail _ gm_79)) (fun _ h9 => h9) rfl (by decide +kernel) rfl rfl (Nat.le_of_ble_eq_true rfl) d_Pg_restart_2 (fun H locs hP hD hS => ?_)
  have hP : va_P D classes [(a_t, .inr (2, [.ref a_t_rows, .int (0 : Int32), .int t_used, .int t_next])), (a_t_rows, .inr (0, [.int t_rows_count, .ref a_t_rows_bytes])), (a_t_rows_bytes, .inl ((cA 1), n_t_rows_bytes, .inl t_rows_bytes))] H := hP
  have hD : va_D A [(a_t, .inr (2, [.ref a_t_rows, .int (0 : Int32), .int t_used, .int t_next])), (a_t_rows, .inr (0, [.int t_rows_count, .ref a_t_rows_bytes])), (a_t_rows_bytes, .inl ((cA 1), n_t_rows_bytes, .inl t_rows_bytes))] := hD
  refine lv_aload_n hx hb d_Pg_restart_5 rfl (lv_at hl 0 rfl) ?_
  refine lv_iconst (v := 0) hx hb d_Pg_restart_6 (by decide) ?_
  refine va_put (D := D) (ci := 2) (v := .int (0 : Int32)) (ty := .int) (C := R_Pg) (T := F_Pg) (N := 4) hx hb hts (fun w9 h9 => .tail _ (gu_Pg w9 h9)) t_Pg t_Pg_ok n_Pg hown hK hP hD hS 0 rfl rfl 2 (by decide) (hts _ (.tail _ gm_80)) (fun _ h9 => h9) rfl (by decide +kernel) rfl rfl (Nat.le_of_ble_eq_true rfl) d_Pg_restart_7 (fun H locs hP hD hS => ?_)
  have hP : va_P D classes [(a_t, .inr (2, [.ref a_t_rows, .int (0 : Int32), .int (0 : Int32), .int t_next])), (a_t_rows, .inr (0, [.int t_rows_count, .ref a_t_rows_bytes])), (a_t_rows_bytes, .inl ((cA 1), n_t_rows_bytes, .inl t_rows_bytes))] H := hP
  have hD : va_D A [(a_t, .inr (2, [.ref a_t_rows, .int (0 : Int32), .int (0 : Int32), .int t_next])), (a_t_rows, .inr (0, [.int t_rows_count, .ref a_t_rows_bytes])), (a_t_rows_bytes, .inl ((cA 1), n_t_rows_bytes, .inl t_rows_bytes))] := hD
  refine lv_aload_n hx hb d_Pg_restart_10 rfl (lv_at hl 0 rfl) ?_
  refine lv_iload_n hx hb d_Pg_restart_11 rfl (lv_at hl 1 rfl) ?_
  refine va_put (D := D) (ci := 2) (v := .int p0) (ty := .int) (C := R_Pg) (T := F_Pg) (N := 4) hx hb hts (fun w9 h9 => .tail _ (gu_Pg w9 h9)) t_Pg t_Pg_ok n_Pg hown hK hP hD hS 0 rfl rfl 3 (by decide) (hts _ (.tail _ gm_81)) (fun _ h9 => h9) rfl (by decide +kernel) rfl rfl (Nat.le_of_ble_eq_true rfl) d_Pg_restart_12 (fun H locs hP hD hS => ?_)
  have hP : va_P D classes [(a_t, .inr (2, [.ref a_t_rows, .int (0 : Int32), .int (0 : Int32), .int p0])), (a_t_rows, .inr (0, [.int t_rows_count, .ref a_t_rows_bytes])), (a_t_rows_bytes, .inl ((cA 1), n_t_rows_bytes, .inl t_rows_bytes))] H := hP
  have hD : va_D A [(a_t, .inr (2, [.ref a_t_rows, .int (0 : Int32), .int (0 : Int32), .int p0])), (a_t_rows, .inr (0, [.int t_rows_count, .ref a_t_rows_bytes])), (a_t_rows_bytes, .inl ((cA 1), n_t_rows_bytes, .inl t_rows_bytes))] := hD
  have ho9 := Option.some.inj hf
  subst ho9
  have hP9 := hP.sub (ws' := [(a_t, .inr (2, [.ref a_t_rows, .int (0 : Int32), .int (0 : Int32), .int p0])), (a_t_rows, .inr (0, [.int t_rows_count, .ref a_t_rows_bytes])), (a_t_rows_bytes, .inl ((cA 1), n_t_rows_bytes, .inl t_rows_bytes))]) [0, 1, 2] rfl
  have hD9 := hD.sub (ws' := [(a_t, .inr (2, [.ref a_t_rows, .int (0 : Int32), .int (0 : Int32), .int p0])), (a_t_rows, .inr (0, [.int t_rows_count, .ref a_t_rows_bytes])), (a_t_rows_bytes, .inl ((cA 1), n_t_rows_bytes, .inl t_rows_bytes))]) [0, 1, 2] (by decide) rfl
  exact W.vret hx hb hr (fun t ht hW => ⟨⟨(), rfl, trivial, by rw [ht]; exact hP9, va_K.moved hW.alike hK, hD9⟩, hS.F ht⟩) hS.2.2 d_Pg_restart_15
theorem d_Pg_openNext_0 : decode b_Pg_openNext 0 = .ok (.aload_n 0, 1) := by decide +kernel
theorem d_Pg_openNext_1 : decode b_Pg_openNext 1 = .ok (.aload_n 0, 1) := by decide +kernel
theorem d_Pg_openNext_2 : decode b_Pg_openNext 2 = .ok (.getfield 37, 3) := by decide +kernel
theorem d_Pg_openNext_5 : decode b_Pg_openNext 5 = .ok (.putfield 30, 3) := by decide +kernel
theorem d_Pg_openNext_8 : decode b_Pg_openNext 8 = .ok (.aload_n 0, 1) := by decide +kernel
theorem d_Pg_openNext_9 : decode b_Pg_openNext 9 = .ok (.dup, 1) := by decide +kernel
theorem d_Pg_openNext_10 : decode b_Pg_openNext 10 = .ok (.getfield 37, 3) := by decide +kernel
theorem d_Pg_openNext_13 : decode b_Pg_openNext 13 = .ok (.iconst 1, 1) := by decide +kernel
theorem d_Pg_openNext_14 : decode b_Pg_openNext 14 = .ok (.iadd, 1) := by decide +kernel
theorem d_Pg_openNext_15 : decode b_Pg_openNext 15 = .ok (.putfield 37, 3) := by decide +kernel
theorem d_Pg_openNext_18 : decode b_Pg_openNext 18 = .ok (.aload_n 0, 1) := by decide +kernel
theorem d_Pg_openNext_19 : decode b_Pg_openNext 19 = .ok (.bipush 9, 2) := by decide +kernel
theorem d_Pg_openNext_21 : decode b_Pg_openNext 21 = .ok (.putfield 34, 3) := by decide +kernel
theorem d_Pg_openNext_24 : decode b_Pg_openNext 24 = .ok (.aload_n 0, 1) := by decide +kernel
theorem d_Pg_openNext_25 : decode b_Pg_openNext 25 = .ok (.getfield 30, 3) := by decide +kernel
theorem d_Pg_openNext_28 : decode b_Pg_openNext 28 = .ok (.invokestatic 26, 3) := by decide +kernel
theorem d_Pg_openNext_31 : decode b_Pg_openNext 31 = .ok (.istore_n 2, 1) := by decide +kernel
theorem d_Pg_openNext_32 : decode b_Pg_openNext 32 = .ok (.aload_n 0, 1) := by decide +kernel
theorem d_Pg_openNext_33 : decode b_Pg_openNext 33 = .ok (.getfield 14, 3) := by decide +kernel
theorem d_Pg_openNext_36 : decode b_Pg_openNext 36 = .ok (.iload_n 2, 1) := by decide +kernel
theorem d_Pg_openNext_37 : decode b_Pg_openNext 37 = .ok (.invokevirtual 40, 3) := by decide +kernel
theorem d_Pg_openNext_40 : decode b_Pg_openNext 40 = .ok (.aload_n 0, 1) := by decide +kernel
theorem d_Pg_openNext_41 : decode b_Pg_openNext 41 = .ok (.getfield 14, 3) := by decide +kernel
theorem d_Pg_openNext_44 : decode b_Pg_openNext 44 = .ok (.iload_n 2, 1) := by decide +kernel
theorem d_Pg_openNext_45 : decode b_Pg_openNext 45 = .ok (.iconst 0, 1) := by decide +kernel
theorem d_Pg_openNext_46 : decode b_Pg_openNext 46 = .ok (.aload_n 0, 1) := by decide +kernel
theorem d_Pg_openNext_47 : decode b_Pg_openNext 47 = .ok (.getfield 30, 3) := by decide +kernel
theorem d_Pg_openNext_50 : decode b_Pg_openNext 50 = .ok (.invokevirtual 43, 3) := by decide +kernel
theorem d_Pg_openNext_53 : decode b_Pg_openNext 53 = .ok (.aload_n 0, 1) := by decide +kernel
theorem d_Pg_openNext_54 : decode b_Pg_openNext 54 = .ok (.getfield 14, 3) := by decide +kernel
theorem d_Pg_openNext_57 : decode b_Pg_openNext 57 = .ok (.iload_n 2, 1) := by decide +kernel
theorem d_Pg_openNext_58 : decode b_Pg_openNext 58 = .ok (.iconst 4, 1) := by decide +kernel
theorem d_Pg_openNext_59 : decode b_Pg_openNext 59 = .ok (.iload_n 1, 1) := by decide +kernel
theorem d_Pg_openNext_60 : decode b_Pg_openNext 60 = .ok (.invokevirtual 43, 3) := by decide +kernel
theorem d_Pg_openNext_63 : decode b_Pg_openNext 63 = .ok (.return_, 1) := by decide +kernel
abbrev wd_Pg_openNext : List Cond := .code y_Pg_openNext b_Pg_openNext 3 none :: gw
def f_Pg_openNext (t_rows_count : Int32) (n_t_rows_bytes : Nat) (t_rows_bytes : Nat → Int32) (t_open : Int32) (t_used : Int32) (t_next : Int32) (p0 : Int32) : Option ((Nat → Int32) × Int32 × Int32 × Int32) :=
  (f_Pg_rowOf t_next).bind fun o_1 =>
  (f_Bl_clear t_rows_count n_t_rows_bytes t_rows_bytes o_1).bind fun o_2 =>
  (f_Bl_setU32 t_rows_count n_t_rows_bytes o_2 o_1 (0 : Int32) t_next).bind fun o_3 =>
  (f_Bl_setU32 t_rows_count n_t_rows_bytes o_3 o_1 (4 : Int32) p0).bind fun o_4 =>
  some (o_4, t_next, (9 : Int32), (t_next + (1 : Int32)))
set_option maxHeartbeats 4000000 in
set_option maxRecDepth 100000 in
theorem c_Pg_openNext (l : Launch) (D : va_G) (cA : Nat → ClassId) (a_t a_t_rows a_t_rows_bytes : Nat) (sz : Nat) (t_rows_count : Int32) (n_t_rows_bytes : Nat) (t_rows_bytes : Nat → Int32) (t_open : Int32) (t_used : Int32) (t_next : Int32) (p0 : Int32) (o : (Nat → Int32) × Int32 × Int32 × Int32) (hf : f_Pg_openNext t_rows_count n_t_rows_bytes t_rows_bytes t_open t_used t_next p0 = some o) : Met l y_Pg_openNext wd_Pg_openNext ({ frames := 3, cells := 0, slots := 0, locals := 68 }) (va_Pc [.ref a_t, .int p0] (aP D cA [(a_t, .inr (2, [.ref a_t_rows, .int t_open, .int t_used, .int t_next])), (a_t_rows, .inr (0, [.int t_rows_count, .ref a_t_rows_bytes])), (a_t_rows_bytes, .inl ((cA 1), n_t_rows_bytes, .inl t_rows_bytes))] sz)) (va_Qv (fun (_ : Unit) => True) (fun _ => aR D cA (va_A [(a_t, .inr (2, [.ref a_t_rows, .int t_open, .int t_used, .int t_next])), (a_t_rows, .inr (0, [.int t_rows_count, .ref a_t_rows_bytes])), (a_t_rows_bytes, .inl ((cA 1), n_t_rows_bytes, .inl t_rows_bytes))] sz) [(a_t, .inr (2, [.ref a_t_rows, .int o.2.1, .int o.2.2.1, .int o.2.2.2])), (a_t_rows, .inr (0, [.int t_rows_count, .ref a_t_rows_bytes])), (a_t_rows_bytes, .inl ((cA 1), n_t_rows_bytes, .inl o.1))]) (va_A [(a_t, .inr (2, [.ref a_t_rows, .int t_open, .int t_used, .int t_next])), (a_t_rows, .inr (0, [.int t_rows_count, .ref a_t_rows_bytes])), (a_t_rows_bytes, .inl ((cA 1), n_t_rows_bytes, .inl t_rows_bytes))] sz)) 0 0 (va_A [(a_t, .inr (2, [.ref a_t_rows, .int t_open, .int t_used, .int t_next])), (a_t_rows, .inr (0, [.int t_rows_count, .ref a_t_rows_bytes])), (a_t_rows_bytes, .inl ((cA 1), n_t_rows_bytes, .inl t_rows_bytes))] sz) := by
  refine Met.ofW (cc := b_Pg_openNext) (maxL := 3) (ret := none) (by decide +kernel) rfl ?_
  intro p e s m args below meth c s₁ B hml hv
  obtain ⟨rfl, hsz, hP, hK, hD0, hE⟩ := hv
  have hx := B.exec
  have hb := B.bytes
  have hr := B.returns
  have hts := atoms_spec (ws := wd_Pg_openNext) B.pre
  have hown : s.vm.findClass R_Pg = some m.cls := findClass_of_methodNamed B.named
  have hlocks := B.notSynchronized
  subst hsz
  have hD := hD0.self (sz := s.heap.size)
  generalize hAe : va_A [(a_t, .inr (2, [.ref a_t_rows, .int t_open, .int t_used, .int t_next])), (a_t_rows, .inr (0, [.int t_rows_count, .ref a_t_rows_bytes])), (a_t_rows_bytes, .inl ((cA 1), n_t_rows_bytes, .inl t_rows_bytes))] s.heap.size = A at hD hE ⊢
  have hA : ∀ q : Nat, s.heap.size ≤ q → A q := fun q h => by rw [← hAe]; exact Or.inr h
  have hS : va_S A s.heap s.heap [] := va_S.rf
  have hl := lv_entry [.ref a_t, .int p0] (n := 3) (Nat.le_of_ble_eq_true rfl)
  rw [lg_entry_eq]
  generalize (lg_sl [.ref a_t, .int p0] ++ List.replicate (3 - (lg_sl [.ref a_t, .int p0]).length) Slot.unset).toArray = ls at hl ⊢
  have hl : lv_has ls 3 [(0, .ref a_t), (1, .int p0)] := hl
  unfold f_Pg_openNext at hf
  refine lv_aload_n hx hb d_Pg_openNext_0 rfl (lv_at hl 0 rfl) ?_
  refine lv_aload_n hx hb d_Pg_openNext_1 rfl (lv_at hl 0 rfl) ?_
  refine va_get (D := D) (ci := 2) (v := .int t_next) (C := R_Pg) (T := F_Pg) (N := 4) hx hb hts (fun w9 h9 => .tail _ (gu_Pg w9 h9)) hown hK hP 0 rfl rfl 3 (by decide) (hts _ (.tail _ gm_81)) (fun _ h9 => h9) rfl d_Pg_openNext_2 ?_
  refine va_put (D := D) (ci := 2) (v := .int t_next) (ty := .int) (C := R_Pg) (T := F_Pg) (N := 4) hx hb hts (fun w9 h9 => .tail _ (gu_Pg w9 h9)) t_Pg t_Pg_ok n_Pg hown hK hP hD hS 0 rfl rfl 1 (by decide) (hts _ (.tail _ gm_79)) (fun _ h9 => h9) rfl (by decide +kernel) rfl rfl (Nat.le_of_ble_eq_true rfl) d_Pg_openNext_5 (fun H locs hP hD hS => ?_)
  have hP : va_P D classes [(a_t, .inr (2, [.ref a_t_rows, .int t_next, .int t_used, .int t_next])), (a_t_rows, .inr (0, [.int t_rows_count, .ref a_t_rows_bytes])), (a_t_rows_bytes, .inl ((cA 1), n_t_rows_bytes, .inl t_rows_bytes))] H := hP
  have hD : va_D A [(a_t, .inr (2, [.ref a_t_rows, .int t_next, .int t_used, .int t_next])), (a_t_rows, .inr (0, [.int t_rows_count, .ref a_t_rows_bytes])), (a_t_rows_bytes, .inl ((cA 1), n_t_rows_bytes, .inl t_rows_bytes))] := hD
  refine lv_aload_n hx hb d_Pg_openNext_8 rfl (lv_at hl 0 rfl) ?_
  refine lv_dup hx hb d_Pg_openNext_9 rfl ?_
  refine va_get (D := D) (ci := 2) (v := .int t_next) (C := R_Pg) (T := F_Pg) (N := 4) hx hb hts (fun w9 h9 => .tail _ (gu_Pg w9 h9)) hown hK hP 0 rfl rfl 3 (by decide) (hts _ (.tail _ gm_81)) (fun _ h9 => h9) rfl d_Pg_openNext_10 ?_
  refine lv_iconst (v := 1) hx hb d_Pg_openNext_13 (by decide) ?_
  refine lv_iadd hx hb d_Pg_openNext_14 ?_
  refine va_put (D := D) (ci := 2) (v := .int (t_next + (1 : Int32))) (ty := .int) (C := R_Pg) (T := F_Pg) (N := 4) hx hb hts (fun w9 h9 => .tail _ (gu_Pg w9 h9)) t_Pg t_Pg_ok n_Pg hown hK hP hD hS 0 rfl rfl 3 (by decide) (hts _ (.tail _ gm_81)) (fun _ h9 => h9) rfl (by decide +kernel) rfl rfl (Nat.le_of_ble_eq_true rfl) d_Pg_openNext_15 (fun H locs hP hD hS => ?_)
  have hP : va_P D classes [(a_t, .inr (2, [.ref a_t_rows, .int t_next, .int t_used, .int (t_next + (1 : Int32))])), (a_t_rows, .inr (0, [.int t_rows_count, .ref a_t_rows_bytes])), (a_t_rows_bytes, .inl ((cA 1), n_t_rows_bytes, .inl t_rows_bytes))] H := hP
  have hD : va_D A [(a_t, .inr (2, [.ref a_t_rows, .int t_next, .int t_used, .int (t_next + (1 : Int32))])), (a_t_rows, .inr (0, [.int t_rows_count, .ref a_t_rows_bytes])), (a_t_rows_bytes, .inl ((cA 1), n_t_rows_bytes, .inl t_rows_bytes))] := hD
  refine lv_aload_n hx hb d_Pg_openNext_18 rfl (lv_at hl 0 rfl) ?_
  refine lv_bipush (v := 9) hx hb d_Pg_openNext_19 (by decide) ?_
  refine va_put (D := D) (ci := 2) (v := .int (9 : Int32)) (ty := .int) (C := R_Pg) (T := F_Pg) (N := 4) hx hb hts (fun w9 h9 => .tail _ (gu_Pg w9 h9)) t_Pg t_Pg_ok n_Pg hown hK hP hD hS 0 rfl rfl 2 (by decide) (hts _ (.tail _ gm_80)) (fun _ h9 => h9) rfl (by decide +kernel) rfl rfl (Nat.le_of_ble_eq_true rfl) d_Pg_openNext_21 (fun H locs hP hD hS => ?_)
  have hP : va_P D classes [(a_t, .inr (2, [.ref a_t_rows, .int t_next, .int (9 : Int32), .int (t_next + (1 : Int32))])), (a_t_rows, .inr (0, [.int t_rows_count, .ref a_t_rows_bytes])), (a_t_rows_bytes, .inl ((cA 1), n_t_rows_bytes, .inl t_rows_bytes))] H := hP
  have hD : va_D A [(a_t, .inr (2, [.ref a_t_rows, .int t_next, .int (9 : Int32), .int (t_next + (1 : Int32))])), (a_t_rows, .inr (0, [.int t_rows_count, .ref a_t_rows_bytes])), (a_t_rows_bytes, .inl ((cA 1), n_t_rows_bytes, .inl t_rows_bytes))] := hD
  refine lv_aload_n hx hb d_Pg_openNext_24 rfl (lv_at hl 0 rfl) ?_
  refine va_get (D := D) (ci := 2) (v := .int t_next) (C := R_Pg) (T := F_Pg) (N := 4) hx hb hts (fun w9 h9 => .tail _ (gu_Pg w9 h9)) hown hK hP 0 rfl rfl 1 (by decide) (hts _ (.tail _ gm_79)) (fun _ h9 => h9) rfl d_Pg_openNext_25 ?_
  obtain ⟨o_1, ho_1, hf⟩ := hk_bd hf
  refine q_i (wr := [(a_t, .inr (2, [.ref a_t_rows, .int t_next, .int (9 : Int32), .int (t_next + (1 : Int32))])), (a_t_rows, .inr (0, [.int t_rows_count, .ref a_t_rows_bytes])), (a_t_rows_bytes, .inl ((cA 1), n_t_rows_bytes, .inl t_rows_bytes))]) (va_runS (As := [.int t_next]) (rest := []) ⟨hx, hb, hml, hown, hts⟩ (c_Pg_rowOf l D cA _ t_next o_1 ho_1) (va_cwS 1 hts (gd_S gm_76 gm_77 gm_78 gm_75) rfl rfl rfl (by decide +kernel) ⟨Nat.le_of_ble_eq_true rfl, Nat.le_of_ble_eq_true rfl⟩) (q_pS hK hP hD hS hA hE [] (by decide) rfl) rfl rfl hl.1 rfl (lv_room (Nat.le_of_ble_eq_true rfl)) d_Pg_openNext_28 ⟨Nat.zero_le _, Nat.zero_le _⟩) hP hD hS hA [] [0, 1, 2] rfl rfl (by decide) (by decide) (fun H locs hP hD hS => ?_)
  have hP : va_P D classes [(a_t, .inr (2, [.ref a_t_rows, .int t_next, .int (9 : Int32), .int (t_next + (1 : Int32))])), (a_t_rows, .inr (0, [.int t_rows_count, .ref a_t_rows_bytes])), (a_t_rows_bytes, .inl ((cA 1), n_t_rows_bytes, .inl t_rows_bytes))] H := hP
  have hD : va_D A [(a_t, .inr (2, [.ref a_t_rows, .int t_next, .int (9 : Int32), .int (t_next + (1 : Int32))])), (a_t_rows, .inr (0, [.int t_rows_count, .ref a_t_rows_bytes])), (a_t_rows_bytes, .inl ((cA 1), n_t_rows_bytes, .inl t_rows_bytes))] := hD
  refine lv_istore_n (lv' := [(2, .int o_1), (0, .ref a_t), (1, .int p0)]) hx hb d_Pg_openNext_31 rfl hl (by decide) rfl (fun ls hl => ?_)
  refine lv_aload_n hx hb d_Pg_openNext_32 rfl (lv_at hl 1 rfl) ?_
  refine va_get (D := D) (ci := 2) (v := .ref a_t_rows) (C := R_Pg) (T := F_Pg) (N := 4) hx hb hts (fun w9 h9 => .tail _ (gu_Pg w9 h9)) hown hK hP 0 rfl rfl 0 (by decide) (hts _ (.tail _ gm_82)) (fun _ h9 => h9) rfl d_Pg_openNext_33 ?_
  refine lv_iload_n hx hb d_Pg_openNext_36 rfl (lv_at hl 0 rfl) ?_
  obtain ⟨o_2, ho_2, hf⟩ := hk_bd hf
  refine q_v (wr := [(a_t, .inr (2, [.ref a_t_rows, .int t_next, .int (9 : Int32), .int (t_next + (1 : Int32))]))]) (va_runV (As := [.int o_1]) (rest := []) ⟨hx, hb, hml, hown, hts⟩ (c_Bl_clear l D cA a_t_rows a_t_rows_bytes _ t_rows_count n_t_rows_bytes t_rows_bytes o_1 o_2 ho_2) (cwV 1 hts (gd_V gm_83 gm_44 gm_45 gm_5 gm_42) rfl rfl rfl (by decide +kernel) ⟨Nat.le_of_ble_eq_true rfl, Nat.le_of_ble_eq_true rfl⟩) (q_pV hK hP hD hS hA hE [1, 2] (by decide) rfl rfl rfl rfl) rfl rfl hl.1 rfl (lv_room (Nat.le_of_ble_eq_true rfl)) d_Pg_openNext_37 ⟨Nat.zero_le _, Nat.zero_le _⟩) hP hD hS hA [1, 2] [0] rfl rfl (by decide) (by decide) (fun H locs hP hD hS => ?_)
  have hP : va_P D classes [(a_t, .inr (2, [.ref a_t_rows, .int t_next, .int (9 : Int32), .int (t_next + (1 : Int32))])), (a_t_rows, .inr (0, [.int t_rows_count, .ref a_t_rows_bytes])), (a_t_rows_bytes, .inl ((cA 1), n_t_rows_bytes, .inl o_2))] H := hP
  have hD : va_D A [(a_t, .inr (2, [.ref a_t_rows, .int t_next, .int (9 : Int32), .int (t_next + (1 : Int32))])), (a_t_rows, .inr (0, [.int t_rows_count, .ref a_t_rows_bytes])), (a_t_rows_bytes, .inl ((cA 1), n_t_rows_bytes, .inl o_2))] := hD
  refine lv_aload_n hx hb d_Pg_openNext_40 rfl (lv_at hl 1 rfl) ?_
  refine va_get (D := D) (ci := 2) (v := .ref a_t_rows) (C := R_Pg) (T := F_Pg) (N := 4) hx hb hts (fun w9 h9 => .tail _ (gu_Pg w9 h9)) hown hK hP 0 rfl rfl 0 (by decide) (hts _ (.tail _ gm_82)) (fun _ h9 => h9) rfl d_Pg_openNext_41 ?_
  refine lv_iload_n hx hb d_Pg_openNext_44 rfl (lv_at hl 0 rfl) ?_
  refine lv_iconst (v := 0) hx hb d_Pg_openNext_45 (by decide) ?_
  refine lv_aload_n hx hb d_Pg_openNext_46 rfl (lv_at hl 1 rfl) ?_
  refine va_get (D := D) (ci := 2) (v := .int t_next) (C := R_Pg) (T := F_Pg) (N := 4) hx hb hts (fun w9 h9 => .tail _ (gu_Pg w9 h9)) hown hK hP 0 rfl rfl 1 (by decide) (hts _ (.tail _ gm_79)) (fun _ h9 => h9) rfl d_Pg_openNext_47 ?_
  obtain ⟨o_3, ho_3, hf⟩ := hk_bd hf
  refine q_v (wr := [(a_t, .inr (2, [.ref a_t_rows, .int t_next, .int (9 : Int32), .int (t_next + (1 : Int32))]))]) (va_runV (As := [.int o_1, .int (0 : Int32), .int t_next]) (rest := []) ⟨hx, hb, hml, hown, hts⟩ (c_Bl_setU32 l D cA a_t_rows a_t_rows_bytes _ t_rows_count n_t_rows_bytes o_2 o_1 (0 : Int32) t_next o_3 ho_3) (cwV 3 hts (gd_V gm_84 gm_22 gm_23 gm_5 gm_20) rfl rfl rfl (by decide +kernel) ⟨Nat.le_of_ble_eq_true rfl, Nat.le_of_ble_eq_true rfl⟩) (q_pV hK hP hD hS hA hE [1, 2] (by decide) rfl rfl rfl rfl) rfl rfl hl.1 rfl (lv_room (Nat.le_of_ble_eq_true rfl)) d_Pg_openNext_50 ⟨Nat.zero_le _, Nat.zero_le _⟩) hP hD hS hA [1, 2] [0] rfl rfl (by decide) (by decide) (fun H locs hP hD hS => ?_)
  have hP : va_P D classes [(a_t, .inr (2, [.ref a_t_rows, .int t_next, .int (9 : Int32), .int (t_next + (1 : Int32))])), (a_t_rows, .inr (0, [.int t_rows_count, .ref a_t_rows_bytes])), (a_t_rows_bytes, .inl ((cA 1), n_t_rows_bytes, .inl o_3))] H := hP
  have hD : va_D A [(a_t, .inr (2, [.ref a_t_rows, .int t_next, .int (9 : Int32), .int (t_next + (1 : Int32))])), (a_t_rows, .inr (0, [.int t_rows_count, .ref a_t_rows_bytes])), (a_t_rows_bytes, .inl ((cA 1), n_t_rows_bytes, .inl o_3))] := hD
  refine lv_aload_n hx hb d_Pg_openNext_53 rfl (lv_at hl 1 rfl) ?_
  refine va_get (D := D) (ci := 2) (v := .ref a_t_rows) (C := R_Pg) (T := F_Pg) (N := 4) hx hb hts (fun w9 h9 => .tail _ (gu_Pg w9 h9)) hown hK hP 0 rfl rfl 0 (by decide) (hts _ (.tail _ gm_82)) (fun _ h9 => h9) rfl d_Pg_openNext_54 ?_
  refine lv_iload_n hx hb d_Pg_openNext_57 rfl (lv_at hl 0 rfl) ?_
  refine lv_iconst (v := 4) hx hb d_Pg_openNext_58 (by decide) ?_
  refine lv_iload_n hx hb d_Pg_openNext_59 rfl (lv_at hl 2 rfl) ?_
  obtain ⟨o_4, ho_4, hf⟩ := hk_bd hf
  refine q_v (wr := [(a_t, .inr (2, [.ref a_t_rows, .int t_next, .int (9 : Int32), .int (t_next + (1 : Int32))]))]) (va_runV (As := [.int o_1, .int (4 : Int32), .int p0]) (rest := []) ⟨hx, hb, hml, hown, hts⟩ (c_Bl_setU32 l D cA a_t_rows a_t_rows_bytes _ t_rows_count n_t_rows_bytes o_3 o_1 (4 : Int32) p0 o_4 ho_4) (cwV 3 hts (gd_V gm_84 gm_22 gm_23 gm_5 gm_20) rfl rfl rfl (by decide +kernel) ⟨Nat.le_of_ble_eq_true rfl, Nat.le_of_ble_eq_true rfl⟩) (q_pV hK hP hD hS hA hE [1, 2] (by decide) rfl rfl rfl rfl) rfl rfl hl.1 rfl (lv_room (Nat.le_of_ble_eq_true rfl)) d_Pg_openNext_60 ⟨Nat.zero_le _, Nat.zero_le _⟩) hP hD hS hA [1, 2] [0] rfl rfl (by decide) (by decide) (fun H locs hP hD hS => ?_)
  have hP : va_P D classes [(a_t, .inr (2, [.ref a_t_rows, .int t_next, .int (9 : Int32), .int (t_next + (1 : Int32))])), (a_t_rows, .inr (0, [.int t_rows_count, .ref a_t_rows_bytes])), (a_t_rows_bytes, .inl ((cA 1), n_t_rows_bytes, .inl o_4))] H := hP
  have hD : va_D A [(a_t, .inr (2, [.ref a_t_rows, .int t_next, .int (9 : Int32), .int (t_next + (1 : Int32))])), (a_t_rows, .inr (0, [.int t_rows_count, .ref a_t_rows_bytes])), (a_t_rows_bytes, .inl ((cA 1), n_t_rows_bytes, .inl o_4))] := hD
  have ho9 := Option.some.inj hf
  subst ho9
  have hP9 := hP.sub (ws' := [(a_t, .inr (2, [.ref a_t_rows, .int t_next, .int (9 : Int32), .int (t_next + (1 : Int32))])), (a_t_rows, .inr (0, [.int t_rows_count, .ref a_t_rows_bytes])), (a_t_rows_bytes, .inl ((cA 1), n_t_rows_bytes, .inl o_4))]) [0, 1, 2] rfl
  have hD9 := hD.sub (ws' := [(a_t, .inr (2, [.ref a_t_rows, .int t_next, .int (9 : Int32), .int (t_next + (1 : Int32))])), (a_t_rows, .inr (0, [.int t_rows_count, .ref a_t_rows_bytes])), (a_t_rows_bytes, .inl ((cA 1), n_t_rows_bytes, .inl o_4))]) [0, 1, 2] (by decide) rfl
  exact W.vret hx hb hr (fun t ht hW => ⟨⟨(), rfl, trivial, by rw [ht]; exact hP9, va_K.moved hW.alike hK, hD9⟩, hS.F ht⟩) hS.2.2 d_Pg_openNext_63
theorem d_Pg_takeNext_0 : decode b_Pg_takeNext 0 = .ok (.aload_n 0, 1) := by decide +kernel
theorem d_Pg_takeNext_1 : decode b_Pg_takeNext 1 = .ok (.getfield 37, 3) := by decide +kernel
theorem d_Pg_takeNext_4 : decode b_Pg_takeNext 4 = .ok (.istore_n 3, 1) := by decide +kernel
theorem d_Pg_takeNext_5 : decode b_Pg_takeNext 5 = .ok (.aload_n 0, 1) := by decide +kernel
theorem d_Pg_takeNext_6 : decode b_Pg_takeNext 6 = .ok (.dup, 1) := by decide +kernel
theorem d_Pg_takeNext_7 : decode b_Pg_takeNext 7 = .ok (.getfield 37, 3) := by decide +kernel
theorem d_Pg_takeNext_10 : decode b_Pg_takeNext 10 = .ok (.iconst 1, 1) := by decide +kernel
theorem d_Pg_takeNext_11 : decode b_Pg_takeNext 11 = .ok (.iadd, 1) := by decide +kernel
theorem d_Pg_takeNext_12 : decode b_Pg_takeNext 12 = .ok (.putfield 37, 3) := by decide +kernel
theorem d_Pg_takeNext_15 : decode b_Pg_takeNext 15 = .ok (.aload_n 0, 1) := by decide +kernel
theorem d_Pg_takeNext_16 : decode b_Pg_takeNext 16 = .ok (.getfield 14, 3) := by decide +kernel
theorem d_Pg_takeNext_19 : decode b_Pg_takeNext 19 = .ok (.aload_n 1, 1) := by decide +kernel
theorem d_Pg_takeNext_20 : decode b_Pg_takeNext 20 = .ok (.iload_n 2, 1) := by decide +kernel
theorem d_Pg_takeNext_21 : decode b_Pg_takeNext 21 = .ok (.iload_n 3, 1) := by decide +kernel
theorem d_Pg_takeNext_22 : decode b_Pg_takeNext 22 = .ok (.invokestatic 26, 3) := by decide +kernel
theorem d_Pg_takeNext_25 : decode b_Pg_takeNext 25 = .ok (.bipush 64, 2) := by decide +kernel
theorem d_Pg_takeNext_27 : decode b_Pg_takeNext 27 = .ok (.invokevirtual 47, 3) := by decide +kernel
theorem d_Pg_takeNext_30 : decode b_Pg_takeNext 30 = .ok (.iload_n 3, 1) := by decide +kernel
theorem d_Pg_takeNext_31 : decode b_Pg_takeNext 31 = .ok (.ireturn, 1) := by decide +kernel
abbrev wd_Pg_takeNext : List Cond := .code y_Pg_takeNext b_Pg_takeNext 4 (some .int) :: gw
def f_Pg_takeNext (t_rows_count : Int32) (n_t_rows_bytes : Nat) (t_rows_bytes : Nat → Int32) (t_open : Int32) (t_used : Int32) (t_next : Int32) (p0_count : Int32) (n_p0_bytes : Nat) (p0_bytes : Nat → Int32) (p1 : Int32) : Option (Int32 × (Nat → Int32) × Int32) :=
  (f_Pg_rowOf t_next).bind fun o_1 =>
  (f_Bl_copyFrom t_rows_count n_t_rows_bytes t_rows_bytes p0_count n_p0_bytes p0_bytes p1 o_1 (64 : Int32)).bind fun o_2 =>
  some (t_next, o_2, (t_next + (1 : Int32)))
set_option maxHeartbeats 4000000 in
set_option maxRecDepth 100000 in
theorem c_Pg_takeNext (l : Launch) (D : va_G) (cA : Nat → ClassId) (a_t a_t_rows a_t_rows_bytes a_p0 a_p0_bytes : Nat) (sz : Nat) (t_rows_count : Int32) (n_t_rows_bytes : Nat) (t_rows_bytes : Nat → Int32) (t_open : Int32) (t_used : Int32) (t_next : Int32) (p0_count : Int32) (n_p0_bytes : Nat) (p0_bytes : Nat → Int32) (p1 : Int32) (o : Int32 × (Nat → Int32) × Int32) (hf : f_Pg_takeNext t_rows_count n_t_rows_bytes t_rows_bytes t_open t_used t_next p0_count n_p0_bytes p0_bytes p1 = some o) : Met l y_Pg_takeNext wd_Pg_takeNext ({ frames := 2, cells := 0, slots := 0, locals := 64 }) (va_Pc [.ref a_t, .ref a_p0, .int p1] (aP D cA [(a_t, .inr (2, [.ref a_t_rows, .int t_open, .int t_used, .int t_next])), (a_t_rows, .inr (0, [.int t_rows_count, .ref a_t_rows_bytes])), (a_t_rows_bytes, .inl ((cA 1), n_t_rows_bytes, .inl t_rows_bytes)), (a_p0, .inr (0, [.int p0_count, .ref a_p0_bytes])), (a_p0_bytes, .inl ((cA 1), n_p0_bytes, .inl p0_bytes))] sz)) (va_Qi (fun r9 (_ : Unit) => r9 = o.1) (fun _ => aR D cA (va_A [(a_t, .inr (2, [.ref a_t_rows, .int t_open, .int t_used, .int t_next])), (a_t_rows, .inr (0, [.int t_rows_count, .ref a_t_rows_bytes])), (a_t_rows_bytes, .inl ((cA 1), n_t_rows_bytes, .inl t_rows_bytes)), (a_p0, .inr (0, [.int p0_count, .ref a_p0_bytes])), (a_p0_bytes, .inl ((cA 1), n_p0_bytes, .inl p0_bytes))] sz) [(a_t, .inr (2, [.ref a_t_rows, .int t_open, .int t_used, .int o.2.2])), (a_t_rows, .inr (0, [.int t_rows_count, .ref a_t_rows_bytes])), (a_t_rows_bytes, .inl ((cA 1), n_t_rows_bytes, .inl o.2.1)), (a_p0, .inr (0, [.int p0_count, .ref a_p0_bytes])), (a_p0_bytes, .inl ((cA 1), n_p0_bytes, .inl p0_bytes))]) (va_A [(a_t, .inr (2, [.ref a_t_rows, .int t_open, .int t_used, .int t_next])), (a_t_rows, .inr (0, [.int t_rows_count, .ref a_t_rows_bytes])), (a_t_rows_bytes, .inl ((cA 1), n_t_rows_bytes, .inl t_rows_bytes)), (a_p0, .inr (0, [.int p0_count, .ref a_p0_bytes])), (a_p0_bytes, .inl ((cA 1), n_p0_bytes, .inl p0_bytes))] sz)) 0 0 (va_A [(a_t, .inr (2, [.ref a_t_rows, .int t_open, .int t_used, .int t_next])), (a_t_rows, .inr (0, [.int t_rows_count, .ref a_t_rows_bytes])), (a_t_rows_bytes, .inl ((cA 1), n_t_rows_bytes, .inl t_rows_bytes)), (a_p0, .inr (0, [.int p0_count, .ref a_p0_bytes])), (a_p0_bytes, .inl ((cA 1), n_p0_bytes, .inl p0_bytes))] sz) := by
  refine Met.ofW (cc := b_Pg_takeNext) (maxL := 4) (ret := (some .int)) (by decide +kernel) rfl ?_
  intro p e s m args below meth c s₁ B hml hv
  obtain ⟨rfl, hsz, hP, hK, hD0, hE⟩ := hv
  have hx := B.exec
  have hb := B.bytes
  have hr := B.returns
  have hts := atoms_spec (ws := wd_Pg_takeNext) B.pre
  have hown : s.vm.findClass R_Pg = some m.cls := findClass_of_methodNamed B.named
  have hlocks := B.notSynchronized
  subst hsz
  have hD := hD0.self (sz := s.heap.size)
  generalize hAe : va_A [(a_t, .inr (2, [.ref a_t_rows, .int t_open, .int t_used, .int t_next])), (a_t_rows, .inr (0, [.int t_rows_count, .ref a_t_rows_bytes])), (a_t_rows_bytes, .inl ((cA 1), n_t_rows_bytes, .inl t_rows_bytes)), (a_p0, .inr (0, [.int p0_count, .ref a_p0_bytes])), (a_p0_bytes, .inl ((cA 1), n_p0_bytes, .inl p0_bytes))] s.heap.size = A at hD hE ⊢
  have hA : ∀ q : Nat, s.heap.size ≤ q → A q := fun q h => by rw [← hAe]; exact Or.inr h
  have hS : va_S A s.heap s.heap [] := va_S.rf
  have hl := lv_entry [.ref a_t, .ref a_p0, .int p1] (n := 4) (Nat.le_of_ble_eq_true rfl)
  rw [lg_entry_eq]
  generalize (lg_sl [.ref a_t, .ref a_p0, .int p1] ++ List.replicate (4 - (lg_sl [.ref a_t, .ref a_p0, .int p1]).length) Slot.unset).toArray = ls at hl ⊢
  have hl : lv_has ls 4 [(0, .ref a_t), (1, .ref a_p0), (2, .int p1)] := hl
  unfold f_Pg_takeNext at hf
  refine lv_aload_n hx hb d_Pg_takeNext_0 rfl (lv_at hl 0 rfl) ?_
  refine va_get (D := D) (ci := 2) (v := .int t_next) (C := R_Pg) (T := F_Pg) (N := 4) hx hb hts (fun w9 h9 => .tail _ (gu_Pg w9 h9)) hown hK hP 0 rfl rfl 3 (by decide) (hts _ (.tail _ gm_81)) (fun _ h9 => h9) rfl d_Pg_takeNext_1 ?_
  refine lv_istore_n (lv' := [(3, .int t_next), (0, .ref a_t), (1, .ref a_p0), (2, .int p1)]) hx hb d_Pg_takeNext_4 rfl hl (by decide) rfl (fun ls hl => ?_)
  refine lv_aload_n hx hb d_Pg_takeNext_5 rfl (lv_at hl 1 rfl) ?_
  refine lv_dup hx hb d_Pg_takeNext_6 rfl ?_
  refine va_get (D := D) (ci := 2) (v := .int t_next) (C := R_Pg) (T := F_Pg) (N := 4) hx hb hts (fun w9 h9 => .tail _ (gu_Pg w9 h9)) hown hK hP 0 rfl rfl 3 (by decide) (hts _ (.tail _ gm_81)) (fun _ h9 => h9) rfl d_Pg_takeNext_7 ?_
  refine lv_iconst (v := 1) hx hb d_Pg_takeNext_10 (by decide) ?_
  refine lv_iadd hx hb d_Pg_takeNext_11 ?_
  refine va_put (D := D) (ci := 2) (v := .int (t_next + (1 : Int32))) (ty := .int) (C := R_Pg) (T := F_Pg) (N := 4) hx hb hts (fun w9 h9 => .tail _ (gu_Pg w9 h9)) t_Pg t_Pg_ok n_Pg hown hK hP hD hS 0 rfl rfl 3 (by decide) (hts _ (.tail _ gm_81)) (fun _ h9 => h9) rfl (by decide +kernel) rfl rfl (Nat.le_of_ble_eq_true rfl) d_Pg_takeNext_12 (fun H locs hP hD hS => ?_)
  have hP : va_P D classes [(a_t, .inr (2, [.ref a_t_rows, .int t_open, .int t_used, .int (t_next + (1 : Int32))])), (a_t_rows, .inr (0, [.int t_rows_count, .ref a_t_rows_bytes])), (a_t_rows_bytes, .inl ((cA 1), n_t_rows_bytes, .inl t_rows_bytes)), (a_p0, .inr (0, [.int p0_count, .ref a_p0_bytes])), (a_p0_bytes, .inl ((cA 1), n_p0_bytes, .inl p0_bytes))] H := hP
  have hD : va_D A [(a_t, .inr (2, [.ref a_t_rows, .int t_open, .int t_used, .int (t_next + (1 : Int32))])), (a_t_rows, .inr (0, [.int t_rows_count, .ref a_t_rows_bytes])), (a_t_rows_bytes, .inl ((cA 1), n_t_rows_bytes, .inl t_rows_bytes)), (a_p0, .inr (0, [.int p0_count, .ref a_p0_bytes])), (a_p0_bytes, .inl ((cA 1), n_p0_bytes, .inl p0_bytes))] := hD
  refine lv_aload_n hx hb d_Pg_takeNext_15 rfl (lv_at hl 1 rfl) ?_
  refine va_get (D := D) (ci := 2) (v := .ref a_t_rows) (C := R_Pg) (T := F_Pg) (N := 4) hx hb hts (fun w9 h9 => .tail _ (gu_Pg w9 h9)) hown hK hP 0 rfl rfl 0 (by decide) (hts _ (.tail _ gm_82)) (fun _ h9 => h9) rfl d_Pg_takeNext_16 ?_
  refine lv_aload_n hx hb d_Pg_takeNext_19 rfl (lv_at hl 2 rfl) ?_
  refine lv_iload_n hx hb d_Pg_takeNext_20 rfl (lv_at hl 3 rfl) ?_
  refine lv_iload_n hx hb d_Pg_takeNext_21 rfl (lv_at hl 0 rfl) ?_
  obtain ⟨o_1, ho_1, hf⟩ := hk_bd hf
  refine q_i (wr := [(a_t, .inr (2, [.ref a_t_rows, .int t_open, .int t_used, .int (t_next + (1 : Int32))])), (a_t_rows, .inr (0, [.int t_rows_count, .ref a_t_rows_bytes])), (a_t_rows_bytes, .inl ((cA 1), n_t_rows_bytes, .inl t_rows_bytes)), (a_p0, .inr (0, [.int p0_count, .ref a_p0_bytes])), (a_p0_bytes, .inl ((cA 1), n_p0_bytes, .inl p0_bytes))]) (va_runS (As := [.int t_next]) (rest := [.int p1, .ref a_p0, .ref a_t_rows]) ⟨hx, hb, hml, hown, hts⟩ (c_Pg_rowOf l D cA _ t_next o_1 ho_1) (va_cwS 1 hts (gd_S gm_76 gm_77 gm_78 gm_75) rfl rfl rfl (by decide +kernel) ⟨Nat.le_of_ble_eq_true rfl, Nat.le_of_ble_eq_true rfl⟩) (q_pS hK hP hD hS hA hE [] (by decide) rfl) rfl rfl hl.1 rfl (lv_room (Nat.le_of_ble_eq_true rfl)) d_Pg_takeNext_22 ⟨Nat.zero_le _, Nat.zero_le _⟩) hP hD hS hA [] [0, 1, 2, 3, 4] rfl rfl (by decide) (by decide) (fun H locs hP hD hS => ?_)
  have hP : va_P D classes [(a_t, .inr (2, [.ref a_t_rows, .int t_open, .int t_used, .int (t_next + (1 : Int32))])), (a_t_rows, .inr (0, [.int t_rows_count, .ref a_t_rows_bytes])), (a_t_rows_bytes, .inl ((cA 1), n_t_rows_bytes, .inl t_rows_bytes)), (a_p0, .inr (0, [.int p0_count, .ref a_p0_bytes])), (a_p0_bytes, .inl ((cA 1), n_p0_bytes, .inl p0_bytes))] H := hP
  have hD : va_D A [(a_t, .inr (2, [.ref a_t_rows, .int t_open, .int t_used, .int (t_next + (1 : Int32))])), (a_t_rows, .inr (0, [.int t_rows_count, .ref a_t_rows_bytes])), (a_t_rows_bytes, .inl ((cA 1), n_t_rows_bytes, .inl t_rows_bytes)), (a_p0, .inr (0, [.int p0_count, .ref a_p0_bytes])), (a_p0_bytes, .inl ((cA 1), n_p0_bytes, .inl p0_bytes))] := hD
  refine lv_bipush (v := 64) hx hb d_Pg_takeNext_25 (by decide) ?_
  obtain ⟨o_2, ho_2, hf⟩ := hk_bd hf
  refine q_v (wr := [(a_t, .inr (2, [.ref a_t_rows, .int t_open, .int t_used, .int (t_next + (1 : Int32))]))]) (va_runV (As := [.ref a_p0, .int p1, .int o_1, .int (64 : Int32)]) (rest := []) ⟨hx, hb, hml, hown, hts⟩ (c_Bl_copyFrom l D cA a_t_rows a_t_rows_bytes a_p0 a_p0_bytes _ t_rows_count n_t_rows_bytes t_rows_bytes p0_count n_p0_bytes p0_bytes p1 o_1 (64 : Int32) o_2 ho_2) (cwV 4 hts (gd_V gm_86 gm_87 gm_88 gm_5 gm_85) rfl rfl rfl (by decide +kernel) ⟨Nat.le_of_ble_eq_true rfl, Nat.le_of_ble_eq_true rfl⟩) (q_pV hK hP hD hS hA hE [1, 2, 3, 4] (by decide) rfl rfl rfl rfl) rfl rfl hl.1 rfl (lv_room (Nat.le_of_ble_eq_true rfl)) d_Pg_takeNext_27 ⟨Nat.zero_le _, Nat.zero_le _⟩) hP hD hS hA [1, 2, 3, 4] [0] rfl rfl (by decide) (by decide) (fun H locs hP hD hS => ?_)
  have hP : va_P D classes [(a_t, .inr (2, [.ref a_t_rows, .int t_open, .int t_used, .int (t_next + (1 : Int32))])), (a_t_rows, .inr (0, [.int t_rows_count, .ref a_t_rows_bytes])), (a_t_rows_bytes, .inl ((cA 1), n_t_rows_bytes, .inl o_2)), (a_p0, .inr (0, [.int p0_count, .ref a_p0_bytes])), (a_p0_bytes, .inl ((cA 1), n_p0_bytes, .inl p0_bytes))] H := hP
  have hD : va_D A [(a_t, .inr (2, [.ref a_t_rows, .int t_open, .int t_used, .int (t_next + (1 : Int32))])), (a_t_rows, .inr (0, [.int t_rows_count, .ref a_t_rows_bytes])), (a_t_rows_bytes, .inl ((cA 1), n_t_rows_bytes, .inl o_2)), (a_p0, .inr (0, [.int p0_count, .ref a_p0_bytes])), (a_p0_bytes, .inl ((cA 1), n_p0_bytes, .inl p0_bytes))] := hD
  refine lv_iload_n hx hb d_Pg_takeNext_30 rfl (lv_at hl 0 rfl) ?_
  have ho9 := Option.some.inj hf
  subst ho9
  have hP9 := hP.sub (ws' := [(a_t, .inr (2, [.ref a_t_rows, .int t_open, .int t_used, .int (t_next + (1 : Int32))])), (a_t_rows, .inr (0, [.int t_rows_count, .ref a_t_rows_bytes])), (a_t_rows_bytes, .inl ((cA 1), n_t_rows_bytes, .inl o_2)), (a_p0, .inr (0, [.int p0_count, .ref a_p0_bytes])), (a_p0_bytes, .inl ((cA 1), n_p0_bytes, .inl p0_bytes))]) [0, 1, 2, 3, 4] rfl
  have hD9 := hD.sub (ws' := [(a_t, .inr (2, [.ref a_t_rows, .int t_open, .int t_used, .int (t_next + (1 : Int32))])), (a_t_rows, .inr (0, [.int t_rows_count, .ref a_t_rows_bytes])), (a_t_rows_bytes, .inl ((cA 1), n_t_rows_bytes, .inl o_2)), (a_p0, .inr (0, [.int p0_count, .ref a_p0_bytes])), (a_p0_bytes, .inl ((cA 1), n_p0_bytes, .inl p0_bytes))]) [0, 1, 2, 3, 4] (by decide) rfl
  exact W.iret (v := t_next) hx hb hr (fun t ht hW => ⟨⟨_, (), rfl, rfl, by rw [ht]; exact hP9, va_K.moved hW.alike hK, hD9⟩, hS.F ht⟩) hS.2.2 d_Pg_takeNext_31
theorem d_Pg_coming_0 : decode b_Pg_coming 0 = .ok (.aload_n 0, 1) := by decide +kernel
theorem d_Pg_coming_1 : decode b_Pg_coming 1 = .ok (.getfield 30, 3) := by decide +kernel
theorem d_Pg_coming_4 : decode b_Pg_coming 4 = .ok (.ifCond .eq 10, 3) := by decide +kernel
theorem d_Pg_coming_7 : decode b_Pg_coming 7 = .ok (.aload_n 0, 1) := by decide +kernel
theorem d_Pg_coming_8 : decode b_Pg_coming 8 = .ok (.getfield 30, 3) := by decide +kernel
theorem d_Pg_coming_11 : decode b_Pg_coming 11 = .ok (.goto 7, 3) := by decide +kernel
theorem d_Pg_coming_14 : decode b_Pg_coming 14 = .ok (.aload_n 0, 1) := by decide +kernel
theorem d_Pg_coming_15 : decode b_Pg_coming 15 = .ok (.getfield 37, 3) := by decide +kernel
theorem d_Pg_coming_18 : decode b_Pg_coming 18 = .ok (.ireturn, 1) := by decide +kernel
abbrev wd_Pg_coming : List Cond := .code y_Pg_coming b_Pg_coming 1 (some .int) :: gw
def f_Pg_coming (t_rows_count : Int32) (n_t_rows_bytes : Nat) (t_rows_bytes : Nat → Int32) (t_open : Int32) (t_used : Int32) (t_next : Int32) : Option (Int32) :=
  if t_open = 0 then
    some t_next
  else
    some t_open
set_option maxHeartbeats 4000000 in
set_option maxRecDepth 100000 in
theorem c_Pg_coming (l : Launch) (D : va_G) (cA : Nat → ClassId) (a_t a_t_rows a_t_rows_bytes : Nat) (sz : Nat) (t_rows_count : Int32) (n_t_rows_bytes : Nat) (t_rows_bytes : Nat → Int32) (t_open : Int32) (t_used : Int32) (t_next : Int32) (o : Int32) (hf : f_Pg_coming t_rows_count n_t_rows_bytes t_rows_bytes t_open t_used t_next = some o) : Met l y_Pg_coming wd_Pg_coming ({ frames := 0, cells := 0, slots := 0, locals := 0 }) (va_Pc [.ref a_t] (aP D cA [(a_t, .inr (2, [.ref a_t_rows, .int t_open, .int t_used, .int t_next])), (a_t_rows, .inr (0, [.int t_rows_count, .ref a_t_rows_bytes])), (a_t_rows_bytes, .inl ((cA 1), n_t_rows_bytes, .inl t_rows_bytes))] sz)) (va_Qi (fun r9 (_ : Unit) => r9 = o) (fun _ => aR D cA (va_A [(a_t, .inr (2, [.ref a_t_rows, .int t_open, .int t_used, .int t_next])), (a_t_rows, .inr (0, [.int t_rows_count, .ref a_t_rows_bytes])), (a_t_rows_bytes, .inl ((cA 1), n_t_rows_bytes, .inl t_rows_bytes))] sz) [(a_t, .inr (2, [.ref a_t_rows, .int t_open, .int t_used, .int t_next])), (a_t_rows, .inr (0, [.int t_rows_count, .ref a_t_rows_bytes])), (a_t_rows_bytes, .inl ((cA 1), n_t_rows_bytes, .inl t_rows_bytes))]) (va_A [(a_t, .inr (2, [.ref a_t_rows, .int t_open, .int t_used, .int t_next])), (a_t_rows, .inr (0, [.int t_rows_count, .ref a_t_rows_bytes])), (a_t_rows_bytes, .inl ((cA 1), n_t_rows_bytes, .inl t_rows_bytes))] sz)) 0 0 (va_A [(a_t, .inr (2, [.ref a_t_rows, .int t_open, .int t_used, .int t_next])), (a_t_rows, .inr (0, [.int t_rows_count, .ref a_t_rows_bytes])), (a_t_rows_bytes, .inl ((cA 1), n_t_rows_bytes, .inl t_rows_bytes))] sz) := by
  refine Met.ofW (cc := b_Pg_coming) (maxL := 1) (ret := (some .int)) (by decide +kernel) rfl ?_
  intro p e s m args below meth c s₁ B hml hv
  obtain ⟨rfl, hsz, hP, hK, hD0, hE⟩ := hv
  have hx := B.exec
  have hb := B.bytes
  have hr := B.returns
  have hts := atoms_spec (ws := wd_Pg_coming) B.pre
  have hown : s.vm.findClass R_Pg = some m.cls := findClass_of_methodNamed B.named
  have hlocks := B.notSynchronized
  subst hsz
  have hD := hD0.self (sz := s.heap.size)
  generalize hAe : va_A [(a_t, .inr (2, [.ref a_t_rows, .int t_open, .int t_used, .int t_next])), (a_t_rows, .inr (0, [.int t_rows_count, .ref a_t_rows_bytes])), (a_t_rows_bytes, .inl ((cA 1), n_t_rows_bytes, .inl t_rows_bytes))] s.heap.size = A at hD hE ⊢
  have hA : ∀ q : Nat, s.heap.size ≤ q → A q := fun q h => by rw [← hAe]; exact Or.inr h
  have hS : va_S A s.heap s.heap [] := va_S.rf
  have hl := lv_entry [.ref a_t] (n := 1) (Nat.le_of_ble_eq_true rfl)
  rw [lg_entry_eq]
  generalize (lg_sl [.ref a_t] ++ List.replicate (1 - (lg_sl [.ref a_t]).length) Slot.unset).toArray = ls at hl ⊢
  have hl : lv_has ls 1 [(0, .ref a_t)] := hl
  unfold f_Pg_coming at hf
  refine lv_aload_n hx hb d_Pg_coming_0 rfl (lv_at hl 0 rfl) ?_
  refine va_get (D := D) (ci := 2) (v := .int t_open) (C := R_Pg) (T := F_Pg) (N := 4) hx hb hts (fun w9 h9 => .tail _ (gu_Pg w9 h9)) hown hK hP 0 rfl rfl 1 (by decide) (hts _ (.tail _ gm_79)) (fun _ h9 => h9) rfl d_Pg_coming_1 ?_
  refine lv_if_eq (tgt := 14) hx hb d_Pg_coming_4 (by decide) (fun c_1 => ?_) (fun c_1 => ?_)
  · replace hf := (if_pos c_1).symm.trans hf
    refine lv_aload_n hx hb d_Pg_coming_14 rfl (lv_at hl 0 rfl) ?_
    refine va_get (D := D) (ci := 2) (v := .int t_next) (C := R_Pg) (T := F_Pg) (N := 4) hx hb hts (fun w9 h9 => .tail _ (gu_Pg w9 h9)) hown hK hP 0 rfl rfl 3 (by decide) (hts _ (.tail _ gm_81)) (fun _ h9 => h9) rfl d_Pg_coming_15 ?_
    have ho9 := Option.some.inj hf
    subst ho9
    have hP9 := hP.sub (ws' := [(a_t, .inr (2, [.ref a_t_rows, .int t_open, .int t_used, .int t_next])), (a_t_rows, .inr (0, [.int t_rows_count, .ref a_t_rows_bytes])), (a_t_rows_bytes, .inl ((cA 1), n_t_rows_bytes, .inl t_rows_bytes))]) [0, 1, 2] rfl
    have hD9 := hD.sub (ws' := [(a_t, .inr (2, [.ref a_t_rows, .int t_open, .int t_used, .int t_next])), (a_t_rows, .inr (0, [.int t_rows_count, .ref a_t_rows_bytes])), (a_t_rows_bytes, .inl ((cA 1), n_t_rows_bytes, .inl t_rows_bytes))]) [0, 1, 2] (by decide) rfl
    exact W.iret (v := t_next) hx hb hr (fun t ht hW => ⟨⟨_, (), rfl, rfl, by rw [ht]; exact hP9, va_K.moved hW.alike hK, hD9⟩, hS.F ht⟩) hS.2.2 d_Pg_coming_18
  · replace hf := (if_neg c_1).symm.trans hf
    refine lv_aload_n hx hb d_Pg_coming_7 rfl (lv_at hl 0 rfl) ?_
    refine va_get (D := D) (ci := 2) (v := .int t_open) (C := R_Pg) (T := F_Pg) (N := 4) hx hb hts (fun w9 h9 => .tail _ (gu_Pg w9 h9)) hown hK hP 0 rfl rfl 1 (by decide) (hts _ (.tail _ gm_79)) (fun _ h9 => h9) rfl d_Pg_coming_8 ?_
    refine lv_goto (tgt := 18) hx hb d_Pg_coming_11 (by decide) ?_
    have ho9 := Option.some.inj hf
    subst ho9
    have hP9 := hP.sub (ws' := [(a_t, .inr (2, [.ref a_t_rows, .int t_open, .int t_used, .int t_next])), (a_t_rows, .inr (0, [.int t_rows_count, .ref a_t_rows_bytes])), (a_t_rows_bytes, .inl ((cA 1), n_t_rows_bytes, .inl t_rows_bytes))]) [0, 1, 2] rfl
    have hD9 := hD.sub (ws' := [(a_t, .inr (2, [.ref a_t_rows, .int t_open, .int t_used, .int t_next])), (a_t_rows, .inr (0, [.int t_rows_count, .ref a_t_rows_bytes])), (a_t_rows_bytes, .inl ((cA 1), n_t_rows_bytes, .inl t_rows_bytes))]) [0, 1, 2] (by decide) rfl
    exact W.iret (v := t_open) hx hb hr (fun t ht hW => ⟨⟨_, (), rfl, rfl, by rw [ht]; exact hP9, va_K.moved hW.alike hK, hD9⟩, hS.F ht⟩) hS.2.2 d_Pg_coming_18
theorem d_Pg_byteAt_0 : decode b_Pg_byteAt 0 = .ok (.aload_n 0, 1) := by decide +kernel
theorem d_Pg_byteAt_1 : decode b_Pg_byteAt 1 = .ok (.getfield 14, 3) := by decide +kernel
theorem d_Pg_byteAt_4 : decode b_Pg_byteAt 4 = .ok (.iload_n 1, 1) := by decide +kernel
theorem d_Pg_byteAt_5 : decode b_Pg_byteAt 5 = .ok (.invokestatic 26, 3) := by decide +kernel
theorem d_Pg_byteAt_8 : decode b_Pg_byteAt 8 = .ok (.iload_n 2, 1) := by decide +kernel
theorem d_Pg_byteAt_9 : decode b_Pg_byteAt 9 = .ok (.invokevirtual 65, 3) := by decide +kernel
theorem d_Pg_byteAt_12 : decode b_Pg_byteAt 12 = .ok (.ireturn, 1) := by decide +kernel
abbrev wd_Pg_byteAt : List Cond := .code y_Pg_byteAt b_Pg_byteAt 3 (some .int) :: gw
def f_Pg_byteAt (t_rows_count : Int32) (n_t_rows_bytes : Nat) (t_rows_bytes : Nat → Int32) (t_open : Int32) (t_used : Int32) (t_next : Int32) (p0 : Int32) (p1 : Int32) : Option (Int32) :=
  (f_Pg_rowOf p0).bind fun o_1 =>
  (f_Bl_get t_rows_count n_t_rows_bytes t_rows_bytes o_1 p1).bind fun o_2 =>
  some o_2
set_option maxHeartbeats 4000000 in
set_option maxRecDepth 100000 in
theorem c_Pg_byteAt (l : Launch) (D : va_G) (cA : Nat → ClassId) (a_t a_t_rows a_t_rows_bytes : Nat) (sz : Nat) (t_rows_count : Int32) (n_t_rows_bytes : Nat) (t_rows_bytes : Nat → Int32) (t_open : Int32) (t_used : Int32) (t_next : Int32) (p0 : Int32) (p1 : Int32) (o : Int32) (hf : f_Pg_byteAt t_rows_count n_t_rows_bytes t_rows_bytes t_open t_used t_next p0 p1 = some o) : Met l y_Pg_byteAt wd_Pg_byteAt ({ frames := 2, cells := 0, slots := 0, locals := 44 }) (va_Pc [.ref a_t, .int p0, .int p1] (aP D cA [(a_t, .inr (2, [.ref a_t_rows, .int t_open, .int t_used, .int t_next])), (a_t_rows, .inr (0, [.int t_rows_count, .ref a_t_rows_bytes])), (a_t_rows_bytes, .inl ((cA 1), n_t_rows_bytes, .inl t_rows_bytes))] sz)) (va_Qi (fun r9 (_ : Unit) => r9 = o) (fun _ => aR D cA (va_A [(a_t, .inr (2, [.ref a_t_rows, .int t_open, .int t_used, .int t_next])), (a_t_rows, .inr (0, [.int t_rows_count, .ref a_t_rows_bytes])), (a_t_rows_bytes, .inl ((cA 1), n_t_rows_bytes, .inl t_rows_bytes))] sz) [(a_t, .inr (2, [.ref a_t_rows, .int t_open, .int t_used, .int t_next])), (a_t_rows, .inr (0, [.int t_rows_count, .ref a_t_rows_bytes])), (a_t_rows_bytes, .inl ((cA 1), n_t_rows_bytes, .inl t_rows_bytes))]) (va_A [(a_t, .inr (2, [.ref a_t_rows, .int t_open, .int t_used, .int t_next])), (a_t_rows, .inr (0, [.int t_rows_count, .ref a_t_rows_bytes])), (a_t_rows_bytes, .inl ((cA 1), n_t_rows_bytes, .inl t_rows_bytes))] sz)) 0 0 (va_A [(a_t, .inr (2, [.ref a_t_rows, .int t_open, .int t_used, .int t_next])), (a_t_rows, .inr (0, [.int t_rows_count, .ref a_t_rows_bytes])), (a_t_rows_bytes, .inl ((cA 1), n_t_rows_bytes, .inl t_rows_bytes))] sz) := by
  refine Met.ofW (cc := b_Pg_byteAt) (maxL := 3) (ret := (some .int)) (by decide +kernel) rfl ?_
  intro p e s m args below meth c s₁ B hml hv
  obtain ⟨rfl, hsz, hP, hK, hD0, hE⟩ := hv
  have hx := B.exec
  have hb := B.bytes
  have hr := B.returns
  have hts := atoms_spec (ws := wd_Pg_byteAt) B.pre
  have hown : s.vm.findClass R_Pg = some m.cls := findClass_of_methodNamed B.named
  have hlocks := B.notSynchronized
  subst hsz
  have hD := hD0.self (sz := s.heap.size)
  generalize hAe : va_A [(a_t, .inr (2, [.ref a_t_rows, .int t_open, .int t_used, .int t_next])), (a_t_rows, .inr (0, [.int t_rows_count, .ref a_t_rows_bytes])), (a_t_rows_bytes, .inl ((cA 1), n_t_rows_bytes, .inl t_rows_bytes))] s.heap.size = A at hD hE ⊢
  have hA : ∀ q : Nat, s.heap.size ≤ q → A q := fun q h => by rw [← hAe]; exact Or.inr h
  have hS : va_S A s.heap s.heap [] := va_S.rf
  have hl := lv_entry [.ref a_t, .int p0, .int p1] (n := 3) (Nat.le_of_ble_eq_true rfl)
  rw [lg_entry_eq]
  generalize (lg_sl [.ref a_t, .int p0, .int p1] ++ List.replicate (3 - (lg_sl [.ref a_t, .int p0, .int p1]).length) Slot.unset).toArray = ls at hl ⊢
  have hl : lv_has ls 3 [(0, .ref a_t), (1, .int p0), (2, .int p1)] := hl
  unfold f_Pg_byteAt at hf
  refine lv_aload_n hx hb d_Pg_byteAt_0 rfl (lv_at hl 0 rfl) ?_
  refine va_get (D := D) (ci := 2) (v := .ref a_t_rows) (C := R_Pg) (T := F_Pg) (N := 4) hx hb hts (fun w9 h9 => .tail _ (gu_Pg w9 h9)) hown hK hP 0 rfl rfl 0 (by decide) (hts _ (.tail _ gm_82)) (fun _ h9 => h9) rfl d_Pg_byteAt_1 ?_
  refine lv_iload_n hx hb d_Pg_byteAt_4 rfl (lv_at hl 1 rfl) ?_
  obtain ⟨o_1, ho_1, hf⟩ := hk_bd hf
  refine q_i (wr := [(a_t, .inr (2, [.ref a_t_rows, .int t_open, .int t_used, .int t_next])), (a_t_rows, .inr (0, [.int t_rows_count, .ref a_t_rows_bytes])), (a_t_rows_bytes, .inl ((cA 1), n_t_rows_bytes, .inl t_rows_bytes))]) (va_runS (As := [.int p0]) (rest := [.ref a_t_rows]) ⟨hx, hb, hml, hown, hts⟩ (c_Pg_rowOf l D cA _ p0 o_1 ho_1) (va_cwS 1 hts (gd_S gm_76 gm_77 gm_78 gm_75) rfl rfl rfl (by decide +kernel) ⟨Nat.le_of_ble_eq_true rfl, Nat.le_of_ble_eq_true rfl⟩) (q_pS hK hP hD hS hA hE [] (by decide) rfl) rfl rfl hl.1 rfl (lv_room (Nat.le_of_ble_eq_true rfl)) d_Pg_byteAt_5 ⟨Nat.zero_le _, Nat.zero_le _⟩) hP hD hS hA [] [0, 1, 2] rfl rfl (by decide) (by decide) (fun H locs hP hD hS => ?_)
  have hP : va_P D classes [(a_t, .inr (2, [.ref a_t_rows, .int t_open, .int t_used, .int t_next])), (a_t_rows, .inr (0, [.int t_rows_count, .ref a_t_rows_bytes])), (a_t_rows_bytes, .inl ((cA 1), n_t_rows_bytes, .inl t_rows_bytes))] H := hP
  have hD : va_D A [(a_t, .inr (2, [.ref a_t_rows, .int t_open, .int t_used, .int t_next])), (a_t_rows, .inr (0, [.int t_rows_count, .ref a_t_rows_bytes])), (a_t_rows_bytes, .inl ((cA 1), n_t_rows_bytes, .inl t_rows_bytes))] := hD
  refine lv_iload_n hx hb d_Pg_byteAt_8 rfl (lv_at hl 2 rfl) ?_
  obtain ⟨o_2, ho_2, hf⟩ := hk_bd hf
  refine q_i (wr := [(a_t, .inr (2, [.ref a_t_rows, .int t_open, .int t_used, .int t_next]))]) (va_runV (As := [.int o_1, .int p1]) (rest := []) ⟨hx, hb, hml, hown, hts⟩ (c_Bl_get l D cA a_t_rows a_t_rows_bytes _ t_rows_count n_t_rows_bytes t_rows_bytes o_1 p1 o_2 ho_2) (cwV 2 hts (gd_V gm_90 gm_91 gm_92 gm_5 gm_89) rfl rfl rfl (by decide +kernel) ⟨Nat.le_of_ble_eq_true rfl, Nat.le_of_ble_eq_true rfl⟩) (q_pV hK hP hD hS hA hE [1, 2] (by decide) rfl rfl rfl rfl) rfl rfl hl.1 rfl (lv_room (Nat.le_of_ble_eq_true rfl)) d_Pg_byteAt_9 ⟨Nat.zero_le _, Nat.zero_le _⟩) hP hD hS hA [1, 2] [0] rfl rfl (by decide) (by decide) (fun H locs hP hD hS => ?_)
  have hP : va_P D classes [(a_t, .inr (2, [.ref a_t_rows, .int t_open, .int t_used, .int t_next])), (a_t_rows, .inr (0, [.int t_rows_count, .ref a_t_rows_bytes])), (a_t_rows_bytes, .inl ((cA 1), n_t_rows_bytes, .inl t_rows_bytes))] H := hP
  have hD : va_D A [(a_t, .inr (2, [.ref a_t_rows, .int t_open, .int t_used, .int t_next])), (a_t_rows, .inr (0, [.int t_rows_count, .ref a_t_rows_bytes])), (a_t_rows_bytes, .inl ((cA 1), n_t_rows_bytes, .inl t_rows_bytes))] := hD
  have ho9 := Option.some.inj hf
  subst ho9
  have hP9 := hP.sub (ws' := [(a_t, .inr (2, [.ref a_t_rows, .int t_open, .int t_used, .int t_next])), (a_t_rows, .inr (0, [.int t_rows_count, .ref a_t_rows_bytes])), (a_t_rows_bytes, .inl ((cA 1), n_t_rows_bytes, .inl t_rows_bytes))]) [0, 1, 2] rfl
  have hD9 := hD.sub (ws' := [(a_t, .inr (2, [.ref a_t_rows, .int t_open, .int t_used, .int t_next])), (a_t_rows, .inr (0, [.int t_rows_count, .ref a_t_rows_bytes])), (a_t_rows_bytes, .inl ((cA 1), n_t_rows_bytes, .inl t_rows_bytes))]) [0, 1, 2] (by decide) rfl
  exact W.iret (v := o_2) hx hb hr (fun t ht hW => ⟨⟨_, (), rfl, rfl, by rw [ht]; exact hP9, va_K.moved hW.alike hK, hD9⟩, hS.F ht⟩) hS.2.2 d_Pg_byteAt_12
theorem d_Pg_openCount_0 : decode b_Pg_openCount 0 = .ok (.aload_n 0, 1) := by decide +kernel
theorem d_Pg_openCount_1 : decode b_Pg_openCount 1 = .ok (.getfield 30, 3) := by decide +kernel
theorem d_Pg_openCount_4 : decode b_Pg_openCount 4 = .ok (.ifCond .eq 16, 3) := by decide +kernel
theorem d_Pg_openCount_7 : decode b_Pg_openCount 7 = .ok (.aload_n 0, 1) := by decide +kernel
theorem d_Pg_openCount_8 : decode b_Pg_openCount 8 = .ok (.aload_n 0, 1) := by decide +kernel
theorem d_Pg_openCount_9 : decode b_Pg_openCount 9 = .ok (.getfield 30, 3) := by decide +kernel
theorem d_Pg_openCount_12 : decode b_Pg_openCount 12 = .ok (.bipush 8, 2) := by decide +kernel
theorem d_Pg_openCount_14 : decode b_Pg_openCount 14 = .ok (.invokevirtual 51, 3) := by decide +kernel
theorem d_Pg_openCount_17 : decode b_Pg_openCount 17 = .ok (.goto 4, 3) := by decide +kernel
theorem d_Pg_openCount_20 : decode b_Pg_openCount 20 = .ok (.iconst 0, 1) := by decide +kernel
theorem d_Pg_openCount_21 : decode b_Pg_openCount 21 = .ok (.ireturn, 1) := by decide +kernel
abbrev wd_Pg_openCount : List Cond := .code y_Pg_openCount b_Pg_openCount 1 (some .int) :: gw
def f_Pg_openCount (t_rows_count : Int32) (n_t_rows_bytes : Nat) (t_rows_bytes : Nat → Int32) (t_open : Int32) (t_used : Int32) (t_next : Int32) : Option (Int32) :=
  if t_open = 0 then
    some (0 : Int32)
  else
    (f_Pg_byteAt t_rows_count n_t_rows_bytes t_rows_bytes t_open t_used t_next t_open (8 : Int32)).bind fun o_2 =>
    some o_2
set_option maxHeartbeats 4000000 in
set_option maxRecDepth 100000 in
theorem c_Pg_openCount (l : Launch) (D : va_G) (cA : Nat → ClassId) (a_t a_t_rows a_t_rows_bytes : Nat) (sz : Nat) (t_rows_count : Int32) (n_t_rows_bytes : Nat) (t_rows_bytes : Nat → Int32) (t_open : Int32) (t_used : Int32) (t_next : Int32) (o : Int32) (hf : f_Pg_openCount t_rows_count n_t_rows_bytes t_rows_bytes t_open t_used t_next = some o) : Met l y_Pg_openCount wd_Pg_openCount ({ frames := 3, cells := 0, slots := 0, locals := 66 }) (va_Pc [.ref a_t] (aP D cA [(a_t, .inr (2, [.ref a_t_rows, .int t_open, .int t_used, .int t_next])), (a_t_rows, .inr (0, [.int t_rows_count, .ref a_t_rows_bytes])), (a_t_rows_bytes, .inl ((cA 1), n_t_rows_bytes, .inl t_rows_bytes))] sz)) (va_Qi (fun r9 (_ : Unit) => r9 = o) (fun _ => aR D cA (va_A [(a_t, .inr (2, [.ref a_t_rows, .int t_open, .int t_used, .int t_next])), (a_t_rows, .inr (0, [.int t_rows_count, .ref a_t_rows_bytes])), (a_t_rows_bytes, .inl ((cA 1), n_t_rows_bytes, .inl t_rows_bytes))] sz) [(a_t, .inr (2, [.ref a_t_rows, .int t_open, .int t_used, .int t_next])), (a_t_rows, .inr (0, [.int t_rows_count, .ref a_t_rows_bytes])), (a_t_rows_bytes, .inl ((cA 1), n_t_rows_bytes, .inl t_rows_bytes))]) (va_A [(a_t, .inr (2, [.ref a_t_rows, .int t_open, .int t_used, .int t_next])), (a_t_rows, .inr (0, [.int t_rows_count, .ref a_t_rows_bytes])), (a_t_rows_bytes, .inl ((cA 1), n_t_rows_bytes, .inl t_rows_bytes))] sz)) 0 0 (va_A [(a_t, .inr (2, [.ref a_t_rows, .int t_open, .int t_used, .int t_next])), (a_t_rows, .inr (0, [.int t_rows_count, .ref a_t_rows_bytes])), (a_t_rows_bytes, .inl ((cA 1), n_t_rows_bytes, .inl t_rows_bytes))] sz) := by
  refine Met.ofW (cc := b_Pg_openCount) (maxL := 1) (ret := (some .int)) (by decide +kernel) rfl ?_
  intro p e s m args below meth c s₁ B hml hv
  obtain ⟨rfl, hsz, hP, hK, hD0, hE⟩ := hv
  have hx := B.exec
  have hb := B.bytes
  have hr := B.returns
  have hts := atoms_spec (ws := wd_Pg_openCount) B.pre
  have hown : s.vm.findClass R_Pg = some m.cls := findClass_of_methodNamed B.named
  have hlocks := B.notSynchronized
  subst hsz
  have hD := hD0.self (sz := s.heap.size)
  generalize hAe : va_A [(a_t, .inr (2, [.ref a_t_rows, .int t_open, .int t_used, .int t_next])), (a_t_rows, .inr (0, [.int t_rows_count, .ref a_t_rows_bytes])), (a_t_rows_bytes, .inl ((cA 1), n_t_rows_bytes, .inl t_rows_bytes))] s.heap.size = A at hD hE ⊢
  have hA : ∀ q : Nat, s.heap.size ≤ q → A q := fun q h => by rw [← hAe]; exact Or.inr h
  have hS : va_S A s.heap s.heap [] := va_S.rf
  have hl := lv_entry [.ref a_t] (n := 1) (Nat.le_of_ble_eq_true rfl)
  rw [lg_entry_eq]
  generalize (lg_sl [.ref a_t] ++ List.replicate (1 - (lg_sl [.ref a_t]).length) Slot.unset).toArray = ls at hl ⊢
  have hl : lv_has ls 1 [(0, .ref a_t)] := hl
  unfold f_Pg_openCount at hf
  refine lv_aload_n hx hb d_Pg_openCount_0 rfl (lv_at hl 0 rfl) ?_
  refine va_get (D := D) (ci := 2) (v := .int t_open) (C := R_Pg) (T := F_Pg) (N := 4) hx hb hts (fun w9 h9 => .tail _ (gu_Pg w9 h9)) hown hK hP 0 rfl rfl 1 (by decide) (hts _ (.tail _ gm_79)) (fun _ h9 => h9) rfl d_Pg_openCount_1 ?_
  refine lv_if_eq (tgt := 20) hx hb d_Pg_openCount_4 (by decide) (fun c_1 => ?_) (fun c_1 => ?_)
  · replace hf := (if_pos c_1).symm.trans hf
    refine lv_iconst (v := 0) hx hb d_Pg_openCount_20 (by decide) ?_
    have ho9 := Option.some.inj hf
    subst ho9
    have hP9 := hP.sub (ws' := [(a_t, .inr (2, [.ref a_t_rows, .int t_open, .int t_used, .int t_next])), (a_t_rows, .inr (0, [.int t_rows_count, .ref a_t_rows_bytes])), (a_t_rows_bytes, .inl ((cA 1), n_t_rows_bytes, .inl t_rows_bytes))]) [0, 1, 2] rfl
    have hD9 := hD.sub (ws' := [(a_t, .inr (2, [.ref a_t_rows, .int t_open, .int t_used, .int t_next])), (a_t_rows, .inr (0, [.int t_rows_count, .ref a_t_rows_bytes])), (a_t_rows_bytes, .inl ((cA 1), n_t_rows_bytes, .inl t_rows_bytes))]) [0, 1, 2] (by decide) rfl
    exact W.iret (v := (0 : Int32)) hx hb hr (fun t ht hW => ⟨⟨_, (), rfl, rfl, by rw [ht]; exact hP9, va_K.moved hW.alike hK, hD9⟩, hS.F ht⟩) hS.2.2 d_Pg_openCount_21
  · replace hf := (if_neg c_1).symm.trans hf
    refine lv_aload_n hx hb d_Pg_openCount_7 rfl (lv_at hl 0 rfl) ?_
    refine lv_aload_n hx hb d_Pg_openCount_8 rfl (lv_at hl 0 rfl) ?_
    refine va_get (D := D) (ci := 2) (v := .int t_open) (C := R_Pg) (T := F_Pg) (N := 4) hx hb hts (fun w9 h9 => .tail _ (gu_Pg w9 h9)) hown hK hP 0 rfl rfl 1 (by decide) (hts _ (.tail _ gm_79)) (fun _ h9 => h9) rfl d_Pg_openCount_9 ?_
    refine lv_bipush (v := 8) hx hb d_Pg_openCount_12 (by decide) ?_
    obtain ⟨o_2, ho_2, hf⟩ := hk_bd hf
    refine q_i (wr := []) (va_runV (As := [.int t_open, .int (8 : Int32)]) (rest := []) ⟨hx, hb, hml, hown, hts⟩ (c_Pg_byteAt l D cA a_t a_t_rows a_t_rows_bytes _ t_rows_count n_t_rows_bytes t_rows_bytes t_open t_used t_next t_open (8 : Int32) o_2 ho_2) (cwV 2 hts (gd_V gm_94 gm_95 gm_96 gm_78 gm_93) rfl rfl rfl (by decide +kernel) ⟨Nat.le_of_ble_eq_true rfl, Nat.le_of_ble_eq_true rfl⟩) (q_pV hK hP hD hS hA hE [0, 1, 2] (by decide) rfl rfl rfl rfl) rfl rfl hl.1 rfl (lv_room (Nat.le_of_ble_eq_true rfl)) d_Pg_openCount_14 ⟨Nat.zero_le _, Nat.zero_le _⟩) hP hD hS hA [0, 1, 2] [] rfl rfl (by decide) (by decide) (fun H locs hP hD hS => ?_)
    have hP : va_P D classes [(a_t, .inr (2, [.ref a_t_rows, .int t_open, .int t_used, .int t_next])), (a_t_rows, .inr (0, [.int t_rows_count, .ref a_t_rows_bytes])), (a_t_rows_bytes, .inl ((cA 1), n_t_rows_bytes, .inl t_rows_bytes))] H := hP
    have hD : va_D A [(a_t, .inr (2, [.ref a_t_rows, .int t_open, .int t_used, .int t_next])), (a_t_rows, .inr (0, [.int t_rows_count, .ref a_t_rows_bytes])), (a_t_rows_bytes, .inl ((cA 1), n_t_rows_bytes, .inl t_rows_bytes))] := hD
    refine lv_goto (tgt := 21) hx hb d_Pg_openCount_17 (by decide) ?_
    have ho9 := Option.some.inj hf
    subst ho9
    have hP9 := hP.sub (ws' := [(a_t, .inr (2, [.ref a_t_rows, .int t_open, .int t_used, .int t_next])), (a_t_rows, .inr (0, [.int t_rows_count, .ref a_t_rows_bytes])), (a_t_rows_bytes, .inl ((cA 1), n_t_rows_bytes, .inl t_rows_bytes))]) [0, 1, 2] rfl
    have hD9 := hD.sub (ws' := [(a_t, .inr (2, [.ref a_t_rows, .int t_open, .int t_used, .int t_next])), (a_t_rows, .inr (0, [.int t_rows_count, .ref a_t_rows_bytes])), (a_t_rows_bytes, .inl ((cA 1), n_t_rows_bytes, .inl t_rows_bytes))]) [0, 1, 2] (by decide) rfl
    exact W.iret (v := o_2) hx hb hr (fun t ht hW => ⟨⟨_, (), rfl, rfl, by rw [ht]; exact hP9, va_K.moved hW.alike hK, hD9⟩, hS.F ht⟩) hS.2.2 d_Pg_openCount_21
theorem d_Pg_fits_0 : decode b_Pg_fits 0 = .ok (.aload_n 0, 1) := by decide +kernel
theorem d_Pg_fits_1 : decode b_Pg_fits 1 = .ok (.getfield 30, 3) := by decide +kernel
theorem d_Pg_fits_4 : decode b_Pg_fits 4 = .ok (.ifCond .eq 20, 3) := by decide +kernel
theorem d_Pg_fits_7 : decode b_Pg_fits 7 = .ok (.aload_n 0, 1) := by decide +kernel
theorem d_Pg_fits_8 : decode b_Pg_fits 8 = .ok (.getfield 34, 3) := by decide +kernel
theorem d_Pg_fits_11 : decode b_Pg_fits 11 = .ok (.iconst 2, 1) := by decide +kernel
theorem d_Pg_fits_12 : decode b_Pg_fits 12 = .ok (.iadd, 1) := by decide +kernel
theorem d_Pg_fits_13 : decode b_Pg_fits 13 = .ok (.iload_n 1, 1) := by decide +kernel
theorem d_Pg_fits_14 : decode b_Pg_fits 14 = .ok (.iadd, 1) := by decide +kernel
theorem d_Pg_fits_15 : decode b_Pg_fits 15 = .ok (.bipush 60, 2) := by decide +kernel
theorem d_Pg_fits_17 : decode b_Pg_fits 17 = .ok (.if_icmp .gt 7, 3) := by decide +kernel
theorem d_Pg_fits_20 : decode b_Pg_fits 20 = .ok (.iconst 1, 1) := by decide +kernel
theorem d_Pg_fits_21 : decode b_Pg_fits 21 = .ok (.goto 4, 3) := by decide +kernel
theorem d_Pg_fits_24 : decode b_Pg_fits 24 = .ok (.iconst 0, 1) := by decide +kernel
theorem d_Pg_fits_25 : decode b_Pg_fits 25 = .ok (.ireturn, 1) := by decide +kernel
abbrev wd_Pg_fits : List Cond := .code y_Pg_fits b_Pg_fits 2 (some .boolean) :: gw
def f_Pg_fits (t_rows_count : Int32) (n_t_rows_bytes : Nat) (t_rows_bytes : Nat → Int32) (t_open : Int32) (t_used : Int32) (t_next : Int32) (p0 : Int32) : Option (Int32) :=
  if t_open = 0 then
    some (0 : Int32)
  else
    if (60 : Int32) < ((t_used + (2 : Int32)) + p0) then
      some (0 : Int32)
    else
      some (1 : Int32)
set_option maxHeartbeats 4000000 in
set_option maxRecDepth 100000 in
theorem c_Pg_fits (l : Launch) (D : va_G) (cA : Nat → ClassId) (a_t a_t_rows a_t_rows_bytes : Nat) (sz : Nat) (t_rows_count : Int32) (n_t_rows_bytes : Nat) (t_rows_bytes : Nat → Int32) (t_open : Int32) (t_used : Int32) (t_next : Int32) (p0 : Int32) (o : Int32) (hf : f_Pg_fits t_rows_count n_t_rows_bytes t_rows_bytes t_open t_used t_next p0 = some o) : Met l y_Pg_fits wd_Pg_fits ({ frames := 0, cells := 0, slots := 0, locals := 0 }) (va_Pc [.ref a_t, .int p0] (aP D cA [(a_t, .inr (2, [.ref a_t_rows, .int t_open, .int t_used, .int t_next])), (a_t_rows, .inr (0, [.int t_rows_count, .ref a_t_rows_bytes])), (a_t_rows_bytes, .inl ((cA 1), n_t_rows_bytes, .inl t_rows_bytes))] sz)) (va_Qi (fun r9 (_ : Unit) => r9 = o) (fun _ => aR D cA (va_A [(a_t, .inr (2, [.ref a_t_rows, .int t_open, .int t_used, .int t_next])), (a_t_rows, .inr (0, [.int t_rows_count, .ref a_t_rows_bytes])), (a_t_rows_bytes, .inl ((cA 1), n_t_rows_bytes, .inl t_rows_bytes))] sz) [(a_t, .inr (2, [.ref a_t_rows, .int t_open, .int t_used, .int t_next])), (a_t_rows, .inr (0, [.int t_rows_count, .ref a_t_rows_bytes])), (a_t_rows_bytes, .inl ((cA 1), n_t_rows_bytes, .inl t_rows_bytes))]) (va_A [(a_t, .inr (2, [.ref a_t_rows, .int t_open, .int t_used, .int t_next])), (a_t_rows, .inr (0, [.int t_rows_count, .ref a_t_rows_bytes])), (a_t_rows_bytes, .inl ((cA 1), n_t_rows_bytes, .inl t_rows_bytes))] sz)) 0 0 (va_A [(a_t, .inr (2, [.ref a_t_rows, .int t_open, .int t_used, .int t_next])), (a_t_rows, .inr (0, [.int t_rows_count, .ref a_t_rows_bytes])), (a_t_rows_bytes, .inl ((cA 1), n_t_rows_bytes, .inl t_rows_bytes))] sz) := by
  refine Met.ofW (cc := b_Pg_fits) (maxL := 2) (ret := (some .boolean)) (by decide +kernel) rfl ?_
  intro p e s m args below meth c s₁ B hml hv
  obtain ⟨rfl, hsz, hP, hK, hD0, hE⟩ := hv
  have hx := B.exec
  have hb := B.bytes
  have hr := B.returns
  have hts := atoms_spec (ws := wd_Pg_fits) B.pre
  have hown : s.vm.findClass R_Pg = some m.cls := findClass_of_methodNamed B.named
  have hlocks := B.notSynchronized
  subst hsz
  have hD := hD0.self (sz := s.heap.size)
  generalize hAe : va_A [(a_t, .inr (2, [.ref a_t_rows, .int t_open, .int t_used, .int t_next])), (a_t_rows, .inr (0, [.int t_rows_count, .ref a_t_rows_bytes])), (a_t_rows_bytes, .inl ((cA 1), n_t_rows_bytes, .inl t_rows_bytes))] s.heap.size = A at hD hE ⊢
  have hA : ∀ q : Nat, s.heap.size ≤ q → A q := fun q h => by rw [← hAe]; exact Or.inr h
  have hS : va_S A s.heap s.heap [] := va_S.rf
  have hl := lv_entry [.ref a_t, .int p0] (n := 2) (Nat.le_of_ble_eq_true rfl)
  rw [lg_entry_eq]
  generalize (lg_sl [.ref a_t, .int p0] ++ List.replicate (2 - (lg_sl [.ref a_t, .int p0]).length) Slot.unset).toArray = ls at hl ⊢
  have hl : lv_has ls 2 [(0, .ref a_t), (1, .int p0)] := hl
  unfold f_Pg_fits at hf
  refine lv_aload_n hx hb d_Pg_fits_0 rfl (lv_at hl 0 rfl) ?_
  refine va_get (D := D) (ci := 2) (v := .int t_open) (C := R_Pg) (T := F_Pg) (N := 4) hx hb hts (fun w9 h9 => .tail _ (gu_Pg w9 h9)) hown hK hP 0 rfl rfl 1 (by decide) (hts _ (.tail _ gm_79)) (fun _ h9 => h9) rfl d_Pg_fits_1 ?_
  refine lv_if_eq (tgt := 24) hx hb d_Pg_fits_4 (by decide) (fun c_1 => ?_) (fun c_1 => ?_)
  · replace hf := (if_pos c_1).symm.trans hf
    refine lv_iconst (v := 0) hx hb d_Pg_fits_24 (by decide) ?_
    have ho9 := Option.some.inj hf
    subst ho9
    have hP9 := hP.sub (ws' := [(a_t, .inr (2, [.ref a_t_rows, .int t_open, .int t_used, .int t_next])), (a_t_rows, .inr (0, [.int t_rows_count, .ref a_t_rows_bytes])), (a_t_rows_bytes, .inl ((cA 1), n_t_rows_bytes, .inl t_rows_bytes))]) [0, 1, 2] rfl
    have hD9 := hD.sub (ws' := [(a_t, .inr (2, [.ref a_t_rows, .int t_open, .int t_used, .int t_next])), (a_t_rows, .inr (0, [.int t_rows_count, .ref a_t_rows_bytes])), (a_t_rows_bytes, .inl ((cA 1), n_t_rows_bytes, .inl t_rows_bytes))]) [0, 1, 2] (by decide) rfl
    exact W.zret (v := (0 : Int32)) hx hb hr rfl (fun t ht hW => ⟨⟨_, (), rfl, rfl, by rw [ht]; exact hP9, va_K.moved hW.alike hK, hD9⟩, hS.F ht⟩) hS.2.2 d_Pg_fits_25
  · replace hf := (if_neg c_1).symm.trans hf
    refine lv_aload_n hx hb d_Pg_fits_7 rfl (lv_at hl 0 rfl) ?_
    refine va_get (D := D) (ci := 2) (v := .int t_used) (C := R_Pg) (T := F_Pg) (N := 4) hx hb hts (fun w9 h9 => .tail _ (gu_Pg w9 h9)) hown hK hP 0 rfl rfl 2 (by decide) (hts _ (.tail _ gm_80)) (fun _ h9 => h9) rfl d_Pg_fits_8 ?_
    refine lv_iconst (v := 2) hx hb d_Pg_fits_11 (by decide) ?_
    refine lv_iadd hx hb d_Pg_fits_12 ?_
    refine lv_iload_n hx hb d_Pg_fits_13 rfl (lv_at hl 1 rfl) ?_
    refine lv_iadd hx hb d_Pg_fits_14 ?_
    refine lv_bipush (v := 60) hx hb d_Pg_fits_15 (by decide) ?_
    refine lv_icmp_gt (tgt := 24) hx hb d_Pg_fits_17 (by decide) (fun c_2 => ?_) (fun c_2 => ?_)
    · replace hf := (if_pos c_2).symm.trans hf
      refine lv_iconst (v := 0) hx hb d_Pg_fits_24 (by decide) ?_
      have ho9 := Option.some.inj hf
      subst ho9
      have hP9 := hP.sub (ws' := [(a_t, .inr (2, [.ref a_t_rows, .int t_open, .int t_used, .int t_next])), (a_t_rows, .inr (0, [.int t_rows_count, .ref a_t_rows_bytes])), (a_t_rows_bytes, .inl ((cA 1), n_t_rows_bytes, .inl t_rows_bytes))]) [0, 1, 2] rfl
      have hD9 := hD.sub (ws' := [(a_t, .inr (2, [.ref a_t_rows, .int t_open, .int t_used, .int t_next])), (a_t_rows, .inr (0, [.int t_rows_count, .ref a_t_rows_bytes])), (a_t_rows_bytes, .inl ((cA 1), n_t_rows_bytes, .inl t_rows_bytes))]) [0, 1, 2] (by decide) rfl
      exact W.zret (v := (0 : Int32)) hx hb hr rfl (fun t ht hW => ⟨⟨_, (), rfl, rfl, by rw [ht]; exact hP9, va_K.moved hW.alike hK, hD9⟩, hS.F ht⟩) hS.2.2 d_Pg_fits_25
    · replace hf := (if_neg c_2).symm.trans hf
      refine lv_iconst (v := 1) hx hb d_Pg_fits_20 (by decide) ?_
      refine lv_goto (tgt := 25) hx hb d_Pg_fits_21 (by decide) ?_
      have ho9 := Option.some.inj hf
      subst ho9
      have hP9 := hP.sub (ws' := [(a_t, .inr (2, [.ref a_t_rows, .int t_open, .int t_used, .int t_next])), (a_t_rows, .inr (0, [.int t_rows_count, .ref a_t_rows_bytes])), (a_t_rows_bytes, .inl ((cA 1), n_t_rows_bytes, .inl t_rows_bytes))]) [0, 1, 2] rfl
      have hD9 := hD.sub (ws' := [(a_t, .inr (2, [.ref a_t_rows, .int t_open, .int t_used, .int t_next])), (a_t_rows, .inr (0, [.int t_rows_count, .ref a_t_rows_bytes])), (a_t_rows_bytes, .inl ((cA 1), n_t_rows_bytes, .inl t_rows_bytes))]) [0, 1, 2] (by decide) rfl
      exact W.zret (v := (1 : Int32)) hx hb hr rfl (fun t ht hW => ⟨⟨_, (), rfl, rfl, by rw [ht]; exact hP9, va_K.moved hW.alike hK, hD9⟩, hS.F ht⟩) hS.2.2 d_Pg_fits_25
theorem d_Pg_addRecord_0 : decode b_Pg_addRecord 0 = .ok (.aload_n 0, 1) := by decide +kernel
theorem d_Pg_addRecord_1 : decode b_Pg_addRecord 1 = .ok (.getfield 30, 3) := by decide +kernel
theorem d_Pg_addRecord_4 : decode b_Pg_addRecord 4 = .ok (.invokestatic 26, 3) := by decide +kernel
theorem d_Pg_addRecord_7 : decode b_Pg_addRecord 7 = .ok (.istore 4, 2) := by decide +kernel
theorem d_Pg_addRecord_9 : decode b_Pg_addRecord 9 = .ok (.aload_n 0, 1) := by decide +kernel
theorem d_Pg_addRecord_10 : decode b_Pg_addRecord 10 = .ok (.getfield 34, 3) := by decide +kernel
theorem d_Pg_addRecord_13 : decode b_Pg_addRecord 13 = .ok (.istore 5, 2) := by decide +kernel
theorem d_Pg_addRecord_15 : decode b_Pg_addRecord 15 = .ok (.aload_n 0, 1) := by decide +kernel
theorem d_Pg_addRecord_16 : decode b_Pg_addRecord 16 = .ok (.getfield 14, 3) := by decide +kernel
theorem d_Pg_addRecord_19 : decode b_Pg_addRecord 19 = .ok (.iload 4, 2) := by decide +kernel
theorem d_Pg_addRecord_21 : decode b_Pg_addRecord 21 = .ok (.iload 5, 2) := by decide +kernel
theorem d_Pg_addRecord_23 : decode b_Pg_addRecord 23 = .ok (.iload_n 1, 1) := by decide +kernel
theorem d_Pg_addRecord_24 : decode b_Pg_addRecord 24 = .ok (.invokevirtual 54, 3) := by decide +kernel
theorem d_Pg_addRecord_27 : decode b_Pg_addRecord 27 = .ok (.aload_n 0, 1) := by decide +kernel
theorem d_Pg_addRecord_28 : decode b_Pg_addRecord 28 = .ok (.getfield 14, 3) := by decide +kernel
theorem d_Pg_addRecord_31 : decode b_Pg_addRecord 31 = .ok (.iload 4, 2) := by decide +kernel
theorem d_Pg_addRecord_33 : decode b_Pg_addRecord 33 = .ok (.iload 5, 2) := by decide +kernel
theorem d_Pg_addRecord_35 : decode b_Pg_addRecord 35 = .ok (.iconst 1, 1) := by decide +kernel
theorem d_Pg_addRecord_36 : decode b_Pg_addRecord 36 = .ok (.iadd, 1) := by decide +kernel
theorem d_Pg_addRecord_37 : decode b_Pg_addRecord 37 = .ok (.iload_n 3, 1) := by decide +kernel
theorem d_Pg_addRecord_38 : decode b_Pg_addRecord 38 = .ok (.invokevirtual 54, 3) := by decide +kernel
theorem d_Pg_addRecord_41 : decode b_Pg_addRecord 41 = .ok (.iconst 0, 1) := by decide +kernel
theorem d_Pg_addRecord_42 : decode b_Pg_addRecord 42 = .ok (.istore 6, 2) := by decide +kernel
theorem d_Pg_addRecord_44 : decode b_Pg_addRecord 44 = .ok (.iload 6, 2) := by decide +kernel
theorem d_Pg_addRecord_46 : decode b_Pg_addRecord 46 = .ok (.iload_n 3, 1) := by decide +kernel
theorem d_Pg_addRecord_47 : decode b_Pg_addRecord 47 = .ok (.if_icmp .ge 31, 3) := by decide +kernel
theorem d_Pg_addRecord_50 : decode b_Pg_addRecord 50 = .ok (.aload_n 0, 1) := by decide +kernel
theorem d_Pg_addRecord_51 : decode b_Pg_addRecord 51 = .ok (.getfield 14, 3) := by decide +kernel
theorem d_Pg_addRecord_54 : decode b_Pg_addRecord 54 = .ok (.iload 4, 2) := by decide +kernel
theorem d_Pg_addRecord_56 : decode b_Pg_addRecord 56 = .ok (.iload 5, 2) := by decide +kernel
theorem d_Pg_addRecord_58 : decode b_Pg_addRecord 58 = .ok (.iconst 2, 1) := by decide +kernel
theorem d_Pg_addRecord_59 : decode b_Pg_addRecord 59 = .ok (.iadd, 1) := by decide +kernel
theorem d_Pg_addRecord_60 : decode b_Pg_addRecord 60 = .ok (.iload 6, 2) := by decide +kernel
theorem d_Pg_addRecord_62 : decode b_Pg_addRecord 62 = .ok (.iadd, 1) := by decide +kernel
theorem d_Pg_addRecord_63 : decode b_Pg_addRecord 63 = .ok (.aload_n 2, 1) := by decide +kernel
theorem d_Pg_addRecord_64 : decode b_Pg_addRecord 64 = .ok (.iload 6, 2) := by decide +kernel
theorem d_Pg_addRecord_66 : decode b_Pg_addRecord 66 = .ok (.invokevirtual 57, 3) := by decide +kernel
theorem d_Pg_addRecord_69 : decode b_Pg_addRecord 69 = .ok (.invokevirtual 54, 3) := by decide +kernel
theorem d_Pg_addRecord_72 : decode b_Pg_addRecord 72 = .ok (.iinc 6 1, 3) := by decide +kernel
theorem d_Pg_addRecord_75 : decode b_Pg_addRecord 75 = .ok (.goto (-31), 3) := by decide +kernel
theorem d_Pg_addRecord_78 : decode b_Pg_addRecord 78 = .ok (.aload_n 0, 1) := by decide +kernel
theorem d_Pg_addRecord_79 : decode b_Pg_addRecord 79 = .ok (.getfield 14, 3) := by decide +kernel
theorem d_Pg_addRecord_82 : decode b_Pg_addRecord 82 = .ok (.iload 4, 2) := by decide +kernel
theorem d_Pg_addRecord_84 : decode b_Pg_addRecord 84 = .ok (.bipush 8, 2) := by decide +kernel
theorem d_Pg_addRecord_86 : decode b_Pg_addRecord 86 = .ok (.aload_n 0, 1) := by decide +kernel
theorem d_Pg_addRecord_87 : decode b_Pg_addRecord 87 = .ok (.invokevirtual 61, 3) := by decide +kernel
theorem d_Pg_addRecord_90 : decode b_Pg_addRecord 90 = .ok (.iconst 1, 1) := by decide +kernel
theorem d_Pg_addRecord_91 : decode b_Pg_addRecord 91 = .ok (.iadd, 1) := by decide +kernel
theorem d_Pg_addRecord_92 : decode b_Pg_addRecord 92 = .ok (.invokevirtual 54, 3) := by decide +kernel
theorem d_Pg_addRecord_95 : decode b_Pg_addRecord 95 = .ok (.aload_n 0, 1) := by decide +kernel
theorem d_Pg_addRecord_96 : decode b_Pg_addRecord 96 = .ok (.dup, 1) := by decide +kernel
theorem d_Pg_addRecord_97 : decode b_Pg_addRecord 97 = .ok (.getfield 34, 3) := by decide +kernel
theorem d_Pg_addRecord_100 : decode b_Pg_addRecord 100 = .ok (.iconst 2, 1) := by decide +kernel
theorem d_Pg_addRecord_101 : decode b_Pg_addRecord 101 = .ok (.iload_n 3, 1) := by decide +kernel
theorem d_Pg_addRecord_102 : decode b_Pg_addRecord 102 = .ok (.iadd, 1) := by decide +kernel
theorem d_Pg_addRecord_103 : decode b_Pg_addRecord 103 = .ok (.iadd, 1) := by decide +kernel
theorem d_Pg_addRecord_104 : decode b_Pg_addRecord 104 = .ok (.putfield 34, 3) := by decide +kernel
theorem d_Pg_addRecord_107 : decode b_Pg_addRecord 107 = .ok (.iload 5, 2) := by decide +kernel
theorem d_Pg_addRecord_109 : decode b_Pg_addRecord 109 = .ok (.ireturn, 1) := by decide +kernel
abbrev wd_Pg_addRecord : List Cond := .code y_Pg_addRecord b_Pg_addRecord 7 (some .int) :: gw
def f_Pg_addRecord_L44 (t_rows_count : Int32) (n_t_rows_bytes : Nat) (t_rows_bytes : Nat → Int32) (t_open : Int32) (t_used : Int32) (t_next : Int32) (n_p1_bytes : Nat) (p1_bytes : Nat → Int32) (p1_length : Int32) (p0 : Int32) (p2 : Int32) (y4 : Int32) (y5 : Int32) (t_used_0 : Int32) : Nat → (Nat → Int32) → Int32 → Option (Int32 × (Nat → Int32) × Int32)
  | 0, _, _ => none
  | n44 + 1, t_rows_bytes', x6 =>
    if p2 ≤ x6 then
      (f_Pg_openCount t_rows_count n_t_rows_bytes t_rows_bytes' t_open t_used_0 t_next).bind fun o_5 =>
      (f_Bl_set t_rows_count n_t_rows_bytes t_rows_bytes' y4 (8 : Int32) (o_5 + (1 : Int32))).bind fun o_6 =>
      some (y5, o_6, (t_used_0 + ((2 : Int32) + p2)))
    else
      (f_Tp_byteAt n_p1_bytes p1_bytes p1_length x6).bind fun o_7 =>
      (f_Bl_set t_rows_count n_t_rows_bytes t_rows_bytes' y4 ((y5 + (2 : Int32)) + x6) o_7).bind fun o_8 =>
      f_Pg_addRecord_L44 t_rows_count n_t_rows_bytes t_rows_bytes t_open t_used t_next n_p1_bytes p1_bytes p1_length p0 p2 y4 y5 t_used_0 n44 o_8 (x6 + (1 : Int32))
def f_Pg_addRecord (t_rows_count : Int32) (n_t_rows_bytes : Nat) (t_rows_bytes : Nat → Int32) (t_open : Int32) (t_used : Int32) (t_next : Int32) (n_p1_bytes : Nat) (p1_bytes : Nat → Int32) (p1_length : Int32) (p0 : Int32) (p2 : Int32) : Option (Int32 × (Nat → Int32) × Int32) :=
  (f_Pg_rowOf t_open).bind fun o_1 =>
  (f_Bl_set t_rows_count n_t_rows_bytes t_rows_bytes o_1 t_used p0).bind fun o_2 =>
  (f_Bl_set t_rows_count n_t_rows_bytes o_2 o_1 (t_used + (1 : Int32)) p2).bind fun o_3 =>
  f_Pg_addRecord_L44 t_rows_count n_t_rows_bytes t_rows_bytes t_open t_used t_next n_p1_bytes p1_bytes p1_length p0 p2 o_1 t_used t_used 50 o_3 (0 : Int32)
set_option maxHeartbeats 4000000 in
set_option maxRecDepth 100000 in
theorem k_Pg_addRecord_L44 {p : Program} {l : Launch} {e : Env} {s : State} {m : MethodId} {args : Array Value} {below : List Frame} {meth : Method} {c : Code} (hx : p.tables.exec = Jvm.exec) (hb : c.code = b_Pg_addRecord) (hr : meth.sig.returnType = (some .int)) (hml : c.maxLocals = 7) (hown : s.vm.findClass R_Pg = some m.cls) (hts : ∀ w ∈ wd_Pg_addRecord, w.before args s = true) (hlocks : meth.locks = false) {A : Nat → Prop} (hA : ∀ q, s.heap.size ≤ q → A q) (hE : ev A s) {D : va_G} {cA : Nat → ClassId} (hK : va_K D classes (tys cA) s) (a_t a_t_rows a_t_rows_bytes a_p1 a_p1_bytes : Nat) (t_rows_count : Int32) (n_t_rows_bytes : Nat) (t_rows_bytes : Nat → Int32) (t_open : Int32) (t_used : Int32) (t_next : Int32) (n_p1_bytes : Nat) (p1_bytes : Nat → Int32) (p1_length : Int32) (p0 : Int32) (p2 : Int32) (y4 : Int32) (y5 : Int32) (t_used_0 : Int32) (o : Int32 × (Nat → Int32) × Int32) :
    ∀ (n : Nat) (t_rows_bytes' : Nat → Int32) (x6 : Int32) (H : Heap) (locs : List Loc), f_Pg_addRecord_L44 t_rows_count n_t_rows_bytes t_rows_bytes t_open t_used t_next n_p1_bytes p1_bytes p1_length p0 p2 y4 y5 t_used_0 n t_rows_bytes' x6 = some o → va_P D classes [(a_t, .inr (2, [.ref a_t_rows, .int t_open, .int t_used_0, .int t_next])), (a_t_rows, .inr (0, [.int t_rows_count, .ref a_t_rows_bytes])), (a_t_rows_bytes, .inl ((cA 1), n_t_rows_bytes, .inl t_rows_bytes')), (a_p1, .inr (4, [.ref a_p1_bytes, .int p1_length])), (a_p1_bytes, .inl ((cA 1), n_p1_bytes, .inl p1_bytes))] H → va_D A [(a_t, .inr (2, [.ref a_t_rows, .int t_open, .int t_used_0, .int t_next])), (a_t_rows, .inr (0, [.int t_rows_count, .ref a_t_rows_bytes])), (a_t_rows_bytes, .inl ((cA 1), n_t_rows_bytes, .inl t_rows_bytes')), (a_p1, .inr (4, [.ref a_p1_bytes, .int p1_length])), (a_p1_bytes, .inl ((cA 1), n_p1_bytes, .inl p1_bytes))] → va_S A s.heap H locs → ∀ ls : Array Slot, lv_has ls 7 [(0, .ref a_t), (1, .int p0), (2, .ref a_p1), (3, .int p2), (4, .int y4), (5, .int y5), (6, .int x6)] → W p l e ({ frames := 4, cells := 0, slots := 0, locals := 86 }) s m args below meth c H locs 0 0 (MQ below (va_Qi (fun r9 (_ : Unit) => r9 = o.1) (fun _ => aR D cA A [(a_t, .inr (2, [.ref a_t_rows, .int t_open, .int o.2.2, .int t_next])), (a_t_rows, .inr (0, [.int t_rows_count, .ref a_t_rows_bytes])), (a_t_rows_bytes, .inl ((cA 1), n_t_rows_bytes, .inl o.2.1)), (a_p1, .inr (4, [.ref a_p1_bytes, .int p1_length])), (a_p1_bytes, .inl ((cA 1), n_p1_bytes, .inl p1_bytes))]) A) args s 0 0 A) (F0 m 44 ls []) := by
  intro n
  induction n with
  | zero =>
    intro t_rows_bytes' x6 H locs hf
    cases hf
  | succ n44 ih =>
    intro t_rows_bytes' x6 H locs hf hP hD hS ls hl
    rw [f_Pg_addRecord_L44.eq_2] at hf
    refine lv_iload hx hb d_Pg_addRecord_44 (lv_at hl 6 rfl) ?_
    refine lv_iload_n hx hb d_Pg_addRecord_46 rfl (lv_at hl 3 rfl) ?_
    refine lv_icmp_ge (tgt := 78) hx hb d_Pg_addRecord_47 (by decide) (fun c_4 => ?_) (fun c_4 => ?_)
    · replace hf := (if_pos c_4).symm.trans hf
      refine lv_aload_n hx hb d_Pg_addRecord_78 rfl (lv_at hl 0 rfl) ?_
      refine va_get (D := D) (ci := 2) (v := .ref a_t_rows) (C := R_Pg) (T := F_Pg) (N := 4) hx hb hts (fun w9 h9 => .tail _ (gu_Pg w9 h9)) hown hK hP 0 rfl rfl 0 (by decide) (hts _ (.tail _ gm_82)) (fun _ h9 => h9) rfl d_Pg_addRecord_79 ?_
      refine lv_iload hx hb d_Pg_addRecord_82 (lv_at hl 4 rfl) ?_
      refine lv_bipush (v := 8) hx hb d_Pg_addRecord_84 (by decide) ?_
      refine lv_aload_n hx hb d_Pg_addRecord_86 rfl (lv_at hl 0 rfl) ?_
      obtain ⟨o_5, ho_5, hf⟩ := hk_bd hf
      refine q_i (wr := [(a_p1, .inr (4, [.ref a_p1_bytes, .int p1_length])), (a_p1_bytes, .inl ((cA 1), n_p1_bytes, .inl p1_bytes))]) (va_runV (As := []) (rest := [.int (8 : Int32), .int y4, .ref a_t_rows]) ⟨hx, hb, hml, hown, hts⟩ (c_Pg_openCount l D cA a_t a_t_rows a_t_rows_bytes _ t_rows_count n_t_rows_bytes t_rows_bytes' t_open t_used_0 t_next o_5 ho_5) (cwV 0 hts (gd_V gm_99 gm_100 gm_101 gm_78 gm_98) rfl rfl rfl (by decide +kernel) ⟨Nat.le_of_ble_eq_true rfl, Nat.le_of_ble_eq_true rfl⟩) (q_pV hK hP hD hS hA hE [0, 1, 2] (by decide) rfl rfl rfl rfl) rfl rfl hl.1 rfl (lv_room (Nat.le_of_ble_eq_true rfl)) d_Pg_addRecord_87 ⟨Nat.zero_le _, Nat.zero_le _⟩) hP hD hS hA [0, 1, 2] [3, 4] rfl rfl (by decide) (by decide) (fun H locs hP hD hS => ?_)
      have hP : va_P D classes [(a_p1, .inr (4, [.ref a_p1_bytes, .int p1_length])), (a_p1_bytes, .inl ((cA 1), n_p1_bytes, .inl p1_bytes)), (a_t, .inr (2, [.ref a_t_rows, .int t_open, .int t_used_0, .int t_next])), (a_t_rows, .inr (0, [.int t_rows_count, .ref a_t_rows_bytes])), (a_t_rows_bytes, .inl ((cA 1), n_t_rows_bytes, .inl t_rows_bytes'))] H := hP
      have hD : va_D A [(a_p1, .inr (4, [.ref a_p1_bytes, .int p1_length])), (a_p1_bytes, .inl ((cA 1), n_p1_bytes, .inl p1_bytes)), (a_t, .inr (2, [.ref a_t_rows, .int t_open, .int t_used_0, .int t_next])), (a_t_rows, .inr (0, [.int t_rows_count, .ref a_t_rows_bytes])), (a_t_rows_bytes, .inl ((cA 1), n_t_rows_bytes, .inl t_rows_bytes'))] := hD
      refine lv_iconst (v := 1) hx hb d_Pg_addRecord_90 (by decide) ?_
      refine lv_iadd hx hb d_Pg_addRecord_91 ?_
      obtain ⟨o_6, ho_6, hf⟩ := hk_bd hf
      refine q_v (wr := [(a_p1, .inr (4, [.ref a_p1_bytes, .int p1_length])), (a_p1_bytes, .inl ((cA 1), n_p1_bytes, .inl p1_bytes)), (a_t, .inr (2, [.ref a_t_rows, .int t_open, .int t_used_0, .int t_next]))]) (va_runV (As := [.int y4, .int (8 : Int32), .int (o_5 + (1 : Int32))]) (rest := []) ⟨hx, hb, hml, hown, hts⟩ (c_Bl_set l D cA a_t_rows a_t_rows_bytes _ t_rows_count n_t_rows_bytes t_rows_bytes' y4 (8 : Int32) (o_5 + (1 : Int32)) o_6 ho_6) (cwV 3 hts (gd_V gm_97 gm_9 gm_10 gm_5 gm_7) rfl rfl rfl (by decide +kernel) ⟨Nat.le_of_ble_eq_true rfl, Nat.le_of_ble_eq_true rfl⟩) (q_pV hK hP hD hS hA hE [3, 4] (by decide) rfl rfl rfl rfl) rfl rfl hl.1 rfl (lv_room (Nat.le_of_ble_eq_true rfl)) d_Pg_addRecord_92 ⟨Nat.zero_le _, Nat.zero_le _⟩) hP hD hS hA [3, 4] [0, 1, 2] rfl rfl (by decide) (by decide) (fun H locs hP hD hS => ?_)
      have hP : va_P D classes [(a_p1, .inr (4, [.ref a_p1_bytes, .int p1_length])), (a_p1_bytes, .inl ((cA 1), n_p1_bytes, .inl p1_bytes)), (a_t, .inr (2, [.ref a_t_rows, .int t_open, .int t_used_0, .int t_next])), (a_t_rows, .inr (0, [.int t_rows_count, .ref a_t_rows_bytes])), (a_t_rows_bytes, .inl ((cA 1), n_t_rows_bytes, .inl o_6))] H := hP
      have hD : va_D A [(a_p1, .inr (4, [.ref a_p1_bytes, .int p1_length])), (a_p1_bytes, .inl ((cA 1), n_p1_bytes, .inl p1_bytes)), (a_t, .inr (2, [.ref a_t_rows, .int t_open, .int t_used_0, .int t_next])), (a_t_rows, .inr (0, [.int t_rows_count, .ref a_t_rows_bytes])), (a_t_rows_bytes, .inl ((cA 1), n_t_rows_bytes, .inl o_6))] := hD
      refine lv_aload_n hx hb d_Pg_addRecord_95 rfl (lv_at hl 0 rfl) ?_
      refine lv_dup hx hb d_Pg_addRecord_96 rfl ?_
      refine va_get (D := D) (ci := 2) (v := .int t_used_0) (C := R_Pg) (T := F_Pg) (N := 4) hx hb hts (fun w9 h9 => .tail _ (gu_Pg w9 h9)) hown hK hP 2 rfl rfl 2 (by decide) (hts _ (.tail _ gm_80)) (fun _ h9 => h9) rfl d_Pg_addRecord_97 ?_
      refine lv_iconst (v := 2) hx hb d_Pg_addRecord_100 (by decide) ?_
      refine lv_iload_n hx hb d_Pg_addRecord_101 rfl (lv_at hl 3 rfl) ?_
      refine lv_iadd hx hb d_Pg_addRecord_102 ?_
      refine lv_iadd hx hb d_Pg_addRecord_103 ?_
      refine va_put (D := D) (ci := 2) (v := .int (t_used_0 + ((2 : Int32) + p2))) (ty := .int) (C := R_Pg) (T := F_Pg) (N := 4) hx hb hts (fun w9 h9 => .tail _ (gu_Pg w9 h9)) t_Pg t_Pg_ok n_Pg hown hK hP hD hS 2 rfl rfl 2 (by decide) (hts _ (.tail _ gm_80)) (fun _ h9 => h9) rfl (by decide +kernel) rfl rfl (Nat.le_of_ble_eq_true rfl) d_Pg_addRecord_104 (fun H locs hP hD hS => ?_)
      have hP : va_P D classes [(a_p1, .inr (4, [.ref a_p1_bytes, .int p1_length])), (a_p1_bytes, .inl ((cA 1), n_p1_bytes, .inl p1_bytes)), (a_t, .inr (2, [.ref a_t_rows, .int t_open, .int (t_used_0 + ((2 : Int32) + p2)), .int t_next])), (a_t_rows, .inr (0, [.int t_rows_count, .ref a_t_rows_bytes])), (a_t_rows_bytes, .inl ((cA 1), n_t_rows_bytes, .inl o_6))] H := hP
      have hD : va_D A [(a_p1, .inr (4, [.ref a_p1_bytes, .int p1_length])), (a_p1_bytes, .inl ((cA 1), n_p1_bytes, .inl p1_bytes)), (a_t, .inr (2, [.ref a_t_rows, .int t_open, .int (t_used_0 + ((2 : Int32) + p2)), .int t_next])), (a_t_rows, .inr (0, [.int t_rows_count, .ref a_t_rows_bytes])), (a_t_rows_bytes, .inl ((cA 1), n_t_rows_bytes, .inl o_6))] := hD
      refine lv_iload hx hb d_Pg_addRecord_107 (lv_at hl 5 rfl) ?_
      have ho9 := Option.some.inj hf
      subst ho9
      have hP9 := hP.sub (ws' := [(a_t, .inr (2, [.ref a_t_rows, .int t_open, .int (t_used_0 + ((2 : Int32) + p2)), .int t_next])), (a_t_rows, .inr (0, [.int t_rows_count, .ref a_t_rows_bytes])), (a_t_rows_bytes, .inl ((cA 1), n_t_rows_bytes, .inl o_6)), (a_p1, .inr (4, [.ref a_p1_bytes, .int p1_length])), (a_p1_bytes, .inl ((cA 1), n_p1_bytes, .inl p1_bytes))]) [2, 3, 4, 0, 1] rfl
      have hD9 := hD.sub (ws' := [(a_t, .inr (2, [.ref a_t_rows, .int t_open, .int (t_used_0 + ((2 : Int32) + p2)), .int t_next])), (a_t_rows, .inr (0, [.int t_rows_count, .ref a_t_rows_bytes])), (a_t_rows_bytes, .inl ((cA 1), n_t_rows_bytes, .inl o_6)), (a_p1, .inr (4, [.ref a_p1_bytes, .int p1_length])), (a_p1_bytes, .inl ((cA 1), n_p1_bytes, .inl p1_bytes))]) [2, 3, 4, 0, 1] (by decide) rfl
      exact W.iret (v := y5) hx hb hr (fun t ht hW => ⟨⟨_, (), rfl, rfl, by rw [ht]; exact hP9, va_K.moved hW.alike hK, hD9⟩, hS.F ht⟩) hS.2.2 d_Pg_addRecord_109
    · replace hf := (if_neg c_4).symm.trans hf
      refine lv_aload_n hx hb d_Pg_addRecord_50 rfl (lv_at hl 0 rfl) ?_
      refine va_get (D := D) (ci := 2) (v := .ref a_t_rows) (C := R_Pg) (T := F_Pg) (N := 4) hx hb hts (fun w9 h9 => .tail _ (gu_Pg w9 h9)) hown hK hP 0 rfl rfl 0 (by decide) (hts _ (.tail _ gm_82)) (fun _ h9 => h9) rfl d_Pg_addRecord_51 ?_
      refine lv_iload hx hb d_Pg_addRecord_54 (lv_at hl 4 rfl) ?_
      refine lv_iload hx hb d_Pg_addRecord_56 (lv_at hl 5 rfl) ?_
      refine lv_iconst (v := 2) hx hb d_Pg_addRecord_58 (by decide) ?_
      refine lv_iadd hx hb d_Pg_addRecord_59 ?_
      refine lv_iload hx hb d_Pg_addRecord_60 (lv_at hl 6 rfl) ?_
      refine lv_iadd hx hb d_Pg_addRecord_62 ?_
      refine lv_aload_n hx hb d_Pg_addRecord_63 rfl (lv_at hl 2 rfl) ?_
      refine lv_iload hx hb d_Pg_addRecord_64 (lv_at hl 6 rfl) ?_
      obtain ⟨o_7, ho_7, hf⟩ := hk_bd hf
      refine q_i (wr := [(a_t, .inr (2, [.ref a_t_rows, .int t_open, .int t_used_0, .int t_next])), (a_t_rows, .inr (0, [.int t_rows_count, .ref a_t_rows_bytes])), (a_t_rows_bytes, .inl ((cA 1), n_t_rows_bytes, .inl t_rows_bytes'))]) (va_runV (As := [.int x6]) (rest := [.int ((y5 + (2 : Int32)) + x6), .int y4, .ref a_t_rows]) ⟨hx, hb, hml, hown, hts⟩ (c_Tp_byteAt l D cA a_p1 a_p1_bytes _ n_p1_bytes p1_bytes p1_length x6 o_7 ho_7) (cwV 1 hts (gd_V gm_103 gm_104 gm_105 gm_106 gm_102) rfl rfl rfl (by decide +kernel) ⟨Nat.le_of_ble_eq_true rfl, Nat.le_of_ble_eq_true rfl⟩) (q_pV hK hP hD hS hA hE [3, 4] (by decide) rfl rfl rfl rfl) rfl rfl hl.1 rfl (lv_room (Nat.le_of_ble_eq_true rfl)) d_Pg_addRecord_66 ⟨Nat.zero_le _, Nat.zero_le _⟩) hP hD hS hA [3, 4] [0, 1, 2] rfl rfl (by decide) (by decide) (fun H locs hP hD hS => ?_)
      have hP : va_P D classes [(a_t, .inr (2, [.ref a_t_rows, .int t_open, .int t_used_0, .int t_next])), (a_t_rows, .inr (0, [.int t_rows_count, .ref a_t_rows_bytes])), (a_t_rows_bytes, .inl ((cA 1), n_t_rows_bytes, .inl t_rows_bytes')), (a_p1, .inr (4, [.ref a_p1_bytes, .int p1_length])), (a_p1_bytes, .inl ((cA 1), n_p1_bytes, .inl p1_bytes))] H := hP
      have hD : va_D A [(a_t, .inr (2, [.ref a_t_rows, .int t_open, .int t_used_0, .int t_next])), (a_t_rows, .inr (0, [.int t_rows_count, .ref a_t_rows_bytes])), (a_t_rows_bytes, .inl ((cA 1), n_t_rows_bytes, .inl t_rows_bytes')), (a_p1, .inr (4, [.ref a_p1_bytes, .int p1_length])), (a_p1_bytes, .inl ((cA 1), n_p1_bytes, .inl p1_bytes))] := hD
      obtain ⟨o_8, ho_8, hf⟩ := hk_bd hf
      refine q_v (wr := [(a_t, .inr (2, [.ref a_t_rows, .int t_open, .int t_used_0, .int t_next])), (a_p1, .inr (4, [.ref a_p1_bytes, .int p1_length])), (a_p1_bytes, .inl ((cA 1), n_p1_bytes, .inl p1_bytes))]) (va_runV (As := [.int y4, .int ((y5 + (2 : Int32)) + x6), .int o_7]) (rest := []) ⟨hx, hb, hml, hown, hts⟩ (c_Bl_set l D cA a_t_rows a_t_rows_bytes _ t_rows_count n_t_rows_bytes t_rows_bytes' y4 ((y5 + (2 : Int32)) + x6) o_7 o_8 ho_8) (cwV 3 hts (gd_V gm_97 gm_9 gm_10 gm_5 gm_7) rfl rfl rfl (by decide +kernel) ⟨Nat.le_of_ble_eq_true rfl, Nat.le_of_ble_eq_true rfl⟩) (q_pV hK hP hD hS hA hE [1, 2] (by decide) rfl rfl rfl rfl) rfl rfl hl.1 rfl (lv_room (Nat.le_of_ble_eq_true rfl)) d_Pg_addRecord_69 ⟨Nat.zero_le _, Nat.zero_le _⟩) hP hD hS hA [1, 2] [0, 3, 4] rfl rfl (by decide) (by decide) (fun H locs hP hD hS => ?_)
      have hP : va_P D classes [(a_t, .inr (2, [.ref a_t_rows, .int t_open, .int t_used_0, .int t_next])), (a_p1, .inr (4, [.ref a_p1_bytes, .int p1_length])), (a_p1_bytes, .inl ((cA 1), n_p1_bytes, .inl p1_bytes)), (a_t_rows, .inr (0, [.int t_rows_count, .ref a_t_rows_bytes])), (a_t_rows_bytes, .inl ((cA 1), n_t_rows_bytes, .inl o_8))] H := hP
      have hD : va_D A [(a_t, .inr (2, [.ref a_t_rows, .int t_open, .int t_used_0, .int t_next])), (a_p1, .inr (4, [.ref a_p1_bytes, .int p1_length])), (a_p1_bytes, .inl ((cA 1), n_p1_bytes, .inl p1_bytes)), (a_t_rows, .inr (0, [.int t_rows_count, .ref a_t_rows_bytes])), (a_t_rows_bytes, .inl ((cA 1), n_t_rows_bytes, .inl o_8))] := hD
      refine lv_iinc (v := (x6 + (1 : Int32))) (lv' := [(6, .int (x6 + (1 : Int32))), (0, .ref a_t), (1, .int p0), (2, .ref a_p1), (3, .int p2), (4, .int y4), (5, .int y5)]) hx hb d_Pg_addRecord_72 hl (k := 6) rfl rfl (by decide) rfl (fun ls hl => ?_)
      refine lv_goto (tgt := 44) hx hb d_Pg_addRecord_75 (by decide) ?_
      exact ih o_8 (x6 + (1 : Int32)) _ _ hf (hP.sub [0, 3, 4, 1, 2] rfl) (hD.sub [0, 3, 4, 1, 2] (by decide) rfl) hS ls (lv_sub hl [1, 2, 3, 4, 5, 6, 0] rfl)
set_option maxHeartbeats 4000000 in
set_option maxRecDepth 100000 in
theorem c_Pg_addRecord (l : Launch) (D : va_G) (cA : Nat → ClassId) (a_t a_t_rows a_t_rows_bytes a_p1 a_p1_bytes : Nat) (sz : Nat) (t_rows_count : Int32) (n_t_rows_bytes : Nat) (t_rows_bytes : Nat → Int32) (t_open : Int32) (t_used : Int32) (t_next : Int32) (n_p1_bytes : Nat) (p1_bytes : Nat → Int32) (p1_length : Int32) (p0 : Int32) (p2 : Int32) (o : Int32 × (Nat → Int32) × Int32) (hf : f_Pg_addRecord t_rows_count n_t_rows_bytes t_rows_bytes t_open t_used t_next n_p1_bytes p1_bytes p1_length p0 p2 = some o) : Met l y_Pg_addRecord wd_Pg_addRecord ({ frames := 4, cells := 0, slots := 0, locals := 86 }) (va_Pc [.ref a_t, .int p0, .ref a_p1, .int p2] (aP D cA [(a_t, .inr (2, [.ref a_t_rows, .int t_open, .int t_used, .int t_next])), (a_t_rows, .inr (0, [.int t_rows_count, .ref a_t_rows_bytes])), (a_t_rows_bytes, .inl ((cA 1), n_t_rows_bytes, .inl t_rows_bytes)), (a_p1, .inr (4, [.ref a_p1_bytes, .int p1_length])), (a_p1_bytes, .inl ((cA 1), n_p1_bytes, .inl p1_bytes))] sz)) (va_Qi (fun r9 (_ : Unit) => r9 = o.1) (fun _ => aR D cA (va_A [(a_t, .inr (2, [.ref a_t_rows, .int t_open, .int t_used, .int t_next])), (a_t_rows, .inr (0, [.int t_rows_count, .ref a_t_rows_bytes])), (a_t_rows_bytes, .inl ((cA 1), n_t_rows_bytes, .inl t_rows_bytes)), (a_p1, .inr (4, [.ref a_p1_bytes, .int p1_length])), (a_p1_bytes, .inl ((cA 1), n_p1_bytes, .inl p1_bytes))] sz) [(a_t, .inr (2, [.ref a_t_rows, .int t_open, .int o.2.2, .int t_next])), (a_t_rows, .inr (0, [.int t_rows_count, .ref a_t_rows_bytes])), (a_t_rows_bytes, .inl ((cA 1), n_t_rows_bytes, .inl o.2.1)), (a_p1, .inr (4, [.ref a_p1_bytes, .int p1_length])), (a_p1_bytes, .inl ((cA 1), n_p1_bytes, .inl p1_bytes))]) (va_A [(a_t, .inr (2, [.ref a_t_rows, .int t_open, .int t_used, .int t_next])), (a_t_rows, .inr (0, [.int t_rows_count, .ref a_t_rows_bytes])), (a_t_rows_bytes, .inl ((cA 1), n_t_rows_bytes, .inl t_rows_bytes)), (a_p1, .inr (4, [.ref a_p1_bytes, .int p1_length])), (a_p1_bytes, .inl ((cA 1), n_p1_bytes, .inl p1_bytes))] sz)) 0 0 (va_A [(a_t, .inr (2, [.ref a_t_rows, .int t_open, .int t_used, .int t_next])), (a_t_rows, .inr (0, [.int t_rows_count, .ref a_t_rows_bytes])), (a_t_rows_bytes, .inl ((cA 1), n_t_rows_bytes, .inl t_rows_bytes)), (a_p1, .inr (4, [.ref a_p1_bytes, .int p1_length])), (a_p1_bytes, .inl ((cA 1), n_p1_bytes, .inl p1_bytes))] sz) := by
  refine Met.ofW (cc := b_Pg_addRecord) (maxL := 7) (ret := (some .int)) (by decide +kernel) rfl ?_
  intro p e s m args below meth c s₁ B hml hv
  obtain ⟨rfl, hsz, hP, hK, hD0, hE⟩ := hv
  have hx := B.exec
  have hb := B.bytes
  have hr := B.returns
  have hts := atoms_spec (ws := wd_Pg_addRecord) B.pre
  have hown : s.vm.findClass R_Pg = some m.cls := findClass_of_methodNamed B.named
  have hlocks := B.notSynchronized
  subst hsz
  have hD := hD0.self (sz := s.heap.size)
  generalize hAe : va_A [(a_t, .inr (2, [.ref a_t_rows, .int t_open, .int t_used, .int t_next])), (a_t_rows, .inr (0, [.int t_rows_count, .ref a_t_rows_bytes])), (a_t_rows_bytes, .inl ((cA 1), n_t_rows_bytes, .inl t_rows_bytes)), (a_p1, .inr (4, [.ref a_p1_bytes, .int p1_length])), (a_p1_bytes, .inl ((cA 1), n_p1_bytes, .inl p1_bytes))] s.heap.size = A at hD hE ⊢
  have hA : ∀ q : Nat, s.heap.size ≤ q → A q := fun q h => by rw [← hAe]; exact Or.inr h
  have hS : va_S A s.heap s.heap [] := va_S.rf
  have hl := lv_entry [.ref a_t, .int p0, .ref a_p1, .int p2] (n := 7) (Nat.le_of_ble_eq_true rfl)
  rw [lg_entry_eq]
  generalize (lg_sl [.ref a_t, .int p0, .ref a_p1, .int p2] ++ List.replicate (7 - (lg_sl [.ref a_t, .int p0, .ref a_p1, .int p2]).length) Slot.unset).toArray = ls at hl ⊢
  have hl : lv_has ls 7 [(0, .ref a_t), (1, .int p0), (2, .ref a_p1), (3, .int p2)] := hl
  unfold f_Pg_addRecord at hf
  refine lv_aload_n hx hb d_Pg_addRecord_0 rfl (lv_at hl 0 rfl) ?_
  refine va_get (D := D) (ci := 2) (v := .int t_open) (C := R_Pg) (T := F_Pg) (N := 4) hx hb hts (fun w9 h9 => .tail _ (gu_Pg w9 h9)) hown hK hP 0 rfl rfl 1 (by decide) (hts _ (.tail _ gm_79)) (fun _ h9 => h9) rfl d_Pg_addRecord_1 ?_
  obtain ⟨o_1, ho_1, hf⟩ := hk_bd hf
  refine q_i (wr := [(a_t, .inr (2, [.ref a_t_rows, .int t_open, .int t_used, .int t_next])), (a_t_rows, .inr (0, [.int t_rows_count, .ref a_t_rows_bytes])), (a_t_rows_bytes, .inl ((cA 1), n_t_rows_bytes, .inl t_rows_bytes)), (a_p1, .inr (4, [.ref a_p1_bytes, .int p1_length])), (a_p1_bytes, .inl ((cA 1), n_p1_bytes, .inl p1_bytes))]) (va_runS (As := [.int t_open]) (rest := []) ⟨hx, hb, hml, hown, hts⟩ (c_Pg_rowOf l D cA _ t_open o_1 ho_1) (va_cwS 1 hts (gd_S gm_76 gm_77 gm_78 gm_75) rfl rfl rfl (by decide +kernel) ⟨Nat.le_of_ble_eq_true rfl, Nat.le_of_ble_eq_true rfl⟩) (q_pS hK hP hD hS hA hE [] (by decide) rfl) rfl rfl hl.1 rfl (lv_room (Nat.le_of_ble_eq_true rfl)) d_Pg_addRecord_4 ⟨Nat.zero_le _, Nat.zero_le _⟩) hP hD hS hA [] [0, 1, 2, 3, 4] rfl rfl (by decide) (by decide) (fun H locs hP hD hS => ?_)
  have hP : va_P D classes [(a_t, .inr (2, [.ref a_t_rows, .int t_open, .int t_used, .int t_next])), (a_t_rows, .inr (0, [.int t_rows_count, .ref a_t_rows_bytes])), (a_t_rows_bytes, .inl ((cA 1), n_t_rows_bytes, .inl t_rows_bytes)), (a_p1, .inr (4, [.ref a_p1_bytes, .int p1_length])), (a_p1_bytes, .inl ((cA 1), n_p1_bytes, .inl p1_bytes))] H := hP
  have hD : va_D A [(a_t, .inr (2, [.ref a_t_rows, .int t_open, .int t_used, .int t_next])), (a_t_rows, .inr (0, [.int t_rows_count, .ref a_t_rows_bytes])), (a_t_rows_bytes, .inl ((cA 1), n_t_rows_bytes, .inl t_rows_bytes)), (a_p1, .inr (4, [.ref a_p1_bytes, .int p1_length])), (a_p1_bytes, .inl ((cA 1), n_p1_bytes, .inl p1_bytes))] := hD
  refine lv_istore (lv' := [(4, .int o_1), (0, .ref a_t), (1, .int p0), (2, .ref a_p1), (3, .int p2)]) hx hb d_Pg_addRecord_7 hl (by decide) rfl (fun ls hl => ?_)
  refine lv_aload_n hx hb d_Pg_addRecord_9 rfl (lv_at hl 1 rfl) ?_
  refine va_get (D := D) (ci := 2) (v := .int t_used) (C := R_Pg) (T := F_Pg) (N := 4) hx hb hts (fun w9 h9 => .tail _ (gu_Pg w9 h9)) hown hK hP 0 rfl rfl 2 (by decide) (hts _ (.tail _ gm_80)) (fun _ h9 => h9) rfl d_Pg_addRecord_10 ?_
  refine lv_istore (lv' := [(5, .int t_used), (4, .int o_1), (0, .ref a_t), (1, .int p0), (2, .ref a_p1), (3, .int p2)]) hx hb d_Pg_addRecord_13 hl (by decide) rfl (fun ls hl => ?_)
  refine lv_aload_n hx hb d_Pg_addRecord_15 rfl (lv_at hl 2 rfl) ?_
  refine va_get (D := D) (ci := 2) (v := .ref a_t_rows) (C := R_Pg) (T := F_Pg) (N := 4) hx hb hts (fun w9 h9 => .tail _ (gu_Pg w9 h9)) hown hK hP 0 rfl rfl 0 (by decide) (hts _ (.tail _ gm_82)) (fun _ h9 => h9) rfl d_Pg_addRecord_16 ?_
  refine lv_iload hx hb d_Pg_addRecord_19 (lv_at hl 1 rfl) ?_
  refine lv_iload hx hb d_Pg_addRecord_21 (lv_at hl 0 rfl) ?_
  refine lv_iload_n hx hb d_Pg_addRecord_23 rfl (lv_at hl 3 rfl) ?_
  obtain ⟨o_2, ho_2, hf⟩ := hk_bd hf
  refine q_v (wr := [(a_t, .inr (2, [.ref a_t_rows, .int t_open, .int t_used, .int t_next])), (a_p1, .inr (4, [.ref a_p1_bytes, .int p1_length])), (a_p1_bytes, .inl ((cA 1), n_p1_bytes, .inl p1_bytes))]) (va_runV (As := [.int o_1, .int t_used, .int p0]) (rest := []) ⟨hx, hb, hml, hown, hts⟩ (c_Bl_set l D cA a_t_rows a_t_rows_bytes _ t_rows_count n_t_rows_bytes t_rows_bytes o_1 t_used p0 o_2 ho_2) (cwV 3 hts (gd_V gm_97 gm_9 gm_10 gm_5 gm_7) rfl rfl rfl (by decide +kernel) ⟨Nat.le_of_ble_eq_true rfl, Nat.le_of_ble_eq_true rfl⟩) (q_pV hK hP hD hS hA hE [1, 2] (by decide) rfl rfl rfl rfl) rfl rfl hl.1 rfl (lv_room (Nat.le_of_ble_eq_true rfl)) d_Pg_addRecord_24 ⟨Nat.zero_le _, Nat.zero_le _⟩) hP hD hS hA [1, 2] [0, 3, 4] rfl rfl (by decide) (by decide) (fun H locs hP hD hS => ?_)
  have hP : va_P D classes [(a_t, .inr (2, [.ref a_t_rows, .int t_open, .int t_used, .int t_next])), (a_p1, .inr (4, [.ref a_p1_bytes, .int p1_length])), (a_p1_bytes, .inl ((cA 1), n_p1_bytes, .inl p1_bytes)), (a_t_rows, .inr (0, [.int t_rows_count, .ref a_t_rows_bytes])), (a_t_rows_bytes, .inl ((cA 1), n_t_rows_bytes, .inl o_2))] H := hP
  have hD : va_D A [(a_t, .inr (2, [.ref a_t_rows, .int t_open, .int t_used, .int t_next])), (a_p1, .inr (4, [.ref a_p1_bytes, .int p1_length])), (a_p1_bytes, .inl ((cA 1), n_p1_bytes, .inl p1_bytes)), (a_t_rows, .inr (0, [.int t_rows_count, .ref a_t_rows_bytes])), (a_t_rows_bytes, .inl ((cA 1), n_t_rows_bytes, .inl o_2))] := hD
  refine lv_aload_n hx hb d_Pg_addRecord_27 rfl (lv_at hl 2 rfl) ?_
  refine va_get (D := D) (ci := 2) (v := .ref a_t_rows) (C := R_Pg) (T := F_Pg) (N := 4) hx hb hts (fun w9 h9 => .tail _ (gu_Pg w9 h9)) hown hK hP 0 rfl rfl 0 (by decide) (hts _ (.tail _ gm_82)) (fun _ h9 => h9) rfl d_Pg_addRecord_28 ?_
  refine lv_iload hx hb d_Pg_addRecord_31 (lv_at hl 1 rfl) ?_
  refine lv_iload hx hb d_Pg_addRecord_33 (lv_at hl 0 rfl) ?_
  refine lv_iconst (v := 1) hx hb d_Pg_addRecord_35 (by decide) ?_
  refine lv_iadd hx hb d_Pg_addRecord_36 ?_
  refine lv_iload_n hx hb d_Pg_addRecord_37 rfl (lv_at hl 5 rfl) ?_
  obtain ⟨o_3, ho_3, hf⟩ := hk_bd hf
  refine q_v (wr := [(a_t, .inr (2, [.ref a_t_rows, .int t_open, .int t_used, .int t_next])), (a_p1, .inr (4, [.ref a_p1_bytes, .int p1_length])), (a_p1_bytes, .inl ((cA 1), n_p1_bytes, .inl p1_bytes))]) (va_runV (As := [.int o_1, .int (t_used + (1 : Int32)), .int p2]) (rest := []) ⟨hx, hb, hml, hown, hts⟩ (c_Bl_set l D cA a_t_rows a_t_rows_bytes _ t_rows_count n_t_rows_bytes o_2 o_1 (t_used + (1 : Int32)) p2 o_3 ho_3) (cwV 3 hts (gd_V gm_97 gm_9 gm_10 gm_5 gm_7) rfl rfl rfl (by decide +kernel) ⟨Nat.le_of_ble_eq_true rfl, Nat.le_of_ble_eq_true rfl⟩) (q_pV hK hP hD hS hA hE [3, 4] (by decide) rfl rfl rfl rfl) rfl rfl hl.1 rfl (lv_room (Nat.le_of_ble_eq_true rfl)) d_Pg_addRecord_38 ⟨Nat.zero_le _, Nat.zero_le _⟩) hP hD hS hA [3, 4] [0, 1, 2] rfl rfl (by decide) (by decide) (fun H locs hP hD hS => ?_)
  have hP : va_P D classes [(a_t, .inr (2, [.ref a_t_rows, .int t_open, .int t_used, .int t_next])), (a_p1, .inr (4, [.ref a_p1_bytes, .int p1_length])), (a_p1_bytes, .inl ((cA 1), n_p1_bytes, .inl p1_bytes)), (a_t_rows, .inr (0, [.int t_rows_count, .ref a_t_rows_bytes])), (a_t_rows_bytes, .inl ((cA 1), n_t_rows_bytes, .inl o_3))] H := hP
  have hD : va_D A [(a_t, .inr (2, [.ref a_t_rows, .int t_open, .int t_used, .int t_next])), (a_p1, .inr (4, [.ref a_p1_bytes, .int p1_length])), (a_p1_bytes, .inl ((cA 1), n_p1_bytes, .inl p1_bytes)), (a_t_rows, .inr (0, [.int t_rows_count, .ref a_t_rows_bytes])), (a_t_rows_bytes, .inl ((cA 1), n_t_rows_bytes, .inl o_3))] := hD
  refine lv_iconst (v := 0) hx hb d_Pg_addRecord_41 (by decide) ?_
  refine lv_istore (lv' := [(6, .int (0 : Int32)), (5, .int t_used), (4, .int o_1), (0, .ref a_t), (1, .int p0), (2, .ref a_p1), (3, .int p2)]) hx hb d_Pg_addRecord_42 hl (by decide) rfl (fun ls hl => ?_)
  exact k_Pg_addRecord_L44 hx hb hr hml hown hts hlocks hA hE hK a_t a_t_rows a_t_rows_bytes a_p1 a_p1_bytes t_rows_count n_t_rows_bytes t_rows_bytes t_open t_used t_next n_p1_bytes p1_bytes p1_length p0 p2 o_1 t_used t_used _ _ o_3 (0 : Int32) _ _ hf (hP.sub [0, 3, 4, 1, 2] rfl) (hD.sub [0, 3, 4, 1, 2] (by decide) rfl) hS ls (lv_sub hl [3, 4, 5, 6, 2, 1, 0] rfl)
theorem d_Wt_placeOf_0 : decode b_Wt_placeOf 0 = .ok (.iload_n 1, 1) := by decide +kernel
theorem d_Wt_placeOf_1 : decode b_Wt_placeOf 1 = .ok (.ifCond .lt 21, 3) := by decide +kernel
theorem d_Wt_placeOf_4 : decode b_Wt_placeOf 4 = .ok (.iload_n 1, 1) := by decide +kernel
theorem d_Wt_placeOf_5 : decode b_Wt_placeOf 5 = .ok (.aload_n 0, 1) := by decide +kernel
theorem d_Wt_placeOf_6 : decode b_Wt_placeOf 6 = .ok (.getfield 20, 3) := by decide +kernel
theorem d_Wt_placeOf_9 : decode b_Wt_placeOf 9 = .ok (.arraylength, 1) := by decide +kernel
theorem d_Wt_placeOf_10 : decode b_Wt_placeOf 10 = .ok (.if_icmp .ge 12, 3) := by decide +kernel
theorem d_Wt_placeOf_13 : decode b_Wt_placeOf 13 = .ok (.aload_n 0, 1) := by decide +kernel
theorem d_Wt_placeOf_14 : decode b_Wt_placeOf 14 = .ok (.getfield 20, 3) := by decide +kernel
theorem d_Wt_placeOf_17 : decode b_Wt_placeOf 17 = .ok (.iload_n 1, 1) := by decide +kernel
theorem d_Wt_placeOf_18 : decode b_Wt_placeOf 18 = .ok (.iaload, 1) := by decide +kernel
theorem d_Wt_placeOf_19 : decode b_Wt_placeOf 19 = .ok (.goto 4, 3) := by decide +kernel
theorem d_Wt_placeOf_22 : decode b_Wt_placeOf 22 = .ok (.iconst (-1), 1) := by decide +kernel
theorem d_Wt_placeOf_23 : decode b_Wt_placeOf 23 = .ok (.ireturn, 1) := by decide +kernel
abbrev wd_Wt_placeOf : List Cond := .code y_Wt_placeOf b_Wt_placeOf 2 (some .int) :: gw
def f_Wt_placeOf (t_blocks_count : Int32) (n_t_blocks_bytes : Nat) (t_blocks_bytes : Nat → Int32) (n_t_places : Nat) (t_places : Nat → Int32) (t_count : Int32) (p0 : Int32) : Option (Int32) :=
  if p0 < 0 then
    some (-1 : Int32)
  else
    if (Int32.ofNat n_t_places) ≤ p0 then
      some (-1 : Int32)
    else
      if p0 < 0 ∨ n_t_places ≤ p0.toNatClampNeg then none else
      some (t_places p0.toNatClampNeg)
set_option maxHeartbeats 4000000 in
set_option maxRecDepth 100000 in
theorem c_Wt_placeOf (l : Launch) (D : va_G) (cA : Nat → ClassId) (a_t a_t_blocks a_t_blocks_bytes a_t_places : Nat) (sz : Nat) (t_blocks_count : Int32) (n_t_blocks_bytes : Nat) (t_blocks_bytes : Nat → Int32) (n_t_places : Nat) (t_places : Nat → Int32) (t_count : Int32) (p0 : Int32) (o : Int32) (hf : f_Wt_placeOf t_blocks_count n_t_blocks_bytes t_blocks_bytes n_t_places t_places t_count p0 = some o) : Met l y_Wt_placeOf wd_Wt_placeOf ({ frames := 0, cells := 0, slots := 0, locals := 0 }) (va_Pc [.ref a_t, .int p0] (aP D cA [(a_t, .inr (5, [.ref a_t_blocks, .ref a_t_places, .int t_count])), (a_t_blocks, .inr (0, [.int t_blocks_count, .ref a_t_blocks_bytes])), (a_t_blocks_bytes, .inl ((cA 1), n_t_blocks_bytes, .inl t_blocks_bytes)), (a_t_places, .inl ((cA 0), n_t_places, .inl t_places))] sz)) (va_Qi (fun r9 (_ : Unit) => r9 = o) (fun _ => aR D cA (va_A [(a_t, .inr (5, [.ref a_t_blocks, .ref a_t_places, .int t_count])), (a_t_blocks, .inr (0, [.int t_blocks_count, .ref a_t_blocks_bytes])), (a_t_blocks_bytes, .inl ((cA 1), n_t_blocks_bytes, .inl t_blocks_bytes)), (a_t_places, .inl ((cA 0), n_t_places, .inl t_places))] sz) [(a_t, .inr (5, [.ref a_t_blocks, .ref a_t_places, .int t_count])), (a_t_blocks, .inr (0, [.int t_blocks_count, .ref a_t_blocks_bytes])), (a_t_blocks_bytes, .inl ((cA 1), n_t_blocks_bytes, .inl t_blocks_bytes)), (a_t_places, .inl ((cA 0), n_t_places, .inl t_places))]) (va_A [(a_t, .inr (5, [.ref a_t_blocks, .ref a_t_places, .int t_count])), (a_t_blocks, .inr (0, [.int t_blocks_count, .ref a_t_blocks_bytes])), (a_t_blocks_bytes, .inl ((cA 1), n_t_blocks_bytes, .inl t_blocks_bytes)), (a_t_places, .inl ((cA 0), n_t_places, .inl t_places))] sz)) 0 0 (va_A [(a_t, .inr (5, [.ref a_t_blocks, .ref a_t_places, .int t_count])), (a_t_blocks, .inr (0, [.int t_blocks_count, .ref a_t_blocks_bytes])), (a_t_blocks_bytes, .inl ((cA 1), n_t_blocks_bytes, .inl t_blocks_bytes)), (a_t_places, .inl ((cA 0), n_t_places, .inl t_places))] sz) := by
  refine Met.ofW (cc := b_Wt_placeOf) (maxL := 2) (ret := (some .int)) (by decide +kernel) rfl ?_
  intro p e s m args below meth c s₁ B hml hv
  obtain ⟨rfl, hsz, hP, hK, hD0, hE⟩ := hv
  have hx := B.exec
  have hb := B.bytes
  have hr := B.returns
  have hts := atoms_spec (ws := wd_Wt_placeOf) B.pre
  have hown : s.vm.findClass R_Wt = some m.cls := findClass_of_methodNamed B.named
  have hlocks := B.notSynchronized
  subst hsz
  have hD := hD0.self (sz := s.heap.size)
  generalize hAe : va_A [(a_t, .inr (5, [.ref a_t_blocks, .ref a_t_places, .int t_count])), (a_t_blocks, .inr (0, [.int t_blocks_count, .ref a_t_blocks_bytes])), (a_t_blocks_bytes, .inl ((cA 1), n_t_blocks_bytes, .inl t_blocks_bytes)), (a_t_places, .inl ((cA 0), n_t_places, .inl t_places))] s.heap.size = A at hD hE ⊢
  have hA : ∀ q : Nat, s.heap.size ≤ q → A q := fun q h => by rw [← hAe]; exact Or.inr h
  have hS : va_S A s.heap s.heap [] := va_S.rf
  have hl := lv_entry [.ref a_t, .int p0] (n := 2) (Nat.le_of_ble_eq_true rfl)
  rw [lg_entry_eq]
  generalize (lg_sl [.ref a_t, .int p0] ++ List.replicate (2 - (lg_sl [.ref a_t, .int p0]).length) Slot.unset).toArray = ls at hl ⊢
  have hl : lv_has ls 2 [(0, .ref a_t), (1, .int p0)] := hl
  unfold f_Wt_placeOf at hf
  refine lv_iload_n hx hb d_Wt_placeOf_0 rfl (lv_at hl 1 rfl) ?_
  refine lv_if_lt (tgt := 22) hx hb d_Wt_placeOf_1 (by decide) (fun c_1 => ?_) (fun c_1 => ?_)
  · replace hf := (if_pos c_1).symm.trans hf
    refine lv_iconst (v := (-1)) hx hb d_Wt_placeOf_22 (by decide) ?_
    have ho9 := Option.some.inj hf
    subst ho9
    have hP9 := hP.sub (ws' := [(a_t, .inr (5, [.ref a_t_blocks, .ref a_t_places, .int t_count])), (a_t_blocks, .inr (0, [.int t_blocks_count, .ref a_t_blocks_bytes])), (a_t_blocks_bytes, .inl ((cA 1), n_t_blocks_bytes, .inl t_blocks_bytes)), (a_t_places, .inl ((cA 0), n_t_places, .inl t_places))]) [0, 1, 2, 3] rfl
    have hD9 := hD.sub (ws' := [(a_t, .inr (5, [.ref a_t_blocks, .ref a_t_places, .int t_count])), (a_t_blocks, .inr (0, [.int t_blocks_count, .ref a_t_blocks_bytes])), (a_t_blocks_bytes, .inl ((cA 1), n_t_blocks_bytes, .inl t_blocks_bytes)), (a_t_places, .inl ((cA 0), n_t_places, .inl t_places))]) [0, 1, 2, 3] (by decide) rfl
    exact W.iret (v := (-1 : Int32)) hx hb hr (fun t ht hW => ⟨⟨_, (), rfl, rfl, by rw [ht]; exact hP9, va_K.moved hW.alike hK, hD9⟩, hS.F ht⟩) hS.2.2 d_Wt_placeOf_23
  · replace hf := (if_neg c_1).symm.trans hf
    refine lv_iload_n hx hb d_Wt_placeOf_4 rfl (lv_at hl 1 rfl) ?_
    refine lv_aload_n hx hb d_Wt_placeOf_5 rfl (lv_at hl 0 rfl) ?_
    refine va_get (D := D) (ci := 5) (v := .ref a_t_places) (C := R_Wt) (T := F_Wt) (N := 3) hx hb hts (fun w9 h9 => .tail _ (gu_Wt w9 h9)) hown hK hP 0 rfl rfl 1 (by decide) (hts _ (.tail _ gm_107)) (fun _ h9 => h9) rfl d_Wt_placeOf_6 ?_
    refine va_alen hx hb hK hP 3 0 rfl rfl rfl d_Wt_placeOf_9 ?_
    refine lv_icmp_ge (tgt := 22) hx hb d_Wt_placeOf_10 (by decide) (fun c_2 => ?_) (fun c_2 => ?_)
    · replace hf := (if_pos c_2).symm.trans hf
      refine lv_iconst (v := (-1)) hx hb d_Wt_placeOf_22 (by decide) ?_
      have ho9 := Option.some.inj hf
      subst ho9
      have hP9 := hP.sub (ws' := [(a_t, .inr (5, [.ref a_t_blocks, .ref a_t_places, .int t_count])), (a_t_blocks, .inr (0, [.int t_blocks_count, .ref a_t_blocks_bytes])), (a_t_blocks_bytes, .inl ((cA 1), n_t_blocks_bytes, .inl t_blocks_bytes)), (a_t_places, .inl ((cA 0), n_t_places, .inl t_places))]) [0, 1, 2, 3] rfl
      have hD9 := hD.sub (ws' := [(a_t, .inr (5, [.ref a_t_blocks, .ref a_t_places, .int t_count])), (a_t_blocks, .inr (0, [.int t_blocks_count, .ref a_t_blocks_bytes])), (a_t_blocks_bytes, .inl ((cA 1), n_t_blocks_bytes, .inl t_blocks_bytes)), (a_t_places, .inl ((cA 0), n_t_places, .inl t_places))]) [0, 1, 2, 3] (by decide) rfl
      exact W.iret (v := (-1 : Int32)) hx hb hr (fun t ht hW => ⟨⟨_, (), rfl, rfl, by rw [ht]; exact hP9, va_K.moved hW.alike hK, hD9⟩, hS.F ht⟩) hS.2.2 d_Wt_placeOf_23
    · replace hf := (if_neg c_2).symm.trans hf
      refine lv_aload_n hx hb d_Wt_placeOf_13 rfl (lv_at hl 0 rfl) ?_
      refine va_get (D := D) (ci := 5) (v := .ref a_t_places) (C := R_Wt) (T := F_Wt) (N := 3) hx hb hts (fun w9 h9 => .tail _ (gu_Wt w9 h9)) hown hK hP 0 rfl rfl 1 (by decide) (hts _ (.tail _ gm_107)) (fun _ h9 => h9) rfl d_Wt_placeOf_14 ?_
      refine lv_iload_n hx hb d_Wt_placeOf_17 rfl (lv_at hl 1 rfl) ?_
      obtain ⟨ck_3, hf⟩ := hk_if hf
      refine va_iald hx hb hK hP 3 0 rfl rfl ck_3 d_Wt_placeOf_18 ?_
      refine lv_goto (tgt := 23) hx hb d_Wt_placeOf_19 (by decide) ?_
      have ho9 := Option.some.inj hf
      subst ho9
      have hP9 := hP.sub (ws' := [(a_t, .inr (5, [.ref a_t_blocks, .ref a_t_places, .int t_count])), (a_t_blocks, .inr (0, [.int t_blocks_count, .ref a_t_blocks_bytes])), (a_t_blocks_bytes, .inl ((cA 1), n_t_blocks_bytes, .inl t_blocks_bytes)), (a_t_places, .inl ((cA 0), n_t_places, .inl t_places))]) [0, 1, 2, 3] rfl
      have hD9 := hD.sub (ws' := [(a_t, .inr (5, [.ref a_t_blocks, .ref a_t_places, .int t_count])), (a_t_blocks, .inr (0, [.int t_blocks_count, .ref a_t_blocks_bytes])), (a_t_blocks_bytes, .inl ((cA 1), n_t_blocks_bytes, .inl t_blocks_bytes)), (a_t_places, .inl ((cA 0), n_t_places, .inl t_places))]) [0, 1, 2, 3] (by decide) rfl
      exact W.iret (v := (t_places p0.toNatClampNeg)) hx hb hr (fun t ht hW => ⟨⟨_, (), rfl, rfl, by rw [ht]; exact hP9, va_K.moved hW.alike hK, hD9⟩, hS.F ht⟩) hS.2.2 d_Wt_placeOf_23
theorem d_Wt_addPage_0 : decode b_Wt_addPage 0 = .ok (.aload_n 0, 1) := by decide +kernel
theorem d_Wt_addPage_1 : decode b_Wt_addPage 1 = .ok (.getfield 24, 3) := by decide +kernel
theorem d_Wt_addPage_4 : decode b_Wt_addPage 4 = .ok (.aload_n 0, 1) := by decide +kernel
theorem d_Wt_addPage_5 : decode b_Wt_addPage 5 = .ok (.getfield 20, 3) := by decide +kernel
theorem d_Wt_addPage_8 : decode b_Wt_addPage 8 = .ok (.arraylength, 1) := by decide +kernel
theorem d_Wt_addPage_9 : decode b_Wt_addPage 9 = .ok (.if_icmp .ge 41, 3) := by decide +kernel
theorem d_Wt_addPage_12 : decode b_Wt_addPage 12 = .ok (.aload_n 0, 1) := by decide +kernel
theorem d_Wt_addPage_13 : decode b_Wt_addPage 13 = .ok (.getfield 20, 3) := by decide +kernel
theorem d_Wt_addPage_16 : decode b_Wt_addPage 16 = .ok (.aload_n 0, 1) := by decide +kernel
theorem d_Wt_addPage_17 : decode b_Wt_addPage 17 = .ok (.getfield 24, 3) := by decide +kernel
theorem d_Wt_addPage_20 : decode b_Wt_addPage 20 = .ok (.iload_n 1, 1) := by decide +kernel
theorem d_Wt_addPage_21 : decode b_Wt_addPage 21 = .ok (.invokestatic 28, 3) := by decide +kernel
theorem d_Wt_addPage_24 : decode b_Wt_addPage 24 = .ok (.iastore, 1) := by decide +kernel
theorem d_Wt_addPage_25 : decode b_Wt_addPage 25 = .ok (.aload_n 0, 1) := by decide +kernel
theorem d_Wt_addPage_26 : decode b_Wt_addPage 26 = .ok (.getfield 14, 3) := by decide +kernel
theorem d_Wt_addPage_29 : decode b_Wt_addPage 29 = .ok (.aload_n 2, 1) := by decide +kernel
theorem d_Wt_addPage_30 : decode b_Wt_addPage 30 = .ok (.iload_n 3, 1) := by decide +kernel
theorem d_Wt_addPage_31 : decode b_Wt_addPage 31 = .ok (.aload_n 0, 1) := by decide +kernel
theorem d_Wt_addPage_32 : decode b_Wt_addPage 32 = .ok (.getfield 24, 3) := by decide +kernel
theorem d_Wt_addPage_35 : decode b_Wt_addPage 35 = .ok (.bipush 64, 2) := by decide +kernel
theorem d_Wt_addPage_37 : decode b_Wt_addPage 37 = .ok (.invokevirtual 34, 3) := by decide +kernel
theorem d_Wt_addPage_40 : decode b_Wt_addPage 40 = .ok (.aload_n 0, 1) := by decide +kernel
theorem d_Wt_addPage_41 : decode b_Wt_addPage 41 = .ok (.dup, 1) := by decide +kernel
theorem d_Wt_addPage_42 : decode b_Wt_addPage 42 = .ok (.getfield 24, 3) := by decide +kernel
theorem d_Wt_addPage_45 : decode b_Wt_addPage 45 = .ok (.iconst 1, 1) := by decide +kernel
theorem d_Wt_addPage_46 : decode b_Wt_addPage 46 = .ok (.iadd, 1) := by decide +kernel
theorem d_Wt_addPage_47 : decode b_Wt_addPage 47 = .ok (.putfield 24, 3) := by decide +kernel
theorem d_Wt_addPage_50 : decode b_Wt_addPage 50 = .ok (.return_, 1) := by decide +kernel
abbrev wd_Wt_addPage : List Cond := .code y_Wt_addPage b_Wt_addPage 4 none :: gw
def f_Wt_addPage (t_blocks_count : Int32) (n_t_blocks_bytes : Nat) (t_blocks_bytes : Nat → Int32) (n_t_places : Nat) (t_places : Nat → Int32) (t_count : Int32) (p1_count : Int32) (n_p1_bytes : Nat) (p1_bytes : Nat → Int32) (p0 : Int32) (p2 : Int32) : Option ((Nat → Int32) × (Nat → Int32) × Int32) :=
  if (Int32.ofNat n_t_places) ≤ t_count then
    some (t_blocks_bytes, t_places, t_count)
  else
    (f_Pg_placeOf p0).bind fun o_2 =>
    if t_count < 0 ∨ n_t_places ≤ t_count.toNatClampNeg then none else
    (f_Bl_copyFrom t_blocks_count n_t_blocks_bytes t_blocks_bytes p1_count n_p1_bytes p1_bytes p2 t_count (64 : Int32)).bind fun o_4 =>
    some (o_4, (upd t_places t_count.toNatClampNeg o_2), (t_count + (1 : Int32)))
set_option maxHeartbeats 4000000 in
set_option maxRecDepth 100000 in
theorem c_Wt_addPage (l : Launch) (D : va_G) (cA : Nat → ClassId) (a_t a_t_blocks a_t_blocks_bytes a_t_places a_p1 a_p1_bytes : Nat) (sz : Nat) (t_blocks_count : Int32) (n_t_blocks_bytes : Nat) (t_blocks_bytes : Nat → Int32) (n_t_places : Nat) (t_places : Nat → Int32) (t_count : Int32) (p1_count : Int32) (n_p1_bytes : Nat) (p1_bytes : Nat → Int32) (p0 : Int32) (p2 : Int32) (o : (Nat → Int32) × (Nat → Int32) × Int32) (hf : f_Wt_addPage t_blocks_count n_t_blocks_bytes t_blocks_bytes n_t_places t_places t_count p1_count n_p1_bytes p1_bytes p0 p2 = some o) : Met l y_Wt_addPage wd_Wt_addPage ({ frames := 3, cells := 0, slots := 0, locals := 64 }) (va_Pc [.ref a_t, .int p0, .ref a_p1, .int p2] (aP D cA [(a_t, .inr (5, [.ref a_t_blocks, .ref a_t_places, .int t_count])), (a_t_blocks, .inr (0, [.int t_blocks_count, .ref a_t_blocks_bytes])), (a_t_blocks_bytes, .inl ((cA 1), n_t_blocks_bytes, .inl t_blocks_bytes)), (a_t_places, .inl ((cA 0), n_t_places, .inl t_places)), (a_p1, .inr (0, [.int p1_count, .ref a_p1_bytes])), (a_p1_bytes, .inl ((cA 1), n_p1_bytes, .inl p1_bytes))] sz)) (va_Qv (fun (_ : Unit) => True) (fun _ => aR D cA (va_A [(a_t, .inr (5, [.ref a_t_blocks, .ref a_t_places, .int t_count])), (a_t_blocks, .inr (0, [.int t_blocks_count, .ref a_t_blocks_bytes])), (a_t_blocks_bytes, .inl ((cA 1), n_t_blocks_bytes, .inl t_blocks_bytes)), (a_t_places, .inl ((cA 0), n_t_places, .inl t_places)), (a_p1, .inr (0, [.int p1_count, .ref a_p1_bytes])), (a_p1_bytes, .inl ((cA 1), n_p1_bytes, .inl p1_bytes))] sz) [(a_t, .inr (5, [.ref a_t_blocks, .ref a_t_places, .int o.2.2])), (a_t_blocks, .inr (0, [.int t_blocks_count, .ref a_t_blocks_bytes])), (a_t_blocks_bytes, .inl ((cA 1), n_t_blocks_bytes, .inl o.1)), (a_t_places, .inl ((cA 0), n_t_places, .inl o.2.1)), (a_p1, .inr (0, [.int p1_count, .ref a_p1_bytes])), (a_p1_bytes, .inl ((cA 1), n_p1_bytes, .inl p1_bytes))]) (va_A [(a_t, .inr (5, [.ref a_t_blocks, .ref a_t_places, .int t_count])), (a_t_blocks, .inr (0, [.int t_blocks_count, .ref a_t_blocks_bytes])), (a_t_blocks_bytes, .inl ((cA 1), n_t_blocks_bytes, .inl t_blocks_bytes)), (a_t_places, .inl ((cA 0), n_t_places, .inl t_places)), (a_p1, .inr (0, [.int p1_count, .ref a_p1_bytes])), (a_p1_bytes, .inl ((cA 1), n_p1_bytes, .inl p1_bytes))] sz)) 0 0 (va_A [(a_t, .inr (5, [.ref a_t_blocks, .ref a_t_places, .int t_count])), (a_t_blocks, .inr (0, [.int t_blocks_count, .ref a_t_blocks_bytes])), (a_t_blocks_bytes, .inl ((cA 1), n_t_blocks_bytes, .inl t_blocks_bytes)), (a_t_places, .inl ((cA 0), n_t_places, .inl t_places)), (a_p1, .inr (0, [.int p1_count, .ref a_p1_bytes])), (a_p1_bytes, .inl ((cA 1), n_p1_bytes, .inl p1_bytes))] sz) := by
  refine Met.ofW (cc := b_Wt_addPage) (maxL := 4) (ret := none) (by decide +kernel) rfl ?_
  intro p e s m args below meth c s₁ B hml hv
  obtain ⟨rfl, hsz, hP, hK, hD0, hE⟩ := hv
  have hx := B.exec
  have hb := B.bytes
  have hr := B.returns
  have hts := atoms_spec (ws := wd_Wt_addPage) B.pre
  have hown : s.vm.findClass R_Wt = some m.cls := findClass_of_methodNamed B.named
  have hlocks := B.notSynchronized
  subst hsz
  have hD := hD0.self (sz := s.heap.size)
  generalize hAe : va_A [(a_t, .inr (5, [.ref a_t_blocks, .ref a_t_places, .int t_count])), (a_t_blocks, .inr (0, [.int t_blocks_count, .ref a_t_blocks_bytes])), (a_t_blocks_bytes, .inl ((cA 1), n_t_blocks_bytes, .inl t_blocks_bytes)), (a_t_places, .inl ((cA 0), n_t_places, .inl t_places)), (a_p1, .inr (0, [.int p1_count, .ref a_p1_bytes])), (a_p1_bytes, .inl ((cA 1), n_p1_bytes, .inl p1_bytes))] s.heap.size = A at hD hE ⊢
  have hA : ∀ q : Nat, s.heap.size ≤ q → A q := fun q h => by rw [← hAe]; exact Or.inr h
  have hS : va_S A s.heap s.heap [] := va_S.rf
  have hl := lv_entry [.ref a_t, .int p0, .ref a_p1, .int p2] (n := 4) (Nat.le_of_ble_eq_true rfl)
  rw [lg_entry_eq]
  generalize (lg_sl [.ref a_t, .int p0, .ref a_p1, .int p2] ++ List.replicate (4 - (lg_sl [.ref a_t, .int p0, .ref a_p1, .int p2]).length) Slot.unset).toArray = ls at hl ⊢
  have hl : lv_has ls 4 [(0, .ref a_t), (1, .int p0), (2, .ref a_p1), (3, .int p2)] := hl
  unfold f_Wt_addPage at hf
  refine lv_aload_n hx hb d_Wt_addPage_0 rfl (lv_at hl 0 rfl) ?_
  refine va_get (D := D) (ci := 5) (v := .int t_count) (C := R_Wt) (T := F_Wt) (N := 3) hx hb hts (fun w9 h9 => .tail _ (gu_Wt w9 h9)) hown hK hP 0 rfl rfl 2 (by decide) (hts _ (.tail _ gm_108)) (fun _ h9 => h9) rfl d_Wt_addPage_1 ?_
  refine lv_aload_n hx hb d_Wt_addPage_4 rfl (lv_at hl 0 rfl) ?_
  refine va_get (D := D) (ci := 5) (v := .ref a_t_places) (C := R_Wt) (T := F_Wt) (N := 3) hx hb hts (fun w9 h9 => .tail _ (gu_Wt w9 h9)) hown hK hP 0 rfl rfl 1 (by decide) (hts _ (.tail _ gm_107)) (fun _ h9 => h9) rfl d_Wt_addPage_5 ?_
  refine va_alen hx hb hK hP 3 0 rfl rfl rfl d_Wt_addPage_8 ?_
  refine lv_icmp_ge (tgt := 50) hx hb d_Wt_addPage_9 (by decide) (fun c_1 => ?_) (fun c_1 => ?_)
  · replace hf := (if_pos c_1).symm.trans hf
    have ho9 := Option.some.inj hf
    subst ho9
    have hP9 := hP.sub (ws' := [(a_t, .inr (5, [.ref a_t_blocks, .ref a_t_places, .int t_count])), (a_t_blocks, .inr (0, [.int t_blocks_count, .ref a_t_blocks_bytes])), (a_t_blocks_bytes, .inl ((cA 1), n_t_blocks_bytes, .inl t_blocks_bytes)), (a_t_places, .inl ((cA 0), n_t_places, .inl t_places)), (a_p1, .inr (0, [.int p1_count, .ref a_p1_bytes])), (a_p1_bytes, .inl ((cA 1), n_p1_bytes, .inl p1_bytes))]) [0, 1, 2, 3, 4, 5] rfl
    have hD9 := hD.sub (ws' := [(a_t, .inr (5, [.ref a_t_blocks, .ref a_t_places, .int t_count])), (a_t_blocks, .inr (0, [.int t_blocks_count, .ref a_t_blocks_bytes])), (a_t_blocks_bytes, .inl ((cA 1), n_t_blocks_bytes, .inl t_blocks_bytes)), (a_t_places, .inl ((cA 0), n_t_places, .inl t_places)), (a_p1, .inr (0, [.int p1_count, .ref a_p1_bytes])), (a_p1_bytes, .inl ((cA 1), n_p1_bytes, .inl p1_bytes))]) [0, 1, 2, 3, 4, 5] (by decide) rfl
    exact W.vret hx hb hr (fun t ht hW => ⟨⟨(), rfl, trivial, by rw [ht]; exact hP9, va_K.moved hW.alike hK, hD9⟩, hS.F ht⟩) hS.2.2 d_Wt_addPage_50
  · replace hf := (if_neg c_1).symm.trans hf
    refine lv_aload_n hx hb d_Wt_addPage_12 rfl (lv_at hl 0 rfl) ?_
    refine va_get (D := D) (ci := 5) (v := .ref a_t_places) (C := R_Wt) (T := F_Wt) (N := 3) hx hb hts (fun w9 h9 => .tail _ (gu_Wt w9 h9)) hown hK hP 0 rfl rfl 1 (by decide) (hts _ (.tail _ gm_107)) (fun _ h9 => h9) rfl d_Wt_addPage_13 ?_
    refine lv_aload_n hx hb d_Wt_addPage_16 rfl (lv_at hl 0 rfl) ?_
    refine va_get (D := D) (ci := 5) (v := .int t_count) (C := R_Wt) (T := F_Wt) (N := 3) hx hb hts (fun w9 h9 => .tail _ (gu_Wt w9 h9)) hown hK hP 0 rfl rfl 2 (by decide) (hts _ (.tail _ gm_108)) (fun _ h9 => h9) rfl d_Wt_addPage_17 ?_
    refine lv_iload_n hx hb d_Wt_addPage_20 rfl (lv_at hl 1 rfl) ?_
    obtain ⟨o_2, ho_2, hf⟩ := hk_bd hf
    refine q_i (wr := [(a_t, .inr (5, [.ref a_t_blocks, .ref a_t_places, .int t_count])), (a_t_blocks, .inr (0, [.int t_blocks_count, .ref a_t_blocks_bytes])), (a_t_blocks_bytes, .inl ((cA 1), n_t_blocks_bytes, .inl t_blocks_bytes)), (a_t_places, .inl ((cA 0), n_t_places, .inl t_places)), (a_p1, .inr (0, [.int p1_count, .ref a_p1_bytes])), (a_p1_bytes, .inl ((cA 1), n_p1_bytes, .inl p1_bytes))]) (va_runS (As := [.int p0]) (rest := [.int t_count, .ref a_t_places]) ⟨hx, hb, hml, hown, hts⟩ (c_Pg_placeOf l D cA _ p0 o_2 ho_2) (va_cwS 1 hts (gd_S gm_110 gm_111 gm_78 gm_109) rfl rfl rfl (by decide +kernel) ⟨Nat.le_of_ble_eq_true rfl, Nat.le_of_ble_eq_true rfl⟩) (q_pS hK hP hD hS hA hE [] (by decide) rfl) rfl rfl hl.1 rfl (lv_room (Nat.le_of_ble_eq_true rfl)) d_Wt_addPage_21 ⟨Nat.zero_le _, Nat.zero_le _⟩) hP hD hS hA [] [0, 1, 2, 3, 4, 5] rfl rfl (by decide) (by decide) (fun H locs hP hD hS => ?_)
    have hP : va_P D classes [(a_t, .inr (5, [.ref a_t_blocks, .ref a_t_places, .int t_count])), (a_t_blocks, .inr (0, [.int t_blocks_count, .ref a_t_blocks_bytes])), (a_t_blocks_bytes, .inl ((cA 1), n_t_blocks_bytes, .inl t_blocks_bytes)), (a_t_places, .inl ((cA 0), n_t_places, .inl t_places)), (a_p1, .inr (0, [.int p1_count, .ref a_p1_bytes])), (a_p1_bytes, .inl ((cA 1), n_p1_bytes, .inl p1_bytes))] H := hP
    have hD : va_D A [(a_t, .inr (5, [.ref a_t_blocks, .ref a_t_places, .int t_count])), (a_t_blocks, .inr (0, [.int t_blocks_count, .ref a_t_blocks_bytes])), (a_t_blocks_bytes, .inl ((cA 1), n_t_blocks_bytes, .inl t_blocks_bytes)), (a_t_places, .inl ((cA 0), n_t_places, .inl t_places)), (a_p1, .inr (0, [.int p1_count, .ref a_p1_bytes])), (a_p1_bytes, .inl ((cA 1), n_p1_bytes, .inl p1_bytes))] := hD
    obtain ⟨ck_3, hf⟩ := hk_if hf
    refine va_iast hx hb hK hP hD hS 3 0 rfl rfl ck_3 d_Wt_addPage_24 (fun H locs hP hD hS => ?_)
    have hP : va_P D classes [(a_t, .inr (5, [.ref a_t_blocks, .ref a_t_places, .int t_count])), (a_t_blocks, .inr (0, [.int t_blocks_count, .ref a_t_blocks_bytes])), (a_t_blocks_bytes, .inl ((cA 1), n_t_blocks_bytes, .inl t_blocks_bytes)), (a_t_places, .inl ((cA 0), n_t_places, .inl (upd t_places t_count.toNatClampNeg o_2))), (a_p1, .inr (0, [.int p1_count, .ref a_p1_bytes])), (a_p1_bytes, .inl ((cA 1), n_p1_bytes, .inl p1_bytes))] H := hP
    have hD : va_D A [(a_t, .inr (5, [.ref a_t_blocks, .ref a_t_places, .int t_count])), (a_t_blocks, .inr (0, [.int t_blocks_count, .ref a_t_blocks_bytes])), (a_t_blocks_bytes, .inl ((cA 1), n_t_blocks_bytes, .inl t_blocks_bytes)), (a_t_places, .inl ((cA 0), n_t_places, .inl (upd t_places t_count.toNatClampNeg o_2))), (a_p1, .inr (0, [.int p1_count, .ref a_p1_bytes])), (a_p1_bytes, .inl ((cA 1), n_p1_bytes, .inl p1_bytes))] := hD
    refine lv_aload_n hx hb d_Wt_addPage_25 rfl (lv_at hl 0 rfl) ?_
    refine va_get (D := D) (ci := 5) (v := .ref a_t_blocks) (C := R_Wt) (T := F_Wt) (N := 3) hx hb hts (fun w9 h9 => .tail _ (gu_Wt w9 h9)) hown hK hP 0 rfl rfl 0 (by decide) (hts _ (.tail _ gm_112)) (fun _ h9 => h9) rfl d_Wt_addPage_26 ?_
    refine lv_aload_n hx hb d_Wt_addPage_29 rfl (lv_at hl 2 rfl) ?_
    refine lv_iload_n hx hb d_Wt_addPage_30 rfl (lv_at hl 3 rfl) ?_
    refine lv_aload_n hx hb d_Wt_addPage_31 rfl (lv_at hl 0 rfl) ?_
    refine va_get (D := D) (ci := 5) (v := .int t_count) (C := R_Wt) (T := F_Wt) (N := 3) hx hb hts (fun w9 h9 => .tail _ (gu_Wt w9 h9)) hown hK hP 0 rfl rfl 2 (by decide) (hts _ (.tail _ gm_108)) (fun _ h9 => h9) rfl d_Wt_addPage_32 ?_
    refine lv_bipush (v := 64) hx hb d_Wt_addPage_35 (by decide) ?_
    obtain ⟨o_4, ho_4, hf⟩ := hk_bd hf
    refine q_v (wr := [(a_t, .inr (5, [.ref a_t_blocks, .ref a_t_places, .int t_count])), (a_t_places, .inl ((cA 0), n_t_places, .inl (upd t_places t_count.toNatClampNeg o_2)))]) (va_runV (As := [.ref a_p1, .int p2, .int t_count, .int (64 : Int32)]) (rest := []) ⟨hx, hb, hml, hown, hts⟩ (c_Bl_copyFrom l D cA a_t_blocks a_t_blocks_bytes a_p1 a_p1_bytes _ t_blocks_count n_t_blocks_bytes t_blocks_bytes p1_count n_p1_bytes p1_bytes p2 t_count (64 : Int32) o_4 ho_4) (cwV 4 hts (gd_V gm_113 gm_87 gm_88 gm_5 gm_85) rfl rfl rfl (by decide +kernel) ⟨Nat.le_of_ble_eq_true rfl, Nat.le_of_ble_eq_true rfl⟩) (q_pV hK hP hD hS hA hE [1, 2, 4, 5] (by decide) rfl rfl rfl rfl) rfl rfl hl.1 rfl (lv_room (Nat.le_of_ble_eq_true rfl)) d_Wt_addPage_37 ⟨Nat.zero_le _, Nat.zero_le _⟩) hP hD hS hA [1, 2, 4, 5] [0, 3] rfl rfl (by decide) (by decide) (fun H locs hP hD hS => ?_)
    have hP : va_P D classes [(a_t, .inr (5, [.ref a_t_blocks, .ref a_t_places, .int t_count])), (a_t_places, .inl ((cA 0), n_t_places, .inl (upd t_places t_count.toNatClampNeg o_2))), (a_t_blocks, .inr (0, [.int t_blocks_count, .ref a_t_blocks_bytes])), (a_t_blocks_bytes, .inl ((cA 1), n_t_blocks_bytes, .inl o_4)), (a_p1, .inr (0, [.int p1_count, .ref a_p1_bytes])), (a_p1_bytes, .inl ((cA 1), n_p1_bytes, .inl p1_bytes))] H := hP
    have hD : va_D A [(a_t, .inr (5, [.ref a_t_blocks, .ref a_t_places, .int t_count])), (a_t_places, .inl ((cA 0), n_t_places, .inl (upd t_places t_count.toNatClampNeg o_2))), (a_t_blocks, .inr (0, [.int t_blocks_count, .ref a_t_blocks_bytes])), (a_t_blocks_bytes, .inl ((cA 1), n_t_blocks_bytes, .inl o_4)), (a_p1, .inr (0, [.int p1_count, .ref a_p1_bytes])), (a_p1_bytes, .inl ((cA 1), n_p1_bytes, .inl p1_bytes))] := hD
    refine lv_aload_n hx hb d_Wt_addPage_40 rfl (lv_at hl 0 rfl) ?_
    refine lv_dup hx hb d_Wt_addPage_41 rfl ?_
    refine va_get (D := D) (ci := 5) (v := .int t_count) (C := R_Wt) (T := F_Wt) (N := 3) hx hb hts (fun w9 h9 => .tail _ (gu_Wt w9 h9)) hown hK hP 0 rfl rfl 2 (by decide) (hts _ (.tail _ gm_108)) (fun _ h9 => h9) rfl d_Wt_addPage_42 ?_
    refine lv_iconst (v := 1) hx hb d_Wt_addPage_45 (by decide) ?_
    refine lv_iadd hx hb d_Wt_addPage_46 ?_
    refine va_put (D := D) (ci := 5) (v := .int (t_count + (1 : Int32))) (ty := .int) (C := R_Wt) (T := F_Wt) (N := 3) hx hb hts (fun w9 h9 => .tail _ (gu_Wt w9 h9)) t_Wt t_Wt_ok n_Wt hown hK hP hD hS 0 rfl rfl 2 (by decide) (hts _ (.tail _ gm_108)) (fun _ h9 => h9) rfl (by decide +kernel) rfl rfl (Nat.le_of_ble_eq_true rfl) d_Wt_addPage_47 (fun H locs hP hD hS => ?_)
    have hP : va_P D classes [(a_t, .inr (5, [.ref a_t_blocks, .ref a_t_places, .int (t_count + (1 : Int32))])), (a_t_places, .inl ((cA 0), n_t_places, .inl (upd t_places t_count.toNatClampNeg o_2))), (a_t_blocks, .inr (0, [.int t_blocks_count, .ref a_t_blocks_bytes])), (a_t_blocks_bytes, .inl ((cA 1), n_t_blocks_bytes, .inl o_4)), (a_p1, .inr (0, [.int p1_count, .ref a_p1_bytes])), (a_p1_bytes, .inl ((cA 1), n_p1_bytes, .inl p1_bytes))] H := hP
    have hD : va_D A [(a_t, .inr (5, [.ref a_t_blocks, .ref a_t_places, .int (t_count + (1 : Int32))])), (a_t_places, .inl ((cA 0), n_t_places, .inl (upd t_places t_count.toNatClampNeg o_2))), (a_t_blocks, .inr (0, [.int t_blocks_count, .ref a_t_blocks_bytes])), (a_t_blocks_bytes, .inl ((cA 1), n_t_blocks_bytes, .inl o_4)), (a_p1, .inr (0, [.int p1_count, .ref a_p1_bytes])), (a_p1_bytes, .inl ((cA 1), n_p1_bytes, .inl p1_bytes))] := hD
    have ho9 := Option.some.inj hf
    subst ho9
    have hP9 := hP.sub (ws' := [(a_t, .inr (5, [.ref a_t_blocks, .ref a_t_places, .int (t_count + (1 : Int32))])), (a_t_blocks, .inr (0, [.int t_blocks_count, .ref a_t_blocks_bytes])), (a_t_blocks_bytes, .inl ((cA 1), n_t_blocks_bytes, .inl o_4)), (a_t_places, .inl ((cA 0), n_t_places, .inl (upd t_places t_count.toNatClampNeg o_2))), (a_p1, .inr (0, [.int p1_count, .ref a_p1_bytes])), (a_p1_bytes, .inl ((cA 1), n_p1_bytes, .inl p1_bytes))]) [0, 2, 3, 1, 4, 5] rfl
    have hD9 := hD.sub (ws' := [(a_t, .inr (5, [.ref a_t_blocks, .ref a_t_places, .int (t_count + (1 : Int32))])), (a_t_blocks, .inr (0, [.int t_blocks_count, .ref a_t_blocks_bytes])), (a_t_blocks_bytes, .inl ((cA 1), n_t_blocks_bytes, .inl o_4)), (a_t_places, .inl ((cA 0), n_t_places, .inl (upd t_places t_count.toNatClampNeg o_2))), (a_p1, .inr (0, [.int p1_count, .ref a_p1_bytes])), (a_p1_bytes, .inl ((cA 1), n_p1_bytes, .inl p1_bytes))]) [0, 2, 3, 1, 4, 5] (by decide) rfl
    exact W.vret hx hb hr (fun t ht hW => ⟨⟨(), rfl, trivial, by rw [ht]; exact hP9, va_K.moved hW.alike hK, hD9⟩, hS.F ht⟩) hS.2.2 d_Wt_addPage_50
theorem d_Wt_addHead_0 : decode b_Wt_addHead 0 = .ok (.aload_n 0, 1) := by decide +kernel
theorem d_Wt_addHead_1 : decode b_Wt_addHead 1 = .ok (.getfield 24, 3) := by decide +kernel
theorem d_Wt_addHead_4 : decode b_Wt_addHead 4 = .ok (.aload_n 0, 1) := by decide +kernel
theorem d_Wt_addHead_5 : decode b_Wt_addHead 5 = .ok (.getfield 20, 3) := by decide +kernel
theorem d_Wt_addHead_8 : decode b_Wt_addHead 8 = .ok (.arraylength, 1) := by decide +kernel
theorem d_Wt_addHead_9 : decode b_Wt_addHead 9 = .ok (.if_icmp .ge 40, 3) := by decide +kernel
theorem d_Wt_addHead_12 : decode b_Wt_addHead 12 = .ok (.aload_n 0, 1) := by decide +kernel
theorem d_Wt_addHead_13 : decode b_Wt_addHead 13 = .ok (.getfield 20, 3) := by decide +kernel
theorem d_Wt_addHead_16 : decode b_Wt_addHead 16 = .ok (.aload_n 0, 1) := by decide +kernel
theorem d_Wt_addHead_17 : decode b_Wt_addHead 17 = .ok (.getfield 24, 3) := by decide +kernel
theorem d_Wt_addHead_20 : decode b_Wt_addHead 20 = .ok (.iload_n 1, 1) := by decide +kernel
theorem d_Wt_addHead_21 : decode b_Wt_addHead 21 = .ok (.invokestatic 38, 3) := by decide +kernel
theorem d_Wt_addHead_24 : decode b_Wt_addHead 24 = .ok (.iastore, 1) := by decide +kernel
theorem d_Wt_addHead_25 : decode b_Wt_addHead 25 = .ok (.aload_n 0, 1) := by decide +kernel
theorem d_Wt_addHead_26 : decode b_Wt_addHead 26 = .ok (.getfield 14, 3) := by decide +kernel
theorem d_Wt_addHead_29 : decode b_Wt_addHead 29 = .ok (.aload_n 0, 1) := by decide +kernel
theorem d_Wt_addHead_30 : decode b_Wt_addHead 30 = .ok (.getfield 24, 3) := by decide +kernel
theorem d_Wt_addHead_33 : decode b_Wt_addHead 33 = .ok (.iload_n 1, 1) := by decide +kernel
theorem d_Wt_addHead_34 : decode b_Wt_addHead 34 = .ok (.iload_n 2, 1) := by decide +kernel
theorem d_Wt_addHead_35 : decode b_Wt_addHead 35 = .ok (.iload_n 3, 1) := by decide +kernel
theorem d_Wt_addHead_36 : decode b_Wt_addHead 36 = .ok (.invokestatic 41, 3) := by decide +kernel
theorem d_Wt_addHead_39 : decode b_Wt_addHead 39 = .ok (.aload_n 0, 1) := by decide +kernel
theorem d_Wt_addHead_40 : decode b_Wt_addHead 40 = .ok (.dup, 1) := by decide +kernel
theorem d_Wt_addHead_41 : decode b_Wt_addHead 41 = .ok (.getfield 24, 3) := by decide +kernel
theorem d_Wt_addHead_44 : decode b_Wt_addHead 44 = .ok (.iconst 1, 1) := by decide +kernel
theorem d_Wt_addHead_45 : decode b_Wt_addHead 45 = .ok (.iadd, 1) := by decide +kernel
theorem d_Wt_addHead_46 : decode b_Wt_addHead 46 = .ok (.putfield 24, 3) := by decide +kernel
theorem d_Wt_addHead_49 : decode b_Wt_addHead 49 = .ok (.return_, 1) := by decide +kernel
abbrev wd_Wt_addHead : List Cond := .code y_Wt_addHead b_Wt_addHead 4 none :: gw
def f_Wt_addHead (t_blocks_count : Int32) (n_t_blocks_bytes : Nat) (t_blocks_bytes : Nat → Int32) (n_t_places : Nat) (t_places : Nat → Int32) (t_count : Int32) (p0 : Int32) (p1 : Int32) (p2 : Int32) : Option ((Nat → Int32) × (Nat → Int32) × Int32) :=
  if (Int32.ofNat n_t_places) ≤ t_count then
    some (t_blocks_bytes, t_places, t_count)
  else
    (f_Hd_placeOf p0).bind fun o_2 =>
    if t_count < 0 ∨ n_t_places ≤ t_count.toNatClampNeg then none else
    (f_Hd_fill t_blocks_count n_t_blocks_bytes t_blocks_bytes t_count p0 p1 p2).bind fun o_4 =>
    some (o_4, (upd t_places t_count.toNatClampNeg o_2), (t_count + (1 : Int32)))
set_option maxHeartbeats 4000000 in
set_option maxRecDepth 100000 in
theorem c_Wt_addHead (l : Launch) (D : va_G) (cA : Nat → ClassId) (a_t a_t_blocks a_t_blocks_bytes a_t_places : Nat) (sz : Nat) (t_blocks_count : Int32) (n_t_blocks_bytes : Nat) (t_blocks_bytes : Nat → Int32) (n_t_places : Nat) (t_places : Nat → Int32) (t_count : Int32) (p0 : Int32) (p1 : Int32) (p2 : Int32) (o : (Nat → Int32) × (Nat → Int32) × Int32) (hf : f_Wt_addHead t_blocks_count n_t_blocks_bytes t_blocks_bytes n_t_places t_places t_count p0 p1 p2 = some o) : Met l y_Wt_addHead wd_Wt_addHead ({ frames := 5, cells := 0, slots := 0, locals := 113 }) (va_Pc [.ref a_t, .int p0, .int p1, .int p2] (aP D cA [(a_t, .inr (5, [.ref a_t_blocks, .ref a_t_places, .int t_count])), (a_t_blocks, .inr (0, [.int t_blocks_count, .ref a_t_blocks_bytes])), (a_t_blocks_bytes, .inl ((cA 1), n_t_blocks_bytes, .inl t_blocks_bytes)), (a_t_places, .inl ((cA 0), n_t_places, .inl t_places))] sz)) (va_Qv (fun (_ : Unit) => True) (fun _ => aR D cA (va_A [(a_t, .inr (5, [.ref a_t_blocks, .ref a_t_places, .int t_count])), (a_t_blocks, .inr (0, [.int t_blocks_count, .ref a_t_blocks_bytes])), (a_t_blocks_bytes, .inl ((cA 1), n_t_blocks_bytes, .inl t_blocks_bytes)), (a_t_places, .inl ((cA 0), n_t_places, .inl t_places))] sz) [(a_t, .inr (5, [.ref a_t_blocks, .ref a_t_places, .int o.2.2])), (a_t_blocks, .inr (0, [.int t_blocks_count, .ref a_t_blocks_bytes])), (a_t_blocks_bytes, .inl ((cA 1), n_t_blocks_bytes, .inl o.1)), (a_t_places, .inl ((cA 0), n_t_places, .inl o.2.1))]) (va_A [(a_t, .inr (5, [.ref a_t_blocks, .ref a_t_places, .int t_count])), (a_t_blocks, .inr (0, [.int t_blocks_count, .ref a_t_blocks_bytes])), (a_t_blocks_bytes, .inl ((cA 1), n_t_blocks_bytes, .inl t_blocks_bytes)), (a_t_places, .inl ((cA 0), n_t_places, .inl t_places))] sz)) 0 0 (va_A [(a_t, .inr (5, [.ref a_t_blocks, .ref a_t_places, .int t_count])), (a_t_blocks, .inr (0, [.int t_blocks_count, .ref a_t_blocks_bytes])), (a_t_blocks_bytes, .inl ((cA 1), n_t_blocks_bytes, .inl t_blocks_bytes)), (a_t_places, .inl ((cA 0), n_t_places, .inl t_places))] sz) := by
  refine Met.ofW (cc := b_Wt_addHead) (maxL := 4) (ret := none) (by decide +kernel) rfl ?_
  intro p e s m args below meth c s₁ B hml hv
  obtain ⟨rfl, hsz, hP, hK, hD0, hE⟩ := hv
  have hx := B.exec
  have hb := B.bytes
  have hr := B.returns
  have hts := atoms_spec (ws := wd_Wt_addHead) B.pre
  have hown : s.vm.findClass R_Wt = some m.cls := findClass_of_methodNamed B.named
  have hlocks := B.notSynchronized
  subst hsz
  have hD := hD0.self (sz := s.heap.size)
  generalize hAe : va_A [(a_t, .inr (5, [.ref a_t_blocks, .ref a_t_places, .int t_count])), (a_t_blocks, .inr (0, [.int t_blocks_count, .ref a_t_blocks_bytes])), (a_t_blocks_bytes, .inl ((cA 1), n_t_blocks_bytes, .inl t_blocks_bytes)), (a_t_places, .inl ((cA 0), n_t_places, .inl t_places))] s.heap.size = A at hD hE ⊢
  have hA : ∀ q : Nat, s.heap.size ≤ q → A q := fun q h => by rw [← hAe]; exact Or.inr h
  have hS : va_S A s.heap s.heap [] := va_S.rf
  have hl := lv_entry [.ref a_t, .int p0, .int p1, .int p2] (n := 4) (Nat.le_of_ble_eq_true rfl)
  rw [lg_entry_eq]
  generalize (lg_sl [.ref a_t, .int p0, .int p1, .int p2] ++ List.replicate (4 - (lg_sl [.ref a_t, .int p0, .int p1, .int p2]).length) Slot.unset).toArray = ls at hl ⊢
  have hl : lv_has ls 4 [(0, .ref a_t), (1, .int p0), (2, .int p1), (3, .int p2)] := hl
  unfold f_Wt_addHead at hf
  refine lv_aload_n hx hb d_Wt_addHead_0 rfl (lv_at hl 0 rfl) ?_
  refine va_get (D := D) (ci := 5) (v := .int t_count) (C := R_Wt) (T := F_Wt) (N := 3) hx hb hts (fun w9 h9 => .tail _ (gu_Wt w9 h9)) hown hK hP 0 rfl rfl 2 (by decide) (hts _ (.tail _ gm_108)) (fun _ h9 => h9) rfl d_Wt_addHead_1 ?_
  refine lv_aload_n hx hb d_Wt_addHead_4 rfl (lv_at hl 0 rfl) ?_
  refine va_get (D := D) (ci := 5) (v := .ref a_t_places) (C := R_Wt) (T := F_Wt) (N := 3) hx hb hts (fun w9 h9 => .tail _ (gu_Wt w9 h9)) hown hK hP 0 rfl rfl 1 (by decide) (hts _ (.tail _ gm_107)) (fun _ h9 => h9) rfl d_Wt_addHead_5 ?_
  refine va_alen hx hb hK hP 3 0 rfl rfl rfl d_Wt_addHead_8 ?_
  refine lv_icmp_ge (tgt := 49) hx hb d_Wt_addHead_9 (by decide) (fun c_1 => ?_) (fun c_1 => ?_)
  · replace hf := (if_pos c_1).symm.trans hf
    have ho9 := Option.some.inj hf
    subst ho9
    have hP9 := hP.sub (ws' := [(a_t, .inr (5, [.ref a_t_blocks, .ref a_t_places, .int t_count])), (a_t_blocks, .inr (0, [.int t_blocks_count, .ref a_t_blocks_bytes])), (a_t_blocks_bytes, .inl ((cA 1), n_t_blocks_bytes, .inl t_blocks_bytes)), (a_t_places, .inl ((cA 0), n_t_places, .inl t_places))]) [0, 1, 2, 3] rfl
    have hD9 := hD.sub (ws' := [(a_t, .inr (5, [.ref a_t_blocks, .ref a_t_places, .int t_count])), (a_t_blocks, .inr (0, [.int t_blocks_count, .ref a_t_blocks_bytes])), (a_t_blocks_bytes, .inl ((cA 1), n_t_blocks_bytes, .inl t_blocks_bytes)), (a_t_places, .inl ((cA 0), n_t_places, .inl t_places))]) [0, 1, 2, 3] (by decide) rfl
    exact W.vret hx hb hr (fun t ht hW => ⟨⟨(), rfl, trivial, by rw [ht]; exact hP9, va_K.moved hW.alike hK, hD9⟩, hS.F ht⟩) hS.2.2 d_Wt_addHead_49
  · replace hf := (if_neg c_1).symm.trans hf
    refine lv_aload_n hx hb d_Wt_addHead_12 rfl (lv_at hl 0 rfl) ?_
    refine va_get (D := D) (ci := 5) (v := .ref a_t_places) (C := R_Wt) (T := F_Wt) (N := 3) hx hb hts (fun w9 h9 => .tail _ (gu_Wt w9 h9)) hown hK hP 0 rfl rfl 1 (by decide) (hts _ (.tail _ gm_107)) (fun _ h9 => h9) rfl d_Wt_addHead_13 ?_
    refine lv_aload_n hx hb d_Wt_addHead_16 rfl (lv_at hl 0 rfl) ?_
    refine va_get (D := D) (ci := 5) (v := .int t_count) (C := R_Wt) (T := F_Wt) (N := 3) hx hb hts (fun w9 h9 => .tail _ (gu_Wt w9 h9)) hown hK hP 0 rfl rfl 2 (by decide) (hts _ (.tail _ gm_108)) (fun _ h9 => h9) rfl d_Wt_addHead_17 ?_
    refine lv_iload_n hx hb d_Wt_addHead_20 rfl (lv_at hl 1 rfl) ?_
    obtain ⟨o_2, ho_2, hf⟩ := hk_bd hf
    refine q_i (wr := [(a_t, .inr (5, [.ref a_t_blocks, .ref a_t_places, .int t_count])), (a_t_blocks, .inr (0, [.int t_blocks_count, .ref a_t_blocks_bytes])), (a_t_blocks_bytes, .inl ((cA 1), n_t_blocks_bytes, .inl t_blocks_bytes)), (a_t_places, .inl ((cA 0), n_t_places, .inl t_places))]) (va_runS (As := [.int p0]) (rest := [.int t_count, .ref a_t_places]) ⟨hx, hb, hml, hown, hts⟩ (c_Hd_placeOf l D cA _ p0 o_2 ho_2) (va_cwS 1 hts (gd_S gm_114 gm_61 gm_62 gm_59) rfl rfl rfl (by decide +kernel) ⟨Nat.le_of_ble_eq_true rfl, Nat.le_of_ble_eq_true rfl⟩) (q_pS hK hP hD hS hA hE [] (by decide) rfl) rfl rfl hl.1 rfl (lv_room (Nat.le_of_ble_eq_true rfl)) d_Wt_addHead_21 ⟨Nat.zero_le _, Nat.zero_le _⟩) hP hD hS hA [] [0, 1, 2, 3] rfl rfl (by decide) (by decide) (fun H locs hP hD hS => ?_)
    have hP : va_P D classes [(a_t, .inr (5, [.ref a_t_blocks, .ref a_t_places, .int t_count])), (a_t_blocks, .inr (0, [.int t_blocks_count, .ref a_t_blocks_bytes])), (a_t_blocks_bytes, .inl ((cA 1), n_t_blocks_bytes, .inl t_blocks_bytes)), (a_t_places, .inl ((cA 0), n_t_places, .inl t_places))] H := hP
    have hD : va_D A [(a_t, .inr (5, [.ref a_t_blocks, .ref a_t_places, .int t_count])), (a_t_blocks, .inr (0, [.int t_blocks_count, .ref a_t_blocks_bytes])), (a_t_blocks_bytes, .inl ((cA 1), n_t_blocks_bytes, .inl t_blocks_bytes)), (a_t_places, .inl ((cA 0), n_t_places, .inl t_places))] := hD
    obtain ⟨ck_3, hf⟩ := hk_if hf
    refine va_iast hx hb hK hP hD hS 3 0 rfl rfl ck_3 d_Wt_addHead_24 (fun H locs hP hD hS => ?_)
    have hP : va_P D classes [(a_t, .inr (5, [.ref a_t_blocks, .ref a_t_places, .int t_count])), (a_t_blocks, .inr (0, [.int t_blocks_count, .ref a_t_blocks_bytes])), (a_t_blocks_bytes, .inl ((cA 1), n_t_blocks_bytes, .inl t_blocks_bytes)), (a_t_places, .inl ((cA 0), n_t_places, .inl (upd t_places t_count.toNatClampNeg o_2)))] H := hP
    have hD : va_D A [(a_t, .inr (5, [.ref a_t_blocks, .ref a_t_places, .int t_count])), (a_t_blocks, .inr (0, [.int t_blocks_count, .ref a_t_blocks_bytes])), (a_t_blocks_bytes, .inl ((cA 1), n_t_blocks_bytes, .inl t_blocks_bytes)), (a_t_places, .inl ((cA 0), n_t_places, .inl (upd t_places t_count.toNatClampNeg o_2)))] := hD
    refine lv_aload_n hx hb d_Wt_addHead_25 rfl (lv_at hl 0 rfl) ?_
    refine va_get (D := D) (ci := 5) (v := .ref a_t_blocks) (C := R_Wt) (T := F_Wt) (N := 3) hx hb hts (fun w9 h9 => .tail _ (gu_Wt w9 h9)) hown hK hP 0 rfl rfl 0 (by decide) (hts _ (.tail _ gm_112)) (fun _ h9 => h9) rfl d_Wt_addHead_26 ?_
    refine lv_aload_n hx hb d_Wt_addHead_29 rfl (lv_at hl 0 rfl) ?_
    refine va_get (D := D) (ci := 5) (v := .int t_count) (C := R_Wt) (T := F_Wt) (N := 3) hx hb hts (fun w9 h9 => .tail _ (gu_Wt w9 h9)) hown hK hP 0 rfl rfl 2 (by decide) (hts _ (.tail _ gm_108)) (fun _ h9 => h9) rfl d_Wt_addHead_30 ?_
    refine lv_iload_n hx hb d_Wt_addHead_33 rfl (lv_at hl 1 rfl) ?_
    refine lv_iload_n hx hb d_Wt_addHead_34 rfl (lv_at hl 2 rfl) ?_
    refine lv_iload_n hx hb d_Wt_addHead_35 rfl (lv_at hl 3 rfl) ?_
    obtain ⟨o_4, ho_4, hf⟩ := hk_bd hf
    refine q_v (wr := [(a_t, .inr (5, [.ref a_t_blocks, .ref a_t_places, .int t_count])), (a_t_places, .inl ((cA 0), n_t_places, .inl (upd t_places t_count.toNatClampNeg o_2)))]) (va_runS (As := [.ref a_t_blocks, .int t_count, .int p0, .int p1, .int p2]) (rest := []) ⟨hx, hb, hml, hown, hts⟩ (c_Hd_fill l D cA a_t_blocks a_t_blocks_bytes _ t_blocks_count n_t_blocks_bytes t_blocks_bytes t_count p0 p1 p2 o_4 ho_4) (va_cwS 5 hts (gd_S gm_116 gm_117 gm_62 gm_115) rfl rfl rfl (by decide +kernel) ⟨Nat.le_of_ble_eq_true rfl, Nat.le_of_ble_eq_true rfl⟩) (q_pS hK hP hD hS hA hE [1, 2] (by decide) rfl) rfl rfl hl.1 rfl (lv_room (Nat.le_of_ble_eq_true rfl)) d_Wt_addHead_36 ⟨Nat.zero_le _, Nat.zero_le _⟩) hP hD hS hA [1, 2] [0, 3] rfl rfl (by decide) (by decide) (fun H locs hP hD hS => ?_)
    have hP : va_P D classes [(a_t, .inr (5, [.ref a_t_blocks, .ref a_t_places, .int t_count])), (a_t_places, .inl ((cA 0), n_t_places, .inl (upd t_places t_count.toNatClampNeg o_2))), (a_t_blocks, .inr (0, [.int t_blocks_count, .ref a_t_blocks_bytes])), (a_t_blocks_bytes, .inl ((cA 1), n_t_blocks_bytes, .inl o_4))] H := hP
    have hD : va_D A [(a_t, .inr (5, [.ref a_t_blocks, .ref a_t_places, .int t_count])), (a_t_places, .inl ((cA 0), n_t_places, .inl (upd t_places t_count.toNatClampNeg o_2))), (a_t_blocks, .inr (0, [.int t_blocks_count, .ref a_t_blocks_bytes])), (a_t_blocks_bytes, .inl ((cA 1), n_t_blocks_bytes, .inl o_4))] := hD
    refine lv_aload_n hx hb d_Wt_addHead_39 rfl (lv_at hl 0 rfl) ?_
    refine lv_dup hx hb d_Wt_addHead_40 rfl ?_
    refine va_get (D := D) (ci := 5) (v := .int t_count) (C := R_Wt) (T := F_Wt) (N := 3) hx hb hts (fun w9 h9 => .tail _ (gu_Wt w9 h9)) hown hK hP 0 rfl rfl 2 (by decide) (hts _ (.tail _ gm_108)) (fun _ h9 => h9) rfl d_Wt_addHead_41 ?_
    refine lv_iconst (v := 1) hx hb d_Wt_addHead_44 (by decide) ?_
    refine lv_iadd hx hb d_Wt_addHead_45 ?_
    refine va_put (D := D) (ci := 5) (v := .int (t_count + (1 : Int32))) (ty := .int) (C := R_Wt) (T := F_Wt) (N := 3) hx hb hts (fun w9 h9 => .tail _ (gu_Wt w9 h9)) t_Wt t_Wt_ok n_Wt hown hK hP hD hS 0 rfl rfl 2 (by decide) (hts _ (.tail _ gm_108)) (fun _ h9 => h9) rfl (by decide +kernel) rfl rfl (Nat.le_of_ble_eq_true rfl) d_Wt_addHead_46 (fun H locs hP hD hS => ?_)
    have hP : va_P D classes [(a_t, .inr (5, [.ref a_t_blocks, .ref a_t_places, .int (t_count + (1 : Int32))])), (a_t_places, .inl ((cA 0), n_t_places, .inl (upd t_places t_count.toNatClampNeg o_2))), (a_t_blocks, .inr (0, [.int t_blocks_count, .ref a_t_blocks_bytes])), (a_t_blocks_bytes, .inl ((cA 1), n_t_blocks_bytes, .inl o_4))] H := hP
    have hD : va_D A [(a_t, .inr (5, [.ref a_t_blocks, .ref a_t_places, .int (t_count + (1 : Int32))])), (a_t_places, .inl ((cA 0), n_t_places, .inl (upd t_places t_count.toNatClampNeg o_2))), (a_t_blocks, .inr (0, [.int t_blocks_count, .ref a_t_blocks_bytes])), (a_t_blocks_bytes, .inl ((cA 1), n_t_blocks_bytes, .inl o_4))] := hD
    have ho9 := Option.some.inj hf
    subst ho9
    have hP9 := hP.sub (ws' := [(a_t, .inr (5, [.ref a_t_blocks, .ref a_t_places, .int (t_count + (1 : Int32))])), (a_t_blocks, .inr (0, [.int t_blocks_count, .ref a_t_blocks_bytes])), (a_t_blocks_bytes, .inl ((cA 1), n_t_blocks_bytes, .inl o_4)), (a_t_places, .inl ((cA 0), n_t_places, .inl (upd t_places t_count.toNatClampNeg o_2)))]) [0, 2, 3, 1] rfl
    have hD9 := hD.sub (ws' := [(a_t, .inr (5, [.ref a_t_blocks, .ref a_t_places, .int (t_count + (1 : Int32))])), (a_t_blocks, .inr (0, [.int t_blocks_count, .ref a_t_blocks_bytes])), (a_t_blocks_bytes, .inl ((cA 1), n_t_blocks_bytes, .inl o_4)), (a_t_places, .inl ((cA 0), n_t_places, .inl (upd t_places t_count.toNatClampNeg o_2)))]) [0, 2, 3, 1] (by decide) rfl
    exact W.vret hx hb hr (fun t ht hW => ⟨⟨(), rfl, trivial, by rw [ht]; exact hP9, va_K.moved hW.alike hK, hD9⟩, hS.F ht⟩) hS.2.2 d_Wt_addHead_49
