theorem gm_241 : (.methodLink R_Bl 3 objectInit : Cond) ∈ gw := gw_in (i := 55) (by decide +kernel) rfl
theorem gm_242 : (.instanceMethod objectInit : Cond) ∈ gw := gw_in (i := 48) (by decide +kernel) rfl
theorem gm_243 : (.code objectInit ⟨#[0xb1]⟩ 1 none : Cond) ∈ gw := gw_in (i := 49) (by decide +kernel) rfl
theorem gm_244 : (.methodLink R_Bl 9 Lib.Math.min.name : Cond) ∈ gw := gw_in (i := 56) (by decide +kernel) rfl
theorem gm_245 : (.methodLink R_Bl 15 Lib.Math.max.name : Cond) ∈ gw := gw_in (i := 59) (by decide +kernel) rfl
theorem gm_246 : (.static Lib.Math.max.name : Cond) ∈ gw := gw_in (i := 60) (by decide +kernel) rfl
theorem gm_247 : (.code Lib.Math.max.name Lib.Math.max.code 2 (some .int) : Cond) ∈ gw := gw_in (i := 61) (by decide +kernel) rfl
theorem gm_248 : (.arrayClass .byte : Cond) ∈ gw := gw_in (i := 69) (by decide +kernel) rfl
theorem gm_249 : (.methodLink R_Hd 3 objectInit : Cond) ∈ gw := gw_in (i := 141) (by decide +kernel) rfl
theorem gm_250 : (.methodLink R_Tp 3 objectInit : Cond) ∈ gw := gw_in (i := 160) (by decide +kernel) rfl
theorem gm_251 : (.methodLink R_Rc 1 objectInit : Cond) ∈ gw := gw_in (i := 120) (by decide +kernel) rfl
theorem gm_252 : (.arrayClass .int : Cond) ∈ gw := gw_in (i := 90) (by decide +kernel) rfl
theorem gm_253 : (.methodLink R_Pg 3 objectInit : Cond) ∈ gw := gw_in (i := 96) (by decide +kernel) rfl
theorem gm_254 : (.classLink R_Pg 9 R_Bl : Cond) ∈ gw := gw_in (i := 97) (by decide +kernel) rfl
theorem gm_255 : (.instantiable R_Bl 2 : Cond) ∈ gw := gw_in (i := 51) (by decide +kernel) rfl
theorem gm_256 : (.code y_Bl_init b_Bl_init 2 none : Cond) ∈ gw := gw_in (i := 54) (by decide +kernel) rfl
theorem gm_257 : (.methodLink R_Pg 11 y_Bl_init : Cond) ∈ gw := gw_in (i := 98) (by decide +kernel) rfl
theorem gm_258 : (.instanceMethod y_Bl_init : Cond) ∈ gw := gw_in (i := 53) (by decide +kernel) rfl
theorem gm_259 : (.methodLink R_Wt 3 objectInit : Cond) ∈ gw := gw_in (i := 75) (by decide +kernel) rfl
theorem gm_260 : (.classLink R_Wt 9 R_Bl : Cond) ∈ gw := gw_in (i := 76) (by decide +kernel) rfl
theorem gm_261 : (.methodLink R_Wt 11 y_Bl_init : Cond) ∈ gw := gw_in (i := 77) (by decide +kernel) rfl
theorem gm_262 : (.methodLink R_RJ 1 objectInit : Cond) ∈ gw := gw_in (i := 47) (by decide +kernel) rfl
theorem gm_263 : (.classLink R_RJ 7 R_Bl : Cond) ∈ gw := gw_in (i := 50) (by decide +kernel) rfl
theorem gm_264 : (.methodLink R_RJ 11 y_Bl_init : Cond) ∈ gw := gw_in (i := 52) (by decide +kernel) rfl
theorem gm_265 : (.classLink R_RJ 18 R_Wt : Cond) ∈ gw := gw_in (i := 70) (by decide +kernel) rfl
theorem gm_266 : (.instantiable R_Wt 3 : Cond) ∈ gw := gw_in (i := 71) (by decide +kernel) rfl
theorem gm_267 : (.code y_Wt_init b_Wt_init 1 none : Cond) ∈ gw := gw_in (i := 74) (by decide +kernel) rfl
theorem gm_268 : (.instanceMethod y_Wt_init : Cond) ∈ gw := gw_in (i := 73) (by decide +kernel) rfl
theorem gm_269 : (.classLink R_RJ 25 R_Pg : Cond) ∈ gw := gw_in (i := 91) (by decide +kernel) rfl
theorem gm_270 : (.instantiable R_Pg 4 : Cond) ∈ gw := gw_in (i := 92) (by decide +kernel) rfl
theorem gm_271 : (.code y_Pg_init b_Pg_init 1 none : Cond) ∈ gw := gw_in (i := 95) (by decide +kernel) rfl
theorem gm_272 : (.instanceMethod y_Pg_init : Cond) ∈ gw := gw_in (i := 94) (by decide +kernel) rfl
theorem gm_273 : (.classLink R_RJ 32 R_Rc : Cond) ∈ gw := gw_in (i := 115) (by decide +kernel) rfl
theorem gm_274 : (.instantiable R_Rc 4 : Cond) ∈ gw := gw_in (i := 116) (by decide +kernel) rfl
theorem gm_275 : (.code y_Rc_init b_Rc_init 1 none : Cond) ∈ gw := gw_in (i := 119) (by decide +kernel) rfl
theorem gm_276 : (.instanceMethod y_Rc_init : Cond) ∈ gw := gw_in (i := 118) (by decide +kernel) rfl
theorem gm_277 : (.classLink R_RJ 39 R_Hd : Cond) ∈ gw := gw_in (i := 136) (by decide +kernel) rfl
theorem gm_278 : (.instantiable R_Hd 3 : Cond) ∈ gw := gw_in (i := 137) (by decide +kernel) rfl
theorem gm_279 : (.code y_Hd_init b_Hd_init 1 none : Cond) ∈ gw := gw_in (i := 140) (by decide +kernel) rfl
theorem gm_280 : (.instanceMethod y_Hd_init : Cond) ∈ gw := gw_in (i := 139) (by decide +kernel) rfl
theorem gm_281 : (.classLink R_RJ 46 R_Tp : Cond) ∈ gw := gw_in (i := 155) (by decide +kernel) rfl
theorem gm_282 : (.instantiable R_Tp 2 : Cond) ∈ gw := gw_in (i := 156) (by decide +kernel) rfl
theorem gm_283 : (.code y_Tp_init b_Tp_init 1 none : Cond) ∈ gw := gw_in (i := 159) (by decide +kernel) rfl
theorem gm_284 : (.instanceMethod y_Tp_init : Cond) ∈ gw := gw_in (i := 158) (by decide +kernel) rfl
theorem gm_285 : (.methodLink R_RJ 57 y_Hd_placeOf : Cond) ∈ gw := gw_in (i := 168) (by decide +kernel) rfl
theorem gm_286 : (.methodLink R_RJ 61 y_Hd_fill : Cond) ∈ gw := gw_in (i := 171) (by decide +kernel) rfl
theorem nw_11 : (.methodLinkNest R_RJ 20 y_Wt_init "RoundJournal" : Cond) ∈ nwL := nwL_in (i := 72) (by decide +kernel) rfl
theorem nw_12 : (.methodLinkNest R_RJ 27 y_Pg_init "RoundJournal" : Cond) ∈ nwL := nwL_in (i := 93) (by decide +kernel) rfl
theorem nw_13 : (.methodLinkNest R_RJ 34 y_Rc_init "RoundJournal" : Cond) ∈ nwL := nwL_in (i := 117) (by decide +kernel) rfl
theorem nw_14 : (.methodLinkNest R_RJ 41 y_Hd_init "RoundJournal" : Cond) ∈ nwL := nwL_in (i := 138) (by decide +kernel) rfl
theorem nw_15 : (.methodLinkNest R_RJ 48 y_Tp_init "RoundJournal" : Cond) ∈ nwL := nwL_in (i := 157) (by decide +kernel) rfl
theorem d_Bl_init_0 : decode b_Bl_init 0 = .ok (.aload_n 0, 1) := by decide +kernel
theorem d_Bl_init_1 : decode b_Bl_init 1 = .ok (.invokespecial 3, 3) := by decide +kernel
theorem d_Bl_init_4 : decode b_Bl_init 4 = .ok (.aload_n 0, 1) := by decide +kernel
theorem d_Bl_init_5 : decode b_Bl_init 5 = .ok (.iconst 0, 1) := by decide +kernel
theorem d_Bl_init_6 : decode b_Bl_init 6 = .ok (.iload_n 1, 1) := by decide +kernel
theorem d_Bl_init_7 : decode b_Bl_init 7 = .ok (.bipush 41, 2) := by decide +kernel
theorem d_Bl_init_9 : decode b_Bl_init 9 = .ok (.invokestatic 9, 3) := by decide +kernel
theorem d_Bl_init_12 : decode b_Bl_init 12 = .ok (.invokestatic 15, 3) := by decide +kernel
theorem d_Bl_init_15 : decode b_Bl_init 15 = .ok (.putfield 18, 3) := by decide +kernel
theorem d_Bl_init_18 : decode b_Bl_init 18 = .ok (.aload_n 0, 1) := by decide +kernel
theorem d_Bl_init_19 : decode b_Bl_init 19 = .ok (.aload_n 0, 1) := by decide +kernel
theorem d_Bl_init_20 : decode b_Bl_init 20 = .ok (.getfield 18, 3) := by decide +kernel
theorem d_Bl_init_23 : decode b_Bl_init 23 = .ok (.bipush 64, 2) := by decide +kernel
theorem d_Bl_init_25 : decode b_Bl_init 25 = .ok (.imul, 1) := by decide +kernel
theorem d_Bl_init_26 : decode b_Bl_init 26 = .ok (.newarray .byte, 2) := by decide +kernel
theorem d_Bl_init_28 : decode b_Bl_init 28 = .ok (.putfield 24, 3) := by decide +kernel
theorem d_Bl_init_31 : decode b_Bl_init 31 = .ok (.return_, 1) := by decide +kernel
abbrev wd_Bl_init : List Cond := .code y_Bl_init b_Bl_init 2 none :: gw
def f_Bl_init (p0 : Int32) : Option (Int32 × Nat × (Nat → Int32)) :=
  if ((if (0 : Int32) < (if (41 : Int32) < p0 then (41 : Int32) else p0) then (if (41 : Int32) < p0 then (41 : Int32) else p0) else (0 : Int32)) * (64 : Int32)) < 0 then none else
  some ((if (0 : Int32) < (if (41 : Int32) < p0 then (41 : Int32) else p0) then (if (41 : Int32) < p0 then (41 : Int32) else p0) else (0 : Int32)), ((if (0 : Int32) < (if (41 : Int32) < p0 then (41 : Int32) else p0) then (if (41 : Int32) < p0 then (41 : Int32) else p0) else (0 : Int32)) * (64 : Int32)).toNatClampNeg, (fun _ => 0))
set_option maxHeartbeats 4000000 in
set_option maxRecDepth 100000 in
theorem c_Bl_init (l : Launch) (D : va_G) (cA : Nat → ClassId) (a_t : Nat) (sz : Nat) (p0 : Int32) (o : Int32 × Nat × (Nat → Int32)) (hf : f_Bl_init p0 = some o) (N9 : Nat) (hN : ((if (0 : Int32) < (if (41 : Int32) < p0 then (41 : Int32) else p0) then (if (41 : Int32) < p0 then (41 : Int32) else p0) else (0 : Int32)) * (64 : Int32)).toNatClampNeg = N9) (hN2 : N9 ≤ 4096) : Met l y_Bl_init wd_Bl_init ({ frames := 1, cells := 1, slots := N9, locals := 40 }) (va_Pc [.ref a_t, .int p0] (aP D cA [(a_t, .inr (0, [.int (0 : Int32), .null]))] sz)) (va_Qv (fun (_ : Unit) => True) (fun _ t => ∃ u : Nat, aR D cA (va_A [(a_t, .inr (0, [.int (0 : Int32), .null]))] sz) [(a_t, .inr (0, [.int o.1, .ref u])), (u, .inl ((cA 1), o.2.1, .inl o.2.2))] t) (va_A [(a_t, .inr (0, [.int (0 : Int32), .null]))] sz)) 1 N9 (va_A [(a_t, .inr (0, [.int (0 : Int32), .null]))] sz) := by
  refine Met.ofW (cc := b_Bl_init) (maxL := 2) (ret := none) (by decide +kernel) rfl ?_
  intro p e s m args below meth c s₁ B hml hv
  obtain ⟨rfl, hsz, hP, hK, hD0, hE⟩ := hv
  have hx := B.exec
  have hb := B.bytes
  have hr := B.returns
  have hts := atoms_spec (ws := wd_Bl_init) B.pre
  have hown : s.vm.findClass R_Bl = some m.cls := findClass_of_methodNamed B.named
  have hlocks := B.notSynchronized
  have hin : meth.name = "<init>" := (name_of_methodNamed B.named B.method).1
  subst hsz
  have hD := hD0.self (sz := s.heap.size)
  generalize hAe : va_A [(a_t, .inr (0, [.int (0 : Int32), .null]))] s.heap.size = A at hD hE ⊢
  have hA : ∀ q : Nat, s.heap.size ≤ q → A q := fun q h => by rw [← hAe]; exact Or.inr h
  have hS : va_S A s.heap s.heap [] := va_S.rf
  have hl := lv_entry [.ref a_t, .int p0] (n := 2) (Nat.le_of_ble_eq_true rfl)
  rw [lg_entry_eq]
  generalize (lg_sl [.ref a_t, .int p0] ++ List.replicate (2 - (lg_sl [.ref a_t, .int p0]).length) Slot.unset).toArray = ls at hl ⊢
  have hl : lv_has ls 2 [(0, .ref a_t), (1, .int p0)] := hl
  unfold f_Bl_init at hf
  refine lv_aload_n hx hb d_Bl_init_0 rfl (lv_at hl 0 rfl) ?_
  refine W.objInit hx hb hown (hts _ (.tail _ gm_241)) (hts _ (.tail _ gm_242)) (hts _ (.tail _ gm_243)) rfl (by rw [hml]; exact hl.1) rfl d_Bl_init_1 (Nat.le_of_ble_eq_true rfl) (Nat.le_of_ble_eq_true rfl) ?_
  refine W.eq (g2 := F0 m 4 ls []) rfl ?_
  refine lv_aload_n hx hb d_Bl_init_4 rfl (lv_at hl 0 rfl) ?_
  refine lv_iconst (v := 0) hx hb d_Bl_init_5 (by decide) ?_
  refine lv_iload_n hx hb d_Bl_init_6 rfl (lv_at hl 1 rfl) ?_
  refine lv_bipush (v := 41) hx hb d_Bl_init_7 (by decide) ?_
  refine va_mmin hx hb (by rw [hml]; exact hl.1.symm) hown (hts _ (.tail _ gm_244)) (hts _ (.tail _ gm_234)) (hts _ (.tail _ gm_235)) (hts _ (.tail _ gm_236)) (Nat.le_of_ble_eq_true rfl) (Nat.le_of_ble_eq_true rfl) (Nat.zero_le _) (Nat.zero_le _) d_Bl_init_9 ?_
  refine va_mmax hx hb (by rw [hml]; exact hl.1.symm) hown (hts _ (.tail _ gm_245)) (hts _ (.tail _ gm_246)) (hts _ (.tail _ gm_235)) (hts _ (.tail _ gm_247)) (Nat.le_of_ble_eq_true rfl) (Nat.le_of_ble_eq_true rfl) (Nat.zero_le _) (Nat.zero_le _) d_Bl_init_12 ?_
  refine va_putF (D := D) (ci := 0) (v := .int (if (0 : Int32) < (if (41 : Int32) < p0 then (41 : Int32) else p0) then (if (41 : Int32) < p0 then (41 : Int32) else p0) else (0 : Int32))) (ty := .int) (C := R_Bl) (T := F_Bl) (N := 2) hx hb hts (fun w9 h9 => .tail _ (gu_Bl w9 h9)) t_Bl t_Bl_ok n_Bl hown hK hP hD hS 0 rfl rfl 0 (by decide) (hts _ (.tail _ gm_0)) (fun _ h9 => h9) rfl hin rfl (by decide +kernel) rfl rfl (Nat.le_of_ble_eq_true rfl) d_Bl_init_15 (fun H locs hP hD hS => ?_)
  have hP : va_P D classes [(a_t, .inr (0, [.int (if (0 : Int32) < (if (41 : Int32) < p0 then (41 : Int32) else p0) then (if (41 : Int32) < p0 then (41 : Int32) else p0) else (0 : Int32)), .null]))] H := hP
  have hD : va_D A [(a_t, .inr (0, [.int (if (0 : Int32) < (if (41 : Int32) < p0 then (41 : Int32) else p0) then (if (41 : Int32) < p0 then (41 : Int32) else p0) else (0 : Int32)), .null]))] := hD
  refine lv_aload_n hx hb d_Bl_init_18 rfl (lv_at hl 0 rfl) ?_
  refine lv_aload_n hx hb d_Bl_init_19 rfl (lv_at hl 0 rfl) ?_
  refine va_get (D := D) (ci := 0) (v := .int (if (0 : Int32) < (if (41 : Int32) < p0 then (41 : Int32) else p0) then (if (41 : Int32) < p0 then (41 : Int32) else p0) else (0 : Int32))) (C := R_Bl) (T := F_Bl) (N := 2) hx hb hts (fun w9 h9 => .tail _ (gu_Bl w9 h9)) hown hK hP 0 rfl rfl 0 (by decide) (hts _ (.tail _ gm_0)) (fun _ h9 => h9) rfl d_Bl_init_20 ?_
  refine lv_bipush (v := 64) hx hb d_Bl_init_23 (by decide) ?_
  refine lv_imul hx hb d_Bl_init_25 ?_
  obtain ⟨ck_2, hf⟩ := hk_if hf
  refine nk_newa (atype := .byte) (N' := ((if (0 : Int32) < (if (41 : Int32) < p0 then (41 : Int32) else p0) then (if (41 : Int32) < p0 then (41 : Int32) else p0) else (0 : Int32)) * (64 : Int32)).toNatClampNeg) (a0 := (((if (0 : Int32) < (if (41 : Int32) < p0 then (41 : Int32) else p0) then (if (41 : Int32) < p0 then (41 : Int32) else p0) else (0 : Int32)) * (64 : Int32)).toNatClampNeg, .inl (fun _ => 0))) (ty := .byte) (n := ((if (0 : Int32) < (if (41 : Int32) < p0 then (41 : Int32) else p0) then (if (41 : Int32) < p0 then (41 : Int32) else p0) else (0 : Int32)) * (64 : Int32))) hx hb (hts _ (.tail _ gm_248)) rfl hK hP hD hS hA (fun _ => rfl) ck_2 rfl (by rw [hN]; show N9 * 1 ≤ _; omega) (Nat.le_of_ble_eq_true rfl) (by rw [hN]; exact Nat.le_of_eq (Nat.zero_add _)) d_Bl_init_26 1 rfl (fun q_1 H hP hD hS => ?_)
  have hP : va_P D classes [(a_t, .inr (0, [.int (if (0 : Int32) < (if (41 : Int32) < p0 then (41 : Int32) else p0) then (if (41 : Int32) < p0 then (41 : Int32) else p0) else (0 : Int32)), .null])), (q_1, .inl ((cA 1), ((if (0 : Int32) < (if (41 : Int32) < p0 then (41 : Int32) else p0) then (if (41 : Int32) < p0 then (41 : Int32) else p0) else (0 : Int32)) * (64 : Int32)).toNatClampNeg, .inl (fun _ => 0)))] H := hP
  have hD : va_D A [(a_t, .inr (0, [.int (if (0 : Int32) < (if (41 : Int32) < p0 then (41 : Int32) else p0) then (if (41 : Int32) < p0 then (41 : Int32) else p0) else (0 : Int32)), .null])), (q_1, .inl ((cA 1), ((if (0 : Int32) < (if (41 : Int32) < p0 then (41 : Int32) else p0) then (if (41 : Int32) < p0 then (41 : Int32) else p0) else (0 : Int32)) * (64 : Int32)).toNatClampNeg, .inl (fun _ => 0)))] := hD
  refine va_putF (D := D) (ci := 0) (v := .ref q_1) (ty := (.array .byte)) (C := R_Bl) (T := F_Bl) (N := 2) hx hb hts (fun w9 h9 => .tail _ (gu_Bl w9 h9)) t_Bl t_Bl_ok n_Bl hown hK hP hD hS 0 rfl rfl 1 (by decide) (hts _ (.tail _ gm_6)) (fun _ h9 => h9) rfl hin rfl (by decide +kernel) (by rfl) rfl (Nat.le_of_ble_eq_true rfl) d_Bl_init_28 (fun H locs hP hD hS => ?_)
  have hP : va_P D classes [(a_t, .inr (0, [.int (if (0 : Int32) < (if (41 : Int32) < p0 then (41 : Int32) else p0) then (if (41 : Int32) < p0 then (41 : Int32) else p0) else (0 : Int32)), .ref q_1])), (q_1, .inl ((cA 1), ((if (0 : Int32) < (if (41 : Int32) < p0 then (41 : Int32) else p0) then (if (41 : Int32) < p0 then (41 : Int32) else p0) else (0 : Int32)) * (64 : Int32)).toNatClampNeg, .inl (fun _ => 0)))] H := hP
  have hD : va_D A [(a_t, .inr (0, [.int (if (0 : Int32) < (if (41 : Int32) < p0 then (41 : Int32) else p0) then (if (41 : Int32) < p0 then (41 : Int32) else p0) else (0 : Int32)), .ref q_1])), (q_1, .inl ((cA 1), ((if (0 : Int32) < (if (41 : Int32) < p0 then (41 : Int32) else p0) then (if (41 : Int32) < p0 then (41 : Int32) else p0) else (0 : Int32)) * (64 : Int32)).toNatClampNeg, .inl (fun _ => 0)))] := hD
  have ho9 := Option.some.inj hf
  subst ho9
  have hP9 := hP.sub (ws' := [(a_t, .inr (0, [.int (if (0 : Int32) < (if (41 : Int32) < p0 then (41 : Int32) else p0) then (if (41 : Int32) < p0 then (41 : Int32) else p0) else (0 : Int32)), .ref q_1])), (q_1, .inl ((cA 1), ((if (0 : Int32) < (if (41 : Int32) < p0 then (41 : Int32) else p0) then (if (41 : Int32) < p0 then (41 : Int32) else p0) else (0 : Int32)) * (64 : Int32)).toNatClampNeg, .inl (fun _ => 0)))]) [0, 1] rfl
  have hD9 := hD.sub (ws' := [(a_t, .inr (0, [.int (if (0 : Int32) < (if (41 : Int32) < p0 then (41 : Int32) else p0) then (if (41 : Int32) < p0 then (41 : Int32) else p0) else (0 : Int32)), .ref q_1])), (q_1, .inl ((cA 1), ((if (0 : Int32) < (if (41 : Int32) < p0 then (41 : Int32) else p0) then (if (41 : Int32) < p0 then (41 : Int32) else p0) else (0 : Int32)) * (64 : Int32)).toNatClampNeg, .inl (fun _ => 0)))]) [0, 1] (by decide) rfl
  refine W.widen (k := 1) (n := N9) (Nat.le_refl _) (by rw [hN]; omega) ?_
  exact W.vret hx hb hr (fun t ht hW => ⟨⟨(), rfl, trivial, q_1, by rw [ht]; exact hP9, va_K.moved hW.alike hK, hD9⟩, hS.F ht⟩) hS.2.2 d_Bl_init_31
theorem d_Hd_init_0 : decode b_Hd_init 0 = .ok (.aload_n 0, 1) := by decide +kernel
theorem d_Hd_init_1 : decode b_Hd_init 1 = .ok (.invokespecial 3, 3) := by decide +kernel
theorem d_Hd_init_4 : decode b_Hd_init 4 = .ok (.return_, 1) := by decide +kernel
abbrev wd_Hd_init : List Cond := .code y_Hd_init b_Hd_init 1 none :: gw
def f_Hd_init  : Option (Int32 × Int32 × Int32) :=
  some ((0 : Int32), (0 : Int32), (0 : Int32))
set_option maxHeartbeats 4000000 in
set_option maxRecDepth 100000 in
theorem c_Hd_init (l : Launch) (D : va_G) (cA : Nat → ClassId) (a_t : Nat) (sz : Nat)  (o : Int32 × Int32 × Int32) (hf : f_Hd_init  = some o) : Met l y_Hd_init wd_Hd_init ({ frames := 1, cells := 0, slots := 0, locals := 40 }) (va_Pc [.ref a_t] (aP D cA [(a_t, .inr (1, [.int (0 : Int32), .int (0 : Int32), .int (0 : Int32)]))] sz)) (va_Qv (fun (_ : Unit) => True) (fun _ t => ∃ u : Unit, aR D cA (va_A [(a_t, .inr (1, [.int (0 : Int32), .int (0 : Int32), .int (0 : Int32)]))] sz) [(a_t, .inr (1, [.int o.1, .int o.2.1, .int o.2.2]))] t) (va_A [(a_t, .inr (1, [.int (0 : Int32), .int (0 : Int32), .int (0 : Int32)]))] sz)) 0 0 (va_A [(a_t, .inr (1, [.int (0 : Int32), .int (0 : Int32), .int (0 : Int32)]))] sz) := by
  refine Met.ofW (cc := b_Hd_init) (maxL := 1) (ret := none) (by decide +kernel) rfl ?_
  intro p e s m args below meth c s₁ B hml hv
  obtain ⟨rfl, hsz, hP, hK, hD0, hE⟩ := hv
  have hx := B.exec
  have hb := B.bytes
  have hr := B.returns
  have hts := atoms_spec (ws := wd_Hd_init) B.pre
  have hown : s.vm.findClass R_Hd = some m.cls := findClass_of_methodNamed B.named
  have hlocks := B.notSynchronized
  have hin : meth.name = "<init>" := (name_of_methodNamed B.named B.method).1
  subst hsz
  have hD := hD0.self (sz := s.heap.size)
  generalize hAe : va_A [(a_t, .inr (1, [.int (0 : Int32), .int (0 : Int32), .int (0 : Int32)]))] s.heap.size = A at hD hE ⊢
  have hA : ∀ q : Nat, s.heap.size ≤ q → A q := fun q h => by rw [← hAe]; exact Or.inr h
  have hS : va_S A s.heap s.heap [] := va_S.rf
  have hl := lv_entry [.ref a_t] (n := 1) (Nat.le_of_ble_eq_true rfl)
  rw [lg_entry_eq]
  generalize (lg_sl [.ref a_t] ++ List.replicate (1 - (lg_sl [.ref a_t]).length) Slot.unset).toArray = ls at hl ⊢
  have hl : lv_has ls 1 [(0, .ref a_t)] := hl
  unfold f_Hd_init at hf
  refine lv_aload_n hx hb d_Hd_init_0 rfl (lv_at hl 0 rfl) ?_
  refine W.objInit hx hb hown (hts _ (.tail _ gm_249)) (hts _ (.tail _ gm_242)) (hts _ (.tail _ gm_243)) rfl (by rw [hml]; exact hl.1) rfl d_Hd_init_1 (Nat.le_of_ble_eq_true rfl) (Nat.le_of_ble_eq_true rfl) ?_
  refine W.eq (g2 := F0 m 4 ls []) rfl ?_
  have ho9 := Option.some.inj hf
  subst ho9
  have hP9 := hP.sub (ws' := [(a_t, .inr (1, [.int (0 : Int32), .int (0 : Int32), .int (0 : Int32)]))]) [0] rfl
  have hD9 := hD.sub (ws' := [(a_t, .inr (1, [.int (0 : Int32), .int (0 : Int32), .int (0 : Int32)]))]) [0] (by decide) rfl
  exact W.vret hx hb hr (fun t ht hW => ⟨⟨(), rfl, trivial, (), by rw [ht]; exact hP9, va_K.moved hW.alike hK, hD9⟩, hS.F ht⟩) hS.2.2 d_Hd_init_4
theorem d_Tp_init_0 : decode b_Tp_init 0 = .ok (.aload_n 0, 1) := by decide +kernel
theorem d_Tp_init_1 : decode b_Tp_init 1 = .ok (.invokespecial 3, 3) := by decide +kernel
theorem d_Tp_init_4 : decode b_Tp_init 4 = .ok (.aload_n 0, 1) := by decide +kernel
theorem d_Tp_init_5 : decode b_Tp_init 5 = .ok (.bipush 40, 2) := by decide +kernel
theorem d_Tp_init_7 : decode b_Tp_init 7 = .ok (.newarray .byte, 2) := by decide +kernel
theorem d_Tp_init_9 : decode b_Tp_init 9 = .ok (.putfield 9, 3) := by decide +kernel
theorem d_Tp_init_12 : decode b_Tp_init 12 = .ok (.return_, 1) := by decide +kernel
abbrev wd_Tp_init : List Cond := .code y_Tp_init b_Tp_init 1 none :: gw
def f_Tp_init  : Option (Nat × (Nat → Int32) × Int32) :=
  some (40, (fun _ => 0), (0 : Int32))
set_option maxHeartbeats 4000000 in
set_option maxRecDepth 100000 in
theorem c_Tp_init (l : Launch) (D : va_G) (cA : Nat → ClassId) (a_t : Nat) (sz : Nat)  (o : Nat × (Nat → Int32) × Int32) (hf : f_Tp_init  = some o) : Met l y_Tp_init wd_Tp_init ({ frames := 1, cells := 1, slots := 40, locals := 40 }) (va_Pc [.ref a_t] (aP D cA [(a_t, .inr (4, [.null, .int (0 : Int32)]))] sz)) (va_Qv (fun (_ : Unit) => True) (fun _ t => ∃ u : Nat, aR D cA (va_A [(a_t, .inr (4, [.null, .int (0 : Int32)]))] sz) [(a_t, .inr (4, [.ref u, .int o.2.2])), (u, .inl ((cA 1), o.1, .inl o.2.1))] t) (va_A [(a_t, .inr (4, [.null, .int (0 : Int32)]))] sz)) 1 40 (va_A [(a_t, .inr (4, [.null, .int (0 : Int32)]))] sz) := by
  refine Met.ofW (cc := b_Tp_init) (maxL := 1) (ret := none) (by decide +kernel) rfl ?_
  intro p e s m args below meth c s₁ B hml hv
  obtain ⟨rfl, hsz, hP, hK, hD0, hE⟩ := hv
  have hx := B.exec
  have hb := B.bytes
  have hr := B.returns
  have hts := atoms_spec (ws := wd_Tp_init) B.pre
  have hown : s.vm.findClass R_Tp = some m.cls := findClass_of_methodNamed B.named
  have hlocks := B.notSynchronized
  have hin : meth.name = "<init>" := (name_of_methodNamed B.named B.method).1
  subst hsz
  have hD := hD0.self (sz := s.heap.size)
  generalize hAe : va_A [(a_t, .inr (4, [.null, .int (0 : Int32)]))] s.heap.size = A at hD hE ⊢
  have hA : ∀ q : Nat, s.heap.size ≤ q → A q := fun q h => by rw [← hAe]; exact Or.inr h
  have hS : va_S A s.heap s.heap [] := va_S.rf
  have hl := lv_entry [.ref a_t] (n := 1) (Nat.le_of_ble_eq_true rfl)
  rw [lg_entry_eq]
  generalize (lg_sl [.ref a_t] ++ List.replicate (1 - (lg_sl [.ref a_t]).length) Slot.unset).toArray = ls at hl ⊢
  have hl : lv_has ls 1 [(0, .ref a_t)] := hl
  unfold f_Tp_init at hf
  refine lv_aload_n hx hb d_Tp_init_0 rfl (lv_at hl 0 rfl) ?_
  refine W.objInit hx hb hown (hts _ (.tail _ gm_250)) (hts _ (.tail _ gm_242)) (hts _ (.tail _ gm_243)) rfl (by rw [hml]; exact hl.1) rfl d_Tp_init_1 (Nat.le_of_ble_eq_true rfl) (Nat.le_of_ble_eq_true rfl) ?_
  refine W.eq (g2 := F0 m 4 ls []) rfl ?_
  refine lv_aload_n hx hb d_Tp_init_4 rfl (lv_at hl 0 rfl) ?_
  refine lv_bipush (v := 40) hx hb d_Tp_init_5 (by decide) ?_
  refine nk_newa (atype := .byte) (N' := 40) (a0 := (40, .inl (fun _ => 0))) (ty := .byte) (n := (40 : Int32)) hx hb (hts _ (.tail _ gm_248)) rfl hK hP hD hS hA (fun _ => rfl) (by decide) (by decide) (by decide) (Nat.le_of_ble_eq_true rfl) (Nat.le_of_ble_eq_true rfl) d_Tp_init_7 1 rfl (fun q_1 H hP hD hS => ?_)
  have hP : va_P D classes [(a_t, .inr (4, [.null, .int (0 : Int32)])), (q_1, .inl ((cA 1), 40, .inl (fun _ => 0)))] H := hP
  have hD : va_D A [(a_t, .inr (4, [.null, .int (0 : Int32)])), (q_1, .inl ((cA 1), 40, .inl (fun _ => 0)))] := hD
  refine va_putF (D := D) (ci := 4) (v := .ref q_1) (ty := (.array .byte)) (C := R_Tp) (T := F_Tp) (N := 2) hx hb hts (fun w9 h9 => .tail _ (gu_Tp w9 h9)) t_Tp t_Tp_ok n_Tp hown hK hP hD hS 0 rfl rfl 0 (by decide) (hts _ (.tail _ gm_29)) (fun _ h9 => h9) rfl hin rfl (by decide +kernel) (by rfl) rfl (Nat.le_of_ble_eq_true rfl) d_Tp_init_9 (fun H locs hP hD hS => ?_)
  have hP : va_P D classes [(a_t, .inr (4, [.ref q_1, .int (0 : Int32)])), (q_1, .inl ((cA 1), 40, .inl (fun _ => 0)))] H := hP
  have hD : va_D A [(a_t, .inr (4, [.ref q_1, .int (0 : Int32)])), (q_1, .inl ((cA 1), 40, .inl (fun _ => 0)))] := hD
  have ho9 := Option.some.inj hf
  subst ho9
  have hP9 := hP.sub (ws' := [(a_t, .inr (4, [.ref q_1, .int (0 : Int32)])), (q_1, .inl ((cA 1), 40, .inl (fun _ => 0)))]) [0, 1] rfl
  have hD9 := hD.sub (ws' := [(a_t, .inr (4, [.ref q_1, .int (0 : Int32)])), (q_1, .inl ((cA 1), 40, .inl (fun _ => 0)))]) [0, 1] (by decide) rfl
  exact W.vret hx hb hr (fun t ht hW => ⟨⟨(), rfl, trivial, q_1, by rw [ht]; exact hP9, va_K.moved hW.alike hK, hD9⟩, hS.F ht⟩) hS.2.2 d_Tp_init_12
theorem d_Rc_init_0 : decode b_Rc_init 0 = .ok (.aload_n 0, 1) := by decide +kernel
theorem d_Rc_init_1 : decode b_Rc_init 1 = .ok (.invokespecial 1, 3) := by decide +kernel
theorem d_Rc_init_4 : decode b_Rc_init 4 = .ok (.aload_n 0, 1) := by decide +kernel
theorem d_Rc_init_5 : decode b_Rc_init 5 = .ok (.sipush 750, 3) := by decide +kernel
theorem d_Rc_init_8 : decode b_Rc_init 8 = .ok (.newarray .int, 2) := by decide +kernel
theorem d_Rc_init_10 : decode b_Rc_init 10 = .ok (.putfield 9, 3) := by decide +kernel
theorem d_Rc_init_13 : decode b_Rc_init 13 = .ok (.aload_n 0, 1) := by decide +kernel
theorem d_Rc_init_14 : decode b_Rc_init 14 = .ok (.sipush 750, 3) := by decide +kernel
theorem d_Rc_init_17 : decode b_Rc_init 17 = .ok (.newarray .int, 2) := by decide +kernel
theorem d_Rc_init_19 : decode b_Rc_init 19 = .ok (.putfield 13, 3) := by decide +kernel
theorem d_Rc_init_22 : decode b_Rc_init 22 = .ok (.return_, 1) := by decide +kernel
abbrev wd_Rc_init : List Cond := .code y_Rc_init b_Rc_init 1 none :: gw
def f_Rc_init  : Option (Nat × (Nat → Int32) × Nat × (Nat → Int32) × Int32 × Int32) :=
  some (750, (fun _ => 0), 750, (fun _ => 0), (0 : Int32), (0 : Int32))
set_option maxHeartbeats 4000000 in
set_option maxRecDepth 100000 in
theorem c_Rc_init (l : Launch) (D : va_G) (cA : Nat → ClassId) (a_t : Nat) (sz : Nat)  (o : Nat × (Nat → Int32) × Nat × (Nat → Int32) × Int32 × Int32) (hf : f_Rc_init  = some o) : Met l y_Rc_init wd_Rc_init ({ frames := 1, cells := 2, slots := 1500, locals := 40 }) (va_Pc [.ref a_t] (aP D cA [(a_t, .inr (3, [.null, .null, .int (0 : Int32), .int (0 : Int32)]))] sz)) (va_Qv (fun (_ : Unit) => True) (fun _ t => ∃ u : Nat × Nat, aR D cA (va_A [(a_t, .inr (3, [.null, .null, .int (0 : Int32), .int (0 : Int32)]))] sz) [(a_t, .inr (3, [.ref u.1, .ref u.2, .int o.2.2.2.2.1, .int o.2.2.2.2.2])), (u.1, .inl ((cA 0), o.1, .inl o.2.1)), (u.2, .inl ((cA 0), o.2.2.1, .inl o.2.2.2.1))] t) (va_A [(a_t, .inr (3, [.null, .null, .int (0 : Int32), .int (0 : Int32)]))] sz)) 2 1500 (va_A [(a_t, .inr (3, [.null, .null, .int (0 : Int32), .int (0 : Int32)]))] sz) := by
  refine Met.ofW (cc := b_Rc_init) (maxL := 1) (ret := none) (by decide +kernel) rfl ?_
  intro p e s m args below meth c s₁ B hml hv
  obtain ⟨rfl, hsz, hP, hK, hD0, hE⟩ := hv
  have hx := B.exec
  have hb := B.bytes
  have hr := B.returns
  have hts := atoms_spec (ws := wd_Rc_init) B.pre
  have hown : s.vm.findClass R_Rc = some m.cls := findClass_of_methodNamed B.named
  have hlocks := B.notSynchronized
  have hin : meth.name = "<init>" := (name_of_methodNamed B.named B.method).1
  subst hsz
  have hD := hD0.self (sz := s.heap.size)
  generalize hAe : va_A [(a_t, .inr (3, [.null, .null, .int (0 : Int32), .int (0 : Int32)]))] s.heap.size = A at hD hE ⊢
  have hA : ∀ q : Nat, s.heap.size ≤ q → A q := fun q h => by rw [← hAe]; exact Or.inr h
  have hS : va_S A s.heap s.heap [] := va_S.rf
  have hl := lv_entry [.ref a_t] (n := 1) (Nat.le_of_ble_eq_true rfl)
  rw [lg_entry_eq]
  generalize (lg_sl [.ref a_t] ++ List.replicate (1 - (lg_sl [.ref a_t]).length) Slot.unset).toArray = ls at hl ⊢
  have hl : lv_has ls 1 [(0, .ref a_t)] := hl
  unfold f_Rc_init at hf
  refine lv_aload_n hx hb d_Rc_init_0 rfl (lv_at hl 0 rfl) ?_
  refine W.objInit hx hb hown (hts _ (.tail _ gm_251)) (hts _ (.tail _ gm_242)) (hts _ (.tail _ gm_243)) rfl (by rw [hml]; exact hl.1) rfl d_Rc_init_1 (Nat.le_of_ble_eq_true rfl) (Nat.le_of_ble_eq_true rfl) ?_
  refine W.eq (g2 := F0 m 4 ls []) rfl ?_
  refine lv_aload_n hx hb d_Rc_init_4 rfl (lv_at hl 0 rfl) ?_
  refine lv_sipush (v := 750) hx hb d_Rc_init_5 (by decide) ?_
  refine nk_newa (atype := .int) (N' := 750) (a0 := (750, .inl (fun _ => 0))) (ty := .int) (n := (750 : Int32)) hx hb (hts _ (.tail _ gm_252)) rfl hK hP hD hS hA (fun _ => rfl) (by decide) (by decide) (by decide) (Nat.le_of_ble_eq_true rfl) (Nat.le_of_ble_eq_true rfl) d_Rc_init_8 0 rfl (fun q_1 H hP hD hS => ?_)
  have hP : va_P D classes [(a_t, .inr (3, [.null, .null, .int (0 : Int32), .int (0 : Int32)])), (q_1, .inl ((cA 0), 750, .inl (fun _ => 0)))] H := hP
  have hD : va_D A [(a_t, .inr (3, [.null, .null, .int (0 : Int32), .int (0 : Int32)])), (q_1, .inl ((cA 0), 750, .inl (fun _ => 0)))] := hD
  refine va_putF (D := D) (ci := 3) (v := .ref q_1) (ty := (.array .int)) (C := R_Rc) (T := F_Rc) (N := 4) hx hb hts (fun w9 h9 => .tail _ (gu_Rc w9 h9)) t_Rc t_Rc_ok n_Rc hown hK hP hD hS 0 rfl rfl 0 (by decide) (hts _ (.tail _ gm_40)) (fun _ h9 => h9) rfl hin rfl (by decide +kernel) (by rfl) rfl (Nat.le_of_ble_eq_true rfl) d_Rc_init_10 (fun H locs hP hD hS => ?_)
  have hP : va_P D classes [(a_t, .inr (3, [.ref q_1, .null, .int (0 : Int32), .int (0 : Int32)])), (q_1, .inl ((cA 0), 750, .inl (fun _ => 0)))] H := hP
  have hD : va_D A [(a_t, .inr (3, [.ref q_1, .null, .int (0 : Int32), .int (0 : Int32)])), (q_1, .inl ((cA 0), 750, .inl (fun _ => 0)))] := hD
  refine lv_aload_n hx hb d_Rc_init_13 rfl (lv_at hl 0 rfl) ?_
  refine lv_sipush (v := 750) hx hb d_Rc_init_14 (by decide) ?_
  refine nk_newa (atype := .int) (N' := 750) (a0 := (750, .inl (fun _ => 0))) (ty := .int) (n := (750 : Int32)) hx hb (hts _ (.tail _ gm_252)) rfl hK hP hD hS hA (fun _ => rfl) (by decide) (by decide) (by decide) (Nat.le_of_ble_eq_true rfl) (Nat.le_of_ble_eq_true rfl) d_Rc_init_17 0 rfl (fun q_2 H hP hD hS => ?_)
  have hP : va_P D classes [(a_t, .inr (3, [.ref q_1, .null, .int (0 : Int32), .int (0 : Int32)])), (q_1, .inl ((cA 0), 750, .inl (fun _ => 0))), (q_2, .inl ((cA 0), 750, .inl (fun _ => 0)))] H := hP
  have hD : va_D A [(a_t, .inr (3, [.ref q_1, .null, .int (0 : Int32), .int (0 : Int32)])), (q_1, .inl ((cA 0), 750, .inl (fun _ => 0))), (q_2, .inl ((cA 0), 750, .inl (fun _ => 0)))] := hD
  refine va_putF (D := D) (ci := 3) (v := .ref q_2) (ty := (.array .int)) (C := R_Rc) (T := F_Rc) (N := 4) hx hb hts (fun w9 h9 => .tail _ (gu_Rc w9 h9)) t_Rc t_Rc_ok n_Rc hown hK hP hD hS 0 rfl rfl 1 (by decide) (hts _ (.tail _ gm_41)) (fun _ h9 => h9) rfl hin rfl (by decide +kernel) (by rfl) rfl (Nat.le_of_ble_eq_true rfl) d_Rc_init_19 (fun H locs hP hD hS => ?_)
  have hP : va_P D classes [(a_t, .inr (3, [.ref q_1, .ref q_2, .int (0 : Int32), .int (0 : Int32)])), (q_1, .inl ((cA 0), 750, .inl (fun _ => 0))), (q_2, .inl ((cA 0), 750, .inl (fun _ => 0)))] H := hP
  have hD : va_D A [(a_t, .inr (3, [.ref q_1, .ref q_2, .int (0 : Int32), .int (0 : Int32)])), (q_1, .inl ((cA 0), 750, .inl (fun _ => 0))), (q_2, .inl ((cA 0), 750, .inl (fun _ => 0)))] := hD
  have ho9 := Option.some.inj hf
  subst ho9
  have hP9 := hP.sub (ws' := [(a_t, .inr (3, [.ref q_1, .ref q_2, .int (0 : Int32), .int (0 : Int32)])), (q_1, .inl ((cA 0), 750, .inl (fun _ => 0))), (q_2, .inl ((cA 0), 750, .inl (fun _ => 0)))]) [0, 1, 2] rfl
  have hD9 := hD.sub (ws' := [(a_t, .inr (3, [.ref q_1, .ref q_2, .int (0 : Int32), .int (0 : Int32)])), (q_1, .inl ((cA 0), 750, .inl (fun _ => 0))), (q_2, .inl ((cA 0), 750, .inl (fun _ => 0)))]) [0, 1, 2] (by decide) rfl
  exact W.vret hx hb hr (fun t ht hW => ⟨⟨(), rfl, trivial, (q_1, q_2), by rw [ht]; exact hP9, va_K.moved hW.alike hK, hD9⟩, hS.F ht⟩) hS.2.2 d_Rc_init_22
theorem d_Pg_init_0 : decode b_Pg_init 0 = .ok (.aload_n 0, 1) := by decide +kernel
theorem d_Pg_init_1 : decode b_Pg_init 1 = .ok (.invokespecial 3, 3) := by decide +kernel
theorem d_Pg_init_4 : decode b_Pg_init 4 = .ok (.aload_n 0, 1) := by decide +kernel
theorem d_Pg_init_5 : decode b_Pg_init 5 = .ok (.new 9, 3) := by decide +kernel
theorem d_Pg_init_8 : decode b_Pg_init 8 = .ok (.dup, 1) := by decide +kernel
theorem d_Pg_init_9 : decode b_Pg_init 9 = .ok (.bipush 30, 2) := by decide +kernel
theorem d_Pg_init_11 : decode b_Pg_init 11 = .ok (.invokespecial 11, 3) := by decide +kernel
theorem d_Pg_init_14 : decode b_Pg_init 14 = .ok (.putfield 14, 3) := by decide +kernel
theorem d_Pg_init_17 : decode b_Pg_init 17 = .ok (.return_, 1) := by decide +kernel
abbrev wd_Pg_init : List Cond := .code y_Pg_init b_Pg_init 1 none :: gw
def f_Pg_init  : Option (Int32 × Nat × (Nat → Int32) × Int32 × Int32 × Int32) :=
  (f_Bl_init (30 : Int32)).bind fun o_2 =>
  some (o_2.1, o_2.2.1, o_2.2.2, (0 : Int32), (0 : Int32), (0 : Int32))
set_option maxHeartbeats 4000000 in
set_option maxRecDepth 100000 in
theorem c_Pg_init (l : Launch) (D : va_G) (cA : Nat → ClassId) (a_t : Nat) (sz : Nat)  (o : Int32 × Nat × (Nat → Int32) × Int32 × Int32 × Int32) (hf : f_Pg_init  = some o) : Met l y_Pg_init wd_Pg_init ({ frames := 2, cells := 2, slots := 1922, locals := 61 }) (va_Pc [.ref a_t] (aP D cA [(a_t, .inr (2, [.null, .int (0 : Int32), .int (0 : Int32), .int (0 : Int32)]))] sz)) (va_Qv (fun (_ : Unit) => True) (fun _ t => ∃ u : Nat × Nat, aR D cA (va_A [(a_t, .inr (2, [.null, .int (0 : Int32), .int (0 : Int32), .int (0 : Int32)]))] sz) [(a_t, .inr (2, [.ref u.1, .int o.2.2.2.1, .int o.2.2.2.2.1, .int o.2.2.2.2.2])), (u.1, .inr (0, [.int o.1, .ref u.2])), (u.2, .inl ((cA 1), o.2.1, .inl o.2.2.1))] t) (va_A [(a_t, .inr (2, [.null, .int (0 : Int32), .int (0 : Int32), .int (0 : Int32)]))] sz)) 2 1922 (va_A [(a_t, .inr (2, [.null, .int (0 : Int32), .int (0 : Int32), .int (0 : Int32)]))] sz) := by
  refine Met.ofW (cc := b_Pg_init) (maxL := 1) (ret := none) (by decide +kernel) rfl ?_
  intro p e s m args below meth c s₁ B hml hv
  obtain ⟨rfl, hsz, hP, hK, hD0, hE⟩ := hv
  have hx := B.exec
  have hb := B.bytes
  have hr := B.returns
  have hts := atoms_spec (ws := wd_Pg_init) B.pre
  have hown : s.vm.findClass R_Pg = some m.cls := findClass_of_methodNamed B.named
  have hlocks := B.notSynchronized
  have hin : meth.name = "<init>" := (name_of_methodNamed B.named B.method).1
  subst hsz
  have hD := hD0.self (sz := s.heap.size)
  generalize hAe : va_A [(a_t, .inr (2, [.null, .int (0 : Int32), .int (0 : Int32), .int (0 : Int32)]))] s.heap.size = A at hD hE ⊢
  have hA : ∀ q : Nat, s.heap.size ≤ q → A q := fun q h => by rw [← hAe]; exact Or.inr h
  have hS : va_S A s.heap s.heap [] := va_S.rf
  have hl := lv_entry [.ref a_t] (n := 1) (Nat.le_of_ble_eq_true rfl)
  rw [lg_entry_eq]
  generalize (lg_sl [.ref a_t] ++ List.replicate (1 - (lg_sl [.ref a_t]).length) Slot.unset).toArray = ls at hl ⊢
  have hl : lv_has ls 1 [(0, .ref a_t)] := hl
  unfold f_Pg_init at hf
  refine lv_aload_n hx hb d_Pg_init_0 rfl (lv_at hl 0 rfl) ?_
  refine W.objInit hx hb hown (hts _ (.tail _ gm_253)) (hts _ (.tail _ gm_242)) (hts _ (.tail _ gm_243)) rfl (by rw [hml]; exact hl.1) rfl d_Pg_init_1 (Nat.le_of_ble_eq_true rfl) (Nat.le_of_ble_eq_true rfl) ?_
  refine W.eq (g2 := F0 m 4 ls []) rfl ?_
  refine lv_aload_n hx hb d_Pg_init_4 rfl (lv_at hl 0 rfl) ?_
  refine va_new (ci := 0) (fs := [.int (0 : Int32), .null]) (C := R_Bl) (T := F_Bl) (N := 2) hx hb hts (fun w9 h9 => .tail _ (gu_Bl w9 h9)) t_Bl t_Bl_ok hown (hts _ (.tail _ gm_254)) (hts _ (.tail _ gm_255)) (hts _ (.tail _ gm_5)) hK hP hD hS hA rfl (fun j hj => by rcases (show j = 0 ∨ j = 1 by omega) with rfl | rfl <;> rfl) (Nat.le_of_ble_eq_true rfl) (Nat.le_of_ble_eq_true rfl) d_Pg_init_5 (fun q_1 H hP hD hS => ?_)
  have hP : va_P D classes [(a_t, .inr (2, [.null, .int (0 : Int32), .int (0 : Int32), .int (0 : Int32)])), (q_1, .inr (0, [.int (0 : Int32), .null]))] H := hP
  have hD : va_D A [(a_t, .inr (2, [.null, .int (0 : Int32), .int (0 : Int32), .int (0 : Int32)])), (q_1, .inr (0, [.int (0 : Int32), .null]))] := hD
  refine lv_dup hx hb d_Pg_init_8 rfl ?_
  refine lv_bipush (v := 30) hx hb d_Pg_init_9 (by decide) ?_
  obtain ⟨o_2, ho_2, hf⟩ := hk_bd hf
  refine q_c (wr := [(a_t, .inr (2, [.null, .int (0 : Int32), .int (0 : Int32), .int (0 : Int32)]))]) (va_runI (As := [.int (30 : Int32)]) (rest := [.ref q_1, .ref a_t]) ⟨hx, hb, hml, hown, hts⟩ (c_Bl_init l D cA q_1 _ (30 : Int32) o_2 ho_2 1920 (by decide) (by decide)) (cwI 1 hts (gd_N gm_256) rfl rfl rfl (hts _ (.tail _ gm_5)) (hts _ (.tail _ gm_257)) (hts _ (.tail _ gm_258)) rfl (by decide +kernel) ⟨Nat.le_of_ble_eq_true rfl, Nat.le_of_ble_eq_true rfl⟩) (q_pS hK hP hD hS hA hE [1] (by decide) rfl) rfl rfl hl.1 rfl (lv_room (Nat.le_of_ble_eq_true rfl)) d_Pg_init_11 ⟨Nat.le_of_ble_eq_true rfl, Nat.le_of_ble_eq_true rfl⟩) hP hD hS hA [1] [0] rfl rfl (by decide) (by decide) (fun u H locs hP hD hS => ?_)
  obtain ⟨q_3, eq_3⟩ : ∃ z, z = u := ⟨_, rfl⟩
  subst eq_3
  have hP : va_P D classes [(a_t, .inr (2, [.null, .int (0 : Int32), .int (0 : Int32), .int (0 : Int32)])), (q_1, .inr (0, [.int o_2.1, .ref q_3])), (q_3, .inl ((cA 1), o_2.2.1, .inl o_2.2.2))] H := hP
  have hD : va_D A [(a_t, .inr (2, [.null, .int (0 : Int32), .int (0 : Int32), .int (0 : Int32)])), (q_1, .inr (0, [.int o_2.1, .ref q_3])), (q_3, .inl ((cA 1), o_2.2.1, .inl o_2.2.2))] := hD
  refine va_putF (D := D) (ci := 2) (v := .ref q_1) (ty := (.object "RoundJournal$Blocks")) (C := R_Pg) (T := F_Pg) (N := 4) hx hb hts (fun w9 h9 => .tail _ (gu_Pg w9 h9)) t_Pg t_Pg_ok n_Pg hown hK hP hD hS 0 rfl rfl 0 (by decide) (hts _ (.tail _ gm_82)) (fun _ h9 => h9) rfl hin rfl (by decide +kernel) (by rfl) rfl (Nat.le_of_ble_eq_true rfl) d_Pg_init_14 (fun H locs hP hD hS => ?_)
  have hP : va_P D classes [(a_t, .inr (2, [.ref q_1, .int (0 : Int32), .int (0 : Int32), .int (0 : Int32)])), (q_1, .inr (0, [.int o_2.1, .ref q_3])), (q_3, .inl ((cA 1), o_2.2.1, .inl o_2.2.2))] H := hP
  have hD : va_D A [(a_t, .inr (2, [.ref q_1, .int (0 : Int32), .int (0 : Int32), .int (0 : Int32)])), (q_1, .inr (0, [.int o_2.1, .ref q_3])), (q_3, .inl ((cA 1), o_2.2.1, .inl o_2.2.2))] := hD
  have ho9 := Option.some.inj hf
  subst ho9
  have hP9 := hP.sub (ws' := [(a_t, .inr (2, [.ref q_1, .int (0 : Int32), .int (0 : Int32), .int (0 : Int32)])), (q_1, .inr (0, [.int o_2.1, .ref q_3])), (q_3, .inl ((cA 1), o_2.2.1, .inl o_2.2.2))]) [0, 1, 2] rfl
  have hD9 := hD.sub (ws' := [(a_t, .inr (2, [.ref q_1, .int (0 : Int32), .int (0 : Int32), .int (0 : Int32)])), (q_1, .inr (0, [.int o_2.1, .ref q_3])), (q_3, .inl ((cA 1), o_2.2.1, .inl o_2.2.2))]) [0, 1, 2] (by decide) rfl
  exact W.vret hx hb hr (fun t ht hW => ⟨⟨(), rfl, trivial, (q_1, q_3), by rw [ht]; exact hP9, va_K.moved hW.alike hK, hD9⟩, hS.F ht⟩) hS.2.2 d_Pg_init_17
theorem d_Wt_init_0 : decode b_Wt_init 0 = .ok (.aload_n 0, 1) := by decide +kernel
theorem d_Wt_init_1 : decode b_Wt_init 1 = .ok (.invokespecial 3, 3) := by decide +kernel
theorem d_Wt_init_4 : decode b_Wt_init 4 = .ok (.aload_n 0, 1) := by decide +kernel
theorem d_Wt_init_5 : decode b_Wt_init 5 = .ok (.new 9, 3) := by decide +kernel
theorem d_Wt_init_8 : decode b_Wt_init 8 = .ok (.dup, 1) := by decide +kernel
theorem d_Wt_init_9 : decode b_Wt_init 9 = .ok (.bipush 41, 2) := by decide +kernel
theorem d_Wt_init_11 : decode b_Wt_init 11 = .ok (.invokespecial 11, 3) := by decide +kernel
theorem d_Wt_init_14 : decode b_Wt_init 14 = .ok (.putfield 14, 3) := by decide +kernel
theorem d_Wt_init_17 : decode b_Wt_init 17 = .ok (.aload_n 0, 1) := by decide +kernel
theorem d_Wt_init_18 : decode b_Wt_init 18 = .ok (.bipush 41, 2) := by decide +kernel
theorem d_Wt_init_20 : decode b_Wt_init 20 = .ok (.newarray .int, 2) := by decide +kernel
theorem d_Wt_init_22 : decode b_Wt_init 22 = .ok (.putfield 20, 3) := by decide +kernel
theorem d_Wt_init_25 : decode b_Wt_init 25 = .ok (.return_, 1) := by decide +kernel
abbrev wd_Wt_init : List Cond := .code y_Wt_init b_Wt_init 1 none :: gw
def f_Wt_init  : Option (Int32 × Nat × (Nat → Int32) × Nat × (Nat → Int32) × Int32) :=
  (f_Bl_init (41 : Int32)).bind fun o_2 =>
  some (o_2.1, o_2.2.1, o_2.2.2, 41, (fun _ => 0), (0 : Int32))
set_option maxHeartbeats 4000000 in
set_option maxRecDepth 100000 in
theorem c_Wt_init (l : Launch) (D : va_G) (cA : Nat → ClassId) (a_t : Nat) (sz : Nat)  (o : Int32 × Nat × (Nat → Int32) × Nat × (Nat → Int32) × Int32) (hf : f_Wt_init  = some o) : Met l y_Wt_init wd_Wt_init ({ frames := 2, cells := 3, slots := 2667, locals := 61 }) (va_Pc [.ref a_t] (aP D cA [(a_t, .inr (5, [.null, .null, .int (0 : Int32)]))] sz)) (va_Qv (fun (_ : Unit) => True) (fun _ t => ∃ u : Nat × Nat × Nat, aR D cA (va_A [(a_t, .inr (5, [.null, .null, .int (0 : Int32)]))] sz) [(a_t, .inr (5, [.ref u.1, .ref u.2.2, .int o.2.2.2.2.2])), (u.1, .inr (0, [.int o.1, .ref u.2.1])), (u.2.1, .inl ((cA 1), o.2.1, .inl o.2.2.1)), (u.2.2, .inl ((cA 0), o.2.2.2.1, .inl o.2.2.2.2.1))] t) (va_A [(a_t, .inr (5, [.null, .null, .int (0 : Int32)]))] sz)) 3 2667 (va_A [(a_t, .inr (5, [.null, .null, .int (0 : Int32)]))] sz) := by
  refine Met.ofW (cc := b_Wt_init) (maxL := 1) (ret := none) (by decide +kernel) rfl ?_
  intro p e s m args below meth c s₁ B hml hv
  obtain ⟨rfl, hsz, hP, hK, hD0, hE⟩ := hv
  have hx := B.exec
  have hb := B.bytes
  have hr := B.returns
  have hts := atoms_spec (ws := wd_Wt_init) B.pre
  have hown : s.vm.findClass R_Wt = some m.cls := findClass_of_methodNamed B.named
  have hlocks := B.notSynchronized
  have hin : meth.name = "<init>" := (name_of_methodNamed B.named B.method).1
  subst hsz
  have hD := hD0.self (sz := s.heap.size)
  generalize hAe : va_A [(a_t, .inr (5, [.null, .null, .int (0 : Int32)]))] s.heap.size = A at hD hE ⊢
  have hA : ∀ q : Nat, s.heap.size ≤ q → A q := fun q h => by rw [← hAe]; exact Or.inr h
  have hS : va_S A s.heap s.heap [] := va_S.rf
  have hl := lv_entry [.ref a_t] (n := 1) (Nat.le_of_ble_eq_true rfl)
  rw [lg_entry_eq]
  generalize (lg_sl [.ref a_t] ++ List.replicate (1 - (lg_sl [.ref a_t]).length) Slot.unset).toArray = ls at hl ⊢
  have hl : lv_has ls 1 [(0, .ref a_t)] := hl
  unfold f_Wt_init at hf
  refine lv_aload_n hx hb d_Wt_init_0 rfl (lv_at hl 0 rfl) ?_
  refine W.objInit hx hb hown (hts _ (.tail _ gm_259)) (hts _ (.tail _ gm_242)) (hts _ (.tail _ gm_243)) rfl (by rw [hml]; exact hl.1) rfl d_Wt_init_1 (Nat.le_of_ble_eq_true rfl) (Nat.le_of_ble_eq_true rfl) ?_
  refine W.eq (g2 := F0 m 4 ls []) rfl ?_
  refine lv_aload_n hx hb d_Wt_init_4 rfl (lv_at hl 0 rfl) ?_
  refine va_new (ci := 0) (fs := [.int (0 : Int32), .null]) (C := R_Bl) (T := F_Bl) (N := 2) hx hb hts (fun w9 h9 => .tail _ (gu_Bl w9 h9)) t_Bl t_Bl_ok hown (hts _ (.tail _ gm_260)) (hts _ (.tail _ gm_255)) (hts _ (.tail _ gm_5)) hK hP hD hS hA rfl (fun j hj => by rcases (show j = 0 ∨ j = 1 by omega) with rfl | rfl <;> rfl) (Nat.le_of_ble_eq_true rfl) (Nat.le_of_ble_eq_true rfl) d_Wt_init_5 (fun q_1 H hP hD hS => ?_)
  have hP : va_P D classes [(a_t, .inr (5, [.null, .null, .int (0 : Int32)])), (q_1, .inr (0, [.int (0 : Int32), .null]))] H := hP
  have hD : va_D A [(a_t, .inr (5, [.null, .null, .int (0 : Int32)])), (q_1, .inr (0, [.int (0 : Int32), .null]))] := hD
  refine lv_dup hx hb d_Wt_init_8 rfl ?_
  refine lv_bipush (v := 41) hx hb d_Wt_init_9 (by decide) ?_
  obtain ⟨o_2, ho_2, hf⟩ := hk_bd hf
  refine q_c (wr := [(a_t, .inr (5, [.null, .null, .int (0 : Int32)]))]) (va_runI (As := [.int (41 : Int32)]) (rest := [.ref q_1, .ref a_t]) ⟨hx, hb, hml, hown, hts⟩ (c_Bl_init l D cA q_1 _ (41 : Int32) o_2 ho_2 2624 (by decide) (by decide)) (cwI 1 hts (gd_N gm_256) rfl rfl rfl (hts _ (.tail _ gm_5)) (hts _ (.tail _ gm_261)) (hts _ (.tail _ gm_258)) rfl (by decide +kernel) ⟨Nat.le_of_ble_eq_true rfl, Nat.le_of_ble_eq_true rfl⟩) (q_pS hK hP hD hS hA hE [1] (by decide) rfl) rfl rfl hl.1 rfl (lv_room (Nat.le_of_ble_eq_true rfl)) d_Wt_init_11 ⟨Nat.le_of_ble_eq_true rfl, Nat.le_of_ble_eq_true rfl⟩) hP hD hS hA [1] [0] rfl rfl (by decide) (by decide) (fun u H locs hP hD hS => ?_)
  obtain ⟨q_3, eq_3⟩ : ∃ z, z = u := ⟨_, rfl⟩
  subst eq_3
  have hP : va_P D classes [(a_t, .inr (5, [.null, .null, .int (0 : Int32)])), (q_1, .inr (0, [.int o_2.1, .ref q_3])), (q_3, .inl ((cA 1), o_2.2.1, .inl o_2.2.2))] H := hP
  have hD : va_D A [(a_t, .inr (5, [.null, .null, .int (0 : Int32)])), (q_1, .inr (0, [.int o_2.1, .ref q_3])), (q_3, .inl ((cA 1), o_2.2.1, .inl o_2.2.2))] := hD
  refine va_putF (D := D) (ci := 5) (v := .ref q_1) (ty := (.object "RoundJournal$Blocks")) (C := R_Wt) (T := F_Wt) (N := 3) hx hb hts (fun w9 h9 => .tail _ (gu_Wt w9 h9)) t_Wt t_Wt_ok n_Wt hown hK hP hD hS 0 rfl rfl 0 (by decide) (hts _ (.tail _ gm_112)) (fun _ h9 => h9) rfl hin rfl (by decide +kernel) (by rfl) rfl (Nat.le_of_ble_eq_true rfl) d_Wt_init_14 (fun H locs hP hD hS => ?_)
  have hP : va_P D classes [(a_t, .inr (5, [.ref q_1, .null, .int (0 : Int32)])), (q_1, .inr (0, [.int o_2.1, .ref q_3])), (q_3, .inl ((cA 1), o_2.2.1, .inl o_2.2.2))] H := hP
  have hD : va_D A [(a_t, .inr (5, [.ref q_1, .null, .int (0 : Int32)])), (q_1, .inr (0, [.int o_2.1, .ref q_3])), (q_3, .inl ((cA 1), o_2.2.1, .inl o_2.2.2))] := hD
  refine lv_aload_n hx hb d_Wt_init_17 rfl (lv_at hl 0 rfl) ?_
  refine lv_bipush (v := 41) hx hb d_Wt_init_18 (by decide) ?_
  refine nk_newa (atype := .int) (N' := 41) (a0 := (41, .inl (fun _ => 0))) (ty := .int) (n := (41 : Int32)) hx hb (hts _ (.tail _ gm_252)) rfl hK hP hD hS hA (fun _ => rfl) (by decide) (by decide) (by decide) (Nat.le_of_ble_eq_true rfl) (Nat.le_of_ble_eq_true rfl) d_Wt_init_20 0 rfl (fun q_4 H hP hD hS => ?_)
  have hP : va_P D classes [(a_t, .inr (5, [.ref q_1, .null, .int (0 : Int32)])), (q_1, .inr (0, [.int o_2.1, .ref q_3])), (q_3, .inl ((cA 1), o_2.2.1, .inl o_2.2.2)), (q_4, .inl ((cA 0), 41, .inl (fun _ => 0)))] H := hP
  have hD : va_D A [(a_t, .inr (5, [.ref q_1, .null, .int (0 : Int32)])), (q_1, .inr (0, [.int o_2.1, .ref q_3])), (q_3, .inl ((cA 1), o_2.2.1, .inl o_2.2.2)), (q_4, .inl ((cA 0), 41, .inl (fun _ => 0)))] := hD
  refine va_putF (D := D) (ci := 5) (v := .ref q_4) (ty := (.array .int)) (C := R_Wt) (T := F_Wt) (N := 3) hx hb hts (fun w9 h9 => .tail _ (gu_Wt w9 h9)) t_Wt t_Wt_ok n_Wt hown hK hP hD hS 0 rfl rfl 1 (by decide) (hts _ (.tail _ gm_107)) (fun _ h9 => h9) rfl hin rfl (by decide +kernel) (by rfl) rfl (Nat.le_of_ble_eq_true rfl) d_Wt_init_22 (fun H locs hP hD hS => ?_)
  have hP : va_P D classes [(a_t, .inr (5, [.ref q_1, .ref q_4, .int (0 : Int32)])), (q_1, .inr (0, [.int o_2.1, .ref q_3])), (q_3, .inl ((cA 1), o_2.2.1, .inl o_2.2.2)), (q_4, .inl ((cA 0), 41, .inl (fun _ => 0)))] H := hP
  have hD : va_D A [(a_t, .inr (5, [.ref q_1, .ref q_4, .int (0 : Int32)])), (q_1, .inr (0, [.int o_2.1, .ref q_3])), (q_3, .inl ((cA 1), o_2.2.1, .inl o_2.2.2)), (q_4, .inl ((cA 0), 41, .inl (fun _ => 0)))] := hD
  have ho9 := Option.some.inj hf
  subst ho9
  have hP9 := hP.sub (ws' := [(a_t, .inr (5, [.ref q_1, .ref q_4, .int (0 : Int32)])), (q_1, .inr (0, [.int o_2.1, .ref q_3])), (q_3, .inl ((cA 1), o_2.2.1, .inl o_2.2.2)), (q_4, .inl ((cA 0), 41, .inl (fun _ => 0)))]) [0, 1, 2, 3] rfl
  have hD9 := hD.sub (ws' := [(a_t, .inr (5, [.ref q_1, .ref q_4, .int (0 : Int32)])), (q_1, .inr (0, [.int o_2.1, .ref q_3])), (q_3, .inl ((cA 1), o_2.2.1, .inl o_2.2.2)), (q_4, .inl ((cA 0), 41, .inl (fun _ => 0)))]) [0, 1, 2, 3] (by decide) rfl
  exact W.vret hx hb hr (fun t ht hW => ⟨⟨(), rfl, trivial, (q_1, q_3, q_4), by rw [ht]; exact hP9, va_K.moved hW.alike hK, hD9⟩, hS.F ht⟩) hS.2.2 d_Wt_init_25
theorem d_RJ_init_0 : decode b_RJ_init 0 = .ok (.aload_n 0, 1) := by decide +kernel
theorem d_RJ_init_1 : decode b_RJ_init 1 = .ok (.invokespecial 1, 3) := by decide +kernel
theorem d_RJ_init_4 : decode b_RJ_init 4 = .ok (.aload_n 0, 1) := by decide +kernel
theorem d_RJ_init_5 : decode b_RJ_init 5 = .ok (.new 7, 3) := by decide +kernel
theorem d_RJ_init_8 : decode b_RJ_init 8 = .ok (.dup, 1) := by decide +kernel
theorem d_RJ_init_9 : decode b_RJ_init 9 = .ok (.bipush 32, 2) := by decide +kernel
theorem d_RJ_init_11 : decode b_RJ_init 11 = .ok (.invokespecial 11, 3) := by decide +kernel
theorem d_RJ_init_14 : decode b_RJ_init 14 = .ok (.putfield 14, 3) := by decide +kernel
theorem d_RJ_init_17 : decode b_RJ_init 17 = .ok (.aload_n 0, 1) := by decide +kernel
theorem d_RJ_init_18 : decode b_RJ_init 18 = .ok (.new 18, 3) := by decide +kernel
theorem d_RJ_init_21 : decode b_RJ_init 21 = .ok (.dup, 1) := by decide +kernel
theorem d_RJ_init_22 : decode b_RJ_init 22 = .ok (.invokespecial 20, 3) := by decide +kernel
theorem d_RJ_init_25 : decode b_RJ_init 25 = .ok (.putfield 21, 3) := by decide +kernel
theorem d_RJ_init_28 : decode b_RJ_init 28 = .ok (.aload_n 0, 1) := by decide +kernel
theorem d_RJ_init_29 : decode b_RJ_init 29 = .ok (.new 25, 3) := by decide +kernel
theorem d_RJ_init_32 : decode b_RJ_init 32 = .ok (.dup, 1) := by decide +kernel
theorem d_RJ_init_33 : decode b_RJ_init 33 = .ok (.invokespecial 27, 3) := by decide +kernel
theorem d_RJ_init_36 : decode b_RJ_init 36 = .ok (.putfield 28, 3) := by decide +kernel
theorem d_RJ_init_39 : decode b_RJ_init 39 = .ok (.aload_n 0, 1) := by decide +kernel
theorem d_RJ_init_40 : decode b_RJ_init 40 = .ok (.new 32, 3) := by decide +kernel
theorem d_RJ_init_43 : decode b_RJ_init 43 = .ok (.dup, 1) := by decide +kernel
theorem d_RJ_init_44 : decode b_RJ_init 44 = .ok (.invokespecial 34, 3) := by decide +kernel
theorem d_RJ_init_47 : decode b_RJ_init 47 = .ok (.putfield 35, 3) := by decide +kernel
theorem d_RJ_init_50 : decode b_RJ_init 50 = .ok (.aload_n 0, 1) := by decide +kernel
theorem d_RJ_init_51 : decode b_RJ_init 51 = .ok (.new 39, 3) := by decide +kernel
theorem d_RJ_init_54 : decode b_RJ_init 54 = .ok (.dup, 1) := by decide +kernel
theorem d_RJ_init_55 : decode b_RJ_init 55 = .ok (.invokespecial 41, 3) := by decide +kernel
theorem d_RJ_init_58 : decode b_RJ_init 58 = .ok (.putfield 42, 3) := by decide +kernel
theorem d_RJ_init_61 : decode b_RJ_init 61 = .ok (.aload_n 0, 1) := by decide +kernel
theorem d_RJ_init_62 : decode b_RJ_init 62 = .ok (.new 46, 3) := by decide +kernel
theorem d_RJ_init_65 : decode b_RJ_init 65 = .ok (.dup, 1) := by decide +kernel
theorem d_RJ_init_66 : decode b_RJ_init 66 = .ok (.invokespecial 48, 3) := by decide +kernel
theorem d_RJ_init_69 : decode b_RJ_init 69 = .ok (.putfield 49, 3) := by decide +kernel
theorem d_RJ_init_72 : decode b_RJ_init 72 = .ok (.aload_n 0, 1) := by decide +kernel
theorem d_RJ_init_73 : decode b_RJ_init 73 = .ok (.iconst 1, 1) := by decide +kernel
theorem d_RJ_init_74 : decode b_RJ_init 74 = .ok (.putfield 53, 3) := by decide +kernel
theorem d_RJ_init_77 : decode b_RJ_init 77 = .ok (.aload_n 0, 1) := by decide +kernel
theorem d_RJ_init_78 : decode b_RJ_init 78 = .ok (.getfield 14, 3) := by decide +kernel
theorem d_RJ_init_81 : decode b_RJ_init 81 = .ok (.aload_n 0, 1) := by decide +kernel
theorem d_RJ_init_82 : decode b_RJ_init 82 = .ok (.getfield 53, 3) := by decide +kernel
theorem d_RJ_init_85 : decode b_RJ_init 85 = .ok (.invokestatic 57, 3) := by decide +kernel
theorem d_RJ_init_88 : decode b_RJ_init 88 = .ok (.aload_n 0, 1) := by decide +kernel
theorem d_RJ_init_89 : decode b_RJ_init 89 = .ok (.getfield 53, 3) := by decide +kernel
theorem d_RJ_init_92 : decode b_RJ_init 92 = .ok (.iconst 1, 1) := by decide +kernel
theorem d_RJ_init_93 : decode b_RJ_init 93 = .ok (.iconst 1, 1) := by decide +kernel
theorem d_RJ_init_94 : decode b_RJ_init 94 = .ok (.invokestatic 61, 3) := by decide +kernel
theorem d_RJ_init_97 : decode b_RJ_init 97 = .ok (.aload_n 0, 1) := by decide +kernel
theorem d_RJ_init_98 : decode b_RJ_init 98 = .ok (.getfield 42, 3) := by decide +kernel
theorem d_RJ_init_101 : decode b_RJ_init 101 = .ok (.aload_n 0, 1) := by decide +kernel
theorem d_RJ_init_102 : decode b_RJ_init 102 = .ok (.getfield 14, 3) := by decide +kernel
theorem d_RJ_init_105 : decode b_RJ_init 105 = .ok (.aload_n 0, 1) := by decide +kernel
theorem d_RJ_init_106 : decode b_RJ_init 106 = .ok (.getfield 53, 3) := by decide +kernel
theorem d_RJ_init_109 : decode b_RJ_init 109 = .ok (.invokestatic 57, 3) := by decide +kernel
theorem d_RJ_init_112 : decode b_RJ_init 112 = .ok (.invokevirtual 65, 3) := by decide +kernel
theorem d_RJ_init_115 : decode b_RJ_init 115 = .ok (.aload_n 0, 1) := by decide +kernel
theorem d_RJ_init_116 : decode b_RJ_init 116 = .ok (.getfield 35, 3) := by decide +kernel
theorem d_RJ_init_119 : decode b_RJ_init 119 = .ok (.aload_n 0, 1) := by decide +kernel
theorem d_RJ_init_120 : decode b_RJ_init 120 = .ok (.getfield 42, 3) := by decide +kernel
theorem d_RJ_init_123 : decode b_RJ_init 123 = .ok (.getfield 69, 3) := by decide +kernel
theorem d_RJ_init_126 : decode b_RJ_init 126 = .ok (.invokevirtual 72, 3) := by decide +kernel
theorem d_RJ_init_129 : decode b_RJ_init 129 = .ok (.aload_n 0, 1) := by decide +kernel
theorem d_RJ_init_130 : decode b_RJ_init 130 = .ok (.getfield 28, 3) := by decide +kernel
theorem d_RJ_init_133 : decode b_RJ_init 133 = .ok (.aload_n 0, 1) := by decide +kernel
theorem d_RJ_init_134 : decode b_RJ_init 134 = .ok (.getfield 42, 3) := by decide +kernel
theorem d_RJ_init_137 : decode b_RJ_init 137 = .ok (.getfield 75, 3) := by decide +kernel
theorem d_RJ_init_140 : decode b_RJ_init 140 = .ok (.invokevirtual 78, 3) := by decide +kernel
theorem d_RJ_init_143 : decode b_RJ_init 143 = .ok (.aload_n 0, 1) := by decide +kernel
theorem d_RJ_init_144 : decode b_RJ_init 144 = .ok (.getfield 28, 3) := by decide +kernel
theorem d_RJ_init_147 : decode b_RJ_init 147 = .ok (.aload_n 0, 1) := by decide +kernel
theorem d_RJ_init_148 : decode b_RJ_init 148 = .ok (.getfield 35, 3) := by decide +kernel
theorem d_RJ_init_151 : decode b_RJ_init 151 = .ok (.getfield 79, 3) := by decide +kernel
theorem d_RJ_init_154 : decode b_RJ_init 154 = .ok (.invokevirtual 82, 3) := by decide +kernel
theorem d_RJ_init_157 : decode b_RJ_init 157 = .ok (.return_, 1) := by decide +kernel
abbrev wd_RJ_init : List Cond := .code y_RJ_init b_RJ_init 1 none :: gw
def f_RJ_init  : Option (Int32 × Nat × (Nat → Int32) × Int32 × Nat × (Nat → Int32) × Nat × (Nat → Int32) × Int32 × Int32 × Nat × (Nat → Int32) × Int32 × Int32 × Int32 × Nat × (Nat → Int32) × Nat × (Nat → Int32) × Int32 × Int32 × Int32 × Int32 × Int32 × Nat × (Nat → Int32) × Int32 × Int32 × Int32 × Int32) :=
  (f_Bl_init (32 : Int32)).bind fun o_2 =>
  (f_Wt_init).bind fun o_5 =>
  (f_Pg_init).bind fun o_10 =>
  (f_Rc_init).bind fun o_14 =>
  (f_Hd_init).bind fun o_18 =>
  (f_Tp_init).bind fun o_20 =>
  (f_Hd_placeOf (1 : Int32)).bind fun o_22 =>
  (f_Hd_fill o_2.1 o_2.2.1 o_2.2.2 o_22 (1 : Int32) (1 : Int32) (1 : Int32)).bind fun o_23 =>
  (f_Hd_placeOf (1 : Int32)).bind fun o_24 =>
  (f_Hd_readFrom o_18.1 o_18.2.1 o_18.2.2 o_2.1 o_2.2.1 o_23 o_24).bind fun o_25 =>
  (f_Rc_restart o_14.1 o_14.2.1 o_14.2.2.1 o_14.2.2.2.1 o_14.2.2.2.2.1 o_14.2.2.2.2.2 o_25.2.2).bind fun o_26 =>
  (f_Pg_restart o_10.1 o_10.2.1 o_10.2.2.1 o_10.2.2.2.1 o_10.2.2.2.2.1 o_10.2.2.2.2.2 o_25.2.1).bind fun o_27 =>
  (f_Pg_openNext o_10.1 o_10.2.1 o_10.2.2.1 o_27.1 o_27.2.1 o_27.2.2 o_26.2).bind fun o_28 =>
  some (o_2.1, o_2.2.1, o_23, o_5.1, o_5.2.1, o_5.2.2.1, o_5.2.2.2.1, o_5.2.2.2.2.1, o_5.2.2.2.2.2, o_10.1, o_10.2.1, o_28.1, o_28.2.1, o_28.2.2.1, o_28.2.2.2, o_14.1, o_14.2.1, o_14.2.2.1, o_14.2.2.2.1, o_26.1, o_26.2, o_25.1, o_25.2.1, o_25.2.2, o_20.1, o_20.2.1, o_20.2.2, (1 : Int32), (0 : Int32), (0 : Int32))
set_option maxHeartbeats 4000000 in
set_option maxRecDepth 100000 in
theorem c_RJ_init (l : Launch) (D : va_G) (cA : Nat → ClassId) (a_t : Nat) (sz : Nat)  (o : Int32 × Nat × (Nat → Int32) × Int32 × Nat × (Nat → Int32) × Nat × (Nat → Int32) × Int32 × Int32 × Nat × (Nat → Int32) × Int32 × Int32 × Int32 × Nat × (Nat → Int32) × Nat × (Nat → Int32) × Int32 × Int32 × Int32 × Int32 × Int32 × Nat × (Nat → Int32) × Int32 × Int32 × Int32 × Int32) (hf : f_RJ_init  = some o) : Met l y_RJ_init wd_RJ_init ({ frames := 5, cells := 15, slots := 8195, locals := 113 }) (va_Pc [.ref a_t] (aP D cA [(a_t, .inr (6, [.null, .null, .null, .null, .null, .null, .int (0 : Int32), .int (0 : Int32), .int (0 : Int32)]))] sz)) (va_Qv (fun (_ : Unit) => True) (fun _ t => ∃ u : Nat × Nat × Nat × Nat × Nat × Nat × Nat × Nat × Nat × Nat × Nat × Nat × Nat × Nat × Nat, aR D cA (va_A [(a_t, .inr (6, [.null, .null, .null, .null, .null, .null, .int (0 : Int32), .int (0 : Int32), .int (0 : Int32)]))] sz) [(a_t, .inr (6, [.ref u.1, .ref u.2.2.1, .ref u.2.2.2.2.2.2.1, .ref u.2.2.2.2.2.2.2.2.2.1, .ref u.2.2.2.2.2.2.2.2.2.2.2.2.1, .ref u.2.2.2.2.2.2.2.2.2.2.2.2.2.1, .int o.2.2.2.2.2.2.2.2.2.2.2.2.2.2.2.2.2.2.2.2.2.2.2.2.2.2.2.1, .int o.2.2.2.2.2.2.2.2.2.2.2.2.2.2.2.2.2.2.2.2.2.2.2.2.2.2.2.2.1, .int o.2.2.2.2.2.2.2.2.2.2.2.2.2.2.2.2.2.2.2.2.2.2.2.2.2.2.2.2.2])), (u.1, .inr (0, [.int o.1, .ref u.2.1])), (u.2.1, .inl ((cA 1), o.2.1, .inl o.2.2.1)), (u.2.2.1, .inr (5, [.ref u.2.2.2.1, .ref u.2.2.2.2.2.1, .int o.2.2.2.2.2.2.2.2.1])), (u.2.2.2.1, .inr (0, [.int o.2.2.2.1, .ref u.2.2.2.2.1])), (u.2.2.2.2.1, .inl ((cA 1), o.2.2.2.2.1, .inl o.2.2.2.2.2.1)), (u.2.2.2.2.2.1, .inl ((cA 0), o.2.2.2.2.2.2.1, .inl o.2.2.2.2.2.2.2.1)), (u.2.2.2.2.2.2.1, .inr (2, [.ref u.2.2.2.2.2.2.2.1, .int o.2.2.2.2.2.2.2.2.2.2.2.2.1, .int o.2.2.2.2.2.2.2.2.2.2.2.2.2.1, .int o.2.2.2.2.2.2.2.2.2.2.2.2.2.2.1])), (u.2.2.2.2.2.2.2.1, .inr (0, [.int o.2.2.2.2.2.2.2.2.2.1, .ref u.2.2.2.2.2.2.2.2.1])), (u.2.2.2.2.2.2.2.2.1, .inl ((cA 1), o.2.2.2.2.2.2.2.2.2.2.1, .inl o.2.2.2.2.2.2.2.2.2.2.2.1)), (u.2.2.2.2.2.2.2.2.2.1, .inr (3, [.ref u.2.2.2.2.2.2.2.2.2.2.1, .ref u.2.2.2.2.2.2.2.2.2.2.2.1, .int o.2.2.2.2.2.2.2.2.2.2.2.2.2.2.2.2.2.2.2.1, .int o.2.2.2.2.2.2.2.2.2.2.2.2.2.2.2.2.2.2.2.2.1])), (u.2.2.2.2.2.2.2.2.2.2.1, .inl ((cA 0), o.2.2.2.2.2.2.2.2.2.2.2.2.2.2.2.1, .inl o.2.2.2.2.2.2.2.2.2.2.2.2.2.2.2.2.1)), (u.2.2.2.2.2.2.2.2.2.2.2.1, .inl ((cA 0), o.2.2.2.2.2.2.2.2.2.2.2.2.2.2.2.2.2.1, .inl o.2.2.2.2.2.2.2.2.2.2.2.2.2.2.2.2.2.2.1)), (u.2.2.2.2.2.2.2.2.2.2.2.2.1, .inr (1, [.int o.2.2.2.2.2.2.2.2.2.2.2.2.2.2.2.2.2.2.2.2.2.1, .int o.2.2.2.2.2.2.2.2.2.2.2.2.2.2.2.2.2.2.2.2.2.2.1, .int o.2.2.2.2.2.2.2.2.2.2.2.2.2.2.2.2.2.2.2.2.2.2.2.1])), (u.2.2.2.2.2.2.2.2.2.2.2.2.2.1, .inr (4, [.ref u.2.2.2.2.2.2.2.2.2.2.2.2.2.2, .int o.2.2.2.2.2.2.2.2.2.2.2.2.2.2.2.2.2.2.2.2.2.2.2.2.2.2.1])), (u.2.2.2.2.2.2.2.2.2.2.2.2.2.2, .inl ((cA 1), o.2.2.2.2.2.2.2.2.2.2.2.2.2.2.2.2.2.2.2.2.2.2.2.2.1, .inl o.2.2.2.2.2.2.2.2.2.2.2.2.2.2.2.2.2.2.2.2.2.2.2.2.2.1))] t) (va_A [(a_t, .inr (6, [.null, .null, .null, .null, .null, .null, .int (0 : Int32), .int (0 : Int32), .int (0 : Int32)]))] sz)) 15 8195 (va_A [(a_t, .inr (6, [.null, .null, .null, .null, .null, .null, .int (0 : Int32), .int (0 : Int32), .int (0 : Int32)]))] sz) := by
  refine Met.ofW (cc := b_RJ_init) (maxL := 1) (ret := none) (by decide +kernel) rfl ?_
  intro p e s m args below meth c s₁ B hml hv
  obtain ⟨rfl, hsz, hP, hK, hD0, hE⟩ := hv
  have hx := B.exec
  have hb := B.bytes
  have hr := B.returns
  have hts := atoms_spec (ws := wd_RJ_init) B.pre
  have hown : s.vm.findClass R_RJ = some m.cls := findClass_of_methodNamed B.named
  have hlocks := B.notSynchronized
  have hin : meth.name = "<init>" := (name_of_methodNamed B.named B.method).1
  subst hsz
  have hD := hD0.self (sz := s.heap.size)
  generalize hAe : va_A [(a_t, .inr (6, [.null, .null, .null, .null, .null, .null, .int (0 : Int32), .int (0 : Int32), .int (0 : Int32)]))] s.heap.size = A at hD hE ⊢
  have hA : ∀ q : Nat, s.heap.size ≤ q → A q := fun q h => by rw [← hAe]; exact Or.inr h
  have hS : va_S A s.heap s.heap [] := va_S.rf
  have hl := lv_entry [.ref a_t] (n := 1) (Nat.le_of_ble_eq_true rfl)
  rw [lg_entry_eq]
  generalize (lg_sl [.ref a_t] ++ List.replicate (1 - (lg_sl [.ref a_t]).length) Slot.unset).toArray = ls at hl ⊢
  have hl : lv_has ls 1 [(0, .ref a_t)] := hl
  unfold f_RJ_init at hf
  refine lv_aload_n hx hb d_RJ_init_0 rfl (lv_at hl 0 rfl) ?_
  refine W.objInit hx hb hown (hts _ (.tail _ gm_262)) (hts _ (.tail _ gm_242)) (hts _ (.tail _ gm_243)) rfl (by rw [hml]; exact hl.1) rfl d_RJ_init_1 (Nat.le_of_ble_eq_true rfl) (Nat.le_of_ble_eq_true rfl) ?_
  refine W.eq (g2 := F0 m 4 ls []) rfl ?_
  refine lv_aload_n hx hb d_RJ_init_4 rfl (lv_at hl 0 rfl) ?_
  refine va_new (ci := 0) (fs := [.int (0 : Int32), .null]) (C := R_Bl) (T := F_Bl) (N := 2) hx hb hts (fun w9 h9 => .tail _ (gu_Bl w9 h9)) t_Bl t_Bl_ok hown (hts _ (.tail _ gm_263)) (hts _ (.tail _ gm_255)) (hts _ (.tail _ gm_5)) hK hP hD hS hA rfl (fun j hj => by rcases (show j = 0 ∨ j = 1 by omega) with rfl | rfl <;> rfl) (Nat.le_of_ble_eq_true rfl) (Nat.le_of_ble_eq_true rfl) d_RJ_init_5 (fun q_1 H hP hD hS => ?_)
  have hP : va_P D classes [(a_t, .inr (6, [.null, .null, .null, .null, .null, .null, .int (0 : Int32), .int (0 : Int32), .int (0 : Int32)])), (q_1, .inr (0, [.int (0 : Int32), .null]))] H := hP
  have hD : va_D A [(a_t, .inr (6, [.null, .null, .null, .null, .null, .null, .int (0 : Int32), .int (0 : Int32), .int (0 : Int32)])), (q_1, .inr (0, [.int (0 : Int32), .null]))] := hD
  refine lv_dup hx hb d_RJ_init_8 rfl ?_
  refine lv_bipush (v := 32) hx hb d_RJ_init_9 (by decide) ?_
  obtain ⟨o_2, ho_2, hf⟩ := hk_bd hf
  refine q_c (wr := [(a_t, .inr (6, [.null, .null, .null, .null, .null, .null, .int (0 : Int32), .int (0 : Int32), .int (0 : Int32)]))]) (va_runI (As := [.int (32 : Int32)]) (rest := [.ref q_1, .ref a_t]) ⟨hx, hb, hml, hown, hts⟩ (c_Bl_init l D cA q_1 _ (32 : Int32) o_2 ho_2 2048 (by decide) (by decide)) (cwI 1 hts (gd_N gm_256) rfl rfl rfl (hts _ (.tail _ gm_5)) (hts _ (.tail _ gm_264)) (hts _ (.tail _ gm_258)) rfl (by decide +kernel) ⟨Nat.le_of_ble_eq_true rfl, Nat.le_of_ble_eq_true rfl⟩) (q_pS hK hP hD hS hA hE [1] (by decide) rfl) rfl rfl hl.1 rfl (lv_room (Nat.le_of_ble_eq_true rfl)) d_RJ_init_11 ⟨Nat.le_of_ble_eq_true rfl, Nat.le_of_ble_eq_true rfl⟩) hP hD hS hA [1] [0] rfl rfl (by decide) (by decide) (fun u H locs hP hD hS => ?_)
  obtain ⟨q_3, eq_3⟩ : ∃ z, z = u := ⟨_, rfl⟩
  subst eq_3
  have hP : va_P D classes [(a_t, .inr (6, [.null, .null, .null, .null, .null, .null, .int (0 : Int32), .int (0 : Int32), .int (0 : Int32)])), (q_1, .inr (0, [.int o_2.1, .ref q_3])), (q_3, .inl ((cA 1), o_2.2.1, .inl o_2.2.2))] H := hP
  have hD : va_D A [(a_t, .inr (6, [.null, .null, .null, .null, .null, .null, .int (0 : Int32), .int (0 : Int32), .int (0 : Int32)])), (q_1, .inr (0, [.int o_2.1, .ref q_3])), (q_3, .inl ((cA 1), o_2.2.1, .inl o_2.2.2))] := hD
  refine va_putF (D := D) (ci := 6) (v := .ref q_1) (ty := (.object "RoundJournal$Blocks")) (C := R_RJ) (T := F_RJ) (N := 9) hx hb hts (fun w9 h9 => .tail _ (gu_RJ w9 h9)) t_RJ t_RJ_ok n_RJ hown hK hP hD hS 0 rfl rfl 0 (by decide) (hts _ (.tail _ gm_151)) (fun _ h9 => h9) rfl hin rfl (by decide +kernel) (by rfl) rfl (Nat.le_of_ble_eq_true rfl) d_RJ_init_14 (fun H locs hP hD hS => ?_)
  have hP : va_P D classes [(a_t, .inr (6, [.ref q_1, .null, .null, .null, .null, .null, .int (0 : Int32), .int (0 : Int32), .int (0 : Int32)])), (q_1, .inr (0, [.int o_2.1, .ref q_3])), (q_3, .inl ((cA 1), o_2.2.1, .inl o_2.2.2))] H := hP
  have hD : va_D A [(a_t, .inr (6, [.ref q_1, .null, .null, .null, .null, .null, .int (0 : Int32), .int (0 : Int32), .int (0 : Int32)])), (q_1, .inr (0, [.int o_2.1, .ref q_3])), (q_3, .inl ((cA 1), o_2.2.1, .inl o_2.2.2))] := hD
  refine lv_aload_n hx hb d_RJ_init_17 rfl (lv_at hl 0 rfl) ?_
  refine va_new (ci := 5) (fs := [.null, .null, .int (0 : Int32)]) (C := R_Wt) (T := F_Wt) (N := 3) hx hb hts (fun w9 h9 => .tail _ (gu_Wt w9 h9)) t_Wt t_Wt_ok hown (hts _ (.tail _ gm_265)) (hts _ (.tail _ gm_266)) (hts _ (.tail _ gm_132)) hK hP hD hS hA rfl (fun j hj => by rcases (show j = 0 ∨ j = 1 ∨ j = 2 by omega) with rfl | rfl | rfl <;> rfl) (Nat.le_of_ble_eq_true rfl) (Nat.le_of_ble_eq_true rfl) d_RJ_init_18 (fun q_4 H hP hD hS => ?_)
  have hP : va_P D classes [(a_t, .inr (6, [.ref q_1, .null, .null, .null, .null, .null, .int (0 : Int32), .int (0 : Int32), .int (0 : Int32)])), (q_1, .inr (0, [.int o_2.1, .ref q_3])), (q_3, .inl ((cA 1), o_2.2.1, .inl o_2.2.2)), (q_4, .inr (5, [.null, .null, .int (0 : Int32)]))] H := hP
  have hD : va_D A [(a_t, .inr (6, [.ref q_1, .null, .null, .null, .null, .null, .int (0 : Int32), .int (0 : Int32), .int (0 : Int32)])), (q_1, .inr (0, [.int o_2.1, .ref q_3])), (q_3, .inl ((cA 1), o_2.2.1, .inl o_2.2.2)), (q_4, .inr (5, [.null, .null, .int (0 : Int32)]))] := hD
  refine lv_dup hx hb d_RJ_init_21 rfl ?_
  obtain ⟨o_5, ho_5, hf⟩ := hk_bd hf
  refine q_c (wr := [(a_t, .inr (6, [.ref q_1, .null, .null, .null, .null, .null, .int (0 : Int32), .int (0 : Int32), .int (0 : Int32)])), (q_1, .inr (0, [.int o_2.1, .ref q_3])), (q_3, .inl ((cA 1), o_2.2.1, .inl o_2.2.2))]) (va_runIN (As := []) (rest := [.ref q_4, .ref a_t]) ⟨hx, hb, hml, hown, hts⟩ (c_Wt_init l D cA q_4 _ o_5 ho_5) ⟨va_cnB 0 hts (gd_N gm_267) rfl rfl rfl (hE.1 _ nw_11) (hts _ (.tail _ gm_132)) (by decide +kernel) ⟨Nat.le_of_ble_eq_true rfl, Nat.le_of_ble_eq_true rfl⟩, rfl, (hts _ (.tail _ gm_268))⟩ (q_pS hK hP hD hS hA hE [3] (by decide) rfl) rfl rfl hl.1 rfl (lv_room (Nat.le_of_ble_eq_true rfl)) d_RJ_init_22 ⟨Nat.le_of_ble_eq_true rfl, Nat.le_of_ble_eq_true rfl⟩) hP hD hS hA [3] [0, 1, 2] rfl rfl (by decide) (by decide) (fun u H locs hP hD hS => ?_)
  obtain ⟨q_6, q_7, q_8⟩ := u
  have hP : va_P D classes [(a_t, .inr (6, [.ref q_1, .null, .null, .null, .null, .null, .int (0 : Int32), .int (0 : Int32), .int (0 : Int32)])), (q_1, .inr (0, [.int o_2.1, .ref q_3])), (q_3, .inl ((cA 1), o_2.2.1, .inl o_2.2.2)), (q_4, .inr (5, [.ref q_6, .ref q_8, .int o_5.2.2.2.2.2])), (q_6, .inr (0, [.int o_5.1, .ref q_7])), (q_7, .inl ((cA 1), o_5.2.1, .inl o_5.2.2.1)), (q_8, .inl ((cA 0), o_5.2.2.2.1, .inl o_5.2.2.2.2.1))] H := hP
  have hD : va_D A [(a_t, .inr (6, [.ref q_1, .null, .null, .null, .null, .null, .int (0 : Int32), .int (0 : Int32), .int (0 : Int32)])), (q_1, .inr (0, [.int o_2.1, .ref q_3])), (q_3, .inl ((cA 1), o_2.2.1, .inl o_2.2.2)), (q_4, .inr (5, [.ref q_6, .ref q_8, .int o_5.2.2.2.2.2])), (q_6, .inr (0, [.int o_5.1, .ref q_7])), (q_7, .inl ((cA 1), o_5.2.1, .inl o_5.2.2.1)), (q_8, .inl ((cA 0), o_5.2.2.2.1, .inl o_5.2.2.2.2.1))] := hD
  refine va_putF (D := D) (ci := 6) (v := .ref q_4) (ty := (.object "RoundJournal$Waiting")) (C := R_RJ) (T := F_RJ) (N := 9) hx hb hts (fun w9 h9 => .tail _ (gu_RJ w9 h9)) t_RJ t_RJ_ok n_RJ hown hK hP hD hS 0 rfl rfl 1 (by decide) (hts _ (.tail _ gm_127)) (fun _ h9 => h9) rfl hin rfl (by decide +kernel) (by rfl) rfl (Nat.le_of_ble_eq_true rfl) d_RJ_init_25 (fun H locs hP hD hS => ?_)
  have hP : va_P D classes [(a_t, .inr (6, [.ref q_1, .ref q_4, .null, .null, .null, .null, .int (0 : Int32), .int (0 : Int32), .int (0 : Int32)])), (q_1, .inr (0, [.int o_2.1, .ref q_3])), (q_3, .inl ((cA 1), o_2.2.1, .inl o_2.2.2)), (q_4, .inr (5, [.ref q_6, .ref q_8, .int o_5.2.2.2.2.2])), (q_6, .inr (0, [.int o_5.1, .ref q_7])), (q_7, .inl ((cA 1), o_5.2.1, .inl o_5.2.2.1)), (q_8, .inl ((cA 0), o_5.2.2.2.1, .inl o_5.2.2.2.2.1))] H := hP
  have hD : va_D A [(a_t, .inr (6, [.ref q_1, .ref q_4, .null, .null, .null, .null, .int (0 : Int32), .int (0 : Int32), .int (0 : Int32)])), (q_1, .inr (0, [.int o_2.1, .ref q_3])), (q_3, .inl ((cA 1), o_2.2.1, .inl o_2.2.2)), (q_4, .inr (5, [.ref q_6, .ref q_8, .int o_5.2.2.2.2.2])), (q_6, .inr (0, [.int o_5.1, .ref q_7])), (q_7, .inl ((cA 1), o_5.2.1, .inl o_5.2.2.1)), (q_8, .inl ((cA 0), o_5.2.2.2.1, .inl o_5.2.2.2.2.1))] := hD
  refine lv_aload_n hx hb d_RJ_init_28 rfl (lv_at hl 0 rfl) ?_
  refine va_new (ci := 2) (fs := [.null, .int (0 : Int32), .int (0 : Int32), .int (0 : Int32)]) (C := R_Pg) (T := F_Pg) (N := 4) hx hb hts (fun w9 h9 => .tail _ (gu_Pg w9 h9)) t_Pg t_Pg_ok hown (hts _ (.tail _ gm_269)) (hts _ (.tail _ gm_270)) (hts _ (.tail _ gm_78)) hK hP hD hS hA rfl (fun j hj => by rcases (show j = 0 ∨ j = 1 ∨ j = 2 ∨ j = 3 by omega) with rfl | rfl | rfl | rfl <;> rfl) (Nat.le_of_ble_eq_true rfl) (Nat.le_of_ble_eq_true rfl) d_RJ_init_29 (fun q_9 H hP hD hS => ?_)
  have hP : va_P D classes [(a_t, .inr (6, [.ref q_1, .ref q_4, .null, .null, .null, .null, .int (0 : Int32), .int (0 : Int32), .int (0 : Int32)])), (q_1, .inr (0, [.int o_2.1, .ref q_3])), (q_3, .inl ((cA 1), o_2.2.1, .inl o_2.2.2)), (q_4, .inr (5, [.ref q_6, .ref q_8, .int o_5.2.2.2.2.2])), (q_6, .inr (0, [.int o_5.1, .ref q_7])), (q_7, .inl ((cA 1), o_5.2.1, .inl o_5.2.2.1)), (q_8, .inl ((cA 0), o_5.2.2.2.1, .inl o_5.2.2.2.2.1)), (q_9, .inr (2, [.null, .int (0 : Int32), .int (0 : Int32), .int (0 : Int32)]))] H := hP
  have hD : va_D A [(a_t, .inr (6, [.ref q_1, .ref q_4, .null, .null, .null, .null, .int (0 : Int32), .int (0 : Int32), .int (0 : Int32)])), (q_1, .inr (0, [.int o_2.1, .ref q_3])), (q_3, .inl ((cA 1), o_2.2.1, .inl o_2.2.2)), (q_4, .inr (5, [.ref q_6, .ref q_8, .int o_5.2.2.2.2.2])), (q_6, .inr (0, [.int o_5.1, .ref q_7])), (q_7, .inl ((cA 1), o_5.2.1, .inl o_5.2.2.1)), (q_8, .inl ((cA 0), o_5.2.2.2.1, .inl o_5.2.2.2.2.1)), (q_9, .inr (2, [.null, .int (0 : Int32), .int (0 : Int32), .int (0 : Int32)]))] := hD
  refine lv_dup hx hb d_RJ_init_32 rfl ?_
  obtain ⟨o_10, ho_10, hf⟩ := hk_bd hf
  refine q_c (wr := [(a_t, .inr (6, [.ref q_1, .ref q_4, .null, .null, .null, .null, .int (0 : Int32), .int (0 : Int32), .int (0 : Int32)])), (q_1, .inr (0, [.int o_2.1, .ref q_3])), (q_3, .inl ((cA 1), o_2.2.1, .inl o_2.2.2)), (q_4, .inr (5, [.ref q_6, .ref q_8, .int o_5.2.2.2.2.2])), (q_6, .inr (0, [.int o_5.1, .ref q_7])), (q_7, .inl ((cA 1), o_5.2.1, .inl o_5.2.2.1)), (q_8, .inl ((cA 0), o_5.2.2.2.1, .inl o_5.2.2.2.2.1))]) (va_runIN (As := []) (rest := [.ref q_9, .ref a_t]) ⟨hx, hb, hml, hown, hts⟩ (c_Pg_init l D cA q_9 _ o_10 ho_10) ⟨va_cnB 0 hts (gd_N gm_271) rfl rfl rfl (hE.1 _ nw_12) (hts _ (.tail _ gm_78)) (by decide +kernel) ⟨Nat.le_of_ble_eq_true rfl, Nat.le_of_ble_eq_true rfl⟩, rfl, (hts _ (.tail _ gm_272))⟩ (q_pS hK hP hD hS hA hE [7] (by decide) rfl) rfl rfl hl.1 rfl (lv_room (Nat.le_of_ble_eq_true rfl)) d_RJ_init_33 ⟨Nat.le_of_ble_eq_true rfl, Nat.le_of_ble_eq_true rfl⟩) hP hD hS hA [7] [0, 1, 2, 3, 4, 5, 6] rfl rfl (by decide) (by decide) (fun u H locs hP hD hS => ?_)
  obtain ⟨q_11, q_12⟩ := u
  have hP : va_P D classes [(a_t, .inr (6, [.ref q_1, .ref q_4, .null, .null, .null, .null, .int (0 : Int32), .int (0 : Int32), .int (0 : Int32)])), (q_1, .inr (0, [.int o_2.1, .ref q_3])), (q_3, .inl ((cA 1), o_2.2.1, .inl o_2.2.2)), (q_4, .inr (5, [.ref q_6, .ref q_8, .int o_5.2.2.2.2.2])), (q_6, .inr (0, [.int o_5.1, .ref q_7])), (q_7, .inl ((cA 1), o_5.2.1, .inl o_5.2.2.1)), (q_8, .inl ((cA 0), o_5.2.2.2.1, .inl o_5.2.2.2.2.1)), (q_9, .inr (2, [.ref q_11, .int o_10.2.2.2.1, .int o_10.2.2.2.2.1, .int o_10.2.2.2.2.2])), (q_11, .inr (0, [.int o_10.1, .ref q_12])), (q_12, .inl ((cA 1), o_10.2.1, .inl o_10.2.2.1))] H := hP
  have hD : va_D A [(a_t, .inr (6, [.ref q_1, .ref q_4, .null, .null, .null, .null, .int (0 : Int32), .int (0 : Int32), .int (0 : Int32)])), (q_1, .inr (0, [.int o_2.1, .ref q_3])), (q_3, .inl ((cA 1), o_2.2.1, .inl o_2.2.2)), (q_4, .inr (5, [.ref q_6, .ref q_8, .int o_5.2.2.2.2.2])), (q_6, .inr (0, [.int o_5.1, .ref q_7])), (q_7, .inl ((cA 1), o_5.2.1, .inl o_5.2.2.1)), (q_8, .inl ((cA 0), o_5.2.2.2.1, .inl o_5.2.2.2.2.1)), (q_9, .inr (2, [.ref q_11, .int o_10.2.2.2.1, .int o_10.2.2.2.2.1, .int o_10.2.2.2.2.2])), (q_11, .inr (0, [.int o_10.1, .ref q_12])), (q_12, .inl ((cA 1), o_10.2.1, .inl o_10.2.2.1))] := hD
  refine va_putF (D := D) (ci := 6) (v := .ref q_9) (ty := (.object "RoundJournal$Pages")) (C := R_RJ) (T := F_RJ) (N := 9) hx hb hts (fun w9 h9 => .tail _ (gu_RJ w9 h9)) t_RJ t_RJ_ok n_RJ hown hK hP hD hS 0 rfl rfl 2 (by decide) (hts _ (.tail _ gm_123)) (fun _ h9 => h9) rfl hin rfl (by decide +kernel) (by rfl) rfl (Nat.le_of_ble_eq_true rfl) d_RJ_init_36 (fun H locs hP hD hS => ?_)
  have hP : va_P D classes [(a_t, .inr (6, [.ref q_1, .ref q_4, .ref q_9, .null, .null, .null, .int (0 : Int32), .int (0 : Int32), .int (0 : Int32)])), (q_1, .inr (0, [.int o_2.1, .ref q_3])), (q_3, .inl ((cA 1), o_2.2.1, .inl o_2.2.2)), (q_4, .inr (5, [.ref q_6, .ref q_8, .int o_5.2.2.2.2.2])), (q_6, .inr (0, [.int o_5.1, .ref q_7])), (q_7, .inl ((cA 1), o_5.2.1, .inl o_5.2.2.1)), (q_8, .inl ((cA 0), o_5.2.2.2.1, .inl o_5.2.2.2.2.1)), (q_9, .inr (2, [.ref q_11, .int o_10.2.2.2.1, .int o_10.2.2.2.2.1, .int o_10.2.2.2.2.2])), (q_11, .inr (0, [.int o_10.1, .ref q_12])), (q_12, .inl ((cA 1), o_10.2.1, .inl o_10.2.2.1))] H := hP
  have hD : va_D A [(a_t, .inr (6, [.ref q_1, .ref q_4, .ref q_9, .null, .null, .null, .int (0 : Int32), .int (0 : Int32), .int (0 : Int32)])), (q_1, .inr (0, [.int o_2.1, .ref q_3])), (q_3, .inl ((cA 1), o_2.2.1, .inl o_2.2.2)), (q_4, .inr (5, [.ref q_6, .ref q_8, .int o_5.2.2.2.2.2])), (q_6, .inr (0, [.int o_5.1, .ref q_7])), (q_7, .inl ((cA 1), o_5.2.1, .inl o_5.2.2.1)), (q_8, .inl ((cA 0), o_5.2.2.2.1, .inl o_5.2.2.2.2.1)), (q_9, .inr (2, [.ref q_11, .int o_10.2.2.2.1, .int o_10.2.2.2.2.1, .int o_10.2.2.2.2.2])), (q_11, .inr (0, [.int o_10.1, .ref q_12])), (q_12, .inl ((cA 1), o_10.2.1, .inl o_10.2.2.1))] := hD
  refine lv_aload_n hx hb d_RJ_init_39 rfl (lv_at hl 0 rfl) ?_
  refine va_new (ci := 3) (fs := [.null, .null, .int (0 : Int32), .int (0 : Int32)]) (C := R_Rc) (T := F_Rc) (N := 4) hx hb hts (fun w9 h9 => .tail _ (gu_Rc w9 h9)) t_Rc t_Rc_ok hown (hts _ (.tail _ gm_273)) (hts _ (.tail _ gm_274)) (hts _ (.tail _ gm_39)) hK hP hD hS hA rfl (fun j hj => by rcases (show j = 0 ∨ j = 1 ∨ j = 2 ∨ j = 3 by omega) with rfl | rfl | rfl | rfl <;> rfl) (Nat.le_of_ble_eq_true rfl) (Nat.le_of_ble_eq_true rfl) d_RJ_init_40 (fun q_13 H hP hD hS => ?_)
  have hP : va_P D classes [(a_t, .inr (6, [.ref q_1, .ref q_4, .ref q_9, .null, .null, .null, .int (0 : Int32), .int (0 : Int32), .int (0 : Int32)])), (q_1, .inr (0, [.int o_2.1, .ref q_3])), (q_3, .inl ((cA 1), o_2.2.1, .inl o_2.2.2)), (q_4, .inr (5, [.ref q_6, .ref q_8, .int o_5.2.2.2.2.2])), (q_6, .inr (0, [.int o_5.1, .ref q_7])), (q_7, .inl ((cA 1), o_5.2.1, .inl o_5.2.2.1)), (q_8, .inl ((cA 0), o_5.2.2.2.1, .inl o_5.2.2.2.2.1)), (q_9, .inr (2, [.ref q_11, .int o_10.2.2.2.1, .int o_10.2.2.2.2.1, .int o_10.2.2.2.2.2])), (q_11, .inr (0, [.int o_10.1, .ref q_12])), (q_12, .inl ((cA 1), o_10.2.1, .inl o_10.2.2.1)), (q_13, .inr (3, [.null, .null, .int (0 : Int32), .int (0 : Int32)]))] H := hP
  have hD : va_D A [(a_t, .inr (6, [.ref q_1, .ref q_4, .ref q_9, .null, .null, .null, .int (0 : Int32), .int (0 : Int32), .int (0 : Int32)])), (q_1, .inr (0, [.int o_2.1, .ref q_3])), (q_3, .inl ((cA 1), o_2.2.1, .inl o_2.2.2)), (q_4, .inr (5, [.ref q_6, .ref q_8, .int o_5.2.2.2.2.2])), (q_6, .inr (0, [.int o_5.1, .ref q_7])), (q_7, .inl ((cA 1), o_5.2.1, .inl o_5.2.2.1)), (q_8, .inl ((cA 0), o_5.2.2.2.1, .inl o_5.2.2.2.2.1)), (q_9, .inr (2, [.ref q_11, .int o_10.2.2.2.1, .int o_10.2.2.2.2.1, .int o_10.2.2.2.2.2])), (q_11, .inr (0, [.int o_10.1, .ref q_12])), (q_12, .inl ((cA 1), o_10.2.1, .inl o_10.2.2.1)), (q_13, .inr (3, [.null, .null, .int (0 : Int32), .int (0 : Int32)]))] := hD
  refine lv_dup hx hb d_RJ_init_43 rfl ?_
  obtain ⟨o_14, ho_14, hf⟩ := hk_bd hf
  refine q_c (wr := [(a_t, .inr (6, [.ref q_1, .ref q_4, .ref q_9, .null, .null, .null, .int (0 : Int32), .int (0 : Int32), .int (0 : Int32)])), (q_1, .inr (0, [.int o_2.1, .ref q_3])), (q_3, .inl ((cA 1), o_2.2.1, .inl o_2.2.2)), (q_4, .inr (5, [.ref q_6, .ref q_8, .int o_5.2.2.2.2.2])), (q_6, .inr (0, [.int o_5.1, .ref q_7])), (q_7, .inl ((cA 1), o_5.2.1, .inl o_5.2.2.1)), (q_8, .inl ((cA 0), o_5.2.2.2.1, .inl o_5.2.2.2.2.1)), (q_9, .inr (2, [.ref q_11, .int o_10.2.2.2.1, .int o_10.2.2.2.2.1, .int o_10.2.2.2.2.2])), (q_11, .inr (0, [.int o_10.1, .ref q_12])), (q_12, .inl ((cA 1), o_10.2.1, .inl o_10.2.2.1))]) (va_runIN (As := []) (rest := [.ref q_13, .ref a_t]) ⟨hx, hb, hml, hown, hts⟩ (c_Rc_init l D cA q_13 _ o_14 ho_14) ⟨va_cnB 0 hts (gd_N gm_275) rfl rfl rfl (hE.1 _ nw_13) (hts _ (.tail _ gm_39)) (by decide +kernel) ⟨Nat.le_of_ble_eq_true rfl, Nat.le_of_ble_eq_true rfl⟩, rfl, (hts _ (.tail _ gm_276))⟩ (q_pS hK hP hD hS hA hE [10] (by decide) rfl) rfl rfl hl.1 rfl (lv_room (Nat.le_of_ble_eq_true rfl)) d_RJ_init_44 ⟨Nat.le_of_ble_eq_true rfl, Nat.le_of_ble_eq_true rfl⟩) hP hD hS hA [10] [0, 1, 2, 3, 4, 5, 6, 7, 8, 9] rfl rfl (by decide) (by decide) (fun u H locs hP hD hS => ?_)
  obtain ⟨q_15, q_16⟩ := u
  have hP : va_P D classes [(a_t, .inr (6, [.ref q_1, .ref q_4, .ref q_9, .null, .null, .null, .int (0 : Int32), .int (0 : Int32), .int (0 : Int32)])), (q_1, .inr (0, [.int o_2.1, .ref q_3])), (q_3, .inl ((cA 1), o_2.2.1, .inl o_2.2.2)), (q_4, .inr (5, [.ref q_6, .ref q_8, .int o_5.2.2.2.2.2])), (q_6, .inr (0, [.int o_5.1, .ref q_7])), (q_7, .inl ((cA 1), o_5.2.1, .inl o_5.2.2.1)), (q_8, .inl ((cA 0), o_5.2.2.2.1, .inl o_5.2.2.2.2.1)), (q_9, .inr (2, [.ref q_11, .int o_10.2.2.2.1, .int o_10.2.2.2.2.1, .int o_10.2.2.2.2.2])), (q_11, .inr (0, [.int o_10.1, .ref q_12])), (q_12, .inl ((cA 1), o_10.2.1, .inl o_10.2.2.1)), (q_13, .inr (3, [.ref q_15, .ref q_16, .int o_14.2.2.2.2.1, .int o_14.2.2.2.2.2])), (q_15, .inl ((cA 0), o_14.1, .inl o_14.2.1)), (q_16, .inl ((cA 0), o_14.2.2.1, .inl o_14.2.2.2.1))] H := hP
  have hD : va_D A [(a_t, .inr (6, [.ref q_1, .ref q_4, .ref q_9, .null, .null, .null, .int (0 : Int32), .int (0 : Int32), .int (0 : Int32)])), (q_1, .inr (0, [.int o_2.1, .ref q_3])), (q_3, .inl ((cA 1), o_2.2.1, .inl o_2.2.2)), (q_4, .inr (5, [.ref q_6, .ref q_8, .int o_5.2.2.2.2.2])), (q_6, .inr (0, [.int o_5.1, .ref q_7])), (q_7, .inl ((cA 1), o_5.2.1, .inl o_5.2.2.1)), (q_8, .inl ((cA 0), o_5.2.2.2.1, .inl o_5.2.2.2.2.1)), (q_9, .inr (2, [.ref q_11, .int o_10.2.2.2.1, .int o_10.2.2.2.2.1, .int o_10.2.2.2.2.2])), (q_11, .inr (0, [.int o_10.1, .ref q_12])), (q_12, .inl ((cA 1), o_10.2.1, .inl o_10.2.2.1)), (q_13, .inr (3, [.ref q_15, .ref q_16, .int o_14.2.2.2.2.1, .int o_14.2.2.2.2.2])), (q_15, .inl ((cA 0), o_14.1, .inl o_14.2.1)), (q_16, .inl ((cA 0), o_14.2.2.1, .inl o_14.2.2.2.1))] := hD
  refine va_putF (D := D) (ci := 6) (v := .ref q_13) (ty := (.object "RoundJournal$Records")) (C := R_RJ) (T := F_RJ) (N := 9) hx hb hts (fun w9 h9 => .tail _ (gu_RJ w9 h9)) t_RJ t_RJ_ok n_RJ hown hK hP hD hS 0 rfl rfl 3 (by decide) (hts _ (.tail _ gm_142)) (fun _ h9 => h9) rfl hin rfl (by decide +kernel) (by rfl) rfl (Nat.le_of_ble_eq_true rfl) d_RJ_init_47 (fun H locs hP hD hS => ?_)
  have hP : va_P D classes [(a_t, .inr (6, [.ref q_1, .ref q_4, .ref q_9, .ref q_13, .null, .null, .int (0 : Int32), .int (0 : Int32), .int (0 : Int32)])), (q_1, .inr (0, [.int o_2.1, .ref q_3])), (q_3, .inl ((cA 1), o_2.2.1, .inl o_2.2.2)), (q_4, .inr (5, [.ref q_6, .ref q_8, .int o_5.2.2.2.2.2])), (q_6, .inr (0, [.int o_5.1, .ref q_7])), (q_7, .inl ((cA 1), o_5.2.1, .inl o_5.2.2.1)), (q_8, .inl ((cA 0), o_5.2.2.2.1, .inl o_5.2.2.2.2.1)), (q_9, .inr (2, [.ref q_11, .int o_10.2.2.2.1, .int o_10.2.2.2.2.1, .int o_10.2.2.2.2.2])), (q_11, .inr (0, [.int o_10.1, .ref q_12])), (q_12, .inl ((cA 1), o_10.2.1, .inl o_10.2.2.1)), (q_13, .inr (3, [.ref q_15, .ref q_16, .int o_14.2.2.2.2.1, .int o_14.2.2.2.2.2])), (q_15, .inl ((cA 0), o_14.1, .inl o_14.2.1)), (q_16, .inl ((cA 0), o_14.2.2.1, .inl o_14.2.2.2.1))] H := hP
  have hD : va_D A [(a_t, .inr (6, [.ref q_1, .ref q_4, .ref q_9, .ref q_13, .null, .null, .int (0 : Int32), .int (0 : Int32), .int (0 : Int32)])), (q_1, .inr (0, [.int o_2.1, .ref q_3])), (q_3, .inl ((cA 1), o_2.2.1, .inl o_2.2.2)), (q_4, .inr (5, [.ref q_6, .ref q_8, .int o_5.2.2.2.2.2])), (q_6, .inr (0, [.int o_5.1, .ref q_7])), (q_7, .inl ((cA 1), o_5.2.1, .inl o_5.2.2.1)), (q_8, .inl ((cA 0), o_5.2.2.2.1, .inl o_5.2.2.2.2.1)), (q_9, .inr (2, [.ref q_11, .int o_10.2.2.2.1, .int o_10.2.2.2.2.1, .int o_10.2.2.2.2.2])), (q_11, .inr (0, [.int o_10.1, .ref q_12])), (q_12, .inl ((cA 1), o_10.2.1, .inl o_10.2.2.1)), (q_13, .inr (3, [.ref q_15, .ref q_16, .int o_14.2.2.2.2.1, .int o_14.2.2.2.2.2])), (q_15, .inl ((cA 0), o_14.1, .inl o_14.2.1)), (q_16, .inl ((cA 0), o_14.2.2.1, .inl o_14.2.2.2.1))] := hD
  refine lv_aload_n hx hb d_RJ_init_50 rfl (lv_at hl 0 rfl) ?_
  refine va_new (ci := 1) (fs := [.int (0 : Int32), .int (0 : Int32), .int (0 : Int32)]) (C := R_Hd) (T := F_Hd) (N := 3) hx hb hts (fun w9 h9 => .tail _ (gu_Hd w9 h9)) t_Hd t_Hd_ok hown (hts _ (.tail _ gm_277)) (hts _ (.tail _ gm_278)) (hts _ (.tail _ gm_62)) hK hP hD hS hA rfl (fun j hj => by rcases (show j = 0 ∨ j = 1 ∨ j = 2 by omega) with rfl | rfl | rfl <;> rfl) (Nat.le_of_ble_eq_true rfl) (Nat.le_of_ble_eq_true rfl) d_RJ_init_51 (fun q_17 H hP hD hS => ?_)
  have hP : va_P D classes [(a_t, .inr (6, [.ref q_1, .ref q_4, .ref q_9, .ref q_13, .null, .null, .int (0 : Int32), .int (0 : Int32), .int (0 : Int32)])), (q_1, .inr (0, [.int o_2.1, .ref q_3])), (q_3, .inl ((cA 1), o_2.2.1, .inl o_2.2.2)), (q_4, .inr (5, [.ref q_6, .ref q_8, .int o_5.2.2.2.2.2])), (q_6, .inr (0, [.int o_5.1, .ref q_7])), (q_7, .inl ((cA 1), o_5.2.1, .inl o_5.2.2.1)), (q_8, .inl ((cA 0), o_5.2.2.2.1, .inl o_5.2.2.2.2.1)), (q_9, .inr (2, [.ref q_11, .int o_10.2.2.2.1, .int o_10.2.2.2.2.1, .int o_10.2.2.2.2.2])), (q_11, .inr (0, [.int o_10.1, .ref q_12])), (q_12, .inl ((cA 1), o_10.2.1, .inl o_10.2.2.1)), (q_13, .inr (3, [.ref q_15, .ref q_16, .int o_14.2.2.2.2.1, .int o_14.2.2.2.2.2])), (q_15, .inl ((cA 0), o_14.1, .inl o_14.2.1)), (q_16, .inl ((cA 0), o_14.2.2.1, .inl o_14.2.2.2.1)), (q_17, .inr (1, [.int (0 : Int32), .int (0 : Int32), .int (0 : Int32)]))] H := hP
  have hD : va_D A [(a_t, .inr (6, [.ref q_1, .ref q_4, .ref q_9, .ref q_13, .null, .null, .int (0 : Int32), .int (0 : Int32), .int (0 : Int32)])), (q_1, .inr (0, [.int o_2.1, .ref q_3])), (q_3, .inl ((cA 1), o_2.2.1, .inl o_2.2.2)), (q_4, .inr (5, [.ref q_6, .ref q_8, .int o_5.2.2.2.2.2])), (q_6, .inr (0, [.int o_5.1, .ref q_7])), (q_7, .inl ((cA 1), o_5.2.1, .inl o_5.2.2.1)), (q_8, .inl ((cA 0), o_5.2.2.2.1, .inl o_5.2.2.2.2.1)), (q_9, .inr (2, [.ref q_11, .int o_10.2.2.2.1, .int o_10.2.2.2.2.1, .int o_10.2.2.2.2.2])), (q_11, .inr (0, [.int o_10.1, .ref q_12])), (q_12, .inl ((cA 1), o_10.2.1, .inl o_10.2.2.1)), (q_13, .inr (3, [.ref q_15, .ref q_16, .int o_14.2.2.2.2.1, .int o_14.2.2.2.2.2])), (q_15, .inl ((cA 0), o_14.1, .inl o_14.2.1)), (q_16, .inl ((cA 0), o_14.2.2.1, .inl o_14.2.2.2.1)), (q_17, .inr (1, [.int (0 : Int32), .int (0 : Int32), .int (0 : Int32)]))] := hD
  refine lv_dup hx hb d_RJ_init_54 rfl ?_
  obtain ⟨o_18, ho_18, hf⟩ := hk_bd hf
  refine q_c (wr := [(a_t, .inr (6, [.ref q_1, .ref q_4, .ref q_9, .ref q_13, .null, .null, .int (0 : Int32), .int (0 : Int32), .int (0 : Int32)])), (q_1, .inr (0, [.int o_2.1, .ref q_3])), (q_3, .inl ((cA 1), o_2.2.1, .inl o_2.2.2)), (q_4, .inr (5, [.ref q_6, .ref q_8, .int o_5.2.2.2.2.2])), (q_6, .inr (0, [.int o_5.1, .ref q_7])), (q_7, .inl ((cA 1), o_5.2.1, .inl o_5.2.2.1)), (q_8, .inl ((cA 0), o_5.2.2.2.1, .inl o_5.2.2.2.2.1)), (q_9, .inr (2, [.ref q_11, .int o_10.2.2.2.1, .int o_10.2.2.2.2.1, .int o_10.2.2.2.2.2])), (q_11, .inr (0, [.int o_10.1, .ref q_12])), (q_12, .inl ((cA 1), o_10.2.1, .inl o_10.2.2.1)), (q_13, .inr (3, [.ref q_15, .ref q_16, .int o_14.2.2.2.2.1, .int o_14.2.2.2.2.2])), (q_15, .inl ((cA 0), o_14.1, .inl o_14.2.1)), (q_16, .inl ((cA 0), o_14.2.2.1, .inl o_14.2.2.2.1))]) (va_runIN (As := []) (rest := [.ref q_17, .ref a_t]) ⟨hx, hb, hml, hown, hts⟩ (c_Hd_init l D cA q_17 _ o_18 ho_18) ⟨va_cnB 0 hts (gd_N gm_279) rfl rfl rfl (hE.1 _ nw_14) (hts _ (.tail _ gm_62)) (by decide +kernel) ⟨Nat.le_of_ble_eq_true rfl, Nat.le_of_ble_eq_true rfl⟩, rfl, (hts _ (.tail _ gm_280))⟩ (q_pS hK hP hD hS hA hE [13] (by decide) rfl) rfl rfl hl.1 rfl (lv_room (Nat.le_of_ble_eq_true rfl)) d_RJ_init_55 ⟨Nat.le_of_ble_eq_true rfl, Nat.le_of_ble_eq_true rfl⟩) hP hD hS hA [13] [0, 1, 2, 3, 4, 5, 6, 7, 8, 9, 10, 11, 12] rfl rfl (by decide) (by decide) (fun u H locs hP hD hS => ?_)
  have hP : va_P D classes [(a_t, .inr (6, [.ref q_1, .ref q_4, .ref q_9, .ref q_13, .null, .null, .int (0 : Int32), .int (0 : Int32), .int (0 : Int32)])), (q_1, .inr (0, [.int o_2.1, .ref q_3])), (q_3, .inl ((cA 1), o_2.2.1, .inl o_2.2.2)), (q_4, .inr (5, [.ref q_6, .ref q_8, .int o_5.2.2.2.2.2])), (q_6, .inr (0, [.int o_5.1, .ref q_7])), (q_7, .inl ((cA 1), o_5.2.1, .inl o_5.2.2.1)), (q_8, .inl ((cA 0), o_5.2.2.2.1, .inl o_5.2.2.2.2.1)), (q_9, .inr (2, [.ref q_11, .int o_10.2.2.2.1, .int o_10.2.2.2.2.1, .int o_10.2.2.2.2.2])), (q_11, .inr (0, [.int o_10.1, .ref q_12])), (q_12, .inl ((cA 1), o_10.2.1, .inl o_10.2.2.1)), (q_13, .inr (3, [.ref q_15, .ref q_16, .int o_14.2.2.2.2.1, .int o_14.2.2.2.2.2])), (q_15, .inl ((cA 0), o_14.1, .inl o_14.2.1)), (q_16, .inl ((cA 0), o_14.2.2.1, .inl o_14.2.2.2.1)), (q_17, .inr (1, [.int o_18.1, .int o_18.2.1, .int o_18.2.2]))] H := hP
  have hD : va_D A [(a_t, .inr (6, [.ref q_1, .ref q_4, .ref q_9, .ref q_13, .null, .null, .int (0 : Int32), .int (0 : Int32), .int (0 : Int32)])), (q_1, .inr (0, [.int o_2.1, .ref q_3])), (q_3, .inl ((cA 1), o_2.2.1, .inl o_2.2.2)), (q_4, .inr (5, [.ref q_6, .ref q_8, .int o_5.2.2.2.2.2])), (q_6, .inr (0, [.int o_5.1, .ref q_7])), (q_7, .inl ((cA 1), o_5.2.1, .inl o_5.2.2.1)), (q_8, .inl ((cA 0), o_5.2.2.2.1, .inl o_5.2.2.2.2.1)), (q_9, .inr (2, [.ref q_11, .int o_10.2.2.2.1, .int o_10.2.2.2.2.1, .int o_10.2.2.2.2.2])), (q_11, .inr (0, [.int o_10.1, .ref q_12])), (q_12, .inl ((cA 1), o_10.2.1, .inl o_10.2.2.1)), (q_13, .inr (3, [.ref q_15, .ref q_16, .int o_14.2.2.2.2.1, .int o_14.2.2.2.2.2])), (q_15, .inl ((cA 0), o_14.1, .inl o_14.2.1)), (q_16, .inl ((cA 0), o_14.2.2.1, .inl o_14.2.2.2.1)), (q_17, .inr (1, [.int o_18.1, .int o_18.2.1, .int o_18.2.2]))] := hD
  refine va_putF (D := D) (ci := 6) (v := .ref q_17) (ty := (.object "RoundJournal$Head")) (C := R_RJ) (T := F_RJ) (N := 9) hx hb hts (fun w9 h9 => .tail _ (gu_RJ w9 h9)) t_RJ t_RJ_ok n_RJ hown hK hP hD hS 0 rfl rfl 4 (by decide) (hts _ (.tail _ gm_137)) (fun _ h9 => h9) rfl hin rfl (by decide +kernel) (by rfl) rfl (Nat.le_of_ble_eq_true rfl) d_RJ_init_58 (fun H locs hP hD hS => ?_)
  have hP : va_P D classes [(a_t, .inr (6, [.ref q_1, .ref q_4, .ref q_9, .ref q_13, .ref q_17, .null, .int (0 : Int32), .int (0 : Int32), .int (0 : Int32)])), (q_1, .inr (0, [.int o_2.1, .ref q_3])), (q_3, .inl ((cA 1), o_2.2.1, .inl o_2.2.2)), (q_4, .inr (5, [.ref q_6, .ref q_8, .int o_5.2.2.2.2.2])), (q_6, .inr (0, [.int o_5.1, .ref q_7])), (q_7, .inl ((cA 1), o_5.2.1, .inl o_5.2.2.1)), (q_8, .inl ((cA 0), o_5.2.2.2.1, .inl o_5.2.2.2.2.1)), (q_9, .inr (2, [.ref q_11, .int o_10.2.2.2.1, .int o_10.2.2.2.2.1, .int o_10.2.2.2.2.2])), (q_11, .inr (0, [.int o_10.1, .ref q_12])), (q_12, .inl ((cA 1), o_10.2.1, .inl o_10.2.2.1)), (q_13, .inr (3, [.ref q_15, .ref q_16, .int o_14.2.2.2.2.1, .int o_14.2.2.2.2.2])), (q_15, .inl ((cA 0), o_14.1, .inl o_14.2.1)), (q_16, .inl ((cA 0), o_14.2.2.1, .inl o_14.2.2.2.1)), (q_17, .inr (1, [.int o_18.1, .int o_18.2.1, .int o_18.2.2]))] H := hP
  have hD : va_D A [(a_t, .inr (6, [.ref q_1, .ref q_4, .ref q_9, .ref q_13, .ref q_17, .null, .int (0 : Int32), .int (0 : Int32), .int (0 : Int32)])), (q_1, .inr (0, [.int o_2.1, .ref q_3])), (q_3, .inl ((cA 1), o_2.2.1, .inl o_2.2.2)), (q_4, .inr (5, [.ref q_6, .ref q_8, .int o_5.2.2.2.2.2])), (q_6, .inr (0, [.int o_5.1, .ref q_7])), (q_7, .inl ((cA 1), o_5.2.1, .inl o_5.2.2.1)), (q_8, .inl ((cA 0), o_5.2.2.2.1, .inl o_5.2.2.2.2.1)), (q_9, .inr (2, [.ref q_11, .int o_10.2.2.2.1, .int o_10.2.2.2.2.1, .int o_10.2.2.2.2.2])), (q_11, .inr (0, [.int o_10.1, .ref q_12])), (q_12, .inl ((cA 1), o_10.2.1, .inl o_10.2.2.1)), (q_13, .inr (3, [.ref q_15, .ref q_16, .int o_14.2.2.2.2.1, .int o_14.2.2.2.2.2])), (q_15, .inl ((cA 0), o_14.1, .inl o_14.2.1)), (q_16, .inl ((cA 0), o_14.2.2.1, .inl o_14.2.2.2.1)), (q_17, .inr (1, [.int o_18.1, .int o_18.2.1, .int o_18.2.2]))] := hD
  refine lv_aload_n hx hb d_RJ_init_61 rfl (lv_at hl 0 rfl) ?_
  refine va_new (ci := 4) (fs := [.null, .int (0 : Int32)]) (C := R_Tp) (T := F_Tp) (N := 2) hx hb hts (fun w9 h9 => .tail _ (gu_Tp w9 h9)) t_Tp t_Tp_ok hown (hts _ (.tail _ gm_281)) (hts _ (.tail _ gm_282)) (hts _ (.tail _ gm_106)) hK hP hD hS hA rfl (fun j hj => by rcases (show j = 0 ∨ j = 1 by omega) with rfl | rfl <;> rfl) (Nat.le_of_ble_eq_true rfl) (Nat.le_of_ble_eq_true rfl) d_RJ_init_62 (fun q_19 H hP hD hS => ?_)
  have hP : va_P D classes [(a_t, .inr (6, [.ref q_1, .ref q_4, .ref q_9, .ref q_13, .ref q_17, .null, .int (0 : Int32), .int (0 : Int32), .int (0 : Int32)])), (q_1, .inr (0, [.int o_2.1, .ref q_3])), (q_3, .inl ((cA 1), o_2.2.1, .inl o_2.2.2)), (q_4, .inr (5, [.ref q_6, .ref q_8, .int o_5.2.2.2.2.2])), (q_6, .inr (0, [.int o_5.1, .ref q_7])), (q_7, .inl ((cA 1), o_5.2.1, .inl o_5.2.2.1)), (q_8, .inl ((cA 0), o_5.2.2.2.1, .inl o_5.2.2.2.2.1)), (q_9, .inr (2, [.ref q_11, .int o_10.2.2.2.1, .int o_10.2.2.2.2.1, .int o_10.2.2.2.2.2])), (q_11, .inr (0, [.int o_10.1, .ref q_12])), (q_12, .inl ((cA 1), o_10.2.1, .inl o_10.2.2.1)), (q_13, .inr (3, [.ref q_15, .ref q_16, .int o_14.2.2.2.2.1, .int o_14.2.2.2.2.2])), (q_15, .inl ((cA 0), o_14.1, .inl o_14.2.1)), (q_16, .inl ((cA 0), o_14.2.2.1, .inl o_14.2.2.2.1)), (q_17, .inr (1, [.int o_18.1, .int o_18.2.1, .int o_18.2.2])), (q_19, .inr (4, [.null, .int (0 : Int32)]))] H := hP
  have hD : va_D A [(a_t, .inr (6, [.ref q_1, .ref q_4, .ref q_9, .ref q_13, .ref q_17, .null, .int (0 : Int32), .int (0 : Int32), .int (0 : Int32)])), (q_1, .inr (0, [.int o_2.1, .ref q_3])), (q_3, .inl ((cA 1), o_2.2.1, .inl o_2.2.2)), (q_4, .inr (5, [.ref q_6, .ref q_8, .int o_5.2.2.2.2.2])), (q_6, .inr (0, [.int o_5.1, .ref q_7])), (q_7, .inl ((cA 1), o_5.2.1, .inl o_5.2.2.1)), (q_8, .inl ((cA 0), o_5.2.2.2.1, .inl o_5.2.2.2.2.1)), (q_9, .inr (2, [.ref q_11, .int o_10.2.2.2.1, .int o_10.2.2.2.2.1, .int o_10.2.2.2.2.2])), (q_11, .inr (0, [.int o_10.1, .ref q_12])), (q_12, .inl ((cA 1), o_10.2.1, .inl o_10.2.2.1)), (q_13, .inr (3, [.ref q_15, .ref q_16, .int o_14.2.2.2.2.1, .int o_14.2.2.2.2.2])), (q_15, .inl ((cA 0), o_14.1, .inl o_14.2.1)), (q_16, .inl ((cA 0), o_14.2.2.1, .inl o_14.2.2.2.1)), (q_17, .inr (1, [.int o_18.1, .int o_18.2.1, .int o_18.2.2])), (q_19, .inr (4, [.null, .int (0 : Int32)]))] := hD
  refine lv_dup hx hb d_RJ_init_65 rfl ?_
  obtain ⟨o_20, ho_20, hf⟩ := hk_bd hf
  refine q_c (wr := [(a_t, .inr (6, [.ref q_1, .ref q_4, .ref q_9, .ref q_13, .ref q_17, .null, .int (0 : Int32), .int (0 : Int32), .int (0 : Int32)])), (q_1, .inr (0, [.int o_2.1, .ref q_3])), (q_3, .inl ((cA 1), o_2.2.1, .inl o_2.2.2)), (q_4, .inr (5, [.ref q_6, .ref q_8, .int o_5.2.2.2.2.2])), (q_6, .inr (0, [.int o_5.1, .ref q_7])), (q_7, .inl ((cA 1), o_5.2.1, .inl o_5.2.2.1)), (q_8, .inl ((cA 0), o_5.2.2.2.1, .inl o_5.2.2.2.2.1)), (q_9, .inr (2, [.ref q_11, .int o_10.2.2.2.1, .int o_10.2.2.2.2.1, .int o_10.2.2.2.2.2])), (q_11, .inr (0, [.int o_10.1, .ref q_12])), (q_12, .inl ((cA 1), o_10.2.1, .inl o_10.2.2.1)), (q_13, .inr (3, [.ref q_15, .ref q_16, .int o_14.2.2.2.2.1, .int o_14.2.2.2.2.2])), (q_15, .inl ((cA 0), o_14.1, .inl o_14.2.1)), (q_16, .inl ((cA 0), o_14.2.2.1, .inl o_14.2.2.2.1)), (q_17, .inr (1, [.int o_18.1, .int o_18.2.1, .int o_18.2.2]))]) (va_runIN (As := []) (rest := [.ref q_19, .ref a_t]) ⟨hx, hb, hml, hown, hts⟩ (c_Tp_init l D cA q_19 _ o_20 ho_20) ⟨va_cnB 0 hts (gd_N gm_283) rfl rfl rfl (hE.1 _ nw_15) (hts _ (.tail _ gm_106)) (by decide +kernel) ⟨Nat.le_of_ble_eq_true rfl, Nat.le_of_ble_eq_true rfl⟩, rfl, (hts _ (.tail _ gm_284))⟩ (q_pS hK hP hD hS hA hE [14] (by decide) rfl) rfl rfl hl.1 rfl (lv_room (Nat.le_of_ble_eq_true rfl)) d_RJ_init_66 ⟨Nat.le_of_ble_eq_true rfl, Nat.le_of_ble_eq_true rfl⟩) hP hD hS hA [14] [0, 1, 2, 3, 4, 5, 6, 7, 8, 9, 10, 11, 12, 13] rfl rfl (by decide) (by decide) (fun u H locs hP hD hS => ?_)
  obtain ⟨q_21, eq_21⟩ : ∃ z, z = u := ⟨_, rfl⟩
  subst eq_21
  have hP : va_P D classes [(a_t, .inr (6, [.ref q_1, .ref q_4, .ref q_9, .ref q_13, .ref q_17, .null, .int (0 : Int32), .int (0 : Int32), .int (0 : Int32)])), (q_1, .inr (0, [.int o_2.1, .ref q_3])), (q_3, .inl ((cA 1), o_2.2.1, .inl o_2.2.2)), (q_4, .inr (5, [.ref q_6, .ref q_8, .int o_5.2.2.2.2.2])), (q_6, .inr (0, [.int o_5.1, .ref q_7])), (q_7, .inl ((cA 1), o_5.2.1, .inl o_5.2.2.1)), (q_8, .inl ((cA 0), o_5.2.2.2.1, .inl o_5.2.2.2.2.1)), (q_9, .inr (2, [.ref q_11, .int o_10.2.2.2.1, .int o_10.2.2.2.2.1, .int o_10.2.2.2.2.2])), (q_11, .inr (0, [.int o_10.1, .ref q_12])), (q_12, .inl ((cA 1), o_10.2.1, .inl o_10.2.2.1)), (q_13, .inr (3, [.ref q_15, .ref q_16, .int o_14.2.2.2.2.1, .int o_14.2.2.2.2.2])), (q_15, .inl ((cA 0), o_14.1, .inl o_14.2.1)), (q_16, .inl ((cA 0), o_14.2.2.1, .inl o_14.2.2.2.1)), (q_17, .inr (1, [.int o_18.1, .int o_18.2.1, .int o_18.2.2])), (q_19, .inr (4, [.ref q_21, .int o_20.2.2])), (q_21, .inl ((cA 1), o_20.1, .inl o_20.2.1))] H := hP
  have hD : va_D A [(a_t, .inr (6, [.ref q_1, .ref q_4, .ref q_9, .ref q_13, .ref q_17, .null, .int (0 : Int32), .int (0 : Int32), .int (0 : Int32)])), (q_1, .inr (0, [.int o_2.1, .ref q_3])), (q_3, .inl ((cA 1), o_2.2.1, .inl o_2.2.2)), (q_4, .inr (5, [.ref q_6, .ref q_8, .int o_5.2.2.2.2.2])), (q_6, .inr (0, [.int o_5.1, .ref q_7])), (q_7, .inl ((cA 1), o_5.2.1, .inl o_5.2.2.1)), (q_8, .inl ((cA 0), o_5.2.2.2.1, .inl o_5.2.2.2.2.1)), (q_9, .inr (2, [.ref q_11, .int o_10.2.2.2.1, .int o_10.2.2.2.2.1, .int o_10.2.2.2.2.2])), (q_11, .inr (0, [.int o_10.1, .ref q_12])), (q_12, .inl ((cA 1), o_10.2.1, .inl o_10.2.2.1)), (q_13, .inr (3, [.ref q_15, .ref q_16, .int o_14.2.2.2.2.1, .int o_14.2.2.2.2.2])), (q_15, .inl ((cA 0), o_14.1, .inl o_14.2.1)), (q_16, .inl ((cA 0), o_14.2.2.1, .inl o_14.2.2.2.1)), (q_17, .inr (1, [.int o_18.1, .int o_18.2.1, .int o_18.2.2])), (q_19, .inr (4, [.ref q_21, .int o_20.2.2])), (q_21, .inl ((cA 1), o_20.1, .inl o_20.2.1))] := hD
  refine va_putF (D := D) (ci := 6) (v := .ref q_19) (ty := (.object "RoundJournal$Tape")) (C := R_RJ) (T := F_RJ) (N := 9) hx hb hts (fun w9 h9 => .tail _ (gu_RJ w9 h9)) t_RJ t_RJ_ok n_RJ hown hK hP hD hS 0 rfl rfl 5 (by decide) (hts _ (.tail _ gm_118)) (fun _ h9 => h9) rfl hin rfl (by decide +kernel) (by rfl) rfl (Nat.le_of_ble_eq_true rfl) d_RJ_init_69 (fun H locs hP hD hS => ?_)
  have hP : va_P D classes [(a_t, .inr (6, [.ref q_1, .ref q_4, .ref q_9, .ref q_13, .ref q_17, .ref q_19, .int (0 : Int32), .int (0 : Int32), .int (0 : Int32)])), (q_1, .inr (0, [.int o_2.1, .ref q_3])), (q_3, .inl ((cA 1), o_2.2.1, .inl o_2.2.2)), (q_4, .inr (5, [.ref q_6, .ref q_8, .int o_5.2.2.2.2.2])), (q_6, .inr (0, [.int o_5.1, .ref q_7])), (q_7, .inl ((cA 1), o_5.2.1, .inl o_5.2.2.1)), (q_8, .inl ((cA 0), o_5.2.2.2.1, .inl o_5.2.2.2.2.1)), (q_9, .inr (2, [.ref q_11, .int o_10.2.2.2.1, .int o_10.2.2.2.2.1, .int o_10.2.2.2.2.2])), (q_11, .inr (0, [.int o_10.1, .ref q_12])), (q_12, .inl ((cA 1), o_10.2.1, .inl o_10.2.2.1)), (q_13, .inr (3, [.ref q_15, .ref q_16, .int o_14.2.2.2.2.1, .int o_14.2.2.2.2.2])), (q_15, .inl ((cA 0), o_14.1, .inl o_14.2.1)), (q_16, .inl ((cA 0), o_14.2.2.1, .inl o_14.2.2.2.1)), (q_17, .inr (1, [.int o_18.1, .int o_18.2.1, .int o_18.2.2])), (q_19, .inr (4, [.ref q_21, .int o_20.2.2])), (q_21, .inl ((cA 1), o_20.1, .inl o_20.2.1))] H := hP
  have hD : va_D A [(a_t, .inr (6, [.ref q_1, .ref q_4, .ref q_9, .ref q_13, .ref q_17, .ref q_19, .int (0 : Int32), .int (0 : Int32), .int (0 : Int32)])), (q_1, .inr (0, [.int o_2.1, .ref q_3])), (q_3, .inl ((cA 1), o_2.2.1, .inl o_2.2.2)), (q_4, .inr (5, [.ref q_6, .ref q_8, .int o_5.2.2.2.2.2])), (q_6, .inr (0, [.int o_5.1, .ref q_7])), (q_7, .inl ((cA 1), o_5.2.1, .inl o_5.2.2.1)), (q_8, .inl ((cA 0), o_5.2.2.2.1, .inl o_5.2.2.2.2.1)), (q_9, .inr (2, [.ref q_11, .int o_10.2.2.2.1, .int o_10.2.2.2.2.1, .int o_10.2.2.2.2.2])), (q_11, .inr (0, [.int o_10.1, .ref q_12])), (q_12, .inl ((cA 1), o_10.2.1, .inl o_10.2.2.1)), (q_13, .inr (3, [.ref q_15, .ref q_16, .int o_14.2.2.2.2.1, .int o_14.2.2.2.2.2])), (q_15, .inl ((cA 0), o_14.1, .inl o_14.2.1)), (q_16, .inl ((cA 0), o_14.2.2.1, .inl o_14.2.2.2.1)), (q_17, .inr (1, [.int o_18.1, .int o_18.2.1, .int o_18.2.2])), (q_19, .inr (4, [.ref q_21, .int o_20.2.2])), (q_21, .inl ((cA 1), o_20.1, .inl o_20.2.1))] := hD
  refine lv_aload_n hx hb d_RJ_init_72 rfl (lv_at hl 0 rfl) ?_
  refine lv_iconst (v := 1) hx hb d_RJ_init_73 (by decide) ?_
  refine va_put (D := D) (ci := 6) (v := .int (1 : Int32)) (ty := .int) (C := R_RJ) (T := F_RJ) (N := 9) hx hb hts (fun w9 h9 => .tail _ (gu_RJ w9 h9)) t_RJ t_RJ_ok n_RJ hown hK hP hD hS 0 rfl rfl 6 (by decide) (hts _ (.tail _ gm_162)) (fun _ h9 => h9) rfl (by decide +kernel) rfl rfl (Nat.le_of_ble_eq_true rfl) d_RJ_init_74 (fun H locs hP hD hS => ?_)
  have hP : va_P D classes [(a_t, .inr (6, [.ref q_1, .ref q_4, .ref q_9, .ref q_13, .ref q_17, .ref q_19, .int (1 : Int32), .int (0 : Int32), .int (0 : Int32)])), (q_1, .inr (0, [.int o_2.1, .ref q_3])), (q_3, .inl ((cA 1), o_2.2.1, .inl o_2.2.2)), (q_4, .inr (5, [.ref q_6, .ref q_8, .int o_5.2.2.2.2.2])), (q_6, .inr (0, [.int o_5.1, .ref q_7])), (q_7, .inl ((cA 1), o_5.2.1, .inl o_5.2.2.1)), (q_8, .inl ((cA 0), o_5.2.2.2.1, .inl o_5.2.2.2.2.1)), (q_9, .inr (2, [.ref q_11, .int o_10.2.2.2.1, .int o_10.2.2.2.2.1, .int o_10.2.2.2.2.2])), (q_11, .inr (0, [.int o_10.1, .ref q_12])), (q_12, .inl ((cA 1), o_10.2.1, .inl o_10.2.2.1)), (q_13, .inr (3, [.ref q_15, .ref q_16, .int o_14.2.2.2.2.1, .int o_14.2.2.2.2.2])), (q_15, .inl ((cA 0), o_14.1, .inl o_14.2.1)), (q_16, .inl ((cA 0), o_14.2.2.1, .inl o_14.2.2.2.1)), (q_17, .inr (1, [.int o_18.1, .int o_18.2.1, .int o_18.2.2])), (q_19, .inr (4, [.ref q_21, .int o_20.2.2])), (q_21, .inl ((cA 1), o_20.1, .inl o_20.2.1))] H := hP
  have hD : va_D A [(a_t, .inr (6, [.ref q_1, .ref q_4, .ref q_9, .ref q_13, .ref q_17, .ref q_19, .int (1 : Int32), .int (0 : Int32), .int (0 : Int32)])), (q_1, .inr (0, [.int o_2.1, .ref q_3])), (q_3, .inl ((cA 1), o_2.2.1, .inl o_2.2.2)), (q_4, .inr (5, [.ref q_6, .ref q_8, .int o_5.2.2.2.2.2])), (q_6, .inr (0, [.int o_5.1, .ref q_7])), (q_7, .inl ((cA 1), o_5.2.1, .inl o_5.2.2.1)), (q_8, .inl ((cA 0), o_5.2.2.2.1, .inl o_5.2.2.2.2.1)), (q_9, .inr (2, [.ref q_11, .int o_10.2.2.2.1, .int o_10.2.2.2.2.1, .int o_10.2.2.2.2.2])), (q_11, .inr (0, [.int o_10.1, .ref q_12])), (q_12, .inl ((cA 1), o_10.2.1, .inl o_10.2.2.1)), (q_13, .inr (3, [.ref q_15, .ref q_16, .int o_14.2.2.2.2.1, .int o_14.2.2.2.2.2])), (q_15, .inl ((cA 0), o_14.1, .inl o_14.2.1)), (q_16, .inl ((cA 0), o_14.2.2.1, .inl o_14.2.2.2.1)), (q_17, .inr (1, [.int o_18.1, .int o_18.2.1, .int o_18.2.2])), (q_19, .inr (4, [.ref q_21, .int o_20.2.2])), (q_21, .inl ((cA 1), o_20.1, .inl o_20.2.1))] := hD
  refine lv_aload_n hx hb d_RJ_init_77 rfl (lv_at hl 0 rfl) ?_
  refine va_get (D := D) (ci := 6) (v := .ref q_1) (C := R_RJ) (T := F_RJ) (N := 9) hx hb hts (fun w9 h9 => .tail _ (gu_RJ w9 h9)) hown hK hP 0 rfl rfl 0 (by decide) (hts _ (.tail _ gm_151)) (fun _ h9 => h9) rfl d_RJ_init_78 ?_
  refine lv_aload_n hx hb d_RJ_init_81 rfl (lv_at hl 0 rfl) ?_
  refine va_get (D := D) (ci := 6) (v := .int (1 : Int32)) (C := R_RJ) (T := F_RJ) (N := 9) hx hb hts (fun w9 h9 => .tail _ (gu_RJ w9 h9)) hown hK hP 0 rfl rfl 6 (by decide) (hts _ (.tail _ gm_162)) (fun _ h9 => h9) rfl d_RJ_init_82 ?_
  obtain ⟨o_22, ho_22, hf⟩ := hk_bd hf
  refine q_i (wr := [(a_t, .inr (6, [.ref q_1, .ref q_4, .ref q_9, .ref q_13, .ref q_17, .ref q_19, .int (1 : Int32), .int (0 : Int32), .int (0 : Int32)])), (q_1, .inr (0, [.int o_2.1, .ref q_3])), (q_3, .inl ((cA 1), o_2.2.1, .inl o_2.2.2)), (q_4, .inr (5, [.ref q_6, .ref q_8, .int o_5.2.2.2.2.2])), (q_6, .inr (0, [.int o_5.1, .ref q_7])), (q_7, .inl ((cA 1), o_5.2.1, .inl o_5.2.2.1)), (q_8, .inl ((cA 0), o_5.2.2.2.1, .inl o_5.2.2.2.2.1)), (q_9, .inr (2, [.ref q_11, .int o_10.2.2.2.1, .int o_10.2.2.2.2.1, .int o_10.2.2.2.2.2])), (q_11, .inr (0, [.int o_10.1, .ref q_12])), (q_12, .inl ((cA 1), o_10.2.1, .inl o_10.2.2.1)), (q_13, .inr (3, [.ref q_15, .ref q_16, .int o_14.2.2.2.2.1, .int o_14.2.2.2.2.2])), (q_15, .inl ((cA 0), o_14.1, .inl o_14.2.1)), (q_16, .inl ((cA 0), o_14.2.2.1, .inl o_14.2.2.2.1)), (q_17, .inr (1, [.int o_18.1, .int o_18.2.1, .int o_18.2.2])), (q_19, .inr (4, [.ref q_21, .int o_20.2.2])), (q_21, .inl ((cA 1), o_20.1, .inl o_20.2.1))]) (va_runS (As := [.int (1 : Int32)]) (rest := [.ref q_1]) ⟨hx, hb, hml, hown, hts⟩ (c_Hd_placeOf l D cA _ (1 : Int32) o_22 ho_22) (va_cwS 1 hts (gd_S gm_285 gm_61 gm_62 gm_59) rfl rfl rfl (by decide +kernel) ⟨Nat.le_of_ble_eq_true rfl, Nat.le_of_ble_eq_true rfl⟩) (q_pS hK hP hD hS hA hE [] (by decide) rfl) rfl rfl hl.1 rfl (lv_room (Nat.le_of_ble_eq_true rfl)) d_RJ_init_85 ⟨Nat.le_of_ble_eq_true rfl, Nat.le_of_ble_eq_true rfl⟩) hP hD hS hA [] [0, 1, 2, 3, 4, 5, 6, 7, 8, 9, 10, 11, 12, 13, 14, 15] rfl rfl (by decide) (by decide) (fun H locs hP hD hS => ?_)
  have hP : va_P D classes [(a_t, .inr (6, [.ref q_1, .ref q_4, .ref q_9, .ref q_13, .ref q_17, .ref q_19, .int (1 : Int32), .int (0 : Int32), .int (0 : Int32)])), (q_1, .inr (0, [.int o_2.1, .ref q_3])), (q_3, .inl ((cA 1), o_2.2.1, .inl o_2.2.2)), (q_4, .inr (5, [.ref q_6, .ref q_8, .int o_5.2.2.2.2.2])), (q_6, .inr (0, [.int o_5.1, .ref q_7])), (q_7, .inl ((cA 1), o_5.2.1, .inl o_5.2.2.1)), (q_8, .inl ((cA 0), o_5.2.2.2.1, .inl o_5.2.2.2.2.1)), (q_9, .inr (2, [.ref q_11, .int o_10.2.2.2.1, .int o_10.2.2.2.2.1, .int o_10.2.2.2.2.2])), (q_11, .inr (0, [.int o_10.1, .ref q_12])), (q_12, .inl ((cA 1), o_10.2.1, .inl o_10.2.2.1)), (q_13, .inr (3, [.ref q_15, .ref q_16, .int o_14.2.2.2.2.1, .int o_14.2.2.2.2.2])), (q_15, .inl ((cA 0), o_14.1, .inl o_14.2.1)), (q_16, .inl ((cA 0), o_14.2.2.1, .inl o_14.2.2.2.1)), (q_17, .inr (1, [.int o_18.1, .int o_18.2.1, .int o_18.2.2])), (q_19, .inr (4, [.ref q_21, .int o_20.2.2])), (q_21, .inl ((cA 1), o_20.1, .inl o_20.2.1))] H := hP
  have hD : va_D A [(a_t, .inr (6, [.ref q_1, .ref q_4, .ref q_9, .ref q_13, .ref q_17, .ref q_19, .int (1 : Int32), .int (0 : Int32), .int (0 : Int32)])), (q_1, .inr (0, [.int o_2.1, .ref q_3])), (q_3, .inl ((cA 1), o_2.2.1, .inl o_2.2.2)), (q_4, .inr (5, [.ref q_6, .ref q_8, .int o_5.2.2.2.2.2])), (q_6, .inr (0, [.int o_5.1, .ref q_7])), (q_7, .inl ((cA 1), o_5.2.1, .inl o_5.2.2.1)), (q_8, .inl ((cA 0), o_5.2.2.2.1, .inl o_5.2.2.2.2.1)), (q_9, .inr (2, [.ref q_11, .int o_10.2.2.2.1, .int o_10.2.2.2.2.1, .int o_10.2.2.2.2.2])), (q_11, .inr (0, [.int o_10.1, .ref q_12])), (q_12, .inl ((cA 1), o_10.2.1, .inl o_10.2.2.1)), (q_13, .inr (3, [.ref q_15, .ref q_16, .int o_14.2.2.2.2.1, .int o_14.2.2.2.2.2])), (q_15, .inl ((cA 0), o_14.1, .inl o_14.2.1)), (q_16, .inl ((cA 0), o_14.2.2.1, .inl o_14.2.2.2.1)), (q_17, .inr (1, [.int o_18.1, .int o_18.2.1, .int o_18.2.2])), (q_19, .inr (4, [.ref q_21, .int o_20.2.2])), (q_21, .inl ((cA 1), o_20.1, .inl o_20.2.1))] := hD
  refine lv_aload_n hx hb d_RJ_init_88 rfl (lv_at hl 0 rfl) ?_
  refine va_get (D := D) (ci := 6) (v := .int (1 : Int32)) (C := R_RJ) (T := F_RJ) (N := 9) hx hb hts (fun w9 h9 => .tail _ (gu_RJ w9 h9)) hown hK hP 0 rfl rfl 6 (by decide) (hts _ (.tail _ gm_162)) (fun _ h9 => h9) rfl d_RJ_init_89 ?_
  refine lv_iconst (v := 1) hx hb d_RJ_init_92 (by decide) ?_
  refine lv_iconst (v := 1) hx hb d_RJ_init_93 (by decide) ?_
  obtain ⟨o_23, ho_23, hf⟩ := hk_bd hf
  refine q_v (wr := [(a_t, .inr (6, [.ref q_1, .ref q_4, .ref q_9, .ref q_13, .ref q_17, .ref q_19, .int (1 : Int32), .int (0 : Int32), .int (0 : Int32)])), (q_4, .inr (5, [.ref q_6, .ref q_8, .int o_5.2.2.2.2.2])), (q_6, .inr (0, [.int o_5.1, .ref q_7])), (q_7, .inl ((cA 1), o_5.2.1, .inl o_5.2.2.1)), (q_8, .inl ((cA 0), o_5.2.2.2.1, .inl o_5.2.2.2.2.1)), (q_9, .inr (2, [.ref q_11, .int o_10.2.2.2.1, .int o_10.2.2.2.2.1, .int o_10.2.2.2.2.2])), (q_11, .inr (0, [.int o_10.1, .ref q_12])), (q_12, .inl ((cA 1), o_10.2.1, .inl o_10.2.2.1)), (q_13, .inr (3, [.ref q_15, .ref q_16, .int o_14.2.2.2.2.1, .int o_14.2.2.2.2.2])), (q_15, .inl ((cA 0), o_14.1, .inl o_14.2.1)), (q_16, .inl ((cA 0), o_14.2.2.1, .inl o_14.2.2.2.1)), (q_17, .inr (1, [.int o_18.1, .int o_18.2.1, .int o_18.2.2])), (q_19, .inr (4, [.ref q_21, .int o_20.2.2])), (q_21, .inl ((cA 1), o_20.1, .inl o_20.2.1))]) (va_runS (As := [.ref q_1, .int o_22, .int (1 : Int32), .int (1 : Int32), .int (1 : Int32)]) (rest := []) ⟨hx, hb, hml, hown, hts⟩ (c_Hd_fill l D cA q_1 q_3 _ o_2.1 o_2.2.1 o_2.2.2 o_22 (1 : Int32) (1 : Int32) (1 : Int32) o_23 ho_23) (va_cwS 5 hts (gd_S gm_286 gm_117 gm_62 gm_115) rfl rfl rfl (by decide +kernel) ⟨Nat.le_of_ble_eq_true rfl, Nat.le_of_ble_eq_true rfl⟩) (q_pS hK hP hD hS hA hE [1, 2] (by decide) rfl) rfl rfl hl.1 rfl (lv_room (Nat.le_of_ble_eq_true rfl)) d_RJ_init_94 ⟨Nat.le_of_ble_eq_true rfl, Nat.le_of_ble_eq_true rfl⟩) hP hD hS hA [1, 2] [0, 3, 4, 5, 6, 7, 8, 9, 10, 11, 12, 13, 14, 15] rfl rfl (by decide) (by decide) (fun H locs hP hD hS => ?_)
  have hP : va_P D classes [(a_t, .inr (6, [.ref q_1, .ref q_4, .ref q_9, .ref q_13, .ref q_17, .ref q_19, .int (1 : Int32), .int (0 : Int32), .int (0 : Int32)])), (q_4, .inr (5, [.ref q_6, .ref q_8, .int o_5.2.2.2.2.2])), (q_6, .inr (0, [.int o_5.1, .ref q_7])), (q_7, .inl ((cA 1), o_5.2.1, .inl o_5.2.2.1)), (q_8, .inl ((cA 0), o_5.2.2.2.1, .inl o_5.2.2.2.2.1)), (q_9, .inr (2, [.ref q_11, .int o_10.2.2.2.1, .int o_10.2.2.2.2.1, .int o_10.2.2.2.2.2])), (q_11, .inr (0, [.int o_10.1, .ref q_12])), (q_12, .inl ((cA 1), o_10.2.1, .inl o_10.2.2.1)), (q_13, .inr (3, [.ref q_15, .ref q_16, .int o_14.2.2.2.2.1, .int o_14.2.2.2.2.2])), (q_15, .inl ((cA 0), o_14.1, .inl o_14.2.1)), (q_16, .inl ((cA 0), o_14.2.2.1, .inl o_14.2.2.2.1)), (q_17, .inr (1, [.int o_18.1, .int o_18.2.1, .int o_18.2.2])), (q_19, .inr (4, [.ref q_21, .int o_20.2.2])), (q_21, .inl ((cA 1), o_20.1, .inl o_20.2.1)), (q_1, .inr (0, [.int o_2.1, .ref q_3])), (q_3, .inl ((cA 1), o_2.2.1, .inl o_23))] H := hP
  have hD : va_D A [(a_t, .inr (6, [.ref q_1, .ref q_4, .ref q_9, .ref q_13, .ref q_17, .ref q_19, .int (1 : Int32), .int (0 : Int32), .int (0 : Int32)])), (q_4, .inr (5, [.ref q_6, .ref q_8, .int o_5.2.2.2.2.2])), (q_6, .inr (0, [.int o_5.1, .ref q_7])), (q_7, .inl ((cA 1), o_5.2.1, .inl o_5.2.2.1)), (q_8, .inl ((cA 0), o_5.2.2.2.1, .inl o_5.2.2.2.2.1)), (q_9, .inr (2, [.ref q_11, .int o_10.2.2.2.1, .int o_10.2.2.2.2.1, .int o_10.2.2.2.2.2])), (q_11, .inr (0, [.int o_10.1, .ref q_12])), (q_12, .inl ((cA 1), o_10.2.1, .inl o_10.2.2.1)), (q_13, .inr (3, [.ref q_15, .ref q_16, .int o_14.2.2.2.2.1, .int o_14.2.2.2.2.2])), (q_15, .inl ((cA 0), o_14.1, .inl o_14.2.1)), (q_16, .inl ((cA 0), o_14.2.2.1, .inl o_14.2.2.2.1)), (q_17, .inr (1, [.int o_18.1, .int o_18.2.1, .int o_18.2.2])), (q_19, .inr (4, [.ref q_21, .int o_20.2.2])), (q_21, .inl ((cA 1), o_20.1, .inl o_20.2.1)), (q_1, .inr (0, [.int o_2.1, .ref q_3])), (q_3, .inl ((cA 1), o_2.2.1, .inl o_23))] := hD
  refine lv_aload_n hx hb d_RJ_init_97 rfl (lv_at hl 0 rfl) ?_
  refine va_get (D := D) (ci := 6) (v := .ref q_17) (C := R_RJ) (T := F_RJ) (N := 9) hx hb hts (fun w9 h9 => .tail _ (gu_RJ w9 h9)) hown hK hP 0 rfl rfl 4 (by decide) (hts _ (.tail _ gm_137)) (fun _ h9 => h9) rfl d_RJ_init_98 ?_
  refine lv_aload_n hx hb d_RJ_init_101 rfl (lv_at hl 0 rfl) ?_
  refine va_get (D := D) (ci := 6) (v := .ref q_1) (C := R_RJ) (T := F_RJ) (N := 9) hx hb hts (fun w9 h9 => .tail _ (gu_RJ w9 h9)) hown hK hP 0 rfl rfl 0 (by decide) (hts _ (.tail _ gm_151)) (fun _ h9 => h9) rfl d_RJ_init_102 ?_
  refine lv_aload_n hx hb d_RJ_init_105 rfl (lv_at hl 0 rfl) ?_
  refine va_get (D := D) (ci := 6) (v := .int (1 : Int32)) (C := R_RJ) (T := F_RJ) (N := 9) hx hb hts (fun w9 h9 => .tail _ (gu_RJ w9 h9)) hown hK hP 0 rfl rfl 6 (by decide) (hts _ (.tail _ gm_162)) (fun _ h9 => h9) rfl d_RJ_init_106 ?_
  obtain ⟨o_24, ho_24, hf⟩ := hk_bd hf
  refine q_i (wr := [(a_t, .inr (6, [.ref q_1, .ref q_4, .ref q_9, .ref q_13, .ref q_17, .ref q_19, .int (1 : Int32), .int (0 : Int32), .int (0 : Int32)])), (q_4, .inr (5, [.ref q_6, .ref q_8, .int o_5.2.2.2.2.2])), (q_6, .inr (0, [.int o_5.1, .ref q_7])), (q_7, .inl ((cA 1), o_5.2.1, .inl o_5.2.2.1)), (q_8, .inl ((cA 0), o_5.2.2.2.1, .inl o_5.2.2.2.2.1)), (q_9, .inr (2, [.ref q_11, .int o_10.2.2.2.1, .int o_10.2.2.2.2.1, .int o_10.2.2.2.2.2])), (q_11, .inr (0, [.int o_10.1, .ref q_12])), (q_12, .inl ((cA 1), o_10.2.1, .inl o_10.2.2.1)), (q_13, .inr (3, [.ref q_15, .ref q_16, .int o_14.2.2.2.2.1, .int o_14.2.2.2.2.2])), (q_15, .inl ((cA 0), o_14.1, .inl o_14.2.1)), (q_16, .inl ((cA 0), o_14.2.2.1, .inl o_14.2.2.2.1)), (q_17, .inr (1, [.int o_18.1, .int o_18.2.1, .int o_18.2.2])), (q_19, .inr (4, [.ref q_21, .int o_20.2.2])), (q_21, .inl ((cA 1), o_20.1, .inl o_20.2.1)), (q_1, .inr (0, [.int o_2.1, .ref q_3])), (q_3, .inl ((cA 1), o_2.2.1, .inl o_23))]) (va_runS (As := [.int (1 : Int32)]) (rest := [.ref q_1, .ref q_17]) ⟨hx, hb, hml, hown, hts⟩ (c_Hd_placeOf l D cA _ (1 : Int32) o_24 ho_24) (va_cwS 1 hts (gd_S gm_285 gm_61 gm_62 gm_59) rfl rfl rfl (by decide +kernel) ⟨Nat.le_of_ble_eq_true rfl, Nat.le_of_ble_eq_true rfl⟩) (q_pS hK hP hD hS hA hE [] (by decide) rfl) rfl rfl hl.1 rfl (lv_room (Nat.le_of_ble_eq_true rfl)) d_RJ_init_109 ⟨Nat.le_of_ble_eq_true rfl, Nat.le_of_ble_eq_true rfl⟩) hP hD hS hA [] [0, 1, 2, 3, 4, 5, 6, 7, 8, 9, 10, 11, 12, 13, 14, 15] rfl rfl (by decide) (by decide) (fun H locs hP hD hS => ?_)
  have hP : va_P D classes [(a_t, .inr (6, [.ref q_1, .ref q_4, .ref q_9, .ref q_13, .ref q_17, .ref q_19, .int (1 : Int32), .int (0 : Int32), .int (0 : Int32)])), (q_4, .inr (5, [.ref q_6, .ref q_8, .int o_5.2.2.2.2.2])), (q_6, .inr (0, [.int o_5.1, .ref q_7])), (q_7, .inl ((cA 1), o_5.2.1, .inl o_5.2.2.1)), (q_8, .inl ((cA 0), o_5.2.2.2.1, .inl o_5.2.2.2.2.1)), (q_9, .inr (2, [.ref q_11, .int o_10.2.2.2.1, .int o_10.2.2.2.2.1, .int o_10.2.2.2.2.2])), (q_11, .inr (0, [.int o_10.1, .ref q_12])), (q_12, .inl ((cA 1), o_10.2.1, .inl o_10.2.2.1)), (q_13, .inr (3, [.ref q_15, .ref q_16, .int o_14.2.2.2.2.1, .int o_14.2.2.2.2.2])), (q_15, .inl ((cA 0), o_14.1, .inl o_14.2.1)), (q_16, .inl ((cA 0), o_14.2.2.1, .inl o_14.2.2.2.1)), (q_17, .inr (1, [.int o_18.1, .int o_18.2.1, .int o_18.2.2])), (q_19, .inr (4, [.ref q_21, .int o_20.2.2])), (q_21, .inl ((cA 1), o_20.1, .inl o_20.2.1)), (q_1, .inr (0, [.int o_2.1, .ref q_3])), (q_3, .inl ((cA 1), o_2.2.1, .inl o_23))] H := hP
  have hD : va_D A [(a_t, .inr (6, [.ref q_1, .ref q_4, .ref q_9, .ref q_13, .ref q_17, .ref q_19, .int (1 : Int32), .int (0 : Int32), .int (0 : Int32)])), (q_4, .inr (5, [.ref q_6, .ref q_8, .int o_5.2.2.2.2.2])), (q_6, .inr (0, [.int o_5.1, .ref q_7])), (q_7, .inl ((cA 1), o_5.2.1, .inl o_5.2.2.1)), (q_8, .inl ((cA 0), o_5.2.2.2.1, .inl o_5.2.2.2.2.1)), (q_9, .inr (2, [.ref q_11, .int o_10.2.2.2.1, .int o_10.2.2.2.2.1, .int o_10.2.2.2.2.2])), (q_11, .inr (0, [.int o_10.1, .ref q_12])), (q_12, .inl ((cA 1), o_10.2.1, .inl o_10.2.2.1)), (q_13, .inr (3, [.ref q_15, .ref q_16, .int o_14.2.2.2.2.1, .int o_14.2.2.2.2.2])), (q_15, .inl ((cA 0), o_14.1, .inl o_14.2.1)), (q_16, .inl ((cA 0), o_14.2.2.1, .inl o_14.2.2.2.1)), (q_17, .inr (1, [.int o_18.1, .int o_18.2.1, .int o_18.2.2])), (q_19, .inr (4, [.ref q_21, .int o_20.2.2])), (q_21, .inl ((cA 1), o_20.1, .inl o_20.2.1)), (q_1, .inr (0, [.int o_2.1, .ref q_3])), (q_3, .inl ((cA 1), o_2.2.1, .inl o_23))] := hD
  obtain ⟨o_25, ho_25, hf⟩ := hk_bd hf
  refine q_v (wr := [(a_t, .inr (6, [.ref q_1, .ref q_4, .ref q_9, .ref q_13, .ref q_17, .ref q_19, .int (1 : Int32), .int (0 : Int32), .int (0 : Int32)])), (q_4, .inr (5, [.ref q_6, .ref q_8, .int o_5.2.2.2.2.2])), (q_6, .inr (0, [.int o_5.1, .ref q_7])), (q_7, .inl ((cA 1), o_5.2.1, .inl o_5.2.2.1)), (q_8, .inl ((cA 0), o_5.2.2.2.1, .inl o_5.2.2.2.2.1)), (q_9, .inr (2, [.ref q_11, .int o_10.2.2.2.1, .int o_10.2.2.2.2.1, .int o_10.2.2.2.2.2])), (q_11, .inr (0, [.int o_10.1, .ref q_12])), (q_12, .inl ((cA 1), o_10.2.1, .inl o_10.2.2.1)), (q_13, .inr (3, [.ref q_15, .ref q_16, .int o_14.2.2.2.2.1, .int o_14.2.2.2.2.2])), (q_15, .inl ((cA 0), o_14.1, .inl o_14.2.1)), (q_16, .inl ((cA 0), o_14.2.2.1, .inl o_14.2.2.2.1)), (q_19, .inr (4, [.ref q_21, .int o_20.2.2])), (q_21, .inl ((cA 1), o_20.1, .inl o_20.2.1))]) (va_runV (As := [.ref q_1, .int o_24]) (rest := []) ⟨hx, hb, hml, hown, hts⟩ (c_Hd_readFrom l D cA q_17 q_1 q_3 _ o_18.1 o_18.2.1 o_18.2.2 o_2.1 o_2.2.1 o_23 o_24 o_25 ho_25) (cwV 2 hts (gd_V gm_153 gm_72 gm_73 gm_62 gm_70) rfl rfl rfl (by decide +kernel) ⟨Nat.le_of_ble_eq_true rfl, Nat.le_of_ble_eq_true rfl⟩) (q_pV hK hP hD hS hA hE [11, 14, 15] (by decide) rfl rfl rfl rfl) rfl rfl hl.1 rfl (lv_room (Nat.le_of_ble_eq_true rfl)) d_RJ_init_112 ⟨Nat.le_of_ble_eq_true rfl, Nat.le_of_ble_eq_true rfl⟩) hP hD hS hA [11, 14, 15] [0, 1, 2, 3, 4, 5, 6, 7, 8, 9, 10, 12, 13] rfl rfl (by decide) (by decide) (fun H locs hP hD hS => ?_)
  have hP : va_P D classes [(a_t, .inr (6, [.ref q_1, .ref q_4, .ref q_9, .ref q_13, .ref q_17, .ref q_19, .int (1 : Int32), .int (0 : Int32), .int (0 : Int32)])), (q_4, .inr (5, [.ref q_6, .ref q_8, .int o_5.2.2.2.2.2])), (q_6, .inr (0, [.int o_5.1, .ref q_7])), (q_7, .inl ((cA 1), o_5.2.1, .inl o_5.2.2.1)), (q_8, .inl ((cA 0), o_5.2.2.2.1, .inl o_5.2.2.2.2.1)), (q_9, .inr (2, [.ref q_11, .int o_10.2.2.2.1, .int o_10.2.2.2.2.1, .int o_10.2.2.2.2.2])), (q_11, .inr (0, [.int o_10.1, .ref q_12])), (q_12, .inl ((cA 1), o_10.2.1, .inl o_10.2.2.1)), (q_13, .inr (3, [.ref q_15, .ref q_16, .int o_14.2.2.2.2.1, .int o_14.2.2.2.2.2])), (q_15, .inl ((cA 0), o_14.1, .inl o_14.2.1)), (q_16, .inl ((cA 0), o_14.2.2.1, .inl o_14.2.2.2.1)), (q_19, .inr (4, [.ref q_21, .int o_20.2.2])), (q_21, .inl ((cA 1), o_20.1, .inl o_20.2.1)), (q_17, .inr (1, [.int o_25.1, .int o_25.2.1, .int o_25.2.2])), (q_1, .inr (0, [.int o_2.1, .ref q_3])), (q_3, .inl ((cA 1), o_2.2.1, .inl o_23))] H := hP
  have hD : va_D A [(a_t, .inr (6, [.ref q_1, .ref q_4, .ref q_9, .ref q_13, .ref q_17, .ref q_19, .int (1 : Int32), .int (0 : Int32), .int (0 : Int32)])), (q_4, .inr (5, [.ref q_6, .ref q_8, .int o_5.2.2.2.2.2])), (q_6, .inr (0, [.int o_5.1, .ref q_7])), (q_7, .inl ((cA 1), o_5.2.1, .inl o_5.2.2.1)), (q_8, .inl ((cA 0), o_5.2.2.2.1, .inl o_5.2.2.2.2.1)), (q_9, .inr (2, [.ref q_11, .int o_10.2.2.2.1, .int o_10.2.2.2.2.1, .int o_10.2.2.2.2.2])), (q_11, .inr (0, [.int o_10.1, .ref q_12])), (q_12, .inl ((cA 1), o_10.2.1, .inl o_10.2.2.1)), (q_13, .inr (3, [.ref q_15, .ref q_16, .int o_14.2.2.2.2.1, .int o_14.2.2.2.2.2])), (q_15, .inl ((cA 0), o_14.1, .inl o_14.2.1)), (q_16, .inl ((cA 0), o_14.2.2.1, .inl o_14.2.2.2.1)), (q_19, .inr (4, [.ref q_21, .int o_20.2.2])), (q_21, .inl ((cA 1), o_20.1, .inl o_20.2.1)), (q_17, .inr (1, [.int o_25.1, .int o_25.2.1, .int o_25.2.2])), (q_1, .inr (0, [.int o_2.1, .ref q_3])), (q_3, .inl ((cA 1), o_2.2.1, .inl o_23))] := hD
  refine lv_aload_n hx hb d_RJ_init_115 rfl (lv_at hl 0 rfl) ?_
  refine va_get (D := D) (ci := 6) (v := .ref q_13) (C := R_RJ) (T := F_RJ) (N := 9) hx hb hts (fun w9 h9 => .tail _ (gu_RJ w9 h9)) hown hK hP 0 rfl rfl 3 (by decide) (hts _ (.tail _ gm_142)) (fun _ h9 => h9) rfl d_RJ_init_116 ?_
  refine lv_aload_n hx hb d_RJ_init_119 rfl (lv_at hl 0 rfl) ?_
  refine va_get (D := D) (ci := 6) (v := .ref q_17) (C := R_RJ) (T := F_RJ) (N := 9) hx hb hts (fun w9 h9 => .tail _ (gu_RJ w9 h9)) hown hK hP 0 rfl rfl 4 (by decide) (hts _ (.tail _ gm_137)) (fun _ h9 => h9) rfl d_RJ_init_120 ?_
  refine va_getN (D := D) (ci := 1) (v := .int o_25.2.2) (C := R_Hd) (T := F_Hd) (N := 3) hx hb hts (fun w9 h9 => .tail _ (gu_Hd w9 h9)) hown hK hP 13 rfl rfl 2 (by decide) (va_Nw.use rfl (hE.1 _ nw_10)) (fun _ h9 => h9) rfl d_RJ_init_123 ?_
  obtain ⟨o_26, ho_26, hf⟩ := hk_bd hf
  refine q_v (wr := [(a_t, .inr (6, [.ref q_1, .ref q_4, .ref q_9, .ref q_13, .ref q_17, .ref q_19, .int (1 : Int32), .int (0 : Int32), .int (0 : Int32)])), (q_4, .inr (5, [.ref q_6, .ref q_8, .int o_5.2.2.2.2.2])), (q_6, .inr (0, [.int o_5.1, .ref q_7])), (q_7, .inl ((cA 1), o_5.2.1, .inl o_5.2.2.1)), (q_8, .inl ((cA 0), o_5.2.2.2.1, .inl o_5.2.2.2.2.1)), (q_9, .inr (2, [.ref q_11, .int o_10.2.2.2.1, .int o_10.2.2.2.2.1, .int o_10.2.2.2.2.2])), (q_11, .inr (0, [.int o_10.1, .ref q_12])), (q_12, .inl ((cA 1), o_10.2.1, .inl o_10.2.2.1)), (q_19, .inr (4, [.ref q_21, .int o_20.2.2])), (q_21, .inl ((cA 1), o_20.1, .inl o_20.2.1)), (q_17, .inr (1, [.int o_25.1, .int o_25.2.1, .int o_25.2.2])), (q_1, .inr (0, [.int o_2.1, .ref q_3])), (q_3, .inl ((cA 1), o_2.2.1, .inl o_23))]) (va_runV (As := [.int o_25.2.2]) (rest := []) ⟨hx, hb, hml, hown, hts⟩ (c_Rc_restart l D cA q_13 q_15 q_16 _ o_14.1 o_14.2.1 o_14.2.2.1 o_14.2.2.2.1 o_14.2.2.2.2.1 o_14.2.2.2.2.2 o_25.2.2 o_26 ho_26) (cwV 1 hts (gd_V gm_192 gm_193 gm_194 gm_39 gm_191) rfl rfl rfl (by decide +kernel) ⟨Nat.le_of_ble_eq_true rfl, Nat.le_of_ble_eq_true rfl⟩) (q_pV hK hP hD hS hA hE [8, 9, 10] (by decide) rfl rfl rfl rfl) rfl rfl hl.1 rfl (lv_room (Nat.le_of_ble_eq_true rfl)) d_RJ_init_126 ⟨Nat.le_of_ble_eq_true rfl, Nat.le_of_ble_eq_true rfl⟩) hP hD hS hA [8, 9, 10] [0, 1, 2, 3, 4, 5, 6, 7, 11, 12, 13, 14, 15] rfl rfl (by decide) (by decide) (fun H locs hP hD hS => ?_)
  have hP : va_P D classes [(a_t, .inr (6, [.ref q_1, .ref q_4, .ref q_9, .ref q_13, .ref q_17, .ref q_19, .int (1 : Int32), .int (0 : Int32), .int (0 : Int32)])), (q_4, .inr (5, [.ref q_6, .ref q_8, .int o_5.2.2.2.2.2])), (q_6, .inr (0, [.int o_5.1, .ref q_7])), (q_7, .inl ((cA 1), o_5.2.1, .inl o_5.2.2.1)), (q_8, .inl ((cA 0), o_5.2.2.2.1, .inl o_5.2.2.2.2.1)), (q_9, .inr (2, [.ref q_11, .int o_10.2.2.2.1, .int o_10.2.2.2.2.1, .int o_10.2.2.2.2.2])), (q_11, .inr (0, [.int o_10.1, .ref q_12])), (q_12, .inl ((cA 1), o_10.2.1, .inl o_10.2.2.1)), (q_19, .inr (4, [.ref q_21, .int o_20.2.2])), (q_21, .inl ((cA 1), o_20.1, .inl o_20.2.1)), (q_17, .inr (1, [.int o_25.1, .int o_25.2.1, .int o_25.2.2])), (q_1, .inr (0, [.int o_2.1, .ref q_3])), (q_3, .inl ((cA 1), o_2.2.1, .inl o_23)), (q_13, .inr (3, [.ref q_15, .ref q_16, .int o_26.1, .int o_26.2])), (q_15, .inl ((cA 0), o_14.1, .inl o_14.2.1)), (q_16, .inl ((cA 0), o_14.2.2.1, .inl o_14.2.2.2.1))] H := hP
  have hD : va_D A [(a_t, .inr (6, [.ref q_1, .ref q_4, .ref q_9, .ref q_13, .ref q_17, .ref q_19, .int (1 : Int32), .int (0 : Int32), .int (0 : Int32)])), (q_4, .inr (5, [.ref q_6, .ref q_8, .int o_5.2.2.2.2.2])), (q_6, .inr (0, [.int o_5.1, .ref q_7])), (q_7, .inl ((cA 1), o_5.2.1, .inl o_5.2.2.1)), (q_8, .inl ((cA 0), o_5.2.2.2.1, .inl o_5.2.2.2.2.1)), (q_9, .inr (2, [.ref q_11, .int o_10.2.2.2.1, .int o_10.2.2.2.2.1, .int o_10.2.2.2.2.2])), (q_11, .inr (0, [.int o_10.1, .ref q_12])), (q_12, .inl ((cA 1), o_10.2.1, .inl o_10.2.2.1)), (q_19, .inr (4, [.ref q_21, .int o_20.2.2])), (q_21, .inl ((cA 1), o_20.1, .inl o_20.2.1)), (q_17, .inr (1, [.int o_25.1, .int o_25.2.1, .int o_25.2.2])), (q_1, .inr (0, [.int o_2.1, .ref q_3])), (q_3, .inl ((cA 1), o_2.2.1, .inl o_23)), (q_13, .inr (3, [.ref q_15, .ref q_16, .int o_26.1, .int o_26.2])), (q_15, .inl ((cA 0), o_14.1, .inl o_14.2.1)), (q_16, .inl ((cA 0), o_14.2.2.1, .inl o_14.2.2.2.1))] := hD
  refine lv_aload_n hx hb d_RJ_init_129 rfl (lv_at hl 0 rfl) ?_
  refine va_get (D := D) (ci := 6) (v := .ref q_9) (C := R_RJ) (T := F_RJ) (N := 9) hx hb hts (fun w9 h9 => .tail _ (gu_RJ w9 h9)) hown hK hP 0 rfl rfl 2 (by decide) (hts _ (.tail _ gm_123)) (fun _ h9 => h9) rfl d_RJ_init_130 ?_
  refine lv_aload_n hx hb d_RJ_init_133 rfl (lv_at hl 0 rfl) ?_
  refine va_get (D := D) (ci := 6) (v := .ref q_17) (C := R_RJ) (T := F_RJ) (N := 9) hx hb hts (fun w9 h9 => .tail _ (gu_RJ w9 h9)) hown hK hP 0 rfl rfl 4 (by decide) (hts _ (.tail _ gm_137)) (fun _ h9 => h9) rfl d_RJ_init_134 ?_
  refine va_getN (D := D) (ci := 1) (v := .int o_25.2.1) (C := R_Hd) (T := F_Hd) (N := 3) hx hb hts (fun w9 h9 => .tail _ (gu_Hd w9 h9)) hown hK hP 10 rfl rfl 1 (by decide) (va_Nw.use rfl (hE.1 _ nw_4)) (fun _ h9 => h9) rfl d_RJ_init_137 ?_
  obtain ⟨o_27, ho_27, hf⟩ := hk_bd hf
  refine q_v (wr := [(a_t, .inr (6, [.ref q_1, .ref q_4, .ref q_9, .ref q_13, .ref q_17, .ref q_19, .int (1 : Int32), .int (0 : Int32), .int (0 : Int32)])), (q_4, .inr (5, [.ref q_6, .ref q_8, .int o_5.2.2.2.2.2])), (q_6, .inr (0, [.int o_5.1, .ref q_7])), (q_7, .inl ((cA 1), o_5.2.1, .inl o_5.2.2.1)), (q_8, .inl ((cA 0), o_5.2.2.2.1, .inl o_5.2.2.2.2.1)), (q_19, .inr (4, [.ref q_21, .int o_20.2.2])), (q_21, .inl ((cA 1), o_20.1, .inl o_20.2.1)), (q_17, .inr (1, [.int o_25.1, .int o_25.2.1, .int o_25.2.2])), (q_1, .inr (0, [.int o_2.1, .ref q_3])), (q_3, .inl ((cA 1), o_2.2.1, .inl o_23)), (q_13, .inr (3, [.ref q_15, .ref q_16, .int o_26.1, .int o_26.2])), (q_15, .inl ((cA 0), o_14.1, .inl o_14.2.1)), (q_16, .inl ((cA 0), o_14.2.2.1, .inl o_14.2.2.2.1))]) (va_runV (As := [.int o_25.2.1]) (rest := []) ⟨hx, hb, hml, hown, hts⟩ (c_Pg_restart l D cA q_9 q_11 q_12 _ o_10.1 o_10.2.1 o_10.2.2.1 o_10.2.2.2.1 o_10.2.2.2.2.1 o_10.2.2.2.2.2 o_25.2.1 o_27 ho_27) (cwV 1 hts (gd_V gm_196 gm_197 gm_198 gm_78 gm_195) rfl rfl rfl (by decide +kernel) ⟨Nat.le_of_ble_eq_true rfl, Nat.le_of_ble_eq_true rfl⟩) (q_pV hK hP hD hS hA hE [5, 6, 7] (by decide) rfl rfl rfl rfl) rfl rfl hl.1 rfl (lv_room (Nat.le_of_ble_eq_true rfl)) d_RJ_init_140 ⟨Nat.le_of_ble_eq_true rfl, Nat.le_of_ble_eq_true rfl⟩) hP hD hS hA [5, 6, 7] [0, 1, 2, 3, 4, 8, 9, 10, 11, 12, 13, 14, 15] rfl rfl (by decide) (by decide) (fun H locs hP hD hS => ?_)
  have hP : va_P D classes [(a_t, .inr (6, [.ref q_1, .ref q_4, .ref q_9, .ref q_13, .ref q_17, .ref q_19, .int (1 : Int32), .int (0 : Int32), .int (0 : Int32)])), (q_4, .inr (5, [.ref q_6, .ref q_8, .int o_5.2.2.2.2.2])), (q_6, .inr (0, [.int o_5.1, .ref q_7])), (q_7, .inl ((cA 1), o_5.2.1, .inl o_5.2.2.1)), (q_8, .inl ((cA 0), o_5.2.2.2.1, .inl o_5.2.2.2.2.1)), (q_19, .inr (4, [.ref q_21, .int o_20.2.2])), (q_21, .inl ((cA 1), o_20.1, .inl o_20.2.1)), (q_17, .inr (1, [.int o_25.1, .int o_25.2.1, .int o_25.2.2])), (q_1, .inr (0, [.int o_2.1, .ref q_3])), (q_3, .inl ((cA 1), o_2.2.1, .inl o_23)), (q_13, .inr (3, [.ref q_15, .ref q_16, .int o_26.1, .int o_26.2])), (q_15, .inl ((cA 0), o_14.1, .inl o_14.2.1)), (q_16, .inl ((cA 0), o_14.2.2.1, .inl o_14.2.2.2.1)), (q_9, .inr (2, [.ref q_11, .int o_27.1, .int o_27.2.1, .int o_27.2.2])), (q_11, .inr (0, [.int o_10.1, .ref q_12])), (q_12, .inl ((cA 1), o_10.2.1, .inl o_10.2.2.1))] H := hP
  have hD : va_D A [(a_t, .inr (6, [.ref q_1, .ref q_4, .ref q_9, .ref q_13, .ref q_17, .ref q_19, .int (1 : Int32), .int (0 : Int32), .int (0 : Int32)])), (q_4, .inr (5, [.ref q_6, .ref q_8, .int o_5.2.2.2.2.2])), (q_6, .inr (0, [.int o_5.1, .ref q_7])), (q_7, .inl ((cA 1), o_5.2.1, .inl o_5.2.2.1)), (q_8, .inl ((cA 0), o_5.2.2.2.1, .inl o_5.2.2.2.2.1)), (q_19, .inr (4, [.ref q_21, .int o_20.2.2])), (q_21, .inl ((cA 1), o_20.1, .inl o_20.2.1)), (q_17, .inr (1, [.int o_25.1, .int o_25.2.1, .int o_25.2.2])), (q_1, .inr (0, [.int o_2.1, .ref q_3])), (q_3, .inl ((cA 1), o_2.2.1, .inl o_23)), (q_13, .inr (3, [.ref q_15, .ref q_16, .int o_26.1, .int o_26.2])), (q_15, .inl ((cA 0), o_14.1, .inl o_14.2.1)), (q_16, .inl ((cA 0), o_14.2.2.1, .inl o_14.2.2.2.1)), (q_9, .inr (2, [.ref q_11, .int o_27.1, .int o_27.2.1, .int o_27.2.2])), (q_11, .inr (0, [.int o_10.1, .ref q_12])), (q_12, .inl ((cA 1), o_10.2.1, .inl o_10.2.2.1))] := hD
  refine lv_aload_n hx hb d_RJ_init_143 rfl (lv_at hl 0 rfl) ?_
  refine va_get (D := D) (ci := 6) (v := .ref q_9) (C := R_RJ) (T := F_RJ) (N := 9) hx hb hts (fun w9 h9 => .tail _ (gu_RJ w9 h9)) hown hK hP 0 rfl rfl 2 (by decide) (hts _ (.tail _ gm_123)) (fun _ h9 => h9) rfl d_RJ_init_144 ?_
  refine lv_aload_n hx hb d_RJ_init_147 rfl (lv_at hl 0 rfl) ?_
  refine va_get (D := D) (ci := 6) (v := .ref q_13) (C := R_RJ) (T := F_RJ) (N := 9) hx hb hts (fun w9 h9 => .tail _ (gu_RJ w9 h9)) hown hK hP 0 rfl rfl 3 (by decide) (hts _ (.tail _ gm_142)) (fun _ h9 => h9) rfl d_RJ_init_148 ?_
  refine va_getN (D := D) (ci := 3) (v := .int o_26.2) (C := R_Rc) (T := F_Rc) (N := 4) hx hb hts (fun w9 h9 => .tail _ (gu_Rc w9 h9)) hown hK hP 10 rfl rfl 3 (by decide) (va_Nw.use rfl (hE.1 _ nw_5)) (fun _ h9 => h9) rfl d_RJ_init_151 ?_
  obtain ⟨o_28, ho_28, hf⟩ := hk_bd hf
  refine q_v (wr := [(a_t, .inr (6, [.ref q_1, .ref q_4, .ref q_9, .ref q_13, .ref q_17, .ref q_19, .int (1 : Int32), .int (0 : Int32), .int (0 : Int32)])), (q_4, .inr (5, [.ref q_6, .ref q_8, .int o_5.2.2.2.2.2])), (q_6, .inr (0, [.int o_5.1, .ref q_7])), (q_7, .inl ((cA 1), o_5.2.1, .inl o_5.2.2.1)), (q_8, .inl ((cA 0), o_5.2.2.2.1, .inl o_5.2.2.2.2.1)), (q_19, .inr (4, [.ref q_21, .int o_20.2.2])), (q_21, .inl ((cA 1), o_20.1, .inl o_20.2.1)), (q_17, .inr (1, [.int o_25.1, .int o_25.2.1, .int o_25.2.2])), (q_1, .inr (0, [.int o_2.1, .ref q_3])), (q_3, .inl ((cA 1), o_2.2.1, .inl o_23)), (q_13, .inr (3, [.ref q_15, .ref q_16, .int o_26.1, .int o_26.2])), (q_15, .inl ((cA 0), o_14.1, .inl o_14.2.1)), (q_16, .inl ((cA 0), o_14.2.2.1, .inl o_14.2.2.2.1))]) (va_runV (As := [.int o_26.2]) (rest := []) ⟨hx, hb, hml, hown, hts⟩ (c_Pg_openNext l D cA q_9 q_11 q_12 _ o_10.1 o_10.2.1 o_10.2.2.1 o_27.1 o_27.2.1 o_27.2.2 o_26.2 o_28 ho_28) (cwV 1 hts (gd_V gm_144 gm_145 gm_146 gm_78 gm_143) rfl rfl rfl (by decide +kernel) ⟨Nat.le_of_ble_eq_true rfl, Nat.le_of_ble_eq_true rfl⟩) (q_pV hK hP hD hS hA hE [13, 14, 15] (by decide) rfl rfl rfl rfl) rfl rfl hl.1 rfl (lv_room (Nat.le_of_ble_eq_true rfl)) d_RJ_init_154 ⟨Nat.le_of_ble_eq_true rfl, Nat.le_of_ble_eq_true rfl⟩) hP hD hS hA [13, 14, 15] [0, 1, 2, 3, 4, 5, 6, 7, 8, 9, 10, 11, 12] rfl rfl (by decide) (by decide) (fun H locs hP hD hS => ?_)
  have hP : va_P D classes [(a_t, .inr (6, [.ref q_1, .ref q_4, .ref q_9, .ref q_13, .ref q_17, .ref q_19, .int (1 : Int32), .int (0 : Int32), .int (0 : Int32)])), (q_4, .inr (5, [.ref q_6, .ref q_8, .int o_5.2.2.2.2.2])), (q_6, .inr (0, [.int o_5.1, .ref q_7])), (q_7, .inl ((cA 1), o_5.2.1, .inl o_5.2.2.1)), (q_8, .inl ((cA 0), o_5.2.2.2.1, .inl o_5.2.2.2.2.1)), (q_19, .inr (4, [.ref q_21, .int o_20.2.2])), (q_21, .inl ((cA 1), o_20.1, .inl o_20.2.1)), (q_17, .inr (1, [.int o_25.1, .int o_25.2.1, .int o_25.2.2])), (q_1, .inr (0, [.int o_2.1, .ref q_3])), (q_3, .inl ((cA 1), o_2.2.1, .inl o_23)), (q_13, .inr (3, [.ref q_15, .ref q_16, .int o_26.1, .int o_26.2])), (q_15, .inl ((cA 0), o_14.1, .inl o_14.2.1)), (q_16, .inl ((cA 0), o_14.2.2.1, .inl o_14.2.2.2.1)), (q_9, .inr (2, [.ref q_11, .int o_28.2.1, .int o_28.2.2.1, .int o_28.2.2.2])), (q_11, .inr (0, [.int o_10.1, .ref q_12])), (q_12, .inl ((cA 1), o_10.2.1, .inl o_28.1))] H := hP
  have hD : va_D A [(a_t, .inr (6, [.ref q_1, .ref q_4, .ref q_9, .ref q_13, .ref q_17, .ref q_19, .int (1 : Int32), .int (0 : Int32), .int (0 : Int32)])), (q_4, .inr (5, [.ref q_6, .ref q_8, .int o_5.2.2.2.2.2])), (q_6, .inr (0, [.int o_5.1, .ref q_7])), (q_7, .inl ((cA 1), o_5.2.1, .inl o_5.2.2.1)), (q_8, .inl ((cA 0), o_5.2.2.2.1, .inl o_5.2.2.2.2.1)), (q_19, .inr (4, [.ref q_21, .int o_20.2.2])), (q_21, .inl ((cA 1), o_20.1, .inl o_20.2.1)), (q_17, .inr (1, [.int o_25.1, .int o_25.2.1, .int o_25.2.2])), (q_1, .inr (0, [.int o_2.1, .ref q_3])), (q_3, .inl ((cA 1), o_2.2.1, .inl o_23)), (q_13, .inr (3, [.ref q_15, .ref q_16, .int o_26.1, .int o_26.2])), (q_15, .inl ((cA 0), o_14.1, .inl o_14.2.1)), (q_16, .inl ((cA 0), o_14.2.2.1, .inl o_14.2.2.2.1)), (q_9, .inr (2, [.ref q_11, .int o_28.2.1, .int o_28.2.2.1, .int o_28.2.2.2])), (q_11, .inr (0, [.int o_10.1, .ref q_12])), (q_12, .inl ((cA 1), o_10.2.1, .inl o_28.1))] := hD
  have ho9 := Option.some.inj hf
  subst ho9
  have hP9 := hP.sub (ws' := [(a_t, .inr (6, [.ref q_1, .ref q_4, .ref q_9, .ref q_13, .ref q_17, .ref q_19, .int (1 : Int32), .int (0 : Int32), .int (0 : Int32)])), (q_1, .inr (0, [.int o_2.1, .ref q_3])), (q_3, .inl ((cA 1), o_2.2.1, .inl o_23)), (q_4, .inr (5, [.ref q_6, .ref q_8, .int o_5.2.2.2.2.2])), (q_6, .inr (0, [.int o_5.1, .ref q_7])), (q_7, .inl ((cA 1), o_5.2.1, .inl o_5.2.2.1)), (q_8, .inl ((cA 0), o_5.2.2.2.1, .inl o_5.2.2.2.2.1)), (q_9, .inr (2, [.ref q_11, .int o_28.2.1, .int o_28.2.2.1, .int o_28.2.2.2])), (q_11, .inr (0, [.int o_10.1, .ref q_12])), (q_12, .inl ((cA 1), o_10.2.1, .inl o_28.1)), (q_13, .inr (3, [.ref q_15, .ref q_16, .int o_26.1, .int o_26.2])), (q_15, .inl ((cA 0), o_14.1, .inl o_14.2.1)), (q_16, .inl ((cA 0), o_14.2.2.1, .inl o_14.2.2.2.1)), (q_17, .inr (1, [.int o_25.1, .int o_25.2.1, .int o_25.2.2])), (q_19, .inr (4, [.ref q_21, .int o_20.2.2])), (q_21, .inl ((cA 1), o_20.1, .inl o_20.2.1))]) [0, 8, 9, 1, 2, 3, 4, 13, 14, 15, 10, 11, 12, 7, 5, 6] rfl
  have hD9 := hD.sub (ws' := [(a_t, .inr (6, [.ref q_1, .ref q_4, .ref q_9, .ref q_13, .ref q_17, .ref q_19, .int (1 : Int32), .int (0 : Int32), .int (0 : Int32)])), (q_1, .inr (0, [.int o_2.1, .ref q_3])), (q_3, .inl ((cA 1), o_2.2.1, .inl o_23)), (q_4, .inr (5, [.ref q_6, .ref q_8, .int o_5.2.2.2.2.2])), (q_6, .inr (0, [.int o_5.1, .ref q_7])), (q_7, .inl ((cA 1), o_5.2.1, .inl o_5.2.2.1)), (q_8, .inl ((cA 0), o_5.2.2.2.1, .inl o_5.2.2.2.2.1)), (q_9, .inr (2, [.ref q_11, .int o_28.2.1, .int o_28.2.2.1, .int o_28.2.2.2])), (q_11, .inr (0, [.int o_10.1, .ref q_12])), (q_12, .inl ((cA 1), o_10.2.1, .inl o_28.1)), (q_13, .inr (3, [.ref q_15, .ref q_16, .int o_26.1, .int o_26.2])), (q_15, .inl ((cA 0), o_14.1, .inl o_14.2.1)), (q_16, .inl ((cA 0), o_14.2.2.1, .inl o_14.2.2.2.1)), (q_17, .inr (1, [.int o_25.1, .int o_25.2.1, .int o_25.2.2])), (q_19, .inr (4, [.ref q_21, .int o_20.2.2])), (q_21, .inl ((cA 1), o_20.1, .inl o_20.2.1))]) [0, 8, 9, 1, 2, 3, 4, 13, 14, 15, 10, 11, 12, 7, 5, 6] (by decide) rfl
  exact W.vret hx hb hr (fun t ht hW => ⟨⟨(), rfl, trivial, (q_1, q_3, q_4, q_6, q_7, q_8, q_9, q_11, q_12, q_13, q_15, q_16, q_17, q_19, q_21), by rw [ht]; exact hP9, va_K.moved hW.alike hK, hD9⟩, hS.F ht⟩) hS.2.2 d_RJ_init_157
