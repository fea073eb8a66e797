theorem gm_293 : (.fieldLink R_Md 53 "RoundJournalModel" "thrown" "I" : Cond) ∈ gw := gw_in (i := 603) (by decide +kernel) rfl
theorem gm_294 : (.constant R_Md 56 (-306674912 : Int32) : Cond) ∈ gw := gw_in (i := 585) (by decide +kernel) rfl
theorem gm_295 : (.fieldLink R_Md 41 "RoundJournalModel" "waitByte" "[I" : Cond) ∈ gw := gw_in (i := 612) (by decide +kernel) rfl
theorem gm_296 : (.fieldLink R_Md 57 "RoundJournalModel" "waiting" "I" : Cond) ∈ gw := gw_in (i := 614) (by decide +kernel) rfl
theorem gm_297 : (.fieldLink R_Md 38 "RoundJournalModel" "waitBlock" "[I" : Cond) ∈ gw := gw_in (i := 611) (by decide +kernel) rfl
theorem gm_298 : (.fieldLink R_Md 44 "RoundJournalModel" "waitOldest" "[I" : Cond) ∈ gw := gw_in (i := 613) (by decide +kernel) rfl
theorem gm_299 : (.fieldLink R_Md 23 "RoundJournalModel" "open" "I" : Cond) ∈ gw := gw_in (i := 604) (by decide +kernel) rfl
theorem gm_300 : (.fieldLink R_Md 29 "RoundJournalModel" "nextPage" "I" : Cond) ∈ gw := gw_in (i := 608) (by decide +kernel) rfl
theorem gm_301 : (.fieldLink R_Md 108 "RoundJournalModel" "tapeLong" "I" : Cond) ∈ gw := gw_in (i := 596) (by decide +kernel) rfl
theorem gm_302 : (.fieldLink R_Md 13 "RoundJournalModel" "tape" "[I" : Cond) ∈ gw := gw_in (i := 595) (by decide +kernel) rfl
theorem gm_303 : (.constantLong R_Md 111 (255 : Int64) : Cond) ∈ gw := gw_in (i := 666) (by decide +kernel) rfl
theorem gm_304 : (.fieldLink R_Md 35 "RoundJournalModel" "oldest" "I" : Cond) ∈ gw := gw_in (i := 610) (by decide +kernel) rfl
theorem gm_305 : (.fieldLink R_Md 7 "RoundJournalModel" "disk" "[I" : Cond) ∈ gw := gw_in (i := 594) (by decide +kernel) rfl
theorem gm_306 : (.code y_Md_comesFirst b_Md_comesFirst 3 none : Cond) ∈ gw := gw_in (i := 593) (by decide +kernel) rfl
theorem gm_307 : (.methodLink R_Md 126 y_Md_comesFirst : Cond) ∈ gw := gw_in (i := 590) (by decide +kernel) rfl
theorem gm_308 : (.instanceMethod y_Md_comesFirst : Cond) ∈ gw := gw_in (i := 592) (by decide +kernel) rfl
theorem gm_309 : (.selects R_Md y_Md_comesFirst y_Md_comesFirst : Cond) ∈ gw := gw_in (i := 13) (by decide +kernel) rfl
theorem gm_310 : (.initialized R_Md : Cond) ∈ gw := gw_in (i := 33) (by decide +kernel) rfl
theorem gm_311 : (.code y_Md_word b_Md_word 2 (some .int) : Cond) ∈ gw := gw_in (i := 735) (by decide +kernel) rfl
theorem gm_312 : (.methodLink R_Md 130 y_Md_word : Cond) ∈ gw := gw_in (i := 733) (by decide +kernel) rfl
theorem gm_313 : (.static y_Md_word : Cond) ∈ gw := gw_in (i := 734) (by decide +kernel) rfl
theorem gm_314 : (.code y_Md_check b_Md_check 5 (some .int) : Cond) ∈ gw := gw_in (i := 584) (by decide +kernel) rfl
theorem gm_315 : (.methodLink R_Md 86 y_Md_check : Cond) ∈ gw := gw_in (i := 582) (by decide +kernel) rfl
theorem gm_316 : (.static y_Md_check : Cond) ∈ gw := gw_in (i := 583) (by decide +kernel) rfl
theorem gm_317 : (.constant R_Md 133 (1000000 : Int32) : Cond) ∈ gw := gw_in (i := 743) (by decide +kernel) rfl
theorem gm_318 : (.code y_Md_isWhole b_Md_isWhole 2 (some .boolean) : Cond) ∈ gw := gw_in (i := 739) (by decide +kernel) rfl
theorem gm_319 : (.methodLink R_Md 134 y_Md_isWhole : Cond) ∈ gw := gw_in (i := 736) (by decide +kernel) rfl
theorem gm_320 : (.instanceMethod y_Md_isWhole : Cond) ∈ gw := gw_in (i := 738) (by decide +kernel) rfl
theorem gm_321 : (.selects R_Md y_Md_isWhole y_Md_isWhole : Cond) ∈ gw := gw_in (i := 20) (by decide +kernel) rfl
theorem gm_322 : (.code y_Md_isNumber b_Md_isNumber 1 (some .boolean) : Cond) ∈ gw := gw_in (i := 742) (by decide +kernel) rfl
theorem gm_323 : (.methodLink R_Md 138 y_Md_isNumber : Cond) ∈ gw := gw_in (i := 740) (by decide +kernel) rfl
theorem gm_324 : (.static y_Md_isNumber : Cond) ∈ gw := gw_in (i := 741) (by decide +kernel) rfl
theorem gm_325 : (.fieldLink R_Md 32 "RoundJournalModel" "turn" "I" : Cond) ∈ gw := gw_in (i := 609) (by decide +kernel) rfl
theorem gm_326 : (.fieldLink R_Md 16 "RoundJournalModel" "kept" "I" : Cond) ∈ gw := gw_in (i := 599) (by decide +kernel) rfl
theorem gm_327 : (.code y_Md_isHead b_Md_isHead 3 (some .boolean) : Cond) ∈ gw := gw_in (i := 732) (by decide +kernel) rfl
theorem gm_328 : (.methodLink R_Md 141 y_Md_isHead : Cond) ∈ gw := gw_in (i := 729) (by decide +kernel) rfl
theorem gm_329 : (.instanceMethod y_Md_isHead : Cond) ∈ gw := gw_in (i := 731) (by decide +kernel) rfl
theorem gm_330 : (.selects R_Md y_Md_isHead y_Md_isHead : Cond) ∈ gw := gw_in (i := 19) (by decide +kernel) rfl
theorem d_Md_thrown_0 : decode b_Md_thrown 0 = .ok (.aload_n 0, 1) := by decide +kernel
theorem d_Md_thrown_1 : decode b_Md_thrown 1 = .ok (.getfield 53, 3) := by decide +kernel
theorem d_Md_thrown_4 : decode b_Md_thrown 4 = .ok (.ireturn, 1) := by decide +kernel
abbrev wd_Md_thrown : List Cond := .code y_Md_thrown b_Md_thrown 1 (some .int) :: gw
def f_Md_thrown (n_t_disk : Nat) (t_disk : Nat → Int32) (n_t_tape : Nat) (t_tape : Nat → Int32) (t_tapeLong : Int32) (t_kept : Int32) (t_next : Int32) (t_come : Int32) (t_crashes : Int32) (t_thrown : Int32) (t_open : Int32) (t_openFirst : Int32) (t_openMany : Int32) (t_openBytes : Int32) (t_nextPage : Int32) (t_turn : Int32) (t_oldest : Int32) (n_t_waitBlock : Nat) (t_waitBlock : Nat → Int32) (n_t_waitByte : Nat) (t_waitByte : Nat → Int32) (n_t_waitOldest : Nat) (t_waitOldest : Nat → Int32) (t_waiting : Int32) : Option (Int32) :=
  some t_thrown
set_option maxHeartbeats 4000000 in
set_option maxRecDepth 100000 in
theorem c_Md_thrown (l : Launch) (D : va_G) (cA : Nat → ClassId) (a_t a_t_disk a_t_tape a_t_waitBlock a_t_waitByte a_t_waitOldest : Nat) (t_first t_last : Value) (sz : Nat) (n_t_disk : Nat) (t_disk : Nat → Int32) (n_t_tape : Nat) (t_tape : Nat → Int32) (t_tapeLong : Int32) (t_kept : Int32) (t_next : Int32) (t_come : Int32) (t_crashes : Int32) (t_thrown : Int32) (t_open : Int32) (t_openFirst : Int32) (t_openMany : Int32) (t_openBytes : Int32) (t_nextPage : Int32) (t_turn : Int32) (t_oldest : Int32) (n_t_waitBlock : Nat) (t_waitBlock : Nat → Int32) (n_t_waitByte : Nat) (t_waitByte : Nat → Int32) (n_t_waitOldest : Nat) (t_waitOldest : Nat → Int32) (t_waiting : Int32) (o : Int32) (hf : f_Md_thrown n_t_disk t_disk n_t_tape t_tape t_tapeLong t_kept t_next t_come t_crashes t_thrown t_open t_openFirst t_openMany t_openBytes t_nextPage t_turn t_oldest n_t_waitBlock t_waitBlock n_t_waitByte t_waitByte n_t_waitOldest t_waitOldest t_waiting = some o) : Met l y_Md_thrown wd_Md_thrown ({ frames := 0, cells := 0, slots := 0, locals := 0 }) (va_Pc [.ref a_t] (aP D cA [(a_t, .inr (8, [.ref a_t_disk, .ref a_t_tape, .int t_tapeLong, t_first, t_last, .int t_kept, .int t_next, .int t_come, .int t_crashes, .int t_thrown, .int t_open, .int t_openFirst, .int t_openMany, .int t_openBytes, .int t_nextPage, .int t_turn, .int t_oldest, .ref a_t_waitBlock, .ref a_t_waitByte, .ref a_t_waitOldest, .int t_waiting])), (a_t_disk, .inl ((cA 0), n_t_disk, .inl t_disk)), (a_t_tape, .inl ((cA 0), n_t_tape, .inl t_tape)), (a_t_waitBlock, .inl ((cA 0), n_t_waitBlock, .inl t_waitBlock)), (a_t_waitByte, .inl ((cA 0), n_t_waitByte, .inl t_waitByte)), (a_t_waitOldest, .inl ((cA 0), n_t_waitOldest, .inl t_waitOldest))] sz)) (va_Qi (fun r9 (_ : Unit) => r9 = o) (fun _ => aR D cA (va_A [(a_t, .inr (8, [.ref a_t_disk, .ref a_t_tape, .int t_tapeLong, t_first, t_last, .int t_kept, .int t_next, .int t_come, .int t_crashes, .int t_thrown, .int t_open, .int t_openFirst, .int t_openMany, .int t_openBytes, .int t_nextPage, .int t_turn, .int t_oldest, .ref a_t_waitBlock, .ref a_t_waitByte, .ref a_t_waitOldest, .int t_waiting])), (a_t_disk, .inl ((cA 0), n_t_disk, .inl t_disk)), (a_t_tape, .inl ((cA 0), n_t_tape, .inl t_tape)), (a_t_waitBlock, .inl ((cA 0), n_t_waitBlock, .inl t_waitBlock)), (a_t_waitByte, .inl ((cA 0), n_t_waitByte, .inl t_waitByte)), (a_t_waitOldest, .inl ((cA 0), n_t_waitOldest, .inl t_waitOldest))] sz) [(a_t, .inr (8, [.ref a_t_disk, .ref a_t_tape, .int t_tapeLong, t_first, t_last, .int t_kept, .int t_next, .int t_come, .int t_crashes, .int t_thrown, .int t_open, .int t_openFirst, .int t_openMany, .int t_openBytes, .int t_nextPage, .int t_turn, .int t_oldest, .ref a_t_waitBlock, .ref a_t_waitByte, .ref a_t_waitOldest, .int t_waiting])), (a_t_disk, .inl ((cA 0), n_t_disk, .inl t_disk)), (a_t_tape, .inl ((cA 0), n_t_tape, .inl t_tape)), (a_t_waitBlock, .inl ((cA 0), n_t_waitBlock, .inl t_waitBlock)), (a_t_waitByte, .inl ((cA 0), n_t_waitByte, .inl t_waitByte)), (a_t_waitOldest, .inl ((cA 0), n_t_waitOldest, .inl t_waitOldest))]) (va_A [(a_t, .inr (8, [.ref a_t_disk, .ref a_t_tape, .int t_tapeLong, t_first, t_last, .int t_kept, .int t_next, .int t_come, .int t_crashes, .int t_thrown, .int t_open, .int t_openFirst, .int t_openMany, .int t_openBytes, .int t_nextPage, .int t_turn, .int t_oldest, .ref a_t_waitBlock, .ref a_t_waitByte, .ref a_t_waitOldest, .int t_waiting])), (a_t_disk, .inl ((cA 0), n_t_disk, .inl t_disk)), (a_t_tape, .inl ((cA 0), n_t_tape, .inl t_tape)), (a_t_waitBlock, .inl ((cA 0), n_t_waitBlock, .inl t_waitBlock)), (a_t_waitByte, .inl ((cA 0), n_t_waitByte, .inl t_waitByte)), (a_t_waitOldest, .inl ((cA 0), n_t_waitOldest, .inl t_waitOldest))] sz)) 0 0 (va_A [(a_t, .inr (8, [.ref a_t_disk, .ref a_t_tape, .int t_tapeLong, t_first, t_last, .int t_kept, .int t_next, .int t_come, .int t_crashes, .int t_thrown, .int t_open, .int t_openFirst, .int t_openMany, .int t_openBytes, .int t_nextPage, .int t_turn, .int t_oldest, .ref a_t_waitBlock, .ref a_t_waitByte, .ref a_t_waitOldest, .int t_waiting])), (a_t_disk, .inl ((cA 0), n_t_disk, .inl t_disk)), (a_t_tape, .inl ((cA 0), n_t_tape, .inl t_tape)), (a_t_waitBlock, .inl ((cA 0), n_t_waitBlock, .inl t_waitBlock)), (a_t_waitByte, .inl ((cA 0), n_t_waitByte, .inl t_waitByte)), (a_t_waitOldest, .inl ((cA 0), n_t_waitOldest, .inl t_waitOldest))] sz) := by
  refine Met.ofW (cc := b_Md_thrown) (maxL := 1) (ret := (some .int)) (by decide +kernel) rfl ?_
  intro p e s m args below meth c s₁ B hml hv
  obtain ⟨rfl, hsz, hP, hK, hD0, hE⟩ := hv
  have hx := B.exec
  have hb := B.bytes
  have hr := B.returns
  have hts := atoms_spec (ws := wd_Md_thrown) B.pre
  have hown : s.vm.findClass R_Md = some m.cls := findClass_of_methodNamed B.named
  have hlocks := B.notSynchronized
  subst hsz
  have hD := hD0.self (sz := s.heap.size)
  generalize hAe : va_A [(a_t, .inr (8, [.ref a_t_disk, .ref a_t_tape, .int t_tapeLong, t_first, t_last, .int t_kept, .int t_next, .int t_come, .int t_crashes, .int t_thrown, .int t_open, .int t_openFirst, .int t_openMany, .int t_openBytes, .int t_nextPage, .int t_turn, .int t_oldest, .ref a_t_waitBlock, .ref a_t_waitByte, .ref a_t_waitOldest, .int t_waiting])), (a_t_disk, .inl ((cA 0), n_t_disk, .inl t_disk)), (a_t_tape, .inl ((cA 0), n_t_tape, .inl t_tape)), (a_t_waitBlock, .inl ((cA 0), n_t_waitBlock, .inl t_waitBlock)), (a_t_waitByte, .inl ((cA 0), n_t_waitByte, .inl t_waitByte)), (a_t_waitOldest, .inl ((cA 0), n_t_waitOldest, .inl t_waitOldest))] s.heap.size = A at hD hE ⊢
  have hA : ∀ q : Nat, s.heap.size ≤ q → A q := fun q h => by rw [← hAe]; exact Or.inr h
  have hS : va_S A s.heap s.heap [] := va_S.rf
  have hl := lv_entry [.ref a_t] (n := 1) (Nat.le_of_ble_eq_true rfl)
  rw [lg_entry_eq]
  generalize (lg_sl [.ref a_t] ++ List.replicate (1 - (lg_sl [.ref a_t]).length) Slot.unset).toArray = ls at hl ⊢
  have hl : lv_has ls 1 [(0, .ref a_t)] := hl
  unfold f_Md_thrown at hf
  refine lv_aload_n hx hb d_Md_thrown_0 rfl (lv_at hl 0 rfl) ?_
  refine va_get (D := D) (ci := 8) (v := .int t_thrown) (C := R_Md) (T := F_Md) (N := 21) hx hb hts (fun w9 h9 => .tail _ (gu_Md w9 h9)) hown hK hP 0 rfl rfl 9 (by decide) (hts _ (.tail _ gm_293)) (fun _ h9 => h9) rfl d_Md_thrown_1 ?_
  have ho9 := Option.some.inj hf
  subst ho9
  have hP9 := hP.sub (ws' := [(a_t, .inr (8, [.ref a_t_disk, .ref a_t_tape, .int t_tapeLong, t_first, t_last, .int t_kept, .int t_next, .int t_come, .int t_crashes, .int t_thrown, .int t_open, .int t_openFirst, .int t_openMany, .int t_openBytes, .int t_nextPage, .int t_turn, .int t_oldest, .ref a_t_waitBlock, .ref a_t_waitByte, .ref a_t_waitOldest, .int t_waiting])), (a_t_disk, .inl ((cA 0), n_t_disk, .inl t_disk)), (a_t_tape, .inl ((cA 0), n_t_tape, .inl t_tape)), (a_t_waitBlock, .inl ((cA 0), n_t_waitBlock, .inl t_waitBlock)), (a_t_waitByte, .inl ((cA 0), n_t_waitByte, .inl t_waitByte)), (a_t_waitOldest, .inl ((cA 0), n_t_waitOldest, .inl t_waitOldest))]) [0, 1, 2, 3, 4, 5] rfl
  have hD9 := hD.sub (ws' := [(a_t, .inr (8, [.ref a_t_disk, .ref a_t_tape, .int t_tapeLong, t_first, t_last, .int t_kept, .int t_next, .int t_come, .int t_crashes, .int t_thrown, .int t_open, .int t_openFirst, .int t_openMany, .int t_openBytes, .int t_nextPage, .int t_turn, .int t_oldest, .ref a_t_waitBlock, .ref a_t_waitByte, .ref a_t_waitOldest, .int t_waiting])), (a_t_disk, .inl ((cA 0), n_t_disk, .inl t_disk)), (a_t_tape, .inl ((cA 0), n_t_tape, .inl t_tape)), (a_t_waitBlock, .inl ((cA 0), n_t_waitBlock, .inl t_waitBlock)), (a_t_waitByte, .inl ((cA 0), n_t_waitByte, .inl t_waitByte)), (a_t_waitOldest, .inl ((cA 0), n_t_waitOldest, .inl t_waitOldest))]) [0, 1, 2, 3, 4, 5] (by decide) rfl
  exact W.iret (v := t_thrown) hx hb hr (fun t ht hW => ⟨⟨_, (), rfl, rfl, by rw [ht]; exact hP9, va_K.moved hW.alike hK, hD9⟩, hS.F ht⟩) hS.2.2 d_Md_thrown_4
theorem d_Md_check_0 : decode b_Md_check 0 = .ok (.iconst (-1), 1) := by decide +kernel
theorem d_Md_check_1 : decode b_Md_check 1 = .ok (.istore_n 2, 1) := by decide +kernel
theorem d_Md_check_2 : decode b_Md_check 2 = .ok (.iconst 0, 1) := by decide +kernel
theorem d_Md_check_3 : decode b_Md_check 3 = .ok (.istore_n 3, 1) := by decide +kernel
theorem d_Md_check_4 : decode b_Md_check 4 = .ok (.iload_n 3, 1) := by decide +kernel
theorem d_Md_check_5 : decode b_Md_check 5 = .ok (.bipush 60, 2) := by decide +kernel
theorem d_Md_check_7 : decode b_Md_check 7 = .ok (.if_icmp .ge 52, 3) := by decide +kernel
theorem d_Md_check_10 : decode b_Md_check 10 = .ok (.iload_n 2, 1) := by decide +kernel
theorem d_Md_check_11 : decode b_Md_check 11 = .ok (.aload_n 0, 1) := by decide +kernel
theorem d_Md_check_12 : decode b_Md_check 12 = .ok (.iload_n 1, 1) := by decide +kernel
theorem d_Md_check_13 : decode b_Md_check 13 = .ok (.iload_n 3, 1) := by decide +kernel
theorem d_Md_check_14 : decode b_Md_check 14 = .ok (.iadd, 1) := by decide +kernel
theorem d_Md_check_15 : decode b_Md_check 15 = .ok (.iaload, 1) := by decide +kernel
theorem d_Md_check_16 : decode b_Md_check 16 = .ok (.ixor, 1) := by decide +kernel
theorem d_Md_check_17 : decode b_Md_check 17 = .ok (.istore_n 2, 1) := by decide +kernel
theorem d_Md_check_18 : decode b_Md_check 18 = .ok (.iconst 0, 1) := by decide +kernel
theorem d_Md_check_19 : decode b_Md_check 19 = .ok (.istore 4, 2) := by decide +kernel
theorem d_Md_check_21 : decode b_Md_check 21 = .ok (.iload 4, 2) := by decide +kernel
theorem d_Md_check_23 : decode b_Md_check 23 = .ok (.bipush 8, 2) := by decide +kernel
theorem d_Md_check_25 : decode b_Md_check 25 = .ok (.if_icmp .ge 28, 3) := by decide +kernel
theorem d_Md_check_28 : decode b_Md_check 28 = .ok (.iload_n 2, 1) := by decide +kernel
theorem d_Md_check_29 : decode b_Md_check 29 = .ok (.iconst 1, 1) := by decide +kernel
theorem d_Md_check_30 : decode b_Md_check 30 = .ok (.iand, 1) := by decide +kernel
theorem d_Md_check_31 : decode b_Md_check 31 = .ok (.ifCond .eq 12, 3) := by decide +kernel
theorem d_Md_check_34 : decode b_Md_check 34 = .ok (.iload_n 2, 1) := by decide +kernel
theorem d_Md_check_35 : decode b_Md_check 35 = .ok (.iconst 1, 1) := by decide +kernel
theorem d_Md_check_36 : decode b_Md_check 36 = .ok (.iushr, 1) := by decide +kernel
theorem d_Md_check_37 : decode b_Md_check 37 = .ok (.ldc 56, 2) := by decide +kernel
theorem d_Md_check_39 : decode b_Md_check 39 = .ok (.ixor, 1) := by decide +kernel
theorem d_Md_check_40 : decode b_Md_check 40 = .ok (.goto 6, 3) := by decide +kernel
theorem d_Md_check_43 : decode b_Md_check 43 = .ok (.iload_n 2, 1) := by decide +kernel
theorem d_Md_check_44 : decode b_Md_check 44 = .ok (.iconst 1, 1) := by decide +kernel
theorem d_Md_check_45 : decode b_Md_check 45 = .ok (.iushr, 1) := by decide +kernel
theorem d_Md_check_46 : decode b_Md_check 46 = .ok (.istore_n 2, 1) := by decide +kernel
theorem d_Md_check_47 : decode b_Md_check 47 = .ok (.iinc 4 1, 3) := by decide +kernel
theorem d_Md_check_50 : decode b_Md_check 50 = .ok (.goto (-29), 3) := by decide +kernel
theorem d_Md_check_53 : decode b_Md_check 53 = .ok (.iinc 3 1, 3) := by decide +kernel
theorem d_Md_check_56 : decode b_Md_check 56 = .ok (.goto (-52), 3) := by decide +kernel
theorem d_Md_check_59 : decode b_Md_check 59 = .ok (.iload_n 2, 1) := by decide +kernel
theorem d_Md_check_60 : decode b_Md_check 60 = .ok (.iconst (-1), 1) := by decide +kernel
theorem d_Md_check_61 : decode b_Md_check 61 = .ok (.ixor, 1) := by decide +kernel
theorem d_Md_check_62 : decode b_Md_check 62 = .ok (.ireturn, 1) := by decide +kernel
abbrev wd_Md_check : List Cond := .code y_Md_check b_Md_check 5 (some .int) :: gw
def f_Md_check_L21 (n_p0 : Nat) (p0 : Nat → Int32) (p1 : Int32) (y3 : Int32) (k9 : Int32 → Int32 → Option (Int32)) : Nat → Int32 → Int32 → Option (Int32)
  | 0, _, _ => none
  | n21 + 1, x2, x4 =>
    if (8 : Int32) ≤ x4 then
      k9 x2 x4
    else
      if (x2 &&& (1 : Int32)) = 0 then
        f_Md_check_L21 n_p0 p0 p1 y3 k9 n21 (x2.toUInt32 >>> ((1 : Int32).toUInt32 &&& Int32.toUInt32 31)).toInt32 (x4 + (1 : Int32))
      else
        f_Md_check_L21 n_p0 p0 p1 y3 k9 n21 ((x2.toUInt32 >>> ((1 : Int32).toUInt32 &&& Int32.toUInt32 31)).toInt32 ^^^ (-306674912 : Int32)) (x4 + (1 : Int32))
def f_Md_check_L4 (n_p0 : Nat) (p0 : Nat → Int32) (p1 : Int32) : Nat → Int32 → Int32 → Option (Int32)
  | 0, _, _ => none
  | n4 + 1, x2, x3 =>
    if (60 : Int32) ≤ x3 then
      some (x2 ^^^ (-1 : Int32))
    else
      if (p1 + x3) < 0 ∨ n_p0 ≤ (p1 + x3).toNatClampNeg then none else
      f_Md_check_L21 n_p0 p0 p1 x3 (fun (z_5 : Int32) (z_6 : Int32) =>
        f_Md_check_L4 n_p0 p0 p1 n4 z_5 (x3 + (1 : Int32))) 5000 (x2 ^^^ (p0 (p1 + x3).toNatClampNeg)) (0 : Int32)
def f_Md_check (n_p0 : Nat) (p0 : Nat → Int32) (p1 : Int32) : Option (Int32) :=
  f_Md_check_L4 n_p0 p0 p1 5000 (-1 : Int32) (0 : Int32)
set_option maxHeartbeats 4000000 in
set_option maxRecDepth 100000 in
theorem k_Md_check_L21 {p : Program} {l : Launch} {e : Env} {s : State} {m : MethodId} {args : Array Value} {below : List Frame} {meth : Method} {c : Code} (hx : p.tables.exec = Jvm.exec) (hb : c.code = b_Md_check) (hr : meth.sig.returnType = (some .int)) (hml : c.maxLocals = 5) (hown : s.vm.findClass R_Md = some m.cls) (hts : ∀ w ∈ wd_Md_check, w.before args s = true) (hlocks : meth.locks = false) {A : Nat → Prop} (hA : ∀ q, s.heap.size ≤ q → A q) (hE : ev A s) {D : va_G} {cA : Nat → ClassId} (hK : va_K D classes (tys cA) s) (a_p0 : Nat) (n_p0 : Nat) (p0 : Nat → Int32) (p1 : Int32) (y3 : Int32) (o : Int32) {k9 : Int32 → Int32 → Option (Int32)} (hk9 : ∀ (x2 : Int32) (x4 : Int32) (H : Heap) (locs : List Loc), k9 x2 x4 = some o → va_P D classes [(a_p0, .inl ((cA 0), n_p0, .inl p0))] H → va_D A [(a_p0, .inl ((cA 0), n_p0, .inl p0))] → va_S A s.heap H locs → ∀ ls : Array Slot, lv_has ls 5 [(0, .ref a_p0), (1, .int p1), (2, .int x2), (3, .int y3), (4, .int x4)] → W p l e ({ frames := 0, cells := 0, slots := 0, locals := 0 }) s m args below meth c H locs 0 0 (MQ below (va_Qi (fun r9 (_ : Unit) => r9 = o) (fun _ => aR D cA A [(a_p0, .inl ((cA 0), n_p0, .inl p0))]) A) args s 0 0 A) (F0 m 53 ls [])) :
    ∀ (n : Nat) (x2 : Int32) (x4 : Int32) (H : Heap) (locs : List Loc), f_Md_check_L21 n_p0 p0 p1 y3 k9 n x2 x4 = some o → va_P D classes [(a_p0, .inl ((cA 0), n_p0, .inl p0))] H → va_D A [(a_p0, .inl ((cA 0), n_p0, .inl p0))] → va_S A s.heap H locs → ∀ ls : Array Slot, lv_has ls 5 [(0, .ref a_p0), (1, .int p1), (2, .int x2), (3, .int y3), (4, .int x4)] → W p l e ({ frames := 0, cells := 0, slots := 0, locals := 0 }) s m args below meth c H locs 0 0 (MQ below (va_Qi (fun r9 (_ : Unit) => r9 = o) (fun _ => aR D cA A [(a_p0, .inl ((cA 0), n_p0, .inl p0))]) A) args s 0 0 A) (F0 m 21 ls []) := by
  intro n
  induction n with
  | zero =>
    intro x2 x4 H locs hf
    cases hf
  | succ n21 ih =>
    intro x2 x4 H locs hf hP hD hS ls hl
    rw [f_Md_check_L21.eq_2] at hf
    refine lv_iload hx hb d_Md_check_21 (lv_at hl 4 rfl) ?_
    refine lv_bipush (v := 8) hx hb d_Md_check_23 (by decide) ?_
    refine lv_icmp_ge (tgt := 53) hx hb d_Md_check_25 (by decide) (fun c_3 => ?_) (fun c_3 => ?_)
    · replace hf := (if_pos c_3).symm.trans hf
      exact hk9 x2 x4 _ _ hf (hP.sub [0] rfl) (hD.sub [0] (by decide) rfl) hS ls (lv_sub hl [0, 1, 2, 3, 4] rfl)
    · replace hf := (if_neg c_3).symm.trans hf
      refine lv_iload_n hx hb d_Md_check_28 rfl (lv_at hl 2 rfl) ?_
      refine lv_iconst (v := 1) hx hb d_Md_check_29 (by decide) ?_
      refine lv_iand hx hb d_Md_check_30 ?_
      refine lv_if_eq (tgt := 43) hx hb d_Md_check_31 (by decide) (fun c_4 => ?_) (fun c_4 => ?_)
      · replace hf := (if_pos c_4).symm.trans hf
        refine lv_iload_n hx hb d_Md_check_43 rfl (lv_at hl 2 rfl) ?_
        refine lv_iconst (v := 1) hx hb d_Md_check_44 (by decide) ?_
        refine lv_iushr hx hb d_Md_check_45 rfl ?_
        refine lv_istore_n (lv' := [(2, .int (x2.toUInt32 >>> ((1 : Int32).toUInt32 &&& Int32.toUInt32 31)).toInt32), (0, .ref a_p0), (1, .int p1), (3, .int y3), (4, .int x4)]) hx hb d_Md_check_46 rfl hl (by decide) rfl (fun ls hl => ?_)
        refine lv_iinc (v := (x4 + (1 : Int32))) (lv' := [(4, .int (x4 + (1 : Int32))), (2, .int (x2.toUInt32 >>> ((1 : Int32).toUInt32 &&& Int32.toUInt32 31)).toInt32), (0, .ref a_p0), (1, .int p1), (3, .int y3)]) hx hb d_Md_check_47 hl (k := 4) rfl rfl (by decide) rfl (fun ls hl => ?_)
        refine lv_goto (tgt := 21) hx hb d_Md_check_50 (by decide) ?_
        exact ih (x2.toUInt32 >>> ((1 : Int32).toUInt32 &&& Int32.toUInt32 31)).toInt32 (x4 + (1 : Int32)) _ _ hf (hP.sub [0] rfl) (hD.sub [0] (by decide) rfl) hS ls (lv_sub hl [2, 3, 1, 4, 0] rfl)
      · replace hf := (if_neg c_4).symm.trans hf
        refine lv_iload_n hx hb d_Md_check_34 rfl (lv_at hl 2 rfl) ?_
        refine lv_iconst (v := 1) hx hb d_Md_check_35 (by decide) ?_
        refine lv_iushr hx hb d_Md_check_36 rfl ?_
        refine lv_ldc (v := (-306674912 : Int32)) hx hb hown ((hts _ (.tail _ gm_294))) d_Md_check_37 ?_
        refine lv_ixor hx hb d_Md_check_39 ?_
        refine lv_goto (tgt := 46) hx hb d_Md_check_40 (by decide) ?_
        refine lv_istore_n (lv' := [(2, .int ((x2.toUInt32 >>> ((1 : Int32).toUInt32 &&& Int32.toUInt32 31)).toInt32 ^^^ (-306674912 : Int32))), (0, .ref a_p0), (1, .int p1), (3, .int y3), (4, .int x4)]) hx hb d_Md_check_46 rfl hl (by decide) rfl (fun ls hl => ?_)
        refine lv_iinc (v := (x4 + (1 : Int32))) (lv' := [(4, .int (x4 + (1 : Int32))), (2, .int ((x2.toUInt32 >>> ((1 : Int32).toUInt32 &&& Int32.toUInt32 31)).toInt32 ^^^ (-306674912 : Int32))), (0, .ref a_p0), (1, .int p1), (3, .int y3)]) hx hb d_Md_check_47 hl (k := 4) rfl rfl (by decide) rfl (fun ls hl => ?_)
        refine lv_goto (tgt := 21) hx hb d_Md_check_50 (by decide) ?_
        exact ih ((x2.toUInt32 >>> ((1 : Int32).toUInt32 &&& Int32.toUInt32 31)).toInt32 ^^^ (-306674912 : Int32)) (x4 + (1 : Int32)) _ _ hf (hP.sub [0] rfl) (hD.sub [0] (by decide) rfl) hS ls (lv_sub hl [2, 3, 1, 4, 0] rfl)
set_option maxHeartbeats 4000000 in
set_option maxRecDepth 100000 in
theorem k_Md_check_L4 {p : Program} {l : Launch} {e : Env} {s : State} {m : MethodId} {args : Array Value} {below : List Frame} {meth : Method} {c : Code} (hx : p.tables.exec = Jvm.exec) (hb : c.code = b_Md_check) (hr : meth.sig.returnType = (some .int)) (hml : c.maxLocals = 5) (hown : s.vm.findClass R_Md = some m.cls) (hts : ∀ w ∈ wd_Md_check, w.before args s = true) (hlocks : meth.locks = false) {A : Nat → Prop} (hA : ∀ q, s.heap.size ≤ q → A q) (hE : ev A s) {D : va_G} {cA : Nat → ClassId} (hK : va_K D classes (tys cA) s) (a_p0 : Nat) (n_p0 : Nat) (p0 : Nat → Int32) (p1 : Int32) (o : Int32) :
    ∀ (n : Nat) (x2 : Int32) (x3 : Int32) (H : Heap) (locs : List Loc), f_Md_check_L4 n_p0 p0 p1  n x2 x3 = some o → va_P D classes [(a_p0, .inl ((cA 0), n_p0, .inl p0))] H → va_D A [(a_p0, .inl ((cA 0), n_p0, .inl p0))] → va_S A s.heap H locs → ∀ ls : Array Slot, lv_has ls 5 [(0, .ref a_p0), (1, .int p1), (2, .int x2), (3, .int x3)] → W p l e ({ frames := 0, cells := 0, slots := 0, locals := 0 }) s m args below meth c H locs 0 0 (MQ below (va_Qi (fun r9 (_ : Unit) => r9 = o) (fun _ => aR D cA A [(a_p0, .inl ((cA 0), n_p0, .inl p0))]) A) args s 0 0 A) (F0 m 4 ls []) := by
  intro n
  induction n with
  | zero =>
    intro x2 x3 H locs hf
    cases hf
  | succ n4 ih =>
    intro x2 x3 H locs hf hP hD hS ls hl
    rw [f_Md_check_L4.eq_2] at hf
    refine lv_iload_n hx hb d_Md_check_4 rfl (lv_at hl 3 rfl) ?_
    refine lv_bipush (v := 60) hx hb d_Md_check_5 (by decide) ?_
    refine lv_icmp_ge (tgt := 59) hx hb d_Md_check_7 (by decide) (fun c_1 => ?_) (fun c_1 => ?_)
    · replace hf := (if_pos c_1).symm.trans hf
      refine lv_iload_n hx hb d_Md_check_59 rfl (lv_at hl 2 rfl) ?_
      refine lv_iconst (v := (-1)) hx hb d_Md_check_60 (by decide) ?_
      refine lv_ixor hx hb d_Md_check_61 ?_
      have ho9 := Option.some.inj hf
      subst ho9
      have hP9 := hP.sub (ws' := [(a_p0, .inl ((cA 0), n_p0, .inl p0))]) [0] rfl
      have hD9 := hD.sub (ws' := [(a_p0, .inl ((cA 0), n_p0, .inl p0))]) [0] (by decide) rfl
      exact W.iret (v := (x2 ^^^ (-1 : Int32))) hx hb hr (fun t ht hW => ⟨⟨_, (), rfl, rfl, by rw [ht]; exact hP9, va_K.moved hW.alike hK, hD9⟩, hS.F ht⟩) hS.2.2 d_Md_check_62
    · replace hf := (if_neg c_1).symm.trans hf
      refine lv_iload_n hx hb d_Md_check_10 rfl (lv_at hl 2 rfl) ?_
      refine lv_aload_n hx hb d_Md_check_11 rfl (lv_at hl 0 rfl) ?_
      refine lv_iload_n hx hb d_Md_check_12 rfl (lv_at hl 1 rfl) ?_
      refine lv_iload_n hx hb d_Md_check_13 rfl (lv_at hl 3 rfl) ?_
      refine lv_iadd hx hb d_Md_check_14 ?_
      obtain ⟨ck_2, hf⟩ := hk_if hf
      refine va_iald hx hb hK hP 0 0 rfl rfl ck_2 d_Md_check_15 ?_
      refine lv_ixor hx hb d_Md_check_16 ?_
      refine lv_istore_n (lv' := [(2, .int (x2 ^^^ (p0 (p1 + x3).toNatClampNeg))), (0, .ref a_p0), (1, .int p1), (3, .int x3)]) hx hb d_Md_check_17 rfl hl (by decide) rfl (fun ls hl => ?_)
      refine lv_iconst (v := 0) hx hb d_Md_check_18 (by decide) ?_
      refine lv_istore (lv' := [(4, .int (0 : Int32)), (2, .int (x2 ^^^ (p0 (p1 + x3).toNatClampNeg))), (0, .ref a_p0), (1, .int p1), (3, .int x3)]) hx hb d_Md_check_19 hl (by decide) rfl (fun ls hl => ?_)
      refine k_Md_check_L21 hx hb hr hml hown hts hlocks hA hE hK a_p0 n_p0 p0 p1 x3 _ ?_ _ (x2 ^^^ (p0 (p1 + x3).toNatClampNeg)) (0 : Int32) _ _ hf (hP.sub [0] rfl) (hD.sub [0] (by decide) rfl) hS ls (lv_sub hl [2, 3, 1, 4, 0] rfl)
      intro z_5 z_6 H locs hf hP hD hS ls hl
      refine lv_iinc (v := (x3 + (1 : Int32))) (lv' := [(3, .int (x3 + (1 : Int32))), (0, .ref a_p0), (1, .int p1), (2, .int z_5), (4, .int z_6)]) hx hb d_Md_check_53 hl (k := 3) rfl rfl (by decide) rfl (fun ls hl => ?_)
      refine lv_goto (tgt := 4) hx hb d_Md_check_56 (by decide) ?_
      exact ih z_5 (x3 + (1 : Int32)) _ _ hf (hP.sub [0] rfl) (hD.sub [0] (by decide) rfl) hS ls (lv_sub hl [1, 2, 3, 0] rfl)
set_option maxHeartbeats 4000000 in
set_option maxRecDepth 100000 in
theorem c_Md_check (l : Launch) (D : va_G) (cA : Nat → ClassId) (a_p0 : Nat) (sz : Nat) (n_p0 : Nat) (p0 : Nat → Int32) (p1 : Int32) (o : Int32) (hf : f_Md_check n_p0 p0 p1 = some o) : Met l y_Md_check wd_Md_check ({ frames := 0, cells := 0, slots := 0, locals := 0 }) (va_Pc [.ref a_p0, .int p1] (aP D cA [(a_p0, .inl ((cA 0), n_p0, .inl p0))] sz)) (va_Qi (fun r9 (_ : Unit) => r9 = o) (fun _ => aR D cA (va_A [(a_p0, .inl ((cA 0), n_p0, .inl p0))] sz) [(a_p0, .inl ((cA 0), n_p0, .inl p0))]) (va_A [(a_p0, .inl ((cA 0), n_p0, .inl p0))] sz)) 0 0 (va_A [(a_p0, .inl ((cA 0), n_p0, .inl p0))] sz) := by
  refine Met.ofW (cc := b_Md_check) (maxL := 5) (ret := (some .int)) (by decide +kernel) rfl ?_
  intro p e s m args below meth c s₁ B hml hv
  obtain ⟨rfl, hsz, hP, hK, hD0, hE⟩ := hv
  have hx := B.exec
  have hb := B.bytes
  have hr := B.returns
  have hts := atoms_spec (ws := wd_Md_check) B.pre
  have hown : s.vm.findClass R_Md = some m.cls := findClass_of_methodNamed B.named
  have hlocks := B.notSynchronized
  subst hsz
  have hD := hD0.self (sz := s.heap.size)
  generalize hAe : va_A [(a_p0, .inl ((cA 0), n_p0, .inl p0))] s.heap.size = A at hD hE ⊢
  have hA : ∀ q : Nat, s.heap.size ≤ q → A q := fun q h => by rw [← hAe]; exact Or.inr h
  have hS : va_S A s.heap s.heap [] := va_S.rf
  have hl := lv_entry [.ref a_p0, .int p1] (n := 5) (Nat.le_of_ble_eq_true rfl)
  rw [lg_entry_eq]
  generalize (lg_sl [.ref a_p0, .int p1] ++ List.replicate (5 - (lg_sl [.ref a_p0, .int p1]).length) Slot.unset).toArray = ls at hl ⊢
  have hl : lv_has ls 5 [(0, .ref a_p0), (1, .int p1)] := hl
  unfold f_Md_check at hf
  refine lv_iconst (v := (-1)) hx hb d_Md_check_0 (by decide) ?_
  refine lv_istore_n (lv' := [(2, .int (-1 : Int32)), (0, .ref a_p0), (1, .int p1)]) hx hb d_Md_check_1 rfl hl (by decide) rfl (fun ls hl => ?_)
  refine lv_iconst (v := 0) hx hb d_Md_check_2 (by decide) ?_
  refine lv_istore_n (lv' := [(3, .int (0 : Int32)), (2, .int (-1 : Int32)), (0, .ref a_p0), (1, .int p1)]) hx hb d_Md_check_3 rfl hl (by decide) rfl (fun ls hl => ?_)
  exact k_Md_check_L4 hx hb hr hml hown hts hlocks hA hE hK a_p0 n_p0 p0 p1 _ _ (-1 : Int32) (0 : Int32) _ _ hf (hP.sub [0] rfl) (hD.sub [0] (by decide) rfl) hS ls (lv_sub hl [2, 3, 1, 0] rfl)
theorem d_Md_word_0 : decode b_Md_word 0 = .ok (.aload_n 0, 1) := by decide +kernel
theorem d_Md_word_1 : decode b_Md_word 1 = .ok (.iload_n 1, 1) := by decide +kernel
theorem d_Md_word_2 : decode b_Md_word 2 = .ok (.iaload, 1) := by decide +kernel
theorem d_Md_word_3 : decode b_Md_word 3 = .ok (.bipush 24, 2) := by decide +kernel
theorem d_Md_word_5 : decode b_Md_word 5 = .ok (.ishl, 1) := by decide +kernel
theorem d_Md_word_6 : decode b_Md_word 6 = .ok (.aload_n 0, 1) := by decide +kernel
theorem d_Md_word_7 : decode b_Md_word 7 = .ok (.iload_n 1, 1) := by decide +kernel
theorem d_Md_word_8 : decode b_Md_word 8 = .ok (.iconst 1, 1) := by decide +kernel
theorem d_Md_word_9 : decode b_Md_word 9 = .ok (.iadd, 1) := by decide +kernel
theorem d_Md_word_10 : decode b_Md_word 10 = .ok (.iaload, 1) := by decide +kernel
theorem d_Md_word_11 : decode b_Md_word 11 = .ok (.bipush 16, 2) := by decide +kernel
theorem d_Md_word_13 : decode b_Md_word 13 = .ok (.ishl, 1) := by decide +kernel
theorem d_Md_word_14 : decode b_Md_word 14 = .ok (.ior, 1) := by decide +kernel
theorem d_Md_word_15 : decode b_Md_word 15 = .ok (.aload_n 0, 1) := by decide +kernel
theorem d_Md_word_16 : decode b_Md_word 16 = .ok (.iload_n 1, 1) := by decide +kernel
theorem d_Md_word_17 : decode b_Md_word 17 = .ok (.iconst 2, 1) := by decide +kernel
theorem d_Md_word_18 : decode b_Md_word 18 = .ok (.iadd, 1) := by decide +kernel
theorem d_Md_word_19 : decode b_Md_word 19 = .ok (.iaload, 1) := by decide +kernel
theorem d_Md_word_20 : decode b_Md_word 20 = .ok (.bipush 8, 2) := by decide +kernel
theorem d_Md_word_22 : decode b_Md_word 22 = .ok (.ishl, 1) := by decide +kernel
theorem d_Md_word_23 : decode b_Md_word 23 = .ok (.ior, 1) := by decide +kernel
theorem d_Md_word_24 : decode b_Md_word 24 = .ok (.aload_n 0, 1) := by decide +kernel
theorem d_Md_word_25 : decode b_Md_word 25 = .ok (.iload_n 1, 1) := by decide +kernel
theorem d_Md_word_26 : decode b_Md_word 26 = .ok (.iconst 3, 1) := by decide +kernel
theorem d_Md_word_27 : decode b_Md_word 27 = .ok (.iadd, 1) := by decide +kernel
theorem d_Md_word_28 : decode b_Md_word 28 = .ok (.iaload, 1) := by decide +kernel
theorem d_Md_word_29 : decode b_Md_word 29 = .ok (.ior, 1) := by decide +kernel
theorem d_Md_word_30 : decode b_Md_word 30 = .ok (.ireturn, 1) := by decide +kernel
abbrev wd_Md_word : List Cond := .code y_Md_word b_Md_word 2 (some .int) :: gw
def f_Md_word (n_p0 : Nat) (p0 : Nat → Int32) (p1 : Int32) : Option (Int32) :=
  if p1 < 0 ∨ n_p0 ≤ p1.toNatClampNeg then none else
  if (p1 + (1 : Int32)) < 0 ∨ n_p0 ≤ (p1 + (1 : Int32)).toNatClampNeg then none else
  if (p1 + (2 : Int32)) < 0 ∨ n_p0 ≤ (p1 + (2 : Int32)).toNatClampNeg then none else
  if (p1 + (3 : Int32)) < 0 ∨ n_p0 ≤ (p1 + (3 : Int32)).toNatClampNeg then none else
  some (((((p0 p1.toNatClampNeg) <<< ((24 : Int32) &&& 31)) ||| ((p0 (p1 + (1 : Int32)).toNatClampNeg) <<< ((16 : Int32) &&& 31))) ||| ((p0 (p1 + (2 : Int32)).toNatClampNeg) <<< ((8 : Int32) &&& 31))) ||| (p0 (p1 + (3 : Int32)).toNatClampNeg))
set_option maxHeartbeats 4000000 in
set_option maxRecDepth 100000 in
theorem c_Md_word (l : Launch) (D : va_G) (cA : Nat → ClassId) (a_p0 : Nat) (sz : Nat) (n_p0 : Nat) (p0 : Nat → Int32) (p1 : Int32) (o : Int32) (hf : f_Md_word n_p0 p0 p1 = some o) : Met l y_Md_word wd_Md_word ({ frames := 0, cells := 0, slots := 0, locals := 0 }) (va_Pc [.ref a_p0, .int p1] (aP D cA [(a_p0, .inl ((cA 0), n_p0, .inl p0))] sz)) (va_Qi (fun r9 (_ : Unit) => r9 = o) (fun _ => aR D cA (va_A [(a_p0, .inl ((cA 0), n_p0, .inl p0))] sz) [(a_p0, .inl ((cA 0), n_p0, .inl p0))]) (va_A [(a_p0, .inl ((cA 0), n_p0, .inl p0))] sz)) 0 0 (va_A [(a_p0, .inl ((cA 0), n_p0, .inl p0))] sz) := by
  refine Met.ofW (cc := b_Md_word) (maxL := 2) (ret := (some .int)) (by decide +kernel) rfl ?_
  intro p e s m args below meth c s₁ B hml hv
  obtain ⟨rfl, hsz, hP, hK, hD0, hE⟩ := hv
  have hx := B.exec
  have hb := B.bytes
  have hr := B.returns
  have hts := atoms_spec (ws := wd_Md_word) B.pre
  have hown : s.vm.findClass R_Md = some m.cls := findClass_of_methodNamed B.named
  have hlocks := B.notSynchronized
  subst hsz
  have hD := hD0.self (sz := s.heap.size)
  generalize hAe : va_A [(a_p0, .inl ((cA 0), n_p0, .inl p0))] s.heap.size = A at hD hE ⊢
  have hA : ∀ q : Nat, s.heap.size ≤ q → A q := fun q h => by rw [← hAe]; exact Or.inr h
  have hS : va_S A s.heap s.heap [] := va_S.rf
  have hl := lv_entry [.ref a_p0, .int p1] (n := 2) (Nat.le_of_ble_eq_true rfl)
  rw [lg_entry_eq]
  generalize (lg_sl [.ref a_p0, .int p1] ++ List.replicate (2 - (lg_sl [.ref a_p0, .int p1]).length) Slot.unset).toArray = ls at hl ⊢
  have hl : lv_has ls 2 [(0, .ref a_p0), (1, .int p1)] := hl
  unfold f_Md_word at hf
  refine lv_aload_n hx hb d_Md_word_0 rfl (lv_at hl 0 rfl) ?_
  refine lv_iload_n hx hb d_Md_word_1 rfl (lv_at hl 1 rfl) ?_
  obtain ⟨ck_1, hf⟩ := hk_if hf
  refine va_iald hx hb hK hP 0 0 rfl rfl ck_1 d_Md_word_2 ?_
  refine lv_bipush (v := 24) hx hb d_Md_word_3 (by decide) ?_
  refine lv_ishl hx hb d_Md_word_5 ?_
  refine lv_aload_n hx hb d_Md_word_6 rfl (lv_at hl 0 rfl) ?_
  refine lv_iload_n hx hb d_Md_word_7 rfl (lv_at hl 1 rfl) ?_
  refine lv_iconst (v := 1) hx hb d_Md_word_8 (by decide) ?_
  refine lv_iadd hx hb d_Md_word_9 ?_
  obtain ⟨ck_2, hf⟩ := hk_if hf
  refine va_iald hx hb hK hP 0 0 rfl rfl ck_2 d_Md_word_10 ?_
  refine lv_bipush (v := 16) hx hb d_Md_word_11 (by decide) ?_
  refine lv_ishl hx hb d_Md_word_13 ?_
  refine lv_ior hx hb d_Md_word_14 ?_
  refine lv_aload_n hx hb d_Md_word_15 rfl (lv_at hl 0 rfl) ?_
  refine lv_iload_n hx hb d_Md_word_16 rfl (lv_at hl 1 rfl) ?_
  refine lv_iconst (v := 2) hx hb d_Md_word_17 (by decide) ?_
  refine lv_iadd hx hb d_Md_word_18 ?_
  obtain ⟨ck_3, hf⟩ := hk_if hf
  refine va_iald hx hb hK hP 0 0 rfl rfl ck_3 d_Md_word_19 ?_
  refine lv_bipush (v := 8) hx hb d_Md_word_20 (by decide) ?_
  refine lv_ishl hx hb d_Md_word_22 ?_
  refine lv_ior hx hb d_Md_word_23 ?_
  refine lv_aload_n hx hb d_Md_word_24 rfl (lv_at hl 0 rfl) ?_
  refine lv_iload_n hx hb d_Md_word_25 rfl (lv_at hl 1 rfl) ?_
  refine lv_iconst (v := 3) hx hb d_Md_word_26 (by decide) ?_
  refine lv_iadd hx hb d_Md_word_27 ?_
  obtain ⟨ck_4, hf⟩ := hk_if hf
  refine va_iald hx hb hK hP 0 0 rfl rfl ck_4 d_Md_word_28 ?_
  refine lv_ior hx hb d_Md_word_29 ?_
  have ho9 := Option.some.inj hf
  subst ho9
  have hP9 := hP.sub (ws' := [(a_p0, .inl ((cA 0), n_p0, .inl p0))]) [0] rfl
  have hD9 := hD.sub (ws' := [(a_p0, .inl ((cA 0), n_p0, .inl p0))]) [0] (by decide) rfl
  exact W.iret (v := (((((p0 p1.toNatClampNeg) <<< ((24 : Int32) &&& 31)) ||| ((p0 (p1 + (1 : Int32)).toNatClampNeg) <<< ((16 : Int32) &&& 31))) ||| ((p0 (p1 + (2 : Int32)).toNatClampNeg) <<< ((8 : Int32) &&& 31))) ||| (p0 (p1 + (3 : Int32)).toNatClampNeg))) hx hb hr (fun t ht hW => ⟨⟨_, (), rfl, rfl, by rw [ht]; exact hP9, va_K.moved hW.alike hK, hD9⟩, hS.F ht⟩) hS.2.2 d_Md_word_30
theorem d_Md_putWord_0 : decode b_Md_putWord 0 = .ok (.iconst 0, 1) := by decide +kernel
theorem d_Md_putWord_1 : decode b_Md_putWord 1 = .ok (.istore_n 3, 1) := by decide +kernel
theorem d_Md_putWord_2 : decode b_Md_putWord 2 = .ok (.iload_n 3, 1) := by decide +kernel
theorem d_Md_putWord_3 : decode b_Md_putWord 3 = .ok (.iconst 4, 1) := by decide +kernel
theorem d_Md_putWord_4 : decode b_Md_putWord 4 = .ok (.if_icmp .ge 30, 3) := by decide +kernel
theorem d_Md_putWord_7 : decode b_Md_putWord 7 = .ok (.aload_n 0, 1) := by decide +kernel
theorem d_Md_putWord_8 : decode b_Md_putWord 8 = .ok (.getfield 41, 3) := by decide +kernel
theorem d_Md_putWord_11 : decode b_Md_putWord 11 = .ok (.iload_n 1, 1) := by decide +kernel
theorem d_Md_putWord_12 : decode b_Md_putWord 12 = .ok (.iload_n 3, 1) := by decide +kernel
theorem d_Md_putWord_13 : decode b_Md_putWord 13 = .ok (.iadd, 1) := by decide +kernel
theorem d_Md_putWord_14 : decode b_Md_putWord 14 = .ok (.iload_n 2, 1) := by decide +kernel
theorem d_Md_putWord_15 : decode b_Md_putWord 15 = .ok (.bipush 24, 2) := by decide +kernel
theorem d_Md_putWord_17 : decode b_Md_putWord 17 = .ok (.bipush 8, 2) := by decide +kernel
theorem d_Md_putWord_19 : decode b_Md_putWord 19 = .ok (.iload_n 3, 1) := by decide +kernel
theorem d_Md_putWord_20 : decode b_Md_putWord 20 = .ok (.imul, 1) := by decide +kernel
theorem d_Md_putWord_21 : decode b_Md_putWord 21 = .ok (.isub, 1) := by decide +kernel
theorem d_Md_putWord_22 : decode b_Md_putWord 22 = .ok (.iushr, 1) := by decide +kernel
theorem d_Md_putWord_23 : decode b_Md_putWord 23 = .ok (.sipush 255, 3) := by decide +kernel
theorem d_Md_putWord_26 : decode b_Md_putWord 26 = .ok (.iand, 1) := by decide +kernel
theorem d_Md_putWord_27 : decode b_Md_putWord 27 = .ok (.iastore, 1) := by decide +kernel
theorem d_Md_putWord_28 : decode b_Md_putWord 28 = .ok (.iinc 3 1, 3) := by decide +kernel
theorem d_Md_putWord_31 : decode b_Md_putWord 31 = .ok (.goto (-29), 3) := by decide +kernel
theorem d_Md_putWord_34 : decode b_Md_putWord 34 = .ok (.return_, 1) := by decide +kernel
abbrev wd_Md_putWord : List Cond := .code y_Md_putWord b_Md_putWord 4 none :: gw
def f_Md_putWord_L2 (n_t_disk : Nat) (t_disk : Nat → Int32) (n_t_tape : Nat) (t_tape : Nat → Int32) (t_tapeLong : Int32) (t_kept : Int32) (t_next : Int32) (t_come : Int32) (t_crashes : Int32) (t_thrown : Int32) (t_open : Int32) (t_openFirst : Int32) (t_openMany : Int32) (t_openBytes : Int32) (t_nextPage : Int32) (t_turn : Int32) (t_oldest : Int32) (n_t_waitBlock : Nat) (t_waitBlock : Nat → Int32) (n_t_waitByte : Nat) (t_waitByte : Nat → Int32) (n_t_waitOldest : Nat) (t_waitOldest : Nat → Int32) (t_waiting : Int32) (p0 : Int32) (p1 : Int32) : Nat → (Nat → Int32) → Int32 → Option ((Nat → Int32))
  | 0, _, _ => none
  | n2 + 1, t_waitByte', x3 =>
    if (4 : Int32) ≤ x3 then
      some t_waitByte'
    else
      if (p0 + x3) < 0 ∨ n_t_waitByte ≤ (p0 + x3).toNatClampNeg then none else
      f_Md_putWord_L2 n_t_disk t_disk n_t_tape t_tape t_tapeLong t_kept t_next t_come t_crashes t_thrown t_open t_openFirst t_openMany t_openBytes t_nextPage t_turn t_oldest n_t_waitBlock t_waitBlock n_t_waitByte t_waitByte n_t_waitOldest t_waitOldest t_waiting p0 p1 n2 (upd t_waitByte' (p0 + x3).toNatClampNeg ((p1.toUInt32 >>> (((24 : Int32) - ((8 : Int32) * x3)).toUInt32 &&& Int32.toUInt32 31)).toInt32 &&& (255 : Int32))) (x3 + (1 : Int32))
def f_Md_putWord (n_t_disk : Nat) (t_disk : Nat → Int32) (n_t_tape : Nat) (t_tape : Nat → Int32) (t_tapeLong : Int32) (t_kept : Int32) (t_next : Int32) (t_come : Int32) (t_crashes : Int32) (t_thrown : Int32) (t_open : Int32) (t_openFirst : Int32) (t_openMany : Int32) (t_openBytes : Int32) (t_nextPage : Int32) (t_turn : Int32) (t_oldest : Int32) (n_t_waitBlock : Nat) (t_waitBlock : Nat → Int32) (n_t_waitByte : Nat) (t_waitByte : Nat → Int32) (n_t_waitOldest : Nat) (t_waitOldest : Nat → Int32) (t_waiting : Int32) (p0 : Int32) (p1 : Int32) : Option ((Nat → Int32)) :=
  f_Md_putWord_L2 n_t_disk t_disk n_t_tape t_tape t_tapeLong t_kept t_next t_come t_crashes t_thrown t_open t_openFirst t_openMany t_openBytes t_nextPage t_turn t_oldest n_t_waitBlock t_waitBlock n_t_waitByte t_waitByte n_t_waitOldest t_waitOldest t_waiting p0 p1 5000 t_waitByte (0 : Int32)
set_option maxHeartbeats 4000000 in
set_option maxRecDepth 100000 in
theorem k_Md_putWord_L2 {p : Program} {l : Launch} {e : Env} {s : State} {m : MethodId} {args : Array Value} {below : List Frame} {meth : Method} {c : Code} (hx : p.tables.exec = Jvm.exec) (hb : c.code = b_Md_putWord) (hr : meth.sig.returnType = none) (hml : c.maxLocals = 4) (hown : s.vm.findClass R_Md = some m.cls) (hts : ∀ w ∈ wd_Md_putWord, w.before args s = true) (hlocks : meth.locks = false) {A : Nat → Prop} (hA : ∀ q, s.heap.size ≤ q → A q) (hE : ev A s) {D : va_G} {cA : Nat → ClassId} (hK : va_K D classes (tys cA) s) (a_t a_t_disk a_t_tape a_t_waitBlock a_t_waitByte a_t_waitOldest : Nat) (t_first t_last : Value) (n_t_disk : Nat) (t_disk : Nat → Int32) (n_t_tape : Nat) (t_tape : Nat → Int32) (t_tapeLong : Int32) (t_kept : Int32) (t_next : Int32) (t_come : Int32) (t_crashes : Int32) (t_thrown : Int32) (t_open : Int32) (t_openFirst : Int32) (t_openMany : Int32) (t_openBytes : Int32) (t_nextPage : Int32) (t_turn : Int32) (t_oldest : Int32) (n_t_waitBlock : Nat) (t_waitBlock : Nat → Int32) (n_t_waitByte : Nat) (t_waitByte : Nat → Int32) (n_t_waitOldest : Nat) (t_waitOldest : Nat → Int32) (t_waiting : Int32) (p0 : Int32) (p1 : Int32) (o : (Nat → Int32)) :
    ∀ (n : Nat) (t_waitByte' : Nat → Int32) (x3 : Int32) (H : Heap) (locs : List Loc), f_Md_putWord_L2 n_t_disk t_disk n_t_tape t_tape t_tapeLong t_kept t_next t_come t_crashes t_thrown t_open t_openFirst t_openMany t_openBytes t_nextPage t_turn t_oldest n_t_waitBlock t_waitBlock n_t_waitByte t_waitByte n_t_waitOldest t_waitOldest t_waiting p0 p1  n t_waitByte' x3 = some o → va_P D classes [(a_t, .inr (8, [.ref a_t_disk, .ref a_t_tape, .int t_tapeLong, t_first, t_last, .int t_kept, .int t_next, .int t_come, .int t_crashes, .int t_thrown, .int t_open, .int t_openFirst, .int t_openMany, .int t_openBytes, .int t_nextPage, .int t_turn, .int t_oldest, .ref a_t_waitBlock, .ref a_t_waitByte, .ref a_t_waitOldest, .int t_waiting])), (a_t_disk, .inl ((cA 0), n_t_disk, .inl t_disk)), (a_t_tape, .inl ((cA 0), n_t_tape, .inl t_tape)), (a_t_waitBlock, .inl ((cA 0), n_t_waitBlock, .inl t_waitBlock)), (a_t_waitByte, .inl ((cA 0), n_t_waitByte, .inl t_waitByte')), (a_t_waitOldest, .inl ((cA 0), n_t_waitOldest, .inl t_waitOldest))] H → va_D A [(a_t, .inr (8, [.ref a_t_disk, .ref a_t_tape, .int t_tapeLong, t_first, t_last, .int t_kept, .int t_next, .int t_come, .int t_crashes, .int t_thrown, .int t_open, .int t_openFirst, .int t_openMany, .int t_openBytes, .int t_nextPage, .int t_turn, .int t_oldest, .ref a_t_waitBlock, .ref a_t_waitByte, .ref a_t_waitOldest, .int t_waiting])), (a_t_disk, .inl ((cA 0), n_t_disk, .inl t_disk)), (a_t_tape, .inl ((cA 0), n_t_tape, .inl t_tape)), (a_t_waitBlock, .inl ((cA 0), n_t_waitBlock, .inl t_waitBlock)), (a_t_waitByte, .inl ((cA 0), n_t_waitByte, .inl t_waitByte')), (a_t_waitOldest, .inl ((cA 0), n_t_waitOldest, .inl t_waitOldest))] → va_S A s.heap H locs → ∀ ls : Array Slot, lv_has ls 4 [(0, .ref a_t), (1, .int p0), (2, .int p1), (3, .int x3)] → W p l e ({ frames := 0, cells := 0, slots := 0, locals := 0 }) s m args below meth c H locs 0 0 (MQ below (va_Qv (fun (_ : Unit) => True) (fun _ => aR D cA A [(a_t, .inr (8, [.ref a_t_disk, .ref a_t_tape, .int t_tapeLong, t_first, t_last, .int t_kept, .int t_next, .int t_come, .int t_crashes, .int t_thrown, .int t_open, .int t_openFirst, .int t_openMany, .int t_openBytes, .int t_nextPage, .int t_turn, .int t_oldest, .ref a_t_waitBlock, .ref a_t_waitByte, .ref a_t_waitOldest, .int t_waiting])), (a_t_disk, .inl ((cA 0), n_t_disk, .inl t_disk)), (a_t_tape, .inl ((cA 0), n_t_tape, .inl t_tape)), (a_t_waitBlock, .inl ((cA 0), n_t_waitBlock, .inl t_waitBlock)), (a_t_waitByte, .inl ((cA 0), n_t_waitByte, .inl o)), (a_t_waitOldest, .inl ((cA 0), n_t_waitOldest, .inl t_waitOldest))]) A) args s 0 0 A) (F0 m 2 ls []) := by
  intro n
  induction n with
  | zero =>
    intro t_waitByte' x3 H locs hf
    cases hf
  | succ n2 ih =>
    intro t_waitByte' x3 H locs hf hP hD hS ls hl
    rw [f_Md_putWord_L2.eq_2] at hf
    refine lv_iload_n hx hb d_Md_putWord_2 rfl (lv_at hl 3 rfl) ?_
    refine lv_iconst (v := 4) hx hb d_Md_putWord_3 (by decide) ?_
    refine lv_icmp_ge (tgt := 34) hx hb d_Md_putWord_4 (by decide) (fun c_1 => ?_) (fun c_1 => ?_)
    · replace hf := (if_pos c_1).symm.trans hf
      have ho9 := Option.some.inj hf
      subst ho9
      have hP9 := hP.sub (ws' := [(a_t, .inr (8, [.ref a_t_disk, .ref a_t_tape, .int t_tapeLong, t_first, t_last, .int t_kept, .int t_next, .int t_come, .int t_crashes, .int t_thrown, .int t_open, .int t_openFirst, .int t_openMany, .int t_openBytes, .int t_nextPage, .int t_turn, .int t_oldest, .ref a_t_waitBlock, .ref a_t_waitByte, .ref a_t_waitOldest, .int t_waiting])), (a_t_disk, .inl ((cA 0), n_t_disk, .inl t_disk)), (a_t_tape, .inl ((cA 0), n_t_tape, .inl t_tape)), (a_t_waitBlock, .inl ((cA 0), n_t_waitBlock, .inl t_waitBlock)), (a_t_waitByte, .inl ((cA 0), n_t_waitByte, .inl t_waitByte')), (a_t_waitOldest, .inl ((cA 0), n_t_waitOldest, .inl t_waitOldest))]) [0, 1, 2, 3, 4, 5] rfl
      have hD9 := hD.sub (ws' := [(a_t, .inr (8, [.ref a_t_disk, .ref a_t_tape, .int t_tapeLong, t_first, t_last, .int t_kept, .int t_next, .int t_come, .int t_crashes, .int t_thrown, .int t_open, .int t_openFirst, .int t_openMany, .int t_openBytes, .int t_nextPage, .int t_turn, .int t_oldest, .ref a_t_waitBlock, .ref a_t_waitByte, .ref a_t_waitOldest, .int t_waiting])), (a_t_disk, .inl ((cA 0), n_t_disk, .inl t_disk)), (a_t_tape, .inl ((cA 0), n_t_tape, .inl t_tape)), (a_t_waitBlock, .inl ((cA 0), n_t_waitBlock, .inl t_waitBlock)), (a_t_waitByte, .inl ((cA 0), n_t_waitByte, .inl t_waitByte')), (a_t_waitOldest, .inl ((cA 0), n_t_waitOldest, .inl t_waitOldest))]) [0, 1, 2, 3, 4, 5] (by decide) rfl
      exact W.vret hx hb hr (fun t ht hW => ⟨⟨(), rfl, trivial, by rw [ht]; exact hP9, va_K.moved hW.alike hK, hD9⟩, hS.F ht⟩) hS.2.2 d_Md_putWord_34
    · replace hf := (if_neg c_1).symm.trans hf
      refine lv_aload_n hx hb d_Md_putWord_7 rfl (lv_at hl 0 rfl) ?_
      refine va_get (D := D) (ci := 8) (v := .ref a_t_waitByte) (C := R_Md) (T := F_Md) (N := 21) hx hb hts (fun w9 h9 => .tail _ (gu_Md w9 h9)) hown hK hP 0 rfl rfl 18 (by decide) (hts _ (.tail _ gm_295)) (fun _ h9 => h9) rfl d_Md_putWord_8 ?_
      refine lv_iload_n hx hb d_Md_putWord_11 rfl (lv_at hl 1 rfl) ?_
      refine lv_iload_n hx hb d_Md_putWord_12 rfl (lv_at hl 3 rfl) ?_
      refine lv_iadd hx hb d_Md_putWord_13 ?_
      refine lv_iload_n hx hb d_Md_putWord_14 rfl (lv_at hl 2 rfl) ?_
      refine lv_bipush (v := 24) hx hb d_Md_putWord_15 (by decide) ?_
      refine lv_bipush (v := 8) hx hb d_Md_putWord_17 (by decide) ?_
      refine lv_iload_n hx hb d_Md_putWord_19 rfl (lv_at hl 3 rfl) ?_
      refine lv_imul hx hb d_Md_putWord_20 ?_
      refine lv_isub hx hb d_Md_putWord_21 ?_
      refine lv_iushr hx hb d_Md_putWord_22 rfl ?_
      refine lv_sipush (v := 255) hx hb d_Md_putWord_23 (by decide) ?_
      refine lv_iand hx hb d_Md_putWord_26 ?_
      obtain ⟨ck_2, hf⟩ := hk_if hf
      refine va_iast hx hb hK hP hD hS 4 0 rfl rfl ck_2 d_Md_putWord_27 (fun H locs hP hD hS => ?_)
      have hP : va_P D classes [(a_t, .inr (8, [.ref a_t_disk, .ref a_t_tape, .int t_tapeLong, t_first, t_last, .int t_kept, .int t_next, .int t_come, .int t_crashes, .int t_thrown, .int t_open, .int t_openFirst, .int t_openMany, .int t_openBytes, .int t_nextPage, .int t_turn, .int t_oldest, .ref a_t_waitBlock, .ref a_t_waitByte, .ref a_t_waitOldest, .int t_waiting])), (a_t_disk, .inl ((cA 0), n_t_disk, .inl t_disk)), (a_t_tape, .inl ((cA 0), n_t_tape, .inl t_tape)), (a_t_waitBlock, .inl ((cA 0), n_t_waitBlock, .inl t_waitBlock)), (a_t_waitByte, .inl ((cA 0), n_t_waitByte, .inl (upd t_waitByte' (p0 + x3).toNatClampNeg ((p1.toUInt32 >>> (((24 : Int32) - ((8 : Int32) * x3)).toUInt32 &&& Int32.toUInt32 31)).toInt32 &&& (255 : Int32))))), (a_t_waitOldest, .inl ((cA 0), n_t_waitOldest, .inl t_waitOldest))] H := hP
      have hD : va_D A [(a_t, .inr (8, [.ref a_t_disk, .ref a_t_tape, .int t_tapeLong, t_first, t_last, .int t_kept, .int t_next, .int t_come, .int t_crashes, .int t_thrown, .int t_open, .int t_openFirst, .int t_openMany, .int t_openBytes, .int t_nextPage, .int t_turn, .int t_oldest, .ref a_t_waitBlock, .ref a_t_waitByte, .ref a_t_waitOldest, .int t_waiting])), (a_t_disk, .inl ((cA 0), n_t_disk, .inl t_disk)), (a_t_tape, .inl ((cA 0), n_t_tape, .inl t_tape)), (a_t_waitBlock, .inl ((cA 0), n_t_waitBlock, .inl t_waitBlock)), (a_t_waitByte, .inl ((cA 0), n_t_waitByte, .inl (upd t_waitByte' (p0 + x3).toNatClampNeg ((p1.toUInt32 >>> (((24 : Int32) - ((8 : Int32) * x3)).toUInt32 &&& Int32.toUInt32 31)).toInt32 &&& (255 : Int32))))), (a_t_waitOldest, .inl ((cA 0), n_t_waitOldest, .inl t_waitOldest))] := hD
      refine lv_iinc (v := (x3 + (1 : Int32))) (lv' := [(3, .int (x3 + (1 : Int32))), (0, .ref a_t), (1, .int p0), (2, .int p1)]) hx hb d_Md_putWord_28 hl (k := 3) rfl rfl (by decide) rfl (fun ls hl => ?_)
      refine lv_goto (tgt := 2) hx hb d_Md_putWord_31 (by decide) ?_
      exact ih (upd t_waitByte' (p0 + x3).toNatClampNeg ((p1.toUInt32 >>> (((24 : Int32) - ((8 : Int32) * x3)).toUInt32 &&& Int32.toUInt32 31)).toInt32 &&& (255 : Int32))) (x3 + (1 : Int32)) _ _ hf (hP.sub [0, 1, 2, 3, 4, 5] rfl) (hD.sub [0, 1, 2, 3, 4, 5] (by decide) rfl) hS ls (lv_sub hl [1, 2, 3, 0] rfl)
set_option maxHeartbeats 4000000 in
set_option maxRecDepth 100000 in
theorem c_Md_putWord (l : Launch) (D : va_G) (cA : Nat → ClassId) (a_t a_t_disk a_t_tape a_t_waitBlock a_t_waitByte a_t_waitOldest : Nat) (t_first t_last : Value) (sz : Nat) (n_t_disk : Nat) (t_disk : Nat → Int32) (n_t_tape : Nat) (t_tape : Nat → Int32) (t_tapeLong : Int32) (t_kept : Int32) (t_next : Int32) (t_come : Int32) (t_crashes : Int32) (t_thrown : Int32) (t_open : Int32) (t_openFirst : Int32) (t_openMany : Int32) (t_openBytes : Int32) (t_nextPage : Int32) (t_turn : Int32) (t_oldest : Int32) (n_t_waitBlock : Nat) (t_waitBlock : Nat → Int32) (n_t_waitByte : Nat) (t_waitByte : Nat → Int32) (n_t_waitOldest : Nat) (t_waitOldest : Nat → Int32) (t_waiting : Int32) (p0 : Int32) (p1 : Int32) (o : (Nat → Int32)) (hf : f_Md_putWord n_t_disk t_disk n_t_tape t_tape t_tapeLong t_kept t_next t_come t_crashes t_thrown t_open t_openFirst t_openMany t_openBytes t_nextPage t_turn t_oldest n_t_waitBlock t_waitBlock n_t_waitByte t_waitByte n_t_waitOldest t_waitOldest t_waiting p0 p1 = some o) : Met l y_Md_putWord wd_Md_putWord ({ frames := 0, cells := 0, slots := 0, locals := 0 }) (va_Pc [.ref a_t, .int p0, .int p1] (aP D cA [(a_t, .inr (8, [.ref a_t_disk, .ref a_t_tape, .int t_tapeLong, t_first, t_last, .int t_kept, .int t_next, .int t_come, .int t_crashes, .int t_thrown, .int t_open, .int t_openFirst, .int t_openMany, .int t_openBytes, .int t_nextPage, .int t_turn, .int t_oldest, .ref a_t_waitBlock, .ref a_t_waitByte, .ref a_t_waitOldest, .int t_waiting])), (a_t_disk, .inl ((cA 0), n_t_disk, .inl t_disk)), (a_t_tape, .inl ((cA 0), n_t_tape, .inl t_tape)), (a_t_waitBlock, .inl ((cA 0), n_t_waitBlock, .inl t_waitBlock)), (a_t_waitByte, .inl ((cA 0), n_t_waitByte, .inl t_waitByte)), (a_t_waitOldest, .inl ((cA 0), n_t_waitOldest, .inl t_waitOldest))] sz)) (va_Qv (fun (_ : Unit) => True) (fun _ => aR D cA (va_A [(a_t, .inr (8, [.ref a_t_disk, .ref a_t_tape, .int t_tapeLong, t_first, t_last, .int t_kept, .int t_next, .int t_come, .int t_crashes, .int t_thrown, .int t_open, .int t_openFirst, .int t_openMany, .int t_openBytes, .int t_nextPage, .int t_turn, .int t_oldest, .ref a_t_waitBlock, .ref a_t_waitByte, .ref a_t_waitOldest, .int t_waiting])), (a_t_disk, .inl ((cA 0), n_t_disk, .inl t_disk)), (a_t_tape, .inl ((cA 0), n_t_tape, .inl t_tape)), (a_t_waitBlock, .inl ((cA 0), n_t_waitBlock, .inl t_waitBlock)), (a_t_waitByte, .inl ((cA 0), n_t_waitByte, .inl t_waitByte)), (a_t_waitOldest, .inl ((cA 0), n_t_waitOldest, .inl t_waitOldest))] sz) [(a_t, .inr (8, [.ref a_t_disk, .ref a_t_tape, .int t_tapeLong, t_first, t_last, .int t_kept, .int t_next, .int t_come, .int t_crashes, .int t_thrown, .int t_open, .int t_openFirst, .int t_openMany, .int t_openBytes, .int t_nextPage, .int t_turn, .int t_oldest, .ref a_t_waitBlock, .ref a_t_waitByte, .ref a_t_waitOldest, .int t_waiting])), (a_t_disk, .inl ((cA 0), n_t_disk, .inl t_disk)), (a_t_tape, .inl ((cA 0), n_t_tape, .inl t_tape)), (a_t_waitBlock, .inl ((cA 0), n_t_waitBlock, .inl t_waitBlock)), (a_t_waitByte, .inl ((cA 0), n_t_waitByte, .inl o)), (a_t_waitOldest, .inl ((cA 0), n_t_waitOldest, .inl t_waitOldest))]) (va_A [(a_t, .inr (8, [.ref a_t_disk, .ref a_t_tape, .int t_tapeLong, t_first, t_last, .int t_kept, .int t_next, .int t_come, .int t_crashes, .int t_thrown, .int t_open, .int t_openFirst, .int t_openMany, .int t_openBytes, .int t_nextPage, .int t_turn, .int t_oldest, .ref a_t_waitBlock, .ref a_t_waitByte, .ref a_t_waitOldest, .int t_waiting])), (a_t_disk, .inl ((cA 0), n_t_disk, .inl t_disk)), (a_t_tape, .inl ((cA 0), n_t_tape, .inl t_tape)), (a_t_waitBlock, .inl ((cA 0), n_t_waitBlock, .inl t_waitBlock)), (a_t_waitByte, .inl ((cA 0), n_t_waitByte, .inl t_waitByte)), (a_t_waitOldest, .inl ((cA 0), n_t_waitOldest, .inl t_waitOldest))] sz)) 0 0 (va_A [(a_t, .inr (8, [.ref a_t_disk, .ref a_t_tape, .int t_tapeLong, t_first, t_last, .int t_kept, .int t_next, .int t_come, .int t_crashes, .int t_thrown, .int t_open, .int t_openFirst, .int t_openMany, .int t_openBytes, .int t_nextPage, .int t_turn, .int t_oldest, .ref a_t_waitBlock, .ref a_t_waitByte, .ref a_t_waitOldest, .int t_waiting])), (a_t_disk, .inl ((cA 0), n_t_disk, .inl t_disk)), (a_t_tape, .inl ((cA 0), n_t_tape, .inl t_tape)), (a_t_waitBlock, .inl ((cA 0), n_t_waitBlock, .inl t_waitBlock)), (a_t_waitByte, .inl ((cA 0), n_t_waitByte, .inl t_waitByte)), (a_t_waitOldest, .inl ((cA 0), n_t_waitOldest, .inl t_waitOldest))] sz) := by
  refine Met.ofW (cc := b_Md_putWord) (maxL := 4) (ret := none) (by decide +kernel) rfl ?_
  intro p e s m args below meth c s₁ B hml hv
  obtain ⟨rfl, hsz, hP, hK, hD0, hE⟩ := hv
  have hx := B.exec
  have hb := B.bytes
  have hr := B.returns
  have hts := atoms_spec (ws := wd_Md_putWord) B.pre
  have hown : s.vm.findClass R_Md = some m.cls := findClass_of_methodNamed B.named
  have hlocks := B.notSynchronized
  subst hsz
  have hD := hD0.self (sz := s.heap.size)
  generalize hAe : va_A [(a_t, .inr (8, [.ref a_t_disk, .ref a_t_tape, .int t_tapeLong, t_first, t_last, .int t_kept, .int t_next, .int t_come, .int t_crashes, .int t_thrown, .int t_open, .int t_openFirst, .int t_openMany, .int t_openBytes, .int t_nextPage, .int t_turn, .int t_oldest, .ref a_t_waitBlock, .ref a_t_waitByte, .ref a_t_waitOldest, .int t_waiting])), (a_t_disk, .inl ((cA 0), n_t_disk, .inl t_disk)), (a_t_tape, .inl ((cA 0), n_t_tape, .inl t_tape)), (a_t_waitBlock, .inl ((cA 0), n_t_waitBlock, .inl t_waitBlock)), (a_t_waitByte, .inl ((cA 0), n_t_waitByte, .inl t_waitByte)), (a_t_waitOldest, .inl ((cA 0), n_t_waitOldest, .inl t_waitOldest))] s.heap.size = A at hD hE ⊢
  have hA : ∀ q : Nat, s.heap.size ≤ q → A q := fun q h => by rw [← hAe]; exact Or.inr h
  have hS : va_S A s.heap s.heap [] := va_S.rf
  have hl := lv_entry [.ref a_t, .int p0, .int p1] (n := 4) (Nat.le_of_ble_eq_true rfl)
  rw [lg_entry_eq]
  generalize (lg_sl [.ref a_t, .int p0, .int p1] ++ List.replicate (4 - (lg_sl [.ref a_t, .int p0, .int p1]).length) Slot.unset).toArray = ls at hl ⊢
  have hl : lv_has ls 4 [(0, .ref a_t), (1, .int p0), (2, .int p1)] := hl
  unfold f_Md_putWord at hf
  refine lv_iconst (v := 0) hx hb d_Md_putWord_0 (by decide) ?_
  refine lv_istore_n (lv' := [(3, .int (0 : Int32)), (0, .ref a_t), (1, .int p0), (2, .int p1)]) hx hb d_Md_putWord_1 rfl hl (by decide) rfl (fun ls hl => ?_)
  exact k_Md_putWord_L2 hx hb hr hml hown hts hlocks hA hE hK a_t a_t_disk a_t_tape a_t_waitBlock a_t_waitByte a_t_waitOldest t_first t_last n_t_disk t_disk n_t_tape t_tape t_tapeLong t_kept t_next t_come t_crashes t_thrown t_open t_openFirst t_openMany t_openBytes t_nextPage t_turn t_oldest n_t_waitBlock t_waitBlock n_t_waitByte t_waitByte n_t_waitOldest t_waitOldest t_waiting p0 p1 _ _ t_waitByte (0 : Int32) _ _ hf (hP.sub [0, 1, 2, 3, 4, 5] rfl) (hD.sub [0, 1, 2, 3, 4, 5] (by decide) rfl) hS ls (lv_sub hl [1, 2, 3, 0] rfl)
theorem d_Md_waits_0 : decode b_Md_waits 0 = .ok (.bipush 64, 2) := by decide +kernel
theorem d_Md_waits_2 : decode b_Md_waits 2 = .ok (.aload_n 0, 1) := by decide +kernel
theorem d_Md_waits_3 : decode b_Md_waits 3 = .ok (.getfield 57, 3) := by decide +kernel
theorem d_Md_waits_6 : decode b_Md_waits 6 = .ok (.imul, 1) := by decide +kernel
theorem d_Md_waits_7 : decode b_Md_waits 7 = .ok (.istore_n 2, 1) := by decide +kernel
theorem d_Md_waits_8 : decode b_Md_waits 8 = .ok (.iconst 0, 1) := by decide +kernel
theorem d_Md_waits_9 : decode b_Md_waits 9 = .ok (.istore_n 3, 1) := by decide +kernel
theorem d_Md_waits_10 : decode b_Md_waits 10 = .ok (.iload_n 3, 1) := by decide +kernel
theorem d_Md_waits_11 : decode b_Md_waits 11 = .ok (.bipush 64, 2) := by decide +kernel
theorem d_Md_waits_13 : decode b_Md_waits 13 = .ok (.if_icmp .ge 18, 3) := by decide +kernel
theorem d_Md_waits_16 : decode b_Md_waits 16 = .ok (.aload_n 0, 1) := by decide +kernel
theorem d_Md_waits_17 : decode b_Md_waits 17 = .ok (.getfield 41, 3) := by decide +kernel
theorem d_Md_waits_20 : decode b_Md_waits 20 = .ok (.iload_n 2, 1) := by decide +kernel
theorem d_Md_waits_21 : decode b_Md_waits 21 = .ok (.iload_n 3, 1) := by decide +kernel
theorem d_Md_waits_22 : decode b_Md_waits 22 = .ok (.iadd, 1) := by decide +kernel
theorem d_Md_waits_23 : decode b_Md_waits 23 = .ok (.iconst 0, 1) := by decide +kernel
theorem d_Md_waits_24 : decode b_Md_waits 24 = .ok (.iastore, 1) := by decide +kernel
theorem d_Md_waits_25 : decode b_Md_waits 25 = .ok (.iinc 3 1, 3) := by decide +kernel
theorem d_Md_waits_28 : decode b_Md_waits 28 = .ok (.goto (-18), 3) := by decide +kernel
theorem d_Md_waits_31 : decode b_Md_waits 31 = .ok (.aload_n 0, 1) := by decide +kernel
theorem d_Md_waits_32 : decode b_Md_waits 32 = .ok (.getfield 38, 3) := by decide +kernel
theorem d_Md_waits_35 : decode b_Md_waits 35 = .ok (.aload_n 0, 1) := by decide +kernel
theorem d_Md_waits_36 : decode b_Md_waits 36 = .ok (.getfield 57, 3) := by decide +kernel
theorem d_Md_waits_39 : decode b_Md_waits 39 = .ok (.iload_n 1, 1) := by decide +kernel
theorem d_Md_waits_40 : decode b_Md_waits 40 = .ok (.iastore, 1) := by decide +kernel
theorem d_Md_waits_41 : decode b_Md_waits 41 = .ok (.aload_n 0, 1) := by decide +kernel
theorem d_Md_waits_42 : decode b_Md_waits 42 = .ok (.getfield 44, 3) := by decide +kernel
theorem d_Md_waits_45 : decode b_Md_waits 45 = .ok (.aload_n 0, 1) := by decide +kernel
theorem d_Md_waits_46 : decode b_Md_waits 46 = .ok (.getfield 57, 3) := by decide +kernel
theorem d_Md_waits_49 : decode b_Md_waits 49 = .ok (.iconst 0, 1) := by decide +kernel
theorem d_Md_waits_50 : decode b_Md_waits 50 = .ok (.iastore, 1) := by decide +kernel
theorem d_Md_waits_51 : decode b_Md_waits 51 = .ok (.aload_n 0, 1) := by decide +kernel
theorem d_Md_waits_52 : decode b_Md_waits 52 = .ok (.dup, 1) := by decide +kernel
theorem d_Md_waits_53 : decode b_Md_waits 53 = .ok (.getfield 57, 3) := by decide +kernel
theorem d_Md_waits_56 : decode b_Md_waits 56 = .ok (.iconst 1, 1) := by decide +kernel
theorem d_Md_waits_57 : decode b_Md_waits 57 = .ok (.iadd, 1) := by decide +kernel
theorem d_Md_waits_58 : decode b_Md_waits 58 = .ok (.putfield 57, 3) := by decide +kernel
theorem d_Md_waits_61 : decode b_Md_waits 61 = .ok (.iload_n 2, 1) := by decide +kernel
theorem d_Md_waits_62 : decode b_Md_waits 62 = .ok (.ireturn, 1) := by decide +kernel
abbrev wd_Md_waits : List Cond := .code y_Md_waits b_Md_waits 4 (some .int) :: gw
def f_Md_waits_L10 (n_t_disk : Nat) (t_disk : Nat → Int32) (n_t_tape : Nat) (t_tape : Nat → Int32) (t_tapeLong : Int32) (t_kept : Int32) (t_next : Int32) (t_come : Int32) (t_crashes : Int32) (t_thrown : Int32) (t_open : Int32) (t_openFirst : Int32) (t_openMany : Int32) (t_openBytes : Int32) (t_nextPage : Int32) (t_turn : Int32) (t_oldest : Int32) (n_t_waitBlock : Nat) (t_waitBlock : Nat → Int32) (n_t_waitByte : Nat) (t_waitByte : Nat → Int32) (n_t_waitOldest : Nat) (t_waitOldest : Nat → Int32) (t_waiting : Int32) (p0 : Int32) (y2 : Int32) (t_waitBlock_0 : Nat → Int32) (t_waitOldest_0 : Nat → Int32) (t_waiting_0 : Int32) : Nat → (Nat → Int32) → Int32 → Option (Int32 × (Nat → Int32) × (Nat → Int32) × (Nat → Int32) × Int32)
  | 0, _, _ => none
  | n10 + 1, t_waitByte', x3 =>
    if (64 : Int32) ≤ x3 then
      if t_waiting_0 < 0 ∨ n_t_waitBlock ≤ t_waiting_0.toNatClampNeg then none else
      if t_waiting_0 < 0 ∨ n_t_waitOldest ≤ t_waiting_0.toNatClampNeg then none else
      some (y2, (upd t_waitBlock_0 t_waiting_0.toNatClampNeg p0), t_waitByte', (upd t_waitOldest_0 t_waiting_0.toNatClampNeg (0 : Int32)), (t_waiting_0 + (1 : Int32)))
    else
      if (y2 + x3) < 0 ∨ n_t_waitByte ≤ (y2 + x3).toNatClampNeg then none else
      f_Md_waits_L10 n_t_disk t_disk n_t_tape t_tape t_tapeLong t_kept t_next t_come t_crashes t_thrown t_open t_openFirst t_openMany t_openBytes t_nextPage t_turn t_oldest n_t_waitBlock t_waitBlock n_t_waitByte t_waitByte n_t_waitOldest t_waitOldest t_waiting p0 y2 t_waitBlock_0 t_waitOldest_0 t_waiting_0 n10 (upd t_waitByte' (y2 + x3).toNatClampNeg (0 : Int32)) (x3 + (1 : Int32))
def f_Md_waits (n_t_disk : Nat) (t_disk : Nat → Int32) (n_t_tape : Nat) (t_tape : Nat → Int32) (t_tapeLong : Int32) (t_kept : Int32) (t_next : Int32) (t_come : Int32) (t_crashes : Int32) (t_thrown : Int32) (t_open : Int32) (t_openFirst : Int32) (t_openMany : Int32) (t_openBytes : Int32) (t_nextPage : Int32) (t_turn : Int32) (t_oldest : Int32) (n_t_waitBlock : Nat) (t_waitBlock : Nat → Int32) (n_t_waitByte : Nat) (t_waitByte : Nat → Int32) (n_t_waitOldest : Nat) (t_waitOldest : Nat → Int32) (t_waiting : Int32) (p0 : Int32) : Option (Int32 × (Nat → Int32) × (Nat → Int32) × (Nat → Int32) × Int32) :=
  f_Md_waits_L10 n_t_disk t_disk n_t_tape t_tape t_tapeLong t_kept t_next t_come t_crashes t_thrown t_open t_openFirst t_openMany t_openBytes t_nextPage t_turn t_oldest n_t_waitBlock t_waitBlock n_t_waitByte t_waitByte n_t_waitOldest t_waitOldest t_waiting p0 ((64 : Int32) * t_waiting) t_waitBlock t_waitOldest t_waiting 5000 t_waitByte (0 : Int32)
set_option maxHeartbeats 4000000 in
set_option maxRecDepth 100000 in
theorem k_Md_waits_L10 {p : Program} {l : Launch} {e : Env} {s : State} {m : MethodId} {args : Array Value} {below : List Frame} {meth : Method} {c : Code} (hx : p.tables.exec = Jvm.exec) (hb : c.code = b_Md_waits) (hr : meth.sig.returnType = (some .int)) (hml : c.maxLocals = 4) (hown : s.vm.findClass R_Md = some m.cls) (hts : ∀ w ∈ wd_Md_waits, w.before args s = true) (hlocks : meth.locks = false) {A : Nat → Prop} (hA : ∀ q, s.heap.size ≤ q → A q) (hE : ev A s) {D : va_G} {cA : Nat → ClassId} (hK : va_K D classes (tys cA) s) (a_t a_t_disk a_t_tape a_t_waitBlock a_t_waitByte a_t_waitOldest : Nat) (t_first t_last : Value) (n_t_disk : Nat) (t_disk : Nat → Int32) (n_t_tape : Nat) (t_tape : Nat → Int32) (t_tapeLong : Int32) (t_kept : Int32) (t_next : Int32) (t_come : Int32) (t_crashes : Int32) (t_thrown : Int32) (t_open : Int32) (t_openFirst : Int32) (t_openMany : Int32) (t_openBytes : Int32) (t_nextPage : Int32) (t_turn : Int32) (t_oldest : Int32) (n_t_waitBlock : Nat) (t_waitBlock : Nat → Int32) (n_t_waitByte : Nat) (t_waitByte : Nat → Int32) (n_t_waitOldest : Nat) (t_waitOldest : Nat → Int32) (t_waiting : Int32) (p0 : Int32) (y2 : Int32) (t_waitBlock_0 : Nat → Int32) (t_waitOldest_0 : Nat → Int32) (t_waiting_0 : Int32) (o : Int32 × (Nat → Int32) × (Nat → Int32) × (Nat → Int32) × Int32) :
    ∀ (n : Nat) (t_waitByte' : Nat → Int32) (x3 : Int32) (H : Heap) (locs : List Loc), f_Md_waits_L10 n_t_disk t_disk n_t_tape t_tape t_tapeLong t_kept t_next t_come t_crashes t_thrown t_open t_openFirst t_openMany t_openBytes t_nextPage t_turn t_oldest n_t_waitBlock t_waitBlock n_t_waitByte t_waitByte n_t_waitOldest t_waitOldest t_waiting p0 y2 t_waitBlock_0 t_waitOldest_0 t_waiting_0 n t_waitByte' x3 = some o → va_P D classes [(a_t, .inr (8, [.ref a_t_disk, .ref a_t_tape, .int t_tapeLong, t_first, t_last, .int t_kept, .int t_next, .int t_come, .int t_crashes, .int t_thrown, .int t_open, .int t_openFirst, .int t_openMany, .int t_openBytes, .int t_nextPage, .int t_turn, .int t_oldest, .ref a_t_waitBlock, .ref a_t_waitByte, .ref a_t_waitOldest, .int t_waiting_0])), (a_t_disk, .inl ((cA 0), n_t_disk, .inl t_disk)), (a_t_tape, .inl ((cA 0), n_t_tape, .inl t_tape)), (a_t_waitBlock, .inl ((cA 0), n_t_waitBlock, .inl t_waitBlock_0)), (a_t_waitByte, .inl ((cA 0), n_t_waitByte, .inl t_waitByte')), (a_t_waitOldest, .inl ((cA 0), n_t_waitOldest, .inl t_waitOldest_0))] H → va_D A [(a_t, .inr (8, [.ref a_t_disk, .ref a_t_tape, .int t_tapeLong, t_first, t_last, .int t_kept, .int t_next, .int t_come, .int t_crashes, .int t_thrown, .int t_open, .int t_openFirst, .int t_openMany, .int t_openBytes, .int t_nextPage, .int t_turn, .int t_oldest, .ref a_t_waitBlock, .ref a_t_waitByte, .ref a_t_waitOldest, .int t_waiting_0])), (a_t_disk, .inl ((cA 0), n_t_disk, .inl t_disk)), (a_t_tape, .inl ((cA 0), n_t_tape, .inl t_tape)), (a_t_waitBlock, .inl ((cA 0), n_t_waitBlock, .inl t_waitBlock_0)), (a_t_waitByte, .inl ((cA 0), n_t_waitByte, .inl t_waitByte')), (a_t_waitOldest, .inl ((cA 0), n_t_waitOldest, .inl t_waitOldest_0))] → va_S A s.heap H locs → ∀ ls : Array Slot, lv_has ls 4 [(0, .ref a_t), (1, .int p0), (2, .int y2), (3, .int x3)] → W p l e ({ frames := 0, cells := 0, slots := 0, locals := 0 }) s m args below meth c H locs 0 0 (MQ below (va_Qi (fun r9 (_ : Unit) => r9 = o.1) (fun _ => aR D cA A [(a_t, .inr (8, [.ref a_t_disk, .ref a_t_tape, .int t_tapeLong, t_first, t_last, .int t_kept, .int t_next, .int t_come, .int t_crashes, .int t_thrown, .int t_open, .int t_openFirst, .int t_openMany, .int t_openBytes, .int t_nextPage, .int t_turn, .int t_oldest, .ref a_t_waitBlock, .ref a_t_waitByte, .ref a_t_waitOldest, .int o.2.2.2.2])), (a_t_disk, .inl ((cA 0), n_t_disk, .inl t_disk)), (a_t_tape, .inl ((cA 0), n_t_tape, .inl t_tape)), (a_t_waitBlock, .inl ((cA 0), n_t_waitBlock, .inl o.2.1)), (a_t_waitByte, .inl ((cA 0), n_t_waitByte, .inl o.2.2.1)), (a_t_waitOldest, .inl ((cA 0), n_t_waitOldest, .inl o.2.2.2.1))]) A) args s 0 0 A) (F0 m 10 ls []) := by
  intro n
  induction n with
  | zero =>
    intro t_waitByte' x3 H locs hf
    cases hf
  | succ n10 ih =>
    intro t_waitByte' x3 H locs hf hP hD hS ls hl
    rw [f_Md_waits_L10.eq_2] at hf
    refine lv_iload_n hx hb d_Md_waits_10 rfl (lv_at hl 3 rfl) ?_
    refine lv_bipush (v := 64) hx hb d_Md_waits_11 (by decide) ?_
    refine lv_icmp_ge (tgt := 31) hx hb d_Md_waits_13 (by decide) (fun c_1 => ?_) (fun c_1 => ?_)
    · replace hf := (if_pos c_1).symm.trans hf
      refine lv_aload_n hx hb d_Md_waits_31 rfl (lv_at hl 0 rfl) ?_
      refine va_get (D := D) (ci := 8) (v := .ref a_t_waitBlock) (C := R_Md) (T := F_Md) (N := 21) hx hb hts (fun w9 h9 => .tail _ (gu_Md w9 h9)) hown hK hP 0 rfl rfl 17 (by decide) (hts _ (.tail _ gm_297)) (fun _ h9 => h9) rfl d_Md_waits_32 ?_
      refine lv_aload_n hx hb d_Md_waits_35 rfl (lv_at hl 0 rfl) ?_
      refine va_get (D := D) (ci := 8) (v := .int t_waiting_0) (C := R_Md) (T := F_Md) (N := 21) hx hb hts (fun w9 h9 => .tail _ (gu_Md w9 h9)) hown hK hP 0 rfl rfl 20 (by decide) (hts _ (.tail _ gm_296)) (fun _ h9 => h9) rfl d_Md_waits_36 ?_
      refine lv_iload_n hx hb d_Md_waits_39 rfl (lv_at hl 1 rfl) ?_
      obtain ⟨ck_2, hf⟩ := hk_if hf
      refine va_iast hx hb hK hP hD hS 3 0 rfl rfl ck_2 d_Md_waits_40 (fun H locs hP hD hS => ?_)
      have hP : va_P D classes [(a_t, .inr (8, [.ref a_t_disk, .ref a_t_tape, .int t_tapeLong, t_first, t_last, .int t_kept, .int t_next, .int t_come, .int t_crashes, .int t_thrown, .int t_open, .int t_openFirst, .int t_openMany, .int t_openBytes, .int t_nextPage, .int t_turn, .int t_oldest, .ref a_t_waitBlock, .ref a_t_waitByte, .ref a_t_waitOldest, .int t_waiting_0])), (a_t_disk, .inl ((cA 0), n_t_disk, .inl t_disk)), (a_t_tape, .inl ((cA 0), n_t_tape, .inl t_tape)), (a_t_waitBlock, .inl ((cA 0), n_t_waitBlock, .inl (upd t_waitBlock_0 t_waiting_0.toNatClampNeg p0))), (a_t_waitByte, .inl ((cA 0), n_t_waitByte, .inl t_waitByte')), (a_t_waitOldest, .inl ((cA 0), n_t_waitOldest, .inl t_waitOldest_0))] H := hP
      have hD : va_D A [(a_t, .inr (8, [.ref a_t_disk, .ref a_t_tape, .int t_tapeLong, t_first, t_last, .int t_kept, .int t_next, .int t_come, .int t_crashes, .int t_thrown, .int t_open, .int t_openFirst, .int t_openMany, .int t_openBytes, .int t_nextPage, .int t_turn, .int t_oldest, .ref a_t_waitBlock, .ref a_t_waitByte, .ref a_t_waitOldest, .int t_waiting_0])), (a_t_disk, .inl ((cA 0), n_t_disk, .inl t_disk)), (a_t_tape, .inl ((cA 0), n_t_tape, .inl t_tape)), (a_t_waitBlock, .inl ((cA 0), n_t_waitBlock, .inl (upd t_waitBlock_0 t_waiting_0.toNatClampNeg p0))), (a_t_waitByte, .inl ((cA 0), n_t_waitByte, .inl t_waitByte')), (a_t_waitOldest, .inl ((cA 0), n_t_waitOldest, .inl t_waitOldest_0))] := hD
      refine lv_aload_n hx hb d_Md_waits_41 rfl (lv_at hl 0 rfl) ?_
      refine va_get (D := D) (ci := 8) (v := .ref a_t_waitOldest) (C := R_Md) (T := F_Md) (N := 21) hx hb hts (fun w9 h9 => .tail _ (gu_Md w9 h9)) hown hK hP 0 rfl rfl 19 (by decide) (hts _ (.tail _ gm_298)) (fun _ h9 => h9) rfl d_Md_waits_42 ?_
      refine lv_aload_n hx hb d_Md_waits_45 rfl (lv_at hl 0 rfl) ?_
      refine va_get (D := D) (ci := 8) (v := .int t_waiting_0) (C := R_Md) (T := F_Md) (N := 21) hx hb hts (fun w9 h9 => .tail _ (gu_Md w9 h9)) hown hK hP 0 rfl rfl 20 (by decide) (hts _ (.tail _ gm_296)) (fun _ h9 => h9) rfl d_Md_waits_46 ?_
      refine lv_iconst (v := 0) hx hb d_Md_waits_49 (by decide) ?_
      obtain ⟨ck_3, hf⟩ := hk_if hf
      refine va_iast hx hb hK hP hD hS 5 0 rfl rfl ck_3 d_Md_waits_50 (fun H locs hP hD hS => ?_)
      have hP : va_P D classes [(a_t, .inr (8, [.ref a_t_disk, .ref a_t_tape, .int t_tapeLong, t_first, t_last, .int t_kept, .int t_next, .int t_come, .int t_crashes, .int t_thrown, .int t_open, .int t_openFirst, .int t_openMany, .int t_openBytes, .int t_nextPage, .int t_turn, .int t_oldest, .ref a_t_waitBlock, .ref a_t_waitByte, .ref a_t_waitOldest, .int t_waiting_0])), (a_t_disk, .inl ((cA 0), n_t_disk, .inl t_disk)), (a_t_tape, .inl ((cA 0), n_t_tape, .inl t_tape)), (a_t_waitBlock, .inl ((cA 0), n_t_waitBlock, .inl (upd t_waitBlock_0 t_waiting_0.toNatClampNeg p0))), (a_t_waitByte, .inl ((cA 0), n_t_waitByte, .inl t_waitByte')), (a_t_waitOldest, .inl ((cA 0), n_t_waitOldest, .inl (upd t_waitOldest_0 t_waiting_0.toNatClampNeg (0 : Int32))))] H := hP
      have hD : va_D A [(a_t, .inr (8, [.ref a_t_disk, .ref a_t_tape, .int t_tapeLong, t_first, t_last, .int t_kept, .int t_next, .int t_come, .int t_crashes, .int t_thrown, .int t_open, .int t_openFirst, .int t_openMany, .int t_openBytes, .int t_nextPage, .int t_turn, .int t_oldest, .ref a_t_waitBlock, .ref a_t_waitByte, .ref a_t_waitOldest, .int t_waiting_0])), (a_t_disk, .inl ((cA 0), n_t_disk, .inl t_disk)), (a_t_tape, .inl ((cA 0), n_t_tape, .inl t_tape)), (a_t_waitBlock, .inl ((cA 0), n_t_waitBlock, .inl (upd t_waitBlock_0 t_waiting_0.toNatClampNeg p0))), (a_t_waitByte, .inl ((cA 0), n_t_waitByte, .inl t_waitByte')), (a_t_waitOldest, .inl ((cA 0), n_t_waitOldest, .inl (upd t_waitOldest_0 t_waiting_0.toNatClampNeg (0 : Int32))))] := hD
      refine lv_aload_n hx hb d_Md_waits_51 rfl (lv_at hl 0 rfl) ?_
      refine lv_dup hx hb d_Md_waits_52 rfl ?_
      refine va_get (D := D) (ci := 8) (v := .int t_waiting_0) (C := R_Md) (T := F_Md) (N := 21) hx hb hts (fun w9 h9 => .tail _ (gu_Md w9 h9)) hown hK hP 0 rfl rfl 20 (by decide) (hts _ (.tail _ gm_296)) (fun _ h9 => h9) rfl d_Md_waits_53 ?_
      refine lv_iconst (v := 1) hx hb d_Md_waits_56 (by decide) ?_
      refine lv_iadd hx hb d_Md_waits_57 ?_
      refine va_put (D := D) (ci := 8) (v := .int (t_waiting_0 + (1 : Int32))) (ty := .int) (C := R_Md) (T := F_Md) (N := 21) hx hb hts (fun w9 h9 => .tail _ (gu_Md w9 h9)) t_Md t_Md_ok n_Md hown hK hP hD hS 0 rfl rfl 20 (by decide) (hts _ (.tail _ gm_296)) (fun _ h9 => h9) rfl (by decide +kernel) rfl rfl (Nat.le_of_ble_eq_true rfl) d_Md_waits_58 (fun H locs hP hD hS => ?_)
      have hP : va_P D classes [(a_t, .inr (8, [.ref a_t_disk, .ref a_t_tape, .int t_tapeLong, t_first, t_last, .int t_kept, .int t_next, .int t_come, .int t_crashes, .int t_thrown, .int t_open, .int t_openFirst, .int t_openMany, .int t_openBytes, .int t_nextPage, .int t_turn, .int t_oldest, .ref a_t_waitBlock, .ref a_t_waitByte, .ref a_t_waitOldest, .int (t_waiting_0 + (1 : Int32))])), (a_t_disk, .inl ((cA 0), n_t_disk, .inl t_disk)), (a_t_tape, .inl ((cA 0), n_t_tape, .inl t_tape)), (a_t_waitBlock, .inl ((cA 0), n_t_waitBlock, .inl (upd t_waitBlock_0 t_waiting_0.toNatClampNeg p0))), (a_t_waitByte, .inl ((cA 0), n_t_waitByte, .inl t_waitByte')), (a_t_waitOldest, .inl ((cA 0), n_t_waitOldest, .inl (upd t_waitOldest_0 t_waiting_0.toNatClampNeg (0 : Int32))))] H := hP
      have hD : va_D A [(a_t, .inr (8, [.ref a_t_disk, .ref a_t_tape, .int t_tapeLong, t_first, t_last, .int t_kept, .int t_next, .int t_come, .int t_crashes, .int t_thrown, .int t_open, .int t_openFirst, .int t_openMany, .int t_openBytes, .int t_nextPage, .int t_turn, .int t_oldest, .ref a_t_waitBlock, .ref a_t_waitByte, .ref a_t_waitOldest, .int (t_waiting_0 + (1 : Int32))])), (a_t_disk, .inl ((cA 0), n_t_disk, .inl t_disk)), (a_t_tape, .inl ((cA 0), n_t_tape, .inl t_tape)), (a_t_waitBlock, .inl ((cA 0), n_t_waitBlock, .inl (upd t_waitBlock_0 t_waiting_0.toNatClampNeg p0))), (a_t_waitByte, .inl ((cA 0), n_t_waitByte, .inl t_waitByte')), (a_t_waitOldest, .inl ((cA 0), n_t_waitOldest, .inl (upd t_waitOldest_0 t_waiting_0.toNatClampNeg (0 : Int32))))] := hD
      refine lv_iload_n hx hb d_Md_waits_61 rfl (lv_at hl 2 rfl) ?_
      have ho9 := Option.some.inj hf
      subst ho9
      have hP9 := hP.sub (ws' := [(a_t, .inr (8, [.ref a_t_disk, .ref a_t_tape, .int t_tapeLong, t_first, t_last, .int t_kept, .int t_next, .int t_come, .int t_crashes, .int t_thrown, .int t_open, .int t_openFirst, .int t_openMany, .int t_openBytes, .int t_nextPage, .int t_turn, .int t_oldest, .ref a_t_waitBlock, .ref a_t_waitByte, .ref a_t_waitOldest, .int (t_waiting_0 + (1 : Int32))])), (a_t_disk, .inl ((cA 0), n_t_disk, .inl t_disk)), (a_t_tape, .inl ((cA 0), n_t_tape, .inl t_tape)), (a_t_waitBlock, .inl ((cA 0), n_t_waitBlock, .inl (upd t_waitBlock_0 t_waiting_0.toNatClampNeg p0))), (a_t_waitByte, .inl ((cA 0), n_t_waitByte, .inl t_waitByte')), (a_t_waitOldest, .inl ((cA 0), n_t_waitOldest, .inl (upd t_waitOldest_0 t_waiting_0.toNatClampNeg (0 : Int32))))]) [0, 1, 2, 3, 4, 5] rfl
      have hD9 := hD.sub (ws' := [(a_t, .inr (8, [.ref a_t_disk, .ref a_t_tape, .int t_tapeLong, t_first, t_last, .int t_kept, .int t_next, .int t_come, .int t_crashes, .int t_thrown, .int t_open, .int t_openFirst, .int t_openMany, .int t_openBytes, .int t_nextPage, .int t_turn, .int t_oldest, .ref a_t_waitBlock, .ref a_t_waitByte, .ref a_t_waitOldest, .int (t_waiting_0 + (1 : Int32))])), (a_t_disk, .inl ((cA 0), n_t_disk, .inl t_disk)), (a_t_tape, .inl ((cA 0), n_t_tape, .inl t_tape)), (a_t_waitBlock, .inl ((cA 0), n_t_waitBlock, .inl (upd t_waitBlock_0 t_waiting_0.toNatClampNeg p0))), (a_t_waitByte, .inl ((cA 0), n_t_waitByte, .inl t_waitByte')), (a_t_waitOldest, .inl ((cA 0), n_t_waitOldest, .inl (upd t_waitOldest_0 t_waiting_0.toNatClampNeg (0 : Int32))))]) [0, 1, 2, 3, 4, 5] (by decide) rfl
      exact W.iret (v := y2) hx hb hr (fun t ht hW => ⟨⟨_, (), rfl, rfl, by rw [ht]; exact hP9, va_K.moved hW.alike hK, hD9⟩, hS.F ht⟩) hS.2.2 d_Md_waits_62
    · replace hf := (if_neg c_1).symm.trans hf
      refine lv_aload_n hx hb d_Md_waits_16 rfl (lv_at hl 0 rfl) ?_
      refine va_get (D := D) (ci := 8) (v := .ref a_t_waitByte) (C := R_Md) (T := F_Md) (N := 21) hx hb hts (fun w9 h9 => .tail _ (gu_Md w9 h9)) hown hK hP 0 rfl rfl 18 (by decide) (hts _ (.tail _ gm_295)) (fun _ h9 => h9) rfl d_Md_waits_17 ?_
      refine lv_iload_n hx hb d_Md_waits_20 rfl (lv_at hl 2 rfl) ?_
      refine lv_iload_n hx hb d_Md_waits_21 rfl (lv_at hl 3 rfl) ?_
      refine lv_iadd hx hb d_Md_waits_22 ?_
      refine lv_iconst (v := 0) hx hb d_Md_waits_23 (by decide) ?_
      obtain ⟨ck_4, hf⟩ := hk_if hf
      refine va_iast hx hb hK hP hD hS 4 0 rfl rfl ck_4 d_Md_waits_24 (fun H locs hP hD hS => ?_)
      have hP : va_P D classes [(a_t, .inr (8, [.ref a_t_disk, .ref a_t_tape, .int t_tapeLong, t_first, t_last, .int t_kept, .int t_next, .int t_come, .int t_crashes, .int t_thrown, .int t_open, .int t_openFirst, .int t_openMany, .int t_openBytes, .int t_nextPage, .int t_turn, .int t_oldest, .ref a_t_waitBlock, .ref a_t_waitByte, .ref a_t_waitOldest, .int t_waiting_0])), (a_t_disk, .inl ((cA 0), n_t_disk, .inl t_disk)), (a_t_tape, .inl ((cA 0), n_t_tape, .inl t_tape)), (a_t_waitBlock, .inl ((cA 0), n_t_waitBlock, .inl t_waitBlock_0)), (a_t_waitByte, .inl ((cA 0), n_t_waitByte, .inl (upd t_waitByte' (y2 + x3).toNatClampNeg (0 : Int32)))), (a_t_waitOldest, .inl ((cA 0), n_t_waitOldest, .inl t_waitOldest_0))] H := hP
      have hD : va_D A [(a_t, .inr (8, [.ref a_t_disk, .ref a_t_tape, .int t_tapeLong, t_first, t_last, .int t_kept, .int t_next, .int t_come, .int t_crashes, .int t_thrown, .int t_open, .int t_openFirst, .int t_openMany, .int t_openBytes, .int t_nextPage, .int t_turn, .int t_oldest, .ref a_t_waitBlock, .ref a_t_waitByte, .ref a_t_waitOldest, .int t_waiting_0])), (a_t_disk, .inl ((cA 0), n_t_disk, .inl t_disk)), (a_t_tape, .inl ((cA 0), n_t_tape, .inl t_tape)), (a_t_waitBlock, .inl ((cA 0), n_t_waitBlock, .inl t_waitBlock_0)), (a_t_waitByte, .inl ((cA 0), n_t_waitByte, .inl (upd t_waitByte' (y2 + x3).toNatClampNeg (0 : Int32)))), (a_t_waitOldest, .inl ((cA 0), n_t_waitOldest, .inl t_waitOldest_0))] := hD
      refine lv_iinc (v := (x3 + (1 : Int32))) (lv' := [(3, .int (x3 + (1 : Int32))), (0, .ref a_t), (1, .int p0), (2, .int y2)]) hx hb d_Md_waits_25 hl (k := 3) rfl rfl (by decide) rfl (fun ls hl => ?_)
      refine lv_goto (tgt := 10) hx hb d_Md_waits_28 (by decide) ?_
      exact ih (upd t_waitByte' (y2 + x3).toNatClampNeg (0 : Int32)) (x3 + (1 : Int32)) _ _ hf (hP.sub [0, 1, 2, 3, 4, 5] rfl) (hD.sub [0, 1, 2, 3, 4, 5] (by decide) rfl) hS ls (lv_sub hl [1, 2, 3, 0] rfl)
set_option maxHeartbeats 4000000 in
set_option maxRecDepth 100000 in
theorem c_Md_waits (l : Launch) (D : va_G) (cA : Nat → ClassId) (a_t a_t_disk a_t_tape a_t_waitBlock a_t_waitByte a_t_waitOldest : Nat) (t_first t_last : Value) (sz : Nat) (n_t_disk : Nat) (t_disk : Nat → Int32) (n_t_tape : Nat) (t_tape : Nat → Int32) (t_tapeLong : Int32) (t_kept : Int32) (t_next : Int32) (t_come : Int32) (t_crashes : Int32) (t_thrown : Int32) (t_open : Int32) (t_openFirst : Int32) (t_openMany : Int32) (t_openBytes : Int32) (t_nextPage : Int32) (t_turn : Int32) (t_oldest : Int32) (n_t_waitBlock : Nat) (t_waitBlock : Nat → Int32) (n_t_waitByte : Nat) (t_waitByte : Nat → Int32) (n_t_waitOldest : Nat) (t_waitOldest : Nat → Int32) (t_waiting : Int32) (p0 : Int32) (o : Int32 × (Nat → Int32) × (Nat → Int32) × (Nat → Int32) × Int32) (hf : f_Md_waits n_t_disk t_disk n_t_tape t_tape t_tapeLong t_kept t_next t_come t_crashes t_thrown t_open t_openFirst t_openMany t_openBytes t_nextPage t_turn t_oldest n_t_waitBlock t_waitBlock n_t_waitByte t_waitByte n_t_waitOldest t_waitOldest t_waiting p0 = some o) : Met l y_Md_waits wd_Md_waits ({ frames := 0, cells := 0, slots := 0, locals := 0 }) (va_Pc [.ref a_t, .int p0] (aP D cA [(a_t, .inr (8, [.ref a_t_disk, .ref a_t_tape, .int t_tapeLong, t_first, t_last, .int t_kept, .int t_next, .int t_come, .int t_crashes, .int t_thrown, .int t_open, .int t_openFirst, .int t_openMany, .int t_openBytes, .int t_nextPage, .int t_turn, .int t_oldest, .ref a_t_waitBlock, .ref a_t_waitByte, .ref a_t_waitOldest, .int t_waiting])), (a_t_disk, .inl ((cA 0), n_t_disk, .inl t_disk)), (a_t_tape, .inl ((cA 0), n_t_tape, .inl t_tape)), (a_t_waitBlock, .inl ((cA 0), n_t_waitBlock, .inl t_waitBlock)), (a_t_waitByte, .inl ((cA 0), n_t_waitByte, .inl t_waitByte)), (a_t_waitOldest, .inl ((cA 0), n_t_waitOldest, .inl t_waitOldest))] sz)) (va_Qi (fun r9 (_ : Unit) => r9 = o.1) (fun _ => aR D cA (va_A [(a_t, .inr (8, [.ref a_t_disk, .ref a_t_tape, .int t_tapeLong, t_first, t_last, .int t_kept, .int t_next, .int t_come, .int t_crashes, .int t_thrown, .int t_open, .int t_openFirst, .int t_openMany, .int t_openBytes, .int t_nextPage, .int t_turn, .int t_oldest, .ref a_t_waitBlock, .ref a_t_waitByte, .ref a_t_waitOldest, .int t_waiting])), (a_t_disk, .inl ((cA 0), n_t_disk, .inl t_disk)), (a_t_tape, .inl ((cA 0), n_t_tape, .inl t_tape)), (a_t_waitBlock, .inl ((cA 0), n_t_waitBlock, .inl t_waitBlock)), (a_t_waitByte, .inl ((cA 0), n_t_waitByte, .inl t_waitByte)), (a_t_waitOldest, .inl ((cA 0), n_t_waitOldest, .inl t_waitOldest))] sz) [(a_t, .inr (8, [.ref a_t_disk, .ref a_t_tape, .int t_tapeLong, t_first, t_last, .int t_kept, .int t_next, .int t_come, .int t_crashes, .int t_thrown, .int t_open, .int t_openFirst, .int t_openMany, .int t_openBytes, .int t_nextPage, .int t_turn, .int t_oldest, .ref a_t_waitBlock, .ref a_t_waitByte, .ref a_t_waitOldest, .int o.2.2.2.2])), (a_t_disk, .inl ((cA 0), n_t_disk, .inl t_disk)), (a_t_tape, .inl ((cA 0), n_t_tape, .inl t_tape)), (a_t_waitBlock, .inl ((cA 0), n_t_waitBlock, .inl o.2.1)), (a_t_waitByte, .inl ((cA 0), n_t_waitByte, .inl o.2.2.1)), (a_t_waitOldest, .inl ((cA 0), n_t_waitOldest, .inl o.2.2.2.1))]) (va_A [(a_t, .inr (8, [.ref a_t_disk, .ref a_t_tape, .int t_tapeLong, t_first, t_last, .int t_kept, .int t_next, .int t_come, .int t_crashes, .int t_thrown, .int t_open, .int t_openFirst, .int t_openMany, .int t_openBytes, .int t_nextPage, .int t_turn, .int t_oldest, .ref a_t_waitBlock, .ref a_t_waitByte, .ref a_t_waitOldest, .int t_waiting])), (a_t_disk, .inl ((cA 0), n_t_disk, .inl t_disk)), (a_t_tape, .inl ((cA 0), n_t_tape, .inl t_tape)), (a_t_waitBlock, .inl ((cA 0), n_t_waitBlock, .inl t_waitBlock)), (a_t_waitByte, .inl ((cA 0), n_t_waitByte, .inl t_waitByte)), (a_t_waitOldest, .inl ((cA 0), n_t_waitOldest, .inl t_waitOldest))] sz)) 0 0 (va_A [(a_t, .inr (8, [.ref a_t_disk, .ref a_t_tape, .int t_tapeLong, t_first, t_last, .int t_kept, .int t_next, .int t_come, .int t_crashes, .int t_thrown, .int t_open, .int t_openFirst, .int t_openMany, .int t_openBytes, .int t_nextPage, .int t_turn, .int t_oldest, .ref a_t_waitBlock, .ref a_t_waitByte, .ref a_t_waitOldest, .int t_waiting])), (a_t_disk, .inl ((cA 0), n_t_disk, .inl t_disk)), (a_t_tape, .inl ((cA 0), n_t_tape, .inl t_tape)), (a_t_waitBlock, .inl ((cA 0), n_t_waitBlock, .inl t_waitBlock)), (a_t_waitByte, .inl ((cA 0), n_t_waitByte, .inl t_waitByte)), (a_t_waitOldest, .inl ((cA 0), n_t_waitOldest, .inl t_waitOldest))] sz) := by
  refine Met.ofW (cc := b_Md_waits) (maxL := 4) (ret := (some .int)) (by decide +kernel) rfl ?_
  intro p e s m args below meth c s₁ B hml hv
  obtain ⟨rfl, hsz, hP, hK, hD0, hE⟩ := hv
  have hx := B.exec
  have hb := B.bytes
  have hr := B.returns
  have hts := atoms_spec (ws := wd_Md_waits) B.pre
  have hown : s.vm.findClass R_Md = some m.cls := findClass_of_methodNamed B.named
  have hlocks := B.notSynchronized
  subst hsz
  have hD := hD0.self (sz := s.heap.size)
  generalize hAe : va_A [(a_t, .inr (8, [.ref a_t_disk, .ref a_t_tape, .int t_tapeLong, t_first, t_last, .int t_kept, .int t_next, .int t_come, .int t_crashes, .int t_thrown, .int t_open, .int t_openFirst, .int t_openMany, .int t_openBytes, .int t_nextPage, .int t_turn, .int t_oldest, .ref a_t_waitBlock, .ref a_t_waitByte, .ref a_t_waitOldest, .int t_waiting])), (a_t_disk, .inl ((cA 0), n_t_disk, .inl t_disk)), (a_t_tape, .inl ((cA 0), n_t_tape, .inl t_tape)), (a_t_waitBlock, .inl ((cA 0), n_t_waitBlock, .inl t_waitBlock)), (a_t_waitByte, .inl ((cA 0), n_t_waitByte, .inl t_waitByte)), (a_t_waitOldest, .inl ((cA 0), n_t_waitOldest, .inl t_waitOldest))] s.heap.size = A at hD hE ⊢
  have hA : ∀ q : Nat, s.heap.size ≤ q → A q := fun q h => by rw [← hAe]; exact Or.inr h
  have hS : va_S A s.heap s.heap [] := va_S.rf
  have hl := lv_entry [.ref a_t, .int p0] (n := 4) (Nat.le_of_ble_eq_true rfl)
  rw [lg_entry_eq]
  generalize (lg_sl [.ref a_t, .int p0] ++ List.replicate (4 - (lg_sl [.ref a_t, .int p0]).length) Slot.unset).toArray = ls at hl ⊢
  have hl : lv_has ls 4 [(0, .ref a_t), (1, .int p0)] := hl
  unfold f_Md_waits at hf
  refine lv_bipush (v := 64) hx hb d_Md_waits_0 (by decide) ?_
  refine lv_aload_n hx hb d_Md_waits_2 rfl (lv_at hl 0 rfl) ?_
  refine va_get (D := D) (ci := 8) (v := .int t_waiting) (C := R_Md) (T := F_Md) (N := 21) hx hb hts (fun w9 h9 => .tail _ (gu_Md w9 h9)) hown hK hP 0 rfl rfl 20 (by decide) (hts _ (.tail _ gm_296)) (fun _ h9 => h9) rfl d_Md_waits_3 ?_
  refine lv_imul hx hb d_Md_waits_6 ?_
  refine lv_istore_n (lv' := [(2, .int ((64 : Int32) * t_waiting)), (0, .ref a_t), (1, .int p0)]) hx hb d_Md_waits_7 rfl hl (by decide) rfl (fun ls hl => ?_)
  refine lv_iconst (v := 0) hx hb d_Md_waits_8 (by decide) ?_
  refine lv_istore_n (lv' := [(3, .int (0 : Int32)), (2, .int ((64 : Int32) * t_waiting)), (0, .ref a_t), (1, .int p0)]) hx hb d_Md_waits_9 rfl hl (by decide) rfl (fun ls hl => ?_)
  exact k_Md_waits_L10 hx hb hr hml hown hts hlocks hA hE hK a_t a_t_disk a_t_tape a_t_waitBlock a_t_waitByte a_t_waitOldest t_first t_last n_t_disk t_disk n_t_tape t_tape t_tapeLong t_kept t_next t_come t_crashes t_thrown t_open t_openFirst t_openMany t_openBytes t_nextPage t_turn t_oldest n_t_waitBlock t_waitBlock n_t_waitByte t_waitByte n_t_waitOldest t_waitOldest t_waiting p0 ((64 : Int32) * t_waiting) t_waitBlock t_waitOldest t_waiting _ _ t_waitByte (0 : Int32) _ _ hf (hP.sub [0, 1, 2, 3, 4, 5] rfl) (hD.sub [0, 1, 2, 3, 4, 5] (by decide) rfl) hS ls (lv_sub hl [2, 3, 1, 0] rfl)
theorem d_Md_nextPlace_0 : decode b_Md_nextPlace 0 = .ok (.aload_n 0, 1) := by decide +kernel
theorem d_Md_nextPlace_1 : decode b_Md_nextPlace 1 = .ok (.getfield 23, 3) := by decide +kernel
theorem d_Md_nextPlace_4 : decode b_Md_nextPlace 4 = .ok (.ifCond .le 10, 3) := by decide +kernel
theorem d_Md_nextPlace_7 : decode b_Md_nextPlace 7 = .ok (.aload_n 0, 1) := by decide +kernel
theorem d_Md_nextPlace_8 : decode b_Md_nextPlace 8 = .ok (.getfield 23, 3) := by decide +kernel
theorem d_Md_nextPlace_11 : decode b_Md_nextPlace 11 = .ok (.goto 7, 3) := by decide +kernel
theorem d_Md_nextPlace_14 : decode b_Md_nextPlace 14 = .ok (.aload_n 0, 1) := by decide +kernel
theorem d_Md_nextPlace_15 : decode b_Md_nextPlace 15 = .ok (.getfield 29, 3) := by decide +kernel
theorem d_Md_nextPlace_18 : decode b_Md_nextPlace 18 = .ok (.ireturn, 1) := by decide +kernel
abbrev wd_Md_nextPlace : List Cond := .code y_Md_nextPlace b_Md_nextPlace 1 (some .int) :: gw
def f_Md_nextPlace (n_t_disk : Nat) (t_disk : Nat → Int32) (n_t_tape : Nat) (t_tape : Nat → Int32) (t_tapeLong : Int32) (t_kept : Int32) (t_next : Int32) (t_come : Int32) (t_crashes : Int32) (t_thrown : Int32) (t_open : Int32) (t_openFirst : Int32) (t_openMany : Int32) (t_openBytes : Int32) (t_nextPage : Int32) (t_turn : Int32) (t_oldest : Int32) (n_t_waitBlock : Nat) (t_waitBlock : Nat → Int32) (n_t_waitByte : Nat) (t_waitByte : Nat → Int32) (n_t_waitOldest : Nat) (t_waitOldest : Nat → Int32) (t_waiting : Int32) : Option (Int32) :=
  if t_open ≤ 0 then
    some t_nextPage
  else
    some t_open
set_option maxHeartbeats 4000000 in
set_option maxRecDepth 100000 in
theorem c_Md_nextPlace (l : Launch) (D : va_G) (cA : Nat → ClassId) (a_t a_t_disk a_t_tape a_t_waitBlock a_t_waitByte a_t_waitOldest : Nat) (t_first t_last : Value) (sz : Nat) (n_t_disk : Nat) (t_disk : Nat → Int32) (n_t_tape : Nat) (t_tape : Nat → Int32) (t_tapeLong : Int32) (t_kept : Int32) (t_next : Int32) (t_come : Int32) (t_crashes : Int32) (t_thrown : Int32) (t_open : Int32) (t_openFirst : Int32) (t_openMany : Int32) (t_openBytes : Int32) (t_nextPage : Int32) (t_turn : Int32) (t_oldest : Int32) (n_t_waitBlock : Nat) (t_waitBlock : Nat → Int32) (n_t_waitByte : Nat) (t_waitByte : Nat → Int32) (n_t_waitOldest : Nat) (t_waitOldest : Nat → Int32) (t_waiting : Int32) (o : Int32) (hf : f_Md_nextPlace n_t_disk t_disk n_t_tape t_tape t_tapeLong t_kept t_next t_come t_crashes t_thrown t_open t_openFirst t_openMany t_openBytes t_nextPage t_turn t_oldest n_t_waitBlock t_waitBlock n_t_waitByte t_waitByte n_t_waitOldest t_waitOldest t_waiting = some o) : Met l y_Md_nextPlace wd_Md_nextPlace ({ frames := 0, cells := 0, slots := 0, locals := 0 }) (va_Pc [.ref a_t] (aP D cA [(a_t, .inr (8, [.ref a_t_disk, .ref a_t_tape, .int t_tapeLong, t_first, t_last, .int t_kept, .int t_next, .int t_come, .int t_crashes, .int t_thrown, .int t_open, .int t_openFirst, .int t_openMany, .int t_openBytes, .int t_nextPage, .int t_turn, .int t_oldest, .ref a_t_waitBlock, .ref a_t_waitByte, .ref a_t_waitOldest, .int t_waiting])), (a_t_disk, .inl ((cA 0), n_t_disk, .inl t_disk)), (a_t_tape, .inl ((cA 0), n_t_tape, .inl t_tape)), (a_t_waitBlock, .inl ((cA 0), n_t_waitBlock, .inl t_waitBlock)), (a_t_waitByte, .inl ((cA 0), n_t_waitByte, .inl t_waitByte)), (a_t_waitOldest, .inl ((cA 0), n_t_waitOldest, .inl t_waitOldest))] sz)) (va_Qi (fun r9 (_ : Unit) => r9 = o) (fun _ => aR D cA (va_A [(a_t, .inr (8, [.ref a_t_disk, .ref a_t_tape, .int t_tapeLong, t_first, t_last, .int t_kept, .int t_next, .int t_come, .int t_crashes, .int t_thrown, .int t_open, .int t_openFirst, .int t_openMany, .int t_openBytes, .int t_nextPage, .int t_turn, .int t_oldest, .ref a_t_waitBlock, .ref a_t_waitByte, .ref a_t_waitOldest, .int t_waiting])), (a_t_disk, .inl ((cA 0), n_t_disk, .inl t_disk)), (a_t_tape, .inl ((cA 0), n_t_tape, .inl t_tape)), (a_t_waitBlock, .inl ((cA 0), n_t_waitBlock, .inl t_waitBlock)), (a_t_waitByte, .inl ((cA 0), n_t_waitByte, .inl t_waitByte)), (a_t_waitOldest, .inl ((cA 0), n_t_waitOldest, .inl t_waitOldest))] sz) [(a_t, .inr (8, [.ref a_t_disk, .ref a_t_tape, .int t_tapeLong, t_first, t_last, .int t_kept, .int t_next, .int t_come, .int t_crashes, .int t_thrown, .int t_open, .int t_openFirst, .int t_openMany, .int t_openBytes, .int t_nextPage, .int t_turn, .int t_oldest, .ref a_t_waitBlock, .ref a_t_waitByte, .ref a_t_waitOldest, .int t_waiting])), (a_t_disk, .inl ((cA 0), n_t_disk, .inl t_disk)), (a_t_tape, .inl ((cA 0), n_t_tape, .inl t_tape)), (a_t_waitBlock, .inl ((cA 0), n_t_waitBlock, .inl t_waitBlock)), (a_t_waitByte, .inl ((cA 0), n_t_waitByte, .inl t_waitByte)), (a_t_waitOldest, .inl ((cA 0), n_t_waitOldest, .inl t_waitOldest))]) (va_A [(a_t, .inr (8, [.ref a_t_disk, .ref a_t_tape, .int t_tapeLong, t_first, t_last, .int t_kept, .int t_next, .int t_come, .int t_crashes, .int t_thrown, .int t_open, .int t_openFirst, .int t_openMany, .int t_openBytes, .int t_nextPage, .int t_turn, .int t_oldest, .ref a_t_waitBlock, .ref a_t_waitByte, .ref a_t_waitOldest, .int t_waiting])), (a_t_disk, .inl ((cA 0), n_t_disk, .inl t_disk)), (a_t_tape, .inl ((cA 0), n_t_tape, .inl t_tape)), (a_t_waitBlock, .inl ((cA 0), n_t_waitBlock, .inl t_waitBlock)), (a_t_waitByte, .inl ((cA 0), n_t_waitByte, .inl t_waitByte)), (a_t_waitOldest, .inl ((cA 0), n_t_waitOldest, .inl t_waitOldest))] sz)) 0 0 (va_A [(a_t, .inr (8, [.ref a_t_disk, .ref a_t_tape, .int t_tapeLong, t_first, t_last, .int t_kept, .int t_next, .int t_come, .int t_crashes, .int t_thrown, .int t_open, .int t_openFirst, .int t_openMany, .int t_openBytes, .int t_nextPage, .int t_turn, .int t_oldest, .ref a_t_waitBlock, .ref a_t_waitByte, .ref a_t_waitOldest, .int t_waiting])), (a_t_disk, .inl ((cA 0), n_t_disk, .inl t_disk)), (a_t_tape, .inl ((cA 0), n_t_tape, .inl t_tape)), (a_t_waitBlock, .inl ((cA 0), n_t_waitBlock, .inl t_waitBlock)), (a_t_waitByte, .inl ((cA 0), n_t_waitByte, .inl t_waitByte)), (a_t_waitOldest, .inl ((cA 0), n_t_waitOldest, .inl t_waitOldest))] sz) := by
  refine Met.ofW (cc := b_Md_nextPlace) (maxL := 1) (ret := (some .int)) (by decide +kernel) rfl ?_
  intro p e s m args below meth c s₁ B hml hv
  obtain ⟨rfl, hsz, hP, hK, hD0, hE⟩ := hv
  have hx := B.exec
  have hb := B.bytes
  have hr := B.returns
  have hts := atoms_spec (ws := wd_Md_nextPlace) B.pre
  have hown : s.vm.findClass R_Md = some m.cls := findClass_of_methodNamed B.named
  have hlocks := B.notSynchronized
  subst hsz
  have hD := hD0.self (sz := s.heap.size)
  generalize hAe : va_A [(a_t, .inr (8, [.ref a_t_disk, .ref a_t_tape, .int t_tapeLong, t_first, t_last, .int t_kept, .int t_next, .int t_come, .int t_crashes, .int t_thrown, .int t_open, .int t_openFirst, .int t_openMany, .int t_openBytes, .int t_nextPage, .int t_turn, .int t_oldest, .ref a_t_waitBlock, .ref a_t_waitByte, .ref a_t_waitOldest, .int t_waiting])), (a_t_disk, .inl ((cA 0), n_t_disk, .inl t_disk)), (a_t_tape, .inl ((cA 0), n_t_tape, .inl t_tape)), (a_t_waitBlock, .inl ((cA 0), n_t_waitBlock, .inl t_waitBlock)), (a_t_waitByte, .inl ((cA 0), n_t_waitByte, .inl t_waitByte)), (a_t_waitOldest, .inl ((cA 0), n_t_waitOldest, .inl t_waitOldest))] s.heap.size = A at hD hE ⊢
  have hA : ∀ q : Nat, s.heap.size ≤ q → A q := fun q h => by rw [← hAe]; exact Or.inr h
  have hS : va_S A s.heap s.heap [] := va_S.rf
  have hl := lv_entry [.ref a_t] (n := 1) (Nat.le_of_ble_eq_true rfl)
  rw [lg_entry_eq]
  generalize (lg_sl [.ref a_t] ++ List.replicate (1 - (lg_sl [.ref a_t]).length) Slot.unset).toArray = ls at hl ⊢
  have hl : lv_has ls 1 [(0, .ref a_t)] := hl
  unfold f_Md_nextPlace at hf
  refine lv_aload_n hx hb d_Md_nextPlace_0 rfl (lv_at hl 0 rfl) ?_
  refine va_get (D := D) (ci := 8) (v := .int t_open) (C := R_Md) (T := F_Md) (N := 21) hx hb hts (fun w9 h9 => .tail _ (gu_Md w9 h9)) hown hK hP 0 rfl rfl 10 (by decide) (hts _ (.tail _ gm_299)) (fun _ h9 => h9) rfl d_Md_nextPlace_1 ?_
  refine lv_if_le (tgt := 14) hx hb d_Md_nextPlace_4 (by decide) (fun c_1 => ?_) (fun c_1 => ?_)
  · replace hf := (if_pos c_1).symm.trans hf
    refine lv_aload_n hx hb d_Md_nextPlace_14 rfl (lv_at hl 0 rfl) ?_
    refine va_get (D := D) (ci := 8) (v := .int t_nextPage) (C := R_Md) (T := F_Md) (N := 21) hx hb hts (fun w9 h9 => .tail _ (gu_Md w9 h9)) hown hK hP 0 rfl rfl 14 (by decide) (hts _ (.tail _ gm_300)) (fun _ h9 => h9) rfl d_Md_nextPlace_15 ?_
    have ho9 := Option.some.inj hf
    subst ho9
    have hP9 := hP.sub (ws' := [(a_t, .inr (8, [.ref a_t_disk, .ref a_t_tape, .int t_tapeLong, t_first, t_last, .int t_kept, .int t_next, .int t_come, .int t_crashes, .int t_thrown, .int t_open, .int t_openFirst, .int t_openMany, .int t_openBytes, .int t_nextPage, .int t_turn, .int t_oldest, .ref a_t_waitBlock, .ref a_t_waitByte, .ref a_t_waitOldest, .int t_waiting])), (a_t_disk, .inl ((cA 0), n_t_disk, .inl t_disk)), (a_t_tape, .inl ((cA 0), n_t_tape, .inl t_tape)), (a_t_waitBlock, .inl ((cA 0), n_t_waitBlock, .inl t_waitBlock)), (a_t_waitByte, .inl ((cA 0), n_t_waitByte, .inl t_waitByte)), (a_t_waitOldest, .inl ((cA 0), n_t_waitOldest, .inl t_waitOldest))]) [0, 1, 2, 3, 4, 5] rfl
    have hD9 := hD.sub (ws' := [(a_t, .inr (8, [.ref a_t_disk, .ref a_t_tape, .int t_tapeLong, t_first, t_last, .int t_kept, .int t_next, .int t_come, .int t_crashes, .int t_thrown, .int t_open, .int t_openFirst, .int t_openMany, .int t_openBytes, .int t_nextPage, .int t_turn, .int t_oldest, .ref a_t_waitBlock, .ref a_t_waitByte, .ref a_t_waitOldest, .int t_waiting])), (a_t_disk, .inl ((cA 0), n_t_disk, .inl t_disk)), (a_t_tape, .inl ((cA 0), n_t_tape, .inl t_tape)), (a_t_waitBlock, .inl ((cA 0), n_t_waitBlock, .inl t_waitBlock)), (a_t_waitByte, .inl ((cA 0), n_t_waitByte, .inl t_waitByte)), (a_t_waitOldest, .inl ((cA 0), n_t_waitOldest, .inl t_waitOldest))]) [0, 1, 2, 3, 4, 5] (by decide) rfl
    exact W.iret (v := t_nextPage) hx hb hr (fun t ht hW => ⟨⟨_, (), rfl, rfl, by rw [ht]; exact hP9, va_K.moved hW.alike hK, hD9⟩, hS.F ht⟩) hS.2.2 d_Md_nextPlace_18
  · replace hf := (if_neg c_1).symm.trans hf
    refine lv_aload_n hx hb d_Md_nextPlace_7 rfl (lv_at hl 0 rfl) ?_
    refine va_get (D := D) (ci := 8) (v := .int t_open) (C := R_Md) (T := F_Md) (N := 21) hx hb hts (fun w9 h9 => .tail _ (gu_Md w9 h9)) hown hK hP 0 rfl rfl 10 (by decide) (hts _ (.tail _ gm_299)) (fun _ h9 => h9) rfl d_Md_nextPlace_8 ?_
    refine lv_goto (tgt := 18) hx hb d_Md_nextPlace_11 (by decide) ?_
    have ho9 := Option.some.inj hf
    subst ho9
    have hP9 := hP.sub (ws' := [(a_t, .inr (8, [.ref a_t_disk, .ref a_t_tape, .int t_tapeLong, t_first, t_last, .int t_kept, .int t_next, .int t_come, .int t_crashes, .int t_thrown, .int t_open, .int t_openFirst, .int t_openMany, .int t_openBytes, .int t_nextPage, .int t_turn, .int t_oldest, .ref a_t_waitBlock, .ref a_t_waitByte, .ref a_t_waitOldest, .int t_waiting])), (a_t_disk, .inl ((cA 0), n_t_disk, .inl t_disk)), (a_t_tape, .inl ((cA 0), n_t_tape, .inl t_tape)), (a_t_waitBlock, .inl ((cA 0), n_t_waitBlock, .inl t_waitBlock)), (a_t_waitByte, .inl ((cA 0), n_t_waitByte, .inl t_waitByte)), (a_t_waitOldest, .inl ((cA 0), n_t_waitOldest, .inl t_waitOldest))]) [0, 1, 2, 3, 4, 5] rfl
    have hD9 := hD.sub (ws' := [(a_t, .inr (8, [.ref a_t_disk, .ref a_t_tape, .int t_tapeLong, t_first, t_last, .int t_kept, .int t_next, .int t_come, .int t_crashes, .int t_thrown, .int t_open, .int t_openFirst, .int t_openMany, .int t_openBytes, .int t_nextPage, .int t_turn, .int t_oldest, .ref a_t_waitBlock, .ref a_t_waitByte, .ref a_t_waitOldest, .int t_waiting])), (a_t_disk, .inl ((cA 0), n_t_disk, .inl t_disk)), (a_t_tape, .inl ((cA 0), n_t_tape, .inl t_tape)), (a_t_waitBlock, .inl ((cA 0), n_t_waitBlock, .inl t_waitBlock)), (a_t_waitByte, .inl ((cA 0), n_t_waitByte, .inl t_waitByte)), (a_t_waitOldest, .inl ((cA 0), n_t_waitOldest, .inl t_waitOldest))]) [0, 1, 2, 3, 4, 5] (by decide) rfl
    exact W.iret (v := t_open) hx hb hr (fun t ht hW => ⟨⟨_, (), rfl, rfl, by rw [ht]; exact hP9, va_K.moved hW.alike hK, hD9⟩, hS.F ht⟩) hS.2.2 d_Md_nextPlace_18
theorem d_Md_type_0 : decode b_Md_type 0 = .ok (.aload_n 0, 1) := by decide +kernel
theorem d_Md_type_1 : decode b_Md_type 1 = .ok (.iconst 0, 1) := by decide +kernel
theorem d_Md_type_2 : decode b_Md_type 2 = .ok (.putfield 53, 3) := by decide +kernel
theorem d_Md_type_5 : decode b_Md_type 5 = .ok (.iload_n 3, 1) := by decide +kernel
theorem d_Md_type_6 : decode b_Md_type 6 = .ok (.iconst 1, 1) := by decide +kernel
theorem d_Md_type_7 : decode b_Md_type 7 = .ok (.if_icmp .lt 20, 3) := by decide +kernel
theorem d_Md_type_10 : decode b_Md_type 10 = .ok (.iload_n 3, 1) := by decide +kernel
theorem d_Md_type_11 : decode b_Md_type 11 = .ok (.bipush 8, 2) := by decide +kernel
theorem d_Md_type_13 : decode b_Md_type 13 = .ok (.if_icmp .gt 14, 3) := by decide +kernel
theorem d_Md_type_16 : decode b_Md_type 16 = .ok (.aload_n 0, 1) := by decide +kernel
theorem d_Md_type_17 : decode b_Md_type 17 = .ok (.getfield 108, 3) := by decide +kernel
theorem d_Md_type_20 : decode b_Md_type 20 = .ok (.iload_n 3, 1) := by decide +kernel
theorem d_Md_type_21 : decode b_Md_type 21 = .ok (.iadd, 1) := by decide +kernel
theorem d_Md_type_22 : decode b_Md_type 22 = .ok (.bipush 40, 2) := by decide +kernel
theorem d_Md_type_24 : decode b_Md_type 24 = .ok (.if_icmp .le 5, 3) := by decide +kernel
theorem d_Md_type_27 : decode b_Md_type 27 = .ok (.iconst 0, 1) := by decide +kernel
theorem d_Md_type_28 : decode b_Md_type 28 = .ok (.ireturn, 1) := by decide +kernel
theorem d_Md_type_29 : decode b_Md_type 29 = .ok (.iconst 0, 1) := by decide +kernel
theorem d_Md_type_30 : decode b_Md_type 30 = .ok (.istore 4, 2) := by decide +kernel
theorem d_Md_type_32 : decode b_Md_type 32 = .ok (.iload 4, 2) := by decide +kernel
theorem d_Md_type_34 : decode b_Md_type 34 = .ok (.iload_n 3, 1) := by decide +kernel
theorem d_Md_type_35 : decode b_Md_type 35 = .ok (.if_icmp .ge 37, 3) := by decide +kernel
theorem d_Md_type_38 : decode b_Md_type 38 = .ok (.aload_n 0, 1) := by decide +kernel
theorem d_Md_type_39 : decode b_Md_type 39 = .ok (.getfield 13, 3) := by decide +kernel
theorem d_Md_type_42 : decode b_Md_type 42 = .ok (.aload_n 0, 1) := by decide +kernel
theorem d_Md_type_43 : decode b_Md_type 43 = .ok (.getfield 108, 3) := by decide +kernel
theorem d_Md_type_46 : decode b_Md_type 46 = .ok (.iload 4, 2) := by decide +kernel
theorem d_Md_type_48 : decode b_Md_type 48 = .ok (.iadd, 1) := by decide +kernel
theorem d_Md_type_49 : decode b_Md_type 49 = .ok (.lload_n 1, 1) := by decide +kernel
theorem d_Md_type_50 : decode b_Md_type 50 = .ok (.bipush 8, 2) := by decide +kernel
theorem d_Md_type_52 : decode b_Md_type 52 = .ok (.iload_n 3, 1) := by decide +kernel
theorem d_Md_type_53 : decode b_Md_type 53 = .ok (.iconst 1, 1) := by decide +kernel
theorem d_Md_type_54 : decode b_Md_type 54 = .ok (.isub, 1) := by decide +kernel
theorem d_Md_type_55 : decode b_Md_type 55 = .ok (.iload 4, 2) := by decide +kernel
theorem d_Md_type_57 : decode b_Md_type 57 = .ok (.isub, 1) := by decide +kernel
theorem d_Md_type_58 : decode b_Md_type 58 = .ok (.imul, 1) := by decide +kernel
theorem d_Md_type_59 : decode b_Md_type 59 = .ok (.lushr, 1) := by decide +kernel
theorem d_Md_type_60 : decode b_Md_type 60 = .ok (.ldc2_w 111, 3) := by decide +kernel
theorem d_Md_type_63 : decode b_Md_type 63 = .ok (.land, 1) := by decide +kernel
theorem d_Md_type_64 : decode b_Md_type 64 = .ok (.l2i, 1) := by decide +kernel
theorem d_Md_type_65 : decode b_Md_type 65 = .ok (.iastore, 1) := by decide +kernel
theorem d_Md_type_66 : decode b_Md_type 66 = .ok (.iinc 4 1, 3) := by decide +kernel
theorem d_Md_type_69 : decode b_Md_type 69 = .ok (.goto (-37), 3) := by decide +kernel
theorem d_Md_type_72 : decode b_Md_type 72 = .ok (.aload_n 0, 1) := by decide +kernel
theorem d_Md_type_73 : decode b_Md_type 73 = .ok (.dup, 1) := by decide +kernel
theorem d_Md_type_74 : decode b_Md_type 74 = .ok (.getfield 108, 3) := by decide +kernel
theorem d_Md_type_77 : decode b_Md_type 77 = .ok (.iload_n 3, 1) := by decide +kernel
theorem d_Md_type_78 : decode b_Md_type 78 = .ok (.iadd, 1) := by decide +kernel
theorem d_Md_type_79 : decode b_Md_type 79 = .ok (.putfield 108, 3) := by decide +kernel
theorem d_Md_type_82 : decode b_Md_type 82 = .ok (.iconst 1, 1) := by decide +kernel
theorem d_Md_type_83 : decode b_Md_type 83 = .ok (.ireturn, 1) := by decide +kernel
abbrev wd_Md_type : List Cond := .code y_Md_type b_Md_type 5 (some .boolean) :: gw
def f_Md_type_L32 (n_t_disk : Nat) (t_disk : Nat → Int32) (n_t_tape : Nat) (t_tape : Nat → Int32) (t_tapeLong : Int32) (t_kept : Int32) (t_next : Int32) (t_come : Int32) (t_crashes : Int32) (t_thrown : Int32) (t_open : Int32) (t_openFirst : Int32) (t_openMany : Int32) (t_openBytes : Int32) (t_nextPage : Int32) (t_turn : Int32) (t_oldest : Int32) (n_t_waitBlock : Nat) (t_waitBlock : Nat → Int32) (n_t_waitByte : Nat) (t_waitByte : Nat → Int32) (n_t_waitOldest : Nat) (t_waitOldest : Nat → Int32) (t_waiting : Int32) (p0 : Int64) (p1 : Int32) (t_tapeLong_0 : Int32) (t_thrown_0 : Int32) : Nat → (Nat → Int32) → Int32 → Option (Int32 × (Nat → Int32) × Int32 × Int32)
  | 0, _, _ => none
  | n32 + 1, t_tape', x4 =>
    if p1 ≤ x4 then
      some ((1 : Int32), t_tape', (t_tapeLong_0 + p1), t_thrown_0)
    else
      if (t_tapeLong_0 + x4) < 0 ∨ n_t_tape ≤ (t_tapeLong_0 + x4).toNatClampNeg then none else
      f_Md_type_L32 n_t_disk t_disk n_t_tape t_tape t_tapeLong t_kept t_next t_come t_crashes t_thrown t_open t_openFirst t_openMany t_openBytes t_nextPage t_turn t_oldest n_t_waitBlock t_waitBlock n_t_waitByte t_waitByte n_t_waitOldest t_waitOldest t_waiting p0 p1 t_tapeLong_0 t_thrown_0 n32 (upd t_tape' (t_tapeLong_0 + x4).toNatClampNeg ((p0.toUInt64 >>> (((8 : Int32) * ((p1 - (1 : Int32)) - x4)).toInt64.toUInt64 &&& Int64.toUInt64 63)).toInt64 &&& (255 : Int64)).toInt32) (x4 + (1 : Int32))
def f_Md_type (n_t_disk : Nat) (t_disk : Nat → Int32) (n_t_tape : Nat) (t_tape : Nat → Int32) (t_tapeLong : Int32) (t_kept : Int32) (t_next : Int32) (t_come : Int32) (t_crashes : Int32) (t_thrown : Int32) (t_open : Int32) (t_openFirst : Int32) (t_openMany : Int32) (t_openBytes : Int32) (t_nextPage : Int32) (t_turn : Int32) (t_oldest : Int32) (n_t_waitBlock : Nat) (t_waitBlock : Nat → Int32) (n_t_waitByte : Nat) (t_waitByte : Nat → Int32) (n_t_waitOldest : Nat) (t_waitOldest : Nat → Int32) (t_waiting : Int32) (p0 : Int64) (p1 : Int32) : Option (Int32 × (Nat → Int32) × Int32 × Int32) :=
  if p1 < (1 : Int32) then
    some ((0 : Int32), t_tape, t_tapeLong, (0 : Int32))
  else
    if (8 : Int32) < p1 then
      some ((0 : Int32), t_tape, t_tapeLong, (0 : Int32))
    else
      if (t_tapeLong + p1) ≤ (40 : Int32) then
        f_Md_type_L32 n_t_disk t_disk n_t_tape t_tape t_tapeLong t_kept t_next t_come t_crashes t_thrown t_open t_openFirst t_openMany t_openBytes t_nextPage t_turn t_oldest n_t_waitBlock t_waitBlock n_t_waitByte t_waitByte n_t_waitOldest t_waitOldest t_waiting p0 p1 t_tapeLong (0 : Int32) 5000 t_tape (0 : Int32)
      else
        some ((0 : Int32), t_tape, t_tapeLong, (0 : Int32))
set_option maxHeartbeats 4000000 in
set_option maxRecDepth 100000 in
theorem k_Md_type_L32 {p : Program} {l : Launch} {e : Env} {s : State} {m : MethodId} {args : Array Value} {below : List Frame} {meth : Method} {c : Code} (hx : p.tables.exec = Jvm.exec) (hb : c.code = b_Md_type) (hr : meth.sig.returnType = (some .boolean)) (hml : c.maxLocals = 5) (hown : s.vm.findClass R_Md = some m.cls) (hts : ∀ w ∈ wd_Md_type, w.before args s = true) (hlocks : meth.locks = false) {A : Nat → Prop} (hA : ∀ q, s.heap.size ≤ q → A q) (hE : ev A s) {D : va_G} {cA : Nat → ClassId} (hK : va_K D classes (tys cA) s) (a_t a_t_disk a_t_tape a_t_waitBlock a_t_waitByte a_t_waitOldest : Nat) (t_first t_last : Value) (n_t_disk : Nat) (t_disk : Nat → Int32) (n_t_tape : Nat) (t_tape : Nat → Int32) (t_tapeLong : Int32) (t_kept : Int32) (t_next : Int32) (t_come : Int32) (t_crashes : Int32) (t_thrown : Int32) (t_open : Int32) (t_openFirst : Int32) (t_openMany : Int32) (t_openBytes : Int32) (t_nextPage : Int32) (t_turn : Int32) (t_oldest : Int32) (n_t_waitBlock : Nat) (t_waitBlock : Nat → Int32) (n_t_waitByte : Nat) (t_waitByte : Nat → Int32) (n_t_waitOldest : Nat) (t_waitOldest : Nat → Int32) (t_waiting : Int32) (p0 : Int64) (p1 : Int32) (t_tapeLong_0 : Int32) (t_thrown_0 : Int32) (o : Int32 × (Nat → Int32) × Int32 × Int32) :
    ∀ (n : Nat) (t_tape' : Nat → Int32) (x4 : Int32) (H : Heap) (locs : List Loc), f_Md_type_L32 n_t_disk t_disk n_t_tape t_tape t_tapeLong t_kept t_next t_come t_crashes t_thrown t_open t_openFirst t_openMany t_openBytes t_nextPage t_turn t_oldest n_t_waitBlock t_waitBlock n_t_waitByte t_waitByte n_t_waitOldest t_waitOldest t_waiting p0 p1 t_tapeLong_0 t_thrown_0 n t_tape' x4 = some o → va_P D classes [(a_t, .inr (8, [.ref a_t_disk, .ref a_t_tape, .int t_tapeLong_0, t_first, t_last, .int t_kept, .int t_next, .int t_come, .int t_crashes, .int t_thrown_0, .int t_open, .int t_openFirst, .int t_openMany, .int t_openBytes, .int t_nextPage, .int t_turn, .int t_oldest, .ref a_t_waitBlock, .ref a_t_waitByte, .ref a_t_waitOldest, .int t_waiting])), (a_t_disk, .inl ((cA 0), n_t_disk, .inl t_disk)), (a_t_tape, .inl ((cA 0), n_t_tape, .inl t_tape')), (a_t_waitBlock, .inl ((cA 0), n_t_waitBlock, .inl t_waitBlock)), (a_t_waitByte, .inl ((cA 0), n_t_waitByte, .inl t_waitByte)), (a_t_waitOldest, .inl ((cA 0), n_t_waitOldest, .inl t_waitOldest))] H → va_D A [(a_t, .inr (8, [.ref a_t_disk, .ref a_t_tape, .int t_tapeLong_0, t_first, t_last, .int t_kept, .int t_next, .int t_come, .int t_crashes, .int t_thrown_0, .int t_open, .int t_openFirst, .int t_openMany, .int t_openBytes, .int t_nextPage, .int t_turn, .int t_oldest, .ref a_t_waitBlock, .ref a_t_waitByte, .ref a_t_waitOldest, .int t_waiting])), (a_t_disk, .inl ((cA 0), n_t_disk, .inl t_disk)), (a_t_tape, .inl ((cA 0), n_t_tape, .inl t_tape')), (a_t_waitBlock, .inl ((cA 0), n_t_waitBlock, .inl t_waitBlock)), (a_t_waitByte, .inl ((cA 0), n_t_waitByte, .inl t_waitByte)), (a_t_waitOldest, .inl ((cA 0), n_t_waitOldest, .inl t_waitOldest))] → va_S A s.heap H locs → ∀ ls : Array Slot, lv_has ls 5 [(0, .ref a_t), (1, .long p0), (3, .int p1), (4, .int x4)] → W p l e ({ frames := 0, cells := 0, slots := 0, locals := 0 }) s m args below meth c H locs 0 0 (MQ below (va_Qi (fun r9 (_ : Unit) => r9 = o.1) (fun _ => aR D cA A [(a_t, .inr (8, [.ref a_t_disk, .ref a_t_tape, .int o.2.2.1, t_first, t_last, .int t_kept, .int t_next, .int t_come, .int t_crashes, .int o.2.2.2, .int t_open, .int t_openFirst, .int t_openMany, .int t_openBytes, .int t_nextPage, .int t_turn, .int t_oldest, .ref a_t_waitBlock, .ref a_t_waitByte, .ref a_t_waitOldest, .int t_waiting])), (a_t_disk, .inl ((cA 0), n_t_disk, .inl t_disk)), (a_t_tape, .inl ((cA 0), n_t_tape, .inl o.2.1)), (a_t_waitBlock, .inl ((cA 0), n_t_waitBlock, .inl t_waitBlock)), (a_t_waitByte, .inl ((cA 0), n_t_waitByte, .inl t_waitByte)), (a_t_waitOldest, .inl ((cA 0), n_t_waitOldest, .inl t_waitOldest))]) A) args s 0 0 A) (F0 m 32 ls []) := by
  intro n
  induction n with
  | zero =>
    intro t_tape' x4 H locs hf
    cases hf
  | succ n32 ih =>
    intro t_tape' x4 H locs hf hP hD hS ls hl
    rw [f_Md_type_L32.eq_2] at hf
    refine lv_iload hx hb d_Md_type_32 (lv_at hl 3 rfl) ?_
    refine lv_iload_n hx hb d_Md_type_34 rfl (lv_at hl 2 rfl) ?_
    refine lv_icmp_ge (tgt := 72) hx hb d_Md_type_35 (by decide) (fun c_4 => ?_) (fun c_4 => ?_)
    · replace hf := (if_pos c_4).symm.trans hf
      refine lv_aload_n hx hb d_Md_type_72 rfl (lv_at hl 0 rfl) ?_
      refine lv_dup hx hb d_Md_type_73 rfl ?_
      refine va_get (D := D) (ci := 8) (v := .int t_tapeLong_0) (C := R_Md) (T := F_Md) (N := 21) hx hb hts (fun w9 h9 => .tail _ (gu_Md w9 h9)) hown hK hP 0 rfl rfl 2 (by decide) (hts _ (.tail _ gm_301)) (fun _ h9 => h9) rfl d_Md_type_74 ?_
      refine lv_iload_n hx hb d_Md_type_77 rfl (lv_at hl 2 rfl) ?_
      refine lv_iadd hx hb d_Md_type_78 ?_
      refine va_put (D := D) (ci := 8) (v := .int (t_tapeLong_0 + p1)) (ty := .int) (C := R_Md) (T := F_Md) (N := 21) hx hb hts (fun w9 h9 => .tail _ (gu_Md w9 h9)) t_Md t_Md_ok n_Md hown hK hP hD hS 0 rfl rfl 2 (by decide) (hts _ (.tail _ gm_301)) (fun _ h9 => h9) rfl (by decide +kernel) rfl rfl (Nat.le_of_ble_eq_true rfl) d_Md_type_79 (fun H locs hP hD hS => ?_)
      have hP : va_P D classes [(a_t, .inr (8, [.ref a_t_disk, .ref a_t_tape, .int (t_tapeLong_0 + p1), t_first, t_last, .int t_kept, .int t_next, .int t_come, .int t_crashes, .int t_thrown_0, .int t_open, .int t_openFirst, .int t_openMany, .int t_openBytes, .int t_nextPage, .int t_turn, .int t_oldest, .ref a_t_waitBlock, .ref a_t_waitByte, .ref a_t_waitOldest, .int t_waiting])), (a_t_disk, .inl ((cA 0), n_t_disk, .inl t_disk)), (a_t_tape, .inl ((cA 0), n_t_tape, .inl t_tape')), (a_t_waitBlock, .inl ((cA 0), n_t_waitBlock, .inl t_waitBlock)), (a_t_waitByte, .inl ((cA 0), n_t_waitByte, .inl t_waitByte)), (a_t_waitOldest, .inl ((cA 0), n_t_waitOldest, .inl t_waitOldest))] H := hP
      have hD : va_D A [(a_t, .inr (8, [.ref a_t_disk, .ref a_t_tape, .int (t_tapeLong_0 + p1), t_first, t_last, .int t_kept, .int t_next, .int t_come, .int t_crashes, .int t_thrown_0, .int t_open, .int t_openFirst, .int t_openMany, .int t_openBytes, .int t_nextPage, .int t_turn, .int t_oldest, .ref a_t_waitBlock, .ref a_t_waitByte, .ref a_t_waitOldest, .int t_waiting])), (a_t_disk, .inl ((cA 0), n_t_disk, .inl t_disk)), (a_t_tape, .inl ((cA 0), n_t_tape, .inl t_tape')), (a_t_waitBlock, .inl ((cA 0), n_t_waitBlock, .inl t_waitBlock)), (a_t_waitByte, .inl ((cA 0), n_t_waitByte, .inl t_waitByte)), (a_t_waitOldest, .inl ((cA 0), n_t_waitOldest, .inl t_waitOldest))] := hD
      refine lv_iconst (v := 1) hx hb d_Md_type_82 (by decide) ?_
      have ho9 := Option.some.inj hf
      subst ho9
      have hP9 := hP.sub (ws' := [(a_t, .inr (8, [.ref a_t_disk, .ref a_t_tape, .int (t_tapeLong_0 + p1), t_first, t_last, .int t_kept, .int t_next, .int t_come, .int t_crashes, .int t_thrown_0, .int t_open, .int t_openFirst, .int t_openMany, .int t_openBytes, .int t_nextPage, .int t_turn, .int t_oldest, .ref a_t_waitBlock, .ref a_t_waitByte, .ref a_t_waitOldest, .int t_waiting])), (a_t_disk, .inl ((cA 0), n_t_disk, .inl t_disk)), (a_t_tape, .inl ((cA 0), n_t_tape, .inl t_tape')), (a_t_waitBlock, .inl ((cA 0), n_t_waitBlock, .inl t_waitBlock)), (a_t_waitByte, .inl ((cA 0), n_t_waitByte, .inl t_waitByte)), (a_t_waitOldest, .inl ((cA 0), n_t_waitOldest, .inl t_waitOldest))]) [0, 1, 2, 3, 4, 5] rfl
      have hD9 := hD.sub (ws' := [(a_t, .inr (8, [.ref a_t_disk, .ref a_t_tape, .int (t_tapeLong_0 + p1), t_first, t_last, .int t_kept, .int t_next, .int t_come, .int t_crashes, .int t_thrown_0, .int t_open, .int t_openFirst, .int t_openMany, .int t_openBytes, .int t_nextPage, .int t_turn, .int t_oldest, .ref a_t_waitBlock, .ref a_t_waitByte, .ref a_t_waitOldest, .int t_waiting])), (a_t_disk, .inl ((cA 0), n_t_disk, .inl t_disk)), (a_t_tape, .inl ((cA 0), n_t_tape, .inl t_tape')), (a_t_waitBlock, .inl ((cA 0), n_t_waitBlock, .inl t_waitBlock)), (a_t_waitByte, .inl ((cA 0), n_t_waitByte, .inl t_waitByte)), (a_t_waitOldest, .inl ((cA 0), n_t_waitOldest, .inl t_waitOldest))]) [0, 1, 2, 3, 4, 5] (by decide) rfl
      exact W.zret (v := (1 : Int32)) hx hb hr rfl (fun t ht hW => ⟨⟨_, (), rfl, rfl, by rw [ht]; exact hP9, va_K.moved hW.alike hK, hD9⟩, hS.F ht⟩) hS.2.2 d_Md_type_83
    · replace hf := (if_neg c_4).symm.trans hf
      refine lv_aload_n hx hb d_Md_type_38 rfl (lv_at hl 0 rfl) ?_
      refine va_get (D := D) (ci := 8) (v := .ref a_t_tape) (C := R_Md) (T := F_Md) (N := 21) hx hb hts (fun w9 h9 => .tail _ (gu_Md w9 h9)) hown hK hP 0 rfl rfl 1 (by decide) (hts _ (.tail _ gm_302)) (fun _ h9 => h9) rfl d_Md_type_39 ?_
      refine lv_aload_n hx hb d_Md_type_42 rfl (lv_at hl 0 rfl) ?_
      refine va_get (D := D) (ci := 8) (v := .int t_tapeLong_0) (C := R_Md) (T := F_Md) (N := 21) hx hb hts (fun w9 h9 => .tail _ (gu_Md w9 h9)) hown hK hP 0 rfl rfl 2 (by decide) (hts _ (.tail _ gm_301)) (fun _ h9 => h9) rfl d_Md_type_43 ?_
      refine lv_iload hx hb d_Md_type_46 (lv_at hl 3 rfl) ?_
      refine lv_iadd hx hb d_Md_type_48 ?_
      refine lv_lload_n hx hb d_Md_type_49 rfl (lv_at hl 1 rfl) ?_
      refine lv_bipush (v := 8) hx hb d_Md_type_50 (by decide) ?_
      refine lv_iload_n hx hb d_Md_type_52 rfl (lv_at hl 2 rfl) ?_
      refine lv_iconst (v := 1) hx hb d_Md_type_53 (by decide) ?_
      refine lv_isub hx hb d_Md_type_54 ?_
      refine lv_iload hx hb d_Md_type_55 (lv_at hl 3 rfl) ?_
      refine lv_isub hx hb d_Md_type_57 ?_
      refine lv_imul hx hb d_Md_type_58 ?_
      refine lv_lushr hx hb d_Md_type_59 rfl ?_
      refine lv_ldc2 (v := (255 : Int64)) hx hb hown ((hts _ (.tail _ gm_303))) d_Md_type_60 ?_
      refine lv_land hx hb d_Md_type_63 ?_
      refine lv_l2i hx hb d_Md_type_64 rfl ?_
      obtain ⟨ck_5, hf⟩ := hk_if hf
      refine va_iast hx hb hK hP hD hS 2 0 rfl rfl ck_5 d_Md_type_65 (fun H locs hP hD hS => ?_)
      have hP : va_P D classes [(a_t, .inr (8, [.ref a_t_disk, .ref a_t_tape, .int t_tapeLong_0, t_first, t_last, .int t_kept, .int t_next, .int t_come, .int t_crashes, .int t_thrown_0, .int t_open, .int t_openFirst, .int t_openMany, .int t_openBytes, .int t_nextPage, .int t_turn, .int t_oldest, .ref a_t_waitBlock, .ref a_t_waitByte, .ref a_t_waitOldest, .int t_waiting])), (a_t_disk, .inl ((cA 0), n_t_disk, .inl t_disk)), (a_t_tape, .inl ((cA 0), n_t_tape, .inl (upd t_tape' (t_tapeLong_0 + x4).toNatClampNeg ((p0.toUInt64 >>> (((8 : Int32) * ((p1 - (1 : Int32)) - x4)).toInt64.toUInt64 &&& Int64.toUInt64 63)).toInt64 &&& (255 : Int64)).toInt32))), (a_t_waitBlock, .inl ((cA 0), n_t_waitBlock, .inl t_waitBlock)), (a_t_waitByte, .inl ((cA 0), n_t_waitByte, .inl t_waitByte)), (a_t_waitOldest, .inl ((cA 0), n_t_waitOldest, .inl t_waitOldest))] H := hP
      have hD : va_D A [(a_t, .inr (8, [.ref a_t_disk, .ref a_t_tape, .int t_tapeLong_0, t_first, t_last, .int t_kept, .int t_next, .int t_come, .int t_crashes, .int t_thrown_0, .int t_open, .int t_openFirst, .int t_openMany, .int t_openBytes, .int t_nextPage, .int t_turn, .int t_oldest, .ref a_t_waitBlock, .ref a_t_waitByte, .ref a_t_waitOldest, .int t_waiting])), (a_t_disk, .inl ((cA 0), n_t_disk, .inl t_disk)), (a_t_tape, .inl ((cA 0), n_t_tape, .inl (upd t_tape' (t_tapeLong_0 + x4).toNatClampNeg ((p0.toUInt64 >>> (((8 : Int32) * ((p1 - (1 : Int32)) - x4)).toInt64.toUInt64 &&& Int64.toUInt64 63)).toInt64 &&& (255 : Int64)).toInt32))), (a_t_waitBlock, .inl ((cA 0), n_t_waitBlock, .inl t_waitBlock)), (a_t_waitByte, .inl ((cA 0), n_t_waitByte, .inl t_waitByte)), (a_t_waitOldest, .inl ((cA 0), n_t_waitOldest, .inl t_waitOldest))] := hD
      refine lv_iinc (v := (x4 + (1 : Int32))) (lv' := [(4, .int (x4 + (1 : Int32))), (0, .ref a_t), (1, .long p0), (3, .int p1)]) hx hb d_Md_type_66 hl (k := 3) rfl rfl (by decide) rfl (fun ls hl => ?_)
      refine lv_goto (tgt := 32) hx hb d_Md_type_69 (by decide) ?_
      exact ih (upd t_tape' (t_tapeLong_0 + x4).toNatClampNeg ((p0.toUInt64 >>> (((8 : Int32) * ((p1 - (1 : Int32)) - x4)).toInt64.toUInt64 &&& Int64.toUInt64 63)).toInt64 &&& (255 : Int64)).toInt32) (x4 + (1 : Int32)) _ _ hf (hP.sub [0, 1, 2, 3, 4, 5] rfl) (hD.sub [0, 1, 2, 3, 4, 5] (by decide) rfl) hS ls (lv_sub hl [1, 2, 3, 0] rfl)
set_option maxHeartbeats 4000000 in
set_option maxRecDepth 100000 in
theorem c_Md_type (l : Launch) (D : va_G) (cA : Nat → ClassId) (a_t a_t_disk a_t_tape a_t_waitBlock a_t_waitByte a_t_waitOldest : Nat) (t_first t_last : Value) (sz : Nat) (n_t_disk : Nat) (t_disk : Nat → Int32) (n_t_tape : Nat) (t_tape : Nat → Int32) (t_tapeLong : Int32) (t_kept : Int32) (t_next : Int32) (t_come : Int32) (t_crashes : Int32) (t_thrown : Int32) (t_open : Int32) (t_openFirst : Int32) (t_openMany : Int32) (t_openBytes : Int32) (t_nextPage : Int32) (t_turn : Int32) (t_oldest : Int32) (n_t_waitBlock : Nat) (t_waitBlock : Nat → Int32) (n_t_waitByte : Nat) (t_waitByte : Nat → Int32) (n_t_waitOldest : Nat) (t_waitOldest : Nat → Int32) (t_waiting : Int32) (p0 : Int64) (p1 : Int32) (o : Int32 × (Nat → Int32) × Int32 × Int32) (hf : f_Md_type n_t_disk t_disk n_t_tape t_tape t_tapeLong t_kept t_next t_come t_crashes t_thrown t_open t_openFirst t_openMany t_openBytes t_nextPage t_turn t_oldest n_t_waitBlock t_waitBlock n_t_waitByte t_waitByte n_t_waitOldest t_waitOldest t_waiting p0 p1 = some o) : Met l y_Md_type wd_Md_type ({ frames := 0, cells := 0, slots := 0, locals := 0 }) (va_Pc [.ref a_t, .long p0, .int p1] (aP D cA [(a_t, .inr (8, [.ref a_t_disk, .ref a_t_tape, .int t_tapeLong, t_first, t_last, .int t_kept, .int t_next, .int t_come, .int t_crashes, .int t_thrown, .int t_open, .int t_openFirst, .int t_openMany, .int t_openBytes, .int t_nextPage, .int t_turn, .int t_oldest, .ref a_t_waitBlock, .ref a_t_waitByte, .ref a_t_waitOldest, .int t_waiting])), (a_t_disk, .inl ((cA 0), n_t_disk, .inl t_disk)), (a_t_tape, .inl ((cA 0), n_t_tape, .inl t_tape)), (a_t_waitBlock, .inl ((cA 0), n_t_waitBlock, .inl t_waitBlock)), (a_t_waitByte, .inl ((cA 0), n_t_waitByte, .inl t_waitByte)), (a_t_waitOldest, .inl ((cA 0), n_t_waitOldest, .inl t_waitOldest))] sz)) (va_Qi (fun r9 (_ : Unit) => r9 = o.1) (fun _ => aR D cA (va_A [(a_t, .inr (8, [.ref a_t_disk, .ref a_t_tape, .int t_tapeLong, t_first, t_last, .int t_kept, .int t_next, .int t_come, .int t_crashes, .int t_thrown, .int t_open, .int t_openFirst, .int t_openMany, .int t_openBytes, .int t_nextPage, .int t_turn, .int t_oldest, .ref a_t_waitBlock, .ref a_t_waitByte, .ref a_t_waitOldest, .int t_waiting])), (a_t_disk, .inl ((cA 0), n_t_disk, .inl t_disk)), (a_t_tape, .inl ((cA 0), n_t_tape, .inl t_tape)), (a_t_waitBlock, .inl ((cA 0), n_t_waitBlock, .inl t_waitBlock)), (a_t_waitByte, .inl ((cA 0), n_t_waitByte, .inl t_waitByte)), (a_t_waitOldest, .inl ((cA 0), n_t_waitOldest, .inl t_waitOldest))] sz) [(a_t, .inr (8, [.ref a_t_disk, .ref a_t_tape, .int o.2.2.1, t_first, t_last, .int t_kept, .int t_next, .int t_come, .int t_crashes, .int o.2.2.2, .int t_open, .int t_openFirst, .int t_openMany, .int t_openBytes, .int t_nextPage, .int t_turn, .int t_oldest, .ref a_t_waitBlock, .ref a_t_waitByte, .ref a_t_waitOldest, .int t_waiting])), (a_t_disk, .inl ((cA 0), n_t_disk, .inl t_disk)), (a_t_tape, .inl ((cA 0), n_t_tape, .inl o.2.1)), (a_t_waitBlock, .inl ((cA 0), n_t_waitBlock, .inl t_waitBlock)), (a_t_waitByte, .inl ((cA 0), n_t_waitByte, .inl t_waitByte)), (a_t_waitOldest, .inl ((cA 0), n_t_waitOldest, .inl t_waitOldest))]) (va_A [(a_t, .inr (8, [.ref a_t_disk, .ref a_t_tape, .int t_tapeLong, t_first, t_last, .int t_kept, .int t_next, .int t_come, .int t_crashes, .int t_thrown, .int t_open, .int t_openFirst, .int t_openMany, .int t_openBytes, .int t_nextPage, .int t_turn, .int t_oldest, .ref a_t_waitBlock, .ref a_t_waitByte, .ref a_t_waitOldest, .int t_waiting])), (a_t_disk, .inl ((cA 0), n_t_disk, .inl t_disk)), (a_t_tape, .inl ((cA 0), n_t_tape, .inl t_tape)), (a_t_waitBlock, .inl ((cA 0), n_t_waitBlock, .inl t_waitBlock)), (a_t_waitByte, .inl ((cA 0), n_t_waitByte, .inl t_waitByte)), (a_t_waitOldest, .inl ((cA 0), n_t_waitOldest, .inl t_waitOldest))] sz)) 0 0 (va_A [(a_t, .inr (8, [.ref a_t_disk, .ref a_t_tape, .int t_tapeLong, t_first, t_last, .int t_kept, .int t_next, .int t_come, .int t_crashes, .int t_thrown, .int t_open, .int t_openFirst, .int t_openMany, .int t_openBytes, .int t_nextPage, .int t_turn, .int t_oldest, .ref a_t_waitBlock, .ref a_t_waitByte, .ref a_t_waitOldest, .int t_waiting])), (a_t_disk, .inl ((cA 0), n_t_disk, .inl t_disk)), (a_t_tape, .inl ((cA 0), n_t_tape, .inl t_tape)), (a_t_waitBlock, .inl ((cA 0), n_t_waitBlock, .inl t_waitBlock)), (a_t_waitByte, .inl ((cA 0), n_t_waitByte, .inl t_waitByte)), (a_t_waitOldest, .inl ((cA 0), n_t_waitOldest, .inl t_waitOldest))] sz) := by
  refine Met.ofW (cc := b_Md_type) (maxL := 5) (ret := (some .boolean)) (by decide +kernel) rfl ?_
  intro p e s m args below meth c s₁ B hml hv
  obtain ⟨rfl, hsz, hP, hK, hD0, hE⟩ := hv
  have hx := B.exec
  have hb := B.bytes
  have hr := B.returns
  have hts := atoms_spec (ws := wd_Md_type) B.pre
  have hown : s.vm.findClass R_Md = some m.cls := findClass_of_methodNamed B.named
  have hlocks := B.notSynchronized
  subst hsz
  have hD := hD0.self (sz := s.heap.size)
  generalize hAe : va_A [(a_t, .inr (8, [.ref a_t_disk, .ref a_t_tape, .int t_tapeLong, t_first, t_last, .int t_kept, .int t_next, .int t_come, .int t_crashes, .int t_thrown, .int t_open, .int t_openFirst, .int t_openMany, .int t_openBytes, .int t_nextPage, .int t_turn, .int t_oldest, .ref a_t_waitBlock, .ref a_t_waitByte, .ref a_t_waitOldest, .int t_waiting])), (a_t_disk, .inl ((cA 0), n_t_disk, .inl t_disk)), (a_t_tape, .inl ((cA 0), n_t_tape, .inl t_tape)), (a_t_waitBlock, .inl ((cA 0), n_t_waitBlock, .inl t_waitBlock)), (a_t_waitByte, .inl ((cA 0), n_t_waitByte, .inl t_waitByte)), (a_t_waitOldest, .inl ((cA 0), n_t_waitOldest, .inl t_waitOldest))] s.heap.size = A at hD hE ⊢
  have hA : ∀ q : Nat, s.heap.size ≤ q → A q := fun q h => by rw [← hAe]; exact Or.inr h
  have hS : va_S A s.heap s.heap [] := va_S.rf
  have hl := lv_entry [.ref a_t, .long p0, .int p1] (n := 5) (Nat.le_of_ble_eq_true rfl)
  rw [lg_entry_eq]
  generalize (lg_sl [.ref a_t, .long p0, .int p1] ++ List.replicate (5 - (lg_sl [.ref a_t, .long p0, .int p1]).length) Slot.unset).toArray = ls at hl ⊢
  have hl : lv_has ls 5 [(0, .ref a_t), (1, .long p0), (3, .int p1)] := hl
  unfold f_Md_type at hf
  refine lv_aload_n hx hb d_Md_type_0 rfl (lv_at hl 0 rfl) ?_
  refine lv_iconst (v := 0) hx hb d_Md_type_1 (by decide) ?_
  refine va_put (D := D) (ci := 8) (v := .int (0 : Int32)) (ty := .int) (C := R_Md) (T := F_Md) (N := 21) hx hb hts (fun w9 h9 => .tail _ (gu_Md w9 h9)) t_Md t_Md_ok n_Md hown hK hP hD hS 0 rfl rfl 9 (by decide) (hts _ (.tail _ gm_293)) (fun _ h9 => h9) rfl (by decide +kernel) rfl rfl (Nat.le_of_ble_eq_true rfl) d_Md_type_2 (fun H locs hP hD hS => ?_)
  have hP : va_P D classes [(a_t, .inr (8, [.ref a_t_disk, .ref a_t_tape, .int t_tapeLong, t_first, t_last, .int t_kept, .int t_next, .int t_come, .int t_crashes, .int (0 : Int32), .int t_open, .int t_openFirst, .int t_openMany, .int t_openBytes, .int t_nextPage, .int t_turn, .int t_oldest, .ref a_t_waitBlock, .ref a_t_waitByte, .ref a_t_waitOldest, .int t_waiting])), (a_t_disk, .inl ((cA 0), n_t_disk, .inl t_disk)), (a_t_tape, .inl ((cA 0), n_t_tape, .inl t_tape)), (a_t_waitBlock, .inl ((cA 0), n_t_waitBlock, .inl t_waitBlock)), (a_t_waitByte, .inl ((cA 0), n_t_waitByte, .inl t_waitByte)), (a_t_waitOldest, .inl ((cA 0), n_t_waitOldest, .inl t_waitOldest))] H := hP
  have hD : va_D A [(a_t, .inr (8, [.ref a_t_disk, .ref a_t_tape, .int t_tapeLong, t_first, t_last, .int t_kept, .int t_next, .int t_come, .int t_crashes, .int (0 : Int32), .int t_open, .int t_openFirst, .int t_openMany, .int t_openBytes, .int t_nextPage, .int t_turn, .int t_oldest, .ref a_t_waitBlock, .ref a_t_waitByte, .ref a_t_waitOldest, .int t_waiting])), (a_t_disk, .inl ((cA 0), n_t_disk, .inl t_disk)), (a_t_tape, .inl ((cA 0), n_t_tape, .inl t_tape)), (a_t_waitBlock, .inl ((cA 0), n_t_waitBlock, .inl t_waitBlock)), (a_t_waitByte, .inl ((cA 0), n_t_waitByte, .inl t_waitByte)), (a_t_waitOldest, .inl ((cA 0), n_t_waitOldest, .inl t_waitOldest))] := hD
  refine lv_iload_n hx hb d_Md_type_5 rfl (lv_at hl 2 rfl) ?_
  refine lv_iconst (v := 1) hx hb d_Md_type_6 (by decide) ?_
  refine lv_icmp_lt (tgt := 27) hx hb d_Md_type_7 (by decide) (fun c_1 => ?_) (fun c_1 => ?_)
  · replace hf := (if_pos c_1).symm.trans hf
    refine lv_iconst (v := 0) hx hb d_Md_type_27 (by decide) ?_
    have ho9 := Option.some.inj hf
    subst ho9
    have hP9 := hP.sub (ws' := [(a_t, .inr (8, [.ref a_t_disk, .ref a_t_tape, .int t_tapeLong, t_first, t_last, .int t_kept, .int t_next, .int t_come, .int t_crashes, .int (0 : Int32), .int t_open, .int t_openFirst, .int t_openMany, .int t_openBytes, .int t_nextPage, .int t_turn, .int t_oldest, .ref a_t_waitBlock, .ref a_t_waitByte, .ref a_t_waitOldest, .int t_waiting])), (a_t_disk, .inl ((cA 0), n_t_disk, .inl t_disk)), (a_t_tape, .inl ((cA 0), n_t_tape, .inl t_tape)), (a_t_waitBlock, .inl ((cA 0), n_t_waitBlock, .inl t_waitBlock)), (a_t_waitByte, .inl ((cA 0), n_t_waitByte, .inl t_waitByte)), (a_t_waitOldest, .inl ((cA 0), n_t_waitOldest, .inl t_waitOldest))]) [0, 1, 2, 3, 4, 5] rfl
    have hD9 := hD.sub (ws' := [(a_t, .inr (8, [.ref a_t_disk, .ref a_t_tape, .int t_tapeLong, t_first, t_last, .int t_kept, .int t_next, .int t_come, .int t_crashes, .int (0 : Int32), .int t_open, .int t_openFirst, .int t_openMany, .int t_openBytes, .int t_nextPage, .int t_turn, .int t_oldest, .ref a_t_waitBlock, .ref a_t_waitByte, .ref a_t_waitOldest, .int t_waiting])), (a_t_disk, .inl ((cA 0), n_t_disk, .inl t_disk)), (a_t_tape, .inl ((cA 0), n_t_tape, .inl t_tape)), (a_t_waitBlock, .inl ((cA 0), n_t_waitBlock, .inl t_waitBlock)), (a_t_waitByte, .inl ((cA 0), n_t_waitByte, .inl t_waitByte)), (a_t_waitOldest, .inl ((cA 0), n_t_waitOldest, .inl t_waitOldest))]) [0, 1, 2, 3, 4, 5] (by decide) rfl
    exact W.zret (v := (0 : Int32)) hx hb hr rfl (fun t ht hW => ⟨⟨_, (), rfl, rfl, by rw [ht]; exact hP9, va_K.moved hW.alike hK, hD9⟩, hS.F ht⟩) hS.2.2 d_Md_type_28
  · replace hf := (if_neg c_1).symm.trans hf
    refine lv_iload_n hx hb d_Md_type_10 rfl (lv_at hl 2 rfl) ?_
    refine lv_bipush (v := 8) hx hb d_Md_type_11 (by decide) ?_
    refine lv_icmp_gt (tgt := 27) hx hb d_Md_type_13 (by decide) (fun c_2 => ?_) (fun c_2 => ?_)
    · replace hf := (if_pos c_2).symm.trans hf
      refine lv_iconst (v := 0) hx hb d_Md_type_27 (by decide) ?_
      have ho9 := Option.some.inj hf
      subst ho9
      have hP9 := hP.sub (ws' := [(a_t, .inr (8, [.ref a_t_disk, .ref a_t_tape, .int t_tapeLong, t_first, t_last, .int t_kept, .int t_next, .int t_come, .int t_crashes, .int (0 : Int32), .int t_open, .int t_openFirst, .int t_openMany, .int t_openBytes, .int t_nextPage, .int t_turn, .int t_oldest, .ref a_t_waitBlock, .ref a_t_waitByte, .ref a_t_waitOldest, .int t_waiting])), (a_t_disk, .inl ((cA 0), n_t_disk, .inl t_disk)), (a_t_tape, .inl ((cA 0), n_t_tape, .inl t_tape)), (a_t_waitBlock, .inl ((cA 0), n_t_waitBlock, .inl t_waitBlock)), (a_t_waitByte, .inl ((cA 0), n_t_waitByte, .inl t_waitByte)), (a_t_waitOldest, .inl ((cA 0), n_t_waitOldest, .inl t_waitOldest))]) [0, 1, 2, 3, 4, 5] rfl
      have hD9 := hD.sub (ws' := [(a_t, .inr (8, [.ref a_t_disk, .ref a_t_tape, .int t_tapeLong, t_first, t_last, .int t_kept, .int t_next, .int t_come, .int t_crashes, .int (0 : Int32), .int t_open, .int t_openFirst, .int t_openMany, .int t_openBytes, .int t_nextPage, .int t_turn, .int t_oldest, .ref a_t_waitBlock, .ref a_t_waitByte, .ref a_t_waitOldest, .int t_waiting])), (a_t_disk, .inl ((cA 0), n_t_disk, .inl t_disk)), (a_t_tape, .inl ((cA 0), n_t_tape, .inl t_tape)), (a_t_waitBlock, .inl ((cA 0), n_t_waitBlock, .inl t_waitBlock)), (a_t_waitByte, .inl ((cA 0), n_t_waitByte, .inl t_waitByte)), (a_t_waitOldest, .inl ((cA 0), n_t_waitOldest, .inl t_waitOldest))]) [0, 1, 2, 3, 4, 5] (by decide) rfl
      exact W.zret (v := (0 : Int32)) hx hb hr rfl (fun t ht hW => ⟨⟨_, (), rfl, rfl, by rw [ht]; exact hP9, va_K.moved hW.alike hK, hD9⟩, hS.F ht⟩) hS.2.2 d_Md_type_28
    · replace hf := (if_neg c_2).symm.trans hf
      refine lv_aload_n hx hb d_Md_type_16 rfl (lv_at hl 0 rfl) ?_
      refine va_get (D := D) (ci := 8) (v := .int t_tapeLong) (C := R_Md) (T := F_Md) (N := 21) hx hb hts (fun w9 h9 => .tail _ (gu_Md w9 h9)) hown hK hP 0 rfl rfl 2 (by decide) (hts _ (.tail _ gm_301)) (fun _ h9 => h9) rfl d_Md_type_17 ?_
      refine lv_iload_n hx hb d_Md_type_20 rfl (lv_at hl 2 rfl) ?_
      refine lv_iadd hx hb d_Md_type_21 ?_
      refine lv_bipush (v := 40) hx hb d_Md_type_22 (by decide) ?_
      refine lv_icmp_le (tgt := 29) hx hb d_Md_type_24 (by decide) (fun c_3 => ?_) (fun c_3 => ?_)
      · replace hf := (if_pos c_3).symm.trans hf
        refine lv_iconst (v := 0) hx hb d_Md_type_29 (by decide) ?_
        refine lv_istore (lv' := [(4, .int (0 : Int32)), (0, .ref a_t), (1, .long p0), (3, .int p1)]) hx hb d_Md_type_30 hl (by decide) rfl (fun ls hl => ?_)
        exact k_Md_type_L32 hx hb hr hml hown hts hlocks hA hE hK a_t a_t_disk a_t_tape a_t_waitBlock a_t_waitByte a_t_waitOldest t_first t_last n_t_disk t_disk n_t_tape t_tape t_tapeLong t_kept t_next t_come t_crashes t_thrown t_open t_openFirst t_openMany t_openBytes t_nextPage t_turn t_oldest n_t_waitBlock t_waitBlock n_t_waitByte t_waitByte n_t_waitOldest t_waitOldest t_waiting p0 p1 t_tapeLong (0 : Int32) _ _ t_tape (0 : Int32) _ _ hf (hP.sub [0, 1, 2, 3, 4, 5] rfl) (hD.sub [0, 1, 2, 3, 4, 5] (by decide) rfl) hS ls (lv_sub hl [1, 2, 3, 0] rfl)
      · replace hf := (if_neg c_3).symm.trans hf
        refine lv_iconst (v := 0) hx hb d_Md_type_27 (by decide) ?_
        have ho9 := Option.some.inj hf
        subst ho9
        have hP9 := hP.sub (ws' := [(a_t, .inr (8, [.ref a_t_disk, .ref a_t_tape, .int t_tapeLong, t_first, t_last, .int t_kept, .int t_next, .int t_come, .int t_crashes, .int (0 : Int32), .int t_open, .int t_openFirst, .int t_openMany, .int t_openBytes, .int t_nextPage, .int t_turn, .int t_oldest, .ref a_t_waitBlock, .ref a_t_waitByte, .ref a_t_waitOldest, .int t_waiting])), (a_t_disk, .inl ((cA 0), n_t_disk, .inl t_disk)), (a_t_tape, .inl ((cA 0), n_t_tape, .inl t_tape)), (a_t_waitBlock, .inl ((cA 0), n_t_waitBlock, .inl t_waitBlock)), (a_t_waitByte, .inl ((cA 0), n_t_waitByte, .inl t_waitByte)), (a_t_waitOldest, .inl ((cA 0), n_t_waitOldest, .inl t_waitOldest))]) [0, 1, 2, 3, 4, 5] rfl
        have hD9 := hD.sub (ws' := [(a_t, .inr (8, [.ref a_t_disk, .ref a_t_tape, .int t_tapeLong, t_first, t_last, .int t_kept, .int t_next, .int t_come, .int t_crashes, .int (0 : Int32), .int t_open, .int t_openFirst, .int t_openMany, .int t_openBytes, .int t_nextPage, .int t_turn, .int t_oldest, .ref a_t_waitBlock, .ref a_t_waitByte, .ref a_t_waitOldest, .int t_waiting])), (a_t_disk, .inl ((cA 0), n_t_disk, .inl t_disk)), (a_t_tape, .inl ((cA 0), n_t_tape, .inl t_tape)), (a_t_waitBlock, .inl ((cA 0), n_t_waitBlock, .inl t_waitBlock)), (a_t_waitByte, .inl ((cA 0), n_t_waitByte, .inl t_waitByte)), (a_t_waitOldest, .inl ((cA 0), n_t_waitOldest, .inl t_waitOldest))]) [0, 1, 2, 3, 4, 5] (by decide) rfl
        exact W.zret (v := (0 : Int32)) hx hb hr rfl (fun t ht hW => ⟨⟨_, (), rfl, rfl, by rw [ht]; exact hP9, va_K.moved hW.alike hK, hD9⟩, hS.F ht⟩) hS.2.2 d_Md_type_28
theorem d_Md_comesFirst_0 : decode b_Md_comesFirst 0 = .ok (.iconst 0, 1) := by decide +kernel
theorem d_Md_comesFirst_1 : decode b_Md_comesFirst 1 = .ok (.istore_n 2, 1) := by decide +kernel
theorem d_Md_comesFirst_2 : decode b_Md_comesFirst 2 = .ok (.iload_n 2, 1) := by decide +kernel
theorem d_Md_comesFirst_3 : decode b_Md_comesFirst 3 = .ok (.iload_n 1, 1) := by decide +kernel
theorem d_Md_comesFirst_4 : decode b_Md_comesFirst 4 = .ok (.if_icmp .ge 31, 3) := by decide +kernel
theorem d_Md_comesFirst_7 : decode b_Md_comesFirst 7 = .ok (.aload_n 0, 1) := by decide +kernel
theorem d_Md_comesFirst_8 : decode b_Md_comesFirst 8 = .ok (.getfield 7, 3) := by decide +kernel
theorem d_Md_comesFirst_11 : decode b_Md_comesFirst 11 = .ok (.bipush 64, 2) := by decide +kernel
theorem d_Md_comesFirst_13 : decode b_Md_comesFirst 13 = .ok (.aload_n 0, 1) := by decide +kernel
theorem d_Md_comesFirst_14 : decode b_Md_comesFirst 14 = .ok (.getfield 38, 3) := by decide +kernel
theorem d_Md_comesFirst_17 : decode b_Md_comesFirst 17 = .ok (.iconst 0, 1) := by decide +kernel
theorem d_Md_comesFirst_18 : decode b_Md_comesFirst 18 = .ok (.iaload, 1) := by decide +kernel
theorem d_Md_comesFirst_19 : decode b_Md_comesFirst 19 = .ok (.imul, 1) := by decide +kernel
theorem d_Md_comesFirst_20 : decode b_Md_comesFirst 20 = .ok (.iload_n 2, 1) := by decide +kernel
theorem d_Md_comesFirst_21 : decode b_Md_comesFirst 21 = .ok (.iadd, 1) := by decide +kernel
theorem d_Md_comesFirst_22 : decode b_Md_comesFirst 22 = .ok (.aload_n 0, 1) := by decide +kernel
theorem d_Md_comesFirst_23 : decode b_Md_comesFirst 23 = .ok (.getfield 41, 3) := by decide +kernel
theorem d_Md_comesFirst_26 : decode b_Md_comesFirst 26 = .ok (.iload_n 2, 1) := by decide +kernel
theorem d_Md_comesFirst_27 : decode b_Md_comesFirst 27 = .ok (.iaload, 1) := by decide +kernel
theorem d_Md_comesFirst_28 : decode b_Md_comesFirst 28 = .ok (.iastore, 1) := by decide +kernel
theorem d_Md_comesFirst_29 : decode b_Md_comesFirst 29 = .ok (.iinc 2 1, 3) := by decide +kernel
theorem d_Md_comesFirst_32 : decode b_Md_comesFirst 32 = .ok (.goto (-30), 3) := by decide +kernel
theorem d_Md_comesFirst_35 : decode b_Md_comesFirst 35 = .ok (.iload_n 1, 1) := by decide +kernel
theorem d_Md_comesFirst_36 : decode b_Md_comesFirst 36 = .ok (.bipush 64, 2) := by decide +kernel
theorem d_Md_comesFirst_38 : decode b_Md_comesFirst 38 = .ok (.if_icmp .ne 22, 3) := by decide +kernel
theorem d_Md_comesFirst_41 : decode b_Md_comesFirst 41 = .ok (.aload_n 0, 1) := by decide +kernel
theorem d_Md_comesFirst_42 : decode b_Md_comesFirst 42 = .ok (.getfield 44, 3) := by decide +kernel
theorem d_Md_comesFirst_45 : decode b_Md_comesFirst 45 = .ok (.iconst 0, 1) := by decide +kernel
theorem d_Md_comesFirst_46 : decode b_Md_comesFirst 46 = .ok (.iaload, 1) := by decide +kernel
theorem d_Md_comesFirst_47 : decode b_Md_comesFirst 47 = .ok (.ifCond .le 13, 3) := by decide +kernel
theorem d_Md_comesFirst_50 : decode b_Md_comesFirst 50 = .ok (.aload_n 0, 1) := by decide +kernel
theorem d_Md_comesFirst_51 : decode b_Md_comesFirst 51 = .ok (.aload_n 0, 1) := by decide +kernel
theorem d_Md_comesFirst_52 : decode b_Md_comesFirst 52 = .ok (.getfield 44, 3) := by decide +kernel
theorem d_Md_comesFirst_55 : decode b_Md_comesFirst 55 = .ok (.iconst 0, 1) := by decide +kernel
theorem d_Md_comesFirst_56 : decode b_Md_comesFirst 56 = .ok (.iaload, 1) := by decide +kernel
theorem d_Md_comesFirst_57 : decode b_Md_comesFirst 57 = .ok (.putfield 35, 3) := by decide +kernel
theorem d_Md_comesFirst_60 : decode b_Md_comesFirst 60 = .ok (.aload_n 0, 1) := by decide +kernel
theorem d_Md_comesFirst_61 : decode b_Md_comesFirst 61 = .ok (.dup, 1) := by decide +kernel
theorem d_Md_comesFirst_62 : decode b_Md_comesFirst 62 = .ok (.getfield 57, 3) := by decide +kernel
theorem d_Md_comesFirst_65 : decode b_Md_comesFirst 65 = .ok (.iconst 1, 1) := by decide +kernel
theorem d_Md_comesFirst_66 : decode b_Md_comesFirst 66 = .ok (.isub, 1) := by decide +kernel
theorem d_Md_comesFirst_67 : decode b_Md_comesFirst 67 = .ok (.putfield 57, 3) := by decide +kernel
theorem d_Md_comesFirst_70 : decode b_Md_comesFirst 70 = .ok (.iconst 0, 1) := by decide +kernel
theorem d_Md_comesFirst_71 : decode b_Md_comesFirst 71 = .ok (.istore_n 2, 1) := by decide +kernel
theorem d_Md_comesFirst_72 : decode b_Md_comesFirst 72 = .ok (.iload_n 2, 1) := by decide +kernel
theorem d_Md_comesFirst_73 : decode b_Md_comesFirst 73 = .ok (.aload_n 0, 1) := by decide +kernel
theorem d_Md_comesFirst_74 : decode b_Md_comesFirst 74 = .ok (.getfield 57, 3) := by decide +kernel
theorem d_Md_comesFirst_77 : decode b_Md_comesFirst 77 = .ok (.if_icmp .ge 37, 3) := by decide +kernel
theorem d_Md_comesFirst_80 : decode b_Md_comesFirst 80 = .ok (.aload_n 0, 1) := by decide +kernel
theorem d_Md_comesFirst_81 : decode b_Md_comesFirst 81 = .ok (.getfield 38, 3) := by decide +kernel
theorem d_Md_comesFirst_84 : decode b_Md_comesFirst 84 = .ok (.iload_n 2, 1) := by decide +kernel
theorem d_Md_comesFirst_85 : decode b_Md_comesFirst 85 = .ok (.aload_n 0, 1) := by decide +kernel
theorem d_Md_comesFirst_86 : decode b_Md_comesFirst 86 = .ok (.getfield 38, 3) := by decide +kernel
theorem d_Md_comesFirst_89 : decode b_Md_comesFirst 89 = .ok (.iload_n 2, 1) := by decide +kernel
theorem d_Md_comesFirst_90 : decode b_Md_comesFirst 90 = .ok (.iconst 1, 1) := by decide +kernel
theorem d_Md_comesFirst_91 : decode b_Md_comesFirst 91 = .ok (.iadd, 1) := by decide +kernel
theorem d_Md_comesFirst_92 : decode b_Md_comesFirst 92 = .ok (.iaload, 1) := by decide +kernel
theorem d_Md_comesFirst_93 : decode b_Md_comesFirst 93 = .ok (.iastore, 1) := by decide +kernel
theorem d_Md_comesFirst_94 : decode b_Md_comesFirst 94 = .ok (.aload_n 0, 1) := by decide +kernel
theorem d_Md_comesFirst_95 : decode b_Md_comesFirst 95 = .ok (.getfield 44, 3) := by decide +kernel
theorem d_Md_comesFirst_98 : decode b_Md_comesFirst 98 = .ok (.iload_n 2, 1) := by decide +kernel
theorem d_Md_comesFirst_99 : decode b_Md_comesFirst 99 = .ok (.aload_n 0, 1) := by decide +kernel
theorem d_Md_comesFirst_100 : decode b_Md_comesFirst 100 = .ok (.getfield 44, 3) := by decide +kernel
theorem d_Md_comesFirst_103 : decode b_Md_comesFirst 103 = .ok (.iload_n 2, 1) := by decide +kernel
theorem d_Md_comesFirst_104 : decode b_Md_comesFirst 104 = .ok (.iconst 1, 1) := by decide +kernel
theorem d_Md_comesFirst_105 : decode b_Md_comesFirst 105 = .ok (.iadd, 1) := by decide +kernel
theorem d_Md_comesFirst_106 : decode b_Md_comesFirst 106 = .ok (.iaload, 1) := by decide +kernel
theorem d_Md_comesFirst_107 : decode b_Md_comesFirst 107 = .ok (.iastore, 1) := by decide +kernel
theorem d_Md_comesFirst_108 : decode b_Md_comesFirst 108 = .ok (.iinc 2 1, 3) := by decide +kernel
theorem d_Md_comesFirst_111 : decode b_Md_comesFirst 111 = .ok (.goto (-39), 3) := by decide +kernel
theorem d_Md_comesFirst_114 : decode b_Md_comesFirst 114 = .ok (.iconst 0, 1) := by decide +kernel
theorem d_Md_comesFirst_115 : decode b_Md_comesFirst 115 = .ok (.istore_n 2, 1) := by decide +kernel
theorem d_Md_comesFirst_116 : decode b_Md_comesFirst 116 = .ok (.iload_n 2, 1) := by decide +kernel
theorem d_Md_comesFirst_117 : decode b_Md_comesFirst 117 = .ok (.bipush 64, 2) := by decide +kernel
theorem d_Md_comesFirst_119 : decode b_Md_comesFirst 119 = .ok (.aload_n 0, 1) := by decide +kernel
theorem d_Md_comesFirst_120 : decode b_Md_comesFirst 120 = .ok (.getfield 57, 3) := by decide +kernel
theorem d_Md_comesFirst_123 : decode b_Md_comesFirst 123 = .ok (.imul, 1) := by decide +kernel
theorem d_Md_comesFirst_124 : decode b_Md_comesFirst 124 = .ok (.if_icmp .ge 24, 3) := by decide +kernel
theorem d_Md_comesFirst_127 : decode b_Md_comesFirst 127 = .ok (.aload_n 0, 1) := by decide +kernel
theorem d_Md_comesFirst_128 : decode b_Md_comesFirst 128 = .ok (.getfield 41, 3) := by decide +kernel
theorem d_Md_comesFirst_131 : decode b_Md_comesFirst 131 = .ok (.iload_n 2, 1) := by decide +kernel
theorem d_Md_comesFirst_132 : decode b_Md_comesFirst 132 = .ok (.aload_n 0, 1) := by decide +kernel
theorem d_Md_comesFirst_133 : decode b_Md_comesFirst 133 = .ok (.getfield 41, 3) := by decide +kernel
theorem d_Md_comesFirst_136 : decode b_Md_comesFirst 136 = .ok (.iload_n 2, 1) := by decide +kernel
theorem d_Md_comesFirst_137 : decode b_Md_comesFirst 137 = .ok (.bipush 64, 2) := by decide +kernel
theorem d_Md_comesFirst_139 : decode b_Md_comesFirst 139 = .ok (.iadd, 1) := by decide +kernel
theorem d_Md_comesFirst_140 : decode b_Md_comesFirst 140 = .ok (.iaload, 1) := by decide +kernel
theorem d_Md_comesFirst_141 : decode b_Md_comesFirst 141 = .ok (.iastore, 1) := by decide +kernel
theorem d_Md_comesFirst_142 : decode b_Md_comesFirst 142 = .ok (.iinc 2 1, 3) := by decide +kernel
theorem d_Md_comesFirst_145 : decode b_Md_comesFirst 145 = .ok (.goto (-29), 3) := by decide +kernel
theorem d_Md_comesFirst_148 : decode b_Md_comesFirst 148 = .ok (.return_, 1) := by decide +kernel
abbrev wd_Md_comesFirst : List Cond := .code y_Md_comesFirst b_Md_comesFirst 3 none :: gw
def f_Md_comesFirst_L116 (n_t_disk : Nat) (t_disk : Nat → Int32) (n_t_tape : Nat) (t_tape : Nat → Int32) (t_tapeLong : Int32) (t_kept : Int32) (t_next : Int32) (t_come : Int32) (t_crashes : Int32) (t_thrown : Int32) (t_open : Int32) (t_openFirst : Int32) (t_openMany : Int32) (t_openBytes : Int32) (t_nextPage : Int32) (t_turn : Int32) (t_oldest : Int32) (n_t_waitBlock : Nat) (t_waitBlock : Nat → Int32) (n_t_waitByte : Nat) (t_waitByte : Nat → Int32) (n_t_waitOldest : Nat) (t_waitOldest : Nat → Int32) (t_waiting : Int32) (p0 : Int32) (t_disk_0 : Nat → Int32) (t_oldest_0 : Int32) (t_waitBlock_0 : Nat → Int32) (t_waitOldest_0 : Nat → Int32) (t_waiting_0 : Int32) : Nat → (Nat → Int32) → Int32 → Option ((Nat → Int32) × Int32 × (Nat → Int32) × (Nat → Int32) × (Nat → Int32) × Int32)
  | 0, _, _ => none
  | n116 + 1, t_waitByte', x2 =>
    if ((64 : Int32) * t_waiting_0) ≤ x2 then
      some (t_disk_0, t_oldest_0, t_waitBlock_0, t_waitByte', t_waitOldest_0, t_waiting_0)
    else
      if (x2 + (64 : Int32)) < 0 ∨ n_t_waitByte ≤ (x2 + (64 : Int32)).toNatClampNeg then none else
      if x2 < 0 ∨ n_t_waitByte ≤ x2.toNatClampNeg then none else
      f_Md_comesFirst_L116 n_t_disk t_disk n_t_tape t_tape t_tapeLong t_kept t_next t_come t_crashes t_thrown t_open t_openFirst t_openMany t_openBytes t_nextPage t_turn t_oldest n_t_waitBlock t_waitBlock n_t_waitByte t_waitByte n_t_waitOldest t_waitOldest t_waiting p0 t_disk_0 t_oldest_0 t_waitBlock_0 t_waitOldest_0 t_waiting_0 n116 (upd t_waitByte' x2.toNatClampNeg (t_waitByte' (x2 + (64 : Int32)).toNatClampNeg)) (x2 + (1 : Int32))
def f_Md_comesFirst_L72 (n_t_disk : Nat) (t_disk : Nat → Int32) (n_t_tape : Nat) (t_tape : Nat → Int32) (t_tapeLong : Int32) (t_kept : Int32) (t_next : Int32) (t_come : Int32) (t_crashes : Int32) (t_thrown : Int32) (t_open : Int32) (t_openFirst : Int32) (t_openMany : Int32) (t_openBytes : Int32) (t_nextPage : Int32) (t_turn : Int32) (t_oldest : Int32) (n_t_waitBlock : Nat) (t_waitBlock : Nat → Int32) (n_t_waitByte : Nat) (t_waitByte : Nat → Int32) (n_t_waitOldest : Nat) (t_waitOldest : Nat → Int32) (t_waiting : Int32) (p0 : Int32) (t_disk_0 : Nat → Int32) (t_oldest_0 : Int32) (t_waitByte_0 : Nat → Int32) (t_waiting_0 : Int32) : Nat → (Nat → Int32) → (Nat → Int32) → Int32 → Option ((Nat → Int32) × Int32 × (Nat → Int32) × (Nat → Int32) × (Nat → Int32) × Int32)
  | 0, _, _, _ => none
  | n72 + 1, t_waitBlock', t_waitOldest', x2 =>
    if t_waiting_0 ≤ x2 then
      f_Md_comesFirst_L116 n_t_disk t_disk n_t_tape t_tape t_tapeLong t_kept t_next t_come t_crashes t_thrown t_open t_openFirst t_openMany t_openBytes t_nextPage t_turn t_oldest n_t_waitBlock t_waitBlock n_t_waitByte t_waitByte n_t_waitOldest t_waitOldest t_waiting p0 t_disk_0 t_oldest_0 t_waitBlock' t_waitOldest' t_waiting_0 5000 t_waitByte_0 (0 : Int32)
    else
      if (x2 + (1 : Int32)) < 0 ∨ n_t_waitBlock ≤ (x2 + (1 : Int32)).toNatClampNeg then none else
      if x2 < 0 ∨ n_t_waitBlock ≤ x2.toNatClampNeg then none else
      if (x2 + (1 : Int32)) < 0 ∨ n_t_waitOldest ≤ (x2 + (1 : Int32)).toNatClampNeg then none else
      if x2 < 0 ∨ n_t_waitOldest ≤ x2.toNatClampNeg then none else
      f_Md_comesFirst_L72 n_t_disk t_disk n_t_tape t_tape t_tapeLong t_kept t_next t_come t_crashes t_thrown t_open t_openFirst t_openMany t_openBytes t_nextPage t_turn t_oldest n_t_waitBlock t_waitBlock n_t_waitByte t_waitByte n_t_waitOldest t_waitOldest t_waiting p0 t_disk_0 t_oldest_0 t_waitByte_0 t_waiting_0 n72 (upd t_waitBlock' x2.toNatClampNeg (t_waitBlock' (x2 + (1 : Int32)).toNatClampNeg)) (upd t_waitOldest' x2.toNatClampNeg (t_waitOldest' (x2 + (1 : Int32)).toNatClampNeg)) (x2 + (1 : Int32))
def f_Md_comesFirst_L2 (n_t_disk : Nat) (t_disk : Nat → Int32) (n_t_tape : Nat) (t_tape : Nat → Int32) (t_tapeLong : Int32) (t_kept : Int32) (t_next : Int32) (t_come : Int32) (t_crashes : Int32) (t_thrown : Int32) (t_open : Int32) (t_openFirst : Int32) (t_openMany : Int32) (t_openBytes : Int32) (t_nextPage : Int32) (t_turn : Int32) (t_oldest : Int32) (n_t_waitBlock : Nat) (t_waitBlock : Nat → Int32) (n_t_waitByte : Nat) (t_waitByte : Nat → Int32) (n_t_waitOldest : Nat) (t_waitOldest : Nat → Int32) (t_waiting : Int32) (p0 : Int32) (t_oldest_0 : Int32) (t_waitBlock_0 : Nat → Int32) (t_waitByte_0 : Nat → Int32) (t_waitOldest_0 : Nat → Int32) (t_waiting_0 : Int32) : Nat → (Nat → Int32) → Int32 → Option ((Nat → Int32) × Int32 × (Nat → Int32) × (Nat → Int32) × (Nat → Int32) × Int32)
  | 0, _, _ => none
  | n2 + 1, t_disk', x2 =>
    if p0 ≤ x2 then
      if p0 = (64 : Int32) then
        if (0 : Int32) < 0 ∨ n_t_waitOldest ≤ (0 : Int32).toNatClampNeg then none else
        if (t_waitOldest_0 (0 : Int32).toNatClampNeg) ≤ 0 then
          f_Md_comesFirst_L72 n_t_disk t_disk n_t_tape t_tape t_tapeLong t_kept t_next t_come t_crashes t_thrown t_open t_openFirst t_openMany t_openBytes t_nextPage t_turn t_oldest n_t_waitBlock t_waitBlock n_t_waitByte t_waitByte n_t_waitOldest t_waitOldest t_waiting p0 t_disk' t_oldest_0 t_waitByte_0 (t_waiting_0 - (1 : Int32)) 5000 t_waitBlock_0 t_waitOldest_0 (0 : Int32)
        else
          if (0 : Int32) < 0 ∨ n_t_waitOldest ≤ (0 : Int32).toNatClampNeg then none else
          f_Md_comesFirst_L72 n_t_disk t_disk n_t_tape t_tape t_tapeLong t_kept t_next t_come t_crashes t_thrown t_open t_openFirst t_openMany t_openBytes t_nextPage t_turn t_oldest n_t_waitBlock t_waitBlock n_t_waitByte t_waitByte n_t_waitOldest t_waitOldest t_waiting p0 t_disk' (t_waitOldest_0 (0 : Int32).toNatClampNeg) t_waitByte_0 (t_waiting_0 - (1 : Int32)) 5000 t_waitBlock_0 t_waitOldest_0 (0 : Int32)
      else
        f_Md_comesFirst_L72 n_t_disk t_disk n_t_tape t_tape t_tapeLong t_kept t_next t_come t_crashes t_thrown t_open t_openFirst t_openMany t_openBytes t_nextPage t_turn t_oldest n_t_waitBlock t_waitBlock n_t_waitByte t_waitByte n_t_waitOldest t_waitOldest t_waiting p0 t_disk' t_oldest_0 t_waitByte_0 (t_waiting_0 - (1 : Int32)) 5000 t_waitBlock_0 t_waitOldest_0 (0 : Int32)
    else
      if (0 : Int32) < 0 ∨ n_t_waitBlock ≤ (0 : Int32).toNatClampNeg then none else
      if x2 < 0 ∨ n_t_waitByte ≤ x2.toNatClampNeg then none else
      if (((64 : Int32) * (t_waitBlock_0 (0 : Int32).toNatClampNeg)) + x2) < 0 ∨ n_t_disk ≤ (((64 : Int32) * (t_waitBlock_0 (0 : Int32).toNatClampNeg)) + x2).toNatClampNeg then none else
      f_Md_comesFirst_L2 n_t_disk t_disk n_t_tape t_tape t_tapeLong t_kept t_next t_come t_crashes t_thrown t_open t_openFirst t_openMany t_openBytes t_nextPage t_turn t_oldest n_t_waitBlock t_waitBlock n_t_waitByte t_waitByte n_t_waitOldest t_waitOldest t_waiting p0 t_oldest_0 t_waitBlock_0 t_waitByte_0 t_waitOldest_0 t_waiting_0 n2 (upd t_disk' (((64 : Int32) * (t_waitBlock_0 (0 : Int32).toNatClampNeg)) + x2).toNatClampNeg (t_waitByte_0 x2.toNatClampNeg)) (x2 + (1 : Int32))
def f_Md_comesFirst (n_t_disk : Nat) (t_disk : Nat → Int32) (n_t_tape : Nat) (t_tape : Nat → Int32) (t_tapeLong : Int32) (t_kept : Int32) (t_next : Int32) (t_come : Int32) (t_crashes : Int32) (t_thrown : Int32) (t_open : Int32) (t_openFirst : Int32) (t_openMany : Int32) (t_openBytes : Int32) (t_nextPage : Int32) (t_turn : Int32) (t_oldest : Int32) (n_t_waitBlock : Nat) (t_waitBlock : Nat → Int32) (n_t_waitByte : Nat) (t_waitByte : Nat → Int32) (n_t_waitOldest : Nat) (t_waitOldest : Nat → Int32) (t_waiting : Int32) (p0 : Int32) : Option ((Nat → Int32) × Int32 × (Nat → Int32) × (Nat → Int32) × (Nat → Int32) × Int32) :=
  f_Md_comesFirst_L2 n_t_disk t_disk n_t_tape t_tape t_tapeLong t_kept t_next t_come t_crashes t_thrown t_open t_openFirst t_openMany t_openBytes t_nextPage t_turn t_oldest n_t_waitBlock t_waitBlock n_t_waitByte t_waitByte n_t_waitOldest t_waitOldest t_waiting p0 t_oldest t_waitBlock t_waitByte t_waitOldest t_waiting 5000 t_disk (0 : Int32)
set_option maxHeartbeats 4000000 in
set_option maxRecDepth 100000 in
theorem k_Md_comesFirst_L116 {p : Program} {l : Launch} {e : Env} {s : State} {m : MethodId} {args : Array Value} {below : List Frame} {meth : Method} {c : Code} (hx : p.tables.exec = Jvm.exec) (hb : c.code = b_Md_comesFirst) (hr : meth.sig.returnType = none) (hml : c.maxLocals = 3) (hown : s.vm.findClass R_Md = some m.cls) (hts : ∀ w ∈ wd_Md_comesFirst, w.before args s = true) (hlocks : meth.locks = false) {A : Nat → Prop} (hA : ∀ q, s.heap.size ≤ q → A q) (hE : ev A s) {D : va_G} {cA : Nat → ClassId} (hK : va_K D classes (tys cA) s) (a_t a_t_disk a_t_tape a_t_waitBlock a_t_waitByte a_t_waitOldest : Nat) (t_first t_last : Value) (n_t_disk : Nat) (t_disk : Nat → Int32) (n_t_tape : Nat) (t_tape : Nat → Int32) (t_tapeLong : Int32) (t_kept : Int32) (t_next : Int32) (t_come : Int32) (t_crashes : Int32) (t_thrown : Int32) (t_open : Int32) (t_openFirst : Int32) (t_openMany : Int32) (t_openBytes : Int32) (t_nextPage : Int32) (t_turn : Int32) (t_oldest : Int32) (n_t_waitBlock : Nat) (t_waitBlock : Nat → Int32) (n_t_waitByte : Nat) (t_waitByte : Nat → Int32) (n_t_waitOldest : Nat) (t_waitOldest : Nat → Int32) (t_waiting : Int32) (p0 : Int32) (t_disk_0 : Nat → Int32) (t_oldest_0 : Int32) (t_waitBlock_0 : Nat → Int32) (t_waitOldest_0 : Nat → Int32) (t_waiting_0 : Int32) (o : (Nat → Int32) × Int32 × (Nat → Int32) × (Nat → Int32) × (Nat → Int32) × Int32) :
    ∀ (n : Nat) (t_waitByte' : Nat → Int32) (x2 : Int32) (H : Heap) (locs : List Loc), f_Md_comesFirst_L116 n_t_disk t_disk n_t_tape t_tape t_tapeLong t_kept t_next t_come t_crashes t_thrown t_open t_openFirst t_openMany t_openBytes t_nextPage t_turn t_oldest n_t_waitBlock t_waitBlock n_t_waitByte t_waitByte n_t_waitOldest t_waitOldest t_waiting p0 t_disk_0 t_oldest_0 t_waitBlock_0 t_waitOldest_0 t_waiting_0 n t_waitByte' x2 = some o → va_P D classes [(a_t, .inr (8, [.ref a_t_disk, .ref a_t_tape, .int t_tapeLong, t_first, t_last, .int t_kept, .int t_next, .int t_come, .int t_crashes, .int t_thrown, .int t_open, .int t_openFirst, .int t_openMany, .int t_openBytes, .int t_nextPage, .int t_turn, .int t_oldest_0, .ref a_t_waitBlock, .ref a_t_waitByte, .ref a_t_waitOldest, .int t_waiting_0])), (a_t_disk, .inl ((cA 0), n_t_disk, .inl t_disk_0)), (a_t_tape, .inl ((cA 0), n_t_tape, .inl t_tape)), (a_t_waitBlock, .inl ((cA 0), n_t_waitBlock, .inl t_waitBlock_0)), (a_t_waitByte, .inl ((cA 0), n_t_waitByte, .inl t_waitByte')), (a_t_waitOldest, .inl ((cA 0), n_t_waitOldest, .inl t_waitOldest_0))] H → va_D A [(a_t, .inr (8, [.ref a_t_disk, .ref a_t_tape, .int t_tapeLong, t_first, t_last, .int t_kept, .int t_next, .int t_come, .int t_crashes, .int t_thrown, .int t_open, .int t_openFirst, .int t_openMany, .int t_openBytes, .int t_nextPage, .int t_turn, .int t_oldest_0, .ref a_t_waitBlock, .ref a_t_waitByte, .ref a_t_waitOldest, .int t_waiting_0])), (a_t_disk, .inl ((cA 0), n_t_disk, .inl t_disk_0)), (a_t_tape, .inl ((cA 0), n_t_tape, .inl t_tape)), (a_t_waitBlock, .inl ((cA 0), n_t_waitBlock, .inl t_waitBlock_0)), (a_t_waitByte, .inl ((cA 0), n_t_waitByte, .inl t_waitByte')), (a_t_waitOldest, .inl ((cA 0), n_t_waitOldest, .inl t_waitOldest_0))] → va_S A s.heap H locs → ∀ ls : Array Slot, lv_has ls 3 [(0, .ref a_t), (1, .int p0), (2, .int x2)] → W p l e ({ frames := 0, cells := 0, slots := 0, locals := 0 }) s m args below meth c H locs 0 0 (MQ below (va_Qv (fun (_ : Unit) => True) (fun _ => aR D cA A [(a_t, .inr (8, [.ref a_t_disk, .ref a_t_tape, .int t_tapeLong, t_first, t_last, .int t_kept, .int t_next, .int t_come, .int t_crashes, .int t_thrown, .int t_open, .int t_openFirst, .int t_openMany, .int t_openBytes, .int t_nextPage, .int t_turn, .int o.2.1, .ref a_t_waitBlock, .ref a_t_waitByte, .ref a_t_waitOldest, .int o.2.2.2.2.2])), (a_t_disk, .inl ((cA 0), n_t_disk, .inl o.1)), (a_t_tape, .inl ((cA 0), n_t_tape, .inl t_tape)), (a_t_waitBlock, .inl ((cA 0), n_t_waitBlock, .inl o.2.2.1)), (a_t_waitByte, .inl ((cA 0), n_t_waitByte, .inl o.2.2.2.1)), (a_t_waitOldest, .inl ((cA 0), n_t_waitOldest, .inl o.2.2.2.2.1))]) A) args s 0 0 A) (F0 m 116 ls []) := by
  intro n
  induction n with
  | zero =>
    intro t_waitByte' x2 H locs hf
    cases hf
  | succ n116 ih =>
    intro t_waitByte' x2 H locs hf hP hD hS ls hl
    rw [f_Md_comesFirst_L116.eq_2] at hf
    refine lv_iload_n hx hb d_Md_comesFirst_116 rfl (lv_at hl 2 rfl) ?_
    refine lv_bipush (v := 64) hx hb d_Md_comesFirst_117 (by decide) ?_
    refine lv_aload_n hx hb d_Md_comesFirst_119 rfl (lv_at hl 0 rfl) ?_
    refine va_get (D := D) (ci := 8) (v := .int t_waiting_0) (C := R_Md) (T := F_Md) (N := 21) hx hb hts (fun w9 h9 => .tail _ (gu_Md w9 h9)) hown hK hP 0 rfl rfl 20 (by decide) (hts _ (.tail _ gm_296)) (fun _ h9 => h9) rfl d_Md_comesFirst_120 ?_
    refine lv_imul hx hb d_Md_comesFirst_123 ?_
    refine lv_icmp_ge (tgt := 148) hx hb d_Md_comesFirst_124 (by decide) (fun c_4 => ?_) (fun c_4 => ?_)
    · replace hf := (if_pos c_4).symm.trans hf
      have ho9 := Option.some.inj hf
      subst ho9
      have hP9 := hP.sub (ws' := [(a_t, .inr (8, [.ref a_t_disk, .ref a_t_tape, .int t_tapeLong, t_first, t_last, .int t_kept, .int t_next, .int t_come, .int t_crashes, .int t_thrown, .int t_open, .int t_openFirst, .int t_openMany, .int t_openBytes, .int t_nextPage, .int t_turn, .int t_oldest_0, .ref a_t_waitBlock, .ref a_t_waitByte, .ref a_t_waitOldest, .int t_waiting_0])), (a_t_disk, .inl ((cA 0), n_t_disk, .inl t_disk_0)), (a_t_tape, .inl ((cA 0), n_t_tape, .inl t_tape)), (a_t_waitBlock, .inl ((cA 0), n_t_waitBlock, .inl t_waitBlock_0)), (a_t_waitByte, .inl ((cA 0), n_t_waitByte, .inl t_waitByte')), (a_t_waitOldest, .inl ((cA 0), n_t_waitOldest, .inl t_waitOldest_0))]) [0, 1, 2, 3, 4, 5] rfl
      have hD9 := hD.sub (ws' := [(a_t, .inr (8, [.ref a_t_disk, .ref a_t_tape, .int t_tapeLong, t_first, t_last, .int t_kept, .int t_next, .int t_come, .int t_crashes, .int t_thrown, .int t_open, .int t_openFirst, .int t_openMany, .int t_openBytes, .int t_nextPage, .int t_turn, .int t_oldest_0, .ref a_t_waitBlock, .ref a_t_waitByte, .ref a_t_waitOldest, .int t_waiting_0])), (a_t_disk, .inl ((cA 0), n_t_disk, .inl t_disk_0)), (a_t_tape, .inl ((cA 0), n_t_tape, .inl t_tape)), (a_t_waitBlock, .inl ((cA 0), n_t_waitBlock, .inl t_waitBlock_0)), (a_t_waitByte, .inl ((cA 0), n_t_waitByte, .inl t_waitByte')), (a_t_waitOldest, .inl ((cA 0), n_t_waitOldest, .inl t_waitOldest_0))]) [0, 1, 2, 3, 4, 5] (by decide) rfl
      exact W.vret hx hb hr (fun t ht hW => ⟨⟨(), rfl, trivial, by rw [ht]; exact hP9, va_K.moved hW.alike hK, hD9⟩, hS.F ht⟩) hS.2.2 d_Md_comesFirst_148
    · replace hf := (if_neg c_4).symm.trans hf
      refine lv_aload_n hx hb d_Md_comesFirst_127 rfl (lv_at hl 0 rfl) ?_
      refine va_get (D := D) (ci := 8) (v := .ref a_t_waitByte) (C := R_Md) (T := F_Md) (N := 21) hx hb hts (fun w9 h9 => .tail _ (gu_Md w9 h9)) hown hK hP 0 rfl rfl 18 (by decide) (hts _ (.tail _ gm_295)) (fun _ h9 => h9) rfl d_Md_comesFirst_128 ?_
      refine lv_iload_n hx hb d_Md_comesFirst_131 rfl (lv_at hl 2 rfl) ?_
      refine lv_aload_n hx hb d_Md_comesFirst_132 rfl (lv_at hl 0 rfl) ?_
      refine va_get (D := D) (ci := 8) (v := .ref a_t_waitByte) (C := R_Md) (T := F_Md) (N := 21) hx hb hts (fun w9 h9 => .tail _ (gu_Md w9 h9)) hown hK hP 0 rfl rfl 18 (by decide) (hts _ (.tail _ gm_295)) (fun _ h9 => h9) rfl d_Md_comesFirst_133 ?_
      refine lv_iload_n hx hb d_Md_comesFirst_136 rfl (lv_at hl 2 rfl) ?_
      refine lv_bipush (v := 64) hx hb d_Md_comesFirst_137 (by decide) ?_
      refine lv_iadd hx hb d_Md_comesFirst_139 ?_
      obtain ⟨ck_5, hf⟩ := hk_if hf
      refine va_iald hx hb hK hP 4 0 rfl rfl ck_5 d_Md_comesFirst_140 ?_
      obtain ⟨ck_6, hf⟩ := hk_if hf
      refine va_iast hx hb hK hP hD hS 4 0 rfl rfl ck_6 d_Md_comesFirst_141 (fun H locs hP hD hS => ?_)
      have hP : va_P D classes [(a_t, .inr (8, [.ref a_t_disk, .ref a_t_tape, .int t_tapeLong, t_first, t_last, .int t_kept, .int t_next, .int t_come, .int t_crashes, .int t_thrown, .int t_open, .int t_openFirst, .int t_openMany, .int t_openBytes, .int t_nextPage, .int t_turn, .int t_oldest_0, .ref a_t_waitBlock, .ref a_t_waitByte, .ref a_t_waitOldest, .int t_waiting_0])), (a_t_disk, .inl ((cA 0), n_t_disk, .inl t_disk_0)), (a_t_tape, .inl ((cA 0), n_t_tape, .inl t_tape)), (a_t_waitBlock, .inl ((cA 0), n_t_waitBlock, .inl t_waitBlock_0)), (a_t_waitByte, .inl ((cA 0), n_t_waitByte, .inl (upd t_waitByte' x2.toNatClampNeg (t_waitByte' (x2 + (64 : Int32)).toNatClampNeg)))), (a_t_waitOldest, .inl ((cA 0), n_t_waitOldest, .inl t_waitOldest_0))] H := hP
      have hD : va_D A [(a_t, .inr (8, [.ref a_t_disk, .ref a_t_tape, .int t_tapeLong, t_first, t_last, .int t_kept, .int t_next, .int t_come, .int t_crashes, .int t_thrown, .int t_open, .int t_openFirst, .int t_openMany, .int t_openBytes, .int t_nextPage, .int t_turn, .int t_oldest_0, .ref a_t_waitBlock, .ref a_t_waitByte, .ref a_t_waitOldest, .int t_waiting_0])), (a_t_disk, .inl ((cA 0), n_t_disk, .inl t_disk_0)), (a_t_tape, .inl ((cA 0), n_t_tape, .inl t_tape)), (a_t_waitBlock, .inl ((cA 0), n_t_waitBlock, .inl t_waitBlock_0)), (a_t_waitByte, .inl ((cA 0), n_t_waitByte, .inl (upd t_waitByte' x2.toNatClampNeg (t_waitByte' (x2 + (64 : Int32)).toNatClampNeg)))), (a_t_waitOldest, .inl ((cA 0), n_t_waitOldest, .inl t_waitOldest_0))] := hD
      refine lv_iinc (v := (x2 + (1 : Int32))) (lv' := [(2, .int (x2 + (1 : Int32))), (0, .ref a_t), (1, .int p0)]) hx hb d_Md_comesFirst_142 hl (k := 2) rfl rfl (by decide) rfl (fun ls hl => ?_)
      refine lv_goto (tgt := 116) hx hb d_Md_comesFirst_145 (by decide) ?_
      exact ih (upd t_waitByte' x2.toNatClampNeg (t_waitByte' (x2 + (64 : Int32)).toNatClampNeg)) (x2 + (1 : Int32)) _ _ hf (hP.sub [0, 1, 2, 3, 4, 5] rfl) (hD.sub [0, 1, 2, 3, 4, 5] (by decide) rfl) hS ls (lv_sub hl [1, 2, 0] rfl)
set_option maxHeartbeats 4000000 in
set_option maxRecDepth 100000 in
theorem k_Md_comesFirst_L72 {p : Program} {l : Launch} {e : Env} {s : State} {m : MethodId} {args : Array Value} {below : List Frame} {meth : Method} {c : Code} (hx : p.tables.exec = Jvm.exec) (hb : c.code = b_Md_comesFirst) (hr : meth.sig.returnType = none) (hml : c.maxLocals = 3) (hown : s.vm.findClass R_Md = some m.cls) (hts : ∀ w ∈ wd_Md_comesFirst, w.before args s = true) (hlocks : meth.locks = false) {A : Nat → Prop} (hA : ∀ q, s.heap.size ≤ q → A q) (hE : ev A s) {D : va_G} {cA : Nat → ClassId} (hK : va_K D classes (tys cA) s) (a_t a_t_disk a_t_tape a_t_waitBlock a_t_waitByte a_t_waitOldest : Nat) (t_first t_last : Value) (n_t_disk : Nat) (t_disk : Nat → Int32) (n_t_tape : Nat) (t_tape : Nat → Int32) (t_tapeLong : Int32) (t_kept : Int32) (t_next : Int32) (t_come : Int32) (t_crashes : Int32) (t_thrown : Int32) (t_open : Int32) (t_openFirst : Int32) (t_openMany : Int32) (t_openBytes : Int32) (t_nextPage : Int32) (t_turn : Int32) (t_oldest : Int32) (n_t_waitBlock : Nat) (t_waitBlock : Nat → Int32) (n_t_waitByte : Nat) (t_waitByte : Nat → Int32) (n_t_waitOldest : Nat) (t_waitOldest : Nat → Int32) (t_waiting : Int32) (p0 : Int32) (t_disk_0 : Nat → Int32) (t_oldest_0 : Int32) (t_waitByte_0 : Nat → Int32) (t_waiting_0 : Int32) (o : (Nat → Int32) × Int32 × (Nat → Int32) × (Nat → Int32) × (Nat → Int32) × Int32) :
    ∀ (n : Nat) (t_waitBlock' : Nat → Int32) (t_waitOldest' : Nat → Int32) (x2 : Int32) (H : Heap) (locs : List Loc), f_Md_comesFirst_L72 n_t_disk t_disk n_t_tape t_tape t_tapeLong t_kept t_next t_come t_crashes t_thrown t_open t_openFirst t_openMany t_openBytes t_nextPage t_turn t_oldest n_t_waitBlock t_waitBlock n_t_waitByte t_waitByte n_t_waitOldest t_waitOldest t_waiting p0 t_disk_0 t_oldest_0 t_waitByte_0 t_waiting_0 n t_waitBlock' t_waitOldest' x2 = some o → va_P D classes [(a_t, .inr (8, [.ref a_t_disk, .ref a_t_tape, .int t_tapeLong, t_first, t_last, .int t_kept, .int t_next, .int t_come, .int t_crashes, .int t_thrown, .int t_open, .int t_openFirst, .int t_openMany, .int t_openBytes, .int t_nextPage, .int t_turn, .int t_oldest_0, .ref a_t_waitBlock, .ref a_t_waitByte, .ref a_t_waitOldest, .int t_waiting_0])), (a_t_disk, .inl ((cA 0), n_t_disk, .inl t_disk_0)), (a_t_tape, .inl ((cA 0), n_t_tape, .inl t_tape)), (a_t_waitBlock, .inl ((cA 0), n_t_waitBlock, .inl t_waitBlock')), (a_t_waitByte, .inl ((cA 0), n_t_waitByte, .inl t_waitByte_0)), (a_t_waitOldest, .inl ((cA 0), n_t_waitOldest, .inl t_waitOldest'))] H → va_D A [(a_t, .inr (8, [.ref a_t_disk, .ref a_t_tape, .int t_tapeLong, t_first, t_last, .int t_kept, .int t_next, .int t_come, .int t_crashes, .int t_thrown, .int t_open, .int t_openFirst, .int t_openMany, .int t_openBytes, .int t_nextPage, .int t_turn, .int t_oldest_0, .ref a_t_waitBlock, .ref a_t_waitByte, .ref a_t_waitOldest, .int t_waiting_0])), (a_t_disk, .inl ((cA 0), n_t_disk, .inl t_disk_0)), (a_t_tape, .inl ((cA 0), n_t_tape, .inl t_tape)), (a_t_waitBlock, .inl ((cA 0), n_t_waitBlock, .inl t_waitBlock')), (a_t_waitByte, .inl ((cA 0), n_t_waitByte, .inl t_waitByte_0)), (a_t_waitOldest, .inl ((cA 0), n_t_waitOldest, .inl t_waitOldest'))] → va_S A s.heap H locs → ∀ ls : Array Slot, lv_has ls 3 [(0, .ref a_t), (1, .int p0), (2, .int x2)] → W p l e ({ frames := 0, cells := 0, slots := 0, locals := 0 }) s m args below meth c H locs 0 0 (MQ below (va_Qv (fun (_ : Unit) => True) (fun _ => aR D cA A [(a_t, .inr (8, [.ref a_t_disk, .ref a_t_tape, .int t_tapeLong, t_first, t_last, .int t_kept, .int t_next, .int t_come, .int t_crashes, .int t_thrown, .int t_open, .int t_openFirst, .int t_openMany, .int t_openBytes, .int t_nextPage, .int t_turn, .int o.2.1, .ref a_t_waitBlock, .ref a_t_waitByte, .ref a_t_waitOldest, .int o.2.2.2.2.2])), (a_t_disk, .inl ((cA 0), n_t_disk, .inl o.1)), (a_t_tape, .inl ((cA 0), n_t_tape, .inl t_tape)), (a_t_waitBlock, .inl ((cA 0), n_t_waitBlock, .inl o.2.2.1)), (a_t_waitByte, .inl ((cA 0), n_t_waitByte, .inl o.2.2.2.1)), (a_t_waitOldest, .inl ((cA 0), n_t_waitOldest, .inl o.2.2.2.2.1))]) A) args s 0 0 A) (F0 m 72 ls []) := by
  intro n
  induction n with
  | zero =>
    intro t_waitBlock' t_waitOldest' x2 H locs hf
    cases hf
  | succ n72 ih =>
    intro t_waitBlock' t_waitOldest' x2 H locs hf hP hD hS ls hl
    rw [f_Md_comesFirst_L72.eq_2] at hf
    refine lv_iload_n hx hb d_Md_comesFirst_72 rfl (lv_at hl 2 rfl) ?_
    refine lv_aload_n hx hb d_Md_comesFirst_73 rfl (lv_at hl 0 rfl) ?_
    refine va_get (D := D) (ci := 8) (v := .int t_waiting_0) (C := R_Md) (T := F_Md) (N := 21) hx hb hts (fun w9 h9 => .tail _ (gu_Md w9 h9)) hown hK hP 0 rfl rfl 20 (by decide) (hts _ (.tail _ gm_296)) (fun _ h9 => h9) rfl d_Md_comesFirst_74 ?_
    refine lv_icmp_ge (tgt := 114) hx hb d_Md_comesFirst_77 (by decide) (fun c_3 => ?_) (fun c_3 => ?_)
    · replace hf := (if_pos c_3).symm.trans hf
      refine lv_iconst (v := 0) hx hb d_Md_comesFirst_114 (by decide) ?_
      refine lv_istore_n (lv' := [(2, .int (0 : Int32)), (0, .ref a_t), (1, .int p0)]) hx hb d_Md_comesFirst_115 rfl hl (by decide) rfl (fun ls hl => ?_)
      exact k_Md_comesFirst_L116 hx hb hr hml hown hts hlocks hA hE hK a_t a_t_disk a_t_tape a_t_waitBlock a_t_waitByte a_t_waitOldest t_first t_last n_t_disk t_disk n_t_tape t_tape t_tapeLong t_kept t_next t_come t_crashes t_thrown t_open t_openFirst t_openMany t_openBytes t_nextPage t_turn t_oldest n_t_waitBlock t_waitBlock n_t_waitByte t_waitByte n_t_waitOldest t_waitOldest t_waiting p0 t_disk_0 t_oldest_0 t_waitBlock' t_waitOldest' t_waiting_0 _ _ t_waitByte_0 (0 : Int32) _ _ hf (hP.sub [0, 1, 2, 3, 4, 5] rfl) (hD.sub [0, 1, 2, 3, 4, 5] (by decide) rfl) hS ls (lv_sub hl [1, 2, 0] rfl)
    · replace hf := (if_neg c_3).symm.trans hf
      refine lv_aload_n hx hb d_Md_comesFirst_80 rfl (lv_at hl 0 rfl) ?_
      refine va_get (D := D) (ci := 8) (v := .ref a_t_waitBlock) (C := R_Md) (T := F_Md) (N := 21) hx hb hts (fun w9 h9 => .tail _ (gu_Md w9 h9)) hown hK hP 0 rfl rfl 17 (by decide) (hts _ (.tail _ gm_297)) (fun _ h9 => h9) rfl d_Md_comesFirst_81 ?_
      refine lv_iload_n hx hb d_Md_comesFirst_84 rfl (lv_at hl 2 rfl) ?_
      refine lv_aload_n hx hb d_Md_comesFirst_85 rfl (lv_at hl 0 rfl) ?_
      refine va_get (D := D) (ci := 8) (v := .ref a_t_waitBlock) (C := R_Md) (T := F_Md) (N := 21) hx hb hts (fun w9 h9 => .tail _ (gu_Md w9 h9)) hown hK hP 0 rfl rfl 17 (by decide) (hts _ (.tail _ gm_297)) (fun _ h9 => h9) rfl d_Md_comesFirst_86 ?_
      refine lv_iload_n hx hb d_Md_comesFirst_89 rfl (lv_at hl 2 rfl) ?_
      refine lv_iconst (v := 1) hx hb d_Md_comesFirst_90 (by decide) ?_
      refine lv_iadd hx hb d_Md_comesFirst_91 ?_
      obtain ⟨ck_7, hf⟩ := hk_if hf
      refine va_iald hx hb hK hP 3 0 rfl rfl ck_7 d_Md_comesFirst_92 ?_
      obtain ⟨ck_8, hf⟩ := hk_if hf
      refine va_iast hx hb hK hP hD hS 3 0 rfl rfl ck_8 d_Md_comesFirst_93 (fun H locs hP hD hS => ?_)
      have hP : va_P D classes [(a_t, .inr (8, [.ref a_t_disk, .ref a_t_tape, .int t_tapeLong, t_first, t_last, .int t_kept, .int t_next, .int t_come, .int t_crashes, .int t_thrown, .int t_open, .int t_openFirst, .int t_openMany, .int t_openBytes, .int t_nextPage, .int t_turn, .int t_oldest_0, .ref a_t_waitBlock, .ref a_t_waitByte, .ref a_t_waitOldest, .int t_waiting_0])), (a_t_disk, .inl ((cA 0), n_t_disk, .inl t_disk_0)), (a_t_tape, .inl ((cA 0), n_t_tape, .inl t_tape)), (a_t_waitBlock, .inl ((cA 0), n_t_waitBlock, .inl (upd t_waitBlock' x2.toNatClampNeg (t_waitBlock' (x2 + (1 : Int32)).toNatClampNeg)))), (a_t_waitByte, .inl ((cA 0), n_t_waitByte, .inl t_waitByte_0)), (a_t_waitOldest, .inl ((cA 0), n_t_waitOldest, .inl t_waitOldest'))] H := hP
      have hD : va_D A [(a_t, .inr (8, [.ref a_t_disk, .ref a_t_tape, .int t_tapeLong, t_first, t_last, .int t_kept, .int t_next, .int t_come, .int t_crashes, .int t_thrown, .int t_open, .int t_openFirst, .int t_openMany, .int t_openBytes, .int t_nextPage, .int t_turn, .int t_oldest_0, .ref a_t_waitBlock, .ref a_t_waitByte, .ref a_t_waitOldest, .int t_waiting_0])), (a_t_disk, .inl ((cA 0), n_t_disk, .inl t_disk_0)), (a_t_tape, .inl ((cA 0), n_t_tape, .inl t_tape)), (a_t_waitBlock, .inl ((cA 0), n_t_waitBlock, .inl (upd t_waitBlock' x2.toNatClampNeg (t_waitBlock' (x2 + (1 : Int32)).toNatClampNeg)))), (a_t_waitByte, .inl ((cA 0), n_t_waitByte, .inl t_waitByte_0)), (a_t_waitOldest, .inl ((cA 0), n_t_waitOldest, .inl t_waitOldest'))] := hD
      refine lv_aload_n hx hb d_Md_comesFirst_94 rfl (lv_at hl 0 rfl) ?_
      refine va_get (D := D) (ci := 8) (v := .ref a_t_waitOldest) (C := R_Md) (T := F_Md) (N := 21) hx hb hts (fun w9 h9 => .tail _ (gu_Md w9 h9)) hown hK hP 0 rfl rfl 19 (by decide) (hts _ (.tail _ gm_298)) (fun _ h9 => h9) rfl d_Md_comesFirst_95 ?_
      refine lv_iload_n hx hb d_Md_comesFirst_98 rfl (lv_at hl 2 rfl) ?_
      refine lv_aload_n hx hb d_Md_comesFirst_99 rfl (lv_at hl 0 rfl) ?_
      refine va_get (D := D) (ci := 8) (v := .ref a_t_waitOldest) (C := R_Md) (T := F_Md) (N := 21) hx hb hts (fun w9 h9 => .tail _ (gu_Md w9 h9)) hown hK hP 0 rfl rfl 19 (by decide) (hts _ (.tail _ gm_298)) (fun _ h9 => h9) rfl d_Md_comesFirst_100 ?_
      refine lv_iload_n hx hb d_Md_comesFirst_103 rfl (lv_at hl 2 rfl) ?_
      refine lv_iconst (v := 1) hx hb d_Md_comesFirst_104 (by decide) ?_
      refine lv_iadd hx hb d_Md_comesFirst_105 ?_
      obtain ⟨ck_9, hf⟩ := hk_if hf
      refine va_iald hx hb hK hP 5 0 rfl rfl ck_9 d_Md_comesFirst_106 ?_
      obtain ⟨ck_10, hf⟩ := hk_if hf
      refine va_iast hx hb hK hP hD hS 5 0 rfl rfl ck_10 d_Md_comesFirst_107 (fun H locs hP hD hS => ?_)
      have hP : va_P D classes [(a_t, .inr (8, [.ref a_t_disk, .ref a_t_tape, .int t_tapeLong, t_first, t_last, .int t_kept, .int t_next, .int t_come, .int t_crashes, .int t_thrown, .int t_open, .int t_openFirst, .int t_openMany, .int t_openBytes, .int t_nextPage, .int t_turn, .int t_oldest_0, .ref a_t_waitBlock, .ref a_t_waitByte, .ref a_t_waitOldest, .int t_waiting_0])), (a_t_disk, .inl ((cA 0), n_t_disk, .inl t_disk_0)), (a_t_tape, .inl ((cA 0), n_t_tape, .inl t_tape)), (a_t_waitBlock, .inl ((cA 0), n_t_waitBlock, .inl (upd t_waitBlock' x2.toNatClampNeg (t_waitBlock' (x2 + (1 : Int32)).toNatClampNeg)))), (a_t_waitByte, .inl ((cA 0), n_t_waitByte, .inl t_waitByte_0)), (a_t_waitOldest, .inl ((cA 0), n_t_waitOldest, .inl (upd t_waitOldest' x2.toNatClampNeg (t_waitOldest' (x2 + (1 : Int32)).toNatClampNeg))))] H := hP
      have hD : va_D A [(a_t, .inr (8, [.ref a_t_disk, .ref a_t_tape, .int t_tapeLong, t_first, t_last, .int t_kept, .int t_next, .int t_come, .int t_crashes, .int t_thrown, .int t_open, .int t_openFirst, .int t_openMany, .int t_openBytes, .int t_nextPage, .int t_turn, .int t_oldest_0, .ref a_t_waitBlock, .ref a_t_waitByte, .ref a_t_waitOldest, .int t_waiting_0])), (a_t_disk, .inl ((cA 0), n_t_disk, .inl t_disk_0)), (a_t_tape, .inl ((cA 0), n_t_tape, .inl t_tape)), (a_t_waitBlock, .inl ((cA 0), n_t_waitBlock, .inl (upd t_waitBlock' x2.toNatClampNeg (t_waitBlock' (x2 + (1 : Int32)).toNatClampNeg)))), (a_t_waitByte, .inl ((cA 0), n_t_waitByte, .inl t_waitByte_0)), (a_t_waitOldest, .inl ((cA 0), n_t_waitOldest, .inl (upd t_waitOldest' x2.toNatClampNeg (t_waitOldest' (x2 + (1 : Int32)).toNatClampNeg))))] := hD
      refine lv_iinc (v := (x2 + (1 : Int32))) (lv' := [(2, .int (x2 + (1 : Int32))), (0, .ref a_t), (1, .int p0)]) hx hb d_Md_comesFirst_108 hl (k := 2) rfl rfl (by decide) rfl (fun ls hl => ?_)
      refine lv_goto (tgt := 72) hx hb d_Md_comesFirst_111 (by decide) ?_
      exact ih (upd t_waitBlock' x2.toNatClampNeg (t_waitBlock' (x2 + (1 : Int32)).toNatClampNeg)) (upd t_waitOldest' x2.toNatClampNeg (t_waitOldest' (x2 + (1 : Int32)).toNatClampNeg)) (x2 + (1 : Int32)) _ _ hf (hP.sub [0, 1, 2, 3, 4, 5] rfl) (hD.sub [0, 1, 2, 3, 4, 5] (by decide) rfl) hS ls (lv_sub hl [1, 2, 0] rfl)
set_option maxHeartbeats 4000000 in
set_option maxRecDepth 100000 in
theorem k_Md_comesFirst_L2 {p : Program} {l : Launch} {e : Env} {s : State} {m : MethodId} {args : Array Value} {below : List Frame} {meth : Method} {c : Code} (hx : p.tables.exec = Jvm.exec) (hb : c.code = b_Md_comesFirst) (hr : meth.sig.returnType = none) (hml : c.maxLocals = 3) (hown : s.vm.findClass R_Md = some m.cls) (hts : ∀ w ∈ wd_Md_comesFirst, w.before args s = true) (hlocks : meth.locks = false) {A : Nat → Prop} (hA : ∀ q, s.heap.size ≤ q → A q) (hE : ev A s) {D : va_G} {cA : Nat → ClassId} (hK : va_K D classes (tys cA) s) (a_t a_t_disk a_t_tape a_t_waitBlock a_t_waitByte a_t_waitOldest : Nat) (t_first t_last : Value) (n_t_disk : Nat) (t_disk : Nat → Int32) (n_t_tape : Nat) (t_tape : Nat → Int32) (t_tapeLong : Int32) (t_kept : Int32) (t_next : Int32) (t_come : Int32) (t_crashes : Int32) (t_thrown : Int32) (t_open : Int32) (t_openFirst : Int32) (t_openMany : Int32) (t_openBytes : Int32) (t_nextPage : Int32) (t_turn : Int32) (t_oldest : Int32) (n_t_waitBlock : Nat) (t_waitBlock : Nat → Int32) (n_t_waitByte : Nat) (t_waitByte : Nat → Int32) (n_t_waitOldest : Nat) (t_waitOldest : Nat → Int32) (t_waiting : Int32) (p0 : Int32) (t_oldest_0 : Int32) (t_waitBlock_0 : Nat → Int32) (t_waitByte_0 : Nat → Int32) (t_waitOldest_0 : Nat → Int32) (t_waiting_0 : Int32) (o : (Nat → Int32) × Int32 × (Nat → Int32) × (Nat → Int32) × (Nat → Int32) × Int32) :
    ∀ (n : Nat) (t_disk' : Nat → Int32) (x2 : Int32) (H : Heap) (locs : List Loc), f_Md_comesFirst_L2 n_t_disk t_disk n_t_tape t_tape t_tapeLong t_kept t_next t_come t_crashes t_thrown t_open t_openFirst t_openMany t_openBytes t_nextPage t_turn t_oldest n_t_waitBlock t_waitBlock n_t_waitByte t_waitByte n_t_waitOldest t_waitOldest t_waiting p0 t_oldest_0 t_waitBlock_0 t_waitByte_0 t_waitOldest_0 t_waiting_0 n t_disk' x2 = some o → va_P D classes [(a_t, .inr (8, [.ref a_t_disk, .ref a_t_tape, .int t_tapeLong, t_first, t_last, .int t_kept, .int t_next, .int t_come, .int t_crashes, .int t_thrown, .int t_open, .int t_openFirst, .int t_openMany, .int t_openBytes, .int t_nextPage, .int t_turn, .int t_oldest_0, .ref a_t_waitBlock, .ref a_t_waitByte, .ref a_t_waitOldest, .int t_waiting_0])), (a_t_disk, .inl ((cA 0), n_t_disk, .inl t_disk')), (a_t_tape, .inl ((cA 0), n_t_tape, .inl t_tape)), (a_t_waitBlock, .inl ((cA 0), n_t_waitBlock, .inl t_waitBlock_0)), (a_t_waitByte, .inl ((cA 0), n_t_waitByte, .inl t_waitByte_0)), (a_t_waitOldest, .inl ((cA 0), n_t_waitOldest, .inl t_waitOldest_0))] H → va_D A [(a_t, .inr (8, [.ref a_t_disk, .ref a_t_tape, .int t_tapeLong, t_first, t_last, .int t_kept, .int t_next, .int t_come, .int t_crashes, .int t_thrown, .int t_open, .int t_openFirst, .int t_openMany, .int t_openBytes, .int t_nextPage, .int t_turn, .int t_oldest_0, .ref a_t_waitBlock, .ref a_t_waitByte, .ref a_t_waitOldest, .int t_waiting_0])), (a_t_disk, .inl ((cA 0), n_t_disk, .inl t_disk')), (a_t_tape, .inl ((cA 0), n_t_tape, .inl t_tape)), (a_t_waitBlock, .inl ((cA 0), n_t_waitBlock, .inl t_waitBlock_0)), (a_t_waitByte, .inl ((cA 0), n_t_waitByte, .inl t_waitByte_0)), (a_t_waitOldest, .inl ((cA 0), n_t_waitOldest, .inl t_waitOldest_0))] → va_S A s.heap H locs → ∀ ls : Array Slot, lv_has ls 3 [(0, .ref a_t), (1, .int p0), (2, .int x2)] → W p l e ({ frames := 0, cells := 0, slots := 0, locals := 0 }) s m args below meth c H locs 0 0 (MQ below (va_Qv (fun (_ : Unit) => True) (fun _ => aR D cA A [(a_t, .inr (8, [.ref a_t_disk, .ref a_t_tape, .int t_tapeLong, t_first, t_last, .int t_kept, .int t_next, .int t_come, .int t_crashes, .int t_thrown, .int t_open, .int t_openFirst, .int t_openMany, .int t_openBytes, .int t_nextPage, .int t_turn, .int o.2.1, .ref a_t_waitBlock, .ref a_t_waitByte, .ref a_t_waitOldest, .int o.2.2.2.2.2])), (a_t_disk, .inl ((cA 0), n_t_disk, .inl o.1)), (a_t_tape, .inl ((cA 0), n_t_tape, .inl t_tape)), (a_t_waitBlock, .inl ((cA 0), n_t_waitBlock, .inl o.2.2.1)), (a_t_waitByte, .inl ((cA 0), n_t_waitByte, .inl o.2.2.2.1)), (a_t_waitOldest, .inl ((cA 0), n_t_waitOldest, .inl o.2.2.2.2.1))]) A) args s 0 0 A) (F0 m 2 ls []) := by
  intro n
  induction n with
  | zero =>
    intro t_disk' x2 H locs hf
    cases hf
  | succ n2 ih =>
    intro t_disk' x2 H locs hf hP hD hS ls hl
    rw [f_Md_comesFirst_L2.eq_2] at hf
    refine lv_iload_n hx hb d_Md_comesFirst_2 rfl (lv_at hl 2 rfl) ?_
    refine lv_iload_n hx hb d_Md_comesFirst_3 rfl (lv_at hl 1 rfl) ?_
    refine lv_icmp_ge (tgt := 35) hx hb d_Md_comesFirst_4 (by decide) (fun c_1 => ?_) (fun c_1 => ?_)
    · replace hf := (if_pos c_1).symm.trans hf
      refine lv_iload_n hx hb d_Md_comesFirst_35 rfl (lv_at hl 1 rfl) ?_
      refine lv_bipush (v := 64) hx hb d_Md_comesFirst_36 (by decide) ?_
      refine lv_icmp_ne (tgt := 60) hx hb d_Md_comesFirst_38 (by decide) (fun c_2 => ?_) (fun c_2 => ?_)
      · replace hf := (if_neg c_2).symm.trans hf
        refine lv_aload_n hx hb d_Md_comesFirst_60 rfl (lv_at hl 0 rfl) ?_
        refine lv_dup hx hb d_Md_comesFirst_61 rfl ?_
        refine va_get (D := D) (ci := 8) (v := .int t_waiting_0) (C := R_Md) (T := F_Md) (N := 21) hx hb hts (fun w9 h9 => .tail _ (gu_Md w9 h9)) hown hK hP 0 rfl rfl 20 (by decide) (hts _ (.tail _ gm_296)) (fun _ h9 => h9) rfl d_Md_comesFirst_62 ?_
        refine lv_iconst (v := 1) hx hb d_Md_comesFirst_65 (by decide) ?_
        refine lv_isub hx hb d_Md_comesFirst_66 ?_
        refine va_put (D := D) (ci := 8) (v := .int (t_waiting_0 - (1 : Int32))) (ty := .int) (C := R_Md) (T := F_Md) (N := 21) hx hb hts (fun w9 h9 => .tail _ (gu_Md w9 h9)) t_Md t_Md_ok n_Md hown hK hP hD hS 0 rfl rfl 20 (by decide) (hts _ (.tail _ gm_296)) (fun _ h9 => h9) rfl (by decide +kernel) rfl rfl (Nat.le_of_ble_eq_true rfl) d_Md_comesFirst_67 (fun H locs hP hD hS => ?_)
        have hP : va_P D classes [(a_t, .inr (8, [.ref a_t_disk, .ref a_t_tape, .int t_tapeLong, t_first, t_last, .int t_kept, .int t_next, .int t_come, .int t_crashes, .int t_thrown, .int t_open, .int t_openFirst, .int t_openMany, .int t_openBytes, .int t_nextPage, .int t_turn, .int t_oldest_0, .ref a_t_waitBlock, .ref a_t_waitByte, .ref a_t_waitOldest, .int (t_waiting_0 - (1 : Int32))])), (a_t_disk, .inl ((cA 0), n_t_disk, .inl t_disk')), (a_t_tape, .inl ((cA 0), n_t_tape, .inl t_tape)), (a_t_waitBlock, .inl ((cA 0), n_t_waitBlock, .inl t_waitBlock_0)), (a_t_waitByte, .inl ((cA 0), n_t_waitByte, .inl t_waitByte_0)), (a_t_waitOldest, .inl ((cA 0), n_t_waitOldest, .inl t_waitOldest_0))] H := hP
        have hD : va_D A [(a_t, .inr (8, [.ref a_t_disk, .ref a_t_tape, .int t_tapeLong, t_first, t_last, .int t_kept, .int t_next, .int t_come, .int t_crashes, .int t_thrown, .int t_open, .int t_openFirst, .int t_openMany, .int t_openBytes, .int t_nextPage, .int t_turn, .int t_oldest_0, .ref a_t_waitBlock, .ref a_t_waitByte, .ref a_t_waitOldest, .int (t_waiting_0 - (1 : Int32))])), (a_t_disk, .inl ((cA 0), n_t_disk, .inl t_disk')), (a_t_tape, .inl ((cA 0), n_t_tape, .inl t_tape)), (a_t_waitBlock, .inl ((cA 0), n_t_waitBlock, .inl t_waitBlock_0)), (a_t_waitByte, .inl ((cA 0), n_t_waitByte, .inl t_waitByte_0)), (a_t_waitOldest, .inl ((cA 0), n_t_waitOldest, .inl t_waitOldest_0))] := hD
        refine lv_iconst (v := 0) hx hb d_Md_comesFirst_70 (by decide) ?_
        refine lv_istore_n (lv' := [(2, .int (0 : Int32)), (0, .ref a_t), (1, .int p0)]) hx hb d_Md_comesFirst_71 rfl hl (by decide) rfl (fun ls hl => ?_)
        exact k_Md_comesFirst_L72 hx hb hr hml hown hts hlocks hA hE hK a_t a_t_disk a_t_tape a_t_waitBlock a_t_waitByte a_t_waitOldest t_first t_last n_t_disk t_disk n_t_tape t_tape t_tapeLong t_kept t_next t_come t_crashes t_thrown t_open t_openFirst t_openMany t_openBytes t_nextPage t_turn t_oldest n_t_waitBlock t_waitBlock n_t_waitByte t_waitByte n_t_waitOldest t_waitOldest t_waiting p0 t_disk' t_oldest_0 t_waitByte_0 (t_waiting_0 - (1 : Int32)) _ _ t_waitBlock_0 t_waitOldest_0 (0 : Int32) _ _ hf (hP.sub [0, 1, 2, 3, 4, 5] rfl) (hD.sub [0, 1, 2, 3, 4, 5] (by decide) rfl) hS ls (lv_sub hl [1, 2, 0] rfl)
      · replace hf := (if_pos c_2).symm.trans hf
        refine lv_aload_n hx hb d_Md_comesFirst_41 rfl (lv_at hl 0 rfl) ?_
        refine va_get (D := D) (ci := 8) (v := .ref a_t_waitOldest) (C := R_Md) (T := F_Md) (N := 21) hx hb hts (fun w9 h9 => .tail _ (gu_Md w9 h9)) hown hK hP 0 rfl rfl 19 (by decide) (hts _ (.tail _ gm_298)) (fun _ h9 => h9) rfl d_Md_comesFirst_42 ?_
        refine lv_iconst (v := 0) hx hb d_Md_comesFirst_45 (by decide) ?_
        obtain ⟨ck_11, hf⟩ := hk_if hf
        refine va_iald hx hb hK hP 5 0 rfl rfl ck_11 d_Md_comesFirst_46 ?_
        refine lv_if_le (tgt := 60) hx hb d_Md_comesFirst_47 (by decide) (fun c_12 => ?_) (fun c_12 => ?_)
        · replace hf := (if_pos c_12).symm.trans hf
          refine lv_aload_n hx hb d_Md_comesFirst_60 rfl (lv_at hl 0 rfl) ?_
          refine lv_dup hx hb d_Md_comesFirst_61 rfl ?_
          refine va_get (D := D) (ci := 8) (v := .int t_waiting_0) (C := R_Md) (T := F_Md) (N := 21) hx hb hts (fun w9 h9 => .tail _ (gu_Md w9 h9)) hown hK hP 0 rfl rfl 20 (by decide) (hts _ (.tail _ gm_296)) (fun _ h9 => h9) rfl d_Md_comesFirst_62 ?_
          refine lv_iconst (v := 1) hx hb d_Md_comesFirst_65 (by decide) ?_
          refine lv_isub hx hb d_Md_comesFirst_66 ?_
          refine va_put (D := D) (ci := 8) (v := .int (t_waiting_0 - (1 : Int32))) (ty := .int) (C := R_Md) (T := F_Md) (N := 21) hx hb hts (fun w9 h9 => .tail _ (gu_Md w9 h9)) t_Md t_Md_ok n_Md hown hK hP hD hS 0 rfl rfl 20 (by decide) (hts _ (.tail _ gm_296)) (fun _ h9 => h9) rfl (by decide +kernel) rfl rfl (Nat.le_of_ble_eq_true rfl) d_Md_comesFirst_67 (fun H locs hP hD hS => ?_)
          have hP : va_P D classes [(a_t, .inr (8, [.ref a_t_disk, .ref a_t_tape, .int t_tapeLong, t_first, t_last, .int t_kept, .int t_next, .int t_come, .int t_crashes, .int t_thrown, .int t_open, .int t_openFirst, .int t_openMany, .int t_openBytes, .int t_nextPage, .int t_turn, .int t_oldest_0, .ref a_t_waitBlock, .ref a_t_waitByte, .ref a_t_waitOldest, .int (t_waiting_0 - (1 : Int32))])), (a_t_disk, .inl ((cA 0), n_t_disk, .inl t_disk')), (a_t_tape, .inl ((cA 0), n_t_tape, .inl t_tape)), (a_t_waitBlock, .inl ((cA 0), n_t_waitBlock, .inl t_waitBlock_0)), (a_t_waitByte, .inl ((cA 0), n_t_waitByte, .inl t_waitByte_0)), (a_t_waitOldest, .inl ((cA 0), n_t_waitOldest, .inl t_waitOldest_0))] H := hP
          have hD : va_D A [(a_t, .inr (8, [.ref a_t_disk, .ref a_t_tape, .int t_tapeLong, t_first, t_last, .int t_kept, .int t_next, .int t_come, .int t_crashes, .int t_thrown, .int t_open, .int t_openFirst, .int t_openMany, .int t_openBytes, .int t_nextPage, .int t_turn, .int t_oldest_0, .ref a_t_waitBlock, .ref a_t_waitByte, .ref a_t_waitOldest, .int (t_waiting_0 - (1 : Int32))])), (a_t_disk, .inl ((cA 0), n_t_disk, .inl t_disk')), (a_t_tape, .inl ((cA 0), n_t_tape, .inl t_tape)), (a_t_waitBlock, .inl ((cA 0), n_t_waitBlock, .inl t_waitBlock_0)), (a_t_waitByte, .inl ((cA 0), n_t_waitByte, .inl t_waitByte_0)), (a_t_waitOldest, .inl ((cA 0), n_t_waitOldest, .inl t_waitOldest_0))] := hD
          refine lv_iconst (v := 0) hx hb d_Md_comesFirst_70 (by decide) ?_
          refine lv_istore_n (lv' := [(2, .int (0 : Int32)), (0, .ref a_t), (1, .int p0)]) hx hb d_Md_comesFirst_71 rfl hl (by decide) rfl (fun ls hl => ?_)
          exact k_Md_comesFirst_L72 hx hb hr hml hown hts hlocks hA hE hK a_t a_t_disk a_t_tape a_t_waitBlock a_t_waitByte a_t_waitOldest t_first t_last n_t_disk t_disk n_t_tape t_tape t_tapeLong t_kept t_next t_come t_crashes t_thrown t_open t_openFirst t_openMany t_openBytes t_nextPage t_turn t_oldest n_t_waitBlock t_waitBlock n_t_waitByte t_waitByte n_t_waitOldest t_waitOldest t_waiting p0 t_disk' t_oldest_0 t_waitByte_0 (t_waiting_0 - (1 : Int32)) _ _ t_waitBlock_0 t_waitOldest_0 (0 : Int32) _ _ hf (hP.sub [0, 1, 2, 3, 4, 5] rfl) (hD.sub [0, 1, 2, 3, 4, 5] (by decide) rfl) hS ls (lv_sub hl [1, 2, 0] rfl)
        · replace hf := (if_neg c_12).symm.trans hf
          refine lv_aload_n hx hb d_Md_comesFirst_50 rfl (lv_at hl 0 rfl) ?_
          refine lv_aload_n hx hb d_Md_comesFirst_51 rfl (lv_at hl 0 rfl) ?_
          refine va_get (D := D) (ci := 8) (v := .ref a_t_waitOldest) (C := R_Md) (T := F_Md) (N := 21) hx hb hts (fun w9 h9 => .tail _ (gu_Md w9 h9)) hown hK hP 0 rfl rfl 19 (by decide) (hts _ (.tail _ gm_298)) (fun _ h9 => h9) rfl d_Md_comesFirst_52 ?_
          refine lv_iconst (v := 0) hx hb d_Md_comesFirst_55 (by decide) ?_
          obtain ⟨ck_13, hf⟩ := hk_if hf
          refine va_iald hx hb hK hP 5 0 rfl rfl ck_13 d_Md_comesFirst_56 ?_
          refine va_put (D := D) (ci := 8) (v := .int (t_waitOldest_0 (0 : Int32).toNatClampNeg)) (ty := .int) (C := R_Md) (T := F_Md) (N := 21) hx hb hts (fun w9 h9 => .tail _ (gu_Md w9 h9)) t_Md t_Md_ok n_Md hown hK hP hD hS 0 rfl rfl 16 (by decide) (hts _ (.tail _ gm_304)) (fun _ h9 => h9) rfl (by decide +kernel) rfl rfl (Nat.le_of_ble_eq_true rfl) d_Md_comesFirst_57 (fun H locs hP hD hS => ?_)
          have hP : va_P D classes [(a_t, .inr (8, [.ref a_t_disk, .ref a_t_tape, .int t_tapeLong, t_first, t_last, .int t_kept, .int t_next, .int t_come, .int t_crashes, .int t_thrown, .int t_open, .int t_openFirst, .int t_openMany, .int t_openBytes, .int t_nextPage, .int t_turn, .int (t_waitOldest_0 (0 : Int32).toNatClampNeg), .ref a_t_waitBlock, .ref a_t_waitByte, .ref a_t_waitOldest, .int t_waiting_0])), (a_t_disk, .inl ((cA 0), n_t_disk, .inl t_disk')), (a_t_tape, .inl ((cA 0), n_t_tape, .inl t_tape)), (a_t_waitBlock, .inl ((cA 0), n_t_waitBlock, .inl t_waitBlock_0)), (a_t_waitByte, .inl ((cA 0), n_t_waitByte, .inl t_waitByte_0)), (a_t_waitOldest, .inl ((cA 0), n_t_waitOldest, .inl t_waitOldest_0))] H := hP
          have hD : va_D A [(a_t, .inr (8, [.ref a_t_disk, .ref a_t_tape, .int t_tapeLong, t_first, t_last, .int t_kept, .int t_next, .int t_come, .int t_crashes, .int t_thrown, .int t_open, .int t_openFirst, .int t_openMany, .int t_openBytes, .int t_nextPage, .int t_turn, .int (t_waitOldest_0 (0 : Int32).toNatClampNeg), .ref a_t_waitBlock, .ref a_t_waitByte, .ref a_t_waitOldest, .int t_waiting_0])), (a_t_disk, .inl ((cA 0), n_t_disk, .inl t_disk')), (a_t_tape, .inl ((cA 0), n_t_tape, .inl t_tape)), (a_t_waitBlock, .inl ((cA 0), n_t_waitBlock, .inl t_waitBlock_0)), (a_t_waitByte, .inl ((cA 0), n_t_waitByte, .inl t_waitByte_0)), (a_t_waitOldest, .inl ((cA 0), n_t_waitOldest, .inl t_waitOldest_0))] := hD
          refine lv_aload_n hx hb d_Md_comesFirst_60 rfl (lv_at hl 0 rfl) ?_
          refine lv_dup hx hb d_Md_comesFirst_61 rfl ?_
          refine va_get (D := D) (ci := 8) (v := .int t_waiting_0) (C := R_Md) (T := F_Md) (N := 21) hx hb hts (fun w9 h9 => .tail _ (gu_Md w9 h9)) hown hK hP 0 rfl rfl 20 (by decide) (hts _ (.tail _ gm_296)) (fun _ h9 => h9) rfl d_Md_comesFirst_62 ?_
          refine lv_iconst (v := 1) hx hb d_Md_comesFirst_65 (by decide) ?_
          refine lv_isub hx hb d_Md_comesFirst_66 ?_
          refine va_put (D := D) (ci := 8) (v := .int (t_waiting_0 - (1 : Int32))) (ty := .int) (C := R_Md) (T := F_Md) (N := 21) hx hb hts (fun w9 h9 => .tail _ (gu_Md w9 h9)) t_Md t_Md_ok n_Md hown hK hP hD hS 0 rfl rfl 20 (by decide) (hts _ (.tail _ gm_296)) (fun _ h9 => h9) rfl (by decide +kernel) rfl rfl (Nat.le_of_ble_eq_true rfl) d_Md_comesFirst_67 (fun H locs hP hD hS => ?_)
          have hP : va_P D classes [(a_t, .inr (8, [.ref a_t_disk, .ref a_t_tape, .int t_tapeLong, t_first, t_last, .int t_kept, .int t_next, .int t_come, .int t_crashes, .int t_thrown, .int t_open, .int t_openFirst, .int t_openMany, .int t_openBytes, .int t_nextPage, .int t_turn, .int (t_waitOldest_0 (0 : Int32).toNatClampNeg), .ref a_t_waitBlock, .ref a_t_waitByte, .ref a_t_waitOldest, .int (t_waiting_0 - (1 : Int32))])), (a_t_disk, .inl ((cA 0), n_t_disk, .inl t_disk')), (a_t_tape, .inl ((cA 0), n_t_tape, .inl t_tape)), (a_t_waitBlock, .inl ((cA 0), n_t_waitBlock, .inl t_waitBlock_0)), (a_t_waitByte, .inl ((cA 0), n_t_waitByte, .inl t_waitByte_0)), (a_t_waitOldest, .inl ((cA 0), n_t_waitOldest, .inl t_waitOldest_0))] H := hP
          have hD : va_D A [(a_t, .inr (8, [.ref a_t_disk, .ref a_t_tape, .int t_tapeLong, t_first, t_last, .int t_kept, .int t_next, .int t_come, .int t_crashes, .int t_thrown, .int t_open, .int t_openFirst, .int t_openMany, .int t_openBytes, .int t_nextPage, .int t_turn, .int (t_waitOldest_0 (0 : Int32).toNatClampNeg), .ref a_t_waitBlock, .ref a_t_waitByte, .ref a_t_waitOldest, .int (t_waiting_0 - (1 : Int32))])), (a_t_disk, .inl ((cA 0), n_t_disk, .inl t_disk')), (a_t_tape, .inl ((cA 0), n_t_tape, .inl t_tape)), (a_t_waitBlock, .inl ((cA 0), n_t_waitBlock, .inl t_waitBlock_0)), (a_t_waitByte, .inl ((cA 0), n_t_waitByte, .inl t_waitByte_0)), (a_t_waitOldest, .inl ((cA 0), n_t_waitOldest, .inl t_waitOldest_0))] := hD
          refine lv_iconst (v := 0) hx hb d_Md_comesFirst_70 (by decide) ?_
          refine lv_istore_n (lv' := [(2, .int (0 : Int32)), (0, .ref a_t), (1, .int p0)]) hx hb d_Md_comesFirst_71 rfl hl (by decide) rfl (fun ls hl => ?_)
          exact k_Md_comesFirst_L72 hx hb hr hml hown hts hlocks hA hE hK a_t a_t_disk a_t_tape a_t_waitBlock a_t_waitByte a_t_waitOldest t_first t_last n_t_disk t_disk n_t_tape t_tape t_tapeLong t_kept t_next t_come t_crashes t_thrown t_open t_openFirst t_openMany t_openBytes t_nextPage t_turn t_oldest n_t_waitBlock t_waitBlock n_t_waitByte t_waitByte n_t_waitOldest t_waitOldest t_waiting p0 t_disk' (t_waitOldest_0 (0 : Int32).toNatClampNeg) t_waitByte_0 (t_waiting_0 - (1 : Int32)) _ _ t_waitBlock_0 t_waitOldest_0 (0 : Int32) _ _ hf (hP.sub [0, 1, 2, 3, 4, 5] rfl) (hD.sub [0, 1, 2, 3, 4, 5] (by decide) rfl) hS ls (lv_sub hl [1, 2, 0] rfl)
    · replace hf := (if_neg c_1).symm.trans hf
      refine lv_aload_n hx hb d_Md_comesFirst_7 rfl (lv_at hl 0 rfl) ?_
      refine va_get (D := D) (ci := 8) (v := .ref a_t_disk) (C := R_Md) (T := F_Md) (N := 21) hx hb hts (fun w9 h9 => .tail _ (gu_Md w9 h9)) hown hK hP 0 rfl rfl 0 (by decide) (hts _ (.tail _ gm_305)) (fun _ h9 => h9) rfl d_Md_comesFirst_8 ?_
      refine lv_bipush (v := 64) hx hb d_Md_comesFirst_11 (by decide) ?_
      refine lv_aload_n hx hb d_Md_comesFirst_13 rfl (lv_at hl 0 rfl) ?_
      refine va_get (D := D) (ci := 8) (v := .ref a_t_waitBlock) (C := R_Md) (T := F_Md) (N := 21) hx hb hts (fun w9 h9 => .tail _ (gu_Md w9 h9)) hown hK hP 0 rfl rfl 17 (by decide) (hts _ (.tail _ gm_297)) (fun _ h9 => h9) rfl d_Md_comesFirst_14 ?_
      refine lv_iconst (v := 0) hx hb d_Md_comesFirst_17 (by decide) ?_
      obtain ⟨ck_14, hf⟩ := hk_if hf
      refine va_iald hx hb hK hP 3 0 rfl rfl ck_14 d_Md_comesFirst_18 ?_
      refine lv_imul hx hb d_Md_comesFirst_19 ?_
      refine lv_iload_n hx hb d_Md_comesFirst_20 rfl (lv_at hl 2 rfl) ?_
      refine lv_iadd hx hb d_Md_comesFirst_21 ?_
      refine lv_aload_n hx hb d_Md_comesFirst_22 rfl (lv_at hl 0 rfl) ?_
      refine va_get (D := D) (ci := 8) (v := .ref a_t_waitByte) (C := R_Md) (T := F_Md) (N := 21) hx hb hts (fun w9 h9 => .tail _ (gu_Md w9 h9)) hown hK hP 0 rfl rfl 18 (by decide) (hts _ (.tail _ gm_295)) (fun _ h9 => h9) rfl d_Md_comesFirst_23 ?_
      refine lv_iload_n hx hb d_Md_comesFirst_26 rfl (lv_at hl 2 rfl) ?_
      obtain ⟨ck_15, hf⟩ := hk_if hf
      refine va_iald hx hb hK hP 4 0 rfl rfl ck_15 d_Md_comesFirst_27 ?_
      obtain ⟨ck_16, hf⟩ := hk_if hf
      refine va_iast hx hb hK hP hD hS 1 0 rfl rfl ck_16 d_Md_comesFirst_28 (fun H locs hP hD hS => ?_)
      have hP : va_P D classes [(a_t, .inr (8, [.ref a_t_disk, .ref a_t_tape, .int t_tapeLong, t_first, t_last, .int t_kept, .int t_next, .int t_come, .int t_crashes, .int t_thrown, .int t_open, .int t_openFirst, .int t_openMany, .int t_openBytes, .int t_nextPage, .int t_turn, .int t_oldest_0, .ref a_t_waitBlock, .ref a_t_waitByte, .ref a_t_waitOldest, .int t_waiting_0])), (a_t_disk, .inl ((cA 0), n_t_disk, .inl (upd t_disk' (((64 : Int32) * (t_waitBlock_0 (0 : Int32).toNatClampNeg)) + x2).toNatClampNeg (t_waitByte_0 x2.toNatClampNeg)))), (a_t_tape, .inl ((cA 0), n_t_tape, .inl t_tape)), (a_t_waitBlock, .inl ((cA 0), n_t_waitBlock, .inl t_waitBlock_0)), (a_t_waitByte, .inl ((cA 0), n_t_waitByte, .inl t_waitByte_0)), (a_t_waitOldest, .inl ((cA 0), n_t_waitOldest, .inl t_waitOldest_0))] H := hP
      have hD : va_D A [(a_t, .inr (8, [.ref a_t_disk, .ref a_t_tape, .int t_tapeLong, t_first, t_last, .int t_kept, .int t_next, .int t_come, .int t_crashes, .int t_thrown, .int t_open, .int t_openFirst, .int t_openMany, .int t_openBytes, .int t_nextPage, .int t_turn, .int t_oldest_0, .ref a_t_waitBlock, .ref a_t_waitByte, .ref a_t_waitOldest, .int t_waiting_0])), (a_t_disk, .inl ((cA 0), n_t_disk, .inl (upd t_disk' (((64 : Int32) * (t_waitBlock_0 (0 : Int32).toNatClampNeg)) + x2).toNatClampNeg (t_waitByte_0 x2.toNatClampNeg)))), (a_t_tape, .inl ((cA 0), n_t_tape, .inl t_tape)), (a_t_waitBlock, .inl ((cA 0), n_t_waitBlock, .inl t_waitBlock_0)), (a_t_waitByte, .inl ((cA 0), n_t_waitByte, .inl t_waitByte_0)), (a_t_waitOldest, .inl ((cA 0), n_t_waitOldest, .inl t_waitOldest_0))] := hD
      refine lv_iinc (v := (x2 + (1 : Int32))) (lv' := [(2, .int (x2 + (1 : Int32))), (0, .ref a_t), (1, .int p0)]) hx hb d_Md_comesFirst_29 hl (k := 2) rfl rfl (by decide) rfl (fun ls hl => ?_)
      refine lv_goto (tgt := 2) hx hb d_Md_comesFirst_32 (by decide) ?_
      exact ih (upd t_disk' (((64 : Int32) * (t_waitBlock_0 (0 : Int32).toNatClampNeg)) + x2).toNatClampNeg (t_waitByte_0 x2.toNatClampNeg)) (x2 + (1 : Int32)) _ _ hf (hP.sub [0, 1, 2, 3, 4, 5] rfl) (hD.sub [0, 1, 2, 3, 4, 5] (by decide) rfl) hS ls (lv_sub hl [1, 2, 0] rfl)
set_option maxHeartbeats 4000000 in
set_option maxRecDepth 100000 in
theorem c_Md_comesFirst (l : Launch) (D : va_G) (cA : Nat → ClassId) (a_t a_t_disk a_t_tape a_t_waitBlock a_t_waitByte a_t_waitOldest : Nat) (t_first t_last : Value) (sz : Nat) (n_t_disk : Nat) (t_disk : Nat → Int32) (n_t_tape : Nat) (t_tape : Nat → Int32) (t_tapeLong : Int32) (t_kept : Int32) (t_next : Int32) (t_come : Int32) (t_crashes : Int32) (t_thrown : Int32) (t_open : Int32) (t_openFirst : Int32) (t_openMany : Int32) (t_openBytes : Int32) (t_nextPage : Int32) (t_turn : Int32) (t_oldest : Int32) (n_t_waitBlock : Nat) (t_waitBlock : Nat → Int32) (n_t_waitByte : Nat) (t_waitByte : Nat → Int32) (n_t_waitOldest : Nat) (t_waitOldest : Nat → Int32) (t_waiting : Int32) (p0 : Int32) (o : (Nat → Int32) × Int32 × (Nat → Int32) × (Nat → Int32) × (Nat → Int32) × Int32) (hf : f_Md_comesFirst n_t_disk t_disk n_t_tape t_tape t_tapeLong t_kept t_next t_come t_crashes t_thrown t_open t_openFirst t_openMany t_openBytes t_nextPage t_turn t_oldest n_t_waitBlock t_waitBlock n_t_waitByte t_waitByte n_t_waitOldest t_waitOldest t_waiting p0 = some o) : Met l y_Md_comesFirst wd_Md_comesFirst ({ frames := 0, cells := 0, slots := 0, locals := 0 }) (va_Pc [.ref a_t, .int p0] (aP D cA [(a_t, .inr (8, [.ref a_t_disk, .ref a_t_tape, .int t_tapeLong, t_first, t_last, .int t_kept, .int t_next, .int t_come, .int t_crashes, .int t_thrown, .int t_open, .int t_openFirst, .int t_openMany, .int t_openBytes, .int t_nextPage, .int t_turn, .int t_oldest, .ref a_t_waitBlock, .ref a_t_waitByte, .ref a_t_waitOldest, .int t_waiting])), (a_t_disk, .inl ((cA 0), n_t_disk, .inl t_disk)), (a_t_tape, .inl ((cA 0), n_t_tape, .inl t_tape)), (a_t_waitBlock, .inl ((cA 0), n_t_waitBlock, .inl t_waitBlock)), (a_t_waitByte, .inl ((cA 0), n_t_waitByte, .inl t_waitByte)), (a_t_waitOldest, .inl ((cA 0), n_t_waitOldest, .inl t_waitOldest))] sz)) (va_Qv (fun (_ : Unit) => True) (fun _ => aR D cA (va_A [(a_t, .inr (8, [.ref a_t_disk, .ref a_t_tape, .int t_tapeLong, t_first, t_last, .int t_kept, .int t_next, .int t_come, .int t_crashes, .int t_thrown, .int t_open, .int t_openFirst, .int t_openMany, .int t_openBytes, .int t_nextPage, .int t_turn, .int t_oldest, .ref a_t_waitBlock, .ref a_t_waitByte, .ref a_t_waitOldest, .int t_waiting])), (a_t_disk, .inl ((cA 0), n_t_disk, .inl t_disk)), (a_t_tape, .inl ((cA 0), n_t_tape, .inl t_tape)), (a_t_waitBlock, .inl ((cA 0), n_t_waitBlock, .inl t_waitBlock)), (a_t_waitByte, .inl ((cA 0), n_t_waitByte, .inl t_waitByte)), (a_t_waitOldest, .inl ((cA 0), n_t_waitOldest, .inl t_waitOldest))] sz) [(a_t, .inr (8, [.ref a_t_disk, .ref a_t_tape, .int t_tapeLong, t_first, t_last, .int t_kept, .int t_next, .int t_come, .int t_crashes, .int t_thrown, .int t_open, .int t_openFirst, .int t_openMany, .int t_openBytes, .int t_nextPage, .int t_turn, .int o.2.1, .ref a_t_waitBlock, .ref a_t_waitByte, .ref a_t_waitOldest, .int o.2.2.2.2.2])), (a_t_disk, .inl ((cA 0), n_t_disk, .inl o.1)), (a_t_tape, .inl ((cA 0), n_t_tape, .inl t_tape)), (a_t_waitBlock, .inl ((cA 0), n_t_waitBlock, .inl o.2.2.1)), (a_t_waitByte, .inl ((cA 0), n_t_waitByte, .inl o.2.2.2.1)), (a_t_waitOldest, .inl ((cA 0), n_t_waitOldest, .inl o.2.2.2.2.1))]) (va_A [(a_t, .inr (8, [.ref a_t_disk, .ref a_t_tape, .int t_tapeLong, t_first, t_last, .int t_kept, .int t_next, .int t_come, .int t_crashes, .int t_thrown, .int t_open, .int t_openFirst, .int t_openMany, .int t_openBytes, .int t_nextPage, .int t_turn, .int t_oldest, .ref a_t_waitBlock, .ref a_t_waitByte, .ref a_t_waitOldest, .int t_waiting])), (a_t_disk, .inl ((cA 0), n_t_disk, .inl t_disk)), (a_t_tape, .inl ((cA 0), n_t_tape, .inl t_tape)), (a_t_waitBlock, .inl ((cA 0), n_t_waitBlock, .inl t_waitBlock)), (a_t_waitByte, .inl ((cA 0), n_t_waitByte, .inl t_waitByte)), (a_t_waitOldest, .inl ((cA 0), n_t_waitOldest, .inl t_waitOldest))] sz)) 0 0 (va_A [(a_t, .inr (8, [.ref a_t_disk, .ref a_t_tape, .int t_tapeLong, t_first, t_last, .int t_kept, .int t_next, .int t_come, .int t_crashes, .int t_thrown, .int t_open, .int t_openFirst, .int t_openMany, .int t_openBytes, .int t_nextPage, .int t_turn, .int t_oldest, .ref a_t_waitBlock, .ref a_t_waitByte, .ref a_t_waitOldest, .int t_waiting])), (a_t_disk, .inl ((cA 0), n_t_disk, .inl t_disk)), (a_t_tape, .inl ((cA 0), n_t_tape, .inl t_tape)), (a_t_waitBlock, .inl ((cA 0), n_t_waitBlock, .inl t_waitBlock)), (a_t_waitByte, .inl ((cA 0), n_t_waitByte, .inl t_waitByte)), (a_t_waitOldest, .inl ((cA 0), n_t_waitOldest, .inl t_waitOldest))] sz) := by
  refine Met.ofW (cc := b_Md_comesFirst) (maxL := 3) (ret := none) (by decide +kernel) rfl ?_
  intro p e s m args below meth c s₁ B hml hv
  obtain ⟨rfl, hsz, hP, hK, hD0, hE⟩ := hv
  have hx := B.exec
  have hb := B.bytes
  have hr := B.returns
  have hts := atoms_spec (ws := wd_Md_comesFirst) B.pre
  have hown : s.vm.findClass R_Md = some m.cls := findClass_of_methodNamed B.named
  have hlocks := B.notSynchronized
  subst hsz
  have hD := hD0.self (sz := s.heap.size)
  generalize hAe : va_A [(a_t, .inr (8, [.ref a_t_disk, .ref a_t_tape, .int t_tapeLong, t_first, t_last, .int t_kept, .int t_next, .int t_come, .int t_crashes, .int t_thrown, .int t_open, .int t_openFirst, .int t_openMany, .int t_openBytes, .int t_nextPage, .int t_turn, .int t_oldest, .ref a_t_waitBlock, .ref a_t_waitByte, .ref a_t_waitOldest, .int t_waiting])), (a_t_disk, .inl ((cA 0), n_t_disk, .inl t_disk)), (a_t_tape, .inl ((cA 0), n_t_tape, .inl t_tape)), (a_t_waitBlock, .inl ((cA 0), n_t_waitBlock, .inl t_waitBlock)), (a_t_waitByte, .inl ((cA 0), n_t_waitByte, .inl t_waitByte)), (a_t_waitOldest, .inl ((cA 0), n_t_waitOldest, .inl t_waitOldest))] s.heap.size = A at hD hE ⊢
  have hA : ∀ q : Nat, s.heap.size ≤ q → A q := fun q h => by rw [← hAe]; exact Or.inr h
  have hS : va_S A s.heap s.heap [] := va_S.rf
  have hl := lv_entry [.ref a_t, .int p0] (n := 3) (Nat.le_of_ble_eq_true rfl)
  rw [lg_entry_eq]
  generalize (lg_sl [.ref a_t, .int p0] ++ List.replicate (3 - (lg_sl [.ref a_t, .int p0]).length) Slot.unset).toArray = ls at hl ⊢
  have hl : lv_has ls 3 [(0, .ref a_t), (1, .int p0)] := hl
  unfold f_Md_comesFirst at hf
  refine lv_iconst (v := 0) hx hb d_Md_comesFirst_0 (by decide) ?_
  refine lv_istore_n (lv' := [(2, .int (0 : Int32)), (0, .ref a_t), (1, .int p0)]) hx hb d_Md_comesFirst_1 rfl hl (by decide) rfl (fun ls hl => ?_)
  exact k_Md_comesFirst_L2 hx hb hr hml hown hts hlocks hA hE hK a_t a_t_disk a_t_tape a_t_waitBlock a_t_waitByte a_t_waitOldest t_first t_last n_t_disk t_disk n_t_tape t_tape t_tapeLong t_kept t_next t_come t_crashes t_thrown t_open t_openFirst t_openMany t_openBytes t_nextPage t_turn t_oldest n_t_waitBlock t_waitBlock n_t_waitByte t_waitByte n_t_waitOldest t_waitOldest t_waiting p0 t_oldest t_waitBlock t_waitByte t_waitOldest t_waiting _ _ t_disk (0 : Int32) _ _ hf (hP.sub [0, 1, 2, 3, 4, 5] rfl) (hD.sub [0, 1, 2, 3, 4, 5] (by decide) rfl) hS ls (lv_sub hl [1, 2, 0] rfl)
theorem d_Md_doFirst_0 : decode b_Md_doFirst 0 = .ok (.aload_n 0, 1) := by decide +kernel
theorem d_Md_doFirst_1 : decode b_Md_doFirst 1 = .ok (.bipush 64, 2) := by decide +kernel
theorem d_Md_doFirst_3 : decode b_Md_doFirst 3 = .ok (.invokevirtual 126, 3) := by decide +kernel
theorem d_Md_doFirst_6 : decode b_Md_doFirst 6 = .ok (.return_, 1) := by decide +kernel
abbrev wd_Md_doFirst : List Cond := .code y_Md_doFirst b_Md_doFirst 1 none :: gw
def f_Md_doFirst (n_t_disk : Nat) (t_disk : Nat → Int32) (n_t_tape : Nat) (t_tape : Nat → Int32) (t_tapeLong : Int32) (t_kept : Int32) (t_next : Int32) (t_come : Int32) (t_crashes : Int32) (t_thrown : Int32) (t_open : Int32) (t_openFirst : Int32) (t_openMany : Int32) (t_openBytes : Int32) (t_nextPage : Int32) (t_turn : Int32) (t_oldest : Int32) (n_t_waitBlock : Nat) (t_waitBlock : Nat → Int32) (n_t_waitByte : Nat) (t_waitByte : Nat → Int32) (n_t_waitOldest : Nat) (t_waitOldest : Nat → Int32) (t_waiting : Int32) : Option ((Nat → Int32) × Int32 × (Nat → Int32) × (Nat → Int32) × (Nat → Int32) × Int32) :=
  (f_Md_comesFirst n_t_disk t_disk n_t_tape t_tape t_tapeLong t_kept t_next t_come t_crashes t_thrown t_open t_openFirst t_openMany t_openBytes t_nextPage t_turn t_oldest n_t_waitBlock t_waitBlock n_t_waitByte t_waitByte n_t_waitOldest t_waitOldest t_waiting (64 : Int32)).bind fun o_1 =>
  some (o_1.1, o_1.2.1, o_1.2.2.1, o_1.2.2.2.1, o_1.2.2.2.2.1, o_1.2.2.2.2.2)
set_option maxHeartbeats 4000000 in
set_option maxRecDepth 100000 in
theorem c_Md_doFirst (l : Launch) (D : va_G) (cA : Nat → ClassId) (a_t a_t_disk a_t_tape a_t_waitBlock a_t_waitByte a_t_waitOldest : Nat) (t_first t_last : Value) (sz : Nat) (n_t_disk : Nat) (t_disk : Nat → Int32) (n_t_tape : Nat) (t_tape : Nat → Int32) (t_tapeLong : Int32) (t_kept : Int32) (t_next : Int32) (t_come : Int32) (t_crashes : Int32) (t_thrown : Int32) (t_open : Int32) (t_openFirst : Int32) (t_openMany : Int32) (t_openBytes : Int32) (t_nextPage : Int32) (t_turn : Int32) (t_oldest : Int32) (n_t_waitBlock : Nat) (t_waitBlock : Nat → Int32) (n_t_waitByte : Nat) (t_waitByte : Nat → Int32) (n_t_waitOldest : Nat) (t_waitOldest : Nat → Int32) (t_waiting : Int32) (o : (Nat → Int32) × Int32 × (Nat → Int32) × (Nat → Int32) × (Nat → Int32) × Int32) (hf : f_Md_doFirst n_t_disk t_disk n_t_tape t_tape t_tapeLong t_kept t_next t_come t_crashes t_thrown t_open t_openFirst t_openMany t_openBytes t_nextPage t_turn t_oldest n_t_waitBlock t_waitBlock n_t_waitByte t_waitByte n_t_waitOldest t_waitOldest t_waiting = some o) : Met l y_Md_doFirst wd_Md_doFirst ({ frames := 1, cells := 0, slots := 0, locals := 22 }) (va_Pc [.ref a_t] (aP D cA [(a_t, .inr (8, [.ref a_t_disk, .ref a_t_tape, .int t_tapeLong, t_first, t_last, .int t_kept, .int t_next, .int t_come, .int t_crashes, .int t_thrown, .int t_open, .int t_openFirst, .int t_openMany, .int t_openBytes, .int t_nextPage, .int t_turn, .int t_oldest, .ref a_t_waitBlock, .ref a_t_waitByte, .ref a_t_waitOldest, .int t_waiting])), (a_t_disk, .inl ((cA 0), n_t_disk, .inl t_disk)), (a_t_tape, .inl ((cA 0), n_t_tape, .inl t_tape)), (a_t_waitBlock, .inl ((cA 0), n_t_waitBlock, .inl t_waitBlock)), (a_t_waitByte, .inl ((cA 0), n_t_waitByte, .inl t_waitByte)), (a_t_waitOldest, .inl ((cA 0), n_t_waitOldest, .inl t_waitOldest))] sz)) (va_Qv (fun (_ : Unit) => True) (fun _ => aR D cA (va_A [(a_t, .inr (8, [.ref a_t_disk, .ref a_t_tape, .int t_tapeLong, t_first, t_last, .int t_kept, .int t_next, .int t_come, .int t_crashes, .int t_thrown, .int t_open, .int t_openFirst, .int t_openMany, .int t_openBytes, .int t_nextPage, .int t_turn, .int t_oldest, .ref a_t_waitBlock, .ref a_t_waitByte, .ref a_t_waitOldest, .int t_waiting])), (a_t_disk, .inl ((cA 0), n_t_disk, .inl t_disk)), (a_t_tape, .inl ((cA 0), n_t_tape, .inl t_tape)), (a_t_waitBlock, .inl ((cA 0), n_t_waitBlock, .inl t_waitBlock)), (a_t_waitByte, .inl ((cA 0), n_t_waitByte, .inl t_waitByte)), (a_t_waitOldest, .inl ((cA 0), n_t_waitOldest, .inl t_waitOldest))] sz) [(a_t, .inr (8, [.ref a_t_disk, .ref a_t_tape, .int t_tapeLong, t_first, t_last, .int t_kept, .int t_next, .int t_come, .int t_crashes, .int t_thrown, .int t_open, .int t_openFirst, .int t_openMany, .int t_openBytes, .int t_nextPage, .int t_turn, .int o.2.1, .ref a_t_waitBlock, .ref a_t_waitByte, .ref a_t_waitOldest, .int o.2.2.2.2.2])), (a_t_disk, .inl ((cA 0), n_t_disk, .inl o.1)), (a_t_tape, .inl ((cA 0), n_t_tape, .inl t_tape)), (a_t_waitBlock, .inl ((cA 0), n_t_waitBlock, .inl o.2.2.1)), (a_t_waitByte, .inl ((cA 0), n_t_waitByte, .inl o.2.2.2.1)), (a_t_waitOldest, .inl ((cA 0), n_t_waitOldest, .inl o.2.2.2.2.1))]) (va_A [(a_t, .inr (8, [.ref a_t_disk, .ref a_t_tape, .int t_tapeLong, t_first, t_last, .int t_kept, .int t_next, .int t_come, .int t_crashes, .int t_thrown, .int t_open, .int t_openFirst, .int t_openMany, .int t_openBytes, .int t_nextPage, .int t_turn, .int t_oldest, .ref a_t_waitBlock, .ref a_t_waitByte, .ref a_t_waitOldest, .int t_waiting])), (a_t_disk, .inl ((cA 0), n_t_disk, .inl t_disk)), (a_t_tape, .inl ((cA 0), n_t_tape, .inl t_tape)), (a_t_waitBlock, .inl ((cA 0), n_t_waitBlock, .inl t_waitBlock)), (a_t_waitByte, .inl ((cA 0), n_t_waitByte, .inl t_waitByte)), (a_t_waitOldest, .inl ((cA 0), n_t_waitOldest, .inl t_waitOldest))] sz)) 0 0 (va_A [(a_t, .inr (8, [.ref a_t_disk, .ref a_t_tape, .int t_tapeLong, t_first, t_last, .int t_kept, .int t_next, .int t_come, .int t_crashes, .int t_thrown, .int t_open, .int t_openFirst, .int t_openMany, .int t_openBytes, .int t_nextPage, .int t_turn, .int t_oldest, .ref a_t_waitBlock, .ref a_t_waitByte, .ref a_t_waitOldest, .int t_waiting])), (a_t_disk, .inl ((cA 0), n_t_disk, .inl t_disk)), (a_t_tape, .inl ((cA 0), n_t_tape, .inl t_tape)), (a_t_waitBlock, .inl ((cA 0), n_t_waitBlock, .inl t_waitBlock)), (a_t_waitByte, .inl ((cA 0), n_t_waitByte, .inl t_waitByte)), (a_t_waitOldest, .inl ((cA 0), n_t_waitOldest, .inl t_waitOldest))] sz) := by
  refine Met.ofW (cc := b_Md_doFirst) (maxL := 1) (ret := none) (by decide +kernel) rfl ?_
  intro p e s m args below meth c s₁ B hml hv
  obtain ⟨rfl, hsz, hP, hK, hD0, hE⟩ := hv
  have hx := B.exec
  have hb := B.bytes
  have hr := B.returns
  have hts := atoms_spec (ws := wd_Md_doFirst) B.pre
  have hown : s.vm.findClass R_Md = some m.cls := findClass_of_methodNamed B.named
  have hlocks := B.notSynchronized
  subst hsz
  have hD := hD0.self (sz := s.heap.size)
  generalize hAe : va_A [(a_t, .inr (8, [.ref a_t_disk, .ref a_t_tape, .int t_tapeLong, t_first, t_last, .int t_kept, .int t_next, .int t_come, .int t_crashes, .int t_thrown, .int t_open, .int t_openFirst, .int t_openMany, .int t_openBytes, .int t_nextPage, .int t_turn, .int t_oldest, .ref a_t_waitBlock, .ref a_t_waitByte, .ref a_t_waitOldest, .int t_waiting])), (a_t_disk, .inl ((cA 0), n_t_disk, .inl t_disk)), (a_t_tape, .inl ((cA 0), n_t_tape, .inl t_tape)), (a_t_waitBlock, .inl ((cA 0), n_t_waitBlock, .inl t_waitBlock)), (a_t_waitByte, .inl ((cA 0), n_t_waitByte, .inl t_waitByte)), (a_t_waitOldest, .inl ((cA 0), n_t_waitOldest, .inl t_waitOldest))] s.heap.size = A at hD hE ⊢
  have hA : ∀ q : Nat, s.heap.size ≤ q → A q := fun q h => by rw [← hAe]; exact Or.inr h
  have hS : va_S A s.heap s.heap [] := va_S.rf
  have hl := lv_entry [.ref a_t] (n := 1) (Nat.le_of_ble_eq_true rfl)
  rw [lg_entry_eq]
  generalize (lg_sl [.ref a_t] ++ List.replicate (1 - (lg_sl [.ref a_t]).length) Slot.unset).toArray = ls at hl ⊢
  have hl : lv_has ls 1 [(0, .ref a_t)] := hl
  unfold f_Md_doFirst at hf
  refine lv_aload_n hx hb d_Md_doFirst_0 rfl (lv_at hl 0 rfl) ?_
  refine lv_bipush (v := 64) hx hb d_Md_doFirst_1 (by decide) ?_
  obtain ⟨o_1, ho_1, hf⟩ := hk_bd hf
  refine q_v (wr := []) (va_runV (As := [.int (64 : Int32)]) (rest := []) ⟨hx, hb, hml, hown, hts⟩ (c_Md_comesFirst l D cA a_t a_t_disk a_t_tape a_t_waitBlock a_t_waitByte a_t_waitOldest t_first t_last _ n_t_disk t_disk n_t_tape t_tape t_tapeLong t_kept t_next t_come t_crashes t_thrown t_open t_openFirst t_openMany t_openBytes t_nextPage t_turn t_oldest n_t_waitBlock t_waitBlock n_t_waitByte t_waitByte n_t_waitOldest t_waitOldest t_waiting (64 : Int32) o_1 ho_1) (cwV 1 hts (gd_V gm_307 gm_308 gm_309 gm_310 gm_306) rfl rfl rfl (by decide +kernel) ⟨Nat.le_of_ble_eq_true rfl, Nat.le_of_ble_eq_true rfl⟩) (q_pV hK hP hD hS hA hE [0, 1, 2, 3, 4, 5] (by decide) rfl rfl rfl rfl) rfl rfl hl.1 rfl (lv_room (Nat.le_of_ble_eq_true rfl)) d_Md_doFirst_3 ⟨Nat.zero_le _, Nat.zero_le _⟩) hP hD hS hA [0, 1, 2, 3, 4, 5] [] rfl rfl (by decide) (by decide) (fun H locs hP hD hS => ?_)
  have hP : va_P D classes [(a_t, .inr (8, [.ref a_t_disk, .ref a_t_tape, .int t_tapeLong, t_first, t_last, .int t_kept, .int t_next, .int t_come, .int t_crashes, .int t_thrown, .int t_open, .int t_openFirst, .int t_openMany, .int t_openBytes, .int t_nextPage, .int t_turn, .int o_1.2.1, .ref a_t_waitBlock, .ref a_t_waitByte, .ref a_t_waitOldest, .int o_1.2.2.2.2.2])), (a_t_disk, .inl ((cA 0), n_t_disk, .inl o_1.1)), (a_t_tape, .inl ((cA 0), n_t_tape, .inl t_tape)), (a_t_waitBlock, .inl ((cA 0), n_t_waitBlock, .inl o_1.2.2.1)), (a_t_waitByte, .inl ((cA 0), n_t_waitByte, .inl o_1.2.2.2.1)), (a_t_waitOldest, .inl ((cA 0), n_t_waitOldest, .inl o_1.2.2.2.2.1))] H := hP
  have hD : va_D A [(a_t, .inr (8, [.ref a_t_disk, .ref a_t_tape, .int t_tapeLong, t_first, t_last, .int t_kept, .int t_next, .int t_come, .int t_crashes, .int t_thrown, .int t_open, .int t_openFirst, .int t_openMany, .int t_openBytes, .int t_nextPage, .int t_turn, .int o_1.2.1, .ref a_t_waitBlock, .ref a_t_waitByte, .ref a_t_waitOldest, .int o_1.2.2.2.2.2])), (a_t_disk, .inl ((cA 0), n_t_disk, .inl o_1.1)), (a_t_tape, .inl ((cA 0), n_t_tape, .inl t_tape)), (a_t_waitBlock, .inl ((cA 0), n_t_waitBlock, .inl o_1.2.2.1)), (a_t_waitByte, .inl ((cA 0), n_t_waitByte, .inl o_1.2.2.2.1)), (a_t_waitOldest, .inl ((cA 0), n_t_waitOldest, .inl o_1.2.2.2.2.1))] := hD
  have ho9 := Option.some.inj hf
  subst ho9
  have hP9 := hP.sub (ws' := [(a_t, .inr (8, [.ref a_t_disk, .ref a_t_tape, .int t_tapeLong, t_first, t_last, .int t_kept, .int t_next, .int t_come, .int t_crashes, .int t_thrown, .int t_open, .int t_openFirst, .int t_openMany, .int t_openBytes, .int t_nextPage, .int t_turn, .int o_1.2.1, .ref a_t_waitBlock, .ref a_t_waitByte, .ref a_t_waitOldest, .int o_1.2.2.2.2.2])), (a_t_disk, .inl ((cA 0), n_t_disk, .inl o_1.1)), (a_t_tape, .inl ((cA 0), n_t_tape, .inl t_tape)), (a_t_waitBlock, .inl ((cA 0), n_t_waitBlock, .inl o_1.2.2.1)), (a_t_waitByte, .inl ((cA 0), n_t_waitByte, .inl o_1.2.2.2.1)), (a_t_waitOldest, .inl ((cA 0), n_t_waitOldest, .inl o_1.2.2.2.2.1))]) [0, 1, 2, 3, 4, 5] rfl
  have hD9 := hD.sub (ws' := [(a_t, .inr (8, [.ref a_t_disk, .ref a_t_tape, .int t_tapeLong, t_first, t_last, .int t_kept, .int t_next, .int t_come, .int t_crashes, .int t_thrown, .int t_open, .int t_openFirst, .int t_openMany, .int t_openBytes, .int t_nextPage, .int t_turn, .int o_1.2.1, .ref a_t_waitBlock, .ref a_t_waitByte, .ref a_t_waitOldest, .int o_1.2.2.2.2.2])), (a_t_disk, .inl ((cA 0), n_t_disk, .inl o_1.1)), (a_t_tape, .inl ((cA 0), n_t_tape, .inl t_tape)), (a_t_waitBlock, .inl ((cA 0), n_t_waitBlock, .inl o_1.2.2.1)), (a_t_waitByte, .inl ((cA 0), n_t_waitByte, .inl o_1.2.2.2.1)), (a_t_waitOldest, .inl ((cA 0), n_t_waitOldest, .inl o_1.2.2.2.2.1))]) [0, 1, 2, 3, 4, 5] (by decide) rfl
  exact W.vret hx hb hr (fun t ht hW => ⟨⟨(), rfl, trivial, by rw [ht]; exact hP9, va_K.moved hW.alike hK, hD9⟩, hS.F ht⟩) hS.2.2 d_Md_doFirst_6
theorem d_Md_isWhole_0 : decode b_Md_isWhole 0 = .ok (.aload_n 0, 1) := by decide +kernel
theorem d_Md_isWhole_1 : decode b_Md_isWhole 1 = .ok (.getfield 7, 3) := by decide +kernel
theorem d_Md_isWhole_4 : decode b_Md_isWhole 4 = .ok (.bipush 64, 2) := by decide +kernel
theorem d_Md_isWhole_6 : decode b_Md_isWhole 6 = .ok (.iload_n 1, 1) := by decide +kernel
theorem d_Md_isWhole_7 : decode b_Md_isWhole 7 = .ok (.imul, 1) := by decide +kernel
theorem d_Md_isWhole_8 : decode b_Md_isWhole 8 = .ok (.bipush 60, 2) := by decide +kernel
theorem d_Md_isWhole_10 : decode b_Md_isWhole 10 = .ok (.iadd, 1) := by decide +kernel
theorem d_Md_isWhole_11 : decode b_Md_isWhole 11 = .ok (.invokestatic 130, 3) := by decide +kernel
theorem d_Md_isWhole_14 : decode b_Md_isWhole 14 = .ok (.aload_n 0, 1) := by decide +kernel
theorem d_Md_isWhole_15 : decode b_Md_isWhole 15 = .ok (.getfield 7, 3) := by decide +kernel
theorem d_Md_isWhole_18 : decode b_Md_isWhole 18 = .ok (.bipush 64, 2) := by decide +kernel
theorem d_Md_isWhole_20 : decode b_Md_isWhole 20 = .ok (.iload_n 1, 1) := by decide +kernel
theorem d_Md_isWhole_21 : decode b_Md_isWhole 21 = .ok (.imul, 1) := by decide +kernel
theorem d_Md_isWhole_22 : decode b_Md_isWhole 22 = .ok (.invokestatic 86, 3) := by decide +kernel
theorem d_Md_isWhole_25 : decode b_Md_isWhole 25 = .ok (.if_icmp .ne 7, 3) := by decide +kernel
theorem d_Md_isWhole_28 : decode b_Md_isWhole 28 = .ok (.iconst 1, 1) := by decide +kernel
theorem d_Md_isWhole_29 : decode b_Md_isWhole 29 = .ok (.goto 4, 3) := by decide +kernel
theorem d_Md_isWhole_32 : decode b_Md_isWhole 32 = .ok (.iconst 0, 1) := by decide +kernel
theorem d_Md_isWhole_33 : decode b_Md_isWhole 33 = .ok (.ireturn, 1) := by decide +kernel
abbrev wd_Md_isWhole : List Cond := .code y_Md_isWhole b_Md_isWhole 2 (some .boolean) :: gw
def f_Md_isWhole (n_t_disk : Nat) (t_disk : Nat → Int32) (n_t_tape : Nat) (t_tape : Nat → Int32) (t_tapeLong : Int32) (t_kept : Int32) (t_next : Int32) (t_come : Int32) (t_crashes : Int32) (t_thrown : Int32) (t_open : Int32) (t_openFirst : Int32) (t_openMany : Int32) (t_openBytes : Int32) (t_nextPage : Int32) (t_turn : Int32) (t_oldest : Int32) (n_t_waitBlock : Nat) (t_waitBlock : Nat → Int32) (n_t_waitByte : Nat) (t_waitByte : Nat → Int32) (n_t_waitOldest : Nat) (t_waitOldest : Nat → Int32) (t_waiting : Int32) (p0 : Int32) : Option (Int32) :=
  (f_Md_word n_t_disk t_disk (((64 : Int32) * p0) + (60 : Int32))).bind fun o_1 =>
  (f_Md_check n_t_disk t_disk ((64 : Int32) * p0)).bind fun o_2 =>
  if o_1 = o_2 then
    some (1 : Int32)
  else
    some (0 : Int32)
set_option maxHeartbeats 4000000 in
set_option maxRecDepth 100000 in
theorem c_Md_isWhole (l : Launch) (D : va_G) (cA : Nat → ClassId) (a_t a_t_disk a_t_tape a_t_waitBlock a_t_waitByte a_t_waitOldest : Nat) (t_first t_last : Value) (sz : Nat) (n_t_disk : Nat) (t_disk : Nat → Int32) (n_t_tape : Nat) (t_tape : Nat → Int32) (t_tapeLong : Int32) (t_kept : Int32) (t_next : Int32) (t_come : Int32) (t_crashes : Int32) (t_thrown : Int32) (t_open : Int32) (t_openFirst : Int32) (t_openMany : Int32) (t_openBytes : Int32) (t_nextPage : Int32) (t_turn : Int32) (t_oldest : Int32) (n_t_waitBlock : Nat) (t_waitBlock : Nat → Int32) (n_t_waitByte : Nat) (t_waitByte : Nat → Int32) (n_t_waitOldest : Nat) (t_waitOldest : Nat → Int32) (t_waiting : Int32) (p0 : Int32) (o : Int32) (hf : f_Md_isWhole n_t_disk t_disk n_t_tape t_tape t_tapeLong t_kept t_next t_come t_crashes t_thrown t_open t_openFirst t_openMany t_openBytes t_nextPage t_turn t_oldest n_t_waitBlock t_waitBlock n_t_waitByte t_waitByte n_t_waitOldest t_waitOldest t_waiting p0 = some o) : Met l y_Md_isWhole wd_Md_isWhole ({ frames := 1, cells := 0, slots := 0, locals := 24 }) (va_Pc [.ref a_t, .int p0] (aP D cA [(a_t, .inr (8, [.ref a_t_disk, .ref a_t_tape, .int t_tapeLong, t_first, t_last, .int t_kept, .int t_next, .int t_come, .int t_crashes, .int t_thrown, .int t_open, .int t_openFirst, .int t_openMany, .int t_openBytes, .int t_nextPage, .int t_turn, .int t_oldest, .ref a_t_waitBlock, .ref a_t_waitByte, .ref a_t_waitOldest, .int t_waiting])), (a_t_disk, .inl ((cA 0), n_t_disk, .inl t_disk)), (a_t_tape, .inl ((cA 0), n_t_tape, .inl t_tape)), (a_t_waitBlock, .inl ((cA 0), n_t_waitBlock, .inl t_waitBlock)), (a_t_waitByte, .inl ((cA 0), n_t_waitByte, .inl t_waitByte)), (a_t_waitOldest, .inl ((cA 0), n_t_waitOldest, .inl t_waitOldest))] sz)) (va_Qi (fun r9 (_ : Unit) => r9 = o) (fun _ => aR D cA (va_A [(a_t, .inr (8, [.ref a_t_disk, .ref a_t_tape, .int t_tapeLong, t_first, t_last, .int t_kept, .int t_next, .int t_come, .int t_crashes, .int t_thrown, .int t_open, .int t_openFirst, .int t_openMany, .int t_openBytes, .int t_nextPage, .int t_turn, .int t_oldest, .ref a_t_waitBlock, .ref a_t_waitByte, .ref a_t_waitOldest, .int t_waiting])), (a_t_disk, .inl ((cA 0), n_t_disk, .inl t_disk)), (a_t_tape, .inl ((cA 0), n_t_tape, .inl t_tape)), (a_t_waitBlock, .inl ((cA 0), n_t_waitBlock, .inl t_waitBlock)), (a_t_waitByte, .inl ((cA 0), n_t_waitByte, .inl t_waitByte)), (a_t_waitOldest, .inl ((cA 0), n_t_waitOldest, .inl t_waitOldest))] sz) [(a_t, .inr (8, [.ref a_t_disk, .ref a_t_tape, .int t_tapeLong, t_first, t_last, .int t_kept, .int t_next, .int t_come, .int t_crashes, .int t_thrown, .int t_open, .int t_openFirst, .int t_openMany, .int t_openBytes, .int t_nextPage, .int t_turn, .int t_oldest, .ref a_t_waitBlock, .ref a_t_waitByte, .ref a_t_waitOldest, .int t_waiting])), (a_t_disk, .inl ((cA 0), n_t_disk, .inl t_disk)), (a_t_tape, .inl ((cA 0), n_t_tape, .inl t_tape)), (a_t_waitBlock, .inl ((cA 0), n_t_waitBlock, .inl t_waitBlock)), (a_t_waitByte, .inl ((cA 0), n_t_waitByte, .inl t_waitByte)), (a_t_waitOldest, .inl ((cA 0), n_t_waitOldest, .inl t_waitOldest))]) (va_A [(a_t, .inr (8, [.ref a_t_disk, .ref a_t_tape, .int t_tapeLong, t_first, t_last, .int t_kept, .int t_next, .int t_come, .int t_crashes, .int t_thrown, .int t_open, .int t_openFirst, .int t_openMany, .int t_openBytes, .int t_nextPage, .int t_turn, .int t_oldest, .ref a_t_waitBlock, .ref a_t_waitByte, .ref a_t_waitOldest, .int t_waiting])), (a_t_disk, .inl ((cA 0), n_t_disk, .inl t_disk)), (a_t_tape, .inl ((cA 0), n_t_tape, .inl t_tape)), (a_t_waitBlock, .inl ((cA 0), n_t_waitBlock, .inl t_waitBlock)), (a_t_waitByte, .inl ((cA 0), n_t_waitByte, .inl t_waitByte)), (a_t_waitOldest, .inl ((cA 0), n_t_waitOldest, .inl t_waitOldest))] sz)) 0 0 (va_A [(a_t, .inr (8, [.ref a_t_disk, .ref a_t_tape, .int t_tapeLong, t_first, t_last, .int t_kept, .int t_next, .int t_come, .int t_crashes, .int t_thrown, .int t_open, .int t_openFirst, .int t_openMany, .int t_openBytes, .int t_nextPage, .int t_turn, .int t_oldest, .ref a_t_waitBlock, .ref a_t_waitByte, .ref a_t_waitOldest, .int t_waiting])), (a_t_disk, .inl ((cA 0), n_t_disk, .inl t_disk)), (a_t_tape, .inl ((cA 0), n_t_tape, .inl t_tape)), (a_t_waitBlock, .inl ((cA 0), n_t_waitBlock, .inl t_waitBlock)), (a_t_waitByte, .inl ((cA 0), n_t_waitByte, .inl t_waitByte)), (a_t_waitOldest, .inl ((cA 0), n_t_waitOldest, .inl t_waitOldest))] sz) := by
  refine Met.ofW (cc := b_Md_isWhole) (maxL := 2) (ret := (some .boolean)) (by decide +kernel) rfl ?_
  intro p e s m args below meth c s₁ B hml hv
  obtain ⟨rfl, hsz, hP, hK, hD0, hE⟩ := hv
  have hx := B.exec
  have hb := B.bytes
  have hr := B.returns
  have hts := atoms_spec (ws := wd_Md_isWhole) B.pre
  have hown : s.vm.findClass R_Md = some m.cls := findClass_of_methodNamed B.named
  have hlocks := B.notSynchronized
  subst hsz
  have hD := hD0.self (sz := s.heap.size)
  generalize hAe : va_A [(a_t, .inr (8, [.ref a_t_disk, .ref a_t_tape, .int t_tapeLong, t_first, t_last, .int t_kept, .int t_next, .int t_come, .int t_crashes, .int t_thrown, .int t_open, .int t_openFirst, .int t_openMany, .int t_openBytes, .int t_nextPage, .int t_turn, .int t_oldest, .ref a_t_waitBlock, .ref a_t_waitByte, .ref a_t_waitOldest, .int t_waiting])), (a_t_disk, .inl ((cA 0), n_t_disk, .inl t_disk)), (a_t_tape, .inl ((cA 0), n_t_tape, .inl t_tape)), (a_t_waitBlock, .inl ((cA 0), n_t_waitBlock, .inl t_waitBlock)), (a_t_waitByte, .inl ((cA 0), n_t_waitByte, .inl t_waitByte)), (a_t_waitOldest, .inl ((cA 0), n_t_waitOldest, .inl t_waitOldest))] s.heap.size = A at hD hE ⊢
  have hA : ∀ q : Nat, s.heap.size ≤ q → A q := fun q h => by rw [← hAe]; exact Or.inr h
  have hS : va_S A s.heap s.heap [] := va_S.rf
  have hl := lv_entry [.ref a_t, .int p0] (n := 2) (Nat.le_of_ble_eq_true rfl)
  rw [lg_entry_eq]
  generalize (lg_sl [.ref a_t, .int p0] ++ List.replicate (2 - (lg_sl [.ref a_t, .int p0]).length) Slot.unset).toArray = ls at hl ⊢
  have hl : lv_has ls 2 [(0, .ref a_t), (1, .int p0)] := hl
  unfold f_Md_isWhole at hf
  refine lv_aload_n hx hb d_Md_isWhole_0 rfl (lv_at hl 0 rfl) ?_
  refine va_get (D := D) (ci := 8) (v := .ref a_t_disk) (C := R_Md) (T := F_Md) (N := 21) hx hb hts (fun w9 h9 => .tail _ (gu_Md w9 h9)) hown hK hP 0 rfl rfl 0 (by decide) (hts _ (.tail _ gm_305)) (fun _ h9 => h9) rfl d_Md_isWhole_1 ?_
  refine lv_bipush (v := 64) hx hb d_Md_isWhole_4 (by decide) ?_
  refine lv_iload_n hx hb d_Md_isWhole_6 rfl (lv_at hl 1 rfl) ?_
  refine lv_imul hx hb d_Md_isWhole_7 ?_
  refine lv_bipush (v := 60) hx hb d_Md_isWhole_8 (by decide) ?_
  refine lv_iadd hx hb d_Md_isWhole_10 ?_
  obtain ⟨o_1, ho_1, hf⟩ := hk_bd hf
  refine q_i (wr := [(a_t, .inr (8, [.ref a_t_disk, .ref a_t_tape, .int t_tapeLong, t_first, t_last, .int t_kept, .int t_next, .int t_come, .int t_crashes, .int t_thrown, .int t_open, .int t_openFirst, .int t_openMany, .int t_openBytes, .int t_nextPage, .int t_turn, .int t_oldest, .ref a_t_waitBlock, .ref a_t_waitByte, .ref a_t_waitOldest, .int t_waiting])), (a_t_tape, .inl ((cA 0), n_t_tape, .inl t_tape)), (a_t_waitBlock, .inl ((cA 0), n_t_waitBlock, .inl t_waitBlock)), (a_t_waitByte, .inl ((cA 0), n_t_waitByte, .inl t_waitByte)), (a_t_waitOldest, .inl ((cA 0), n_t_waitOldest, .inl t_waitOldest))]) (va_runS (As := [.ref a_t_disk, .int (((64 : Int32) * p0) + (60 : Int32))]) (rest := []) ⟨hx, hb, hml, hown, hts⟩ (c_Md_word l D cA a_t_disk _ n_t_disk t_disk (((64 : Int32) * p0) + (60 : Int32)) o_1 ho_1) (va_cwS 2 hts (gd_S gm_312 gm_313 gm_310 gm_311) rfl rfl rfl (by decide +kernel) ⟨Nat.le_of_ble_eq_true rfl, Nat.le_of_ble_eq_true rfl⟩) (q_pS hK hP hD hS hA hE [1] (by decide) rfl) rfl rfl hl.1 rfl (lv_room (Nat.le_of_ble_eq_true rfl)) d_Md_isWhole_11 ⟨Nat.zero_le _, Nat.zero_le _⟩) hP hD hS hA [1] [0, 2, 3, 4, 5] rfl rfl (by decide) (by decide) (fun H locs hP hD hS => ?_)
  have hP : va_P D classes [(a_t, .inr (8, [.ref a_t_disk, .ref a_t_tape, .int t_tapeLong, t_first, t_last, .int t_kept, .int t_next, .int t_come, .int t_crashes, .int t_thrown, .int t_open, .int t_openFirst, .int t_openMany, .int t_openBytes, .int t_nextPage, .int t_turn, .int t_oldest, .ref a_t_waitBlock, .ref a_t_waitByte, .ref a_t_waitOldest, .int t_waiting])), (a_t_tape, .inl ((cA 0), n_t_tape, .inl t_tape)), (a_t_waitBlock, .inl ((cA 0), n_t_waitBlock, .inl t_waitBlock)), (a_t_waitByte, .inl ((cA 0), n_t_waitByte, .inl t_waitByte)), (a_t_waitOldest, .inl ((cA 0), n_t_waitOldest, .inl t_waitOldest)), (a_t_disk, .inl ((cA 0), n_t_disk, .inl t_disk))] H := hP
  have hD : va_D A [(a_t, .inr (8, [.ref a_t_disk, .ref a_t_tape, .int t_tapeLong, t_first, t_last, .int t_kept, .int t_next, .int t_come, .int t_crashes, .int t_thrown, .int t_open, .int t_openFirst, .int t_openMany, .int t_openBytes, .int t_nextPage, .int t_turn, .int t_oldest, .ref a_t_waitBlock, .ref a_t_waitByte, .ref a_t_waitOldest, .int t_waiting])), (a_t_tape, .inl ((cA 0), n_t_tape, .inl t_tape)), (a_t_waitBlock, .inl ((cA 0), n_t_waitBlock, .inl t_waitBlock)), (a_t_waitByte, .inl ((cA 0), n_t_waitByte, .inl t_waitByte)), (a_t_waitOldest, .inl ((cA 0), n_t_waitOldest, .inl t_waitOldest)), (a_t_disk, .inl ((cA 0), n_t_disk, .inl t_disk))] := hD
  refine lv_aload_n hx hb d_Md_isWhole_14 rfl (lv_at hl 0 rfl) ?_
  refine va_get (D := D) (ci := 8) (v := .ref a_t_disk) (C := R_Md) (T := F_Md) (N := 21) hx hb hts (fun w9 h9 => .tail _ (gu_Md w9 h9)) hown hK hP 0 rfl rfl 0 (by decide) (hts _ (.tail _ gm_305)) (fun _ h9 => h9) rfl d_Md_isWhole_15 ?_
  refine lv_bipush (v := 64) hx hb d_Md_isWhole_18 (by decide) ?_
  refine lv_iload_n hx hb d_Md_isWhole_20 rfl (lv_at hl 1 rfl) ?_
  refine lv_imul hx hb d_Md_isWhole_21 ?_
  obtain ⟨o_2, ho_2, hf⟩ := hk_bd hf
  refine q_i (wr := [(a_t, .inr (8, [.ref a_t_disk, .ref a_t_tape, .int t_tapeLong, t_first, t_last, .int t_kept, .int t_next, .int t_come, .int t_crashes, .int t_thrown, .int t_open, .int t_openFirst, .int t_openMany, .int t_openBytes, .int t_nextPage, .int t_turn, .int t_oldest, .ref a_t_waitBlock, .ref a_t_waitByte, .ref a_t_waitOldest, .int t_waiting])), (a_t_tape, .inl ((cA 0), n_t_tape, .inl t_tape)), (a_t_waitBlock, .inl ((cA 0), n_t_waitBlock, .inl t_waitBlock)), (a_t_waitByte, .inl ((cA 0), n_t_waitByte, .inl t_waitByte)), (a_t_waitOldest, .inl ((cA 0), n_t_waitOldest, .inl t_waitOldest))]) (va_runS (As := [.ref a_t_disk, .int ((64 : Int32) * p0)]) (rest := [.int o_1]) ⟨hx, hb, hml, hown, hts⟩ (c_Md_check l D cA a_t_disk _ n_t_disk t_disk ((64 : Int32) * p0) o_2 ho_2) (va_cwS 2 hts (gd_S gm_315 gm_316 gm_310 gm_314) rfl rfl rfl (by decide +kernel) ⟨Nat.le_of_ble_eq_true rfl, Nat.le_of_ble_eq_true rfl⟩) (q_pS hK hP hD hS hA hE [5] (by decide) rfl) rfl rfl hl.1 rfl (lv_room (Nat.le_of_ble_eq_true rfl)) d_Md_isWhole_22 ⟨Nat.zero_le _, Nat.zero_le _⟩) hP hD hS hA [5] [0, 1, 2, 3, 4] rfl rfl (by decide) (by decide) (fun H locs hP hD hS => ?_)
  have hP : va_P D classes [(a_t, .inr (8, [.ref a_t_disk, .ref a_t_tape, .int t_tapeLong, t_first, t_last, .int t_kept, .int t_next, .int t_come, .int t_crashes, .int t_thrown, .int t_open, .int t_openFirst, .int t_openMany, .int t_openBytes, .int t_nextPage, .int t_turn, .int t_oldest, .ref a_t_waitBlock, .ref a_t_waitByte, .ref a_t_waitOldest, .int t_waiting])), (a_t_tape, .inl ((cA 0), n_t_tape, .inl t_tape)), (a_t_waitBlock, .inl ((cA 0), n_t_waitBlock, .inl t_waitBlock)), (a_t_waitByte, .inl ((cA 0), n_t_waitByte, .inl t_waitByte)), (a_t_waitOldest, .inl ((cA 0), n_t_waitOldest, .inl t_waitOldest)), (a_t_disk, .inl ((cA 0), n_t_disk, .inl t_disk))] H := hP
  have hD : va_D A [(a_t, .inr (8, [.ref a_t_disk, .ref a_t_tape, .int t_tapeLong, t_first, t_last, .int t_kept, .int t_next, .int t_come, .int t_crashes, .int t_thrown, .int t_open, .int t_openFirst, .int t_openMany, .int t_openBytes, .int t_nextPage, .int t_turn, .int t_oldest, .ref a_t_waitBlock, .ref a_t_waitByte, .ref a_t_waitOldest, .int t_waiting])), (a_t_tape, .inl ((cA 0), n_t_tape, .inl t_tape)), (a_t_waitBlock, .inl ((cA 0), n_t_waitBlock, .inl t_waitBlock)), (a_t_waitByte, .inl ((cA 0), n_t_waitByte, .inl t_waitByte)), (a_t_waitOldest, .inl ((cA 0), n_t_waitOldest, .inl t_waitOldest)), (a_t_disk, .inl ((cA 0), n_t_disk, .inl t_disk))] := hD
  refine lv_icmp_ne (tgt := 32) hx hb d_Md_isWhole_25 (by decide) (fun c_3 => ?_) (fun c_3 => ?_)
  · replace hf := (if_neg c_3).symm.trans hf
    refine lv_iconst (v := 0) hx hb d_Md_isWhole_32 (by decide) ?_
    have ho9 := Option.some.inj hf
    subst ho9
    have hP9 := hP.sub (ws' := [(a_t, .inr (8, [.ref a_t_disk, .ref a_t_tape, .int t_tapeLong, t_first, t_last, .int t_kept, .int t_next, .int t_come, .int t_crashes, .int t_thrown, .int t_open, .int t_openFirst, .int t_openMany, .int t_openBytes, .int t_nextPage, .int t_turn, .int t_oldest, .ref a_t_waitBlock, .ref a_t_waitByte, .ref a_t_waitOldest, .int t_waiting])), (a_t_disk, .inl ((cA 0), n_t_disk, .inl t_disk)), (a_t_tape, .inl ((cA 0), n_t_tape, .inl t_tape)), (a_t_waitBlock, .inl ((cA 0), n_t_waitBlock, .inl t_waitBlock)), (a_t_waitByte, .inl ((cA 0), n_t_waitByte, .inl t_waitByte)), (a_t_waitOldest, .inl ((cA 0), n_t_waitOldest, .inl t_waitOldest))]) [0, 5, 1, 2, 3, 4] rfl
    have hD9 := hD.sub (ws' := [(a_t, .inr (8, [.ref a_t_disk, .ref a_t_tape, .int t_tapeLong, t_first, t_last, .int t_kept, .int t_next, .int t_come, .int t_crashes, .int t_thrown, .int t_open, .int t_openFirst, .int t_openMany, .int t_openBytes, .int t_nextPage, .int t_turn, .int t_oldest, .ref a_t_waitBlock, .ref a_t_waitByte, .ref a_t_waitOldest, .int t_waiting])), (a_t_disk, .inl ((cA 0), n_t_disk, .inl t_disk)), (a_t_tape, .inl ((cA 0), n_t_tape, .inl t_tape)), (a_t_waitBlock, .inl ((cA 0), n_t_waitBlock, .inl t_waitBlock)), (a_t_waitByte, .inl ((cA 0), n_t_waitByte, .inl t_waitByte)), (a_t_waitOldest, .inl ((cA 0), n_t_waitOldest, .inl t_waitOldest))]) [0, 5, 1, 2, 3, 4] (by decide) rfl
    exact W.zret (v := (0 : Int32)) hx hb hr rfl (fun t ht hW => ⟨⟨_, (), rfl, rfl, by rw [ht]; exact hP9, va_K.moved hW.alike hK, hD9⟩, hS.F ht⟩) hS.2.2 d_Md_isWhole_33
  · replace hf := (if_pos c_3).symm.trans hf
    refine lv_iconst (v := 1) hx hb d_Md_isWhole_28 (by decide) ?_
    refine lv_goto (tgt := 33) hx hb d_Md_isWhole_29 (by decide) ?_
    have ho9 := Option.some.inj hf
    subst ho9
    have hP9 := hP.sub (ws' := [(a_t, .inr (8, [.ref a_t_disk, .ref a_t_tape, .int t_tapeLong, t_first, t_last, .int t_kept, .int t_next, .int t_come, .int t_crashes, .int t_thrown, .int t_open, .int t_openFirst, .int t_openMany, .int t_openBytes, .int t_nextPage, .int t_turn, .int t_oldest, .ref a_t_waitBlock, .ref a_t_waitByte, .ref a_t_waitOldest, .int t_waiting])), (a_t_disk, .inl ((cA 0), n_t_disk, .inl t_disk)), (a_t_tape, .inl ((cA 0), n_t_tape, .inl t_tape)), (a_t_waitBlock, .inl ((cA 0), n_t_waitBlock, .inl t_waitBlock)), (a_t_waitByte, .inl ((cA 0), n_t_waitByte, .inl t_waitByte)), (a_t_waitOldest, .inl ((cA 0), n_t_waitOldest, .inl t_waitOldest))]) [0, 5, 1, 2, 3, 4] rfl
    have hD9 := hD.sub (ws' := [(a_t, .inr (8, [.ref a_t_disk, .ref a_t_tape, .int t_tapeLong, t_first, t_last, .int t_kept, .int t_next, .int t_come, .int t_crashes, .int t_thrown, .int t_open, .int t_openFirst, .int t_openMany, .int t_openBytes, .int t_nextPage, .int t_turn, .int t_oldest, .ref a_t_waitBlock, .ref a_t_waitByte, .ref a_t_waitOldest, .int t_waiting])), (a_t_disk, .inl ((cA 0), n_t_disk, .inl t_disk)), (a_t_tape, .inl ((cA 0), n_t_tape, .inl t_tape)), (a_t_waitBlock, .inl ((cA 0), n_t_waitBlock, .inl t_waitBlock)), (a_t_waitByte, .inl ((cA 0), n_t_waitByte, .inl t_waitByte)), (a_t_waitOldest, .inl ((cA 0), n_t_waitOldest, .inl t_waitOldest))]) [0, 5, 1, 2, 3, 4] (by decide) rfl
    exact W.zret (v := (1 : Int32)) hx hb hr rfl (fun t ht hW => ⟨⟨_, (), rfl, rfl, by rw [ht]; exact hP9, va_K.moved hW.alike hK, hD9⟩, hS.F ht⟩) hS.2.2 d_Md_isWhole_33
theorem d_Md_isNumber_0 : decode b_Md_isNumber 0 = .ok (.iload_n 0, 1) := by decide +kernel
theorem d_Md_isNumber_1 : decode b_Md_isNumber 1 = .ok (.iconst 1, 1) := by decide +kernel
theorem d_Md_isNumber_2 : decode b_Md_isNumber 2 = .ok (.if_icmp .lt 13, 3) := by decide +kernel
theorem d_Md_isNumber_5 : decode b_Md_isNumber 5 = .ok (.iload_n 0, 1) := by decide +kernel
theorem d_Md_isNumber_6 : decode b_Md_isNumber 6 = .ok (.ldc 133, 2) := by decide +kernel
theorem d_Md_isNumber_8 : decode b_Md_isNumber 8 = .ok (.if_icmp .gt 7, 3) := by decide +kernel
theorem d_Md_isNumber_11 : decode b_Md_isNumber 11 = .ok (.iconst 1, 1) := by decide +kernel
theorem d_Md_isNumber_12 : decode b_Md_isNumber 12 = .ok (.goto 4, 3) := by decide +kernel
theorem d_Md_isNumber_15 : decode b_Md_isNumber 15 = .ok (.iconst 0, 1) := by decide +kernel
theorem d_Md_isNumber_16 : decode b_Md_isNumber 16 = .ok (.ireturn, 1) := by decide +kernel
abbrev wd_Md_isNumber : List Cond := .code y_Md_isNumber b_Md_isNumber 1 (some .boolean) :: gw
def f_Md_isNumber (p0 : Int32) : Option (Int32) :=
  if p0 < (1 : Int32) then
    some (0 : Int32)
  else
    if (1000000 : Int32) < p0 then
      some (0 : Int32)
    else
      some (1 : Int32)
set_option maxHeartbeats 4000000 in
set_option maxRecDepth 100000 in
theorem c_Md_isNumber (l : Launch) (D : va_G) (cA : Nat → ClassId) (sz : Nat) (p0 : Int32) (o : Int32) (hf : f_Md_isNumber p0 = some o) : Met l y_Md_isNumber wd_Md_isNumber ({ frames := 0, cells := 0, slots := 0, locals := 0 }) (va_Pc [.int p0] (aP D cA [] sz)) (va_Qi (fun r9 (_ : Unit) => r9 = o) (fun _ => aR D cA (va_A [] sz) []) (va_A [] sz)) 0 0 (va_A [] sz) := by
  refine Met.ofW (cc := b_Md_isNumber) (maxL := 1) (ret := (some .boolean)) (by decide +kernel) rfl ?_
  intro p e s m args below meth c s₁ B hml hv
  obtain ⟨rfl, hsz, hP, hK, hD0, hE⟩ := hv
  have hx := B.exec
  have hb := B.bytes
  have hr := B.returns
  have hts := atoms_spec (ws := wd_Md_isNumber) B.pre
  have hown : s.vm.findClass R_Md = some m.cls := findClass_of_methodNamed B.named
  have hlocks := B.notSynchronized
  subst hsz
  have hD := hD0.self (sz := s.heap.size)
  generalize hAe : va_A [] s.heap.size = A at hD hE ⊢
  have hA : ∀ q : Nat, s.heap.size ≤ q → A q := fun q h => by rw [← hAe]; exact Or.inr h
  have hS : va_S A s.heap s.heap [] := va_S.rf
  have hl := lv_entry [.int p0] (n := 1) (Nat.le_of_ble_eq_true rfl)
  rw [lg_entry_eq]
  generalize (lg_sl [.int p0] ++ List.replicate (1 - (lg_sl [.int p0]).length) Slot.unset).toArray = ls at hl ⊢
  have hl : lv_has ls 1 [(0, .int p0)] := hl
  unfold f_Md_isNumber at hf
  refine lv_iload_n hx hb d_Md_isNumber_0 rfl (lv_at hl 0 rfl) ?_
  refine lv_iconst (v := 1) hx hb d_Md_isNumber_1 (by decide) ?_
  refine lv_icmp_lt (tgt := 15) hx hb d_Md_isNumber_2 (by decide) (fun c_1 => ?_) (fun c_1 => ?_)
  · replace hf := (if_pos c_1).symm.trans hf
    refine lv_iconst (v := 0) hx hb d_Md_isNumber_15 (by decide) ?_
    have ho9 := Option.some.inj hf
    subst ho9
    have hP9 := hP.sub (ws' := []) [] rfl
    have hD9 := hD.sub (ws' := []) [] (by decide) rfl
    exact W.zret (v := (0 : Int32)) hx hb hr rfl (fun t ht hW => ⟨⟨_, (), rfl, rfl, by rw [ht]; exact hP9, va_K.moved hW.alike hK, hD9⟩, hS.F ht⟩) hS.2.2 d_Md_isNumber_16
  · replace hf := (if_neg c_1).symm.trans hf
    refine lv_iload_n hx hb d_Md_isNumber_5 rfl (lv_at hl 0 rfl) ?_
    refine lv_ldc (v := (1000000 : Int32)) hx hb hown ((hts _ (.tail _ gm_317))) d_Md_isNumber_6 ?_
    refine lv_icmp_gt (tgt := 15) hx hb d_Md_isNumber_8 (by decide) (fun c_2 => ?_) (fun c_2 => ?_)
    · replace hf := (if_pos c_2).symm.trans hf
      refine lv_iconst (v := 0) hx hb d_Md_isNumber_15 (by decide) ?_
      have ho9 := Option.some.inj hf
      subst ho9
      have hP9 := hP.sub (ws' := []) [] rfl
      have hD9 := hD.sub (ws' := []) [] (by decide) rfl
      exact W.zret (v := (0 : Int32)) hx hb hr rfl (fun t ht hW => ⟨⟨_, (), rfl, rfl, by rw [ht]; exact hP9, va_K.moved hW.alike hK, hD9⟩, hS.F ht⟩) hS.2.2 d_Md_isNumber_16
    · replace hf := (if_neg c_2).symm.trans hf
      refine lv_iconst (v := 1) hx hb d_Md_isNumber_11 (by decide) ?_
      refine lv_goto (tgt := 16) hx hb d_Md_isNumber_12 (by decide) ?_
      have ho9 := Option.some.inj hf
      subst ho9
      have hP9 := hP.sub (ws' := []) [] rfl
      have hD9 := hD.sub (ws' := []) [] (by decide) rfl
      exact W.zret (v := (1 : Int32)) hx hb hr rfl (fun t ht hW => ⟨⟨_, (), rfl, rfl, by rw [ht]; exact hP9, va_K.moved hW.alike hK, hD9⟩, hS.F ht⟩) hS.2.2 d_Md_isNumber_16
theorem d_Md_isHead_0 : decode b_Md_isHead 0 = .ok (.aload_n 0, 1) := by decide +kernel
theorem d_Md_isHead_1 : decode b_Md_isHead 1 = .ok (.getfield 7, 3) := by decide +kernel
theorem d_Md_isHead_4 : decode b_Md_isHead 4 = .ok (.bipush 64, 2) := by decide +kernel
theorem d_Md_isHead_6 : decode b_Md_isHead 6 = .ok (.iload_n 1, 1) := by decide +kernel
theorem d_Md_isHead_7 : decode b_Md_isHead 7 = .ok (.imul, 1) := by decide +kernel
theorem d_Md_isHead_8 : decode b_Md_isHead 8 = .ok (.invokestatic 130, 3) := by decide +kernel
theorem d_Md_isHead_11 : decode b_Md_isHead 11 = .ok (.istore_n 2, 1) := by decide +kernel
theorem d_Md_isHead_12 : decode b_Md_isHead 12 = .ok (.aload_n 0, 1) := by decide +kernel
theorem d_Md_isHead_13 : decode b_Md_isHead 13 = .ok (.iload_n 1, 1) := by decide +kernel
theorem d_Md_isHead_14 : decode b_Md_isHead 14 = .ok (.invokevirtual 134, 3) := by decide +kernel
theorem d_Md_isHead_17 : decode b_Md_isHead 17 = .ok (.ifCond .eq 60, 3) := by decide +kernel
theorem d_Md_isHead_20 : decode b_Md_isHead 20 = .ok (.iload_n 2, 1) := by decide +kernel
theorem d_Md_isHead_21 : decode b_Md_isHead 21 = .ok (.invokestatic 138, 3) := by decide +kernel
theorem d_Md_isHead_24 : decode b_Md_isHead 24 = .ok (.ifCond .eq 53, 3) := by decide +kernel
theorem d_Md_isHead_27 : decode b_Md_isHead 27 = .ok (.iload_n 2, 1) := by decide +kernel
theorem d_Md_isHead_28 : decode b_Md_isHead 28 = .ok (.iconst 2, 1) := by decide +kernel
theorem d_Md_isHead_29 : decode b_Md_isHead 29 = .ok (.irem, 1) := by decide +kernel
theorem d_Md_isHead_30 : decode b_Md_isHead 30 = .ok (.iload_n 1, 1) := by decide +kernel
theorem d_Md_isHead_31 : decode b_Md_isHead 31 = .ok (.if_icmp .ne 46, 3) := by decide +kernel
theorem d_Md_isHead_34 : decode b_Md_isHead 34 = .ok (.aload_n 0, 1) := by decide +kernel
theorem d_Md_isHead_35 : decode b_Md_isHead 35 = .ok (.getfield 7, 3) := by decide +kernel
theorem d_Md_isHead_38 : decode b_Md_isHead 38 = .ok (.bipush 64, 2) := by decide +kernel
theorem d_Md_isHead_40 : decode b_Md_isHead 40 = .ok (.iload_n 1, 1) := by decide +kernel
theorem d_Md_isHead_41 : decode b_Md_isHead 41 = .ok (.imul, 1) := by decide +kernel
theorem d_Md_isHead_42 : decode b_Md_isHead 42 = .ok (.iconst 4, 1) := by decide +kernel
theorem d_Md_isHead_43 : decode b_Md_isHead 43 = .ok (.iadd, 1) := by decide +kernel
theorem d_Md_isHead_44 : decode b_Md_isHead 44 = .ok (.invokestatic 130, 3) := by decide +kernel
theorem d_Md_isHead_47 : decode b_Md_isHead 47 = .ok (.invokestatic 138, 3) := by decide +kernel
theorem d_Md_isHead_50 : decode b_Md_isHead 50 = .ok (.ifCond .eq 27, 3) := by decide +kernel
theorem d_Md_isHead_53 : decode b_Md_isHead 53 = .ok (.aload_n 0, 1) := by decide +kernel
theorem d_Md_isHead_54 : decode b_Md_isHead 54 = .ok (.getfield 7, 3) := by decide +kernel
theorem d_Md_isHead_57 : decode b_Md_isHead 57 = .ok (.bipush 64, 2) := by decide +kernel
theorem d_Md_isHead_59 : decode b_Md_isHead 59 = .ok (.iload_n 1, 1) := by decide +kernel
theorem d_Md_isHead_60 : decode b_Md_isHead 60 = .ok (.imul, 1) := by decide +kernel
theorem d_Md_isHead_61 : decode b_Md_isHead 61 = .ok (.bipush 8, 2) := by decide +kernel
theorem d_Md_isHead_63 : decode b_Md_isHead 63 = .ok (.iadd, 1) := by decide +kernel
theorem d_Md_isHead_64 : decode b_Md_isHead 64 = .ok (.invokestatic 130, 3) := by decide +kernel
theorem d_Md_isHead_67 : decode b_Md_isHead 67 = .ok (.invokestatic 138, 3) := by decide +kernel
theorem d_Md_isHead_70 : decode b_Md_isHead 70 = .ok (.ifCond .eq 7, 3) := by decide +kernel
theorem d_Md_isHead_73 : decode b_Md_isHead 73 = .ok (.iconst 1, 1) := by decide +kernel
theorem d_Md_isHead_74 : decode b_Md_isHead 74 = .ok (.goto 4, 3) := by decide +kernel
theorem d_Md_isHead_77 : decode b_Md_isHead 77 = .ok (.iconst 0, 1) := by decide +kernel
theorem d_Md_isHead_78 : decode b_Md_isHead 78 = .ok (.ireturn, 1) := by decide +kernel
abbrev wd_Md_isHead : List Cond := .code y_Md_isHead b_Md_isHead 3 (some .boolean) :: gw
def f_Md_isHead (n_t_disk : Nat) (t_disk : Nat → Int32) (n_t_tape : Nat) (t_tape : Nat → Int32) (t_tapeLong : Int32) (t_kept : Int32) (t_next : Int32) (t_come : Int32) (t_crashes : Int32) (t_thrown : Int32) (t_open : Int32) (t_openFirst : Int32) (t_openMany : Int32) (t_openBytes : Int32) (t_nextPage : Int32) (t_turn : Int32) (t_oldest : Int32) (n_t_waitBlock : Nat) (t_waitBlock : Nat → Int32) (n_t_waitByte : Nat) (t_waitByte : Nat → Int32) (n_t_waitOldest : Nat) (t_waitOldest : Nat → Int32) (t_waiting : Int32) (p0 : Int32) : Option (Int32) :=
  (f_Md_word n_t_disk t_disk ((64 : Int32) * p0)).bind fun o_1 =>
  (f_Md_isWhole n_t_disk t_disk n_t_tape t_tape t_tapeLong t_kept t_next t_come t_crashes t_thrown t_open t_openFirst t_openMany t_openBytes t_nextPage t_turn t_oldest n_t_waitBlock t_waitBlock n_t_waitByte t_waitByte n_t_waitOldest t_waitOldest t_waiting p0).bind fun o_2 =>
  if o_2 = 0 then
    some (0 : Int32)
  else
    (f_Md_isNumber o_1).bind fun o_4 =>
    if o_4 = 0 then
      some (0 : Int32)
    else
      if (o_1 - o_1 / (2 : Int32) * (2 : Int32)) = p0 then
        (f_Md_word n_t_disk t_disk (((64 : Int32) * p0) + (4 : Int32))).bind fun o_7 =>
        (f_Md_isNumber o_7).bind fun o_8 =>
        if o_8 = 0 then
          some (0 : Int32)
        else
          (f_Md_word n_t_disk t_disk (((64 : Int32) * p0) + (8 : Int32))).bind fun o_10 =>
          (f_Md_isNumber o_10).bind fun o_11 =>
          if o_11 = 0 then
            some (0 : Int32)
          else
            some (1 : Int32)
      else
        some (0 : Int32)
set_option maxHeartbeats 4000000 in
set_option maxRecDepth 100000 in
theorem c_Md_isHead (l : Launch) (D : va_G) (cA : Nat → ClassId) (a_t a_t_disk a_t_tape a_t_waitBlock a_t_waitByte a_t_waitOldest : Nat) (t_first t_last : Value) (sz : Nat) (n_t_disk : Nat) (t_disk : Nat → Int32) (n_t_tape : Nat) (t_tape : Nat → Int32) (t_tapeLong : Int32) (t_kept : Int32) (t_next : Int32) (t_come : Int32) (t_crashes : Int32) (t_thrown : Int32) (t_open : Int32) (t_openFirst : Int32) (t_openMany : Int32) (t_openBytes : Int32) (t_nextPage : Int32) (t_turn : Int32) (t_oldest : Int32) (n_t_waitBlock : Nat) (t_waitBlock : Nat → Int32) (n_t_waitByte : Nat) (t_waitByte : Nat → Int32) (n_t_waitOldest : Nat) (t_waitOldest : Nat → Int32) (t_waiting : Int32) (p0 : Int32) (o : Int32) (hf : f_Md_isHead n_t_disk t_disk n_t_tape t_tape t_tapeLong t_kept t_next t_come t_crashes t_thrown t_open t_openFirst t_openMany t_openBytes t_nextPage t_turn t_oldest n_t_waitBlock t_waitBlock n_t_waitByte t_waitByte n_t_waitOldest t_waitOldest t_waiting p0 = some o) : Met l y_Md_isHead wd_Md_isHead ({ frames := 2, cells := 0, slots := 0, locals := 45 }) (va_Pc [.ref a_t, .int p0] (aP D cA [(a_t, .inr (8, [.ref a_t_disk, .ref a_t_tape, .int t_tapeLong, t_first, t_last, .int t_kept, .int t_next, .int t_come, .int t_crashes, .int t_thrown, .int t_open, .int t_openFirst, .int t_openMany, .int t_openBytes, .int t_nextPage, .int t_turn, .int t_oldest, .ref a_t_waitBlock, .ref a_t_waitByte, .ref a_t_waitOldest, .int t_waiting])), (a_t_disk, .inl ((cA 0), n_t_disk, .inl t_disk)), (a_t_tape, .inl ((cA 0), n_t_tape, .inl t_tape)), (a_t_waitBlock, .inl ((cA 0), n_t_waitBlock, .inl t_waitBlock)), (a_t_waitByte, .inl ((cA 0), n_t_waitByte, .inl t_waitByte)), (a_t_waitOldest, .inl ((cA 0), n_t_waitOldest, .inl t_waitOldest))] sz)) (va_Qi (fun r9 (_ : Unit) => r9 = o) (fun _ => aR D cA (va_A [(a_t, .inr (8, [.ref a_t_disk, .ref a_t_tape, .int t_tapeLong, t_first, t_last, .int t_kept, .int t_next, .int t_come, .int t_crashes, .int t_thrown, .int t_open, .int t_openFirst, .int t_openMany, .int t_openBytes, .int t_nextPage, .int t_turn, .int t_oldest, .ref a_t_waitBlock, .ref a_t_waitByte, .ref a_t_waitOldest, .int t_waiting])), (a_t_disk, .inl ((cA 0), n_t_disk, .inl t_disk)), (a_t_tape, .inl ((cA 0), n_t_tape, .inl t_tape)), (a_t_waitBlock, .inl ((cA 0), n_t_waitBlock, .inl t_waitBlock)), (a_t_waitByte, .inl ((cA 0), n_t_waitByte, .inl t_waitByte)), (a_t_waitOldest, .inl ((cA 0), n_t_waitOldest, .inl t_waitOldest))] sz) [(a_t, .inr (8, [.ref a_t_disk, .ref a_t_tape, .int t_tapeLong, t_first, t_last, .int t_kept, .int t_next, .int t_come, .int t_crashes, .int t_thrown, .int t_open, .int t_openFirst, .int t_openMany, .int t_openBytes, .int t_nextPage, .int t_turn, .int t_oldest, .ref a_t_waitBlock, .ref a_t_waitByte, .ref a_t_waitOldest, .int t_waiting])), (a_t_disk, .inl ((cA 0), n_t_disk, .inl t_disk)), (a_t_tape, .inl ((cA 0), n_t_tape, .inl t_tape)), (a_t_waitBlock, .inl ((cA 0), n_t_waitBlock, .inl t_waitBlock)), (a_t_waitByte, .inl ((cA 0), n_t_waitByte, .inl t_waitByte)), (a_t_waitOldest, .inl ((cA 0), n_t_waitOldest, .inl t_waitOldest))]) (va_A [(a_t, .inr (8, [.ref a_t_disk, .ref a_t_tape, .int t_tapeLong, t_first, t_last, .int t_kept, .int t_next, .int t_come, .int t_crashes, .int t_thrown, .int t_open, .int t_openFirst, .int t_openMany, .int t_openBytes, .int t_nextPage, .int t_turn, .int t_oldest, .ref a_t_waitBlock, .ref a_t_waitByte, .ref a_t_waitOldest, .int t_waiting])), (a_t_disk, .inl ((cA 0), n_t_disk, .inl t_disk)), (a_t_tape, .inl ((cA 0), n_t_tape, .inl t_tape)), (a_t_waitBlock, .inl ((cA 0), n_t_waitBlock, .inl t_waitBlock)), (a_t_waitByte, .inl ((cA 0), n_t_waitByte, .inl t_waitByte)), (a_t_waitOldest, .inl ((cA 0), n_t_waitOldest, .inl t_waitOldest))] sz)) 0 0 (va_A [(a_t, .inr (8, [.ref a_t_disk, .ref a_t_tape, .int t_tapeLong, t_first, t_last, .int t_kept, .int t_next, .int t_come, .int t_crashes, .int t_thrown, .int t_open, .int t_openFirst, .int t_openMany, .int t_openBytes, .int t_nextPage, .int t_turn, .int t_oldest, .ref a_t_waitBlock, .ref a_t_waitByte, .ref a_t_waitOldest, .int t_waiting])), (a_t_disk, .inl ((cA 0), n_t_disk, .inl t_disk)), (a_t_tape, .inl ((cA 0), n_t_tape, .inl t_tape)), (a_t_waitBlock, .inl ((cA 0), n_t_waitBlock, .inl t_waitBlock)), (a_t_waitByte, .inl ((cA 0), n_t_waitByte, .inl t_waitByte)), (a_t_waitOldest, .inl ((cA 0), n_t_waitOldest, .inl t_waitOldest))] sz) := by
  refine Met.ofW (cc := b_Md_isHead) (maxL := 3) (ret := (some .boolean)) (by decide +kernel) rfl ?_
  intro p e s m args below meth c s₁ B hml hv
  obtain ⟨rfl, hsz, hP, hK, hD0, hE⟩ := hv
  have hx := B.exec
  have hb := B.bytes
  have hr := B.returns
  have hts := atoms_spec (ws := wd_Md_isHead) B.pre
  have hown : s.vm.findClass R_Md = some m.cls := findClass_of_methodNamed B.named
  have hlocks := B.notSynchronized
  subst hsz
  have hD := hD0.self (sz := s.heap.size)
  generalize hAe : va_A [(a_t, .inr (8, [.ref a_t_disk, .ref a_t_tape, .int t_tapeLong, t_first, t_last, .int t_kept, .int t_next, .int t_come, .int t_crashes, .int t_thrown, .int t_open, .int t_openFirst, .int t_openMany, .int t_openBytes, .int t_nextPage, .int t_turn, .int t_oldest, .ref a_t_waitBlock, .ref a_t_waitByte, .ref a_t_waitOldest, .int t_waiting])), (a_t_disk, .inl ((cA 0), n_t_disk, .inl t_disk)), (a_t_tape, .inl ((cA 0), n_t_tape, .inl t_tape)), (a_t_waitBlock, .inl ((cA 0), n_t_waitBlock, .inl t_waitBlock)), (a_t_waitByte, .inl ((cA 0), n_t_waitByte, .inl t_waitByte)), (a_t_waitOldest, .inl ((cA 0), n_t_waitOldest, .inl t_waitOldest))] s.heap.size = A at hD hE ⊢
  have hA : ∀ q : Nat, s.heap.size ≤ q → A q := fun q h => by rw [← hAe]; exact Or.inr h
  have hS : va_S A s.heap s.heap [] := va_S.rf
  have hl := lv_entry [.ref a_t, .int p0] (n := 3) (Nat.le_of_ble_eq_true rfl)
  rw [lg_entry_eq]
  generalize (lg_sl [.ref a_t, .int p0] ++ List.replicate (3 - (lg_sl [.ref a_t, .int p0]).length) Slot.unset).toArray = ls at hl ⊢
  have hl : lv_has ls 3 [(0, .ref a_t), (1, .int p0)] := hl
  unfold f_Md_isHead at hf
  refine lv_aload_n hx hb d_Md_isHead_0 rfl (lv_at hl 0 rfl) ?_
  refine va_get (D := D) (ci := 8) (v := .ref a_t_disk) (C := R_Md) (T := F_Md) (N := 21) hx hb hts (fun w9 h9 => .tail _ (gu_Md w9 h9)) hown hK hP 0 rfl rfl 0 (by decide) (hts _ (.tail _ gm_305)) (fun _ h9 => h9) rfl d_Md_isHead_1 ?_
  refine lv_bipush (v := 64) hx hb d_Md_isHead_4 (by decide) ?_
  refine lv_iload_n hx hb d_Md_isHead_6 rfl (lv_at hl 1 rfl) ?_
  refine lv_imul hx hb d_Md_isHead_7 ?_
  obtain ⟨o_1, ho_1, hf⟩ := hk_bd hf
  refine q_i (wr := [(a_t, .inr (8, [.ref a_t_disk, .ref a_t_tape, .int t_tapeLong, t_first, t_last, .int t_kept, .int t_next, .int t_come, .int t_crashes, .int t_thrown, .int t_open, .int t_openFirst, .int t_openMany, .int t_openBytes, .int t_nextPage, .int t_turn, .int t_oldest, .ref a_t_waitBlock, .ref a_t_waitByte, .ref a_t_waitOldest, .int t_waiting])), (a_t_tape, .inl ((cA 0), n_t_tape, .inl t_tape)), (a_t_waitBlock, .inl ((cA 0), n_t_waitBlock, .inl t_waitBlock)), (a_t_waitByte, .inl ((cA 0), n_t_waitByte, .inl t_waitByte)), (a_t_waitOldest, .inl ((cA 0), n_t_waitOldest, .inl t_waitOldest))]) (va_runS (As := [.ref a_t_disk, .int ((64 : Int32) * p0)]) (rest := []) ⟨hx, hb, hml, hown, hts⟩ (c_Md_word l D cA a_t_disk _ n_t_disk t_disk ((64 : Int32) * p0) o_1 ho_1) (va_cwS 2 hts (gd_S gm_312 gm_313 gm_310 gm_311) rfl rfl rfl (by decide +kernel) ⟨Nat.le_of_ble_eq_true rfl, Nat.le_of_ble_eq_true rfl⟩) (q_pS hK hP hD hS hA hE [1] (by decide) rfl) rfl rfl hl.1 rfl (lv_room (Nat.le_of_ble_eq_true rfl)) d_Md_isHead_8 ⟨Nat.zero_le _, Nat.zero_le _⟩) hP hD hS hA [1] [0, 2, 3, 4, 5] rfl rfl (by decide) (by decide) (fun H locs hP hD hS => ?_)
  have hP : va_P D classes [(a_t, .inr (8, [.ref a_t_disk, .ref a_t_tape, .int t_tapeLong, t_first, t_last, .int t_kept, .int t_next, .int t_come, .int t_crashes, .int t_thrown, .int t_open, .int t_openFirst, .int t_openMany, .int t_openBytes, .int t_nextPage, .int t_turn, .int t_oldest, .ref a_t_waitBlock, .ref a_t_waitByte, .ref a_t_waitOldest, .int t_waiting])), (a_t_tape, .inl ((cA 0), n_t_tape, .inl t_tape)), (a_t_waitBlock, .inl ((cA 0), n_t_waitBlock, .inl t_waitBlock)), (a_t_waitByte, .inl ((cA 0), n_t_waitByte, .inl t_waitByte)), (a_t_waitOldest, .inl ((cA 0), n_t_waitOldest, .inl t_waitOldest)), (a_t_disk, .inl ((cA 0), n_t_disk, .inl t_disk))] H := hP
  have hD : va_D A [(a_t, .inr (8, [.ref a_t_disk, .ref a_t_tape, .int t_tapeLong, t_first, t_last, .int t_kept, .int t_next, .int t_come, .int t_crashes, .int t_thrown, .int t_open, .int t_openFirst, .int t_openMany, .int t_openBytes, .int t_nextPage, .int t_turn, .int t_oldest, .ref a_t_waitBlock, .ref a_t_waitByte, .ref a_t_waitOldest, .int t_waiting])), (a_t_tape, .inl ((cA 0), n_t_tape, .inl t_tape)), (a_t_waitBlock, .inl ((cA 0), n_t_waitBlock, .inl t_waitBlock)), (a_t_waitByte, .inl ((cA 0), n_t_waitByte, .inl t_waitByte)), (a_t_waitOldest, .inl ((cA 0), n_t_waitOldest, .inl t_waitOldest)), (a_t_disk, .inl ((cA 0), n_t_disk, .inl t_disk))] := hD
  refine lv_istore_n (lv' := [(2, .int o_1), (0, .ref a_t), (1, .int p0)]) hx hb d_Md_isHead_11 rfl hl (by decide) rfl (fun ls hl => ?_)
  refine lv_aload_n hx hb d_Md_isHead_12 rfl (lv_at hl 1 rfl) ?_
  refine lv_iload_n hx hb d_Md_isHead_13 rfl (lv_at hl 2 rfl) ?_
  obtain ⟨o_2, ho_2, hf⟩ := hk_bd hf
  refine q_i (wr := []) (va_runV (As := [.int p0]) (rest := []) ⟨hx, hb, hml, hown, hts⟩ (c_Md_isWhole l D cA a_t a_t_disk a_t_tape a_t_waitBlock a_t_waitByte a_t_waitOldest t_first t_last _ n_t_disk t_disk n_t_tape t_tape t_tapeLong t_kept t_next t_come t_crashes t_thrown t_open t_openFirst t_openMany t_openBytes t_nextPage t_turn t_oldest n_t_waitBlock t_waitBlock n_t_waitByte t_waitByte n_t_waitOldest t_waitOldest t_waiting p0 o_2 ho_2) (cwV 1 hts (gd_V gm_319 gm_320 gm_321 gm_310 gm_318) rfl rfl rfl (by decide +kernel) ⟨Nat.le_of_ble_eq_true rfl, Nat.le_of_ble_eq_true rfl⟩) (q_pV hK hP hD hS hA hE [0, 5, 1, 2, 3, 4] (by decide) rfl rfl rfl rfl) rfl rfl hl.1 rfl (lv_room (Nat.le_of_ble_eq_true rfl)) d_Md_isHead_14 ⟨Nat.zero_le _, Nat.zero_le _⟩) hP hD hS hA [0, 5, 1, 2, 3, 4] [] rfl rfl (by decide) (by decide) (fun H locs hP hD hS => ?_)
  have hP : va_P D classes [(a_t, .inr (8, [.ref a_t_disk, .ref a_t_tape, .int t_tapeLong, t_first, t_last, .int t_kept, .int t_next, .int t_come, .int t_crashes, .int t_thrown, .int t_open, .int t_openFirst, .int t_openMany, .int t_openBytes, .int t_nextPage, .int t_turn, .int t_oldest, .ref a_t_waitBlock, .ref a_t_waitByte, .ref a_t_waitOldest, .int t_waiting])), (a_t_disk, .inl ((cA 0), n_t_disk, .inl t_disk)), (a_t_tape, .inl ((cA 0), n_t_tape, .inl t_tape)), (a_t_waitBlock, .inl ((cA 0), n_t_waitBlock, .inl t_waitBlock)), (a_t_waitByte, .inl ((cA 0), n_t_waitByte, .inl t_waitByte)), (a_t_waitOldest, .inl ((cA 0), n_t_waitOldest, .inl t_waitOldest))] H := hP
  have hD : va_D A [(a_t, .inr (8, [.ref a_t_disk, .ref a_t_tape, .int t_tapeLong, t_first, t_last, .int t_kept, .int t_next, .int t_come, .int t_crashes, .int t_thrown, .int t_open, .int t_openFirst, .int t_openMany, .int t_openBytes, .int t_nextPage, .int t_turn, .int t_oldest, .ref a_t_waitBlock, .ref a_t_waitByte, .ref a_t_waitOldest, .int t_waiting])), (a_t_disk, .inl ((cA 0), n_t_disk, .inl t_disk)), (a_t_tape, .inl ((cA 0), n_t_tape, .inl t_tape)), (a_t_waitBlock, .inl ((cA 0), n_t_waitBlock, .inl t_waitBlock)), (a_t_waitByte, .inl ((cA 0), n_t_waitByte, .inl t_waitByte)), (a_t_waitOldest, .inl ((cA 0), n_t_waitOldest, .inl t_waitOldest))] := hD
  refine lv_if_eq (tgt := 77) hx hb d_Md_isHead_17 (by decide) (fun c_3 => ?_) (fun c_3 => ?_)
  · replace hf := (if_pos c_3).symm.trans hf
    refine lv_iconst (v := 0) hx hb d_Md_isHead_77 (by decide) ?_
    have ho9 := Option.some.inj hf
    subst ho9
    have hP9 := hP.sub (ws' := [(a_t, .inr (8, [.ref a_t_disk, .ref a_t_tape, .int t_tapeLong, t_first, t_last, .int t_kept, .int t_next, .int t_come, .int t_crashes, .int t_thrown, .int t_open, .int t_openFirst, .int t_openMany, .int t_openBytes, .int t_nextPage, .int t_turn, .int t_oldest, .ref a_t_waitBlock, .ref a_t_waitByte, .ref a_t_waitOldest, .int t_waiting])), (a_t_disk, .inl ((cA 0), n_t_disk, .inl t_disk)), (a_t_tape, .inl ((cA 0), n_t_tape, .inl t_tape)), (a_t_waitBlock, .inl ((cA 0), n_t_waitBlock, .inl t_waitBlock)), (a_t_waitByte, .inl ((cA 0), n_t_waitByte, .inl t_waitByte)), (a_t_waitOldest, .inl ((cA 0), n_t_waitOldest, .inl t_waitOldest))]) [0, 1, 2, 3, 4, 5] rfl
    have hD9 := hD.sub (ws' := [(a_t, .inr (8, [.ref a_t_disk, .ref a_t_tape, .int t_tapeLong, t_first, t_last, .int t_kept, .int t_next, .int t_come, .int t_crashes, .int t_thrown, .int t_open, .int t_openFirst, .int t_openMany, .int t_openBytes, .int t_nextPage, .int t_turn, .int t_oldest, .ref a_t_waitBlock, .ref a_t_waitByte, .ref a_t_waitOldest, .int t_waiting])), (a_t_disk, .inl ((cA 0), n_t_disk, .inl t_disk)), (a_t_tape, .inl ((cA 0), n_t_tape, .inl t_tape)), (a_t_waitBlock, .inl ((cA 0), n_t_waitBlock, .inl t_waitBlock)), (a_t_waitByte, .inl ((cA 0), n_t_waitByte, .inl t_waitByte)), (a_t_waitOldest, .inl ((cA 0), n_t_waitOldest, .inl t_waitOldest))]) [0, 1, 2, 3, 4, 5] (by decide) rfl
    exact W.zret (v := (0 : Int32)) hx hb hr rfl (fun t ht hW => ⟨⟨_, (), rfl, rfl, by rw [ht]; exact hP9, va_K.moved hW.alike hK, hD9⟩, hS.F ht⟩) hS.2.2 d_Md_isHead_78
  · replace hf := (if_neg c_3).symm.trans hf
    refine lv_iload_n hx hb d_Md_isHead_20 rfl (lv_at hl 0 rfl) ?_
    obtain ⟨o_4, ho_4, hf⟩ := hk_bd hf
    refine q_i (wr := [(a_t, .inr (8, [.ref a_t_disk, .ref a_t_tape, .int t_tapeLong, t_first, t_last, .int t_kept, .int t_next, .int t_come, .int t_crashes, .int t_thrown, .int t_open, .int t_openFirst, .int t_openMany, .int t_openBytes, .int t_nextPage, .int t_turn, .int t_oldest, .ref a_t_waitBlock, .ref a_t_waitByte, .ref a_t_waitOldest, .int t_waiting])), (a_t_disk, .inl ((cA 0), n_t_disk, .inl t_disk)), (a_t_tape, .inl ((cA 0), n_t_tape, .inl t_tape)), (a_t_waitBlock, .inl ((cA 0), n_t_waitBlock, .inl t_waitBlock)), (a_t_waitByte, .inl ((cA 0), n_t_waitByte, .inl t_waitByte)), (a_t_waitOldest, .inl ((cA 0), n_t_waitOldest, .inl t_waitOldest))]) (va_runS (As := [.int o_1]) (rest := []) ⟨hx, hb, hml, hown, hts⟩ (c_Md_isNumber l D cA _ o_1 o_4 ho_4) (va_cwS 1 hts (gd_S gm_323 gm_324 gm_310 gm_322) rfl rfl rfl (by decide +kernel) ⟨Nat.le_of_ble_eq_true rfl, Nat.le_of_ble_eq_true rfl⟩) (q_pS hK hP hD hS hA hE [] (by decide) rfl) rfl rfl hl.1 rfl (lv_room (Nat.le_of_ble_eq_true rfl)) d_Md_isHead_21 ⟨Nat.zero_le _, Nat.zero_le _⟩) hP hD hS hA [] [0, 1, 2, 3, 4, 5] rfl rfl (by decide) (by decide) (fun H locs hP hD hS => ?_)
    have hP : va_P D classes [(a_t, .inr (8, [.ref a_t_disk, .ref a_t_tape, .int t_tapeLong, t_first, t_last, .int t_kept, .int t_next, .int t_come, .int t_crashes, .int t_thrown, .int t_open, .int t_openFirst, .int t_openMany, .int t_openBytes, .int t_nextPage, .int t_turn, .int t_oldest, .ref a_t_waitBlock, .ref a_t_waitByte, .ref a_t_waitOldest, .int t_waiting])), (a_t_disk, .inl ((cA 0), n_t_disk, .inl t_disk)), (a_t_tape, .inl ((cA 0), n_t_tape, .inl t_tape)), (a_t_waitBlock, .inl ((cA 0), n_t_waitBlock, .inl t_waitBlock)), (a_t_waitByte, .inl ((cA 0), n_t_waitByte, .inl t_waitByte)), (a_t_waitOldest, .inl ((cA 0), n_t_waitOldest, .inl t_waitOldest))] H := hP
    have hD : va_D A [(a_t, .inr (8, [.ref a_t_disk, .ref a_t_tape, .int t_tapeLong, t_first, t_last, .int t_kept, .int t_next, .int t_come, .int t_crashes, .int t_thrown, .int t_open, .int t_openFirst, .int t_openMany, .int t_openBytes, .int t_nextPage, .int t_turn, .int t_oldest, .ref a_t_waitBlock, .ref a_t_waitByte, .ref a_t_waitOldest, .int t_waiting])), (a_t_disk, .inl ((cA 0), n_t_disk, .inl t_disk)), (a_t_tape, .inl ((cA 0), n_t_tape, .inl t_tape)), (a_t_waitBlock, .inl ((cA 0), n_t_waitBlock, .inl t_waitBlock)), (a_t_waitByte, .inl ((cA 0), n_t_waitByte, .inl t_waitByte)), (a_t_waitOldest, .inl ((cA 0), n_t_waitOldest, .inl t_waitOldest))] := hD
    refine lv_if_eq (tgt := 77) hx hb d_Md_isHead_24 (by decide) (fun c_5 => ?_) (fun c_5 => ?_)
    · replace hf := (if_pos c_5).symm.trans hf
      refine lv_iconst (v := 0) hx hb d_Md_isHead_77 (by decide) ?_
      have ho9 := Option.some.inj hf
      subst ho9
      have hP9 := hP.sub (ws' := [(a_t, .inr (8, [.ref a_t_disk, .ref a_t_tape, .int t_tapeLong, t_first, t_last, .int t_kept, .int t_next, .int t_come, .int t_crashes, .int t_thrown, .int t_open, .int t_openFirst, .int t_openMany, .int t_openBytes, .int t_nextPage, .int t_turn, .int t_oldest, .ref a_t_waitBlock, .ref a_t_waitByte, .ref a_t_waitOldest, .int t_waiting])), (a_t_disk, .inl ((cA 0), n_t_disk, .inl t_disk)), (a_t_tape, .inl ((cA 0), n_t_tape, .inl t_tape)), (a_t_waitBlock, .inl ((cA 0), n_t_waitBlock, .inl t_waitBlock)), (a_t_waitByte, .inl ((cA 0), n_t_waitByte, .inl t_waitByte)), (a_t_waitOldest, .inl ((cA 0), n_t_waitOldest, .inl t_waitOldest))]) [0, 1, 2, 3, 4, 5] rfl
      have hD9 := hD.sub (ws' := [(a_t, .inr (8, [.ref a_t_disk, .ref a_t_tape, .int t_tapeLong, t_first, t_last, .int t_kept, .int t_next, .int t_come, .int t_crashes, .int t_thrown, .int t_open, .int t_openFirst, .int t_openMany, .int t_openBytes, .int t_nextPage, .int t_turn, .int t_oldest, .ref a_t_waitBlock, .ref a_t_waitByte, .ref a_t_waitOldest, .int t_waiting])), (a_t_disk, .inl ((cA 0), n_t_disk, .inl t_disk)), (a_t_tape, .inl ((cA 0), n_t_tape, .inl t_tape)), (a_t_waitBlock, .inl ((cA 0), n_t_waitBlock, .inl t_waitBlock)), (a_t_waitByte, .inl ((cA 0), n_t_waitByte, .inl t_waitByte)), (a_t_waitOldest, .inl ((cA 0), n_t_waitOldest, .inl t_waitOldest))]) [0, 1, 2, 3, 4, 5] (by decide) rfl
      exact W.zret (v := (0 : Int32)) hx hb hr rfl (fun t ht hW => ⟨⟨_, (), rfl, rfl, by rw [ht]; exact hP9, va_K.moved hW.alike hK, hD9⟩, hS.F ht⟩) hS.2.2 d_Md_isHead_78
    · replace hf := (if_neg c_5).symm.trans hf
      refine lv_iload_n hx hb d_Md_isHead_27 rfl (lv_at hl 0 rfl) ?_
      refine lv_iconst (v := 2) hx hb d_Md_isHead_28 (by decide) ?_
      refine lv_irem hx hb d_Md_isHead_29 (by decide) ?_
      refine lv_iload_n hx hb d_Md_isHead_30 rfl (lv_at hl 2 rfl) ?_
      refine lv_icmp_ne (tgt := 77) hx hb d_Md_isHead_31 (by decide) (fun c_6 => ?_) (fun c_6 => ?_)
      · replace hf := (if_neg c_6).symm.trans hf
        refine lv_iconst (v := 0) hx hb d_Md_isHead_77 (by decide) ?_
        have ho9 := Option.some.inj hf
        subst ho9
        have hP9 := hP.sub (ws' := [(a_t, .inr (8, [.ref a_t_disk, .ref a_t_tape, .int t_tapeLong, t_first, t_last, .int t_kept, .int t_next, .int t_come, .int t_crashes, .int t_thrown, .int t_open, .int t_openFirst, .int t_openMany, .int t_openBytes, .int t_nextPage, .int t_turn, .int t_oldest, .ref a_t_waitBlock, .ref a_t_waitByte, .ref a_t_waitOldest, .int t_waiting])), (a_t_disk, .inl ((cA 0), n_t_disk, .inl t_disk)), (a_t_tape, .inl ((cA 0), n_t_tape, .inl t_tape)), (a_t_waitBlock, .inl ((cA 0), n_t_waitBlock, .inl t_waitBlock)), (a_t_waitByte, .inl ((cA 0), n_t_waitByte, .inl t_waitByte)), (a_t_waitOldest, .inl ((cA 0), n_t_waitOldest, .inl t_waitOldest))]) [0, 1, 2, 3, 4, 5] rfl
        have hD9 := hD.sub (ws' := [(a_t, .inr (8, [.ref a_t_disk, .ref a_t_tape, .int t_tapeLong, t_first, t_last, .int t_kept, .int t_next, .int t_come, .int t_crashes, .int t_thrown, .int t_open, .int t_openFirst, .int t_openMany, .int t_openBytes, .int t_nextPage, .int t_turn, .int t_oldest, .ref a_t_waitBlock, .ref a_t_waitByte, .ref a_t_waitOldest, .int t_waiting])), (a_t_disk, .inl ((cA 0), n_t_disk, .inl t_disk)), (a_t_tape, .inl ((cA 0), n_t_tape, .inl t_tape)), (a_t_waitBlock, .inl ((cA 0), n_t_waitBlock, .inl t_waitBlock)), (a_t_waitByte, .inl ((cA 0), n_t_waitByte, .inl t_waitByte)), (a_t_waitOldest, .inl ((cA 0), n_t_waitOldest, .inl t_waitOldest))]) [0, 1, 2, 3, 4, 5] (by decide) rfl
        exact W.zret (v := (0 : Int32)) hx hb hr rfl (fun t ht hW => ⟨⟨_, (), rfl, rfl, by rw [ht]; exact hP9, va_K.moved hW.alike hK, hD9⟩, hS.F ht⟩) hS.2.2 d_Md_isHead_78
      · replace hf := (if_pos c_6).symm.trans hf
        refine lv_aload_n hx hb d_Md_isHead_34 rfl (lv_at hl 1 rfl) ?_
        refine va_get (D := D) (ci := 8) (v := .ref a_t_disk) (C := R_Md) (T := F_Md) (N := 21) hx hb hts (fun w9 h9 => .tail _ (gu_Md w9 h9)) hown hK hP 0 rfl rfl 0 (by decide) (hts _ (.tail _ gm_305)) (fun _ h9 => h9) rfl d_Md_isHead_35 ?_
        refine lv_bipush (v := 64) hx hb d_Md_isHead_38 (by decide) ?_
        refine lv_iload_n hx hb d_Md_isHead_40 rfl (lv_at hl 2 rfl) ?_
        refine lv_imul hx hb d_Md_isHead_41 ?_
        refine lv_iconst (v := 4) hx hb d_Md_isHead_42 (by decide) ?_
        refine lv_iadd hx hb d_Md_isHead_43 ?_
        obtain ⟨o_7, ho_7, hf⟩ := hk_bd hf
        refine q_i (wr := [(a_t, .inr (8, [.ref a_t_disk, .ref a_t_tape, .int t_tapeLong, t_first, t_last, .int t_kept, .int t_next, .int t_come, .int t_crashes, .int t_thrown, .int t_open, .int t_openFirst, .int t_openMany, .int t_openBytes, .int t_nextPage, .int t_turn, .int t_oldest, .ref a_t_waitBlock, .ref a_t_waitByte, .ref a_t_waitOldest, .int t_waiting])), (a_t_tape, .inl ((cA 0), n_t_tape, .inl t_tape)), (a_t_waitBlock, .inl ((cA 0), n_t_waitBlock, .inl t_waitBlock)), (a_t_waitByte, .inl ((cA 0), n_t_waitByte, .inl t_waitByte)), (a_t_waitOldest, .inl ((cA 0), n_t_waitOldest, .inl t_waitOldest))]) (va_runS (As := [.ref a_t_disk, .int (((64 : Int32) * p0) + (4 : Int32))]) (rest := []) ⟨hx, hb, hml, hown, hts⟩ (c_Md_word l D cA a_t_disk _ n_t_disk t_disk (((64 : Int32) * p0) + (4 : Int32)) o_7 ho_7) (va_cwS 2 hts (gd_S gm_312 gm_313 gm_310 gm_311) rfl rfl rfl (by decide +kernel) ⟨Nat.le_of_ble_eq_true rfl, Nat.le_of_ble_eq_true rfl⟩) (q_pS hK hP hD hS hA hE [1] (by decide) rfl) rfl rfl hl.1 rfl (lv_room (Nat.le_of_ble_eq_true rfl)) d_Md_isHead_44 ⟨Nat.zero_le _, Nat.zero_le _⟩) hP hD hS hA [1] [0, 2, 3, 4, 5] rfl rfl (by decide) (by decide) (fun H locs hP hD hS => ?_)
        have hP : va_P D classes [(a_t, .inr (8, [.ref a_t_disk, .ref a_t_tape, .int t_tapeLong, t_first, t_last, .int t_kept, .int t_next, .int t_come, .int t_crashes, .int t_thrown, .int t_open, .int t_openFirst, .int t_openMany, .int t_openBytes, .int t_nextPage, .int t_turn, .int t_oldest, .ref a_t_waitBlock, .ref a_t_waitByte, .ref a_t_waitOldest, .int t_waiting])), (a_t_tape, .inl ((cA 0), n_t_tape, .inl t_tape)), (a_t_waitBlock, .inl ((cA 0), n_t_waitBlock, .inl t_waitBlock)), (a_t_waitByte, .inl ((cA 0), n_t_waitByte, .inl t_waitByte)), (a_t_waitOldest, .inl ((cA 0), n_t_waitOldest, .inl t_waitOldest)), (a_t_disk, .inl ((cA 0), n_t_disk, .inl t_disk))] H := hP
        have hD : va_D A [(a_t, .inr (8, [.ref a_t_disk, .ref a_t_tape, .int t_tapeLong, t_first, t_last, .int t_kept, .int t_next, .int t_come, .int t_crashes, .int t_thrown, .int t_open, .int t_openFirst, .int t_openMany, .int t_openBytes, .int t_nextPage, .int t_turn, .int t_oldest, .ref a_t_waitBlock, .ref a_t_waitByte, .ref a_t_waitOldest, .int t_waiting])), (a_t_tape, .inl ((cA 0), n_t_tape, .inl t_tape)), (a_t_waitBlock, .inl ((cA 0), n_t_waitBlock, .inl t_waitBlock)), (a_t_waitByte, .inl ((cA 0), n_t_waitByte, .inl t_waitByte)), (a_t_waitOldest, .inl ((cA 0), n_t_waitOldest, .inl t_waitOldest)), (a_t_disk, .inl ((cA 0), n_t_disk, .inl t_disk))] := hD
        obtain ⟨o_8, ho_8, hf⟩ := hk_bd hf
        refine q_i (wr := [(a_t, .inr (8, [.ref a_t_disk, .ref a_t_tape, .int t_tapeLong, t_first, t_last, .int t_kept, .int t_next, .int t_come, .int t_crashes, .int t_thrown, .int t_open, .int t_openFirst, .int t_openMany, .int t_openBytes, .int t_nextPage, .int t_turn, .int t_oldest, .ref a_t_waitBlock, .ref a_t_waitByte, .ref a_t_waitOldest, .int t_waiting])), (a_t_tape, .inl ((cA 0), n_t_tape, .inl t_tape)), (a_t_waitBlock, .inl ((cA 0), n_t_waitBlock, .inl t_waitBlock)), (a_t_waitByte, .inl ((cA 0), n_t_waitByte, .inl t_waitByte)), (a_t_waitOldest, .inl ((cA 0), n_t_waitOldest, .inl t_waitOldest)), (a_t_disk, .inl ((cA 0), n_t_disk, .inl t_disk))]) (va_runS (As := [.int o_7]) (rest := []) ⟨hx, hb, hml, hown, hts⟩ (c_Md_isNumber l D cA _ o_7 o_8 ho_8) (va_cwS 1 hts (gd_S gm_323 gm_324 gm_310 gm_322) rfl rfl rfl (by decide +kernel) ⟨Nat.le_of_ble_eq_true rfl, Nat.le_of_ble_eq_true rfl⟩) (q_pS hK hP hD hS hA hE [] (by decide) rfl) rfl rfl hl.1 rfl (lv_room (Nat.le_of_ble_eq_true rfl)) d_Md_isHead_47 ⟨Nat.zero_le _, Nat.zero_le _⟩) hP hD hS hA [] [0, 1, 2, 3, 4, 5] rfl rfl (by decide) (by decide) (fun H locs hP hD hS => ?_)
        have hP : va_P D classes [(a_t, .inr (8, [.ref a_t_disk, .ref a_t_tape, .int t_tapeLong, t_first, t_last, .int t_kept, .int t_next, .int t_come, .int t_crashes, .int t_thrown, .int t_open, .int t_openFirst, .int t_openMany, .int t_openBytes, .int t_nextPage, .int t_turn, .int t_oldest, .ref a_t_waitBlock, .ref a_t_waitByte, .ref a_t_waitOldest, .int t_waiting])), (a_t_tape, .inl ((cA 0), n_t_tape, .inl t_tape)), (a_t_waitBlock, .inl ((cA 0), n_t_waitBlock, .inl t_waitBlock)), (a_t_waitByte, .inl ((cA 0), n_t_waitByte, .inl t_waitByte)), (a_t_waitOldest, .inl ((cA 0), n_t_waitOldest, .inl t_waitOldest)), (a_t_disk, .inl ((cA 0), n_t_disk, .inl t_disk))] H := hP
        have hD : va_D A [(a_t, .inr (8, [.ref a_t_disk, .ref a_t_tape, .int t_tapeLong, t_first, t_last, .int t_kept, .int t_next, .int t_come, .int t_crashes, .int t_thrown, .int t_open, .int t_openFirst, .int t_openMany, .int t_openBytes, .int t_nextPage, .int t_turn, .int t_oldest, .ref a_t_waitBlock, .ref a_t_waitByte, .ref a_t_waitOldest, .int t_waiting])), (a_t_tape, .inl ((cA 0), n_t_tape, .inl t_tape)), (a_t_waitBlock, .inl ((cA 0), n_t_waitBlock, .inl t_waitBlock)), (a_t_waitByte, .inl ((cA 0), n_t_waitByte, .inl t_waitByte)), (a_t_waitOldest, .inl ((cA 0), n_t_waitOldest, .inl t_waitOldest)), (a_t_disk, .inl ((cA 0), n_t_disk, .inl t_disk))] := hD
        refine lv_if_eq (tgt := 77) hx hb d_Md_isHead_50 (by decide) (fun c_9 => ?_) (fun c_9 => ?_)
        · replace hf := (if_pos c_9).symm.trans hf
          refine lv_iconst (v := 0) hx hb d_Md_isHead_77 (by decide) ?_
          have ho9 := Option.some.inj hf
          subst ho9
          have hP9 := hP.sub (ws' := [(a_t, .inr (8, [.ref a_t_disk, .ref a_t_tape, .int t_tapeLong, t_first, t_last, .int t_kept, .int t_next, .int t_come, .int t_crashes, .int t_thrown, .int t_open, .int t_openFirst, .int t_openMany, .int t_openBytes, .int t_nextPage, .int t_turn, .int t_oldest, .ref a_t_waitBlock, .ref a_t_waitByte, .ref a_t_waitOldest, .int t_waiting])), (a_t_disk, .inl ((cA 0), n_t_disk, .inl t_disk)), (a_t_tape, .inl ((cA 0), n_t_tape, .inl t_tape)), (a_t_waitBlock, .inl ((cA 0), n_t_waitBlock, .inl t_waitBlock)), (a_t_waitByte, .inl ((cA 0), n_t_waitByte, .inl t_waitByte)), (a_t_waitOldest, .inl ((cA 0), n_t_waitOldest, .inl t_waitOldest))]) [0, 5, 1, 2, 3, 4] rfl
          have hD9 := hD.sub (ws' := [(a_t, .inr (8, [.ref a_t_disk, .ref a_t_tape, .int t_tapeLong, t_first, t_last, .int t_kept, .int t_next, .int t_come, .int t_crashes, .int t_thrown, .int t_open, .int t_openFirst, .int t_openMany, .int t_openBytes, .int t_nextPage, .int t_turn, .int t_oldest, .ref a_t_waitBlock, .ref a_t_waitByte, .ref a_t_waitOldest, .int t_waiting])), (a_t_disk, .inl ((cA 0), n_t_disk, .inl t_disk)), (a_t_tape, .inl ((cA 0), n_t_tape, .inl t_tape)), (a_t_waitBlock, .inl ((cA 0), n_t_waitBlock, .inl t_waitBlock)), (a_t_waitByte, .inl ((cA 0), n_t_waitByte, .inl t_waitByte)), (a_t_waitOldest, .inl ((cA 0), n_t_waitOldest, .inl t_waitOldest))]) [0, 5, 1, 2, 3, 4] (by decide) rfl
          exact W.zret (v := (0 : Int32)) hx hb hr rfl (fun t ht hW => ⟨⟨_, (), rfl, rfl, by rw [ht]; exact hP9, va_K.moved hW.alike hK, hD9⟩, hS.F ht⟩) hS.2.2 d_Md_isHead_78
        · replace hf := (if_neg c_9).symm.trans hf
          refine lv_aload_n hx hb d_Md_isHead_53 rfl (lv_at hl 1 rfl) ?_
          refine va_get (D := D) (ci := 8) (v := .ref a_t_disk) (C := R_Md) (T := F_Md) (N := 21) hx hb hts (fun w9 h9 => .tail _ (gu_Md w9 h9)) hown hK hP 0 rfl rfl 0 (by decide) (hts _ (.tail _ gm_305)) (fun _ h9 => h9) rfl d_Md_isHead_54 ?_
          refine lv_bipush (v := 64) hx hb d_Md_isHead_57 (by decide) ?_
          refine lv_iload_n hx hb d_Md_isHead_59 rfl (lv_at hl 2 rfl) ?_
          refine lv_imul hx hb d_Md_isHead_60 ?_
          refine lv_bipush (v := 8) hx hb d_Md_isHead_61 (by decide) ?_
          refine lv_iadd hx hb d_Md_isHead_63 ?_
          obtain ⟨o_10, ho_10, hf⟩ := hk_bd hf
          refine q_i (wr := [(a_t, .inr (8, [.ref a_t_disk, .ref a_t_tape, .int t_tapeLong, t_first, t_last, .int t_kept, .int t_next, .int t_come, .int t_crashes, .int t_thrown, .int t_open, .int t_openFirst, .int t_openMany, .int t_openBytes, .int t_nextPage, .int t_turn, .int t_oldest, .ref a_t_waitBlock, .ref a_t_waitByte, .ref a_t_waitOldest, .int t_waiting])), (a_t_tape, .inl ((cA 0), n_t_tape, .inl t_tape)), (a_t_waitBlock, .inl ((cA 0), n_t_waitBlock, .inl t_waitBlock)), (a_t_waitByte, .inl ((cA 0), n_t_waitByte, .inl t_waitByte)), (a_t_waitOldest, .inl ((cA 0), n_t_waitOldest, .inl t_waitOldest))]) (va_runS (As := [.ref a_t_disk, .int (((64 : Int32) * p0) + (8 : Int32))]) (rest := []) ⟨hx, hb, hml, hown, hts⟩ (c_Md_word l D cA a_t_disk _ n_t_disk t_disk (((64 : Int32) * p0) + (8 : Int32)) o_10 ho_10) (va_cwS 2 hts (gd_S gm_312 gm_313 gm_310 gm_311) rfl rfl rfl (by decide +kernel) ⟨Nat.le_of_ble_eq_true rfl, Nat.le_of_ble_eq_true rfl⟩) (q_pS hK hP hD hS hA hE [5] (by decide) rfl) rfl rfl hl.1 rfl (lv_room (Nat.le_of_ble_eq_true rfl)) d_Md_isHead_64 ⟨Nat.zero_le _, Nat.zero_le _⟩) hP hD hS hA [5] [0, 1, 2, 3, 4] rfl rfl (by decide) (by decide) (fun H locs hP hD hS => ?_)
          have hP : va_P D classes [(a_t, .inr (8, [.ref a_t_disk, .ref a_t_tape, .int t_tapeLong, t_first, t_last, .int t_kept, .int t_next, .int t_come, .int t_crashes, .int t_thrown, .int t_open, .int t_openFirst, .int t_openMany, .int t_openBytes, .int t_nextPage, .int t_turn, .int t_oldest, .ref a_t_waitBlock, .ref a_t_waitByte, .ref a_t_waitOldest, .int t_waiting])), (a_t_tape, .inl ((cA 0), n_t_tape, .inl t_tape)), (a_t_waitBlock, .inl ((cA 0), n_t_waitBlock, .inl t_waitBlock)), (a_t_waitByte, .inl ((cA 0), n_t_waitByte, .inl t_waitByte)), (a_t_waitOldest, .inl ((cA 0), n_t_waitOldest, .inl t_waitOldest)), (a_t_disk, .inl ((cA 0), n_t_disk, .inl t_disk))] H := hP
          have hD : va_D A [(a_t, .inr (8, [.ref a_t_disk, .ref a_t_tape, .int t_tapeLong, t_first, t_last, .int t_kept, .int t_next, .int t_come, .int t_crashes, .int t_thrown, .int t_open, .int t_openFirst, .int t_openMany, .int t_openBytes, .int t_nextPage, .int t_turn, .int t_oldest, .ref a_t_waitBlock, .ref a_t_waitByte, .ref a_t_waitOldest, .int t_waiting])), (a_t_tape, .inl ((cA 0), n_t_tape, .inl t_tape)), (a_t_waitBlock, .inl ((cA 0), n_t_waitBlock, .inl t_waitBlock)), (a_t_waitByte, .inl ((cA 0), n_t_waitByte, .inl t_waitByte)), (a_t_waitOldest, .inl ((cA 0), n_t_waitOldest, .inl t_waitOldest)), (a_t_disk, .inl ((cA 0), n_t_disk, .inl t_disk))] := hD
          obtain ⟨o_11, ho_11, hf⟩ := hk_bd hf
          refine q_i (wr := [(a_t, .inr (8, [.ref a_t_disk, .ref a_t_tape, .int t_tapeLong, t_first, t_last, .int t_kept, .int t_next, .int t_come, .int t_crashes, .int t_thrown, .int t_open, .int t_openFirst, .int t_openMany, .int t_openBytes, .int t_nextPage, .int t_turn, .int t_oldest, .ref a_t_waitBlock, .ref a_t_waitByte, .ref a_t_waitOldest, .int t_waiting])), (a_t_tape, .inl ((cA 0), n_t_tape, .inl t_tape)), (a_t_waitBlock, .inl ((cA 0), n_t_waitBlock, .inl t_waitBlock)), (a_t_waitByte, .inl ((cA 0), n_t_waitByte, .inl t_waitByte)), (a_t_waitOldest, .inl ((cA 0), n_t_waitOldest, .inl t_waitOldest)), (a_t_disk, .inl ((cA 0), n_t_disk, .inl t_disk))]) (va_runS (As := [.int o_10]) (rest := []) ⟨hx, hb, hml, hown, hts⟩ (c_Md_isNumber l D cA _ o_10 o_11 ho_11) (va_cwS 1 hts (gd_S gm_323 gm_324 gm_310 gm_322) rfl rfl rfl (by decide +kernel) ⟨Nat.le_of_ble_eq_true rfl, Nat.le_of_ble_eq_true rfl⟩) (q_pS hK hP hD hS hA hE [] (by decide) rfl) rfl rfl hl.1 rfl (lv_room (Nat.le_of_ble_eq_true rfl)) d_Md_isHead_67 ⟨Nat.zero_le _, Nat.zero_le _⟩) hP hD hS hA [] [0, 1, 2, 3, 4, 5] rfl rfl (by decide) (by decide) (fun H locs hP hD hS => ?_)
          have hP : va_P D classes [(a_t, .inr (8, [.ref a_t_disk, .ref a_t_tape, .int t_tapeLong, t_first, t_last, .int t_kept, .int t_next, .int t_come, .int t_crashes, .int t_thrown, .int t_open, .int t_openFirst, .int t_openMany, .int t_openBytes, .int t_nextPage, .int t_turn, .int t_oldest, .ref a_t_waitBlock, .ref a_t_waitByte, .ref a_t_waitOldest, .int t_waiting])), (a_t_tape, .inl ((cA 0), n_t_tape, .inl t_tape)), (a_t_waitBlock, .inl ((cA 0), n_t_waitBlock, .inl t_waitBlock)), (a_t_waitByte, .inl ((cA 0), n_t_waitByte, .inl t_waitByte)), (a_t_waitOldest, .inl ((cA 0), n_t_waitOldest, .inl t_waitOldest)), (a_t_disk, .inl ((cA 0), n_t_disk, .inl t_disk))] H := hP
          have hD : va_D A [(a_t, .inr (8, [.ref a_t_disk, .ref a_t_tape, .int t_tapeLong, t_first, t_last, .int t_kept, .int t_next, .int t_come, .int t_crashes, .int t_thrown, .int t_open, .int t_openFirst, .int t_openMany, .int t_openBytes, .int t_nextPage, .int t_turn, .int t_oldest, .ref a_t_waitBlock, .ref a_t_waitByte, .ref a_t_waitOldest, .int t_waiting])), (a_t_tape, .inl ((cA 0), n_t_tape, .inl t_tape)), (a_t_waitBlock, .inl ((cA 0), n_t_waitBlock, .inl t_waitBlock)), (a_t_waitByte, .inl ((cA 0), n_t_waitByte, .inl t_waitByte)), (a_t_waitOldest, .inl ((cA 0), n_t_waitOldest, .inl t_waitOldest)), (a_t_disk, .inl ((cA 0), n_t_disk, .inl t_disk))] := hD
          refine lv_if_eq (tgt := 77) hx hb d_Md_isHead_70 (by decide) (fun c_12 => ?_) (fun c_12 => ?_)
          · replace hf := (if_pos c_12).symm.trans hf
            refine lv_iconst (v := 0) hx hb d_Md_isHead_77 (by decide) ?_
            have ho9 := Option.some.inj hf
            subst ho9
            have hP9 := hP.sub (ws' := [(a_t, .inr (8, [.ref a_t_disk, .ref a_t_tape, .int t_tapeLong, t_first, t_last, .int t_kept, .int t_next, .int t_come, .int t_crashes, .int t_thrown, .int t_open, .int t_openFirst, .int t_openMany, .int t_openBytes, .int t_nextPage, .int t_turn, .int t_oldest, .ref a_t_waitBlock, .ref a_t_waitByte, .ref a_t_waitOldest, .int t_waiting])), (a_t_disk, .inl ((cA 0), n_t_disk, .inl t_disk)), (a_t_tape, .inl ((cA 0), n_t_tape, .inl t_tape)), (a_t_waitBlock, .inl ((cA 0), n_t_waitBlock, .inl t_waitBlock)), (a_t_waitByte, .inl ((cA 0), n_t_waitByte, .inl t_waitByte)), (a_t_waitOldest, .inl ((cA 0), n_t_waitOldest, .inl t_waitOldest))]) [0, 5, 1, 2, 3, 4] rfl
            have hD9 := hD.sub (ws' := [(a_t, .inr (8, [.ref a_t_disk, .ref a_t_tape, .int t_tapeLong, t_first, t_last, .int t_kept, .int t_next, .int t_come, .int t_crashes, .int t_thrown, .int t_open, .int t_openFirst, .int t_openMany, .int t_openBytes, .int t_nextPage, .int t_turn, .int t_oldest, .ref a_t_waitBlock, .ref a_t_waitByte, .ref a_t_waitOldest, .int t_waiting])), (a_t_disk, .inl ((cA 0), n_t_disk, .inl t_disk)), (a_t_tape, .inl ((cA 0), n_t_tape, .inl t_tape)), (a_t_waitBlock, .inl ((cA 0), n_t_waitBlock, .inl t_waitBlock)), (a_t_waitByte, .inl ((cA 0), n_t_waitByte, .inl t_waitByte)), (a_t_waitOldest, .inl ((cA 0), n_t_waitOldest, .inl t_waitOldest))]) [0, 5, 1, 2, 3, 4] (by decide) rfl
            exact W.zret (v := (0 : Int32)) hx hb hr rfl (fun t ht hW => ⟨⟨_, (), rfl, rfl, by rw [ht]; exact hP9, va_K.moved hW.alike hK, hD9⟩, hS.F ht⟩) hS.2.2 d_Md_isHead_78
          · replace hf := (if_neg c_12).symm.trans hf
            refine lv_iconst (v := 1) hx hb d_Md_isHead_73 (by decide) ?_
            refine lv_goto (tgt := 78) hx hb d_Md_isHead_74 (by decide) ?_
            have ho9 := Option.some.inj hf
            subst ho9
            have hP9 := hP.sub (ws' := [(a_t, .inr (8, [.ref a_t_disk, .ref a_t_tape, .int t_tapeLong, t_first, t_last, .int t_kept, .int t_next, .int t_come, .int t_crashes, .int t_thrown, .int t_open, .int t_openFirst, .int t_openMany, .int t_openBytes, .int t_nextPage, .int t_turn, .int t_oldest, .ref a_t_waitBlock, .ref a_t_waitByte, .ref a_t_waitOldest, .int t_waiting])), (a_t_disk, .inl ((cA 0), n_t_disk, .inl t_disk)), (a_t_tape, .inl ((cA 0), n_t_tape, .inl t_tape)), (a_t_waitBlock, .inl ((cA 0), n_t_waitBlock, .inl t_waitBlock)), (a_t_waitByte, .inl ((cA 0), n_t_waitByte, .inl t_waitByte)), (a_t_waitOldest, .inl ((cA 0), n_t_waitOldest, .inl t_waitOldest))]) [0, 5, 1, 2, 3, 4] rfl
            have hD9 := hD.sub (ws' := [(a_t, .inr (8, [.ref a_t_disk, .ref a_t_tape, .int t_tapeLong, t_first, t_last, .int t_kept, .int t_next, .int t_come, .int t_crashes, .int t_thrown, .int t_open, .int t_openFirst, .int t_openMany, .int t_openBytes, .int t_nextPage, .int t_turn, .int t_oldest, .ref a_t_waitBlock, .ref a_t_waitByte, .ref a_t_waitOldest, .int t_waiting])), (a_t_disk, .inl ((cA 0), n_t_disk, .inl t_disk)), (a_t_tape, .inl ((cA 0), n_t_tape, .inl t_tape)), (a_t_waitBlock, .inl ((cA 0), n_t_waitBlock, .inl t_waitBlock)), (a_t_waitByte, .inl ((cA 0), n_t_waitByte, .inl t_waitByte)), (a_t_waitOldest, .inl ((cA 0), n_t_waitOldest, .inl t_waitOldest))]) [0, 5, 1, 2, 3, 4] (by decide) rfl
            exact W.zret (v := (1 : Int32)) hx hb hr rfl (fun t ht hW => ⟨⟨_, (), rfl, rfl, by rw [ht]; exact hP9, va_K.moved hW.alike hK, hD9⟩, hS.F ht⟩) hS.2.2 d_Md_isHead_78
theorem d_Md_findHead_0 : decode b_Md_findHead 0 = .ok (.aload_n 0, 1) := by decide +kernel
theorem d_Md_findHead_1 : decode b_Md_findHead 1 = .ok (.iconst 0, 1) := by decide +kernel
theorem d_Md_findHead_2 : decode b_Md_findHead 2 = .ok (.putfield 32, 3) := by decide +kernel
theorem d_Md_findHead_5 : decode b_Md_findHead 5 = .ok (.aload_n 0, 1) := by decide +kernel
theorem d_Md_findHead_6 : decode b_Md_findHead 6 = .ok (.iconst 1, 1) := by decide +kernel
theorem d_Md_findHead_7 : decode b_Md_findHead 7 = .ok (.putfield 35, 3) := by decide +kernel
theorem d_Md_findHead_10 : decode b_Md_findHead 10 = .ok (.aload_n 0, 1) := by decide +kernel
theorem d_Md_findHead_11 : decode b_Md_findHead 11 = .ok (.iconst 1, 1) := by decide +kernel
theorem d_Md_findHead_12 : decode b_Md_findHead 12 = .ok (.putfield 16, 3) := by decide +kernel
theorem d_Md_findHead_15 : decode b_Md_findHead 15 = .ok (.iconst 0, 1) := by decide +kernel
theorem d_Md_findHead_16 : decode b_Md_findHead 16 = .ok (.istore_n 1, 1) := by decide +kernel
theorem d_Md_findHead_17 : decode b_Md_findHead 17 = .ok (.iload_n 1, 1) := by decide +kernel
theorem d_Md_findHead_18 : decode b_Md_findHead 18 = .ok (.iconst 2, 1) := by decide +kernel
theorem d_Md_findHead_19 : decode b_Md_findHead 19 = .ok (.if_icmp .ge 85, 3) := by decide +kernel
theorem d_Md_findHead_22 : decode b_Md_findHead 22 = .ok (.aload_n 0, 1) := by decide +kernel
theorem d_Md_findHead_23 : decode b_Md_findHead 23 = .ok (.iload_n 1, 1) := by decide +kernel
theorem d_Md_findHead_24 : decode b_Md_findHead 24 = .ok (.invokevirtual 141, 3) := by decide +kernel
theorem d_Md_findHead_27 : decode b_Md_findHead 27 = .ok (.ifCond .eq 71, 3) := by decide +kernel
theorem d_Md_findHead_30 : decode b_Md_findHead 30 = .ok (.aload_n 0, 1) := by decide +kernel
theorem d_Md_findHead_31 : decode b_Md_findHead 31 = .ok (.getfield 7, 3) := by decide +kernel
theorem d_Md_findHead_34 : decode b_Md_findHead 34 = .ok (.bipush 64, 2) := by decide +kernel
theorem d_Md_findHead_36 : decode b_Md_findHead 36 = .ok (.iload_n 1, 1) := by decide +kernel
theorem d_Md_findHead_37 : decode b_Md_findHead 37 = .ok (.imul, 1) := by decide +kernel
theorem d_Md_findHead_38 : decode b_Md_findHead 38 = .ok (.invokestatic 130, 3) := by decide +kernel
theorem d_Md_findHead_41 : decode b_Md_findHead 41 = .ok (.aload_n 0, 1) := by decide +kernel
theorem d_Md_findHead_42 : decode b_Md_findHead 42 = .ok (.getfield 32, 3) := by decide +kernel
theorem d_Md_findHead_45 : decode b_Md_findHead 45 = .ok (.if_icmp .le 53, 3) := by decide +kernel
theorem d_Md_findHead_48 : decode b_Md_findHead 48 = .ok (.aload_n 0, 1) := by decide +kernel
theorem d_Md_findHead_49 : decode b_Md_findHead 49 = .ok (.aload_n 0, 1) := by decide +kernel
theorem d_Md_findHead_50 : decode b_Md_findHead 50 = .ok (.getfield 7, 3) := by decide +kernel
theorem d_Md_findHead_53 : decode b_Md_findHead 53 = .ok (.bipush 64, 2) := by decide +kernel
theorem d_Md_findHead_55 : decode b_Md_findHead 55 = .ok (.iload_n 1, 1) := by decide +kernel
theorem d_Md_findHead_56 : decode b_Md_findHead 56 = .ok (.imul, 1) := by decide +kernel
theorem d_Md_findHead_57 : decode b_Md_findHead 57 = .ok (.invokestatic 130, 3) := by decide +kernel
theorem d_Md_findHead_60 : decode b_Md_findHead 60 = .ok (.putfield 32, 3) := by decide +kernel
theorem d_Md_findHead_63 : decode b_Md_findHead 63 = .ok (.aload_n 0, 1) := by decide +kernel
theorem d_Md_findHead_64 : decode b_Md_findHead 64 = .ok (.aload_n 0, 1) := by decide +kernel
theorem d_Md_findHead_65 : decode b_Md_findHead 65 = .ok (.getfield 7, 3) := by decide +kernel
theorem d_Md_findHead_68 : decode b_Md_findHead 68 = .ok (.bipush 64, 2) := by decide +kernel
theorem d_Md_findHead_70 : decode b_Md_findHead 70 = .ok (.iload_n 1, 1) := by decide +kernel
theorem d_Md_findHead_71 : decode b_Md_findHead 71 = .ok (.imul, 1) := by decide +kernel
theorem d_Md_findHead_72 : decode b_Md_findHead 72 = .ok (.iconst 4, 1) := by decide +kernel
theorem d_Md_findHead_73 : decode b_Md_findHead 73 = .ok (.iadd, 1) := by decide +kernel
theorem d_Md_findHead_74 : decode b_Md_findHead 74 = .ok (.invokestatic 130, 3) := by decide +kernel
theorem d_Md_findHead_77 : decode b_Md_findHead 77 = .ok (.putfield 35, 3) := by decide +kernel
theorem d_Md_findHead_80 : decode b_Md_findHead 80 = .ok (.aload_n 0, 1) := by decide +kernel
theorem d_Md_findHead_81 : decode b_Md_findHead 81 = .ok (.aload_n 0, 1) := by decide +kernel
theorem d_Md_findHead_82 : decode b_Md_findHead 82 = .ok (.getfield 7, 3) := by decide +kernel
theorem d_Md_findHead_85 : decode b_Md_findHead 85 = .ok (.bipush 64, 2) := by decide +kernel
theorem d_Md_findHead_87 : decode b_Md_findHead 87 = .ok (.iload_n 1, 1) := by decide +kernel
theorem d_Md_findHead_88 : decode b_Md_findHead 88 = .ok (.imul, 1) := by decide +kernel
theorem d_Md_findHead_89 : decode b_Md_findHead 89 = .ok (.bipush 8, 2) := by decide +kernel
theorem d_Md_findHead_91 : decode b_Md_findHead 91 = .ok (.iadd, 1) := by decide +kernel
theorem d_Md_findHead_92 : decode b_Md_findHead 92 = .ok (.invokestatic 130, 3) := by decide +kernel
theorem d_Md_findHead_95 : decode b_Md_findHead 95 = .ok (.putfield 16, 3) := by decide +kernel
theorem d_Md_findHead_98 : decode b_Md_findHead 98 = .ok (.iinc 1 1, 3) := by decide +kernel
theorem d_Md_findHead_101 : decode b_Md_findHead 101 = .ok (.goto (-84), 3) := by decide +kernel
theorem d_Md_findHead_104 : decode b_Md_findHead 104 = .ok (.return_, 1) := by decide +kernel
abbrev wd_Md_findHead : List Cond := .code y_Md_findHead b_Md_findHead 2 none :: gw
def f_Md_findHead_L17 (n_t_disk : Nat) (t_disk : Nat → Int32) (n_t_tape : Nat) (t_tape : Nat → Int32) (t_tapeLong : Int32) (t_kept : Int32) (t_next : Int32) (t_come : Int32) (t_crashes : Int32) (t_thrown : Int32) (t_open : Int32) (t_openFirst : Int32) (t_openMany : Int32) (t_openBytes : Int32) (t_nextPage : Int32) (t_turn : Int32) (t_oldest : Int32) (n_t_waitBlock : Nat) (t_waitBlock : Nat → Int32) (n_t_waitByte : Nat) (t_waitByte : Nat → Int32) (n_t_waitOldest : Nat) (t_waitOldest : Nat → Int32) (t_waiting : Int32) : Nat → Int32 → Int32 → Int32 → Int32 → Option (Int32 × Int32 × Int32)
  | 0, _, _, _, _ => none
  | n17 + 1, t_kept', t_turn', t_oldest', x1 =>
    if (2 : Int32) ≤ x1 then
      some (t_kept', t_turn', t_oldest')
    else
      (f_Md_isHead n_t_disk t_disk n_t_tape t_tape t_tapeLong t_kept' t_next t_come t_crashes t_thrown t_open t_openFirst t_openMany t_openBytes t_nextPage t_turn' t_oldest' n_t_waitBlock t_waitBlock n_t_waitByte t_waitByte n_t_waitOldest t_waitOldest t_waiting x1).bind fun o_2 =>
      if o_2 = 0 then
        f_Md_findHead_L17 n_t_disk t_disk n_t_tape t_tape t_tapeLong t_kept t_next t_come t_crashes t_thrown t_open t_openFirst t_openMany t_openBytes t_nextPage t_turn t_oldest n_t_waitBlock t_waitBlock n_t_waitByte t_waitByte n_t_waitOldest t_waitOldest t_waiting n17 t_kept' t_turn' t_oldest' (x1 + (1 : Int32))
      else
        (f_Md_word n_t_disk t_disk ((64 : Int32) * x1)).bind fun o_4 =>
        if o_4 ≤ t_turn' then
          f_Md_findHead_L17 n_t_disk t_disk n_t_tape t_tape t_tapeLong t_kept t_next t_come t_crashes t_thrown t_open t_openFirst t_openMany t_openBytes t_nextPage t_turn t_oldest n_t_waitBlock t_waitBlock n_t_waitByte t_waitByte n_t_waitOldest t_waitOldest t_waiting n17 t_kept' t_turn' t_oldest' (x1 + (1 : Int32))
        else
          (f_Md_word n_t_disk t_disk ((64 : Int32) * x1)).bind fun o_6 =>
          (f_Md_word n_t_disk t_disk (((64 : Int32) * x1) + (4 : Int32))).bind fun o_7 =>
          (f_Md_word n_t_disk t_disk (((64 : Int32) * x1) + (8 : Int32))).bind fun o_8 =>
          f_Md_findHead_L17 n_t_disk t_disk n_t_tape t_tape t_tapeLong t_kept t_next t_come t_crashes t_thrown t_open t_openFirst t_openMany t_openBytes t_nextPage t_turn t_oldest n_t_waitBlock t_waitBlock n_t_waitByte t_waitByte n_t_waitOldest t_waitOldest t_waiting n17 o_8 o_6 o_7 (x1 + (1 : Int32))
def f_Md_findHead (n_t_disk : Nat) (t_disk : Nat → Int32) (n_t_tape : Nat) (t_tape : Nat → Int32) (t_tapeLong : Int32) (t_kept : Int32) (t_next : Int32) (t_come : Int32) (t_crashes : Int32) (t_thrown : Int32) (t_open : Int32) (t_openFirst : Int32) (t_openMany : Int32) (t_openBytes : Int32) (t_nextPage : Int32) (t_turn : Int32) (t_oldest : Int32) (n_t_waitBlock : Nat) (t_waitBlock : Nat → Int32) (n_t_waitByte : Nat) (t_waitByte : Nat → Int32) (n_t_waitOldest : Nat) (t_waitOldest : Nat → Int32) (t_waiting : Int32) : Option (Int32 × Int32 × Int32) :=
  f_Md_findHead_L17 n_t_disk t_disk n_t_tape t_tape t_tapeLong t_kept t_next t_come t_crashes t_thrown t_open t_openFirst t_openMany t_openBytes t_nextPage t_turn t_oldest n_t_waitBlock t_waitBlock n_t_waitByte t_waitByte n_t_waitOldest t_waitOldest t_waiting 5000 (1 : Int32) (0 : Int32) (1 : Int32) (0 : Int32)
set_option maxHeartbeats 4000000 in
set_option maxRecDepth 100000 in
theorem k_Md_findHead_L17 {p : Program} {l : Launch} {e : Env} {s : State} {m : MethodId} {args : Array Value} {below : List Frame} {meth : Method} {c : Code} (hx : p.tables.exec = Jvm.exec) (hb : c.code = b_Md_findHead) (hr : meth.sig.returnType = none) (hml : c.maxLocals = 2) (hown : s.vm.findClass R_Md = some m.cls) (hts : ∀ w ∈ wd_Md_findHead, w.before args s = true) (hlocks : meth.locks = false) {A : Nat → Prop} (hA : ∀ q, s.heap.size ≤ q → A q) (hE : ev A s) {D : va_G} {cA : Nat → ClassId} (hK : va_K D classes (tys cA) s) (a_t a_t_disk a_t_tape a_t_waitBlock a_t_waitByte a_t_waitOldest : Nat) (t_first t_last : Value) (n_t_disk : Nat) (t_disk : Nat → Int32) (n_t_tape : Nat) (t_tape : Nat → Int32) (t_tapeLong : Int32) (t_kept : Int32) (t_next : Int32) (t_come : Int32) (t_crashes : Int32) (t_thrown : Int32) (t_open : Int32) (t_openFirst : Int32) (t_openMany : Int32) (t_openBytes : Int32) (t_nextPage : Int32) (t_turn : Int32) (t_oldest : Int32) (n_t_waitBlock : Nat) (t_waitBlock : Nat → Int32) (n_t_waitByte : Nat) (t_waitByte : Nat → Int32) (n_t_waitOldest : Nat) (t_waitOldest : Nat → Int32) (t_waiting : Int32) (o : Int32 × Int32 × Int32) :
    ∀ (n : Nat) (t_kept' : Int32) (t_turn' : Int32) (t_oldest' : Int32) (x1 : Int32) (H : Heap) (locs : List Loc), f_Md_findHead_L17 n_t_disk t_disk n_t_tape t_tape t_tapeLong t_kept t_next t_come t_crashes t_thrown t_open t_openFirst t_openMany t_openBytes t_nextPage t_turn t_oldest n_t_waitBlock t_waitBlock n_t_waitByte t_waitByte n_t_waitOldest t_waitOldest t_waiting  n t_kept' t_turn' t_oldest' x1 = some o → va_P D classes [(a_t, .inr (8, [.ref a_t_disk, .ref a_t_tape, .int t_tapeLong, t_first, t_last, .int t_kept', .int t_next, .int t_come, .int t_crashes, .int t_thrown, .int t_open, .int t_openFirst, .int t_openMany, .int t_openBytes, .int t_nextPage, .int t_turn', .int t_oldest', .ref a_t_waitBlock, .ref a_t_waitByte, .ref a_t_waitOldest, .int t_waiting])), (a_t_disk, .inl ((cA 0), n_t_disk, .inl t_disk)), (a_t_tape, .inl ((cA 0), n_t_tape, .inl t_tape)), (a_t_waitBlock, .inl ((cA 0), n_t_waitBlock, .inl t_waitBlock)), (a_t_waitByte, .inl ((cA 0), n_t_waitByte, .inl t_waitByte)), (a_t_waitOldest, .inl ((cA 0), n_t_waitOldest, .inl t_waitOldest))] H → va_D A [(a_t, .inr (8, [.ref a_t_disk, .ref a_t_tape, .int t_tapeLong, t_first, t_last, .int t_kept', .int t_next, .int t_come, .int t_crashes, .int t_thrown, .int t_open, .int t_openFirst, .int t_openMany, .int t_openBytes, .int t_nextPage, .int t_turn', .int t_oldest', .ref a_t_waitBlock, .ref a_t_waitByte, .ref a_t_waitOldest, .int t_waiting])), (a_t_disk, .inl ((cA 0), n_t_disk, .inl t_disk)), (a_t_tape, .inl ((cA 0), n_t_tape, .inl t_tape)), (a_t_waitBlock, .inl ((cA 0), n_t_waitBlock, .inl t_waitBlock)), (a_t_waitByte, .inl ((cA 0), n_t_waitByte, .inl t_waitByte)), (a_t_waitOldest, .inl ((cA 0), n_t_waitOldest, .inl t_waitOldest))] → va_S A s.heap H locs → ∀ ls : Array Slot, lv_has ls 2 [(0, .ref a_t), (1, .int x1)] → W p l e ({ frames := 3, cells := 0, slots := 0, locals := 67 }) s m args below meth c H locs 0 0 (MQ below (va_Qv (fun (_ : Unit) => True) (fun _ => aR D cA A [(a_t, .inr (8, [.ref a_t_disk, .ref a_t_tape, .int t_tapeLong, t_first, t_last, .int o.1, .int t_next, .int t_come, .int t_crashes, .int t_thrown, .int t_open, .int t_openFirst, .int t_openMany, .int t_openBytes, .int t_nextPage, .int o.2.1, .int o.2.2, .ref a_t_waitBlock, .ref a_t_waitByte, .ref a_t_waitOldest, .int t_waiting])), (a_t_disk, .inl ((cA 0), n_t_disk, .inl t_disk)), (a_t_tape, .inl ((cA 0), n_t_tape, .inl t_tape)), (a_t_waitBlock, .inl ((cA 0), n_t_waitBlock, .inl t_waitBlock)), (a_t_waitByte, .inl ((cA 0), n_t_waitByte, .inl t_waitByte)), (a_t_waitOldest, .inl ((cA 0), n_t_waitOldest, .inl t_waitOldest))]) A) args s 0 0 A) (F0 m 17 ls []) := by
  intro n
  induction n with
  | zero =>
    intro t_kept' t_turn' t_oldest' x1 H locs hf
    cases hf
  | succ n17 ih =>
    intro t_kept' t_turn' t_oldest' x1 H locs hf hP hD hS ls hl
    rw [f_Md_findHead_L17.eq_2] at hf
    refine lv_iload_n hx hb d_Md_findHead_17 rfl (lv_at hl 1 rfl) ?_
    refine lv_iconst (v := 2) hx hb d_Md_findHead_18 (by decide) ?_
    refine lv_icmp_ge (tgt := 104) hx hb d_Md_findHead_19 (by decide) (fun c_1 => ?_) (fun c_1 => ?_)
    · replace hf := (if_pos c_1).symm.trans hf
      have ho9 := Option.some.inj hf
      subst ho9
      have hP9 := hP.sub (ws' := [(a_t, .inr (8, [.ref a_t_disk, .ref a_t_tape, .int t_tapeLong, t_first, t_last, .int t_kept', .int t_next, .int t_come, .int t_crashes, .int t_thrown, .int t_open, .int t_openFirst, .int t_openMany, .int t_openBytes, .int t_nextPage, .int t_turn', .int t_oldest', .ref a_t_waitBlock, .ref a_t_waitByte, .ref a_t_waitOldest, .int t_waiting])), (a_t_disk, .inl ((cA 0), n_t_disk, .inl t_disk)), (a_t_tape, .inl ((cA 0), n_t_tape, .inl t_tape)), (a_t_waitBlock, .inl ((cA 0), n_t_waitBlock, .inl t_waitBlock)), (a_t_waitByte, .inl ((cA 0), n_t_waitByte, .inl t_waitByte)), (a_t_waitOldest, .inl ((cA 0), n_t_waitOldest, .inl t_waitOldest))]) [0, 1, 2, 3, 4, 5] rfl
      have hD9 := hD.sub (ws' := [(a_t, .inr (8, [.ref a_t_disk, .ref a_t_tape, .int t_tapeLong, t_first, t_last, .int t_kept', .int t_next, .int t_come, .int t_crashes, .int t_thrown, .int t_open, .int t_openFirst, .int t_openMany, .int t_openBytes, .int t_nextPage, .int t_turn', .int t_oldest', .ref a_t_waitBlock, .ref a_t_waitByte, .ref a_t_waitOldest, .int t_waiting])), (a_t_disk, .inl ((cA 0), n_t_disk, .inl t_disk)), (a_t_tape, .inl ((cA 0), n_t_tape, .inl t_tape)), (a_t_waitBlock, .inl ((cA 0), n_t_waitBlock, .inl t_waitBlock)), (a_t_waitByte, .inl ((cA 0), n_t_waitByte, .inl t_waitByte)), (a_t_waitOldest, .inl ((cA 0), n_t_waitOldest, .inl t_waitOldest))]) [0, 1, 2, 3, 4, 5] (by decide) rfl
      exact W.vret hx hb hr (fun t ht hW => ⟨⟨(), rfl, trivial, by rw [ht]; exact hP9, va_K.moved hW.alike hK, hD9⟩, hS.F ht⟩) hS.2.2 d_Md_findHead_104
    · replace hf := (if_neg c_1).symm.trans hf
      refine lv_aload_n hx hb d_Md_findHead_22 rfl (lv_at hl 0 rfl) ?_
      refine lv_iload_n hx hb d_Md_findHead_23 rfl (lv_at hl 1 rfl) ?_
      obtain ⟨o_2, ho_2, hf⟩ := hk_bd hf
      refine q_i (wr := []) (va_runV (As := [.int x1]) (rest := []) ⟨hx, hb, hml, hown, hts⟩ (c_Md_isHead l D cA a_t a_t_disk a_t_tape a_t_waitBlock a_t_waitByte a_t_waitOldest t_first t_last _ n_t_disk t_disk n_t_tape t_tape t_tapeLong t_kept' t_next t_come t_crashes t_thrown t_open t_openFirst t_openMany t_openBytes t_nextPage t_turn' t_oldest' n_t_waitBlock t_waitBlock n_t_waitByte t_waitByte n_t_waitOldest t_waitOldest t_waiting x1 o_2 ho_2) (cwV 1 hts (gd_V gm_328 gm_329 gm_330 gm_310 gm_327) rfl rfl rfl (by decide +kernel) ⟨Nat.le_of_ble_eq_true rfl, Nat.le_of_ble_eq_true rfl⟩) (q_pV hK hP hD hS hA hE [0, 1, 2, 3, 4, 5] (by decide) rfl rfl rfl rfl) rfl rfl hl.1 rfl (lv_room (Nat.le_of_ble_eq_true rfl)) d_Md_findHead_24 ⟨Nat.zero_le _, Nat.zero_le _⟩) hP hD hS hA [0, 1, 2, 3, 4, 5] [] rfl rfl (by decide) (by decide) (fun H locs hP hD hS => ?_)
      have hP : va_P D classes [(a_t, .inr (8, [.ref a_t_disk, .ref a_t_tape, .int t_tapeLong, t_first, t_last, .int t_kept', .int t_next, .int t_come, .int t_crashes, .int t_thrown, .int t_open, .int t_openFirst, .int t_openMany, .int t_openBytes, .int t_nextPage, .int t_turn', .int t_oldest', .ref a_t_waitBlock, .ref a_t_waitByte, .ref a_t_waitOldest, .int t_waiting])), (a_t_disk, .inl ((cA 0), n_t_disk, .inl t_disk)), (a_t_tape, .inl ((cA 0), n_t_tape, .inl t_tape)), (a_t_waitBlock, .inl ((cA 0), n_t_waitBlock, .inl t_waitBlock)), (a_t_waitByte, .inl ((cA 0), n_t_waitByte, .inl t_waitByte)), (a_t_waitOldest, .inl ((cA 0), n_t_waitOldest, .inl t_waitOldest))] H := hP
      have hD : va_D A [(a_t, .inr (8, [.ref a_t_disk, .ref a_t_tape, .int t_tapeLong, t_first, t_last, .int t_kept', .int t_next, .int t_come, .int t_crashes, .int t_thrown, .int t_open, .int t_openFirst, .int t_openMany, .int t_openBytes, .int t_nextPage, .int t_turn', .int t_oldest', .ref a_t_waitBlock, .ref a_t_waitByte, .ref a_t_waitOldest, .int t_waiting])), (a_t_disk, .inl ((cA 0), n_t_disk, .inl t_disk)), (a_t_tape, .inl ((cA 0), n_t_tape, .inl t_tape)), (a_t_waitBlock, .inl ((cA 0), n_t_waitBlock, .inl t_waitBlock)), (a_t_waitByte, .inl ((cA 0), n_t_waitByte, .inl t_waitByte)), (a_t_waitOldest, .inl ((cA 0), n_t_waitOldest, .inl t_waitOldest))] := hD
      refine lv_if_eq (tgt := 98) hx hb d_Md_findHead_27 (by decide) (fun c_3 => ?_) (fun c_3 => ?_)
      · replace hf := (if_pos c_3).symm.trans hf
        refine lv_iinc (v := (x1 + (1 : Int32))) (lv' := [(1, .int (x1 + (1 : Int32))), (0, .ref a_t)]) hx hb d_Md_findHead_98 hl (k := 1) rfl rfl (by decide) rfl (fun ls hl => ?_)
        refine lv_goto (tgt := 17) hx hb d_Md_findHead_101 (by decide) ?_
        exact ih t_kept' t_turn' t_oldest' (x1 + (1 : Int32)) _ _ hf (hP.sub [0, 1, 2, 3, 4, 5] rfl) (hD.sub [0, 1, 2, 3, 4, 5] (by decide) rfl) hS ls (lv_sub hl [1, 0] rfl)
      · replace hf := (if_neg c_3).symm.trans hf
        refine lv_aload_n hx hb d_Md_findHead_30 rfl (lv_at hl 0 rfl) ?_
        refine va_get (D := D) (ci := 8) (v := .ref a_t_disk) (C := R_Md) (T := F_Md) (N := 21) hx hb hts (fun w9 h9 => .tail _ (gu_Md w9 h9)) hown hK hP 0 rfl rfl 0 (by decide) (hts _ (.tail _ gm_305)) (fun _ h9 => h9) rfl d_Md_findHead_31 ?_
        refine lv_bipush (v := 64) hx hb d_Md_findHead_34 (by decide) ?_
        refine lv_iload_n hx hb d_Md_findHead_36 rfl (lv_at hl 1 rfl) ?_
        refine lv_imul hx hb d_Md_findHead_37 ?_
        obtain ⟨o_4, ho_4, hf⟩ := hk_bd hf
        refine q_i (wr := [(a_t, .inr (8, [.ref a_t_disk, .ref a_t_tape, .int t_tapeLong, t_first, t_last, .int t_kept', .int t_next, .int t_come, .int t_crashes, .int t_thrown, .int t_open, .int t_openFirst, .int t_openMany, .int t_openBytes, .int t_nextPage, .int t_turn', .int t_oldest', .ref a_t_waitBlock, .ref a_t_waitByte, .ref a_t_waitOldest, .int t_waiting])), (a_t_tape, .inl ((cA 0), n_t_tape, .inl t_tape)), (a_t_waitBlock, .inl ((cA 0), n_t_waitBlock, .inl t_waitBlock)), (a_t_waitByte, .inl ((cA 0), n_t_waitByte, .inl t_waitByte)), (a_t_waitOldest, .inl ((cA 0), n_t_waitOldest, .inl t_waitOldest))]) (va_runS (As := [.ref a_t_disk, .int ((64 : Int32) * x1)]) (rest := []) ⟨hx, hb, hml, hown, hts⟩ (c_Md_word l D cA a_t_disk _ n_t_disk t_disk ((64 : Int32) * x1) o_4 ho_4) (va_cwS 2 hts (gd_S gm_312 gm_313 gm_310 gm_311) rfl rfl rfl (by decide +kernel) ⟨Nat.le_of_ble_eq_true rfl, Nat.le_of_ble_eq_true rfl⟩) (q_pS hK hP hD hS hA hE [1] (by decide) rfl) rfl rfl hl.1 rfl (lv_room (Nat.le_of_ble_eq_true rfl)) d_Md_findHead_38 ⟨Nat.zero_le _, Nat.zero_le _⟩) hP hD hS hA [1] [0, 2, 3, 4, 5] rfl rfl (by decide) (by decide) (fun H locs hP hD hS => ?_)
        have hP : va_P D classes [(a_t, .inr (8, [.ref a_t_disk, .ref a_t_tape, .int t_tapeLong, t_first, t_last, .int t_kept', .int t_next, .int t_come, .int t_crashes, .int t_thrown, .int t_open, .int t_openFirst, .int t_openMany, .int t_openBytes, .int t_nextPage, .int t_turn', .int t_oldest', .ref a_t_waitBlock, .ref a_t_waitByte, .ref a_t_waitOldest, .int t_waiting])), (a_t_tape, .inl ((cA 0), n_t_tape, .inl t_tape)), (a_t_waitBlock, .inl ((cA 0), n_t_waitBlock, .inl t_waitBlock)), (a_t_waitByte, .inl ((cA 0), n_t_waitByte, .inl t_waitByte)), (a_t_waitOldest, .inl ((cA 0), n_t_waitOldest, .inl t_waitOldest)), (a_t_disk, .inl ((cA 0), n_t_disk, .inl t_disk))] H := hP
        have hD : va_D A [(a_t, .inr (8, [.ref a_t_disk, .ref a_t_tape, .int t_tapeLong, t_first, t_last, .int t_kept', .int t_next, .int t_come, .int t_crashes, .int t_thrown, .int t_open, .int t_openFirst, .int t_openMany, .int t_openBytes, .int t_nextPage, .int t_turn', .int t_oldest', .ref a_t_waitBlock, .ref a_t_waitByte, .ref a_t_waitOldest, .int t_waiting])), (a_t_tape, .inl ((cA 0), n_t_tape, .inl t_tape)), (a_t_waitBlock, .inl ((cA 0), n_t_waitBlock, .inl t_waitBlock)), (a_t_waitByte, .inl ((cA 0), n_t_waitByte, .inl t_waitByte)), (a_t_waitOldest, .inl ((cA 0), n_t_waitOldest, .inl t_waitOldest)), (a_t_disk, .inl ((cA 0), n_t_disk, .inl t_disk))] := hD
        refine lv_aload_n hx hb d_Md_findHead_41 rfl (lv_at hl 0 rfl) ?_
        refine va_get (D := D) (ci := 8) (v := .int t_turn') (C := R_Md) (T := F_Md) (N := 21) hx hb hts (fun w9 h9 => .tail _ (gu_Md w9 h9)) hown hK hP 0 rfl rfl 15 (by decide) (hts _ (.tail _ gm_325)) (fun _ h9 => h9) rfl d_Md_findHead_42 ?_
        refine lv_icmp_le (tgt := 98) hx hb d_Md_findHead_45 (by decide) (fun c_5 => ?_) (fun c_5 => ?_)
        · replace hf := (if_pos c_5).symm.trans hf
          refine lv_iinc (v := (x1 + (1 : Int32))) (lv' := [(1, .int (x1 + (1 : Int32))), (0, .ref a_t)]) hx hb d_Md_findHead_98 hl (k := 1) rfl rfl (by decide) rfl (fun ls hl => ?_)
          refine lv_goto (tgt := 17) hx hb d_Md_findHead_101 (by decide) ?_
          exact ih t_kept' t_turn' t_oldest' (x1 + (1 : Int32)) _ _ hf (hP.sub [0, 5, 1, 2, 3, 4] rfl) (hD.sub [0, 5, 1, 2, 3, 4] (by decide) rfl) hS ls (lv_sub hl [1, 0] rfl)
        · replace hf := (if_neg c_5).symm.trans hf
          refine lv_aload_n hx hb d_Md_findHead_48 rfl (lv_at hl 0 rfl) ?_
          refine lv_aload_n hx hb d_Md_findHead_49 rfl (lv_at hl 0 rfl) ?_
          refine va_get (D := D) (ci := 8) (v := .ref a_t_disk) (C := R_Md) (T := F_Md) (N := 21) hx hb hts (fun w9 h9 => .tail _ (gu_Md w9 h9)) hown hK hP 0 rfl rfl 0 (by decide) (hts _ (.tail _ gm_305)) (fun _ h9 => h9) rfl d_Md_findHead_50 ?_
          refine lv_bipush (v := 64) hx hb d_Md_findHead_53 (by decide) ?_
          refine lv_iload_n hx hb d_Md_findHead_55 rfl (lv_at hl 1 rfl) ?_
          refine lv_imul hx hb d_Md_findHead_56 ?_
          obtain ⟨o_6, ho_6, hf⟩ := hk_bd hf
          refine q_i (wr := [(a_t, .inr (8, [.ref a_t_disk, .ref a_t_tape, .int t_tapeLong, t_first, t_last, .int t_kept', .int t_next, .int t_come, .int t_crashes, .int t_thrown, .int t_open, .int t_openFirst, .int t_openMany, .int t_openBytes, .int t_nextPage, .int t_turn', .int t_oldest', .ref a_t_waitBlock, .ref a_t_waitByte, .ref a_t_waitOldest, .int t_waiting])), (a_t_tape, .inl ((cA 0), n_t_tape, .inl t_tape)), (a_t_waitBlock, .inl ((cA 0), n_t_waitBlock, .inl t_waitBlock)), (a_t_waitByte, .inl ((cA 0), n_t_waitByte, .inl t_waitByte)), (a_t_waitOldest, .inl ((cA 0), n_t_waitOldest, .inl t_waitOldest))]) (va_runS (As := [.ref a_t_disk, .int ((64 : Int32) * x1)]) (rest := [.ref a_t]) ⟨hx, hb, hml, hown, hts⟩ (c_Md_word l D cA a_t_disk _ n_t_disk t_disk ((64 : Int32) * x1) o_6 ho_6) (va_cwS 2 hts (gd_S gm_312 gm_313 gm_310 gm_311) rfl rfl rfl (by decide +kernel) ⟨Nat.le_of_ble_eq_true rfl, Nat.le_of_ble_eq_true rfl⟩) (q_pS hK hP hD hS hA hE [5] (by decide) rfl) rfl rfl hl.1 rfl (lv_room (Nat.le_of_ble_eq_true rfl)) d_Md_findHead_57 ⟨Nat.zero_le _, Nat.zero_le _⟩) hP hD hS hA [5] [0, 1, 2, 3, 4] rfl rfl (by decide) (by decide) (fun H locs hP hD hS => ?_)
          have hP : va_P D classes [(a_t, .inr (8, [.ref a_t_disk, .ref a_t_tape, .int t_tapeLong, t_first, t_last, .int t_kept', .int t_next, .int t_come, .int t_crashes, .int t_thrown, .int t_open, .int t_openFirst, .int t_openMany, .int t_openBytes, .int t_nextPage, .int t_turn', .int t_oldest', .ref a_t_waitBlock, .ref a_t_waitByte, .ref a_t_waitOldest, .int t_waiting])), (a_t_tape, .inl ((cA 0), n_t_tape, .inl t_tape)), (a_t_waitBlock, .inl ((cA 0), n_t_waitBlock, .inl t_waitBlock)), (a_t_waitByte, .inl ((cA 0), n_t_waitByte, .inl t_waitByte)), (a_t_waitOldest, .inl ((cA 0), n_t_waitOldest, .inl t_waitOldest)), (a_t_disk, .inl ((cA 0), n_t_disk, .inl t_disk))] H := hP
          have hD : va_D A [(a_t, .inr (8, [.ref a_t_disk, .ref a_t_tape, .int t_tapeLong, t_first, t_last, .int t_kept', .int t_next, .int t_come, .int t_crashes, .int t_thrown, .int t_open, .int t_openFirst, .int t_openMany, .int t_openBytes, .int t_nextPage, .int t_turn', .int t_oldest', .ref a_t_waitBlock, .ref a_t_waitByte, .ref a_t_waitOldest, .int t_waiting])), (a_t_tape, .inl ((cA 0), n_t_tape, .inl t_tape)), (a_t_waitBlock, .inl ((cA 0), n_t_waitBlock, .inl t_waitBlock)), (a_t_waitByte, .inl ((cA 0), n_t_waitByte, .inl t_waitByte)), (a_t_waitOldest, .inl ((cA 0), n_t_waitOldest, .inl t_waitOldest)), (a_t_disk, .inl ((cA 0), n_t_disk, .inl t_disk))] := hD
          refine va_put (D := D) (ci := 8) (v := .int o_6) (ty := .int) (C := R_Md) (T := F_Md) (N := 21) hx hb hts (fun w9 h9 => .tail _ (gu_Md w9 h9)) t_Md t_Md_ok n_Md hown hK hP hD hS 0 rfl rfl 15 (by decide) (hts _ (.tail _ gm_325)) (fun _ h9 => h9) rfl (by decide +kernel) rfl rfl (Nat.le_of_ble_eq_true rfl) d_Md_findHead_60 (fun H locs hP hD hS => ?_)
          have hP : va_P D classes [(a_t, .inr (8, [.ref a_t_disk, .ref a_t_tape, .int t_tapeLong, t_first, t_last, .int t_kept', .int t_next, .int t_come, .int t_crashes, .int t_thrown, .int t_open, .int t_openFirst, .int t_openMany, .int t_openBytes, .int t_nextPage, .int o_6, .int t_oldest', .ref a_t_waitBlock, .ref a_t_waitByte, .ref a_t_waitOldest, .int t_waiting])), (a_t_tape, .inl ((cA 0), n_t_tape, .inl t_tape)), (a_t_waitBlock, .inl ((cA 0), n_t_waitBlock, .inl t_waitBlock)), (a_t_waitByte, .inl ((cA 0), n_t_waitByte, .inl t_waitByte)), (a_t_waitOldest, .inl ((cA 0), n_t_waitOldest, .inl t_waitOldest)), (a_t_disk, .inl ((cA 0), n_t_disk, .inl t_disk))] H := hP
          have hD : va_D A [(a_t, .inr (8, [.ref a_t_disk, .ref a_t_tape, .int t_tapeLong, t_first, t_last, .int t_kept', .int t_next, .int t_come, .int t_crashes, .int t_thrown, .int t_open, .int t_openFirst, .int t_openMany, .int t_openBytes, .int t_nextPage, .int o_6, .int t_oldest', .ref a_t_waitBlock, .ref a_t_waitByte, .ref a_t_waitOldest, .int t_waiting])), (a_t_tape, .inl ((cA 0), n_t_tape, .inl t_tape)), (a_t_waitBlock, .inl ((cA 0), n_t_waitBlock, .inl t_waitBlock)), (a_t_waitByte, .inl ((cA 0), n_t_waitByte, .inl t_waitByte)), (a_t_waitOldest, .inl ((cA 0), n_t_waitOldest, .inl t_waitOldest)), (a_t_disk, .inl ((cA 0), n_t_disk, .inl t_disk))] := hD
          refine lv_aload_n hx hb d_Md_findHead_63 rfl (lv_at hl 0 rfl) ?_
          refine lv_aload_n hx hb d_Md_findHead_64 rfl (lv_at hl 0 rfl) ?_
          refine va_get (D := D) (ci := 8) (v := .ref a_t_disk) (C := R_Md) (T := F_Md) (N := 21) hx hb hts (fun w9 h9 => .tail _ (gu_Md w9 h9)) hown hK hP 0 rfl rfl 0 (by decide) (hts _ (.tail _ gm_305)) (fun _ h9 => h9) rfl d_Md_findHead_65 ?_
          refine lv_bipush (v := 64) hx hb d_Md_findHead_68 (by decide) ?_
          refine lv_iload_n hx hb d_Md_findHead_70 rfl (lv_at hl 1 rfl) ?_
          refine lv_imul hx hb d_Md_findHead_71 ?_
          refine lv_iconst (v := 4) hx hb d_Md_findHead_72 (by decide) ?_
          refine lv_iadd hx hb d_Md_findHead_73 ?_
          obtain ⟨o_7, ho_7, hf⟩ := hk_bd hf
          refine q_i (wr := [(a_t, .inr (8, [.ref a_t_disk, .ref a_t_tape, .int t_tapeLong, t_first, t_last, .int t_kept', .int t_next, .int t_come, .int t_crashes, .int t_thrown, .int t_open, .int t_openFirst, .int t_openMany, .int t_openBytes, .int t_nextPage, .int o_6, .int t_oldest', .ref a_t_waitBlock, .ref a_t_waitByte, .ref a_t_waitOldest, .int t_waiting])), (a_t_tape, .inl ((cA 0), n_t_tape, .inl t_tape)), (a_t_waitBlock, .inl ((cA 0), n_t_waitBlock, .inl t_waitBlock)), (a_t_waitByte, .inl ((cA 0), n_t_waitByte, .inl t_waitByte)), (a_t_waitOldest, .inl ((cA 0), n_t_waitOldest, .inl t_waitOldest))]) (va_runS (As := [.ref a_t_disk, .int (((64 : Int32) * x1) + (4 : Int32))]) (rest := [.ref a_t]) ⟨hx, hb, hml, hown, hts⟩ (c_Md_word l D cA a_t_disk _ n_t_disk t_disk (((64 : Int32) * x1) + (4 : Int32)) o_7 ho_7) (va_cwS 2 hts (gd_S gm_312 gm_313 gm_310 gm_311) rfl rfl rfl (by decide +kernel) ⟨Nat.le_of_ble_eq_true rfl, Nat.le_of_ble_eq_true rfl⟩) (q_pS hK hP hD hS hA hE [5] (by decide) rfl) rfl rfl hl.1 rfl (lv_room (Nat.le_of_ble_eq_true rfl)) d_Md_findHead_74 ⟨Nat.zero_le _, Nat.zero_le _⟩) hP hD hS hA [5] [0, 1, 2, 3, 4] rfl rfl (by decide) (by decide) (fun H locs hP hD hS => ?_)
          have hP : va_P D classes [(a_t, .inr (8, [.ref a_t_disk, .ref a_t_tape, .int t_tapeLong, t_first, t_last, .int t_kept', .int t_next, .int t_come, .int t_crashes, .int t_thrown, .int t_open, .int t_openFirst, .int t_openMany, .int t_openBytes, .int t_nextPage, .int o_6, .int t_oldest', .ref a_t_waitBlock, .ref a_t_waitByte, .ref a_t_waitOldest, .int t_waiting])), (a_t_tape, .inl ((cA 0), n_t_tape, .inl t_tape)), (a_t_waitBlock, .inl ((cA 0), n_t_waitBlock, .inl t_waitBlock)), (a_t_waitByte, .inl ((cA 0), n_t_waitByte, .inl t_waitByte)), (a_t_waitOldest, .inl ((cA 0), n_t_waitOldest, .inl t_waitOldest)), (a_t_disk, .inl ((cA 0), n_t_disk, .inl t_disk))] H := hP
          have hD : va_D A [(a_t, .inr (8, [.ref a_t_disk, .ref a_t_tape, .int t_tapeLong, t_first, t_last, .int t_kept', .int t_next, .int t_come, .int t_crashes, .int t_thrown, .int t_open, .int t_openFirst, .int t_openMany, .int t_openBytes, .int t_nextPage, .int o_6, .int t_oldest', .ref a_t_waitBlock, .ref a_t_waitByte, .ref a_t_waitOldest, .int t_waiting])), (a_t_tape, .inl ((cA 0), n_t_tape, .inl t_tape)), (a_t_waitBlock, .inl ((cA 0), n_t_waitBlock, .inl t_waitBlock)), (a_t_waitByte, .inl ((cA 0), n_t_waitByte, .inl t_waitByte)), (a_t_waitOldest, .inl ((cA 0), n_t_waitOldest, .inl t_waitOldest)), (a_t_disk, .inl ((cA 0), n_t_disk, .inl t_disk))] := hD
          refine va_put (D := D) (ci := 8) (v := .int o_7) (ty := .int) (C := R_Md) (T := F_Md) (N := 21) hx hb hts (fun w9 h9 => .tail _ (gu_Md w9 h9)) t_Md t_Md_ok n_Md hown hK hP hD hS 0 rfl rfl 16 (by decide) (hts _ (.tail _ gm_304)) (fun _ h9 => h9) rfl (by decide +kernel) rfl rfl (Nat.le_of_ble_eq_true rfl) d_Md_findHead_77 (fun H locs hP hD hS => ?_)
          have hP : va_P D classes [(a_t, .inr (8, [.ref a_t_disk, .ref a_t_tape, .int t_tapeLong, t_first, t_last, .int t_kept', .int t_next, .int t_come, .int t_crashes, .int t_thrown, .int t_open, .int t_openFirst, .int t_openMany, .int t_openBytes, .int t_nextPage, .int o_6, .int o_7, .ref a_t_waitBlock, .ref a_t_waitByte, .ref a_t_waitOldest, .int t_waiting])), (a_t_tape, .inl ((cA 0), n_t_tape, .inl t_tape)), (a_t_waitBlock, .inl ((cA 0), n_t_waitBlock, .inl t_waitBlock)), (a_t_waitByte, .inl ((cA 0), n_t_waitByte, .inl t_waitByte)), (a_t_waitOldest, .inl ((cA 0), n_t_waitOldest, .inl t_waitOldest)), (a_t_disk, .inl ((cA 0), n_t_disk, .inl t_disk))] H := hP
          have hD : va_D A [(a_t, .inr (8, [.ref a_t_disk, .ref a_t_tape, .int t_tapeLong, t_first, t_last, .int t_kept', .int t_next, .int t_come, .int t_crashes, .int t_thrown, .int t_open, .int t_openFirst, .int t_openMany, .int t_openBytes, .int t_nextPage, .int o_6, .int o_7, .ref a_t_waitBlock, .ref a_t_waitByte, .ref a_t_waitOldest, .int t_waiting])), (a_t_tape, .inl ((cA 0), n_t_tape, .inl t_tape)), (a_t_waitBlock, .inl ((cA 0), n_t_waitBlock, .inl t_waitBlock)), (a_t_waitByte, .inl ((cA 0), n_t_waitByte, .inl t_waitByte)), (a_t_waitOldest, .inl ((cA 0), n_t_waitOldest, .inl t_waitOldest)), (a_t_disk, .inl ((cA 0), n_t_disk, .inl t_disk))] := hD
          refine lv_aload_n hx hb d_Md_findHead_80 rfl (lv_at hl 0 rfl) ?_
          refine lv_aload_n hx hb d_Md_findHead_81 rfl (lv_at hl 0 rfl) ?_
          refine va_get (D := D) (ci := 8) (v := .ref a_t_disk) (C := R_Md) (T := F_Md) (N := 21) hx hb hts (fun w9 h9 => .tail _ (gu_Md w9 h9)) hown hK hP 0 rfl rfl 0 (by decide) (hts _ (.tail _ gm_305)) (fun _ h9 => h9) rfl d_Md_findHead_82 ?_
          refine lv_bipush (v := 64) hx hb d_Md_findHead_85 (by decide) ?_
          refine lv_iload_n hx hb d_Md_findHead_87 rfl (lv_at hl 1 rfl) ?_
          refine lv_imul hx hb d_Md_findHead_88 ?_
          refine lv_bipush (v := 8) hx hb d_Md_findHead_89 (by decide) ?_
          refine lv_iadd hx hb d_Md_findHead_91 ?_
          obtain ⟨o_8, ho_8, hf⟩ := hk_bd hf
          refine q_i (wr := [(a_t, .inr (8, [.ref a_t_disk, .ref a_t_tape, .int t_tapeLong, t_first, t_last, .int t_kept', .int t_next, .int t_come, .int t_crashes, .int t_thrown, .int t_open, .int t_openFirst, .int t_openMany, .int t_openBytes, .int t_nextPage, .int o_6, .int o_7, .ref a_t_waitBlock, .ref a_t_waitByte, .ref a_t_waitOldest, .int t_waiting])), (a_t_tape, .inl ((cA 0), n_t_tape, .inl t_tape)), (a_t_waitBlock, .inl ((cA 0), n_t_waitBlock, .inl t_waitBlock)), (a_t_waitByte, .inl ((cA 0), n_t_waitByte, .inl t_waitByte)), (a_t_waitOldest, .inl ((cA 0), n_t_waitOldest, .inl t_waitOldest))]) (va_runS (As := [.ref a_t_disk, .int (((64 : Int32) * x1) + (8 : Int32))]) (rest := [.ref a_t]) ⟨hx, hb, hml, hown, hts⟩ (c_Md_word l D cA a_t_disk _ n_t_disk t_disk (((64 : Int32) * x1) + (8 : Int32)) o_8 ho_8) (va_cwS 2 hts (gd_S gm_312 gm_313 gm_310 gm_311) rfl rfl rfl (by decide +kernel) ⟨Nat.le_of_ble_eq_true rfl, Nat.le_of_ble_eq_true rfl⟩) (q_pS hK hP hD hS hA hE [5] (by decide) rfl) rfl rfl hl.1 rfl (lv_room (Nat.le_of_ble_eq_true rfl)) d_Md_findHead_92 ⟨Nat.zero_le _, Nat.zero_le _⟩) hP hD hS hA [5] [0, 1, 2, 3, 4] rfl rfl (by decide) (by decide) (fun H locs hP hD hS => ?_)
          have hP : va_P D classes [(a_t, .inr (8, [.ref a_t_disk, .ref a_t_tape, .int t_tapeLong, t_first, t_last, .int t_kept', .int t_next, .int t_come, .int t_crashes, .int t_thrown, .int t_open, .int t_openFirst, .int t_openMany, .int t_openBytes, .int t_nextPage, .int o_6, .int o_7, .ref a_t_waitBlock, .ref a_t_waitByte, .ref a_t_waitOldest, .int t_waiting])), (a_t_tape, .inl ((cA 0), n_t_tape, .inl t_tape)), (a_t_waitBlock, .inl ((cA 0), n_t_waitBlock, .inl t_waitBlock)), (a_t_waitByte, .inl ((cA 0), n_t_waitByte, .inl t_waitByte)), (a_t_waitOldest, .inl ((cA 0), n_t_waitOldest, .inl t_waitOldest)), (a_t_disk, .inl ((cA 0), n_t_disk, .inl t_disk))] H := hP
          have hD : va_D A [(a_t, .inr (8, [.ref a_t_disk, .ref a_t_tape, .int t_tapeLong, t_first, t_last, .int t_kept', .int t_next, .int t_come, .int t_crashes, .int t_thrown, .int t_open, .int t_openFirst, .int t_openMany, .int t_openBytes, .int t_nextPage, .int o_6, .int o_7, .ref a_t_waitBlock, .ref a_t_waitByte, .ref a_t_waitOldest, .int t_waiting])), (a_t_tape, .inl ((cA 0), n_t_tape, .inl t_tape)), (a_t_waitBlock, .inl ((cA 0), n_t_waitBlock, .inl t_waitBlock)), (a_t_waitByte, .inl ((cA 0), n_t_waitByte, .inl t_waitByte)), (a_t_waitOldest, .inl ((cA 0), n_t_waitOldest, .inl t_waitOldest)), (a_t_disk, .inl ((cA 0), n_t_disk, .inl t_disk))] := hD
          refine va_put (D := D) (ci := 8) (v := .int o_8) (ty := .int) (C := R_Md) (T := F_Md) (N := 21) hx hb hts (fun w9 h9 => .tail _ (gu_Md w9 h9)) t_Md t_Md_ok n_Md hown hK hP hD hS 0 rfl rfl 5 (by decide) (hts _ (.tail _ gm_326)) (fun _ h9 => h9) rfl (by decide +kernel) rfl rfl (Nat.le_of_ble_eq_true rfl) d_Md_findHead_95 (fun H locs hP hD hS => ?_)
          have hP : va_P D classes [(a_t, .inr (8, [.ref a_t_disk, .ref a_t_tape, .int t_tapeLong, t_first, t_last, .int o_8, .int t_next, .int t_come, .int t_crashes, .int t_thrown, .int t_open, .int t_openFirst, .int t_openMany, .int t_openBytes, .int t_nextPage, .int o_6, .int o_7, .ref a_t_waitBlock, .ref a_t_waitByte, .ref a_t_waitOldest, .int t_waiting])), (a_t_tape, .inl ((cA 0), n_t_tape, .inl t_tape)), (a_t_waitBlock, .inl ((cA 0), n_t_waitBlock, .inl t_waitBlock)), (a_t_waitByte, .inl ((cA 0), n_t_waitByte, .inl t_waitByte)), (a_t_waitOldest, .inl ((cA 0), n_t_waitOldest, .inl t_waitOldest)), (a_t_disk, .inl ((cA 0), n_t_disk, .inl t_disk))] H := hP
          have hD : va_D A [(a_t, .inr (8, [.ref a_t_disk, .ref a_t_tape, .int t_tapeLong, t_first, t_last, .int o_8, .int t_next, .int t_come, .int t_crashes, .int t_thrown, .int t_open, .int t_openFirst, .int t_openMany, .int t_openBytes, .int t_nextPage, .int o_6, .int o_7, .ref a_t_waitBlock, .ref a_t_waitByte, .ref a_t_waitOldest, .int t_waiting])), (a_t_tape, .inl ((cA 0), n_t_tape, .inl t_tape)), (a_t_waitBlock, .inl ((cA 0), n_t_waitBlock, .inl t_waitBlock)), (a_t_waitByte, .inl ((cA 0), n_t_waitByte, .inl t_waitByte)), (a_t_waitOldest, .inl ((cA 0), n_t_waitOldest, .inl t_waitOldest)), (a_t_disk, .inl ((cA 0), n_t_disk, .inl t_disk))] := hD
          refine lv_iinc (v := (x1 + (1 : Int32))) (lv' := [(1, .int (x1 + (1 : Int32))), (0, .ref a_t)]) hx hb d_Md_findHead_98 hl (k := 1) rfl rfl (by decide) rfl (fun ls hl => ?_)
          refine lv_goto (tgt := 17) hx hb d_Md_findHead_101 (by decide) ?_
          exact ih o_8 o_6 o_7 (x1 + (1 : Int32)) _ _ hf (hP.sub [0, 5, 1, 2, 3, 4] rfl) (hD.sub [0, 5, 1, 2, 3, 4] (by decide) rfl) hS ls (lv_sub hl [1, 0] rfl)
set_option maxHeartbeats 4000000 in
set_option maxRecDepth 100000 in
theorem c_Md_findHead (l : Launch) (D : va_G) (cA : Nat → ClassId) (a_t a_t_disk a_t_tape a_t_waitBlock a_t_waitByte a_t_waitOldest : Nat) (t_first t_last : Value) (sz : Nat) (n_t_disk : Nat) (t_disk : Nat → Int32) (n_t_tape : Nat) (t_tape : Nat → Int32) (t_tapeLong : Int32) (t_kept : Int32) (t_next : Int32) (t_come : Int32) (t_crashes : Int32) (t_thrown : Int32) (t_open : Int32) (t_openFirst : Int32) (t_openMany : Int32) (t_openBytes : Int32) (t_nextPage : Int32) (t_turn : Int32) (t_oldest : Int32) (n_t_waitBlock : Nat) (t_waitBlock : Nat → Int32) (n_t_waitByte : Nat) (t_waitByte : Nat → Int32) (n_t_waitOldest : Nat) (t_waitOldest : Nat → Int32) (t_waiting : Int32) (o : Int32 × Int32 × Int32) (hf : f_Md_findHead n_t_disk t_disk n_t_tape t_tape t_tapeLong t_kept t_next t_come t_crashes t_thrown t_open t_openFirst t_openMany t_openBytes t_nextPage t_turn t_oldest n_t_waitBlock t_waitBlock n_t_waitByte t_waitByte n_t_waitOldest t_waitOldest t_waiting = some o) : Met l y_Md_findHead wd_Md_findHead ({ frames := 3, cells := 0, slots := 0, locals := 67 }) (va_Pc [.ref a_t] (aP D cA [(a_t, .inr (8, [.ref a_t_disk, .ref a_t_tape, .int t_tapeLong, t_first, t_last, .int t_kept, .int t_next, .int t_come, .int t_crashes, .int t_thrown, .int t_open, .int t_openFirst, .int t_openMany, .int t_openBytes, .int t_nextPage, .int t_turn, .int t_oldest, .ref a_t_waitBlock, .ref a_t_waitByte, .ref a_t_waitOldest, .int t_waiting])), (a_t_disk, .inl ((cA 0), n_t_disk, .inl t_disk)), (a_t_tape, .inl ((cA 0), n_t_tape, .inl t_tape)), (a_t_waitBlock, .inl ((cA 0), n_t_waitBlock, .inl t_waitBlock)), (a_t_waitByte, .inl ((cA 0), n_t_waitByte, .inl t_waitByte)), (a_t_waitOldest, .inl ((cA 0), n_t_waitOldest, .inl t_waitOldest))] sz)) (va_Qv (fun (_ : Unit) => True) (fun _ => aR D cA (va_A [(a_t, .inr (8, [.ref a_t_disk, .ref a_t_tape, .int t_tapeLong, t_first, t_last, .int t_kept, .int t_next, .int t_come, .int t_crashes, .int t_thrown, .int t_open, .int t_openFirst, .int t_openMany, .int t_openBytes, .int t_nextPage, .int t_turn, .int t_oldest, .ref a_t_waitBlock, .ref a_t_waitByte, .ref a_t_waitOldest, .int t_waiting])), (a_t_disk, .inl ((cA 0), n_t_disk, .inl t_disk)), (a_t_tape, .inl ((cA 0), n_t_tape, .inl t_tape)), (a_t_waitBlock, .inl ((cA 0), n_t_waitBlock, .inl t_waitBlock)), (a_t_waitByte, .inl ((cA 0), n_t_waitByte, .inl t_waitByte)), (a_t_waitOldest, .inl ((cA 0), n_t_waitOldest, .inl t_waitOldest))] sz) [(a_t, .inr (8, [.ref a_t_disk, .ref a_t_tape, .int t_tapeLong, t_first, t_last, .int o.1, .int t_next, .int t_come, .int t_crashes, .int t_thrown, .int t_open, .int t_openFirst, .int t_openMany, .int t_openBytes, .int t_nextPage, .int o.2.1, .int o.2.2, .ref a_t_waitBlock, .ref a_t_waitByte, .ref a_t_waitOldest, .int t_waiting])), (a_t_disk, .inl ((cA 0), n_t_disk, .inl t_disk)), (a_t_tape, .inl ((cA 0), n_t_tape, .inl t_tape)), (a_t_waitBlock, .inl ((cA 0), n_t_waitBlock, .inl t_waitBlock)), (a_t_waitByte, .inl ((cA 0), n_t_waitByte, .inl t_waitByte)), (a_t_waitOldest, .inl ((cA 0), n_t_waitOldest, .inl t_waitOldest))]) (va_A [(a_t, .inr (8, [.ref a_t_disk, .ref a_t_tape, .int t_tapeLong, t_first, t_last, .int t_kept, .int t_next, .int t_come, .int t_crashes, .int t_thrown, .int t_open, .int t_openFirst, .int t_openMany, .int t_openBytes, .int t_nextPage, .int t_turn, .int t_oldest, .ref a_t_waitBlock, .ref a_t_waitByte, .ref a_t_waitOldest, .int t_waiting])), (a_t_disk, .inl ((cA 0), n_t_disk, .inl t_disk)), (a_t_tape, .inl ((cA 0), n_t_tape, .inl t_tape)), (a_t_waitBlock, .inl ((cA 0), n_t_waitBlock, .inl t_waitBlock)), (a_t_waitByte, .inl ((cA 0), n_t_waitByte, .inl t_waitByte)), (a_t_waitOldest, .inl ((cA 0), n_t_waitOldest, .inl t_waitOldest))] sz)) 0 0 (va_A [(a_t, .inr (8, [.ref a_t_disk, .ref a_t_tape, .int t_tapeLong, t_first, t_last, .int t_kept, .int t_next, .int t_come, .int t_crashes, .int t_thrown, .int t_open, .int t_openFirst, .int t_openMany, .int t_openBytes, .int t_nextPage, .int t_turn, .int t_oldest, .ref a_t_waitBlock, .ref a_t_waitByte, .ref a_t_waitOldest, .int t_waiting])), (a_t_disk, .inl ((cA 0), n_t_disk, .inl t_disk)), (a_t_tape, .inl ((cA 0), n_t_tape, .inl t_tape)), (a_t_waitBlock, .inl ((cA 0), n_t_waitBlock, .inl t_waitBlock)), (a_t_waitByte, .inl ((cA 0), n_t_waitByte, .inl t_waitByte)), (a_t_waitOldest, .inl ((cA 0), n_t_waitOldest, .inl t_waitOldest))] sz) := by
  refine Met.ofW (cc := b_Md_findHead) (maxL := 2) (ret := none) (by decide +kernel) rfl ?_
  intro p e s m args below meth c s₁ B hml hv
  obtain ⟨rfl, hsz, hP, hK, hD0, hE⟩ := hv
  have hx := B.exec
  have hb := B.bytes
  have hr := B.returns
  have hts := atoms_spec (ws := wd_Md_findHead) B.pre
  have hown : s.vm.findClass R_Md = some m.cls := findClass_of_methodNamed B.named
  have hlocks := B.notSynchronized
  subst hsz
  have hD := hD0.self (sz := s.heap.size)
  generalize hAe : va_A [(a_t, .inr (8, [.ref a_t_disk, .ref a_t_tape, .int t_tapeLong, t_first, t_last, .int t_kept, .int t_next, .int t_come, .int t_crashes, .int t_thrown, .int t_open, .int t_openFirst, .int t_openMany, .int t_openBytes, .int t_nextPage, .int t_turn, .int t_oldest, .ref a_t_waitBlock, .ref a_t_waitByte, .ref a_t_waitOldest, .int t_waiting])), (a_t_disk, .inl ((cA 0), n_t_disk, .inl t_disk)), (a_t_tape, .inl ((cA 0), n_t_tape, .inl t_tape)), (a_t_waitBlock, .inl ((cA 0), n_t_waitBlock, .inl t_waitBlock)), (a_t_waitByte, .inl ((cA 0), n_t_waitByte, .inl t_waitByte)), (a_t_waitOldest, .inl ((cA 0), n_t_waitOldest, .inl t_waitOldest))] s.heap.size = A at hD hE ⊢
  have hA : ∀ q : Nat, s.heap.size ≤ q → A q := fun q h => by rw [← hAe]; exact Or.inr h
  have hS : va_S A s.heap s.heap [] := va_S.rf
  have hl := lv_entry [.ref a_t] (n := 2) (Nat.le_of_ble_eq_true rfl)
  rw [lg_entry_eq]
  generalize (lg_sl [.ref a_t] ++ List.replicate (2 - (lg_sl [.ref a_t]).length) Slot.unset).toArray = ls at hl ⊢
  have hl : lv_has ls 2 [(0, .ref a_t)] := hl
  unfold f_Md_findHead at hf
  refine lv_aload_n hx hb d_Md_findHead_0 rfl (lv_at hl 0 rfl) ?_
  refine lv_iconst (v := 0) hx hb d_Md_findHead_1 (by decide) ?_
  refine va_put (D := D) (ci := 8) (v := .int (0 : Int32)) (ty := .int) (C := R_Md) (T := F_Md) (N := 21) hx hb hts (fun w9 h9 => .tail _ (gu_Md w9 h9)) t_Md t_Md_ok n_Md hown hK hP hD hS 0 rfl rfl 15 (by decide) (hts _ (.tail _ gm_325)) (fun _ h9 => h9) rfl (by decide +kernel) rfl rfl (Nat.le_of_ble_eq_true rfl) d_Md_findHead_2 (fun H locs hP hD hS => ?_)
  have hP : va_P D classes [(a_t, .inr (8, [.ref a_t_disk, .ref a_t_tape, .int t_tapeLong, t_first, t_last, .int t_kept, .int t_next, .int t_come, .int t_crashes, .int t_thrown, .int t_open, .int t_openFirst, .int t_openMany, .int t_openBytes, .int t_nextPage, .int (0 : Int32), .int t_oldest, .ref a_t_waitBlock, .ref a_t_waitByte, .ref a_t_waitOldest, .int t_waiting])), (a_t_disk, .inl ((cA 0), n_t_disk, .inl t_disk)), (a_t_tape, .inl ((cA 0), n_t_tape, .inl t_tape)), (a_t_waitBlock, .inl ((cA 0), n_t_waitBlock, .inl t_waitBlock)), (a_t_waitByte, .inl ((cA 0), n_t_waitByte, .inl t_waitByte)), (a_t_waitOldest, .inl ((cA 0), n_t_waitOldest, .inl t_waitOldest))] H := hP
  have hD : va_D A [(a_t, .inr (8, [.ref a_t_disk, .ref a_t_tape, .int t_tapeLong, t_first, t_last, .int t_kept, .int t_next, .int t_come, .int t_crashes, .int t_thrown, .int t_open, .int t_openFirst, .int t_openMany, .int t_openBytes, .int t_nextPage, .int (0 : Int32), .int t_oldest, .ref a_t_waitBlock, .ref a_t_waitByte, .ref a_t_waitOldest, .int t_waiting])), (a_t_disk, .inl ((cA 0), n_t_disk, .inl t_disk)), (a_t_tape, .inl ((cA 0), n_t_tape, .inl t_tape)), (a_t_waitBlock, .inl ((cA 0), n_t_waitBlock, .inl t_waitBlock)), (a_t_waitByte, .inl ((cA 0), n_t_waitByte, .inl t_waitByte)), (a_t_waitOldest, .inl ((cA 0), n_t_waitOldest, .inl t_waitOldest))] := hD
  refine lv_aload_n hx hb d_Md_findHead_5 rfl (lv_at hl 0 rfl) ?_
  refine lv_iconst (v := 1) hx hb d_Md_findHead_6 (by decide) ?_
  refine va_put (D := D) (ci := 8) (v := .int (1 : Int32)) (ty := .int) (C := R_Md) (T := F_Md) (N := 21) hx hb hts (fun w9 h9 => .tail _ (gu_Md w9 h9)) t_Md t_Md_ok n_Md hown hK hP hD hS 0 rfl rfl 16 (by decide) (hts _ (.tail _ gm_304)) (fun _ h9 => h9) rfl (by decide +kernel) rfl rfl (Nat.le_of_ble_eq_true rfl) d_Md_findHead_7 (fun H locs hP hD hS => ?_)
  have hP : va_P D classes [(a_t, .inr (8, [.ref a_t_disk, .ref a_t_tape, .int t_tapeLong, t_first, t_last, .int t_kept, .int t_next, .int t_come, .int t_crashes, .int t_thrown, .int t_open, .int t_openFirst, .int t_openMany, .int t_openBytes, .int t_nextPage, .int (0 : Int32), .int (1 : Int32), .ref a_t_waitBlock, .ref a_t_waitByte, .ref a_t_waitOldest, .int t_waiting])), (a_t_disk, .inl ((cA 0), n_t_disk, .inl t_disk)), (a_t_tape, .inl ((cA 0), n_t_tape, .inl t_tape)), (a_t_waitBlock, .inl ((cA 0), n_t_waitBlock, .inl t_waitBlock)), (a_t_waitByte, .inl ((cA 0), n_t_waitByte, .inl t_waitByte)), (a_t_waitOldest, .inl ((cA 0), n_t_waitOldest, .inl t_waitOldest))] H := hP
  have hD : va_D A [(a_t, .inr (8, [.ref a_t_disk, .ref a_t_tape, .int t_tapeLong, t_first, t_last, .int t_kept, .int t_next, .int t_come, .int t_crashes, .int t_thrown, .int t_open, .int t_openFirst, .int t_openMany, .int t_openBytes, .int t_nextPage, .int (0 : Int32), .int (1 : Int32), .ref a_t_waitBlock, .ref a_t_waitByte, .ref a_t_waitOldest, .int t_waiting])), (a_t_disk, .inl ((cA 0), n_t_disk, .inl t_disk)), (a_t_tape, .inl ((cA 0), n_t_tape, .inl t_tape)), (a_t_waitBlock, .inl ((cA 0), n_t_waitBlock, .inl t_waitBlock)), (a_t_waitByte, .inl ((cA 0), n_t_waitByte, .inl t_waitByte)), (a_t_waitOldest, .inl ((cA 0), n_t_waitOldest, .inl t_waitOldest))] := hD
  refine lv_aload_n hx hb d_Md_findHead_10 rfl (lv_at hl 0 rfl) ?_
  refine lv_iconst (v := 1) hx hb d_Md_findHead_11 (by decide) ?_
  refine va_put (D := D) (ci := 8) (v := .int (1 : Int32)) (ty := .int) (C := R_Md) (T := F_Md) (N := 21) hx hb hts (fun w9 h9 => .tail _ (gu_Md w9 h9)) t_Md t_Md_ok n_Md hown hK hP hD hS 0 rfl rfl 5 (by decide) (hts _ (.tail _ gm_326)) (fun _ h9 => h9) rfl (by decide +kernel) rfl rfl (Nat.le_of_ble_eq_true rfl) d_Md_findHead_12 (fun H locs hP hD hS => ?_)
  have hP : va_P D classes [(a_t, .inr (8, [.ref a_t_disk, .ref a_t_tape, .int t_tapeLong, t_first, t_last, .int (1 : Int32), .int t_next, .int t_come, .int t_crashes, .int t_thrown, .int t_open, .int t_openFirst, .int t_openMany, .int t_openBytes, .int t_nextPage, .int (0 : Int32), .int (1 : Int32), .ref a_t_waitBlock, .ref a_t_waitByte, .ref a_t_waitOldest, .int t_waiting])), (a_t_disk, .inl ((cA 0), n_t_disk, .inl t_disk)), (a_t_tape, .inl ((cA 0), n_t_tape, .inl t_tape)), (a_t_waitBlock, .inl ((cA 0), n_t_waitBlock, .inl t_waitBlock)), (a_t_waitByte, .inl ((cA 0), n_t_waitByte, .inl t_waitByte)), (a_t_waitOldest, .inl ((cA 0), n_t_waitOldest, .inl t_waitOldest))] H := hP
  have hD : va_D A [(a_t, .inr (8, [.ref a_t_disk, .ref a_t_tape, .int t_tapeLong, t_first, t_last, .int (1 : Int32), .int t_next, .int t_come, .int t_crashes, .int t_thrown, .int t_open, .int t_openFirst, .int t_openMany, .int t_openBytes, .int t_nextPage, .int (0 : Int32), .int (1 : Int32), .ref a_t_waitBlock, .ref a_t_waitByte, .ref a_t_waitOldest, .int t_waiting])), (a_t_disk, .inl ((cA 0), n_t_disk, .inl t_disk)), (a_t_tape, .inl ((cA 0), n_t_tape, .inl t_tape)), (a_t_waitBlock, .inl ((cA 0), n_t_waitBlock, .inl t_waitBlock)), (a_t_waitByte, .inl ((cA 0), n_t_waitByte, .inl t_waitByte)), (a_t_waitOldest, .inl ((cA 0), n_t_waitOldest, .inl t_waitOldest))] := hD
  refine lv_iconst (v := 0) hx hb d_Md_findHead_15 (by decide) ?_
  refine lv_istore_n (lv' := [(1, .int (0 : Int32)), (0, .ref a_t)]) hx hb d_Md_findHead_16 rfl hl (by decide) rfl (fun ls hl => ?_)
  exact k_Md_findHead_L17 hx hb hr hml hown hts hlocks hA hE hK a_t a_t_disk a_t_tape a_t_waitBlock a_t_waitByte a_t_waitOldest t_first t_last n_t_disk t_disk n_t_tape t_tape t_tapeLong t_kept t_next t_come t_crashes t_thrown t_open t_openFirst t_openMany t_openBytes t_nextPage t_turn t_oldest n_t_waitBlock t_waitBlock n_t_waitByte t_waitByte n_t_waitOldest t_waitOldest t_waiting _ _ (1 : Int32) (0 : Int32) (1 : Int32) (0 : Int32) _ _ hf (hP.sub [0, 1, 2, 3, 4, 5] rfl) (hD.sub [0, 1, 2, 3, 4, 5] (by decide) rfl) hS ls (lv_sub hl [1, 0] rfl)
theorem d_Md_hasRecords_0 : decode b_Md_hasRecords 0 = .ok (.iload_n 1, 1) := by decide +kernel
theorem d_Md_hasRecords_1 : decode b_Md_hasRecords 1 = .ok (.bipush 9, 2) := by decide +kernel
theorem d_Md_hasRecords_3 : decode b_Md_hasRecords 3 = .ok (.iadd, 1) := by decide +kernel
theorem d_Md_hasRecords_4 : decode b_Md_hasRecords 4 = .ok (.istore_n 2, 1) := by decide +kernel
theorem d_Md_hasRecords_5 : decode b_Md_hasRecords 5 = .ok (.iload_n 1, 1) := by decide +kernel
theorem d_Md_hasRecords_6 : decode b_Md_hasRecords 6 = .ok (.bipush 60, 2) := by decide +kernel
theorem d_Md_hasRecords_8 : decode b_Md_hasRecords 8 = .ok (.iadd, 1) := by decide +kernel
theorem d_Md_hasRecords_9 : decode b_Md_hasRecords 9 = .ok (.istore_n 3, 1) := by decide +kernel
theorem d_Md_hasRecords_10 : decode b_Md_hasRecords 10 = .ok (.iconst 0, 1) := by decide +kernel
theorem d_Md_hasRecords_11 : decode b_Md_hasRecords 11 = .ok (.istore 4, 2) := by decide +kernel
theorem d_Md_hasRecords_13 : decode b_Md_hasRecords 13 = .ok (.iload 4, 2) := by decide +kernel
theorem d_Md_hasRecords_15 : decode b_Md_hasRecords 15 = .ok (.aload_n 0, 1) := by decide +kernel
theorem d_Md_hasRecords_16 : decode b_Md_hasRecords 16 = .ok (.getfield 7, 3) := by decide +kernel
theorem d_Md_hasRecords_19 : decode b_Md_hasRecords 19 = .ok (.iload_n 1, 1) := by decide +kernel
theorem d_Md_hasRecords_20 : decode b_Md_hasRecords 20 = .ok (.bipush 8, 2) := by decide +kernel
theorem d_Md_hasRecords_22 : decode b_Md_hasRecords 22 = .ok (.iadd, 1) := by decide +kernel
theorem d_Md_hasRecords_23 : decode b_Md_hasRecords 23 = .ok (.iaload, 1) := by decide +kernel
theorem d_Md_hasRecords_24 : decode b_Md_hasRecords 24 = .ok (.if_icmp .ge 69, 3) := by decide +kernel
theorem d_Md_hasRecords_27 : decode b_Md_hasRecords 27 = .ok (.iload_n 2, 1) := by decide +kernel
theorem d_Md_hasRecords_28 : decode b_Md_hasRecords 28 = .ok (.iconst 2, 1) := by decide +kernel
theorem d_Md_hasRecords_29 : decode b_Md_hasRecords 29 = .ok (.iadd, 1) := by decide +kernel
theorem d_Md_hasRecords_30 : decode b_Md_hasRecords 30 = .ok (.iload_n 3, 1) := by decide +kernel
theorem d_Md_hasRecords_31 : decode b_Md_hasRecords 31 = .ok (.if_icmp .gt 41, 3) := by decide +kernel
theorem d_Md_hasRecords_34 : decode b_Md_hasRecords 34 = .ok (.aload_n 0, 1) := by decide +kernel
theorem d_Md_hasRecords_35 : decode b_Md_hasRecords 35 = .ok (.getfield 7, 3) := by decide +kernel
theorem d_Md_hasRecords_38 : decode b_Md_hasRecords 38 = .ok (.iload_n 2, 1) := by decide +kernel
theorem d_Md_hasRecords_39 : decode b_Md_hasRecords 39 = .ok (.iaload, 1) := by decide +kernel
theorem d_Md_hasRecords_40 : decode b_Md_hasRecords 40 = .ok (.ifCond .eq 32, 3) := by decide +kernel
theorem d_Md_hasRecords_43 : decode b_Md_hasRecords 43 = .ok (.aload_n 0, 1) := by decide +kernel
theorem d_Md_hasRecords_44 : decode b_Md_hasRecords 44 = .ok (.getfield 7, 3) := by decide +kernel
theorem d_Md_hasRecords_47 : decode b_Md_hasRecords 47 = .ok (.iload_n 2, 1) := by decide +kernel
theorem d_Md_hasRecords_48 : decode b_Md_hasRecords 48 = .ok (.iconst 1, 1) := by decide +kernel
theorem d_Md_hasRecords_49 : decode b_Md_hasRecords 49 = .ok (.iadd, 1) := by decide +kernel
theorem d_Md_hasRecords_50 : decode b_Md_hasRecords 50 = .ok (.iaload, 1) := by decide +kernel
theorem d_Md_hasRecords_51 : decode b_Md_hasRecords 51 = .ok (.bipush 40, 2) := by decide +kernel
theorem d_Md_hasRecords_53 : decode b_Md_hasRecords 53 = .ok (.if_icmp .gt 19, 3) := by decide +kernel
theorem d_Md_hasRecords_56 : decode b_Md_hasRecords 56 = .ok (.iload_n 2, 1) := by decide +kernel
theorem d_Md_hasRecords_57 : decode b_Md_hasRecords 57 = .ok (.iconst 2, 1) := by decide +kernel
theorem d_Md_hasRecords_58 : decode b_Md_hasRecords 58 = .ok (.iadd, 1) := by decide +kernel
theorem d_Md_hasRecords_59 : decode b_Md_hasRecords 59 = .ok (.aload_n 0, 1) := by decide +kernel
theorem d_Md_hasRecords_60 : decode b_Md_hasRecords 60 = .ok (.getfield 7, 3) := by decide +kernel
theorem d_Md_hasRecords_63 : decode b_Md_hasRecords 63 = .ok (.iload_n 2, 1) := by decide +kernel
theorem d_Md_hasRecords_64 : decode b_Md_hasRecords 64 = .ok (.iconst 1, 1) := by decide +kernel
theorem d_Md_hasRecords_65 : decode b_Md_hasRecords 65 = .ok (.iadd, 1) := by decide +kernel
theorem d_Md_hasRecords_66 : decode b_Md_hasRecords 66 = .ok (.iaload, 1) := by decide +kernel
theorem d_Md_hasRecords_67 : decode b_Md_hasRecords 67 = .ok (.iadd, 1) := by decide +kernel
theorem d_Md_hasRecords_68 : decode b_Md_hasRecords 68 = .ok (.iload_n 3, 1) := by decide +kernel
theorem d_Md_hasRecords_69 : decode b_Md_hasRecords 69 = .ok (.if_icmp .le 5, 3) := by decide +kernel
theorem d_Md_hasRecords_72 : decode b_Md_hasRecords 72 = .ok (.iconst 0, 1) := by decide +kernel
theorem d_Md_hasRecords_73 : decode b_Md_hasRecords 73 = .ok (.ireturn, 1) := by decide +kernel
theorem d_Md_hasRecords_74 : decode b_Md_hasRecords 74 = .ok (.iload_n 2, 1) := by decide +kernel
theorem d_Md_hasRecords_75 : decode b_Md_hasRecords 75 = .ok (.iconst 2, 1) := by decide +kernel
theorem d_Md_hasRecords_76 : decode b_Md_hasRecords 76 = .ok (.aload_n 0, 1) := by decide +kernel
theorem d_Md_hasRecords_77 : decode b_Md_hasRecords 77 = .ok (.getfield 7, 3) := by decide +kernel
theorem d_Md_hasRecords_80 : decode b_Md_hasRecords 80 = .ok (.iload_n 2, 1) := by decide +kernel
theorem d_Md_hasRecords_81 : decode b_Md_hasRecords 81 = .ok (.iconst 1, 1) := by decide +kernel
theorem d_Md_hasRecords_82 : decode b_Md_hasRecords 82 = .ok (.iadd, 1) := by decide +kernel
theorem d_Md_hasRecords_83 : decode b_Md_hasRecords 83 = .ok (.iaload, 1) := by decide +kernel
theorem d_Md_hasRecords_84 : decode b_Md_hasRecords 84 = .ok (.iadd, 1) := by decide +kernel
theorem d_Md_hasRecords_85 : decode b_Md_hasRecords 85 = .ok (.iadd, 1) := by decide +kernel
theorem d_Md_hasRecords_86 : decode b_Md_hasRecords 86 = .ok (.istore_n 2, 1) := by decide +kernel
theorem d_Md_hasRecords_87 : decode b_Md_hasRecords 87 = .ok (.iinc 4 1, 3) := by decide +kernel
theorem d_Md_hasRecords_90 : decode b_Md_hasRecords 90 = .ok (.goto (-77), 3) := by decide +kernel
theorem d_Md_hasRecords_93 : decode b_Md_hasRecords 93 = .ok (.iconst 1, 1) := by decide +kernel
theorem d_Md_hasRecords_94 : decode b_Md_hasRecords 94 = .ok (.ireturn, 1) := by decide +kernel
abbrev wd_Md_hasRecords : List Cond := .code y_Md_hasRecords b_Md_hasRecords 5 (some .boolean) :: gw
def f_Md_hasRecords_L13 (n_t_disk : Nat) (t_disk : Nat → Int32) (n_t_tape : Nat) (t_tape : Nat → Int32) (t_tapeLong : Int32) (t_kept : Int32) (t_next : Int32) (t_come : Int32) (t_crashes : Int32) (t_thrown : Int32) (t_open : Int32) (t_openFirst : Int32) (t_openMany : Int32) (t_openBytes : Int32) (t_nextPage : Int32) (t_turn : Int32) (t_oldest : Int32) (n_t_waitBlock : Nat) (t_waitBlock : Nat → Int32) (n_t_waitByte : Nat) (t_waitByte : Nat → Int32) (n_t_waitOldest : Nat) (t_waitOldest : Nat → Int32) (t_waiting : Int32) (p0 : Int32) (y3 : Int32) : Nat → Int32 → Int32 → Option (Int32)
  | 0, _, _ => none
  | n13 + 1, x2, x4 =>
    if (p0 + (8 : Int32)) < 0 ∨ n_t_disk ≤ (p0 + (8 : Int32)).toNatClampNeg then none else
    if (t_disk (p0 + (8 : Int32)).toNatClampNeg) ≤ x4 then
      some (1 : Int32)
    else
      if y3 < (x2 + (2 : Int32)) then
        some (0 : Int32)
      else
        if x2 < 0 ∨ n_t_disk ≤ x2.toNatClampNeg then none else
        if (t_disk x2.toNatClampNeg) = 0 then
          some (0 : Int32)
        else
          if (x2 + (1 : Int32)) < 0 ∨ n_t_disk ≤ (x2 + (1 : Int32)).toNatClampNeg then none else
          if (40 : Int32) < (t_disk (x2 + (1 : Int32)).toNatClampNeg) then
            some (0 : Int32)
          else
            if (x2 + (1 : Int32)) < 0 ∨ n_t_disk ≤ (x2 + (1 : Int32)).toNatClampNeg then none else
            if ((x2 + (2 : Int32)) + (t_disk (x2 + (1 : Int32)).toNatClampNeg)) ≤ y3 then
              if (x2 + (1 : Int32)) < 0 ∨ n_t_disk ≤ (x2 + (1 : Int32)).toNatClampNeg then none else
              f_Md_hasRecords_L13 n_t_disk t_disk n_t_tape t_tape t_tapeLong t_kept t_next t_come t_crashes t_thrown t_open t_openFirst t_openMany t_openBytes t_nextPage t_turn t_oldest n_t_waitBlock t_waitBlock n_t_waitByte t_waitByte n_t_waitOldest t_waitOldest t_waiting p0 y3 n13 (x2 + ((2 : Int32) + (t_disk (x2 + (1 : Int32)).toNatClampNeg))) (x4 + (1 : Int32))
            else
              some (0 : Int32)
def f_Md_hasRecords (n_t_disk : Nat) (t_disk : Nat → Int32) (n_t_tape : Nat) (t_tape : Nat → Int32) (t_tapeLong : Int32) (t_kept : Int32) (t_next : Int32) (t_come : Int32) (t_crashes : Int32) (t_thrown : Int32) (t_open : Int32) (t_openFirst : Int32) (t_openMany : Int32) (t_openBytes : Int32) (t_nextPage : Int32) (t_turn : Int32) (t_oldest : Int32) (n_t_waitBlock : Nat) (t_waitBlock : Nat → Int32) (n_t_waitByte : Nat) (t_waitByte : Nat → Int32) (n_t_waitOldest : Nat) (t_waitOldest : Nat → Int32) (t_waiting : Int32) (p0 : Int32) : Option (Int32) :=
  f_Md_hasRecords_L13 n_t_disk t_disk n_t_tape t_tape t_tapeLong t_kept t_next t_come t_crashes t_thrown t_open t_openFirst t_openMany t_openBytes t_nextPage t_turn t_oldest n_t_waitBlock t_waitBlock n_t_waitByte t_waitByte n_t_waitOldest t_waitOldest t_waiting p0 (p0 + (60 : Int32)) 5000 (p0 + (9 : Int32)) (0 : Int32)
set_option maxHeartbeats 4000000 in
set_option maxRecDepth 100000 in
theorem k_Md_hasRecords_L13 {p : Program} {l : Launch} {e : Env} {s : State} {m : MethodId} {args : Array Value} {below : List Frame} {meth : Method} {c : Code} (hx : p.tables.exec = Jvm.exec) (hb : c.code = b_Md_hasRecords) (hr : meth.sig.returnType = (some .boolean)) (hml : c.maxLocals = 5) (hown : s.vm.findClass R_Md = some m.cls) (hts : ∀ w ∈ wd_Md_hasRecords, w.before args s = true) (hlocks : meth.locks = false) {A : Nat → Prop} (hA : ∀ q, s.heap.size ≤ q → A q) (hE : ev A s) {D : va_G} {cA : Nat → ClassId} (hK : va_K D classes (tys cA) s) (a_t a_t_disk a_t_tape a_t_waitBlock a_t_waitByte a_t_waitOldest : Nat) (t_first t_last : Value) (n_t_disk : Nat) (t_disk : Nat → Int32) (n_t_tape : Nat) (t_tape : Nat → Int32) (t_tapeLong : Int32) (t_kept : Int32) (t_next : Int32) (t_come : Int32) (t_crashes : Int32) (t_thrown : Int32) (t_open : Int32) (t_openFirst : Int32) (t_openMany : Int32) (t_openBytes : Int32) (t_nextPage : Int32) (t_turn : Int32) (t_oldest : Int32) (n_t_waitBlock : Nat) (t_waitBlock : Nat → Int32) (n_t_waitByte : Nat) (t_waitByte : Nat → Int32) (n_t_waitOldest : Nat) (t_waitOldest : Nat → Int32) (t_waiting : Int32) (p0 : Int32) (y3 : Int32) (o : Int32) :
    ∀ (n : Nat) (x2 : Int32) (x4 : Int32) (H : Heap) (locs : List Loc), f_Md_hasRecords_L13 n_t_disk t_disk n_t_tape t_tape t_tapeLong t_kept t_next t_come t_crashes t_thrown t_open t_openFirst t_openMany t_openBytes t_nextPage t_turn t_oldest n_t_waitBlock t_waitBlock n_t_waitByte t_waitByte n_t_waitOldest t_waitOldest t_waiting p0 y3 n x2 x4 = some o → va_P D classes [(a_t, .inr (8, [.ref a_t_disk, .ref a_t_tape, .int t_tapeLong, t_first, t_last, .int t_kept, .int t_next, .int t_come, .int t_crashes, .int t_thrown, .int t_open, .int t_openFirst, .int t_openMany, .int t_openBytes, .int t_nextPage, .int t_turn, .int t_oldest, .ref a_t_waitBlock, .ref a_t_waitByte, .ref a_t_waitOldest, .int t_waiting])), (a_t_disk, .inl ((cA 0), n_t_disk, .inl t_disk)), (a_t_tape, .inl ((cA 0), n_t_tape, .inl t_tape)), (a_t_waitBlock, .inl ((cA 0), n_t_waitBlock, .inl t_waitBlock)), (a_t_waitByte, .inl ((cA 0), n_t_waitByte, .inl t_waitByte)), (a_t_waitOldest, .inl ((cA 0), n_t_waitOldest, .inl t_waitOldest))] H → va_D A [(a_t, .inr (8, [.ref a_t_disk, .ref a_t_tape, .int t_tapeLong, t_first, t_last, .int t_kept, .int t_next, .int t_come, .int t_crashes, .int t_thrown, .int t_open, .int t_openFirst, .int t_openMany, .int t_openBytes, .int t_nextPage, .int t_turn, .int t_oldest, .ref a_t_waitBlock, .ref a_t_waitByte, .ref a_t_waitOldest, .int t_waiting])), (a_t_disk, .inl ((cA 0), n_t_disk, .inl t_disk)), (a_t_tape, .inl ((cA 0), n_t_tape, .inl t_tape)), (a_t_waitBlock, .inl ((cA 0), n_t_waitBlock, .inl t_waitBlock)), (a_t_waitByte, .inl ((cA 0), n_t_waitByte, .inl t_waitByte)), (a_t_waitOldest, .inl ((cA 0), n_t_waitOldest, .inl t_waitOldest))] → va_S A s.heap H locs → ∀ ls : Array Slot, lv_has ls 5 [(0, .ref a_t), (1, .int p0), (2, .int x2), (3, .int y3), (4, .int x4)] → W p l e ({ frames := 0, cells := 0, slots := 0, locals := 0 }) s m args below meth c H locs 0 0 (MQ below (va_Qi (fun r9 (_ : Unit) => r9 = o) (fun _ => aR D cA A [(a_t, .inr (8, [.ref a_t_disk, .ref a_t_tape, .int t_tapeLong, t_first, t_last, .int t_kept, .int t_next, .int t_come, .int t_crashes, .int t_thrown, .int t_open, .int t_openFirst, .int t_openMany, .int t_openBytes, .int t_nextPage, .int t_turn, .int t_oldest, .ref a_t_waitBlock, .ref a_t_waitByte, .ref a_t_waitOldest, .int t_waiting])), (a_t_disk, .inl ((cA 0), n_t_disk, .inl t_disk)), (a_t_tape, .inl ((cA 0), n_t_tape, .inl t_tape)), (a_t_waitBlock, .inl ((cA 0), n_t_waitBlock, .inl t_waitBlock)), (a_t_waitByte, .inl ((cA 0), n_t_waitByte, .inl t_waitByte)), (a_t_waitOldest, .inl ((cA 0), n_t_waitOldest, .inl t_waitOldest))]) A) args s 0 0 A) (F0 m 13 ls []) := by
  intro n
  induction n with
  | zero =>
    intro x2 x4 H locs hf
    cases hf
  | succ n13 ih =>
    intro x2 x4 H locs hf hP hD hS ls hl
    rw [f_Md_hasRecords_L13.eq_2] at hf
    refine lv_iload hx hb d_Md_hasRecords_13 (lv_at hl 4 rfl) ?_
    refine lv_aload_n hx hb d_Md_hasRecords_15 rfl (lv_at hl 0 rfl) ?_
    refine va_get (D := D) (ci := 8) (v := .ref a_t_disk) (C := R_Md) (T := F_Md) (N := 21) hx hb hts (fun w9 h9 => .tail _ (gu_Md w9 h9)) hown hK hP 0 rfl rfl 0 (by decide) (hts _ (.tail _ gm_305)) (fun _ h9 => h9) rfl d_Md_hasRecords_16 ?_
    refine lv_iload_n hx hb d_Md_hasRecords_19 rfl (lv_at hl 1 rfl) ?_
    refine lv_bipush (v := 8) hx hb d_Md_hasRecords_20 (by decide) ?_
    refine lv_iadd hx hb d_Md_hasRecords_22 ?_
    obtain ⟨ck_1, hf⟩ := hk_if hf
    refine va_iald hx hb hK hP 1 0 rfl rfl ck_1 d_Md_hasRecords_23 ?_
    refine lv_icmp_ge (tgt := 93) hx hb d_Md_hasRecords_24 (by decide) (fun c_2 => ?_) (fun c_2 => ?_)
    · replace hf := (if_pos c_2).symm.trans hf
      refine lv_iconst (v := 1) hx hb d_Md_hasRecords_93 (by decide) ?_
      have ho9 := Option.some.inj hf
      subst ho9
      have hP9 := hP.sub (ws' := [(a_t, .inr (8, [.ref a_t_disk, .ref a_t_tape, .int t_tapeLong, t_first, t_last, .int t_kept, .int t_next, .int t_come, .int t_crashes, .int t_thrown, .int t_open, .int t_openFirst, .int t_openMany, .int t_openBytes, .int t_nextPage, .int t_turn, .int t_oldest, .ref a_t_waitBlock, .ref a_t_waitByte, .ref a_t_waitOldest, .int t_waiting])), (a_t_disk, .inl ((cA 0), n_t_disk, .inl t_disk)), (a_t_tape, .inl ((cA 0), n_t_tape, .inl t_tape)), (a_t_waitBlock, .inl ((cA 0), n_t_waitBlock, .inl t_waitBlock)), (a_t_waitByte, .inl ((cA 0), n_t_waitByte, .inl t_waitByte)), (a_t_waitOldest, .inl ((cA 0), n_t_waitOldest, .inl t_waitOldest))]) [0, 1, 2, 3, 4, 5] rfl
      have hD9 := hD.sub (ws' := [(a_t, .inr (8, [.ref a_t_disk, .ref a_t_tape, .int t_tapeLong, t_first, t_last, .int t_kept, .int t_next, .int t_come, .int t_crashes, .int t_thrown, .int t_open, .int t_openFirst, .int t_openMany, .int t_openBytes, .int t_nextPage, .int t_turn, .int t_oldest, .ref a_t_waitBlock, .ref a_t_waitByte, .ref a_t_waitOldest, .int t_waiting])), (a_t_disk, .inl ((cA 0), n_t_disk, .inl t_disk)), (a_t_tape, .inl ((cA 0), n_t_tape, .inl t_tape)), (a_t_waitBlock, .inl ((cA 0), n_t_waitBlock, .inl t_waitBlock)), (a_t_waitByte, .inl ((cA 0), n_t_waitByte, .inl t_waitByte)), (a_t_waitOldest, .inl ((cA 0), n_t_waitOldest, .inl t_waitOldest))]) [0, 1, 2, 3, 4, 5] (by decide) rfl
      exact W.zret (v := (1 : Int32)) hx hb hr rfl (fun t ht hW => ⟨⟨_, (), rfl, rfl, by rw [ht]; exact hP9, va_K.moved hW.alike hK, hD9⟩, hS.F ht⟩) hS.2.2 d_Md_hasRecords_94
    · replace hf := (if_neg c_2).symm.trans hf
      refine lv_iload_n hx hb d_Md_hasRecords_27 rfl (lv_at hl 2 rfl) ?_
      refine lv_iconst (v := 2) hx hb d_Md_hasRecords_28 (by decide) ?_
      refine lv_iadd hx hb d_Md_hasRecords_29 ?_
      refine lv_iload_n hx hb d_Md_hasRecords_30 rfl (lv_at hl 3 rfl) ?_
      refine lv_icmp_gt (tgt := 72) hx hb d_Md_hasRecords_31 (by decide) (fun c_3 => ?_) (fun c_3 => ?_)
      · replace hf := (if_pos c_3).symm.trans hf
        refine lv_iconst (v := 0) hx hb d_Md_hasRecords_72 (by decide) ?_
        have ho9 := Option.some.inj hf
        subst ho9
        have hP9 := hP.sub (ws' := [(a_t, .inr (8, [.ref a_t_disk, .ref a_t_tape, .int t_tapeLong, t_first, t_last, .int t_kept, .int t_next, .int t_come, .int t_crashes, .int t_thrown, .int t_open, .int t_openFirst, .int t_openMany, .int t_openBytes, .int t_nextPage, .int t_turn, .int t_oldest, .ref a_t_waitBlock, .ref a_t_waitByte, .ref a_t_waitOldest, .int t_waiting])), (a_t_disk, .inl ((cA 0), n_t_disk, .inl t_disk)), (a_t_tape, .inl ((cA 0), n_t_tape, .inl t_tape)), (a_t_waitBlock, .inl ((cA 0), n_t_waitBlock, .inl t_waitBlock)), (a_t_waitByte, .inl ((cA 0), n_t_waitByte, .inl t_waitByte)), (a_t_waitOldest, .inl ((cA 0), n_t_waitOldest, .inl t_waitOldest))]) [0, 1, 2, 3, 4, 5] rfl
        have hD9 := hD.sub (ws' := [(a_t, .inr (8, [.ref a_t_disk, .ref a_t_tape, .int t_tapeLong, t_first, t_last, .int t_kept, .int t_next, .int t_come, .int t_crashes, .int t_thrown, .int t_open, .int t_openFirst, .int t_openMany, .int t_openBytes, .int t_nextPage, .int t_turn, .int t_oldest, .ref a_t_waitBlock, .ref a_t_waitByte, .ref a_t_waitOldest, .int t_waiting])), (a_t_disk, .inl ((cA 0), n_t_disk, .inl t_disk)), (a_t_tape, .inl ((cA 0), n_t_tape, .inl t_tape)), (a_t_waitBlock, .inl ((cA 0), n_t_waitBlock, .inl t_waitBlock)), (a_t_waitByte, .inl ((cA 0), n_t_waitByte, .inl t_waitByte)), (a_t_waitOldest, .inl ((cA 0), n_t_waitOldest, .inl t_waitOldest))]) [0, 1, 2, 3, 4, 5] (by decide) rfl
        exact W.zret (v := (0 : Int32)) hx hb hr rfl (fun t ht hW => ⟨⟨_, (), rfl, rfl, by rw [ht]; exact hP9, va_K.moved hW.alike hK, hD9⟩, hS.F ht⟩) hS.2.2 d_Md_hasRecords_73
      · replace hf := (if_neg c_3).symm.trans hf
        refine lv_aload_n hx hb d_Md_hasRecords_34 rfl (lv_at hl 0 rfl) ?_
        refine va_get (D := D) (ci := 8) (v := .ref a_t_disk) (C := R_Md) (T := F_Md) (N := 21) hx hb hts (fun w9 h9 => .tail _ (gu_Md w9 h9)) hown hK hP 0 rfl rfl 0 (by decide) (hts _ (.tail _ gm_305)) (fun _ h9 => h9) rfl d_Md_hasRecords_35 ?_
        refine lv_iload_n hx hb d_Md_hasRecords_38 rfl (lv_at hl 2 rfl) ?_
        obtain ⟨ck_4, hf⟩ := hk_if hf
        refine va_iald hx hb hK hP 1 0 rfl rfl ck_4 d_Md_hasRecords_39 ?_
        refine lv_if_eq (tgt := 72) hx hb d_Md_hasRecords_40 (by decide) (fun c_5 => ?_) (fun c_5 => ?_)
        · replace hf := (if_pos c_5).symm.trans hf
          refine lv_iconst (v := 0) hx hb d_Md_hasRecords_72 (by decide) ?_
          have ho9 := Option.some.inj hf
          subst ho9
          have hP9 := hP.sub (ws' := [(a_t, .inr (8, [.ref a_t_disk, .ref a_t_tape, .int t_tapeLong, t_first, t_last, .int t_kept, .int t_next, .int t_come, .int t_crashes, .int t_thrown, .int t_open, .int t_openFirst, .int t_openMany, .int t_openBytes, .int t_nextPage, .int t_turn, .int t_oldest, .ref a_t_waitBlock, .ref a_t_waitByte, .ref a_t_waitOldest, .int t_waiting])), (a_t_disk, .inl ((cA 0), n_t_disk, .inl t_disk)), (a_t_tape, .inl ((cA 0), n_t_tape, .inl t_tape)), (a_t_waitBlock, .inl ((cA 0), n_t_waitBlock, .inl t_waitBlock)), (a_t_waitByte, .inl ((cA 0), n_t_waitByte, .inl t_waitByte)), (a_t_waitOldest, .inl ((cA 0), n_t_waitOldest, .inl t_waitOldest))]) [0, 1, 2, 3, 4, 5] rfl
          have hD9 := hD.sub (ws' := [(a_t, .inr (8, [.ref a_t_disk, .ref a_t_tape, .int t_tapeLong, t_first, t_last, .int t_kept, .int t_next, .int t_come, .int t_crashes, .int t_thrown, .int t_open, .int t_openFirst, .int t_openMany, .int t_openBytes, .int t_nextPage, .int t_turn, .int t_oldest, .ref a_t_waitBlock, .ref a_t_waitByte, .ref a_t_waitOldest, .int t_waiting])), (a_t_disk, .inl ((cA 0), n_t_disk, .inl t_disk)), (a_t_tape, .inl ((cA 0), n_t_tape, .inl t_tape)), (a_t_waitBlock, .inl ((cA 0), n_t_waitBlock, .inl t_waitBlock)), (a_t_waitByte, .inl ((cA 0), n_t_waitByte, .inl t_waitByte)), (a_t_waitOldest, .inl ((cA 0), n_t_waitOldest, .inl t_waitOldest))]) [0, 1, 2, 3, 4, 5] (by decide) rfl
          exact W.zret (v := (0 : Int32)) hx hb hr rfl (fun t ht hW => ⟨⟨_, (), rfl, rfl, by rw [ht]; exact hP9, va_K.moved hW.alike hK, hD9⟩, hS.F ht⟩) hS.2.2 d_Md_hasRecords_73
        · replace hf := (if_neg c_5).symm.trans hf
          refine lv_aload_n hx hb d_Md_hasRecords_43 rfl (lv_at hl 0 rfl) ?_
          refine va_get (D := D) (ci := 8) (v := .ref a_t_disk) (C := R_Md) (T := F_Md) (N := 21) hx hb hts (fun w9 h9 => .tail _ (gu_Md w9 h9)) hown hK hP 0 rfl rfl 0 (by decide) (hts _ (.tail _ gm_305)) (fun _ h9 => h9) rfl d_Md_hasRecords_44 ?_
          refine lv_iload_n hx hb d_Md_hasRecords_47 rfl (lv_at hl 2 rfl) ?_
          refine lv_iconst (v := 1) hx hb d_Md_hasRecords_48 (by decide) ?_
          refine lv_iadd hx hb d_Md_hasRecords_49 ?_
          obtain ⟨ck_6, hf⟩ := hk_if hf
          refine va_iald hx hb hK hP 1 0 rfl rfl ck_6 d_Md_hasRecords_50 ?_
          refine lv_bipush (v := 40) hx hb d_Md_hasRecords_51 (by decide) ?_
          refine lv_icmp_gt (tgt := 72) hx hb d_Md_hasRecords_53 (by decide) (fun c_7 => ?_) (fun c_7 => ?_)
          · replace hf := (if_pos c_7).symm.trans hf
            refine lv_iconst (v := 0) hx hb d_Md_hasRecords_72 (by decide) ?_
            have ho9 := Option.some.inj hf
            subst ho9
            have hP9 := hP.sub (ws' := [(a_t, .inr (8, [.ref a_t_disk, .ref a_t_tape, .int t_tapeLong, t_first, t_last, .int t_kept, .int t_next, .int t_come, .int t_crashes, .int t_thrown, .int t_open, .int t_openFirst, .int t_openMany, .int t_openBytes, .int t_nextPage, .int t_turn, .int t_oldest, .ref a_t_waitBlock, .ref a_t_waitByte, .ref a_t_waitOldest, .int t_waiting])), (a_t_disk, .inl ((cA 0), n_t_disk, .inl t_disk)), (a_t_tape, .inl ((cA 0), n_t_tape, .inl t_tape)), (a_t_waitBlock, .inl ((cA 0), n_t_waitBlock, .inl t_waitBlock)), (a_t_waitByte, .inl ((cA 0), n_t_waitByte, .inl t_waitByte)), (a_t_waitOldest, .inl ((cA 0), n_t_waitOldest, .inl t_waitOldest))]) [0, 1, 2, 3, 4, 5] rfl
            have hD9 := hD.sub (ws' := [(a_t, .inr (8, [.ref a_t_disk, .ref a_t_tape, .int t_tapeLong, t_first, t_last, .int t_kept, .int t_next, .int t_come, .int t_crashes, .int t_thrown, .int t_open, .int t_openFirst, .int t_openMany, .int t_openBytes, .int t_nextPage, .int t_turn, .int t_oldest, .ref a_t_waitBlock, .ref a_t_waitByte, .ref a_t_waitOldest, .int t_waiting])), (a_t_disk, .inl ((cA 0), n_t_disk, .inl t_disk)), (a_t_tape, .inl ((cA 0), n_t_tape, .inl t_tape)), (a_t_waitBlock, .inl ((cA 0), n_t_waitBlock, .inl t_waitBlock)), (a_t_waitByte, .inl ((cA 0), n_t_waitByte, .inl t_waitByte)), (a_t_waitOldest, .inl ((cA 0), n_t_waitOldest, .inl t_waitOldest))]) [0, 1, 2, 3, 4, 5] (by decide) rfl
            exact W.zret (v := (0 : Int32)) hx hb hr rfl (fun t ht hW => ⟨⟨_, (), rfl, rfl, by rw [ht]; exact hP9, va_K.moved hW.alike hK, hD9⟩, hS.F ht⟩) hS.2.2 d_Md_hasRecords_73
          · replace hf := (if_neg c_7).symm.trans hf
            refine lv_iload_n hx hb d_Md_hasRecords_56 rfl (lv_at hl 2 rfl) ?_
            refine lv_iconst (v := 2) hx hb d_Md_hasRecords_57 (by decide) ?_
            refine lv_iadd hx hb d_Md_hasRecords_58 ?_
            refine lv_aload_n hx hb d_Md_hasRecords_59 rfl (lv_at hl 0 rfl) ?_
            refine va_get (D := D) (ci := 8) (v := .ref a_t_disk) (C := R_Md) (T := F_Md) (N := 21) hx hb hts (fun w9 h9 => .tail _ (gu_Md w9 h9)) hown hK hP 0 rfl rfl 0 (by decide) (hts _ (.tail _ gm_305)) (fun _ h9 => h9) rfl d_Md_hasRecords_60 ?_
            refine lv_iload_n hx hb d_Md_hasRecords_63 rfl (lv_at hl 2 rfl) ?_
            refine lv_iconst (v := 1) hx hb d_Md_hasRecords_64 (by decide) ?_
            refine lv_iadd hx hb d_Md_hasRecords_65 ?_
            obtain ⟨ck_8, hf⟩ := hk_if hf
            refine va_iald hx hb hK hP 1 0 rfl rfl ck_8 d_Md_hasRecords_66 ?_
            refine lv_iadd hx hb d_Md_hasRecords_67 ?_
            refine lv_iload_n hx hb d_Md_hasRecords_68 rfl (lv_at hl 3 rfl) ?_
            refine lv_icmp_le (tgt := 74) hx hb d_Md_hasRecords_69 (by decide) (fun c_9 => ?_) (fun c_9 => ?_)
            · replace hf := (if_pos c_9).symm.trans hf
              refine lv_iload_n hx hb d_Md_hasRecords_74 rfl (lv_at hl 2 rfl) ?_
              refine lv_iconst (v := 2) hx hb d_Md_hasRecords_75 (by decide) ?_
              refine lv_aload_n hx hb d_Md_hasRecords_76 rfl (lv_at hl 0 rfl) ?_
              refine va_get (D := D) (ci := 8) (v := .ref a_t_disk) (C := R_Md) (T := F_Md) (N := 21) hx hb hts (fun w9 h9 => .tail _ (gu_Md w9 h9)) hown hK hP 0 rfl rfl 0 (by decide) (hts _ (.tail _ gm_305)) (fun _ h9 => h9) rfl d_Md_hasRecords_77 ?_
              refine lv_iload_n hx hb d_Md_hasRecords_80 rfl (lv_at hl 2 rfl) ?_
              refine lv_iconst (v := 1) hx hb d_Md_hasRecords_81 (by decide) ?_
              refine lv_iadd hx hb d_Md_hasRecords_82 ?_
              obtain ⟨ck_10, hf⟩ := hk_if hf
              refine va_iald hx hb hK hP 1 0 rfl rfl ck_10 d_Md_hasRecords_83 ?_
              refine lv_iadd hx hb d_Md_hasRecords_84 ?_
              refine lv_iadd hx hb d_Md_hasRecords_85 ?_
              refine lv_istore_n (lv' := [(2, .int (x2 + ((2 : Int32) + (t_disk (x2 + (1 : Int32)).toNatClampNeg)))), (0, .ref a_t), (1, .int p0), (3, .int y3), (4, .int x4)]) hx hb d_Md_hasRecords_86 rfl hl (by decide) rfl (fun ls hl => ?_)
              refine lv_iinc (v := (x4 + (1 : Int32))) (lv' := [(4, .int (x4 + (1 : Int32))), (2, .int (x2 + ((2 : Int32) + (t_disk (x2 + (1 : Int32)).toNatClampNeg)))), (0, .ref a_t), (1, .int p0), (3, .int y3)]) hx hb d_Md_hasRecords_87 hl (k := 4) rfl rfl (by decide) rfl (fun ls hl => ?_)
              refine lv_goto (tgt := 13) hx hb d_Md_hasRecords_90 (by decide) ?_
              exact ih (x2 + ((2 : Int32) + (t_disk (x2 + (1 : Int32)).toNatClampNeg))) (x4 + (1 : Int32)) _ _ hf (hP.sub [0, 1, 2, 3, 4, 5] rfl) (hD.sub [0, 1, 2, 3, 4, 5] (by decide) rfl) hS ls (lv_sub hl [2, 3, 1, 4, 0] rfl)
            · replace hf := (if_neg c_9).symm.trans hf
              refine lv_iconst (v := 0) hx hb d_Md_hasRecords_72 (by decide) ?_
              have ho9 := Option.some.inj hf
              subst ho9
              have hP9 := hP.sub (ws' := [(a_t, .inr (8, [.ref a_t_disk, .ref a_t_tape, .int t_tapeLong, t_first, t_last, .int t_kept, .int t_next, .int t_come, .int t_crashes, .int t_thrown, .int t_open, .int t_openFirst, .int t_openMany, .int t_openBytes, .int t_nextPage, .int t_turn, .int t_oldest, .ref a_t_waitBlock, .ref a_t_waitByte, .ref a_t_waitOldest, .int t_waiting])), (a_t_disk, .inl ((cA 0), n_t_disk, .inl t_disk)), (a_t_tape, .inl ((cA 0), n_t_tape, .inl t_tape)), (a_t_waitBlock, .inl ((cA 0), n_t_waitBlock, .inl t_waitBlock)), (a_t_waitByte, .inl ((cA 0), n_t_waitByte, .inl t_waitByte)), (a_t_waitOldest, .inl ((cA 0), n_t_waitOldest, .inl t_waitOldest))]) [0, 1, 2, 3, 4, 5] rfl
              have hD9 := hD.sub (ws' := [(a_t, .inr (8, [.ref a_t_disk, .ref a_t_tape, .int t_tapeLong, t_first, t_last, .int t_kept, .int t_next, .int t_come, .int t_crashes, .int t_thrown, .int t_open, .int t_openFirst, .int t_openMany, .int t_openBytes, .int t_nextPage, .int t_turn, .int t_oldest, .ref a_t_waitBlock, .ref a_t_waitByte, .ref a_t_waitOldest, .int t_waiting])), (a_t_disk, .inl ((cA 0), n_t_disk, .inl t_disk)), (a_t_tape, .inl ((cA 0), n_t_tape, .inl t_tape)), (a_t_waitBlock, .inl ((cA 0), n_t_waitBlock, .inl t_waitBlock)), (a_t_waitByte, .inl ((cA 0), n_t_waitByte, .inl t_waitByte)), (a_t_waitOldest, .inl ((cA 0), n_t_waitOldest, .inl t_waitOldest))]) [0, 1, 2, 3, 4, 5] (by decide) rfl
              exact W.zret (v := (0 : Int32)) hx hb hr rfl (fun t ht hW => ⟨⟨_, (), rfl, rfl, by rw [ht]; exact hP9, va_K.moved hW.alike hK, hD9⟩, hS.F ht⟩) hS.2.2 d_Md_hasRecords_73
set_option maxHeartbeats 4000000 in
set_option maxRecDepth 100000 in
theorem c_Md_hasRecords (l : Launch) (D : va_G) (cA : Nat → ClassId) (a_t a_t_disk a_t_tape a_t_waitBlock a_t_waitByte a_t_waitOldest : Nat) (t_first t_last : Value) (sz : Nat) (n_t_disk : Nat) (t_disk : Nat → Int32) (n_t_tape : Nat) (t_tape : Nat → Int32) (t_tapeLong : Int32) (t_kept : Int32) (t_next : Int32) (t_come : Int32) (t_crashes : Int32) (t_thrown : Int32) (t_open : Int32) (t_openFirst : Int32) (t_openMany : Int32) (t_openBytes : Int32) (t_nextPage : Int32) (t_turn : Int32) (t_oldest : Int32) (n_t_waitBlock : Nat) (t_waitBlock : Nat → Int32) (n_t_waitByte : Nat) (t_waitByte : Nat → Int32) (n_t_waitOldest : Nat) (t_waitOldest : Nat → Int32) (t_waiting : Int32) (p0 : Int32) (o : Int32) (hf : f_Md_hasRecords n_t_disk t_disk n_t_tape t_tape t_tapeLong t_kept t_next t_come t_crashes t_thrown t_open t_openFirst t_openMany t_openBytes t_nextPage t_turn t_oldest n_t_waitBlock t_waitBlock n_t_waitByte t_waitByte n_t_waitOldest t_waitOldest t_waiting p0 = some o) : Met l y_Md_hasRecords wd_Md_hasRecords ({ frames := 0, cells := 0, slots := 0, locals := 0 }) (va_Pc [.ref a_t, .int p0] (aP D cA [(a_t, .inr (8, [.ref a_t_disk, .ref a_t_tape, .int t_tapeLong, t_first, t_last, .int t_kept, .int t_next, .int t_come, .int t_crashes, .int t_thrown, .int t_open, .int t_openFirst, .int t_openMany, .int t_openBytes, .int t_nextPage, .int t_turn, .int t_oldest, .ref a_t_waitBlock, .ref a_t_waitByte, .ref a_t_waitOldest, .int t_waiting])), (a_t_disk, .inl ((cA 0), n_t_disk, .inl t_disk)), (a_t_tape, .inl ((cA 0), n_t_tape, .inl t_tape)), (a_t_waitBlock, .inl ((cA 0), n_t_waitBlock, .inl t_waitBlock)), (a_t_waitByte, .inl ((cA 0), n_t_waitByte, .inl t_waitByte)), (a_t_waitOldest, .inl ((cA 0), n_t_waitOldest, .inl t_waitOldest))] sz)) (va_Qi (fun r9 (_ : Unit) => r9 = o) (fun _ => aR D cA (va_A [(a_t, .inr (8, [.ref a_t_disk, .ref a_t_tape, .int t_tapeLong, t_first, t_last, .int t_kept, .int t_next, .int t_come, .int t_crashes, .int t_thrown, .int t_open, .int t_openFirst, .int t_openMany, .int t_openBytes, .int t_nextPage, .int t_turn, .int t_oldest, .ref a_t_waitBlock, .ref a_t_waitByte, .ref a_t_waitOldest, .int t_waiting])), (a_t_disk, .inl ((cA 0), n_t_disk, .inl t_disk)), (a_t_tape, .inl ((cA 0), n_t_tape, .inl t_tape)), (a_t_waitBlock, .inl ((cA 0), n_t_waitBlock, .inl t_waitBlock)), (a_t_waitByte, .inl ((cA 0), n_t_waitByte, .inl t_waitByte)), (a_t_waitOldest, .inl ((cA 0), n_t_waitOldest, .inl t_waitOldest))] sz) [(a_t, .inr (8, [.ref a_t_disk, .ref a_t_tape, .int t_tapeLong, t_first, t_last, .int t_kept, .int t_next, .int t_come, .int t_crashes, .int t_thrown, .int t_open, .int t_openFirst, .int t_openMany, .int t_openBytes, .int t_nextPage, .int t_turn, .int t_oldest, .ref a_t_waitBlock, .ref a_t_waitByte, .ref a_t_waitOldest, .int t_waiting])), (a_t_disk, .inl ((cA 0), n_t_disk, .inl t_disk)), (a_t_tape, .inl ((cA 0), n_t_tape, .inl t_tape)), (a_t_waitBlock, .inl ((cA 0), n_t_waitBlock, .inl t_waitBlock)), (a_t_waitByte, .inl ((cA 0), n_t_waitByte, .inl t_waitByte)), (a_t_waitOldest, .inl ((cA 0), n_t_waitOldest, .inl t_waitOldest))]) (va_A [(a_t, .inr (8, [.ref a_t_disk, .ref a_t_tape, .int t_tapeLong, t_first, t_last, .int t_kept, .int t_next, .int t_come, .int t_crashes, .int t_thrown, .int t_open, .int t_openFirst, .int t_openMany, .int t_openBytes, .int t_nextPage, .int t_turn, .int t_oldest, .ref a_t_waitBlock, .ref a_t_waitByte, .ref a_t_waitOldest, .int t_waiting])), (a_t_disk, .inl ((cA 0), n_t_disk, .inl t_disk)), (a_t_tape, .inl ((cA 0), n_t_tape, .inl t_tape)), (a_t_waitBlock, .inl ((cA 0), n_t_waitBlock, .inl t_waitBlock)), (a_t_waitByte, .inl ((cA 0), n_t_waitByte, .inl t_waitByte)), (a_t_waitOldest, .inl ((cA 0), n_t_waitOldest, .inl t_waitOldest))] sz)) 0 0 (va_A [(a_t, .inr (8, [.ref a_t_disk, .ref a_t_tape, .int t_tapeLong, t_first, t_last, .int t_kept, .int t_next, .int t_come, .int t_crashes, .int t_thrown, .int t_open, .int t_openFirst, .int t_openMany, .int t_openBytes, .int t_nextPage, .int t_turn, .int t_oldest, .ref a_t_waitBlock, .ref a_t_waitByte, .ref a_t_waitOldest, .int t_waiting])), (a_t_disk, .inl ((cA 0), n_t_disk, .inl t_disk)), (a_t_tape, .inl ((cA 0), n_t_tape, .inl t_tape)), (a_t_waitBlock, .inl ((cA 0), n_t_waitBlock, .inl t_waitBlock)), (a_t_waitByte, .inl ((cA 0), n_t_waitByte, .inl t_waitByte)), (a_t_waitOldest, .inl ((cA 0), n_t_waitOldest, .inl t_waitOldest))] sz) := by
  refine Met.ofW (cc := b_Md_hasRecords) (maxL := 5) (ret := (some .boolean)) (by decide +kernel) rfl ?_
  intro p e s m args below meth c s₁ B hml hv
  obtain ⟨rfl, hsz, hP, hK, hD0, hE⟩ := hv
  have hx := B.exec
  have hb := B.bytes
  have hr := B.returns
  have hts := atoms_spec (ws := wd_Md_hasRecords) B.pre
  have hown : s.vm.findClass R_Md = some m.cls := findClass_of_methodNamed B.named
  have hlocks := B.notSynchronized
  subst hsz
  have hD := hD0.self (sz := s.heap.size)
  generalize hAe : va_A [(a_t, .inr (8, [.ref a_t_disk, .ref a_t_tape, .int t_tapeLong, t_first, t_last, .int t_kept, .int t_next, .int t_come, .int t_crashes, .int t_thrown, .int t_open, .int t_openFirst, .int t_openMany, .int t_openBytes, .int t_nextPage, .int t_turn, .int t_oldest, .ref a_t_waitBlock, .ref a_t_waitByte, .ref a_t_waitOldest, .int t_waiting])), (a_t_disk, .inl ((cA 0), n_t_disk, .inl t_disk)), (a_t_tape, .inl ((cA 0), n_t_tape, .inl t_tape)), (a_t_waitBlock, .inl ((cA 0), n_t_waitBlock, .inl t_waitBlock)), (a_t_waitByte, .inl ((cA 0), n_t_waitByte, .inl t_waitByte)), (a_t_waitOldest, .inl ((cA 0), n_t_waitOldest, .inl t_waitOldest))] s.heap.size = A at hD hE ⊢
  have hA : ∀ q : Nat, s.heap.size ≤ q → A q := fun q h => by rw [← hAe]; exact Or.inr h
  have hS : va_S A s.heap s.heap [] := va_S.rf
  have hl := lv_entry [.ref a_t, .int p0] (n := 5) (Nat.le_of_ble_eq_true rfl)
  rw [lg_entry_eq]
  generalize (lg_sl [.ref a_t, .int p0] ++ List.replicate (5 - (lg_sl [.ref a_t, .int p0]).length) Slot.unset).toArray = ls at hl ⊢
  have hl : lv_has ls 5 [(0, .ref a_t), (1, .int p0)] := hl
  unfold f_Md_hasRecords at hf
  refine lv_iload_n hx hb d_Md_hasRecords_0 rfl (lv_at hl 1 rfl) ?_
  refine lv_bipush (v := 9) hx hb d_Md_hasRecords_1 (by decide) ?_
  refine lv_iadd hx hb d_Md_hasRecords_3 ?_
  refine lv_istore_n (lv' := [(2, .int (p0 + (9 : Int32))), (0, .ref a_t), (1, .int p0)]) hx hb d_Md_hasRecords_4 rfl hl (by decide) rfl (fun ls hl => ?_)
  refine lv_iload_n hx hb d_Md_hasRecords_5 rfl (lv_at hl 2 rfl) ?_
  refine lv_bipush (v := 60) hx hb d_Md_hasRecords_6 (by decide) ?_
  refine lv_iadd hx hb d_Md_hasRecords_8 ?_
  refine lv_istore_n (lv' := [(3, .int (p0 + (60 : Int32))), (2, .int (p0 + (9 : Int32))), (0, .ref a_t), (1, .int p0)]) hx hb d_Md_hasRecords_9 rfl hl (by decide) rfl (fun ls hl => ?_)
  refine lv_iconst (v := 0) hx hb d_Md_hasRecords_10 (by decide) ?_
  refine lv_istore (lv' := [(4, .int (0 : Int32)), (3, .int (p0 + (60 : Int32))), (2, .int (p0 + (9 : Int32))), (0, .ref a_t), (1, .int p0)]) hx hb d_Md_hasRecords_11 hl (by decide) rfl (fun ls hl => ?_)
  exact k_Md_hasRecords_L13 hx hb hr hml hown hts hlocks hA hE hK a_t a_t_disk a_t_tape a_t_waitBlock a_t_waitByte a_t_waitOldest t_first t_last n_t_disk t_disk n_t_tape t_tape t_tapeLong t_kept t_next t_come t_crashes t_thrown t_open t_openFirst t_openMany t_openBytes t_nextPage t_turn t_oldest n_t_waitBlock t_waitBlock n_t_waitByte t_waitByte n_t_waitOldest t_waitOldest t_waiting p0 (p0 + (60 : Int32)) _ _ (p0 + (9 : Int32)) (0 : Int32) _ _ hf (hP.sub [0, 1, 2, 3, 4, 5] rfl) (hD.sub [0, 1, 2, 3, 4, 5] (by decide) rfl) hS ls (lv_sub hl [3, 4, 2, 1, 0] rfl)
theorem d_Md_spoil_0 : decode b_Md_spoil 0 = .ok (.aload_n 0, 1) := by decide +kernel
theorem d_Md_spoil_1 : decode b_Md_spoil 1 = .ok (.iconst 0, 1) := by decide +kernel
theorem d_Md_spoil_2 : decode b_Md_spoil 2 = .ok (.putfield 53, 3) := by decide +kernel
theorem d_Md_spoil_5 : decode b_Md_spoil 5 = .ok (.iload_n 1, 1) := by decide +kernel
theorem d_Md_spoil_6 : decode b_Md_spoil 6 = .ok (.ifCond .lt 19, 3) := by decide +kernel
theorem d_Md_spoil_9 : decode b_Md_spoil 9 = .ok (.iload_n 1, 1) := by decide +kernel
theorem d_Md_spoil_10 : decode b_Md_spoil 10 = .ok (.bipush 32, 2) := by decide +kernel
theorem d_Md_spoil_12 : decode b_Md_spoil 12 = .ok (.if_icmp .ge 13, 3) := by decide +kernel
theorem d_Md_spoil_15 : decode b_Md_spoil 15 = .ok (.iload_n 2, 1) := by decide +kernel
theorem d_Md_spoil_16 : decode b_Md_spoil 16 = .ok (.ifCond .lt 9, 3) := by decide +kernel
theorem d_Md_spoil_19 : decode b_Md_spoil 19 = .ok (.iload_n 2, 1) := by decide +kernel
theorem d_Md_spoil_20 : decode b_Md_spoil 20 = .ok (.bipush 64, 2) := by decide +kernel
theorem d_Md_spoil_22 : decode b_Md_spoil 22 = .ok (.if_icmp .lt 5, 3) := by decide +kernel
theorem d_Md_spoil_25 : decode b_Md_spoil 25 = .ok (.iconst 0, 1) := by decide +kernel
theorem d_Md_spoil_26 : decode b_Md_spoil 26 = .ok (.ireturn, 1) := by decide +kernel
theorem d_Md_spoil_27 : decode b_Md_spoil 27 = .ok (.aload_n 0, 1) := by decide +kernel
theorem d_Md_spoil_28 : decode b_Md_spoil 28 = .ok (.getfield 7, 3) := by decide +kernel
theorem d_Md_spoil_31 : decode b_Md_spoil 31 = .ok (.bipush 64, 2) := by decide +kernel
theorem d_Md_spoil_33 : decode b_Md_spoil 33 = .ok (.iload_n 1, 1) := by decide +kernel
theorem d_Md_spoil_34 : decode b_Md_spoil 34 = .ok (.imul, 1) := by decide +kernel
theorem d_Md_spoil_35 : decode b_Md_spoil 35 = .ok (.iload_n 2, 1) := by decide +kernel
theorem d_Md_spoil_36 : decode b_Md_spoil 36 = .ok (.iadd, 1) := by decide +kernel
theorem d_Md_spoil_37 : decode b_Md_spoil 37 = .ok (.iload_n 3, 1) := by decide +kernel
theorem d_Md_spoil_38 : decode b_Md_spoil 38 = .ok (.sipush 255, 3) := by decide +kernel
theorem d_Md_spoil_41 : decode b_Md_spoil 41 = .ok (.iand, 1) := by decide +kernel
theorem d_Md_spoil_42 : decode b_Md_spoil 42 = .ok (.iastore, 1) := by decide +kernel
theorem d_Md_spoil_43 : decode b_Md_spoil 43 = .ok (.iconst 1, 1) := by decide +kernel
theorem d_Md_spoil_44 : decode b_Md_spoil 44 = .ok (.ireturn, 1) := by decide +kernel
abbrev wd_Md_spoil : List Cond := .code y_Md_spoil b_Md_spoil 4 (some .boolean) :: gw
def f_Md_spoil (n_t_disk : Nat) (t_disk : Nat → Int32) (n_t_tape : Nat) (t_tape : Nat → Int32) (t_tapeLong : Int32) (t_kept : Int32) (t_next : Int32) (t_come : Int32) (t_crashes : Int32) (t_thrown : Int32) (t_open : Int32) (t_openFirst : Int32) (t_openMany : Int32) (t_openBytes : Int32) (t_nextPage : Int32) (t_turn : Int32) (t_oldest : Int32) (n_t_waitBlock : Nat) (t_waitBlock : Nat → Int32) (n_t_waitByte : Nat) (t_waitByte : Nat → Int32) (n_t_waitOldest : Nat) (t_waitOldest : Nat → Int32) (t_waiting : Int32) (p0 : Int32) (p1 : Int32) (p2 : Int32) : Option (Int32 × (Nat → Int32) × Int32) :=
  if p0 < 0 then
    some ((0 : Int32), t_disk, (0 : Int32))
  else
    if (32 : Int32) ≤ p0 then
      some ((0 : Int32), t_disk, (0 : Int32))
    else
      if p1 < 0 then
        some ((0 : Int32), t_disk, (0 : Int32))
      else
        if p1 < (64 : Int32) then
          if (((64 : Int32) * p0) + p1) < 0 ∨ n_t_disk ≤ (((64 : Int32) * p0) + p1).toNatClampNeg then none else
          some ((1 : Int32), (upd t_disk (((64 : Int32) * p0) + p1).toNatClampNeg (p2 &&& (255 : Int32))), (0 : Int32))
        else
          some ((0 : Int32), t_disk, (0 : Int32))
set_option maxHeartbeats 4000000 in
set_option maxRecDepth 100000 in
theorem c_Md_spoil (l : Launch) (D : va_G) (cA : Nat → ClassId) (a_t a_t_disk a_t_tape a_t_waitBlock a_t_waitByte a_t_waitOldest : Nat) (t_first t_last : Value) (sz : Nat) (n_t_disk : Nat) (t_disk : Nat → Int32) (n_t_tape : Nat) (t_tape : Nat → Int32) (t_tapeLong : Int32) (t_kept : Int32) (t_next : Int32) (t_come : Int32) (t_crashes : Int32) (t_thrown : Int32) (t_open : Int32) (t_openFirst : Int32) (t_openMany : Int32) (t_openBytes : Int32) (t_nextPage : Int32) (t_turn : Int32) (t_oldest : Int32) (n_t_waitBlock : Nat) (t_waitBlock : Nat → Int32) (n_t_waitByte : Nat) (t_waitByte : Nat → Int32) (n_t_waitOldest : Nat) (t_waitOldest : Nat → Int32) (t_waiting : Int32) (p0 : Int32) (p1 : Int32) (p2 : Int32) (o : Int32 × (Nat → Int32) × Int32) (hf : f_Md_spoil n_t_disk t_disk n_t_tape t_tape t_tapeLong t_kept t_next t_come t_crashes t_thrown t_open t_openFirst t_openMany t_openBytes t_nextPage t_turn t_oldest n_t_waitBlock t_waitBlock n_t_waitByte t_waitByte n_t_waitOldest t_waitOldest t_waiting p0 p1 p2 = some o) : Met l y_Md_spoil wd_Md_spoil ({ frames := 0, cells := 0, slots := 0, locals := 0 }) (va_Pc [.ref a_t, .int p0, .int p1, .int p2] (aP D cA [(a_t, .inr (8, [.ref a_t_disk, .ref a_t_tape, .int t_tapeLong, t_first, t_last, .int t_kept, .int t_next, .int t_come, .int t_crashes, .int t_thrown, .int t_open, .int t_openFirst, .int t_openMany, .int t_openBytes, .int t_nextPage, .int t_turn, .int t_oldest, .ref a_t_waitBlock, .ref a_t_waitByte, .ref a_t_waitOldest, .int t_waiting])), (a_t_disk, .inl ((cA 0), n_t_disk, .inl t_disk)), (a_t_tape, .inl ((cA 0), n_t_tape, .inl t_tape)), (a_t_waitBlock, .inl ((cA 0), n_t_waitBlock, .inl t_waitBlock)), (a_t_waitByte, .inl ((cA 0), n_t_waitByte, .inl t_waitByte)), (a_t_waitOldest, .inl ((cA 0), n_t_waitOldest, .inl t_waitOldest))] sz)) (va_Qi (fun r9 (_ : Unit) => r9 = o.1) (fun _ => aR D cA (va_A [(a_t, .inr (8, [.ref a_t_disk, .ref a_t_tape, .int t_tapeLong, t_first, t_last, .int t_kept, .int t_next, .int t_come, .int t_crashes, .int t_thrown, .int t_open, .int t_openFirst, .int t_openMany, .int t_openBytes, .int t_nextPage, .int t_turn, .int t_oldest, .ref a_t_waitBlock, .ref a_t_waitByte, .ref a_t_waitOldest, .int t_waiting])), (a_t_disk, .inl ((cA 0), n_t_disk, .inl t_disk)), (a_t_tape, .inl ((cA 0), n_t_tape, .inl t_tape)), (a_t_waitBlock, .inl ((cA 0), n_t_waitBlock, .inl t_waitBlock)), (a_t_waitByte, .inl ((cA 0), n_t_waitByte, .inl t_waitByte)), (a_t_waitOldest, .inl ((cA 0), n_t_waitOldest, .inl t_waitOldest))] sz) [(a_t, .inr (8, [.ref a_t_disk, .ref a_t_tape, .int t_tapeLong, t_first, t_last, .int t_kept, .int t_next, .int t_come, .int t_crashes, .int o.2.2, .int t_open, .int t_openFirst, .int t_openMany, .int t_openBytes, .int t_nextPage, .int t_turn, .int t_oldest, .ref a_t_waitBlock, .ref a_t_waitByte, .ref a_t_waitOldest, .int t_waiting])), (a_t_disk, .inl ((cA 0), n_t_disk, .inl o.2.1)), (a_t_tape, .inl ((cA 0), n_t_tape, .inl t_tape)), (a_t_waitBlock, .inl ((cA 0), n_t_waitBlock, .inl t_waitBlock)), (a_t_waitByte, .inl ((cA 0), n_t_waitByte, .inl t_waitByte)), (a_t_waitOldest, .inl ((cA 0), n_t_waitOldest, .inl t_waitOldest))]) (va_A [(a_t, .inr (8, [.ref a_t_disk, .ref a_t_tape, .int t_tapeLong, t_first, t_last, .int t_kept, .int t_next, .int t_come, .int t_crashes, .int t_thrown, .int t_open, .int t_openFirst, .int t_openMany, .int t_openBytes, .int t_nextPage, .int t_turn, .int t_oldest, .ref a_t_waitBlock, .ref a_t_waitByte, .ref a_t_waitOldest, .int t_waiting])), (a_t_disk, .inl ((cA 0), n_t_disk, .inl t_disk)), (a_t_tape, .inl ((cA 0), n_t_tape, .inl t_tape)), (a_t_waitBlock, .inl ((cA 0), n_t_waitBlock, .inl t_waitBlock)), (a_t_waitByte, .inl ((cA 0), n_t_waitByte, .inl t_waitByte)), (a_t_waitOldest, .inl ((cA 0), n_t_waitOldest, .inl t_waitOldest))] sz)) 0 0 (va_A [(a_t, .inr (8, [.ref a_t_disk, .ref a_t_tape, .int t_tapeLong, t_first, t_last, .int t_kept, .int t_next, .int t_come, .int t_crashes, .int t_thrown, .int t_open, .int t_openFirst, .int t_openMany, .int t_openBytes, .int t_nextPage, .int t_turn, .int t_oldest, .ref a_t_waitBlock, .ref a_t_waitByte, .ref a_t_waitOldest, .int t_waiting])), (a_t_disk, .inl ((cA 0), n_t_disk, .inl t_disk)), (a_t_tape, .inl ((cA 0), n_t_tape, .inl t_tape)), (a_t_waitBlock, .inl ((cA 0), n_t_waitBlock, .inl t_waitBlock)), (a_t_waitByte, .inl ((cA 0), n_t_waitByte, .inl t_waitByte)), (a_t_waitOldest, .inl ((cA 0), n_t_waitOldest, .inl t_waitOldest))] sz) := by
  refine Met.ofW (cc := b_Md_spoil) (maxL := 4) (ret := (some .boolean)) (by decide +kernel) rfl ?_
  intro p e s m args below meth c s₁ B hml hv
  obtain ⟨rfl, hsz, hP, hK, hD0, hE⟩ := hv
  have hx := B.exec
  have hb := B.bytes
  have hr := B.returns
  have hts := atoms_spec (ws := wd_Md_spoil) B.pre
  have hown : s.vm.findClass R_Md = some m.cls := findClass_of_methodNamed B.named
  have hlocks := B.notSynchronized
  subst hsz
  have hD := hD0.self (sz := s.heap.size)
  generalize hAe : va_A [(a_t, .inr (8, [.ref a_t_disk, .ref a_t_tape, .int t_tapeLong, t_first, t_last, .int t_kept, .int t_next, .int t_come, .int t_crashes, .int t_thrown, .int t_open, .int t_openFirst, .int t_openMany, .int t_openBytes, .int t_nextPage, .int t_turn, .int t_oldest, .ref a_t_waitBlock, .ref a_t_waitByte, .ref a_t_waitOldest, .int t_waiting])), (a_t_disk, .inl ((cA 0), n_t_disk, .inl t_disk)), (a_t_tape, .inl ((cA 0), n_t_tape, .inl t_tape)), (a_t_waitBlock, .inl ((cA 0), n_t_waitBlock, .inl t_waitBlock)), (a_t_waitByte, .inl ((cA 0), n_t_waitByte, .inl t_waitByte)), (a_t_waitOldest, .inl ((cA 0), n_t_waitOldest, .inl t_waitOldest))] s.heap.size = A at hD hE ⊢
  have hA : ∀ q : Nat, s.heap.size ≤ q → A q := fun q h => by rw [← hAe]; exact Or.inr h
  have hS : va_S A s.heap s.heap [] := va_S.rf
  have hl := lv_entry [.ref a_t, .int p0, .int p1, .int p2] (n := 4) (Nat.le_of_ble_eq_true rfl)
  rw [lg_entry_eq]
  generalize (lg_sl [.ref a_t, .int p0, .int p1, .int p2] ++ List.replicate (4 - (lg_sl [.ref a_t, .int p0, .int p1, .int p2]).length) Slot.unset).toArray = ls at hl ⊢
  have hl : lv_has ls 4 [(0, .ref a_t), (1, .int p0), (2, .int p1), (3, .int p2)] := hl
  unfold f_Md_spoil at hf
  refine lv_aload_n hx hb d_Md_spoil_0 rfl (lv_at hl 0 rfl) ?_
  refine lv_iconst (v := 0) hx hb d_Md_spoil_1 (by decide) ?_
  refine va_put (D := D) (ci := 8) (v := .int (0 : Int32)) (ty := .int) (C := R_Md) (T := F_Md) (N := 21) hx hb hts (fun w9 h9 => .tail _ (gu_Md w9 h9)) t_Md t_Md_ok n_Md hown hK hP hD hS 0 rfl rfl 9 (by decide) (hts _ (.tail _ gm_293)) (fun _ h9 => h9) rfl (by decide +kernel) rfl rfl (Nat.le_of_ble_eq_true rfl) d_Md_spoil_2 (fun H locs hP hD hS => ?_)
  have hP : va_P D classes [(a_t, .inr (8, [.ref a_t_disk, .ref a_t_tape, .int t_tapeLong, t_first, t_last, .int t_kept, .int t_next, .int t_come, .int t_crashes, .int (0 : Int32), .int t_open, .int t_openFirst, .int t_openMany, .int t_openBytes, .int t_nextPage, .int t_turn, .int t_oldest, .ref a_t_waitBlock, .ref a_t_waitByte, .ref a_t_waitOldest, .int t_waiting])), (a_t_disk, .inl ((cA 0), n_t_disk, .inl t_disk)), (a_t_tape, .inl ((cA 0), n_t_tape, .inl t_tape)), (a_t_waitBlock, .inl ((cA 0), n_t_waitBlock, .inl t_waitBlock)), (a_t_waitByte, .inl ((cA 0), n_t_waitByte, .inl t_waitByte)), (a_t_waitOldest, .inl ((cA 0), n_t_waitOldest, .inl t_waitOldest))] H := hP
  have hD : va_D A [(a_t, .inr (8, [.ref a_t_disk, .ref a_t_tape, .int t_tapeLong, t_first, t_last, .int t_kept, .int t_next, .int t_come, .int t_crashes, .int (0 : Int32), .int t_open, .int t_openFirst, .int t_openMany, .int t_openBytes, .int t_nextPage, .int t_turn, .int t_oldest, .ref a_t_waitBlock, .ref a_t_waitByte, .ref a_t_waitOldest, .int t_waiting])), (a_t_disk, .inl ((cA 0), n_t_disk, .inl t_disk)), (a_t_tape, .inl ((cA 0), n_t_tape, .inl t_tape)), (a_t_waitBlock, .inl ((cA 0), n_t_waitBlock, .inl t_waitBlock)), (a_t_waitByte, .inl ((cA 0), n_t_waitByte, .inl t_waitByte)), (a_t_waitOldest, .inl ((cA 0), n_t_waitOldest, .inl t_waitOldest))] := hD
  refine lv_iload_n hx hb d_Md_spoil_5 rfl (lv_at hl 1 rfl) ?_
  refine lv_if_lt (tgt := 25) hx hb d_Md_spoil_6 (by decide) (fun c_1 => ?_) (fun c_1 => ?_)
  · replace hf := (if_pos c_1).symm.trans hf
    refine lv_iconst (v := 0) hx hb d_Md_spoil_25 (by decide) ?_
    have ho9 := Option.some.inj hf
    subst ho9
    have hP9 := hP.sub (ws' := [(a_t, .inr (8, [.ref a_t_disk, .ref a_t_tape, .int t_tapeLong, t_first, t_last, .int t_kept, .int t_next, .int t_come, .int t_crashes, .int (0 : Int32), .int t_open, .int t_openFirst, .int t_openMany, .int t_openBytes, .int t_nextPage, .int t_turn, .int t_oldest, .ref a_t_waitBlock, .ref a_t_waitByte, .ref a_t_waitOldest, .int t_waiting])), (a_t_disk, .inl ((cA 0), n_t_disk, .inl t_disk)), (a_t_tape, .inl ((cA 0), n_t_tape, .inl t_tape)), (a_t_waitBlock, .inl ((cA 0), n_t_waitBlock, .inl t_waitBlock)), (a_t_waitByte, .inl ((cA 0), n_t_waitByte, .inl t_waitByte)), (a_t_waitOldest, .inl ((cA 0), n_t_waitOldest, .inl t_waitOldest))]) [0, 1, 2, 3, 4, 5] rfl
    have hD9 := hD.sub (ws' := [(a_t, .inr (8, [.ref a_t_disk, .ref a_t_tape, .int t_tapeLong, t_first, t_last, .int t_kept, .int t_next, .int t_come, .int t_crashes, .int (0 : Int32), .int t_open, .int t_openFirst, .int t_openMany, .int t_openBytes, .int t_nextPage, .int t_turn, .int t_oldest, .ref a_t_waitBlock, .ref a_t_waitByte, .ref a_t_waitOldest, .int t_waiting])), (a_t_disk, .inl ((cA 0), n_t_disk, .inl t_disk)), (a_t_tape, .inl ((cA 0), n_t_tape, .inl t_tape)), (a_t_waitBlock, .inl ((cA 0), n_t_waitBlock, .inl t_waitBlock)), (a_t_waitByte, .inl ((cA 0), n_t_waitByte, .inl t_waitByte)), (a_t_waitOldest, .inl ((cA 0), n_t_waitOldest, .inl t_waitOldest))]) [0, 1, 2, 3, 4, 5] (by decide) rfl
    exact W.zret (v := (0 : Int32)) hx hb hr rfl (fun t ht hW => ⟨⟨_, (), rfl, rfl, by rw [ht]; exact hP9, va_K.moved hW.alike hK, hD9⟩, hS.F ht⟩) hS.2.2 d_Md_spoil_26
  · replace hf := (if_neg c_1).symm.trans hf
    refine lv_iload_n hx hb d_Md_spoil_9 rfl (lv_at hl 1 rfl) ?_
    refine lv_bipush (v := 32) hx hb d_Md_spoil_10 (by decide) ?_
    refine lv_icmp_ge (tgt := 25) hx hb d_Md_spoil_12 (by decide) (fun c_2 => ?_) (fun c_2 => ?_)
    · replace hf := (if_pos c_2).symm.trans hf
      refine lv_iconst (v := 0) hx hb d_Md_spoil_25 (by decide) ?_
      have ho9 := Option.some.inj hf
      subst ho9
      have hP9 := hP.sub (ws' := [(a_t, .inr (8, [.ref a_t_disk, .ref a_t_tape, .int t_tapeLong, t_first, t_last, .int t_kept, .int t_next, .int t_come, .int t_crashes, .int (0 : Int32), .int t_open, .int t_openFirst, .int t_openMany, .int t_openBytes, .int t_nextPage, .int t_turn, .int t_oldest, .ref a_t_waitBlock, .ref a_t_waitByte, .ref a_t_waitOldest, .int t_waiting])), (a_t_disk, .inl ((cA 0), n_t_disk, .inl t_disk)), (a_t_tape, .inl ((cA 0), n_t_tape, .inl t_tape)), (a_t_waitBlock, .inl ((cA 0), n_t_waitBlock, .inl t_waitBlock)), (a_t_waitByte, .inl ((cA 0), n_t_waitByte, .inl t_waitByte)), (a_t_waitOldest, .inl ((cA 0), n_t_waitOldest, .inl t_waitOldest))]) [0, 1, 2, 3, 4, 5] rfl
      have hD9 := hD.sub (ws' := [(a_t, .inr (8, [.ref a_t_disk, .ref a_t_tape, .int t_tapeLong, t_first, t_last, .int t_kept, .int t_next, .int t_come, .int t_crashes, .int (0 : Int32), .int t_open, .int t_openFirst, .int t_openMany, .int t_openBytes, .int t_nextPage, .int t_turn, .int t_oldest, .ref a_t_waitBlock, .ref a_t_waitByte, .ref a_t_waitOldest, .int t_waiting])), (a_t_disk, .inl ((cA 0), n_t_disk, .inl t_disk)), (a_t_tape, .inl ((cA 0), n_t_tape, .inl t_tape)), (a_t_waitBlock, .inl ((cA 0), n_t_waitBlock, .inl t_waitBlock)), (a_t_waitByte, .inl ((cA 0), n_t_waitByte, .inl t_waitByte)), (a_t_waitOldest, .inl ((cA 0), n_t_waitOldest, .inl t_waitOldest))]) [0, 1, 2, 3, 4, 5] (by decide) rfl
      exact W.zret (v := (0 : Int32)) hx hb hr rfl (fun t ht hW => ⟨⟨_, (), rfl, rfl, by rw [ht]; exact hP9, va_K.moved hW.alike hK, hD9⟩, hS.F ht⟩) hS.2.2 d_Md_spoil_26
    · replace hf := (if_neg c_2).symm.trans hf
      refine lv_iload_n hx hb d_Md_spoil_15 rfl (lv_at hl 2 rfl) ?_
      refine lv_if_lt (tgt := 25) hx hb d_Md_spoil_16 (by decide) (fun c_3 => ?_) (fun c_3 => ?_)
      · replace hf := (if_pos c_3).symm.trans hf
        refine lv_iconst (v := 0) hx hb d_Md_spoil_25 (by decide) ?_
        have ho9 := Option.some.inj hf
        subst ho9
        have hP9 := hP.sub (ws' := [(a_t, .inr (8, [.ref a_t_disk, .ref a_t_tape, .int t_tapeLong, t_first, t_last, .int t_kept, .int t_next, .int t_come, .int t_crashes, .int (0 : Int32), .int t_open, .int t_openFirst, .int t_openMany, .int t_openBytes, .int t_nextPage, .int t_turn, .int t_oldest, .ref a_t_waitBlock, .ref a_t_waitByte, .ref a_t_waitOldest, .int t_waiting])), (a_t_disk, .inl ((cA 0), n_t_disk, .inl t_disk)), (a_t_tape, .inl ((cA 0), n_t_tape, .inl t_tape)), (a_t_waitBlock, .inl ((cA 0), n_t_waitBlock, .inl t_waitBlock)), (a_t_waitByte, .inl ((cA 0), n_t_waitByte, .inl t_waitByte)), (a_t_waitOldest, .inl ((cA 0), n_t_waitOldest, .inl t_waitOldest))]) [0, 1, 2, 3, 4, 5] rfl
        have hD9 := hD.sub (ws' := [(a_t, .inr (8, [.ref a_t_disk, .ref a_t_tape, .int t_tapeLong, t_first, t_last, .int t_kept, .int t_next, .int t_come, .int t_crashes, .int (0 : Int32), .int t_open, .int t_openFirst, .int t_openMany, .int t_openBytes, .int t_nextPage, .int t_turn, .int t_oldest, .ref a_t_waitBlock, .ref a_t_waitByte, .ref a_t_waitOldest, .int t_waiting])), (a_t_disk, .inl ((cA 0), n_t_disk, .inl t_disk)), (a_t_tape, .inl ((cA 0), n_t_tape, .inl t_tape)), (a_t_waitBlock, .inl ((cA 0), n_t_waitBlock, .inl t_waitBlock)), (a_t_waitByte, .inl ((cA 0), n_t_waitByte, .inl t_waitByte)), (a_t_waitOldest, .inl ((cA 0), n_t_waitOldest, .inl t_waitOldest))]) [0, 1, 2, 3, 4, 5] (by decide) rfl
        exact W.zret (v := (0 : Int32)) hx hb hr rfl (fun t ht hW => ⟨⟨_, (), rfl, rfl, by rw [ht]; exact hP9, va_K.moved hW.alike hK, hD9⟩, hS.F ht⟩) hS.2.2 d_Md_spoil_26
      · replace hf := (if_neg c_3).symm.trans hf
        refine lv_iload_n hx hb d_Md_spoil_19 rfl (lv_at hl 2 rfl) ?_
        refine lv_bipush (v := 64) hx hb d_Md_spoil_20 (by decide) ?_
        refine lv_icmp_lt (tgt := 27) hx hb d_Md_spoil_22 (by decide) (fun c_4 => ?_) (fun c_4 => ?_)
        · replace hf := (if_pos c_4).symm.trans hf
          refine lv_aload_n hx hb d_Md_spoil_27 rfl (lv_at hl 0 rfl) ?_
          refine va_get (D := D) (ci := 8) (v := .ref a_t_disk) (C := R_Md) (T := F_Md) (N := 21) hx hb hts (fun w9 h9 => .tail _ (gu_Md w9 h9)) hown hK hP 0 rfl rfl 0 (by decide) (hts _ (.tail _ gm_305)) (fun _ h9 => h9) rfl d_Md_spoil_28 ?_
          refine lv_bipush (v := 64) hx hb d_Md_spoil_31 (by decide) ?_
          refine lv_iload_n hx hb d_Md_spoil_33 rfl (lv_at hl 1 rfl) ?_
          refine lv_imul hx hb d_Md_spoil_34 ?_
          refine lv_iload_n hx hb d_Md_spoil_35 rfl (lv_at hl 2 rfl) ?_
          refine lv_iadd hx hb d_Md_spoil_36 ?_
          refine lv_iload_n hx hb d_Md_spoil_37 rfl (lv_at hl 3 rfl) ?_
          refine lv_sipush (v := 255) hx hb d_Md_spoil_38 (by decide) ?_
          refine lv_iand hx hb d_Md_spoil_41 ?_
          obtain ⟨ck_5, hf⟩ := hk_if hf
          refine va_iast hx hb hK hP hD hS 1 0 rfl rfl ck_5 d_Md_spoil_42 (fun H locs hP hD hS => ?_)
          have hP : va_P D classes [(a_t, .inr (8, [.ref a_t_disk, .ref a_t_tape, .int t_tapeLong, t_first, t_last, .int t_kept, .int t_next, .int t_come, .int t_crashes, .int (0 : Int32), .int t_open, .int t_openFirst, .int t_openMany, .int t_openBytes, .int t_nextPage, .int t_turn, .int t_oldest, .ref a_t_waitBlock, .ref a_t_waitByte, .ref a_t_waitOldest, .int t_waiting])), (a_t_disk, .inl ((cA 0), n_t_disk, .inl (upd t_disk (((64 : Int32) * p0) + p1).toNatClampNeg (p2 &&& (255 : Int32))))), (a_t_tape, .inl ((cA 0), n_t_tape, .inl t_tape)), (a_t_waitBlock, .inl ((cA 0), n_t_waitBlock, .inl t_waitBlock)), (a_t_waitByte, .inl ((cA 0), n_t_waitByte, .inl t_waitByte)), (a_t_waitOldest, .inl ((cA 0), n_t_waitOldest, .inl t_waitOldest))] H := hP
          have hD : va_D A [(a_t, .inr (8, [.ref a_t_disk, .ref a_t_tape, .int t_tapeLong, t_first, t_last, .int t_kept, .int t_next, .int t_come, .int t_crashes, .int (0 : Int32), .int t_open, .int t_openFirst, .int t_openMany, .int t_openBytes, .int t_nextPage, .int t_turn, .int t_oldest, .ref a_t_waitBlock, .ref a_t_waitByte, .ref a_t_waitOldest, .int t_waiting])), (a_t_disk, .inl ((cA 0), n_t_disk, .inl (upd t_disk (((64 : Int32) * p0) + p1).toNatClampNeg (p2 &&& (255 : Int32))))), (a_t_tape, .inl ((cA 0), n_t_tape, .inl t_tape)), (a_t_waitBlock, .inl ((cA 0), n_t_waitBlock, .inl t_waitBlock)), (a_t_waitByte, .inl ((cA 0), n_t_waitByte, .inl t_waitByte)), (a_t_waitOldest, .inl ((cA 0), n_t_waitOldest, .inl t_waitOldest))] := hD
          refine lv_iconst (v := 1) hx hb d_Md_spoil_43 (by decide) ?_
          have ho9 := Option.some.inj hf
          subst ho9
          have hP9 := hP.sub (ws' := [(a_t, .inr (8, [.ref a_t_disk, .ref a_t_tape, .int t_tapeLong, t_first, t_last, .int t_kept, .int t_next, .int t_come, .int t_crashes, .int (0 : Int32), .int t_open, .int t_openFirst, .int t_openMany, .int t_openBytes, .int t_nextPage, .int t_turn, .int t_oldest, .ref a_t_waitBlock, .ref a_t_waitByte, .ref a_t_waitOldest, .int t_waiting])), (a_t_disk, .inl ((cA 0), n_t_disk, .inl (upd t_disk (((64 : Int32) * p0) + p1).toNatClampNeg (p2 &&& (255 : Int32))))), (a_t_tape, .inl ((cA 0), n_t_tape, .inl t_tape)), (a_t_waitBlock, .inl ((cA 0), n_t_waitBlock, .inl t_waitBlock)), (a_t_waitByte, .inl ((cA 0), n_t_waitByte, .inl t_waitByte)), (a_t_waitOldest, .inl ((cA 0), n_t_waitOldest, .inl t_waitOldest))]) [0, 1, 2, 3, 4, 5] rfl
          have hD9 := hD.sub (ws' := [(a_t, .inr (8, [.ref a_t_disk, .ref a_t_tape, .int t_tapeLong, t_first, t_last, .int t_kept, .int t_next, .int t_come, .int t_crashes, .int (0 : Int32), .int t_open, .int t_openFirst, .int t_openMany, .int t_openBytes, .int t_nextPage, .int t_turn, .int t_oldest, .ref a_t_waitBlock, .ref a_t_waitByte, .ref a_t_waitOldest, .int t_waiting])), (a_t_disk, .inl ((cA 0), n_t_disk, .inl (upd t_disk (((64 : Int32) * p0) + p1).toNatClampNeg (p2 &&& (255 : Int32))))), (a_t_tape, .inl ((cA 0), n_t_tape, .inl t_tape)), (a_t_waitBlock, .inl ((cA 0), n_t_waitBlock, .inl t_waitBlock)), (a_t_waitByte, .inl ((cA 0), n_t_waitByte, .inl t_waitByte)), (a_t_waitOldest, .inl ((cA 0), n_t_waitOldest, .inl t_waitOldest))]) [0, 1, 2, 3, 4, 5] (by decide) rfl
          exact W.zret (v := (1 : Int32)) hx hb hr rfl (fun t ht hW => ⟨⟨_, (), rfl, rfl, by rw [ht]; exact hP9, va_K.moved hW.alike hK, hD9⟩, hS.F ht⟩) hS.2.2 d_Md_spoil_44
        · replace hf := (if_neg c_4).symm.trans hf
          refine lv_iconst (v := 0) hx hb d_Md_spoil_25 (by decide) ?_
          have ho9 := Option.some.inj hf
          subst ho9
          have hP9 := hP.sub (ws' := [(a_t, .inr (8, [.ref a_t_disk, .ref a_t_tape, .int t_tapeLong, t_first, t_last, .int t_kept, .int t_next, .int t_come, .int t_crashes, .int (0 : Int32), .int t_open, .int t_openFirst, .int t_openMany, .int t_openBytes, .int t_nextPage, .int t_turn, .int t_oldest, .ref a_t_waitBlock, .ref a_t_waitByte, .ref a_t_waitOldest, .int t_waiting])), (a_t_disk, .inl ((cA 0), n_t_disk, .inl t_disk)), (a_t_tape, .inl ((cA 0), n_t_tape, .inl t_tape)), (a_t_waitBlock, .inl ((cA 0), n_t_waitBlock, .inl t_waitBlock)), (a_t_waitByte, .inl ((cA 0), n_t_waitByte, .inl t_waitByte)), (a_t_waitOldest, .inl ((cA 0), n_t_waitOldest, .inl t_waitOldest))]) [0, 1, 2, 3, 4, 5] rfl
          have hD9 := hD.sub (ws' := [(a_t, .inr (8, [.ref a_t_disk, .ref a_t_tape, .int t_tapeLong, t_first, t_last, .int t_kept, .int t_next, .int t_come, .int t_crashes, .int (0 : Int32), .int t_open, .int t_openFirst, .int t_openMany, .int t_openBytes, .int t_nextPage, .int t_turn, .int t_oldest, .ref a_t_waitBlock, .ref a_t_waitByte, .ref a_t_waitOldest, .int t_waiting])), (a_t_disk, .inl ((cA 0), n_t_disk, .inl t_disk)), (a_t_tape, .inl ((cA 0), n_t_tape, .inl t_tape)), (a_t_waitBlock, .inl ((cA 0), n_t_waitBlock, .inl t_waitBlock)), (a_t_waitByte, .inl ((cA 0), n_t_waitByte, .inl t_waitByte)), (a_t_waitOldest, .inl ((cA 0), n_t_waitOldest, .inl t_waitOldest))]) [0, 1, 2, 3, 4, 5] (by decide) rfl
          exact W.zret (v := (0 : Int32)) hx hb hr rfl (fun t ht hW => ⟨⟨_, (), rfl, rfl, by rw [ht]; exact hP9, va_K.moved hW.alike hK, hD9⟩, hS.F ht⟩) hS.2.2 d_Md_spoil_26
theorem d_Md_disk_0 : decode b_Md_disk 0 = .ok (.aload_n 0, 1) := by decide +kernel
theorem d_Md_disk_1 : decode b_Md_disk 1 = .ok (.iconst 0, 1) := by decide +kernel
theorem d_Md_disk_2 : decode b_Md_disk 2 = .ok (.putfield 53, 3) := by decide +kernel
theorem d_Md_disk_5 : decode b_Md_disk 5 = .ok (.iload_n 1, 1) := by decide +kernel
theorem d_Md_disk_6 : decode b_Md_disk 6 = .ok (.ifCond .lt 19, 3) := by decide +kernel
theorem d_Md_disk_9 : decode b_Md_disk 9 = .ok (.iload_n 1, 1) := by decide +kernel
theorem d_Md_disk_10 : decode b_Md_disk 10 = .ok (.bipush 32, 2) := by decide +kernel
theorem d_Md_disk_12 : decode b_Md_disk 12 = .ok (.if_icmp .ge 13, 3) := by decide +kernel
theorem d_Md_disk_15 : decode b_Md_disk 15 = .ok (.iload_n 2, 1) := by decide +kernel
theorem d_Md_disk_16 : decode b_Md_disk 16 = .ok (.ifCond .lt 9, 3) := by decide +kernel
theorem d_Md_disk_19 : decode b_Md_disk 19 = .ok (.iload_n 2, 1) := by decide +kernel
theorem d_Md_disk_20 : decode b_Md_disk 20 = .ok (.bipush 64, 2) := by decide +kernel
theorem d_Md_disk_22 : decode b_Md_disk 22 = .ok (.if_icmp .lt 7, 3) := by decide +kernel
theorem d_Md_disk_25 : decode b_Md_disk 25 = .ok (.iconst (-1), 1) := by decide +kernel
theorem d_Md_disk_26 : decode b_Md_disk 26 = .ok (.goto 14, 3) := by decide +kernel
theorem d_Md_disk_29 : decode b_Md_disk 29 = .ok (.aload_n 0, 1) := by decide +kernel
theorem d_Md_disk_30 : decode b_Md_disk 30 = .ok (.getfield 7, 3) := by decide +kernel
theorem d_Md_disk_33 : decode b_Md_disk 33 = .ok (.bipush 64, 2) := by decide +kernel
theorem d_Md_disk_35 : decode b_Md_disk 35 = .ok (.iload_n 1, 1) := by decide +kernel
theorem d_Md_disk_36 : decode b_Md_disk 36 = .ok (.imul, 1) := by decide +kernel
theorem d_Md_disk_37 : decode b_Md_disk 37 = .ok (.iload_n 2, 1) := by decide +kernel
theorem d_Md_disk_38 : decode b_Md_disk 38 = .ok (.iadd, 1) := by decide +kernel
theorem d_Md_disk_39 : decode b_Md_disk 39 = .ok (.iaload, 1) := by decide +kernel
theorem d_Md_disk_40 : decode b_Md_disk 40 = .ok (.ireturn, 1) := by decide +kernel
abbrev wd_Md_disk : List Cond := .code y_Md_disk b_Md_disk 3 (some .int) :: gw
def f_Md_disk (n_t_disk : Nat) (t_disk : Nat → Int32) (n_t_tape : Nat) (t_tape : Nat → Int32) (t_tapeLong : Int32) (t_kept : Int32) (t_next : Int32) (t_come : Int32) (t_crashes : Int32) (t_thrown : Int32) (t_open : Int32) (t_openFirst : Int32) (t_openMany : Int32) (t_openBytes : Int32) (t_nextPage : Int32) (t_turn : Int32) (t_oldest : Int32) (n_t_waitBlock : Nat) (t_waitBlock : Nat → Int32) (n_t_waitByte : Nat) (t_waitByte : Nat → Int32) (n_t_waitOldest : Nat) (t_waitOldest : Nat → Int32) (t_waiting : Int32) (p0 : Int32) (p1 : Int32) : Option (Int32 × Int32) :=
  if p0 < 0 then
    some ((-1 : Int32), (0 : Int32))
  else
    if (32 : Int32) ≤ p0 then
      some ((-1 : Int32), (0 : Int32))
    else
      if p1 < 0 then
        some ((-1 : Int32), (0 : Int32))
      else
        if p1 < (64 : Int32) then
          if (((64 : Int32) * p0) + p1) < 0 ∨ n_t_disk ≤ (((64 : Int32) * p0) + p1).toNatClampNeg then none else
          some ((t_disk (((64 : Int32) * p0) + p1).toNatClampNeg), (0 : Int32))
        else
          some ((-1 : Int32), (0 : Int32))
set_option maxHeartbeats 4000000 in
set_option maxRecDepth 100000 in
theorem c_Md_disk (l : Launch) (D : va_G) (cA : Nat → ClassId) (a_t a_t_disk a_t_tape a_t_waitBlock a_t_waitByte a_t_waitOldest : Nat) (t_first t_last : Value) (sz : Nat) (n_t_disk : Nat) (t_disk : Nat → Int32) (n_t_tape : Nat) (t_tape : Nat → Int32) (t_tapeLong : Int32) (t_kept : Int32) (t_next : Int32) (t_come : Int32) (t_crashes : Int32) (t_thrown : Int32) (t_open : Int32) (t_openFirst : Int32) (t_openMany : Int32) (t_openBytes : Int32) (t_nextPage : Int32) (t_turn : Int32) (t_oldest : Int32) (n_t_waitBlock : Nat) (t_waitBlock : Nat → Int32) (n_t_waitByte : Nat) (t_waitByte : Nat → Int32) (n_t_waitOldest : Nat) (t_waitOldest : Nat → Int32) (t_waiting : Int32) (p0 : Int32) (p1 : Int32) (o : Int32 × Int32) (hf : f_Md_disk n_t_disk t_disk n_t_tape t_tape t_tapeLong t_kept t_next t_come t_crashes t_thrown t_open t_openFirst t_openMany t_openBytes t_nextPage t_turn t_oldest n_t_waitBlock t_waitBlock n_t_waitByte t_waitByte n_t_waitOldest t_waitOldest t_waiting p0 p1 = some o) : Met l y_Md_disk wd_Md_disk ({ frames := 0, cells := 0, slots := 0, locals := 0 }) (va_Pc [.ref a_t, .int p0, .int p1] (aP D cA [(a_t, .inr (8, [.ref a_t_disk, .ref a_t_tape, .int t_tapeLong, t_first, t_last, .int t_kept, .int t_next, .int t_come, .int t_crashes, .int t_thrown, .int t_open, .int t_openFirst, .int t_openMany, .int t_openBytes, .int t_nextPage, .int t_turn, .int t_oldest, .ref a_t_waitBlock, .ref a_t_waitByte, .ref a_t_waitOldest, .int t_waiting])), (a_t_disk, .inl ((cA 0), n_t_disk, .inl t_disk)), (a_t_tape, .inl ((cA 0), n_t_tape, .inl t_tape)), (a_t_waitBlock, .inl ((cA 0), n_t_waitBlock, .inl t_waitBlock)), (a_t_waitByte, .inl ((cA 0), n_t_waitByte, .inl t_waitByte)), (a_t_waitOldest, .inl ((cA 0), n_t_waitOldest, .inl t_waitOldest))] sz)) (va_Qi (fun r9 (_ : Unit) => r9 = o.1) (fun _ => aR D cA (va_A [(a_t, .inr (8, [.ref a_t_disk, .ref a_t_tape, .int t_tapeLong, t_first, t_last, .int t_kept, .int t_next, .int t_come, .int t_crashes, .int t_thrown, .int t_open, .int t_openFirst, .int t_openMany, .int t_openBytes, .int t_nextPage, .int t_turn, .int t_oldest, .ref a_t_waitBlock, .ref a_t_waitByte, .ref a_t_waitOldest, .int t_waiting])), (a_t_disk, .inl ((cA 0), n_t_disk, .inl t_disk)), (a_t_tape, .inl ((cA 0), n_t_tape, .inl t_tape)), (a_t_waitBlock, .inl ((cA 0), n_t_waitBlock, .inl t_waitBlock)), (a_t_waitByte, .inl ((cA 0), n_t_waitByte, .inl t_waitByte)), (a_t_waitOldest, .inl ((cA 0), n_t_waitOldest, .inl t_waitOldest))] sz) [(a_t, .inr (8, [.ref a_t_disk, .ref a_t_tape, .int t_tapeLong, t_first, t_last, .int t_kept, .int t_next, .int t_come, .int t_crashes, .int o.2, .int t_open, .int t_openFirst, .int t_openMany, .int t_openBytes, .int t_nextPage, .int t_turn, .int t_oldest, .ref a_t_waitBlock, .ref a_t_waitByte, .ref a_t_waitOldest, .int t_waiting])), (a_t_disk, .inl ((cA 0), n_t_disk, .inl t_disk)), (a_t_tape, .inl ((cA 0), n_t_tape, .inl t_tape)), (a_t_waitBlock, .inl ((cA 0), n_t_waitBlock, .inl t_waitBlock)), (a_t_waitByte, .inl ((cA 0), n_t_waitByte, .inl t_waitByte)), (a_t_waitOldest, .inl ((cA 0), n_t_waitOldest, .inl t_waitOldest))]) (va_A [(a_t, .inr (8, [.ref a_t_disk, .ref a_t_tape, .int t_tapeLong, t_first, t_last, .int t_kept, .int t_next, .int t_come, .int t_crashes, .int t_thrown, .int t_open, .int t_openFirst, .int t_openMany, .int t_openBytes, .int t_nextPage, .int t_turn, .int t_oldest, .ref a_t_waitBlock, .ref a_t_waitByte, .ref a_t_waitOldest, .int t_waiting])), (a_t_disk, .inl ((cA 0), n_t_disk, .inl t_disk)), (a_t_tape, .inl ((cA 0), n_t_tape, .inl t_tape)), (a_t_waitBlock, .inl ((cA 0), n_t_waitBlock, .inl t_waitBlock)), (a_t_waitByte, .inl ((cA 0), n_t_waitByte, .inl t_waitByte)), (a_t_waitOldest, .inl ((cA 0), n_t_waitOldest, .inl t_waitOldest))] sz)) 0 0 (va_A [(a_t, .inr (8, [.ref a_t_disk, .ref a_t_tape, .int t_tapeLong, t_first, t_last, .int t_kept, .int t_next, .int t_come, .int t_crashes, .int t_thrown, .int t_open, .int t_openFirst, .int t_openMany, .int t_openBytes, .int t_nextPage, .int t_turn, .int t_oldest, .ref a_t_waitBlock, .ref a_t_waitByte, .ref a_t_waitOldest, .int t_waiting])), (a_t_disk, .inl ((cA 0), n_t_disk, .inl t_disk)), (a_t_tape, .inl ((cA 0), n_t_tape, .inl t_tape)), (a_t_waitBlock, .inl ((cA 0), n_t_waitBlock, .inl t_waitBlock)), (a_t_waitByte, .inl ((cA 0), n_t_waitByte, .inl t_waitByte)), (a_t_waitOldest, .inl ((cA 0), n_t_waitOldest, .inl t_waitOldest))] sz) := by
  refine Met.ofW (cc := b_Md_disk) (maxL := 3) (ret := (some .int)) (by decide +kernel) rfl ?_
  intro p e s m args below meth c s₁ B hml hv
  obtain ⟨rfl, hsz, hP, hK, hD0, hE⟩ := hv
  have hx := B.exec
  have hb := B.bytes
  have hr := B.returns
  have hts := atoms_spec (ws := wd_Md_disk) B.pre
  have hown : s.vm.findClass R_Md = some m.cls := findClass_of_methodNamed B.named
  have hlocks := B.notSynchronized
  subst hsz
  have hD := hD0.self (sz := s.heap.size)
  generalize hAe : va_A [(a_t, .inr (8, [.ref a_t_disk, .ref a_t_tape, .int t_tapeLong, t_first, t_last, .int t_kept, .int t_next, .int t_come, .int t_crashes, .int t_thrown, .int t_open, .int t_openFirst, .int t_openMany, .int t_openBytes, .int t_nextPage, .int t_turn, .int t_oldest, .ref a_t_waitBlock, .ref a_t_waitByte, .ref a_t_waitOldest, .int t_waiting])), (a_t_disk, .inl ((cA 0), n_t_disk, .inl t_disk)), (a_t_tape, .inl ((cA 0), n_t_tape, .inl t_tape)), (a_t_waitBlock, .inl ((cA 0), n_t_waitBlock, .inl t_waitBlock)), (a_t_waitByte, .inl ((cA 0), n_t_waitByte, .inl t_waitByte)), (a_t_waitOldest, .inl ((cA 0), n_t_waitOldest, .inl t_waitOldest))] s.heap.size = A at hD hE ⊢
  have hA : ∀ q : Nat, s.heap.size ≤ q → A q := fun q h => by rw [← hAe]; exact Or.inr h
  have hS : va_S A s.heap s.heap [] := va_S.rf
  have hl := lv_entry [.ref a_t, .int p0, .int p1] (n := 3) (Nat.le_of_ble_eq_true rfl)
  rw [lg_entry_eq]
  generalize (lg_sl [.ref a_t, .int p0, .int p1] ++ List.replicate (3 - (lg_sl [.ref a_t, .int p0, .int p1]).length) Slot.unset).toArray = ls at hl ⊢
  have hl : lv_has ls 3 [(0, .ref a_t), (1, .int p0), (2, .int p1)] := hl
  unfold f_Md_disk at hf
  refine lv_aload_n hx hb d_Md_disk_0 rfl (lv_at hl 0 rfl) ?_
  refine lv_iconst (v := 0) hx hb d_Md_disk_1 (by decide) ?_
  refine va_put (D := D) (ci := 8) (v := .int (0 : Int32)) (ty := .int) (C := R_Md) (T := F_Md) (N := 21) hx hb hts (fun w9 h9 => .tail _ (gu_Md w9 h9)) t_Md t_Md_ok n_Md hown hK hP hD hS 0 rfl rfl 9 (by decide) (hts _ (.tail _ gm_293)) (fun _ h9 => h9) rfl (by decide +kernel) rfl rfl (Nat.le_of_ble_eq_true rfl) d_Md_disk_2 (fun H locs hP hD hS => ?_)
  have hP : va_P D classes [(a_t, .inr (8, [.ref a_t_disk, .ref a_t_tape, .int t_tapeLong, t_first, t_last, .int t_kept, .int t_next, .int t_come, .int t_crashes, .int (0 : Int32), .int t_open, .int t_openFirst, .int t_openMany, .int t_openBytes, .int t_nextPage, .int t_turn, .int t_oldest, .ref a_t_waitBlock, .ref a_t_waitByte, .ref a_t_waitOldest, .int t_waiting])), (a_t_disk, .inl ((cA 0), n_t_disk, .inl t_disk)), (a_t_tape, .inl ((cA 0), n_t_tape, .inl t_tape)), (a_t_waitBlock, .inl ((cA 0), n_t_waitBlock, .inl t_waitBlock)), (a_t_waitByte, .inl ((cA 0), n_t_waitByte, .inl t_waitByte)), (a_t_waitOldest, .inl ((cA 0), n_t_waitOldest, .inl t_waitOldest))] H := hP
  have hD : va_D A [(a_t, .inr (8, [.ref a_t_disk, .ref a_t_tape, .int t_tapeLong, t_first, t_last, .int t_kept, .int t_next, .int t_come, .int t_crashes, .int (0 : Int32), .int t_open, .int t_openFirst, .int t_openMany, .int t_openBytes, .int t_nextPage, .int t_turn, .int t_oldest, .ref a_t_waitBlock, .ref a_t_waitByte, .ref a_t_waitOldest, .int t_waiting])), (a_t_disk, .inl ((cA 0), n_t_disk, .inl t_disk)), (a_t_tape, .inl ((cA 0), n_t_tape, .inl t_tape)), (a_t_waitBlock, .inl ((cA 0), n_t_waitBlock, .inl t_waitBlock)), (a_t_waitByte, .inl ((cA 0), n_t_waitByte, .inl t_waitByte)), (a_t_waitOldest, .inl ((cA 0), n_t_waitOldest, .inl t_waitOldest))] := hD
  refine lv_iload_n hx hb d_Md_disk_5 rfl (lv_at hl 1 rfl) ?_
  refine lv_if_lt (tgt := 25) hx hb d_Md_disk_6 (by decide) (fun c_1 => ?_) (fun c_1 => ?_)
  · replace hf := (if_pos c_1).symm.trans hf
    refine lv_iconst (v := (-1)) hx hb d_Md_disk_25 (by decide) ?_
    refine lv_goto (tgt := 40) hx hb d_Md_disk_26 (by decide) ?_
    have ho9 := Option.some.inj hf
    subst ho9
    have hP9 := hP.sub (ws' := [(a_t, .inr (8, [.ref a_t_disk, .ref a_t_tape, .int t_tapeLong, t_first, t_last, .int t_kept, .int t_next, .int t_come, .int t_crashes, .int (0 : Int32), .int t_open, .int t_openFirst, .int t_openMany, .int t_openBytes, .int t_nextPage, .int t_turn, .int t_oldest, .ref a_t_waitBlock, .ref a_t_waitByte, .ref a_t_waitOldest, .int t_waiting])), (a_t_disk, .inl ((cA 0), n_t_disk, .inl t_disk)), (a_t_tape, .inl ((cA 0), n_t_tape, .inl t_tape)), (a_t_waitBlock, .inl ((cA 0), n_t_waitBlock, .inl t_waitBlock)), (a_t_waitByte, .inl ((cA 0), n_t_waitByte, .inl t_waitByte)), (a_t_waitOldest, .inl ((cA 0), n_t_waitOldest, .inl t_waitOldest))]) [0, 1, 2, 3, 4, 5] rfl
    have hD9 := hD.sub (ws' := [(a_t, .inr (8, [.ref a_t_disk, .ref a_t_tape, .int t_tapeLong, t_first, t_last, .int t_kept, .int t_next, .int t_come, .int t_crashes, .int (0 : Int32), .int t_open, .int t_openFirst, .int t_openMany, .int t_openBytes, .int t_nextPage, .int t_turn, .int t_oldest, .ref a_t_waitBlock, .ref a_t_waitByte, .ref a_t_waitOldest, .int t_waiting])), (a_t_disk, .inl ((cA 0), n_t_disk, .inl t_disk)), (a_t_tape, .inl ((cA 0), n_t_tape, .inl t_tape)), (a_t_waitBlock, .inl ((cA 0), n_t_waitBlock, .inl t_waitBlock)), (a_t_waitByte, .inl ((cA 0), n_t_waitByte, .inl t_waitByte)), (a_t_waitOldest, .inl ((cA 0), n_t_waitOldest, .inl t_waitOldest))]) [0, 1, 2, 3, 4, 5] (by decide) rfl
    exact W.iret (v := (-1 : Int32)) hx hb hr (fun t ht hW => ⟨⟨_, (), rfl, rfl, by rw [ht]; exact hP9, va_K.moved hW.alike hK, hD9⟩, hS.F ht⟩) hS.2.2 d_Md_disk_40
  · replace hf := (if_neg c_1).symm.trans hf
    refine lv_iload_n hx hb d_Md_disk_9 rfl (lv_at hl 1 rfl) ?_
    refine lv_bipush (v := 32) hx hb d_Md_disk_10 (by decide) ?_
    refine lv_icmp_ge (tgt := 25) hx hb d_Md_disk_12 (by decide) (fun c_2 => ?_) (fun c_2 => ?_)
    · replace hf := (if_pos c_2).symm.trans hf
      refine lv_iconst (v := (-1)) hx hb d_Md_disk_25 (by decide) ?_
      refine lv_goto (tgt := 40) hx hb d_Md_disk_26 (by decide) ?_
      have ho9 := Option.some.inj hf
      subst ho9
      have hP9 := hP.sub (ws' := [(a_t, .inr (8, [.ref a_t_disk, .ref a_t_tape, .int t_tapeLong, t_first, t_last, .int t_kept, .int t_next, .int t_come, .int t_crashes, .int (0 : Int32), .int t_open, .int t_openFirst, .int t_openMany, .int t_openBytes, .int t_nextPage, .int t_turn, .int t_oldest, .ref a_t_waitBlock, .ref a_t_waitByte, .ref a_t_waitOldest, .int t_waiting])), (a_t_disk, .inl ((cA 0), n_t_disk, .inl t_disk)), (a_t_tape, .inl ((cA 0), n_t_tape, .inl t_tape)), (a_t_waitBlock, .inl ((cA 0), n_t_waitBlock, .inl t_waitBlock)), (a_t_waitByte, .inl ((cA 0), n_t_waitByte, .inl t_waitByte)), (a_t_waitOldest, .inl ((cA 0), n_t_waitOldest, .inl t_waitOldest))]) [0, 1, 2, 3, 4, 5] rfl
      have hD9 := hD.sub (ws' := [(a_t, .inr (8, [.ref a_t_disk, .ref a_t_tape, .int t_tapeLong, t_first, t_last, .int t_kept, .int t_next, .int t_come, .int t_crashes, .int (0 : Int32), .int t_open, .int t_openFirst, .int t_openMany, .int t_openBytes, .int t_nextPage, .int t_turn, .int t_oldest, .ref a_t_waitBlock, .ref a_t_waitByte, .ref a_t_waitOldest, .int t_waiting])), (a_t_disk, .inl ((cA 0), n_t_disk, .inl t_disk)), (a_t_tape, .inl ((cA 0), n_t_tape, .inl t_tape)), (a_t_waitBlock, .inl ((cA 0), n_t_waitBlock, .inl t_waitBlock)), (a_t_waitByte, .inl ((cA 0), n_t_waitByte, .inl t_waitByte)), (a_t_waitOldest, .inl ((cA 0), n_t_waitOldest, .inl t_waitOldest))]) [0, 1, 2, 3, 4, 5] (by decide) rfl
      exact W.iret (v := (-1 : Int32)) hx hb hr (fun t ht hW => ⟨⟨_, (), rfl, rfl, by rw [ht]; exact hP9, va_K.moved hW.alike hK, hD9⟩, hS.F ht⟩) hS.2.2 d_Md_disk_40
    · replace hf := (if_neg c_2).symm.trans hf
      refine lv_iload_n hx hb d_Md_disk_15 rfl (lv_at hl 2 rfl) ?_
      refine lv_if_lt (tgt := 25) hx hb d_Md_disk_16 (by decide) (fun c_3 => ?_) (fun c_3 => ?_)
      · replace hf := (if_pos c_3).symm.trans hf
        refine lv_iconst (v := (-1)) hx hb d_Md_disk_25 (by decide) ?_
        refine lv_goto (tgt := 40) hx hb d_Md_disk_26 (by decide) ?_
        have ho9 := Option.some.inj hf
        subst ho9
        have hP9 := hP.sub (ws' := [(a_t, .inr (8, [.ref a_t_disk, .ref a_t_tape, .int t_tapeLong, t_first, t_last, .int t_kept, .int t_next, .int t_come, .int t_crashes, .int (0 : Int32), .int t_open, .int t_openFirst, .int t_openMany, .int t_openBytes, .int t_nextPage, .int t_turn, .int t_oldest, .ref a_t_waitBlock, .ref a_t_waitByte, .ref a_t_waitOldest, .int t_waiting])), (a_t_disk, .inl ((cA 0), n_t_disk, .inl t_disk)), (a_t_tape, .inl ((cA 0), n_t_tape, .inl t_tape)), (a_t_waitBlock, .inl ((cA 0), n_t_waitBlock, .inl t_waitBlock)), (a_t_waitByte, .inl ((cA 0), n_t_waitByte, .inl t_waitByte)), (a_t_waitOldest, .inl ((cA 0), n_t_waitOldest, .inl t_waitOldest))]) [0, 1, 2, 3, 4, 5] rfl
        have hD9 := hD.sub (ws' := [(a_t, .inr (8, [.ref a_t_disk, .ref a_t_tape, .int t_tapeLong, t_first, t_last, .int t_kept, .int t_next, .int t_come, .int t_crashes, .int (0 : Int32), .int t_open, .int t_openFirst, .int t_openMany, .int t_openBytes, .int t_nextPage, .int t_turn, .int t_oldest, .ref a_t_waitBlock, .ref a_t_waitByte, .ref a_t_waitOldest, .int t_waiting])), (a_t_disk, .inl ((cA 0), n_t_disk, .inl t_disk)), (a_t_tape, .inl ((cA 0), n_t_tape, .inl t_tape)), (a_t_waitBlock, .inl ((cA 0), n_t_waitBlock, .inl t_waitBlock)), (a_t_waitByte, .inl ((cA 0), n_t_waitByte, .inl t_waitByte)), (a_t_waitOldest, .inl ((cA 0), n_t_waitOldest, .inl t_waitOldest))]) [0, 1, 2, 3, 4, 5] (by decide) rfl
        exact W.iret (v := (-1 : Int32)) hx hb hr (fun t ht hW => ⟨⟨_, (), rfl, rfl, by rw [ht]; exact hP9, va_K.moved hW.alike hK, hD9⟩, hS.F ht⟩) hS.2.2 d_Md_disk_40
      · replace hf := (if_neg c_3).symm.trans hf
        refine lv_iload_n hx hb d_Md_disk_19 rfl (lv_at hl 2 rfl) ?_
        refine lv_bipush (v := 64) hx hb d_Md_disk_20 (by decide) ?_
        refine lv_icmp_lt (tgt := 29) hx hb d_Md_disk_22 (by decide) (fun c_4 => ?_) (fun c_4 => ?_)
        · replace hf := (if_pos c_4).symm.trans hf
          refine lv_aload_n hx hb d_Md_disk_29 rfl (lv_at hl 0 rfl) ?_
          refine va_get (D := D) (ci := 8) (v := .ref a_t_disk) (C := R_Md) (T := F_Md) (N := 21) hx hb hts (fun w9 h9 => .tail _ (gu_Md w9 h9)) hown hK hP 0 rfl rfl 0 (by decide) (hts _ (.tail _ gm_305)) (fun _ h9 => h9) rfl d_Md_disk_30 ?_
          refine lv_bipush (v := 64) hx hb d_Md_disk_33 (by decide) ?_
          refine lv_iload_n hx hb d_Md_disk_35 rfl (lv_at hl 1 rfl) ?_
          refine lv_imul hx hb d_Md_disk_36 ?_
          refine lv_iload_n hx hb d_Md_disk_37 rfl (lv_at hl 2 rfl) ?_
          refine lv_iadd hx hb d_Md_disk_38 ?_
          obtain ⟨ck_5, hf⟩ := hk_if hf
          refine va_iald hx hb hK hP 1 0 rfl rfl ck_5 d_Md_disk_39 ?_
          have ho9 := Option.some.inj hf
          subst ho9
          have hP9 := hP.sub (ws' := [(a_t, .inr (8, [.ref a_t_disk, .ref a_t_tape, .int t_tapeLong, t_first, t_last, .int t_kept, .int t_next, .int t_come, .int t_crashes, .int (0 : Int32), .int t_open, .int t_openFirst, .int t_openMany, .int t_openBytes, .int t_nextPage, .int t_turn, .int t_oldest, .ref a_t_waitBlock, .ref a_t_waitByte, .ref a_t_waitOldest, .int t_waiting])), (a_t_disk, .inl ((cA 0), n_t_disk, .inl t_disk)), (a_t_tape, .inl ((cA 0), n_t_tape, .inl t_tape)), (a_t_waitBlock, .inl ((cA 0), n_t_waitBlock, .inl t_waitBlock)), (a_t_waitByte, .inl ((cA 0), n_t_waitByte, .inl t_waitByte)), (a_t_waitOldest, .inl ((cA 0), n_t_waitOldest, .inl t_waitOldest))]) [0, 1, 2, 3, 4, 5] rfl
          have hD9 := hD.sub (ws' := [(a_t, .inr (8, [.ref a_t_disk, .ref a_t_tape, .int t_tapeLong, t_first, t_last, .int t_kept, .int t_next, .int t_come, .int t_crashes, .int (0 : Int32), .int t_open, .int t_openFirst, .int t_openMany, .int t_openBytes, .int t_nextPage, .int t_turn, .int t_oldest, .ref a_t_waitBlock, .ref a_t_waitByte, .ref a_t_waitOldest, .int t_waiting])), (a_t_disk, .inl ((cA 0), n_t_disk, .inl t_disk)), (a_t_tape, .inl ((cA 0), n_t_tape, .inl t_tape)), (a_t_waitBlock, .inl ((cA 0), n_t_waitBlock, .inl t_waitBlock)), (a_t_waitByte, .inl ((cA 0), n_t_waitByte, .inl t_waitByte)), (a_t_waitOldest, .inl ((cA 0), n_t_waitOldest, .inl t_waitOldest))]) [0, 1, 2, 3, 4, 5] (by decide) rfl
          exact W.iret (v := (t_disk (((64 : Int32) * p0) + p1).toNatClampNeg)) hx hb hr (fun t ht hW => ⟨⟨_, (), rfl, rfl, by rw [ht]; exact hP9, va_K.moved hW.alike hK, hD9⟩, hS.F ht⟩) hS.2.2 d_Md_disk_40
        · replace hf := (if_neg c_4).symm.trans hf
          refine lv_iconst (v := (-1)) hx hb d_Md_disk_25 (by decide) ?_
          refine lv_goto (tgt := 40) hx hb d_Md_disk_26 (by decide) ?_
          have ho9 := Option.some.inj hf
          subst ho9
          have hP9 := hP.sub (ws' := [(a_t, .inr (8, [.ref a_t_disk, .ref a_t_tape, .int t_tapeLong, t_first, t_last, .int t_kept, .int t_next, .int t_come, .int t_crashes, .int (0 : Int32), .int t_open, .int t_openFirst, .int t_openMany, .int t_openBytes, .int t_nextPage, .int t_turn, .int t_oldest, .ref a_t_waitBlock, .ref a_t_waitByte, .ref a_t_waitOldest, .int t_waiting])), (a_t_disk, .inl ((cA 0), n_t_disk, .inl t_disk)), (a_t_tape, .inl ((cA 0), n_t_tape, .inl t_tape)), (a_t_waitBlock, .inl ((cA 0), n_t_waitBlock, .inl t_waitBlock)), (a_t_waitByte, .inl ((cA 0), n_t_waitByte, .inl t_waitByte)), (a_t_waitOldest, .inl ((cA 0), n_t_waitOldest, .inl t_waitOldest))]) [0, 1, 2, 3, 4, 5] rfl
          have hD9 := hD.sub (ws' := [(a_t, .inr (8, [.ref a_t_disk, .ref a_t_tape, .int t_tapeLong, t_first, t_last, .int t_kept, .int t_next, .int t_come, .int t_crashes, .int (0 : Int32), .int t_open, .int t_openFirst, .int t_openMany, .int t_openBytes, .int t_nextPage, .int t_turn, .int t_oldest, .ref a_t_waitBlock, .ref a_t_waitByte, .ref a_t_waitOldest, .int t_waiting])), (a_t_disk, .inl ((cA 0), n_t_disk, .inl t_disk)), (a_t_tape, .inl ((cA 0), n_t_tape, .inl t_tape)), (a_t_waitBlock, .inl ((cA 0), n_t_waitBlock, .inl t_waitBlock)), (a_t_waitByte, .inl ((cA 0), n_t_waitByte, .inl t_waitByte)), (a_t_waitOldest, .inl ((cA 0), n_t_waitOldest, .inl t_waitOldest))]) [0, 1, 2, 3, 4, 5] (by decide) rfl
          exact W.iret (v := (-1 : Int32)) hx hb hr (fun t ht hW => ⟨⟨_, (), rfl, rfl, by rw [ht]; exact hP9, va_K.moved hW.alike hK, hD9⟩, hS.F ht⟩) hS.2.2 d_Md_disk_40
theorem d_Md_write_0 : decode b_Md_write 0 = .ok (.aload_n 0, 1) := by decide +kernel
theorem d_Md_write_1 : decode b_Md_write 1 = .ok (.iload_n 1, 1) := by decide +kernel
theorem d_Md_write_2 : decode b_Md_write 2 = .ok (.ifCond .lt 21, 3) := by decide +kernel
theorem d_Md_write_5 : decode b_Md_write 5 = .ok (.iload_n 1, 1) := by decide +kernel
theorem d_Md_write_6 : decode b_Md_write 6 = .ok (.aload_n 0, 1) := by decide +kernel
theorem d_Md_write_7 : decode b_Md_write 7 = .ok (.getfield 57, 3) := by decide +kernel
theorem d_Md_write_10 : decode b_Md_write 10 = .ok (.if_icmp .ge 13, 3) := by decide +kernel
theorem d_Md_write_13 : decode b_Md_write 13 = .ok (.iload_n 2, 1) := by decide +kernel
theorem d_Md_write_14 : decode b_Md_write 14 = .ok (.ifCond .lt 9, 3) := by decide +kernel
theorem d_Md_write_17 : decode b_Md_write 17 = .ok (.iload_n 2, 1) := by decide +kernel
theorem d_Md_write_18 : decode b_Md_write 18 = .ok (.bipush 64, 2) := by decide +kernel
theorem d_Md_write_20 : decode b_Md_write 20 = .ok (.if_icmp .le 7, 3) := by decide +kernel
theorem d_Md_write_23 : decode b_Md_write 23 = .ok (.iconst 1, 1) := by decide +kernel
theorem d_Md_write_24 : decode b_Md_write 24 = .ok (.goto 4, 3) := by decide +kernel
theorem d_Md_write_27 : decode b_Md_write 27 = .ok (.iconst 0, 1) := by decide +kernel
theorem d_Md_write_28 : decode b_Md_write 28 = .ok (.putfield 53, 3) := by decide +kernel
theorem d_Md_write_31 : decode b_Md_write 31 = .ok (.aload_n 0, 1) := by decide +kernel
theorem d_Md_write_32 : decode b_Md_write 32 = .ok (.getfield 53, 3) := by decide +kernel
theorem d_Md_write_35 : decode b_Md_write 35 = .ok (.ifCond .eq 5, 3) := by decide +kernel
theorem d_Md_write_38 : decode b_Md_write 38 = .ok (.iconst 0, 1) := by decide +kernel
theorem d_Md_write_39 : decode b_Md_write 39 = .ok (.ireturn, 1) := by decide +kernel
theorem d_Md_write_40 : decode b_Md_write 40 = .ok (.iload_n 2, 1) := by decide +kernel
theorem d_Md_write_41 : decode b_Md_write 41 = .ok (.ifCond .ne 12, 3) := by decide +kernel
theorem d_Md_write_44 : decode b_Md_write 44 = .ok (.aload_n 0, 1) := by decide +kernel
theorem d_Md_write_45 : decode b_Md_write 45 = .ok (.getfield 38, 3) := by decide +kernel
theorem d_Md_write_48 : decode b_Md_write 48 = .ok (.iload_n 1, 1) := by decide +kernel
theorem d_Md_write_49 : decode b_Md_write 49 = .ok (.iaload, 1) := by decide +kernel
theorem d_Md_write_50 : decode b_Md_write 50 = .ok (.goto 16, 3) := by decide +kernel
theorem d_Md_write_53 : decode b_Md_write 53 = .ok (.aload_n 0, 1) := by decide +kernel
theorem d_Md_write_54 : decode b_Md_write 54 = .ok (.getfield 41, 3) := by decide +kernel
theorem d_Md_write_57 : decode b_Md_write 57 = .ok (.bipush 64, 2) := by decide +kernel
theorem d_Md_write_59 : decode b_Md_write 59 = .ok (.iload_n 1, 1) := by decide +kernel
theorem d_Md_write_60 : decode b_Md_write 60 = .ok (.imul, 1) := by decide +kernel
theorem d_Md_write_61 : decode b_Md_write 61 = .ok (.iload_n 2, 1) := by decide +kernel
theorem d_Md_write_62 : decode b_Md_write 62 = .ok (.iadd, 1) := by decide +kernel
theorem d_Md_write_63 : decode b_Md_write 63 = .ok (.iconst 1, 1) := by decide +kernel
theorem d_Md_write_64 : decode b_Md_write 64 = .ok (.isub, 1) := by decide +kernel
theorem d_Md_write_65 : decode b_Md_write 65 = .ok (.iaload, 1) := by decide +kernel
theorem d_Md_write_66 : decode b_Md_write 66 = .ok (.ireturn, 1) := by decide +kernel
abbrev wd_Md_write : List Cond := .code y_Md_write b_Md_write 3 (some .int) :: gw
def f_Md_write (n_t_disk : Nat) (t_disk : Nat → Int32) (n_t_tape : Nat) (t_tape : Nat → Int32) (t_tapeLong : Int32) (t_kept : Int32) (t_next : Int32) (t_come : Int32) (t_crashes : Int32) (t_thrown : Int32) (t_open : Int32) (t_openFirst : Int32) (t_openMany : Int32) (t_openBytes : Int32) (t_nextPage : Int32) (t_turn : Int32) (t_oldest : Int32) (n_t_waitBlock : Nat) (t_waitBlock : Nat → Int32) (n_t_waitByte : Nat) (t_waitByte : Nat → Int32) (n_t_waitOldest : Nat) (t_waitOldest : Nat → Int32) (t_waiting : Int32) (p0 : Int32) (p1 : Int32) : Option (Int32 × Int32) :=
  if p0 < 0 then
    some ((0 : Int32), (1 : Int32))
  else
    if t_waiting ≤ p0 then
      some ((0 : Int32), (1 : Int32))
    else
      if p1 < 0 then
        some ((0 : Int32), (1 : Int32))
      else
        if p1 ≤ (64 : Int32) then
          if p1 = 0 then
            if p0 < 0 ∨ n_t_waitBlock ≤ p0.toNatClampNeg then none else
            some ((t_waitBlock p0.toNatClampNeg), (0 : Int32))
          else
            if ((((64 : Int32) * p0) + p1) - (1 : Int32)) < 0 ∨ n_t_waitByte ≤ ((((64 : Int32) * p0) + p1) - (1 : Int32)).toNatClampNeg then none else
            some ((t_waitByte ((((64 : Int32) * p0) + p1) - (1 : Int32)).toNatClampNeg), (0 : Int32))
        else
          some ((0 : Int32), (1 : Int32))
set_option maxHeartbeats 4000000 in
set_option maxRecDepth 100000 in
theorem c_Md_write (l : Launch) (D : va_G) (cA : Nat → ClassId) (a_t a_t_disk a_t_tape a_t_waitBlock a_t_waitByte a_t_waitOldest : Nat) (t_first t_last : Value) (sz : Nat) (n_t_disk : Nat) (t_disk : Nat → Int32) (n_t_tape : Nat) (t_tape : Nat → Int32) (t_tapeLong : Int32) (t_kept : Int32) (t_next : Int32) (t_come : Int32) (t_crashes : Int32) (t_thrown : Int32) (t_open : Int32) (t_openFirst : Int32) (t_openMany : Int32) (t_openBytes : Int32) (t_nextPage : Int32) (t_turn : Int32) (t_oldest : Int32) (n_t_waitBlock : Nat) (t_waitBlock : Nat → Int32) (n_t_waitByte : Nat) (t_waitByte : Nat → Int32) (n_t_waitOldest : Nat) (t_waitOldest : Nat → Int32) (t_waiting : Int32) (p0 : Int32) (p1 : Int32) (o : Int32 × Int32) (hf : f_Md_write n_t_disk t_disk n_t_tape t_tape t_tapeLong t_kept t_next t_come t_crashes t_thrown t_open t_openFirst t_openMany t_openBytes t_nextPage t_turn t_oldest n_t_waitBlock t_waitBlock n_t_waitByte t_waitByte n_t_waitOldest t_waitOldest t_waiting p0 p1 = some o) : Met l y_Md_write wd_Md_write ({ frames := 0, cells := 0, slots := 0, locals := 0 }) (va_Pc [.ref a_t, .int p0, .int p1] (aP D cA [(a_t, .inr (8, [.ref a_t_disk, .ref a_t_tape, .int t_tapeLong, t_first, t_last, .int t_kept, .int t_next, .int t_come, .int t_crashes, .int t_thrown, .int t_open, .int t_openFirst, .int t_openMany, .int t_openBytes, .int t_nextPage, .int t_turn, .int t_oldest, .ref a_t_waitBlock, .ref a_t_waitByte, .ref a_t_waitOldest, .int t_waiting])), (a_t_disk, .inl ((cA 0), n_t_disk, .inl t_disk)), (a_t_tape, .inl ((cA 0), n_t_tape, .inl t_tape)), (a_t_waitBlock, .inl ((cA 0), n_t_waitBlock, .inl t_waitBlock)), (a_t_waitByte, .inl ((cA 0), n_t_waitByte, .inl t_waitByte)), (a_t_waitOldest, .inl ((cA 0), n_t_waitOldest, .inl t_waitOldest))] sz)) (va_Qi (fun r9 (_ : Unit) => r9 = o.1) (fun _ => aR D cA (va_A [(a_t, .inr (8, [.ref a_t_disk, .ref a_t_tape, .int t_tapeLong, t_first, t_last, .int t_kept, .int t_next, .int t_come, .int t_crashes, .int t_thrown, .int t_open, .int t_openFirst, .int t_openMany, .int t_openBytes, .int t_nextPage, .int t_turn, .int t_oldest, .ref a_t_waitBlock, .ref a_t_waitByte, .ref a_t_waitOldest, .int t_waiting])), (a_t_disk, .inl ((cA 0), n_t_disk, .inl t_disk)), (a_t_tape, .inl ((cA 0), n_t_tape, .inl t_tape)), (a_t_waitBlock, .inl ((cA 0), n_t_waitBlock, .inl t_waitBlock)), (a_t_waitByte, .inl ((cA 0), n_t_waitByte, .inl t_waitByte)), (a_t_waitOldest, .inl ((cA 0), n_t_waitOldest, .inl t_waitOldest))] sz) [(a_t, .inr (8, [.ref a_t_disk, .ref a_t_tape, .int t_tapeLong, t_first, t_last, .int t_kept, .int t_next, .int t_come, .int t_crashes, .int o.2, .int t_open, .int t_openFirst, .int t_openMany, .int t_openBytes, .int t_nextPage, .int t_turn, .int t_oldest, .ref a_t_waitBlock, .ref a_t_waitByte, .ref a_t_waitOldest, .int t_waiting])), (a_t_disk, .inl ((cA 0), n_t_disk, .inl t_disk)), (a_t_tape, .inl ((cA 0), n_t_tape, .inl t_tape)), (a_t_waitBlock, .inl ((cA 0), n_t_waitBlock, .inl t_waitBlock)), (a_t_waitByte, .inl ((cA 0), n_t_waitByte, .inl t_waitByte)), (a_t_waitOldest, .inl ((cA 0), n_t_waitOldest, .inl t_waitOldest))]) (va_A [(a_t, .inr (8, [.ref a_t_disk, .ref a_t_tape, .int t_tapeLong, t_first, t_last, .int t_kept, .int t_next, .int t_come, .int t_crashes, .int t_thrown, .int t_open, .int t_openFirst, .int t_openMany, .int t_openBytes, .int t_nextPage, .int t_turn, .int t_oldest, .ref a_t_waitBlock, .ref a_t_waitByte, .ref a_t_waitOldest, .int t_waiting])), (a_t_disk, .inl ((cA 0), n_t_disk, .inl t_disk)), (a_t_tape, .inl ((cA 0), n_t_tape, .inl t_tape)), (a_t_waitBlock, .inl ((cA 0), n_t_waitBlock, .inl t_waitBlock)), (a_t_waitByte, .inl ((cA 0), n_t_waitByte, .inl t_waitByte)), (a_t_waitOldest, .inl ((cA 0), n_t_waitOldest, .inl t_waitOldest))] sz)) 0 0 (va_A [(a_t, .inr (8, [.ref a_t_disk, .ref a_t_tape, .int t_tapeLong, t_first, t_last, .int t_kept, .int t_next, .int t_come, .int t_crashes, .int t_thrown, .int t_open, .int t_openFirst, .int t_openMany, .int t_openBytes, .int t_nextPage, .int t_turn, .int t_oldest, .ref a_t_waitBlock, .ref a_t_waitByte, .ref a_t_waitOldest, .int t_waiting])), (a_t_disk, .inl ((cA 0), n_t_disk, .inl t_disk)), (a_t_tape, .inl ((cA 0), n_t_tape, .inl t_tape)), (a_t_waitBlock, .inl ((cA 0), n_t_waitBlock, .inl t_waitBlock)), (a_t_waitByte, .inl ((cA 0), n_t_waitByte, .inl t_waitByte)), (a_t_waitOldest, .inl ((cA 0), n_t_waitOldest, .inl t_waitOldest))] sz) := by
  refine Met.ofW (cc := b_Md_write) (maxL := 3) (ret := (some .int)) (by decide +kernel) rfl ?_
  intro p e s m args below meth c s₁ B hml hv
  obtain ⟨rfl, hsz, hP, hK, hD0, hE⟩ := hv
  have hx := B.exec
  have hb := B.bytes
  have hr := B.returns
  have hts := atoms_spec (ws := wd_Md_write) B.pre
  have hown : s.vm.findClass R_Md = some m.cls := findClass_of_methodNamed B.named
  have hlocks := B.notSynchronized
  subst hsz
  have hD := hD0.self (sz := s.heap.size)
  generalize hAe : va_A [(a_t, .inr (8, [.ref a_t_disk, .ref a_t_tape, .int t_tapeLong, t_first, t_last, .int t_kept, .int t_next, .int t_come, .int t_crashes, .int t_thrown, .int t_open, .int t_openFirst, .int t_openMany, .int t_openBytes, .int t_nextPage, .int t_turn, .int t_oldest, .ref a_t_waitBlock, .ref a_t_waitByte, .ref a_t_waitOldest, .int t_waiting])), (a_t_disk, .inl ((cA 0), n_t_disk, .inl t_disk)), (a_t_tape, .inl ((cA 0), n_t_tape, .inl t_tape)), (a_t_waitBlock, .inl ((cA 0), n_t_waitBlock, .inl t_waitBlock)), (a_t_waitByte, .inl ((cA 0), n_t_waitByte, .inl t_waitByte)), (a_t_waitOldest, .inl ((cA 0), n_t_waitOldest, .inl t_waitOldest))] s.heap.size = A at hD hE ⊢
  have hA : ∀ q : Nat, s.heap.size ≤ q → A q := fun q h => by rw [← hAe]; exact Or.inr h
  have hS : va_S A s.heap s.heap [] := va_S.rf
  have hl := lv_entry [.ref a_t, .int p0, .int p1] (n := 3) (Nat.le_of_ble_eq_true rfl)
  rw [lg_entry_eq]
  generalize (lg_sl [.ref a_t, .int p0, .int p1] ++ List.replicate (3 - (lg_sl [.ref a_t, .int p0, .int p1]).length) Slot.unset).toArray = ls at hl ⊢
  have hl : lv_has ls 3 [(0, .ref a_t), (1, .int p0), (2, .int p1)] := hl
  unfold f_Md_write at hf
  refine lv_aload_n hx hb d_Md_write_0 rfl (lv_at hl 0 rfl) ?_
  refine lv_iload_n hx hb d_Md_write_1 rfl (lv_at hl 1 rfl) ?_
  refine lv_if_lt (tgt := 23) hx hb d_Md_write_2 (by decide) (fun c_1 => ?_) (fun c_1 => ?_)
  · replace hf := (if_pos c_1).symm.trans hf
    refine lv_iconst (v := 1) hx hb d_Md_write_23 (by decide) ?_
    refine lv_goto (tgt := 28) hx hb d_Md_write_24 (by decide) ?_
    refine va_put (D := D) (ci := 8) (v := .int (1 : Int32)) (ty := .int) (C := R_Md) (T := F_Md) (N := 21) hx hb hts (fun w9 h9 => .tail _ (gu_Md w9 h9)) t_Md t_Md_ok n_Md hown hK hP hD hS 0 rfl rfl 9 (by decide) (hts _ (.tail _ gm_293)) (fun _ h9 => h9) rfl (by decide +kernel) rfl rfl (Nat.le_of_ble_eq_true rfl) d_Md_write_28 (fun H locs hP hD hS => ?_)
    have hP : va_P D classes [(a_t, .inr (8, [.ref a_t_disk, .ref a_t_tape, .int t_tapeLong, t_first, t_last, .int t_kept, .int t_next, .int t_come, .int t_crashes, .int (1 : Int32), .int t_open, .int t_openFirst, .int t_openMany, .int t_openBytes, .int t_nextPage, .int t_turn, .int t_oldest, .ref a_t_waitBlock, .ref a_t_waitByte, .ref a_t_waitOldest, .int t_waiting])), (a_t_disk, .inl ((cA 0), n_t_disk, .inl t_disk)), (a_t_tape, .inl ((cA 0), n_t_tape, .inl t_tape)), (a_t_waitBlock, .inl ((cA 0), n_t_waitBlock, .inl t_waitBlock)), (a_t_waitByte, .inl ((cA 0), n_t_waitByte, .inl t_waitByte)), (a_t_waitOldest, .inl ((cA 0), n_t_waitOldest, .inl t_waitOldest))] H := hP
    have hD : va_D A [(a_t, .inr (8, [.ref a_t_disk, .ref a_t_tape, .int t_tapeLong, t_first, t_last, .int t_kept, .int t_next, .int t_come, .int t_crashes, .int (1 : Int32), .int t_open, .int t_openFirst, .int t_openMany, .int t_openBytes, .int t_nextPage, .int t_turn, .int t_oldest, .ref a_t_waitBlock, .ref a_t_waitByte, .ref a_t_waitOldest, .int t_waiting])), (a_t_disk, .inl ((cA 0), n_t_disk, .inl t_disk)), (a_t_tape, .inl ((cA 0), n_t_tape, .inl t_tape)), (a_t_waitBlock, .inl ((cA 0), n_t_waitBlock, .inl t_waitBlock)), (a_t_waitByte, .inl ((cA 0), n_t_waitByte, .inl t_waitByte)), (a_t_waitOldest, .inl ((cA 0), n_t_waitOldest, .inl t_waitOldest))] := hD
    refine lv_aload_n hx hb d_Md_write_31 rfl (lv_at hl 0 rfl) ?_
    refine va_get (D := D) (ci := 8) (v := .int (1 : Int32)) (C := R_Md) (T := F_Md) (N := 21) hx hb hts (fun w9 h9 => .tail _ (gu_Md w9 h9)) hown hK hP 0 rfl rfl 9 (by decide) (hts _ (.tail _ gm_293)) (fun _ h9 => h9) rfl d_Md_write_32 ?_
    refine lv_if_eq (tgt := 40) hx hb d_Md_write_35 (by decide) (fun c9 => absurd c9 (by decide)) (fun _ => ?_)
    refine lv_iconst (v := 0) hx hb d_Md_write_38 (by decide) ?_
    have ho9 := Option.some.inj hf
    subst ho9
    have hP9 := hP.sub (ws' := [(a_t, .inr (8, [.ref a_t_disk, .ref a_t_tape, .int t_tapeLong, t_first, t_last, .int t_kept, .int t_next, .int t_come, .int t_crashes, .int (1 : Int32), .int t_open, .int t_openFirst, .int t_openMany, .int t_openBytes, .int t_nextPage, .int t_turn, .int t_oldest, .ref a_t_waitBlock, .ref a_t_waitByte, .ref a_t_waitOldest, .int t_waiting])), (a_t_disk, .inl ((cA 0), n_t_disk, .inl t_disk)), (a_t_tape, .inl ((cA 0), n_t_tape, .inl t_tape)), (a_t_waitBlock, .inl ((cA 0), n_t_waitBlock, .inl t_waitBlock)), (a_t_waitByte, .inl ((cA 0), n_t_waitByte, .inl t_waitByte)), (a_t_waitOldest, .inl ((cA 0), n_t_waitOldest, .inl t_waitOldest))]) [0, 1, 2, 3, 4, 5] rfl
    have hD9 := hD.sub (ws' := [(a_t, .inr (8, [.ref a_t_disk, .ref a_t_tape, .int t_tapeLong, t_first, t_last, .int t_kept, .int t_next, .int t_come, .int t_crashes, .int (1 : Int32), .int t_open, .int t_openFirst, .int t_openMany, .int t_openBytes, .int t_nextPage, .int t_turn, .int t_oldest, .ref a_t_waitBlock, .ref a_t_waitByte, .ref a_t_waitOldest, .int t_waiting])), (a_t_disk, .inl ((cA 0), n_t_disk, .inl t_disk)), (a_t_tape, .inl ((cA 0), n_t_tape, .inl t_tape)), (a_t_waitBlock, .inl ((cA 0), n_t_waitBlock, .inl t_waitBlock)), (a_t_waitByte, .inl ((cA 0), n_t_waitByte, .inl t_waitByte)), (a_t_waitOldest, .inl ((cA 0), n_t_waitOldest, .inl t_waitOldest))]) [0, 1, 2, 3, 4, 5] (by decide) rfl
    exact W.iret (v := (0 : Int32)) hx hb hr (fun t ht hW => ⟨⟨_, (), rfl, rfl, by rw [ht]; exact hP9, va_K.moved hW.alike hK, hD9⟩, hS.F ht⟩) hS.2.2 d_Md_write_39
  · replace hf := (if_neg c_1).symm.trans hf
    refine lv_iload_n hx hb d_Md_write_5 rfl (lv_at hl 1 rfl) ?_
    refine lv_aload_n hx hb d_Md_write_6 rfl (lv_at hl 0 rfl) ?_
    refine va_get (D := D) (ci := 8) (v := .int t_waiting) (C := R_Md) (T := F_Md) (N := 21) hx hb hts (fun w9 h9 => .tail _ (gu_Md w9 h9)) hown hK hP 0 rfl rfl 20 (by decide) (hts _ (.tail _ gm_296)) (fun _ h9 => h9) rfl d_Md_write_7 ?_
    refine lv_icmp_ge (tgt := 23) hx hb d_Md_write_10 (by decide) (fun c_2 => ?_) (fun c_2 => ?_)
    · replace hf := (if_pos c_2).symm.trans hf
      refine lv_iconst (v := 1) hx hb d_Md_write_23 (by decide) ?_
      refine lv_goto (tgt := 28) hx hb d_Md_write_24 (by decide) ?_
      refine va_put (D := D) (ci := 8) (v := .int (1 : Int32)) (ty := .int) (C := R_Md) (T := F_Md) (N := 21) hx hb hts (fun w9 h9 => .tail _ (gu_Md w9 h9)) t_Md t_Md_ok n_Md hown hK hP hD hS 0 rfl rfl 9 (by decide) (hts _ (.tail _ gm_293)) (fun _ h9 => h9) rfl (by decide +kernel) rfl rfl (Nat.le_of_ble_eq_true rfl) d_Md_write_28 (fun H locs hP hD hS => ?_)
      have hP : va_P D classes [(a_t, .inr (8, [.ref a_t_disk, .ref a_t_tape, .int t_tapeLong, t_first, t_last, .int t_kept, .int t_next, .int t_come, .int t_crashes, .int (1 : Int32), .int t_open, .int t_openFirst, .int t_openMany, .int t_openBytes, .int t_nextPage, .int t_turn, .int t_oldest, .ref a_t_waitBlock, .ref a_t_waitByte, .ref a_t_waitOldest, .int t_waiting])), (a_t_disk, .inl ((cA 0), n_t_disk, .inl t_disk)), (a_t_tape, .inl ((cA 0), n_t_tape, .inl t_tape)), (a_t_waitBlock, .inl ((cA 0), n_t_waitBlock, .inl t_waitBlock)), (a_t_waitByte, .inl ((cA 0), n_t_waitByte, .inl t_waitByte)), (a_t_waitOldest, .inl ((cA 0), n_t_waitOldest, .inl t_waitOldest))] H := hP
      have hD : va_D A [(a_t, .inr (8, [.ref a_t_disk, .ref a_t_tape, .int t_tapeLong, t_first, t_last, .int t_kept, .int t_next, .int t_come, .int t_crashes, .int (1 : Int32), .int t_open, .int t_openFirst, .int t_openMany, .int t_openBytes, .int t_nextPage, .int t_turn, .int t_oldest, .ref a_t_waitBlock, .ref a_t_waitByte, .ref a_t_waitOldest, .int t_waiting])), (a_t_disk, .inl ((cA 0), n_t_disk, .inl t_disk)), (a_t_tape, .inl ((cA 0), n_t_tape, .inl t_tape)), (a_t_waitBlock, .inl ((cA 0), n_t_waitBlock, .inl t_waitBlock)), (a_t_waitByte, .inl ((cA 0), n_t_waitByte, .inl t_waitByte)), (a_t_waitOldest, .inl ((cA 0), n_t_waitOldest, .inl t_waitOldest))] := hD
      refine lv_aload_n hx hb d_Md_write_31 rfl (lv_at hl 0 rfl) ?_
      refine va_get (D := D) (ci := 8) (v := .int (1 : Int32)) (C := R_Md) (T := F_Md) (N := 21) hx hb hts (fun w9 h9 => .tail _ (gu_Md w9 h9)) hown hK hP 0 rfl rfl 9 (by decide) (hts _ (.tail _ gm_293)) (fun _ h9 => h9) rfl d_Md_write_32 ?_
      refine lv_if_eq (tgt := 40) hx hb d_Md_write_35 (by decide) (fun c9 => absurd c9 (by decide)) (fun _ => ?_)
      refine lv_iconst (v := 0) hx hb d_Md_write_38 (by decide) ?_
      have ho9 := Option.some.inj hf
      subst ho9
      have hP9 := hP.sub (ws' := [(a_t, .inr (8, [.ref a_t_disk, .ref a_t_tape, .int t_tapeLong, t_first, t_last, .int t_kept, .int t_next, .int t_come, .int t_crashes, .int (1 : Int32), .int t_open, .int t_openFirst, .int t_openMany, .int t_openBytes, .int t_nextPage, .int t_turn, .int t_oldest, .ref a_t_waitBlock, .ref a_t_waitByte, .ref a_t_waitOldest, .int t_waiting])), (a_t_disk, .inl ((cA 0), n_t_disk, .inl t_disk)), (a_t_tape, .inl ((cA 0), n_t_tape, .inl t_tape)), (a_t_waitBlock, .inl ((cA 0), n_t_waitBlock, .inl t_waitBlock)), (a_t_waitByte, .inl ((cA 0), n_t_waitByte, .inl t_waitByte)), (a_t_waitOldest, .inl ((cA 0), n_t_waitOldest, .inl t_waitOldest))]) [0, 1, 2, 3, 4, 5] rfl
      have hD9 := hD.sub (ws' := [(a_t, .inr (8, [.ref a_t_disk, .ref a_t_tape, .int t_tapeLong, t_first, t_last, .int t_kept, .int t_next, .int t_come, .int t_crashes, .int (1 : Int32), .int t_open, .int t_openFirst, .int t_openMany, .int t_openBytes, .int t_nextPage, .int t_turn, .int t_oldest, .ref a_t_waitBlock, .ref a_t_waitByte, .ref a_t_waitOldest, .int t_waiting])), (a_t_disk, .inl ((cA 0), n_t_disk, .inl t_disk)), (a_t_tape, .inl ((cA 0), n_t_tape, .inl t_tape)), (a_t_waitBlock, .inl ((cA 0), n_t_waitBlock, .inl t_waitBlock)), (a_t_waitByte, .inl ((cA 0), n_t_waitByte, .inl t_waitByte)), (a_t_waitOldest, .inl ((cA 0), n_t_waitOldest, .inl t_waitOldest))]) [0, 1, 2, 3, 4, 5] (by decide) rfl
      exact W.iret (v := (0 : Int32)) hx hb hr (fun t ht hW => ⟨⟨_, (), rfl, rfl, by rw [ht]; exact hP9, va_K.moved hW.alike hK, hD9⟩, hS.F ht⟩) hS.2.2 d_Md_write_39
    · replace hf := (if_neg c_2).symm.trans hf
      refine lv_iload_n hx hb d_Md_write_13 rfl (lv_at hl 2 rfl) ?_
      refine lv_if_lt (tgt := 23) hx hb d_Md_write_14 (by decide) (fun c_3 => ?_) (fun c_3 => ?_)
      · replace hf := (if_pos c_3).symm.trans hf
        refine lv_iconst (v := 1) hx hb d_Md_write_23 (by decide) ?_
        refine lv_goto (tgt := 28) hx hb d_Md_write_24 (by decide) ?_
        refine va_put (D := D) (ci := 8) (v := .int (1 : Int32)) (ty := .int) (C := R_Md) (T := F_Md) (N := 21) hx hb hts (fun w9 h9 => .tail _ (gu_Md w9 h9)) t_Md t_Md_ok n_Md hown hK hP hD hS 0 rfl rfl 9 (by decide) (hts _ (.tail _ gm_293)) (fun _ h9 => h9) rfl (by decide +kernel) rfl rfl (Nat.le_of_ble_eq_true rfl) d_Md_write_28 (fun H locs hP hD hS => ?_)
        have hP : va_P D classes [(a_t, .inr (8, [.ref a_t_disk, .ref a_t_tape, .int t_tapeLong, t_first, t_last, .int t_kept, .int t_next, .int t_come, .int t_crashes, .int (1 : Int32), .int t_open, .int t_openFirst, .int t_openMany, .int t_openBytes, .int t_nextPage, .int t_turn, .int t_oldest, .ref a_t_waitBlock, .ref a_t_waitByte, .ref a_t_waitOldest, .int t_waiting])), (a_t_disk, .inl ((cA 0), n_t_disk, .inl t_disk)), (a_t_tape, .inl ((cA 0), n_t_tape, .inl t_tape)), (a_t_waitBlock, .inl ((cA 0), n_t_waitBlock, .inl t_waitBlock)), (a_t_waitByte, .inl ((cA 0), n_t_waitByte, .inl t_waitByte)), (a_t_waitOldest, .inl ((cA 0), n_t_waitOldest, .inl t_waitOldest))] H := hP
        have hD : va_D A [(a_t, .inr (8, [.ref a_t_disk, .ref a_t_tape, .int t_tapeLong, t_first, t_last, .int t_kept, .int t_next, .int t_come, .int t_crashes, .int (1 : Int32), .int t_open, .int t_openFirst, .int t_openMany, .int t_openBytes, .int t_nextPage, .int t_turn, .int t_oldest, .ref a_t_waitBlock, .ref a_t_waitByte, .ref a_t_waitOldest, .int t_waiting])), (a_t_disk, .inl ((cA 0), n_t_disk, .inl t_disk)), (a_t_tape, .inl ((cA 0), n_t_tape, .inl t_tape)), (a_t_waitBlock, .inl ((cA 0), n_t_waitBlock, .inl t_waitBlock)), (a_t_waitByte, .inl ((cA 0), n_t_waitByte, .inl t_waitByte)), (a_t_waitOldest, .inl ((cA 0), n_t_waitOldest, .inl t_waitOldest))] := hD
        refine lv_aload_n hx hb d_Md_write_31 rfl (lv_at hl 0 rfl) ?_
        refine va_get (D := D) (ci := 8) (v := .int (1 : Int32)) (C := R_Md) (T := F_Md) (N := 21) hx hb hts (fun w9 h9 => .tail _ (gu_Md w9 h9)) hown hK hP 0 rfl rfl 9 (by decide) (hts _ (.tail _ gm_293)) (fun _ h9 => h9) rfl d_Md_write_32 ?_
        refine lv_if_eq (tgt := 40) hx hb d_Md_write_35 (by decide) (fun c9 => absurd c9 (by decide)) (fun _ => ?_)
        refine lv_iconst (v := 0) hx hb d_Md_write_38 (by decide) ?_
        have ho9 := Option.some.inj hf
        subst ho9
        have hP9 := hP.sub (ws' := [(a_t, .inr (8, [.ref a_t_disk, .ref a_t_tape, .int t_tapeLong, t_first, t_last, .int t_kept, .int t_next, .int t_come, .int t_crashes, .int (1 : Int32), .int t_open, .int t_openFirst, .int t_openMany, .int t_openBytes, .int t_nextPage, .int t_turn, .int t_oldest, .ref a_t_waitBlock, .ref a_t_waitByte, .ref a_t_waitOldest, .int t_waiting])), (a_t_disk, .inl ((cA 0), n_t_disk, .inl t_disk)), (a_t_tape, .inl ((cA 0), n_t_tape, .inl t_tape)), (a_t_waitBlock, .inl ((cA 0), n_t_waitBlock, .inl t_waitBlock)), (a_t_waitByte, .inl ((cA 0), n_t_waitByte, .inl t_waitByte)), (a_t_waitOldest, .inl ((cA 0), n_t_waitOldest, .inl t_waitOldest))]) [0, 1, 2, 3, 4, 5] rfl
        have hD9 := hD.sub (ws' := [(a_t, .inr (8, [.ref a_t_disk, .ref a_t_tape, .int t_tapeLong, t_first, t_last, .int t_kept, .int t_next, .int t_come, .int t_crashes, .int (1 : Int32), .int t_open, .int t_openFirst, .int t_openMany, .int t_openBytes, .int t_nextPage, .int t_turn, .int t_oldest, .ref a_t_waitBlock, .ref a_t_waitByte, .ref a_t_waitOldest, .int t_waiting])), (a_t_disk, .inl ((cA 0), n_t_disk, .inl t_disk)), (a_t_tape, .inl ((cA 0), n_t_tape, .inl t_tape)), (a_t_waitBlock, .inl ((cA 0), n_t_waitBlock, .inl t_waitBlock)), (a_t_waitByte, .inl ((cA 0), n_t_waitByte, .inl t_waitByte)), (a_t_waitOldest, .inl ((cA 0), n_t_waitOldest, .inl t_waitOldest))]) [0, 1, 2, 3, 4, 5] (by decide) rfl
        exact W.iret (v := (0 : Int32)) hx hb hr (fun t ht hW => ⟨⟨_, (), rfl, rfl, by rw [ht]; exact hP9, va_K.moved hW.alike hK, hD9⟩, hS.F ht⟩) hS.2.2 d_Md_write_39
      · replace hf := (if_neg c_3).symm.trans hf
        refine lv_iload_n hx hb d_Md_write_17 rfl (lv_at hl 2 rfl) ?_
        refine lv_bipush (v := 64) hx hb d_Md_write_18 (by decide) ?_
        refine lv_icmp_le (tgt := 27) hx hb d_Md_write_20 (by decide) (fun c_4 => ?_) (fun c_4 => ?_)
        · replace hf := (if_pos c_4).symm.trans hf
          refine lv_iconst (v := 0) hx hb d_Md_write_27 (by decide) ?_
          refine va_put (D := D) (ci := 8) (v := .int (0 : Int32)) (ty := .int) (C := R_Md) (T := F_Md) (N := 21) hx hb hts (fun w9 h9 => .tail _ (gu_Md w9 h9)) t_Md t_Md_ok n_Md hown hK hP hD hS 0 rfl rfl 9 (by decide) (hts _ (.tail _ gm_293)) (fun _ h9 => h9) rfl (by decide +kernel) rfl rfl (Nat.le_of_ble_eq_true rfl) d_Md_write_28 (fun H locs hP hD hS => ?_)
          have hP : va_P D classes [(a_t, .inr (8, [.ref a_t_disk, .ref a_t_tape, .int t_tapeLong, t_first, t_last, .int t_kept, .int t_next, .int t_come, .int t_crashes, .int (0 : Int32), .int t_open, .int t_openFirst, .int t_openMany, .int t_openBytes, .int t_nextPage, .int t_turn, .int t_oldest, .ref a_t_waitBlock, .ref a_t_waitByte, .ref a_t_waitOldest, .int t_waiting])), (a_t_disk, .inl ((cA 0), n_t_disk, .inl t_disk)), (a_t_tape, .inl ((cA 0), n_t_tape, .inl t_tape)), (a_t_waitBlock, .inl ((cA 0), n_t_waitBlock, .inl t_waitBlock)), (a_t_waitByte, .inl ((cA 0), n_t_waitByte, .inl t_waitByte)), (a_t_waitOldest, .inl ((cA 0), n_t_waitOldest, .inl t_waitOldest))] H := hP
          have hD : va_D A [(a_t, .inr (8, [.ref a_t_disk, .ref a_t_tape, .int t_tapeLong, t_first, t_last, .int t_kept, .int t_next, .int t_come, .int t_crashes, .int (0 : Int32), .int t_open, .int t_openFirst, .int t_openMany, .int t_openBytes, .int t_nextPage, .int t_turn, .int t_oldest, .ref a_t_waitBlock, .ref a_t_waitByte, .ref a_t_waitOldest, .int t_waiting])), (a_t_disk, .inl ((cA 0), n_t_disk, .inl t_disk)), (a_t_tape, .inl ((cA 0), n_t_tape, .inl t_tape)), (a_t_waitBlock, .inl ((cA 0), n_t_waitBlock, .inl t_waitBlock)), (a_t_waitByte, .inl ((cA 0), n_t_waitByte, .inl t_waitByte)), (a_t_waitOldest, .inl ((cA 0), n_t_waitOldest, .inl t_waitOldest))] := hD
          refine lv_aload_n hx hb d_Md_write_31 rfl (lv_at hl 0 rfl) ?_
          refine va_get (D := D) (ci := 8) (v := .int (0 : Int32)) (C := R_Md) (T := F_Md) (N := 21) hx hb hts (fun w9 h9 => .tail _ (gu_Md w9 h9)) hown hK hP 0 rfl rfl 9 (by decide) (hts _ (.tail _ gm_293)) (fun _ h9 => h9) rfl d_Md_write_32 ?_
          refine lv_if_eq (tgt := 40) hx hb d_Md_write_35 (by decide) (fun _ => ?_) (fun c9 => absurd (by decide) c9)
          refine lv_iload_n hx hb d_Md_write_40 rfl (lv_at hl 2 rfl) ?_
          refine lv_if_ne (tgt := 53) hx hb d_Md_write_41 (by decide) (fun c_5 => ?_) (fun c_5 => ?_)
          · replace hf := (if_neg c_5).symm.trans hf
            refine lv_aload_n hx hb d_Md_write_53 rfl (lv_at hl 0 rfl) ?_
            refine va_get (D := D) (ci := 8) (v := .ref a_t_waitByte) (C := R_Md) (T := F_Md) (N := 21) hx hb hts (fun w9 h9 => .tail _ (gu_Md w9 h9)) hown hK hP 0 rfl rfl 18 (by decide) (hts _ (.tail _ gm_295)) (fun _ h9 => h9) rfl d_Md_write_54 ?_
            refine lv_bipush (v := 64) hx hb d_Md_write_57 (by decide) ?_
            refine lv_iload_n hx hb d_Md_write_59 rfl (lv_at hl 1 rfl) ?_
            refine lv_imul hx hb d_Md_write_60 ?_
            refine lv_iload_n hx hb d_Md_write_61 rfl (lv_at hl 2 rfl) ?_
            refine lv_iadd hx hb d_Md_write_62 ?_
            refine lv_iconst (v := 1) hx hb d_Md_write_63 (by decide) ?_
            refine lv_isub hx hb d_Md_write_64 ?_
            obtain ⟨ck_6, hf⟩ := hk_if hf
            refine va_iald hx hb hK hP 4 0 rfl rfl ck_6 d_Md_write_65 ?_
            have ho9 := Option.some.inj hf
            subst ho9
            have hP9 := hP.sub (ws' := [(a_t, .inr (8, [.ref a_t_disk, .ref a_t_tape, .int t_tapeLong, t_first, t_last, .int t_kept, .int t_next, .int t_come, .int t_crashes, .int (0 : Int32), .int t_open, .int t_openFirst, .int t_openMany, .int t_openBytes, .int t_nextPage, .int t_turn, .int t_oldest, .ref a_t_waitBlock, .ref a_t_waitByte, .ref a_t_waitOldest, .int t_waiting])), (a_t_disk, .inl ((cA 0), n_t_disk, .inl t_disk)), (a_t_tape, .inl ((cA 0), n_t_tape, .inl t_tape)), (a_t_waitBlock, .inl ((cA 0), n_t_waitBlock, .inl t_waitBlock)), (a_t_waitByte, .inl ((cA 0), n_t_waitByte, .inl t_waitByte)), (a_t_waitOldest, .inl ((cA 0), n_t_waitOldest, .inl t_waitOldest))]) [0, 1, 2, 3, 4, 5] rfl
            have hD9 := hD.sub (ws' := [(a_t, .inr (8, [.ref a_t_disk, .ref a_t_tape, .int t_tapeLong, t_first, t_last, .int t_kept, .int t_next, .int t_come, .int t_crashes, .int (0 : Int32), .int t_open, .int t_openFirst, .int t_openMany, .int t_openBytes, .int t_nextPage, .int t_turn, .int t_oldest, .ref a_t_waitBlock, .ref a_t_waitByte, .ref a_t_waitOldest, .int t_waiting])), (a_t_disk, .inl ((cA 0), n_t_disk, .inl t_disk)), (a_t_tape, .inl ((cA 0), n_t_tape, .inl t_tape)), (a_t_waitBlock, .inl ((cA 0), n_t_waitBlock, .inl t_waitBlock)), (a_t_waitByte, .inl ((cA 0), n_t_waitByte, .inl t_waitByte)), (a_t_waitOldest, .inl ((cA 0), n_t_waitOldest, .inl t_waitOldest))]) [0, 1, 2, 3, 4, 5] (by decide) rfl
            exact W.iret (v := (t_waitByte ((((64 : Int32) * p0) + p1) - (1 : Int32)).toNatClampNeg)) hx hb hr (fun t ht hW => ⟨⟨_, (), rfl, rfl, by rw [ht]; exact hP9, va_K.moved hW.alike hK, hD9⟩, hS.F ht⟩) hS.2.2 d_Md_write_66
          · replace hf := (if_pos c_5).symm.trans hf
            refine lv_aload_n hx hb d_Md_write_44 rfl (lv_at hl 0 rfl) ?_
            refine va_get (D := D) (ci := 8) (v := .ref a_t_waitBlock) (C := R_Md) (T := F_Md) (N := 21) hx hb hts (fun w9 h9 => .tail _ (gu_Md w9 h9)) hown hK hP 0 rfl rfl 17 (by decide) (hts _ (.tail _ gm_297)) (fun _ h9 => h9) rfl d_Md_write_45 ?_
            refine lv_iload_n hx hb d_Md_write_48 rfl (lv_at hl 1 rfl) ?_
            obtain ⟨ck_7, hf⟩ := hk_if hf
            refine va_iald hx hb hK hP 3 0 rfl rfl ck_7 d_Md_write_49 ?_
            refine lv_goto (tgt := 66) hx hb d_Md_write_50 (by decide) ?_
            have ho9 := Option.some.inj hf
            subst ho9
            have hP9 := hP.sub (ws' := [(a_t, .inr (8, [.ref a_t_disk, .ref a_t_tape, .int t_tapeLong, t_first, t_last, .int t_kept, .int t_next, .int t_come, .int t_crashes, .int (0 : Int32), .int t_open, .int t_openFirst, .int t_openMany, .int t_openBytes, .int t_nextPage, .int t_turn, .int t_oldest, .ref a_t_waitBlock, .ref a_t_waitByte, .ref a_t_waitOldest, .int t_waiting])), (a_t_disk, .inl ((cA 0), n_t_disk, .inl t_disk)), (a_t_tape, .inl ((cA 0), n_t_tape, .inl t_tape)), (a_t_waitBlock, .inl ((cA 0), n_t_waitBlock, .inl t_waitBlock)), (a_t_waitByte, .inl ((cA 0), n_t_waitByte, .inl t_waitByte)), (a_t_waitOldest, .inl ((cA 0), n_t_waitOldest, .inl t_waitOldest))]) [0, 1, 2, 3, 4, 5] rfl
            have hD9 := hD.sub (ws' := [(a_t, .inr (8, [.ref a_t_disk, .ref a_t_tape, .int t_tapeLong, t_first, t_last, .int t_kept, .int t_next, .int t_come, .int t_crashes, .int (0 : Int32), .int t_open, .int t_openFirst, .int t_openMany, .int t_openBytes, .int t_nextPage, .int t_turn, .int t_oldest, .ref a_t_waitBlock, .ref a_t_waitByte, .ref a_t_waitOldest, .int t_waiting])), (a_t_disk, .inl ((cA 0), n_t_disk, .inl t_disk)), (a_t_tape, .inl ((cA 0), n_t_tape, .inl t_tape)), (a_t_waitBlock, .inl ((cA 0), n_t_waitBlock, .inl t_waitBlock)), (a_t_waitByte, .inl ((cA 0), n_t_waitByte, .inl t_waitByte)), (a_t_waitOldest, .inl ((cA 0), n_t_waitOldest, .inl t_waitOldest))]) [0, 1, 2, 3, 4, 5] (by decide) rfl
            exact W.iret (v := (t_waitBlock p0.toNatClampNeg)) hx hb hr (fun t ht hW => ⟨⟨_, (), rfl, rfl, by rw [ht]; exact hP9, va_K.moved hW.alike hK, hD9⟩, hS.F ht⟩) hS.2.2 d_Md_write_66
        · replace hf := (if_neg c_4).symm.trans hf
          refine lv_iconst (v := 1) hx hb d_Md_write_23 (by decide) ?_
          refine lv_goto (tgt := 28) hx hb d_Md_write_24 (by decide) ?_
          refine va_put (D := D) (ci := 8) (v := .int (1 : Int32)) (ty := .int) (C := R_Md) (T := F_Md) (N := 21) hx hb hts (fun w9 h9 => .tail _ (gu_Md w9 h9)) t_Md t_Md_ok n_Md hown hK hP hD hS 0 rfl rfl 9 (by decide) (hts _ (.tail _ gm_293)) (fun _ h9 => h9) rfl (by decide +kernel) rfl rfl (Nat.le_of_ble_eq_true rfl) d_Md_write_28 (fun H locs hP hD hS => ?_)
          have hP : va_P D classes [(a_t, .inr (8, [.ref a_t_disk, .ref a_t_tape, .int t_tapeLong, t_first, t_last, .int t_kept, .int t_next, .int t_come, .int t_crashes, .int (1 : Int32), .int t_open, .int t_openFirst, .int t_openMany, .int t_openBytes, .int t_nextPage, .int t_turn, .int t_oldest, .ref a_t_waitBlock, .ref a_t_waitByte, .ref a_t_waitOldest, .int t_waiting])), (a_t_disk, .inl ((cA 0), n_t_disk, .inl t_disk)), (a_t_tape, .inl ((cA 0), n_t_tape, .inl t_tape)), (a_t_waitBlock, .inl ((cA 0), n_t_waitBlock, .inl t_waitBlock)), (a_t_waitByte, .inl ((cA 0), n_t_waitByte, .inl t_waitByte)), (a_t_waitOldest, .inl ((cA 0), n_t_waitOldest, .inl t_waitOldest))] H := hP
          have hD : va_D A [(a_t, .inr (8, [.ref a_t_disk, .ref a_t_tape, .int t_tapeLong, t_first, t_last, .int t_kept, .int t_next, .int t_come, .int t_crashes, .int (1 : Int32), .int t_open, .int t_openFirst, .int t_openMany, .int t_openBytes, .int t_nextPage, .int t_turn, .int t_oldest, .ref a_t_waitBlock, .ref a_t_waitByte, .ref a_t_waitOldest, .int t_waiting])), (a_t_disk, .inl ((cA 0), n_t_disk, .inl t_disk)), (a_t_tape, .inl ((cA 0), n_t_tape, .inl t_tape)), (a_t_waitBlock, .inl ((cA 0), n_t_waitBlock, .inl t_waitBlock)), (a_t_waitByte, .inl ((cA 0), n_t_waitByte, .inl t_waitByte)), (a_t_waitOldest, .inl ((cA 0), n_t_waitOldest, .inl t_waitOldest))] := hD
          refine lv_aload_n hx hb d_Md_write_31 rfl (lv_at hl 0 rfl) ?_
          refine va_get (D := D) (ci := 8) (v := .int (1 : Int32)) (C := R_Md) (T := F_Md) (N := 21) hx hb hts (fun w9 h9 => .tail _ (gu_Md w9 h9)) hown hK hP 0 rfl rfl 9 (by decide) (hts _ (.tail _ gm_293)) (fun _ h9 => h9) rfl d_Md_write_32 ?_
          refine lv_if_eq (tgt := 40) hx hb d_Md_write_35 (by decide) (fun c9 => absurd c9 (by decide)) (fun _ => ?_)
          refine lv_iconst (v := 0) hx hb d_Md_write_38 (by decide) ?_
          have ho9 := Option.some.inj hf
          subst ho9
          have hP9 := hP.sub (ws' := [(a_t, .inr (8, [.ref a_t_disk, .ref a_t_tape, .int t_tapeLong, t_first, t_last, .int t_kept, .int t_next, .int t_come, .int t_crashes, .int (1 : Int32), .int t_open, .int t_openFirst, .int t_openMany, .int t_openBytes, .int t_nextPage, .int t_turn, .int t_oldest, .ref a_t_waitBlock, .ref a_t_waitByte, .ref a_t_waitOldest, .int t_waiting])), (a_t_disk, .inl ((cA 0), n_t_disk, .inl t_disk)), (a_t_tape, .inl ((cA 0), n_t_tape, .inl t_tape)), (a_t_waitBlock, .inl ((cA 0), n_t_waitBlock, .inl t_waitBlock)), (a_t_waitByte, .inl ((cA 0), n_t_waitByte, .inl t_waitByte)), (a_t_waitOldest, .inl ((cA 0), n_t_waitOldest, .inl t_waitOldest))]) [0, 1, 2, 3, 4, 5] rfl
          have hD9 := hD.sub (ws' := [(a_t, .inr (8, [.ref a_t_disk, .ref a_t_tape, .int t_tapeLong, t_first, t_last, .int t_kept, .int t_next, .int t_come, .int t_crashes, .int (1 : Int32), .int t_open, .int t_openFirst, .int t_openMany, .int t_openBytes, .int t_nextPage, .int t_turn, .int t_oldest, .ref a_t_waitBlock, .ref a_t_waitByte, .ref a_t_waitOldest, .int t_waiting])), (a_t_disk, .inl ((cA 0), n_t_disk, .inl t_disk)), (a_t_tape, .inl ((cA 0), n_t_tape, .inl t_tape)), (a_t_waitBlock, .inl ((cA 0), n_t_waitBlock, .inl t_waitBlock)), (a_t_waitByte, .inl ((cA 0), n_t_waitByte, .inl t_waitByte)), (a_t_waitOldest, .inl ((cA 0), n_t_waitOldest, .inl t_waitOldest))]) [0, 1, 2, 3, 4, 5] (by decide) rfl
          exact W.iret (v := (0 : Int32)) hx hb hr (fun t ht hW => ⟨⟨_, (), rfl, rfl, by rw [ht]; exact hP9, va_K.moved hW.alike hK, hD9⟩, hS.F ht⟩) hS.2.2 d_Md_write_39
