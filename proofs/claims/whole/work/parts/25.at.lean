theorem gm_371 : (.code y_Md_at b_Md_at 4 (some (.object "RoundJournalModel$Record")) : Cond) ∈ gw := gw_in (i := 771) (by decide +kernel) rfl
theorem gm_372 : (.methodLink R_Md 162 y_Md_at : Cond) ∈ gw := gw_in (i := 768) (by decide +kernel) rfl
theorem gm_373 : (.instanceMethod y_Md_at : Cond) ∈ gw := gw_in (i := 770) (by decide +kernel) rfl
theorem gm_374 : (.selects R_Md y_Md_at y_Md_at : Cond) ∈ gw := gw_in (i := 23) (by decide +kernel) rfl
theorem d_Md_at_0 : decode b_Md_at 0 = .ok (.iload_n 1, 1) := by decide +kernel
theorem d_Md_at_1 : decode b_Md_at 1 = .ok (.istore_n 2, 1) := by decide +kernel
theorem d_Md_at_2 : decode b_Md_at 2 = .ok (.aload_n 0, 1) := by decide +kernel
theorem d_Md_at_3 : decode b_Md_at 3 = .ok (.getfield 68, 3) := by decide +kernel
theorem d_Md_at_6 : decode b_Md_at 6 = .ok (.astore_n 3, 1) := by decide +kernel
theorem d_Md_at_7 : decode b_Md_at 7 = .ok (.aload_n 3, 1) := by decide +kernel
theorem d_Md_at_8 : decode b_Md_at 8 = .ok (.ifnull 35, 3) := by decide +kernel
theorem d_Md_at_11 : decode b_Md_at 11 = .ok (.iload_n 1, 1) := by decide +kernel
theorem d_Md_at_12 : decode b_Md_at 12 = .ok (.ifCond .lt 31, 3) := by decide +kernel
theorem d_Md_at_15 : decode b_Md_at 15 = .ok (.aload_n 3, 1) := by decide +kernel
theorem d_Md_at_16 : decode b_Md_at 16 = .ok (.getfield 72, 3) := by decide +kernel
theorem d_Md_at_19 : decode b_Md_at 19 = .ok (.aload_n 0, 1) := by decide +kernel
theorem d_Md_at_20 : decode b_Md_at 20 = .ok (.getfield 16, 3) := by decide +kernel
theorem d_Md_at_23 : decode b_Md_at 23 = .ok (.if_icmp .lt 12, 3) := by decide +kernel
theorem d_Md_at_26 : decode b_Md_at 26 = .ok (.iload_n 2, 1) := by decide +kernel
theorem d_Md_at_27 : decode b_Md_at 27 = .ok (.ifCond .ne 5, 3) := by decide +kernel
theorem d_Md_at_30 : decode b_Md_at 30 = .ok (.aload_n 3, 1) := by decide +kernel
theorem d_Md_at_31 : decode b_Md_at 31 = .ok (.areturn, 1) := by decide +kernel
theorem d_Md_at_32 : decode b_Md_at 32 = .ok (.iinc 2 (-1), 3) := by decide +kernel
theorem d_Md_at_35 : decode b_Md_at 35 = .ok (.aload_n 3, 1) := by decide +kernel
theorem d_Md_at_36 : decode b_Md_at 36 = .ok (.getfield 80, 3) := by decide +kernel
theorem d_Md_at_39 : decode b_Md_at 39 = .ok (.astore_n 3, 1) := by decide +kernel
theorem d_Md_at_40 : decode b_Md_at 40 = .ok (.goto (-33), 3) := by decide +kernel
theorem d_Md_at_43 : decode b_Md_at 43 = .ok (.aconst_null, 1) := by decide +kernel
theorem d_Md_at_44 : decode b_Md_at 44 = .ok (.areturn, 1) := by decide +kernel
abbrev wd_Md_at : List Cond := .code y_Md_at b_Md_at 4 (some (.object "RoundJournalModel$Record")) :: gw
def f_Md_at_L7 (vs : List NV) (n_t_disk : Nat) (t_disk : Nat → Int32) (n_t_tape : Nat) (t_tape : Nat → Int32) (t_tapeLong : Int32) (t_kept : Int32) (t_next : Int32) (t_come : Int32) (t_crashes : Int32) (t_thrown : Int32) (t_open : Int32) (t_openFirst : Int32) (t_openMany : Int32) (t_openBytes : Int32) (t_nextPage : Int32) (t_turn : Int32) (t_oldest : Int32) (n_t_waitBlock : Nat) (t_waitBlock : Nat → Int32) (n_t_waitByte : Nat) (t_waitByte : Nat → Int32) (n_t_waitOldest : Nat) (t_waitOldest : Nat → Int32) (t_waiting : Int32) (p0 : Int32) : List NV → Int32 → Option (Option NV)
  | [], x2 =>
    some none
  | v7 :: t7, x2 =>
    if p0 < 0 then
      some none
    else
      if v7.1 < t_kept then
        f_Md_at_L7 vs n_t_disk t_disk n_t_tape t_tape t_tapeLong t_kept t_next t_come t_crashes t_thrown t_open t_openFirst t_openMany t_openBytes t_nextPage t_turn t_oldest n_t_waitBlock t_waitBlock n_t_waitByte t_waitByte n_t_waitOldest t_waitOldest t_waiting p0 t7 x2
      else
        if x2 = 0 then
          some (some v7)
        else
          f_Md_at_L7 vs n_t_disk t_disk n_t_tape t_tape t_tapeLong t_kept t_next t_come t_crashes t_thrown t_open t_openFirst t_openMany t_openBytes t_nextPage t_turn t_oldest n_t_waitBlock t_waitBlock n_t_waitByte t_waitByte n_t_waitOldest t_waitOldest t_waiting p0 t7 (x2 + (-1 : Int32))
def f_Md_at (vs : List NV) (n_t_disk : Nat) (t_disk : Nat → Int32) (n_t_tape : Nat) (t_tape : Nat → Int32) (t_tapeLong : Int32) (t_kept : Int32) (t_next : Int32) (t_come : Int32) (t_crashes : Int32) (t_thrown : Int32) (t_open : Int32) (t_openFirst : Int32) (t_openMany : Int32) (t_openBytes : Int32) (t_nextPage : Int32) (t_turn : Int32) (t_oldest : Int32) (n_t_waitBlock : Nat) (t_waitBlock : Nat → Int32) (n_t_waitByte : Nat) (t_waitByte : Nat → Int32) (n_t_waitOldest : Nat) (t_waitOldest : Nat → Int32) (t_waiting : Int32) (p0 : Int32) : Option (Option NV) :=
  f_Md_at_L7 vs n_t_disk t_disk n_t_tape t_tape t_tapeLong t_kept t_next t_come t_crashes t_thrown t_open t_openFirst t_openMany t_openBytes t_nextPage t_turn t_oldest n_t_waitBlock t_waitBlock n_t_waitByte t_waitByte n_t_waitOldest t_waitOldest t_waiting p0 vs p0
set_option maxHeartbeats 4000000 in
set_option maxRecDepth 100000 in
theorem k_Md_at_L7 {p : Program} {l : Launch} {e : Env} {s : State} {m : MethodId} {args : Array Value} {below : List Frame} {meth : Method} {c : Code} (hx : p.tables.exec = Jvm.exec) (hb : c.code = b_Md_at) (hr : meth.sig.returnType = (some (.object "RoundJournalModel$Record"))) (hml : c.maxLocals = 4) (hown : s.vm.findClass R_Md = some m.cls) (hts : ∀ w ∈ wd_Md_at, w.before args s = true) (hlocks : meth.locks = false) {A : Nat → Prop} (hA : ∀ q, s.heap.size ≤ q → A q) (hE : ev A s) {D : va_G} {cA : Nat → ClassId} (hK : va_K D classes (tys cA) s) (a_t a_t_disk a_t_tape a_t_waitBlock a_t_waitByte a_t_waitOldest : Nat) (L : List PR) (n_t_disk : Nat) (t_disk : Nat → Int32) (n_t_tape : Nat) (t_tape : Nat → Int32) (t_tapeLong : Int32) (t_kept : Int32) (t_next : Int32) (t_come : Int32) (t_crashes : Int32) (t_thrown : Int32) (t_open : Int32) (t_openFirst : Int32) (t_openMany : Int32) (t_openBytes : Int32) (t_nextPage : Int32) (t_turn : Int32) (t_oldest : Int32) (n_t_waitBlock : Nat) (t_waitBlock : Nat → Int32) (n_t_waitByte : Nat) (t_waitByte : Nat → Int32) (n_t_waitOldest : Nat) (t_waitOldest : Nat → Int32) (t_waiting : Int32) (p0 : Int32) (o : Option NV) :
    ∀ (suf pre7 : List PR) (x2 : Int32) (H : Heap) (locs : List Loc), L = pre7 ++ suf → f_Md_at_L7 (L.map pV) n_t_disk t_disk n_t_tape t_tape t_tapeLong t_kept t_next t_come t_crashes t_thrown t_open t_openFirst t_openMany t_openBytes t_nextPage t_turn t_oldest n_t_waitBlock t_waitBlock n_t_waitByte t_waitByte n_t_waitOldest t_waitOldest t_waiting p0  (suf.map pV) x2 = some o → va_P D classes ([(a_t, .inr (8, [.ref a_t_disk, .ref a_t_tape, .int t_tapeLong, (hdv L), (lsv L), .int t_kept, .int t_next, .int t_come, .int t_crashes, .int t_thrown, .int t_open, .int t_openFirst, .int t_openMany, .int t_openBytes, .int t_nextPage, .int t_turn, .int t_oldest, .ref a_t_waitBlock, .ref a_t_waitByte, .ref a_t_waitOldest, .int t_waiting])), (a_t_disk, .inl ((cA 0), n_t_disk, .inl t_disk)), (a_t_tape, .inl ((cA 0), n_t_tape, .inl t_tape)), (a_t_waitBlock, .inl ((cA 0), n_t_waitBlock, .inl t_waitBlock)), (a_t_waitByte, .inl ((cA 0), n_t_waitByte, .inl t_waitByte)), (a_t_waitOldest, .inl ((cA 0), n_t_waitOldest, .inl t_waitOldest))] ++ rl cA L) H → va_D A ([(a_t, .inr (8, [.ref a_t_disk, .ref a_t_tape, .int t_tapeLong, (hdv L), (lsv L), .int t_kept, .int t_next, .int t_come, .int t_crashes, .int t_thrown, .int t_open, .int t_openFirst, .int t_openMany, .int t_openBytes, .int t_nextPage, .int t_turn, .int t_oldest, .ref a_t_waitBlock, .ref a_t_waitByte, .ref a_t_waitOldest, .int t_waiting])), (a_t_disk, .inl ((cA 0), n_t_disk, .inl t_disk)), (a_t_tape, .inl ((cA 0), n_t_tape, .inl t_tape)), (a_t_waitBlock, .inl ((cA 0), n_t_waitBlock, .inl t_waitBlock)), (a_t_waitByte, .inl ((cA 0), n_t_waitByte, .inl t_waitByte)), (a_t_waitOldest, .inl ((cA 0), n_t_waitOldest, .inl t_waitOldest))] ++ rl cA L) → va_S A s.heap H locs → ∀ ls : Array Slot, lv_has ls 4 [(0, .ref a_t), (1, .int p0), (2, .int x2), (3, hdv suf)] → W p l e ({ frames := 0, cells := 0, slots := 0, locals := 0 }) s m args below meth c H locs 0 0 (MQ below (va_Qq (fun r9 (_ : Unit) => atp L o r9) (fun _ => aR D cA A ([(a_t, .inr (8, [.ref a_t_disk, .ref a_t_tape, .int t_tapeLong, (hdv L), (lsv L), .int t_kept, .int t_next, .int t_come, .int t_crashes, .int t_thrown, .int t_open, .int t_openFirst, .int t_openMany, .int t_openBytes, .int t_nextPage, .int t_turn, .int t_oldest, .ref a_t_waitBlock, .ref a_t_waitByte, .ref a_t_waitOldest, .int t_waiting])), (a_t_disk, .inl ((cA 0), n_t_disk, .inl t_disk)), (a_t_tape, .inl ((cA 0), n_t_tape, .inl t_tape)), (a_t_waitBlock, .inl ((cA 0), n_t_waitBlock, .inl t_waitBlock)), (a_t_waitByte, .inl ((cA 0), n_t_waitByte, .inl t_waitByte)), (a_t_waitOldest, .inl ((cA 0), n_t_waitOldest, .inl t_waitOldest))] ++ rl cA L)) A) args s 0 0 A) (F0 m 7 ls []) := by
  intro suf
  induction suf with
  | nil =>
    intro pre7 x2 H locs hL7 hf hP hD hS ls hl
    have hl : lv_has ls 4 [(0, .ref a_t), (1, .int p0), (2, .int x2), (3, .null)] := hl
    rw [List.map_nil, f_Md_at_L7.eq_1] at hf
    refine lv_aload_nN hx hb d_Md_at_7 rfl (lv_at hl 3 rfl) ?_
    refine lv_ifnullN (tgt := 43) hx hb d_Md_at_8 (by decide) ?_
    refine lv_null hx hb d_Md_at_43 ?_
    have ho9 := Option.some.inj hf
    subst ho9
    have hP9 := va_P.part (cx := [(a_t, .inr (8, [.ref a_t_disk, .ref a_t_tape, .int t_tapeLong, (hdv L), (lsv L), .int t_kept, .int t_next, .int t_come, .int t_crashes, .int t_thrown, .int t_open, .int t_openFirst, .int t_openMany, .int t_openBytes, .int t_nextPage, .int t_turn, .int t_oldest, .ref a_t_waitBlock, .ref a_t_waitByte, .ref a_t_waitOldest, .int t_waiting])), (a_t_disk, .inl ((cA 0), n_t_disk, .inl t_disk)), (a_t_tape, .inl ((cA 0), n_t_tape, .inl t_tape)), (a_t_waitBlock, .inl ((cA 0), n_t_waitBlock, .inl t_waitBlock)), (a_t_waitByte, .inl ((cA 0), n_t_waitByte, .inl t_waitByte)), (a_t_waitOldest, .inl ((cA 0), n_t_waitOldest, .inl t_waitOldest))]) hP [0, 1, 2, 3, 4, 5] rfl
    have hD9 := va_D.part (cx := [(a_t, .inr (8, [.ref a_t_disk, .ref a_t_tape, .int t_tapeLong, (hdv L), (lsv L), .int t_kept, .int t_next, .int t_come, .int t_crashes, .int t_thrown, .int t_open, .int t_openFirst, .int t_openMany, .int t_openBytes, .int t_nextPage, .int t_turn, .int t_oldest, .ref a_t_waitBlock, .ref a_t_waitByte, .ref a_t_waitOldest, .int t_waiting])), (a_t_disk, .inl ((cA 0), n_t_disk, .inl t_disk)), (a_t_tape, .inl ((cA 0), n_t_tape, .inl t_tape)), (a_t_waitBlock, .inl ((cA 0), n_t_waitBlock, .inl t_waitBlock)), (a_t_waitByte, .inl ((cA 0), n_t_waitByte, .inl t_waitByte)), (a_t_waitOldest, .inl ((cA 0), n_t_waitOldest, .inl t_waitOldest))]) hD [0, 1, 2, 3, 4, 5] (by decide) rfl
    exact W.aret (v := .null) hx hb hr (Or.inl ⟨_, rfl⟩) (Or.inl rfl) (fun t ht hW => ⟨⟨none, (), rfl, Or.inl ⟨rfl, rfl⟩, by rw [ht]; exact hP9, va_K.moved hW.alike hK, hD9⟩, hS.F ht⟩) hS.2.2 d_Md_at_44
  | cons r7 t7 ih =>
    intro pre7 x2 H locs hL7 hf hP hD hS ls hl
    have hl : lv_has ls 4 [(0, .ref a_t), (1, .int p0), (2, .int x2), (3, .ref r7.1)] := hl
    rw [List.map_cons, f_Md_at_L7.eq_2] at hf
    skip
    refine lv_aload_n hx hb d_Md_at_7 rfl (lv_at hl 3 rfl) ?_
    refine lv_ifnull hx hb d_Md_at_8 ?_
    refine lv_iload_n hx hb d_Md_at_11 rfl (lv_at hl 1 rfl) ?_
    refine lv_if_lt (tgt := 43) hx hb d_Md_at_12 (by decide) (fun c_1 => ?_) (fun c_1 => ?_)
    · replace hf := (if_pos c_1).symm.trans hf
      refine lv_null hx hb d_Md_at_43 ?_
      have ho9 := Option.some.inj hf
      subst ho9
      have hP9 := va_P.part (cx := [(a_t, .inr (8, [.ref a_t_disk, .ref a_t_tape, .int t_tapeLong, (hdv L), (lsv L), .int t_kept, .int t_next, .int t_come, .int t_crashes, .int t_thrown, .int t_open, .int t_openFirst, .int t_openMany, .int t_openBytes, .int t_nextPage, .int t_turn, .int t_oldest, .ref a_t_waitBlock, .ref a_t_waitByte, .ref a_t_waitOldest, .int t_waiting])), (a_t_disk, .inl ((cA 0), n_t_disk, .inl t_disk)), (a_t_tape, .inl ((cA 0), n_t_tape, .inl t_tape)), (a_t_waitBlock, .inl ((cA 0), n_t_waitBlock, .inl t_waitBlock)), (a_t_waitByte, .inl ((cA 0), n_t_waitByte, .inl t_waitByte)), (a_t_waitOldest, .inl ((cA 0), n_t_waitOldest, .inl t_waitOldest))]) hP [0, 1, 2, 3, 4, 5] rfl
      have hD9 := va_D.part (cx := [(a_t, .inr (8, [.ref a_t_disk, .ref a_t_tape, .int t_tapeLong, (hdv L), (lsv L), .int t_kept, .int t_next, .int t_come, .int t_crashes, .int t_thrown, .int t_open, .int t_openFirst, .int t_openMany, .int t_openBytes, .int t_nextPage, .int t_turn, .int t_oldest, .ref a_t_waitBlock, .ref a_t_waitByte, .ref a_t_waitOldest, .int t_waiting])), (a_t_disk, .inl ((cA 0), n_t_disk, .inl t_disk)), (a_t_tape, .inl ((cA 0), n_t_tape, .inl t_tape)), (a_t_waitBlock, .inl ((cA 0), n_t_waitBlock, .inl t_waitBlock)), (a_t_waitByte, .inl ((cA 0), n_t_waitByte, .inl t_waitByte)), (a_t_waitOldest, .inl ((cA 0), n_t_waitOldest, .inl t_waitOldest))]) hD [0, 1, 2, 3, 4, 5] (by decide) rfl
      exact W.aret (v := .null) hx hb hr (Or.inl ⟨_, rfl⟩) (Or.inl rfl) (fun t ht hW => ⟨⟨none, (), rfl, Or.inl ⟨rfl, rfl⟩, by rw [ht]; exact hP9, va_K.moved hW.alike hK, hD9⟩, hS.F ht⟩) hS.2.2 d_Md_at_44
    · replace hf := (if_neg c_1).symm.trans hf
      refine lv_aload_n hx hb d_Md_at_15 rfl (lv_at hl 3 rfl) ?_
      refine va_get (D := D) (ci := 7) (v := .int r7.2.2.1) (C := R_Re) (T := F_Re) (N := 5) hx hb hts (fun w9 h9 => .tail _ (gu_Re w9 h9)) hown hK hP (6 + 2 * pre7.length) (by rw [hL7]; exact rl_rec _ _ _ _) rfl 0 (by decide) (hts _ (.tail _ gm_344)) (fun _ h9 => h9) rfl d_Md_at_16 ?_
      refine lv_aload_n hx hb d_Md_at_19 rfl (lv_at hl 0 rfl) ?_
      refine va_get (D := D) (ci := 8) (v := .int t_kept) (C := R_Md) (T := F_Md) (N := 21) hx hb hts (fun w9 h9 => .tail _ (gu_Md w9 h9)) hown hK hP 0 rfl rfl 5 (by decide) (hts _ (.tail _ gm_326)) (fun _ h9 => h9) rfl d_Md_at_20 ?_
      refine lv_icmp_lt (tgt := 35) hx hb d_Md_at_23 (by decide) (fun c_2 => ?_) (fun c_2 => ?_)
      · replace hf := (if_pos c_2).symm.trans hf
        refine lv_aload_n hx hb d_Md_at_35 rfl (lv_at hl 3 rfl) ?_
        refine va_get (D := D) (ci := 7) (v := (hdv t7)) (C := R_Re) (T := F_Re) (N := 5) hx hb hts (fun w9 h9 => .tail _ (gu_Re w9 h9)) hown hK hP (6 + 2 * pre7.length) (by rw [hL7]; exact rl_rec _ _ _ _) rfl 4 (by decide) (hts _ (.tail _ gm_345)) (fun _ h9 => h9) rfl d_Md_at_36 ?_
        refine nk_astore_n (lv' := [(3, (hdv t7)), (0, .ref a_t), (1, .int p0), (2, .int x2)]) hx hb d_Md_at_39 rfl hl (by decide) rfl (fun ls hl => ?_)
        refine lv_goto (tgt := 7) hx hb d_Md_at_40 (by decide) ?_
        exact ih (pre7 ++ [r7]) x2 _ _ (by rw [hL7]; simp) hf (va_P.part hP [0, 1, 2, 3, 4, 5] rfl) (va_D.part hD [0, 1, 2, 3, 4, 5] (by decide) rfl) hS ls (lv_sub hl [1, 2, 3, 0] rfl)
      · replace hf := (if_neg c_2).symm.trans hf
        refine lv_iload_n hx hb d_Md_at_26 rfl (lv_at hl 2 rfl) ?_
        refine lv_if_ne (tgt := 32) hx hb d_Md_at_27 (by decide) (fun c_3 => ?_) (fun c_3 => ?_)
        · replace hf := (if_neg c_3).symm.trans hf
          refine lv_iinc (v := (x2 + (-1 : Int32))) (lv' := [(2, .int (x2 + (-1 : Int32))), (0, .ref a_t), (1, .int p0), (3, .ref r7.1)]) hx hb d_Md_at_32 hl (k := 2) rfl rfl (by decide) rfl (fun ls hl => ?_)
          refine lv_aload_n hx hb d_Md_at_35 rfl (lv_at hl 3 rfl) ?_
          refine va_get (D := D) (ci := 7) (v := (hdv t7)) (C := R_Re) (T := F_Re) (N := 5) hx hb hts (fun w9 h9 => .tail _ (gu_Re w9 h9)) hown hK hP (6 + 2 * pre7.length) (by rw [hL7]; exact rl_rec _ _ _ _) rfl 4 (by decide) (hts _ (.tail _ gm_345)) (fun _ h9 => h9) rfl d_Md_at_36 ?_
          refine nk_astore_n (lv' := [(3, (hdv t7)), (2, .int (x2 + (-1 : Int32))), (0, .ref a_t), (1, .int p0)]) hx hb d_Md_at_39 rfl hl (by decide) rfl (fun ls hl => ?_)
          refine lv_goto (tgt := 7) hx hb d_Md_at_40 (by decide) ?_
          exact ih (pre7 ++ [r7]) (x2 + (-1 : Int32)) _ _ (by rw [hL7]; simp) hf (va_P.part hP [0, 1, 2, 3, 4, 5] rfl) (va_D.part hD [0, 1, 2, 3, 4, 5] (by decide) rfl) hS ls (lv_sub hl [2, 3, 1, 0] rfl)
        · replace hf := (if_pos c_3).symm.trans hf
          refine lv_aload_n hx hb d_Md_at_30 rfl (lv_at hl 3 rfl) ?_
          have ho9 := Option.some.inj hf
          subst ho9
          have hP9 := va_P.part (cx := [(a_t, .inr (8, [.ref a_t_disk, .ref a_t_tape, .int t_tapeLong, (hdv L), (lsv L), .int t_kept, .int t_next, .int t_come, .int t_crashes, .int t_thrown, .int t_open, .int t_openFirst, .int t_openMany, .int t_openBytes, .int t_nextPage, .int t_turn, .int t_oldest, .ref a_t_waitBlock, .ref a_t_waitByte, .ref a_t_waitOldest, .int t_waiting])), (a_t_disk, .inl ((cA 0), n_t_disk, .inl t_disk)), (a_t_tape, .inl ((cA 0), n_t_tape, .inl t_tape)), (a_t_waitBlock, .inl ((cA 0), n_t_waitBlock, .inl t_waitBlock)), (a_t_waitByte, .inl ((cA 0), n_t_waitByte, .inl t_waitByte)), (a_t_waitOldest, .inl ((cA 0), n_t_waitOldest, .inl t_waitOldest))]) hP [0, 1, 2, 3, 4, 5] rfl
          have hD9 := va_D.part (cx := [(a_t, .inr (8, [.ref a_t_disk, .ref a_t_tape, .int t_tapeLong, (hdv L), (lsv L), .int t_kept, .int t_next, .int t_come, .int t_crashes, .int t_thrown, .int t_open, .int t_openFirst, .int t_openMany, .int t_openBytes, .int t_nextPage, .int t_turn, .int t_oldest, .ref a_t_waitBlock, .ref a_t_waitByte, .ref a_t_waitOldest, .int t_waiting])), (a_t_disk, .inl ((cA 0), n_t_disk, .inl t_disk)), (a_t_tape, .inl ((cA 0), n_t_tape, .inl t_tape)), (a_t_waitBlock, .inl ((cA 0), n_t_waitBlock, .inl t_waitBlock)), (a_t_waitByte, .inl ((cA 0), n_t_waitByte, .inl t_waitByte)), (a_t_waitOldest, .inl ((cA 0), n_t_waitOldest, .inl t_waitOldest))]) hD [0, 1, 2, 3, 4, 5] (by decide) rfl
          exact W.aret (v := .ref r7.1) hx hb hr (Or.inl ⟨_, rfl⟩) (Or.inr ⟨_, rfl⟩) (fun t ht hW => ⟨⟨some r7.1, (), rfl, Or.inr ⟨pre7, r7, t7, hL7, rfl, rfl⟩, by rw [ht]; exact hP9, va_K.moved hW.alike hK, hD9⟩, hS.F ht⟩) hS.2.2 d_Md_at_31
set_option maxHeartbeats 4000000 in
set_option maxRecDepth 100000 in
theorem c_Md_at (l : Launch) (D : va_G) (cA : Nat → ClassId) (a_t a_t_disk a_t_tape a_t_waitBlock a_t_waitByte a_t_waitOldest : Nat) (L : List PR) (sz : Nat) (n_t_disk : Nat) (t_disk : Nat → Int32) (n_t_tape : Nat) (t_tape : Nat → Int32) (t_tapeLong : Int32) (t_kept : Int32) (t_next : Int32) (t_come : Int32) (t_crashes : Int32) (t_thrown : Int32) (t_open : Int32) (t_openFirst : Int32) (t_openMany : Int32) (t_openBytes : Int32) (t_nextPage : Int32) (t_turn : Int32) (t_oldest : Int32) (n_t_waitBlock : Nat) (t_waitBlock : Nat → Int32) (n_t_waitByte : Nat) (t_waitByte : Nat → Int32) (n_t_waitOldest : Nat) (t_waitOldest : Nat → Int32) (t_waiting : Int32) (p0 : Int32) (o : Option NV) (hf : f_Md_at (L.map pV) n_t_disk t_disk n_t_tape t_tape t_tapeLong t_kept t_next t_come t_crashes t_thrown t_open t_openFirst t_openMany t_openBytes t_nextPage t_turn t_oldest n_t_waitBlock t_waitBlock n_t_waitByte t_waitByte n_t_waitOldest t_waitOldest t_waiting p0 = some o) : Met l y_Md_at wd_Md_at ({ frames := 0, cells := 0, slots := 0, locals := 0 }) (va_Pc [.ref a_t, .int p0] (aP D cA ([(a_t, .inr (8, [.ref a_t_disk, .ref a_t_tape, .int t_tapeLong, (hdv L), (lsv L), .int t_kept, .int t_next, .int t_come, .int t_crashes, .int t_thrown, .int t_open, .int t_openFirst, .int t_openMany, .int t_openBytes, .int t_nextPage, .int t_turn, .int t_oldest, .ref a_t_waitBlock, .ref a_t_waitByte, .ref a_t_waitOldest, .int t_waiting])), (a_t_disk, .inl ((cA 0), n_t_disk, .inl t_disk)), (a_t_tape, .inl ((cA 0), n_t_tape, .inl t_tape)), (a_t_waitBlock, .inl ((cA 0), n_t_waitBlock, .inl t_waitBlock)), (a_t_waitByte, .inl ((cA 0), n_t_waitByte, .inl t_waitByte)), (a_t_waitOldest, .inl ((cA 0), n_t_waitOldest, .inl t_waitOldest))] ++ rl cA L) sz)) (va_Qq (fun r9 (_ : Unit) => atp L o r9) (fun _ => aR D cA (va_A ([(a_t, .inr (8, [.ref a_t_disk, .ref a_t_tape, .int t_tapeLong, (hdv L), (lsv L), .int t_kept, .int t_next, .int t_come, .int t_crashes, .int t_thrown, .int t_open, .int t_openFirst, .int t_openMany, .int t_openBytes, .int t_nextPage, .int t_turn, .int t_oldest, .ref a_t_waitBlock, .ref a_t_waitByte, .ref a_t_waitOldest, .int t_waiting])), (a_t_disk, .inl ((cA 0), n_t_disk, .inl t_disk)), (a_t_tape, .inl ((cA 0), n_t_tape, .inl t_tape)), (a_t_waitBlock, .inl ((cA 0), n_t_waitBlock, .inl t_waitBlock)), (a_t_waitByte, .inl ((cA 0), n_t_waitByte, .inl t_waitByte)), (a_t_waitOldest, .inl ((cA 0), n_t_waitOldest, .inl t_waitOldest))] ++ rl cA L) sz) ([(a_t, .inr (8, [.ref a_t_disk, .ref a_t_tape, .int t_tapeLong, (hdv L), (lsv L), .int t_kept, .int t_next, .int t_come, .int t_crashes, .int t_thrown, .int t_open, .int t_openFirst, .int t_openMany, .int t_openBytes, .int t_nextPage, .int t_turn, .int t_oldest, .ref a_t_waitBlock, .ref a_t_waitByte, .ref a_t_waitOldest, .int t_waiting])), (a_t_disk, .inl ((cA 0), n_t_disk, .inl t_disk)), (a_t_tape, .inl ((cA 0), n_t_tape, .inl t_tape)), (a_t_waitBlock, .inl ((cA 0), n_t_waitBlock, .inl t_waitBlock)), (a_t_waitByte, .inl ((cA 0), n_t_waitByte, .inl t_waitByte)), (a_t_waitOldest, .inl ((cA 0), n_t_waitOldest, .inl t_waitOldest))] ++ rl cA L)) (va_A ([(a_t, .inr (8, [.ref a_t_disk, .ref a_t_tape, .int t_tapeLong, (hdv L), (lsv L), .int t_kept, .int t_next, .int t_come, .int t_crashes, .int t_thrown, .int t_open, .int t_openFirst, .int t_openMany, .int t_openBytes, .int t_nextPage, .int t_turn, .int t_oldest, .ref a_t_waitBlock, .ref a_t_waitByte, .ref a_t_waitOldest, .int t_waiting])), (a_t_disk, .inl ((cA 0), n_t_disk, .inl t_disk)), (a_t_tape, .inl ((cA 0), n_t_tape, .inl t_tape)), (a_t_waitBlock, .inl ((cA 0), n_t_waitBlock, .inl t_waitBlock)), (a_t_waitByte, .inl ((cA 0), n_t_waitByte, .inl t_waitByte)), (a_t_waitOldest, .inl ((cA 0), n_t_waitOldest, .inl t_waitOldest))] ++ rl cA L) sz)) 0 0 (va_A ([(a_t, .inr (8, [.ref a_t_disk, .ref a_t_tape, .int t_tapeLong, (hdv L), (lsv L), .int t_kept, .int t_next, .int t_come, .int t_crashes, .int t_thrown, .int t_open, .int t_openFirst, .int t_openMany, .int t_openBytes, .int t_nextPage, .int t_turn, .int t_oldest, .ref a_t_waitBlock, .ref a_t_waitByte, .ref a_t_waitOldest, .int t_waiting])), (a_t_disk, .inl ((cA 0), n_t_disk, .inl t_disk)), (a_t_tape, .inl ((cA 0), n_t_tape, .inl t_tape)), (a_t_waitBlock, .inl ((cA 0), n_t_waitBlock, .inl t_waitBlock)), (a_t_waitByte, .inl ((cA 0), n_t_waitByte, .inl t_waitByte)), (a_t_waitOldest, .inl ((cA 0), n_t_waitOldest, .inl t_waitOldest))] ++ rl cA L) sz) := by
  refine Met.ofW (cc := b_Md_at) (maxL := 4) (ret := (some (.object "RoundJournalModel$Record"))) (by decide +kernel) rfl ?_
  intro p e s m args below meth c s₁ B hml hv
  obtain ⟨rfl, hsz, hP, hK, hD0, hE⟩ := hv
  have hx := B.exec
  have hb := B.bytes
  have hr := B.returns
  have hts := atoms_spec (ws := wd_Md_at) B.pre
  have hown : s.vm.findClass R_Md = some m.cls := findClass_of_methodNamed B.named
  have hlocks := B.notSynchronized
  subst hsz
  have hD := hD0.self (sz := s.heap.size)
  generalize hAe : va_A ([(a_t, .inr (8, [.ref a_t_disk, .ref a_t_tape, .int t_tapeLong, (hdv L), (lsv L), .int t_kept, .int t_next, .int t_come, .int t_crashes, .int t_thrown, .int t_open, .int t_openFirst, .int t_openMany, .int t_openBytes, .int t_nextPage, .int t_turn, .int t_oldest, .ref a_t_waitBlock, .ref a_t_waitByte, .ref a_t_waitOldest, .int t_waiting])), (a_t_disk, .inl ((cA 0), n_t_disk, .inl t_disk)), (a_t_tape, .inl ((cA 0), n_t_tape, .inl t_tape)), (a_t_waitBlock, .inl ((cA 0), n_t_waitBlock, .inl t_waitBlock)), (a_t_waitByte, .inl ((cA 0), n_t_waitByte, .inl t_waitByte)), (a_t_waitOldest, .inl ((cA 0), n_t_waitOldest, .inl t_waitOldest))] ++ rl cA L) s.heap.size = A at hD hE ⊢
  have hA : ∀ q : Nat, s.heap.size ≤ q → A q := fun q h => by rw [← hAe]; exact Or.inr h
  have hS : va_S A s.heap s.heap [] := va_S.rf
  have hl := lv_entry [.ref a_t, .int p0] (n := 4) (Nat.le_of_ble_eq_true rfl)
  rw [lg_entry_eq]
  generalize (lg_sl [.ref a_t, .int p0] ++ List.replicate (4 - (lg_sl [.ref a_t, .int p0]).length) Slot.unset).toArray = ls at hl ⊢
  have hl : lv_has ls 4 [(0, .ref a_t), (1, .int p0)] := hl
  unfold f_Md_at at hf
  refine lv_iload_n hx hb d_Md_at_0 rfl (lv_at hl 1 rfl) ?_
  refine lv_istore_n (lv' := [(2, .int p0), (0, .ref a_t), (1, .int p0)]) hx hb d_Md_at_1 rfl hl (by decide) rfl (fun ls hl => ?_)
  refine lv_aload_n hx hb d_Md_at_2 rfl (lv_at hl 1 rfl) ?_
  refine va_get (D := D) (ci := 8) (v := (hdv L)) (C := R_Md) (T := F_Md) (N := 21) hx hb hts (fun w9 h9 => .tail _ (gu_Md w9 h9)) hown hK hP 0 rfl rfl 3 (by decide) (hts _ (.tail _ gm_339)) (fun _ h9 => h9) rfl d_Md_at_3 ?_
  refine nk_astore_n (lv' := [(3, (hdv L)), (2, .int p0), (0, .ref a_t), (1, .int p0)]) hx hb d_Md_at_6 rfl hl (by decide) rfl (fun ls hl => ?_)
  exact k_Md_at_L7 hx hb hr hml hown hts hlocks hA hE hK a_t a_t_disk a_t_tape a_t_waitBlock a_t_waitByte a_t_waitOldest L n_t_disk t_disk n_t_tape t_tape t_tapeLong t_kept t_next t_come t_crashes t_thrown t_open t_openFirst t_openMany t_openBytes t_nextPage t_turn t_oldest n_t_waitBlock t_waitBlock n_t_waitByte t_waitByte n_t_waitOldest t_waitOldest t_waiting p0 _ _ [] p0 _ _ rfl hf (va_P.part hP [0, 1, 2, 3, 4, 5] rfl) (va_D.part hD [0, 1, 2, 3, 4, 5] (by decide) rfl) hS ls (lv_sub hl [2, 3, 1, 0] rfl)
theorem d_Md_record_0 : decode b_Md_record 0 = .ok (.aload_n 0, 1) := by decide +kernel
theorem d_Md_record_1 : decode b_Md_record 1 = .ok (.iload_n 1, 1) := by decide +kernel
theorem d_Md_record_2 : decode b_Md_record 2 = .ok (.invokevirtual 162, 3) := by decide +kernel
theorem d_Md_record_5 : decode b_Md_record 5 = .ok (.astore_n 3, 1) := by decide +kernel
theorem d_Md_record_6 : decode b_Md_record 6 = .ok (.aload_n 0, 1) := by decide +kernel
theorem d_Md_record_7 : decode b_Md_record 7 = .ok (.aload_n 3, 1) := by decide +kernel
theorem d_Md_record_8 : decode b_Md_record 8 = .ok (.ifnull 18, 3) := by decide +kernel
theorem d_Md_record_11 : decode b_Md_record 11 = .ok (.iload_n 2, 1) := by decide +kernel
theorem d_Md_record_12 : decode b_Md_record 12 = .ok (.ifCond .lt 14, 3) := by decide +kernel
theorem d_Md_record_15 : decode b_Md_record 15 = .ok (.iload_n 2, 1) := by decide +kernel
theorem d_Md_record_16 : decode b_Md_record 16 = .ok (.iconst 4, 1) := by decide +kernel
theorem d_Md_record_17 : decode b_Md_record 17 = .ok (.aload_n 3, 1) := by decide +kernel
theorem d_Md_record_18 : decode b_Md_record 18 = .ok (.getfield 96, 3) := by decide +kernel
theorem d_Md_record_21 : decode b_Md_record 21 = .ok (.arraylength, 1) := by decide +kernel
theorem d_Md_record_22 : decode b_Md_record 22 = .ok (.iadd, 1) := by decide +kernel
theorem d_Md_record_23 : decode b_Md_record 23 = .ok (.if_icmp .lt 7, 3) := by decide +kernel
theorem d_Md_record_26 : decode b_Md_record 26 = .ok (.iconst 1, 1) := by decide +kernel
theorem d_Md_record_27 : decode b_Md_record 27 = .ok (.goto 4, 3) := by decide +kernel
theorem d_Md_record_30 : decode b_Md_record 30 = .ok (.iconst 0, 1) := by decide +kernel
theorem d_Md_record_31 : decode b_Md_record 31 = .ok (.putfield 53, 3) := by decide +kernel
theorem d_Md_record_34 : decode b_Md_record 34 = .ok (.aload_n 0, 1) := by decide +kernel
theorem d_Md_record_35 : decode b_Md_record 35 = .ok (.getfield 53, 3) := by decide +kernel
theorem d_Md_record_38 : decode b_Md_record 38 = .ok (.ifCond .eq 5, 3) := by decide +kernel
theorem d_Md_record_41 : decode b_Md_record 41 = .ok (.iconst 0, 1) := by decide +kernel
theorem d_Md_record_42 : decode b_Md_record 42 = .ok (.ireturn, 1) := by decide +kernel
theorem d_Md_record_43 : decode b_Md_record 43 = .ok (.iload_n 2, 1) := by decide +kernel
theorem d_Md_record_44 : decode b_Md_record 44 = .ok (.ifCond .ne 10, 3) := by decide +kernel
theorem d_Md_record_47 : decode b_Md_record 47 = .ok (.aload_n 3, 1) := by decide +kernel
theorem d_Md_record_48 : decode b_Md_record 48 = .ok (.getfield 72, 3) := by decide +kernel
theorem d_Md_record_51 : decode b_Md_record 51 = .ok (.goto 48, 3) := by decide +kernel
theorem d_Md_record_54 : decode b_Md_record 54 = .ok (.iload_n 2, 1) := by decide +kernel
theorem d_Md_record_55 : decode b_Md_record 55 = .ok (.iconst 1, 1) := by decide +kernel
theorem d_Md_record_56 : decode b_Md_record 56 = .ok (.if_icmp .ne 10, 3) := by decide +kernel
theorem d_Md_record_59 : decode b_Md_record 59 = .ok (.aload_n 3, 1) := by decide +kernel
theorem d_Md_record_60 : decode b_Md_record 60 = .ok (.getfield 93, 3) := by decide +kernel
theorem d_Md_record_63 : decode b_Md_record 63 = .ok (.goto 36, 3) := by decide +kernel
theorem d_Md_record_66 : decode b_Md_record 66 = .ok (.iload_n 2, 1) := by decide +kernel
theorem d_Md_record_67 : decode b_Md_record 67 = .ok (.iconst 2, 1) := by decide +kernel
theorem d_Md_record_68 : decode b_Md_record 68 = .ok (.if_icmp .ne 11, 3) := by decide +kernel
theorem d_Md_record_71 : decode b_Md_record 71 = .ok (.aload_n 3, 1) := by decide +kernel
theorem d_Md_record_72 : decode b_Md_record 72 = .ok (.getfield 96, 3) := by decide +kernel
theorem d_Md_record_75 : decode b_Md_record 75 = .ok (.arraylength, 1) := by decide +kernel
theorem d_Md_record_76 : decode b_Md_record 76 = .ok (.goto 23, 3) := by decide +kernel
theorem d_Md_record_79 : decode b_Md_record 79 = .ok (.iload_n 2, 1) := by decide +kernel
theorem d_Md_record_80 : decode b_Md_record 80 = .ok (.iconst 3, 1) := by decide +kernel
theorem d_Md_record_81 : decode b_Md_record 81 = .ok (.if_icmp .ne 10, 3) := by decide +kernel
theorem d_Md_record_84 : decode b_Md_record 84 = .ok (.aload_n 3, 1) := by decide +kernel
theorem d_Md_record_85 : decode b_Md_record 85 = .ok (.getfield 77, 3) := by decide +kernel
theorem d_Md_record_88 : decode b_Md_record 88 = .ok (.goto 11, 3) := by decide +kernel
theorem d_Md_record_91 : decode b_Md_record 91 = .ok (.aload_n 3, 1) := by decide +kernel
theorem d_Md_record_92 : decode b_Md_record 92 = .ok (.getfield 96, 3) := by decide +kernel
theorem d_Md_record_95 : decode b_Md_record 95 = .ok (.iload_n 2, 1) := by decide +kernel
theorem d_Md_record_96 : decode b_Md_record 96 = .ok (.iconst 4, 1) := by decide +kernel
theorem d_Md_record_97 : decode b_Md_record 97 = .ok (.isub, 1) := by decide +kernel
theorem d_Md_record_98 : decode b_Md_record 98 = .ok (.iaload, 1) := by decide +kernel
theorem d_Md_record_99 : decode b_Md_record 99 = .ok (.ireturn, 1) := by decide +kernel
abbrev wd_Md_record : List Cond := .code y_Md_record b_Md_record 4 (some .int) :: gw
def f_Md_record (vs : List NV) (n_t_disk : Nat) (t_disk : Nat → Int32) (n_t_tape : Nat) (t_tape : Nat → Int32) (t_tapeLong : Int32) (t_kept : Int32) (t_next : Int32) (t_come : Int32) (t_crashes : Int32) (t_thrown : Int32) (t_open : Int32) (t_openFirst : Int32) (t_openMany : Int32) (t_openBytes : Int32) (t_nextPage : Int32) (t_turn : Int32) (t_oldest : Int32) (n_t_waitBlock : Nat) (t_waitBlock : Nat → Int32) (n_t_waitByte : Nat) (t_waitByte : Nat → Int32) (n_t_waitOldest : Nat) (t_waitOldest : Nat → Int32) (t_waiting : Int32) (p0 : Int32) (p1 : Int32) : Option (Int32 × Int32) :=
  (f_Md_at vs n_t_disk t_disk n_t_tape t_tape t_tapeLong t_kept t_next t_come t_crashes t_thrown t_open t_openFirst t_openMany t_openBytes t_nextPage t_turn t_oldest n_t_waitBlock t_waitBlock n_t_waitByte t_waitByte n_t_waitOldest t_waitOldest t_waiting p0).bind fun o_1 =>
  match o_1 with
  | none =>
    some ((0 : Int32), (1 : Int32))
  | some v2 =>
    if p1 < 0 then
      some ((0 : Int32), (1 : Int32))
    else
      if p1 < ((4 : Int32) + (Int32.ofNat v2.2.2.2.1)) then
        if p1 = 0 then
          some (v2.1, (0 : Int32))
        else
          if p1 = (1 : Int32) then
            some (v2.2.1, (0 : Int32))
          else
            if p1 = (2 : Int32) then
              some ((Int32.ofNat v2.2.2.2.1), (0 : Int32))
            else
              if p1 = (3 : Int32) then
                some (v2.2.2.1, (0 : Int32))
              else
                if (p1 - (4 : Int32)) < 0 ∨ v2.2.2.2.1 ≤ (p1 - (4 : Int32)).toNatClampNeg then none else
                some ((v2.2.2.2.2 (p1 - (4 : Int32)).toNatClampNeg), (0 : Int32))
      else
        some ((0 : Int32), (1 : Int32))
set_option maxHeartbeats 4000000 in
set_option maxRecDepth 100000 in
theorem c_Md_record (l : Launch) (D : va_G) (cA : Nat → ClassId) (a_t a_t_disk a_t_tape a_t_waitBlock a_t_waitByte a_t_waitOldest : Nat) (L : List PR) (sz : Nat) (n_t_disk : Nat) (t_disk : Nat → Int32) (n_t_tape : Nat) (t_tape : Nat → Int32) (t_tapeLong : Int32) (t_kept : Int32) (t_next : Int32) (t_come : Int32) (t_crashes : Int32) (t_thrown : Int32) (t_open : Int32) (t_openFirst : Int32) (t_openMany : Int32) (t_openBytes : Int32) (t_nextPage : Int32) (t_turn : Int32) (t_oldest : Int32) (n_t_waitBlock : Nat) (t_waitBlock : Nat → Int32) (n_t_waitByte : Nat) (t_waitByte : Nat → Int32) (n_t_waitOldest : Nat) (t_waitOldest : Nat → Int32) (t_waiting : Int32) (p0 : Int32) (p1 : Int32) (o : Int32 × Int32) (hf : f_Md_record (L.map pV) n_t_disk t_disk n_t_tape t_tape t_tapeLong t_kept t_next t_come t_crashes t_thrown t_open t_openFirst t_openMany t_openBytes t_nextPage t_turn t_oldest n_t_waitBlock t_waitBlock n_t_waitByte t_waitByte n_t_waitOldest t_waitOldest t_waiting p0 p1 = some o) : Met l y_Md_record wd_Md_record ({ frames := 1, cells := 0, slots := 0, locals := 23 }) (va_Pc [.ref a_t, .int p0, .int p1] (aP D cA ([(a_t, .inr (8, [.ref a_t_disk, .ref a_t_tape, .int t_tapeLong, (hdv L), (lsv L), .int t_kept, .int t_next, .int t_come, .int t_crashes, .int t_thrown, .int t_open, .int t_openFirst, .int t_openMany, .int t_openBytes, .int t_nextPage, .int t_turn, .int t_oldest, .ref a_t_waitBlock, .ref a_t_waitByte, .ref a_t_waitOldest, .int t_waiting])), (a_t_disk, .inl ((cA 0), n_t_disk, .inl t_disk)), (a_t_tape, .inl ((cA 0), n_t_tape, .inl t_tape)), (a_t_waitBlock, .inl ((cA 0), n_t_waitBlock, .inl t_waitBlock)), (a_t_waitByte, .inl ((cA 0), n_t_waitByte, .inl t_waitByte)), (a_t_waitOldest, .inl ((cA 0), n_t_waitOldest, .inl t_waitOldest))] ++ rl cA L) sz)) (va_Qi (fun r9 (_ : Unit) => r9 = o.1) (fun _ t => ∃ u : List PR, u.map pV = (L.map pV) ∧ aR D cA (va_A ([(a_t, .inr (8, [.ref a_t_disk, .ref a_t_tape, .int t_tapeLong, (hdv L), (lsv L), .int t_kept, .int t_next, .int t_come, .int t_crashes, .int t_thrown, .int t_open, .int t_openFirst, .int t_openMany, .int t_openBytes, .int t_nextPage, .int t_turn, .int t_oldest, .ref a_t_waitBlock, .ref a_t_waitByte, .ref a_t_waitOldest, .int t_waiting])), (a_t_disk, .inl ((cA 0), n_t_disk, .inl t_disk)), (a_t_tape, .inl ((cA 0), n_t_tape, .inl t_tape)), (a_t_waitBlock, .inl ((cA 0), n_t_waitBlock, .inl t_waitBlock)), (a_t_waitByte, .inl ((cA 0), n_t_waitByte, .inl t_waitByte)), (a_t_waitOldest, .inl ((cA 0), n_t_waitOldest, .inl t_waitOldest))] ++ rl cA L) sz) ([(a_t, .inr (8, [.ref a_t_disk, .ref a_t_tape, .int t_tapeLong, (hdv u), (lsv u), .int t_kept, .int t_next, .int t_come, .int t_crashes, .int o.2, .int t_open, .int t_openFirst, .int t_openMany, .int t_openBytes, .int t_nextPage, .int t_turn, .int t_oldest, .ref a_t_waitBlock, .ref a_t_waitByte, .ref a_t_waitOldest, .int t_waiting])), (a_t_disk, .inl ((cA 0), n_t_disk, .inl t_disk)), (a_t_tape, .inl ((cA 0), n_t_tape, .inl t_tape)), (a_t_waitBlock, .inl ((cA 0), n_t_waitBlock, .inl t_waitBlock)), (a_t_waitByte, .inl ((cA 0), n_t_waitByte, .inl t_waitByte)), (a_t_waitOldest, .inl ((cA 0), n_t_waitOldest, .inl t_waitOldest))] ++ rl cA u) t) (va_A ([(a_t, .inr (8, [.ref a_t_disk, .ref a_t_tape, .int t_tapeLong, (hdv L), (lsv L), .int t_kept, .int t_next, .int t_come, .int t_crashes, .int t_thrown, .int t_open, .int t_openFirst, .int t_openMany, .int t_openBytes, .int t_nextPage, .int t_turn, .int t_oldest, .ref a_t_waitBlock, .ref a_t_waitByte, .ref a_t_waitOldest, .int t_waiting])), (a_t_disk, .inl ((cA 0), n_t_disk, .inl t_disk)), (a_t_tape, .inl ((cA 0), n_t_tape, .inl t_tape)), (a_t_waitBlock, .inl ((cA 0), n_t_waitBlock, .inl t_waitBlock)), (a_t_waitByte, .inl ((cA 0), n_t_waitByte, .inl t_waitByte)), (a_t_waitOldest, .inl ((cA 0), n_t_waitOldest, .inl t_waitOldest))] ++ rl cA L) sz)) 0 0 (va_A ([(a_t, .inr (8, [.ref a_t_disk, .ref a_t_tape, .int t_tapeLong, (hdv L), (lsv L), .int t_kept, .int t_next, .int t_come, .int t_crashes, .int t_thrown, .int t_open, .int t_openFirst, .int t_openMany, .int t_openBytes, .int t_nextPage, .int t_turn, .int t_oldest, .ref a_t_waitBlock, .ref a_t_waitByte, .ref a_t_waitOldest, .int t_waiting])), (a_t_disk, .inl ((cA 0), n_t_disk, .inl t_disk)), (a_t_tape, .inl ((cA 0), n_t_tape, .inl t_tape)), (a_t_waitBlock, .inl ((cA 0), n_t_waitBlock, .inl t_waitBlock)), (a_t_waitByte, .inl ((cA 0), n_t_waitByte, .inl t_waitByte)), (a_t_waitOldest, .inl ((cA 0), n_t_waitOldest, .inl t_waitOldest))] ++ rl cA L) sz) := by
  refine Met.ofW (cc := b_Md_record) (maxL := 4) (ret := (some .int)) (by decide +kernel) rfl ?_
  intro p e s m args below meth c s₁ B hml hv
  obtain ⟨rfl, hsz, hP, hK, hD0, hE⟩ := hv
  have hx := B.exec
  have hb := B.bytes
  have hr := B.returns
  have hts := atoms_spec (ws := wd_Md_record) B.pre
  have hown : s.vm.findClass R_Md = some m.cls := findClass_of_methodNamed B.named
  have hlocks := B.notSynchronized
  subst hsz
  have hD := hD0.self (sz := s.heap.size)
  generalize hAe : va_A ([(a_t, .inr (8, [.ref a_t_disk, .ref a_t_tape, .int t_tapeLong, (hdv L), (lsv L), .int t_kept, .int t_next, .int t_come, .int t_crashes, .int t_thrown, .int t_open, .int t_openFirst, .int t_openMany, .int t_openBytes, .int t_nextPage, .int t_turn, .int t_oldest, .ref a_t_waitBlock, .ref a_t_waitByte, .ref a_t_waitOldest, .int t_waiting])), (a_t_disk, .inl ((cA 0), n_t_disk, .inl t_disk)), (a_t_tape, .inl ((cA 0), n_t_tape, .inl t_tape)), (a_t_waitBlock, .inl ((cA 0), n_t_waitBlock, .inl t_waitBlock)), (a_t_waitByte, .inl ((cA 0), n_t_waitByte, .inl t_waitByte)), (a_t_waitOldest, .inl ((cA 0), n_t_waitOldest, .inl t_waitOldest))] ++ rl cA L) s.heap.size = A at hD hE ⊢
  have hA : ∀ q : Nat, s.heap.size ≤ q → A q := fun q h => by rw [← hAe]; exact Or.inr h
  have hS : va_S A s.heap s.heap [] := va_S.rf
  have hl := lv_entry [.ref a_t, .int p0, .int p1] (n := 4) (Nat.le_of_ble_eq_true rfl)
  rw [lg_entry_eq]
  generalize (lg_sl [.ref a_t, .int p0, .int p1] ++ List.replicate (4 - (lg_sl [.ref a_t, .int p0, .int p1]).length) Slot.unset).toArray = ls at hl ⊢
  have hl : lv_has ls 4 [(0, .ref a_t), (1, .int p0), (2, .int p1)] := hl
  unfold f_Md_record at hf
  refine lv_aload_n hx hb d_Md_record_0 rfl (lv_at hl 0 rfl) ?_
  refine lv_iload_n hx hb d_Md_record_1 rfl (lv_at hl 1 rfl) ?_
  obtain ⟨o_1, ho_1, hf⟩ := hk_bd hf
  refine q_at (va_runV (As := [.int p0]) (rest := []) ⟨hx, hb, hml, hown, hts⟩ (c_Md_at l D cA a_t a_t_disk a_t_tape a_t_waitBlock a_t_waitByte a_t_waitOldest L _ n_t_disk t_disk n_t_tape t_tape t_tapeLong t_kept t_next t_come t_crashes t_thrown t_open t_openFirst t_openMany t_openBytes t_nextPage t_turn t_oldest n_t_waitBlock t_waitBlock n_t_waitByte t_waitByte n_t_waitOldest t_waitOldest t_waiting p0 o_1 ho_1) (cwV 1 hts (gd_V gm_372 gm_373 gm_374 gm_310 gm_371) rfl rfl rfl (by decide +kernel) ⟨Nat.le_of_ble_eq_true rfl, Nat.le_of_ble_eq_true rfl⟩) (q_pVP hK hP hD hS hA hE [0, 1, 2, 3, 4, 5] (by decide) rfl rfl rfl rfl) rfl rfl hl.1 rfl (lv_room (Nat.le_of_ble_eq_true rfl)) d_Md_record_2 ⟨Nat.zero_le _, Nat.zero_le _⟩) hD hS hA [0, 1, 2, 3, 4, 5] (by decide) rfl (fun H locs e9 hP hD hS => ?_) (fun pre2 r2 t2 H locs hL2 e9 hP hD hS => ?_)
  · subst e9
    have hP : va_P D classes ([(a_t, .inr (8, [.ref a_t_disk, .ref a_t_tape, .int t_tapeLong, (hdv L), (lsv L), .int t_kept, .int t_next, .int t_come, .int t_crashes, .int t_thrown, .int t_open, .int t_openFirst, .int t_openMany, .int t_openBytes, .int t_nextPage, .int t_turn, .int t_oldest, .ref a_t_waitBlock, .ref a_t_waitByte, .ref a_t_waitOldest, .int t_waiting])), (a_t_disk, .inl ((cA 0), n_t_disk, .inl t_disk)), (a_t_tape, .inl ((cA 0), n_t_tape, .inl t_tape)), (a_t_waitBlock, .inl ((cA 0), n_t_waitBlock, .inl t_waitBlock)), (a_t_waitByte, .inl ((cA 0), n_t_waitByte, .inl t_waitByte)), (a_t_waitOldest, .inl ((cA 0), n_t_waitOldest, .inl t_waitOldest))] ++ rl cA L) H := hP
    have hD : va_D A ([(a_t, .inr (8, [.ref a_t_disk, .ref a_t_tape, .int t_tapeLong, (hdv L), (lsv L), .int t_kept, .int t_next, .int t_come, .int t_crashes, .int t_thrown, .int t_open, .int t_openFirst, .int t_openMany, .int t_openBytes, .int t_nextPage, .int t_turn, .int t_oldest, .ref a_t_waitBlock, .ref a_t_waitByte, .ref a_t_waitOldest, .int t_waiting])), (a_t_disk, .inl ((cA 0), n_t_disk, .inl t_disk)), (a_t_tape, .inl ((cA 0), n_t_tape, .inl t_tape)), (a_t_waitBlock, .inl ((cA 0), n_t_waitBlock, .inl t_waitBlock)), (a_t_waitByte, .inl ((cA 0), n_t_waitByte, .inl t_waitByte)), (a_t_waitOldest, .inl ((cA 0), n_t_waitOldest, .inl t_waitOldest))] ++ rl cA L) := hD
    refine lv_astore_nN (lv' := [(3, .null), (0, .ref a_t), (1, .int p0), (2, .int p1)]) hx hb d_Md_record_5 rfl hl (by decide) rfl (fun ls hl => ?_)
    refine lv_aload_n hx hb d_Md_record_6 rfl (lv_at hl 1 rfl) ?_
    refine lv_aload_nN hx hb d_Md_record_7 rfl (lv_at hl 0 rfl) ?_
    refine lv_ifnullN (tgt := 26) hx hb d_Md_record_8 (by decide) ?_
    refine lv_iconst (v := 1) hx hb d_Md_record_26 (by decide) ?_
    refine lv_goto (tgt := 31) hx hb d_Md_record_27 (by decide) ?_
    refine va_put (D := D) (ci := 8) (v := .int (1 : Int32)) (ty := .int) (C := R_Md) (T := F_Md) (N := 21) hx hb hts (fun w9 h9 => .tail _ (gu_Md w9 h9)) t_Md t_Md_ok n_Md hown hK hP hD hS 0 rfl rfl 9 (by decide) (hts _ (.tail _ gm_293)) (fun _ h9 => h9) rfl (by decide +kernel) rfl rfl (Nat.le_of_ble_eq_true rfl) d_Md_record_31 (fun H locs hP hD hS => ?_)
    have hP : va_P D classes ([(a_t, .inr (8, [.ref a_t_disk, .ref a_t_tape, .int t_tapeLong, (hdv L), (lsv L), .int t_kept, .int t_next, .int t_come, .int t_crashes, .int (1 : Int32), .int t_open, .int t_openFirst, .int t_openMany, .int t_openBytes, .int t_nextPage, .int t_turn, .int t_oldest, .ref a_t_waitBlock, .ref a_t_waitByte, .ref a_t_waitOldest, .int t_waiting])), (a_t_disk, .inl ((cA 0), n_t_disk, .inl t_disk)), (a_t_tape, .inl ((cA 0), n_t_tape, .inl t_tape)), (a_t_waitBlock, .inl ((cA 0), n_t_waitBlock, .inl t_waitBlock)), (a_t_waitByte, .inl ((cA 0), n_t_waitByte, .inl t_waitByte)), (a_t_waitOldest, .inl ((cA 0), n_t_waitOldest, .inl t_waitOldest))] ++ rl cA L) H := hP
    have hD : va_D A ([(a_t, .inr (8, [.ref a_t_disk, .ref a_t_tape, .int t_tapeLong, (hdv L), (lsv L), .int t_kept, .int t_next, .int t_come, .int t_crashes, .int (1 : Int32), .int t_open, .int t_openFirst, .int t_openMany, .int t_openBytes, .int t_nextPage, .int t_turn, .int t_oldest, .ref a_t_waitBlock, .ref a_t_waitByte, .ref a_t_waitOldest, .int t_waiting])), (a_t_disk, .inl ((cA 0), n_t_disk, .inl t_disk)), (a_t_tape, .inl ((cA 0), n_t_tape, .inl t_tape)), (a_t_waitBlock, .inl ((cA 0), n_t_waitBlock, .inl t_waitBlock)), (a_t_waitByte, .inl ((cA 0), n_t_waitByte, .inl t_waitByte)), (a_t_waitOldest, .inl ((cA 0), n_t_waitOldest, .inl t_waitOldest))] ++ rl cA L) := hD
    refine lv_aload_n hx hb d_Md_record_34 rfl (lv_at hl 1 rfl) ?_
    refine va_get (D := D) (ci := 8) (v := .int (1 : Int32)) (C := R_Md) (T := F_Md) (N := 21) hx hb hts (fun w9 h9 => .tail _ (gu_Md w9 h9)) hown hK hP 0 rfl rfl 9 (by decide) (hts _ (.tail _ gm_293)) (fun _ h9 => h9) rfl d_Md_record_35 ?_
    refine lv_if_eq (tgt := 43) hx hb d_Md_record_38 (by decide) (fun c9 => absurd c9 (by decide)) (fun _ => ?_)
    refine lv_iconst (v := 0) hx hb d_Md_record_41 (by decide) ?_
    have ho9 := Option.some.inj hf
    subst ho9
    have hP9 := va_P.part (cx := [(a_t, .inr (8, [.ref a_t_disk, .ref a_t_tape, .int t_tapeLong, (hdv L), (lsv L), .int t_kept, .int t_next, .int t_come, .int t_crashes, .int (1 : Int32), .int t_open, .int t_openFirst, .int t_openMany, .int t_openBytes, .int t_nextPage, .int t_turn, .int t_oldest, .ref a_t_waitBlock, .ref a_t_waitByte, .ref a_t_waitOldest, .int t_waiting])), (a_t_disk, .inl ((cA 0), n_t_disk, .inl t_disk)), (a_t_tape, .inl ((cA 0), n_t_tape, .inl t_tape)), (a_t_waitBlock, .inl ((cA 0), n_t_waitBlock, .inl t_waitBlock)), (a_t_waitByte, .inl ((cA 0), n_t_waitByte, .inl t_waitByte)), (a_t_waitOldest, .inl ((cA 0), n_t_waitOldest, .inl t_waitOldest))]) hP [0, 1, 2, 3, 4, 5] rfl
    have hD9 := va_D.part (cx := [(a_t, .inr (8, [.ref a_t_disk, .ref a_t_tape, .int t_tapeLong, (hdv L), (lsv L), .int t_kept, .int t_next, .int t_come, .int t_crashes, .int (1 : Int32), .int t_open, .int t_openFirst, .int t_openMany, .int t_openBytes, .int t_nextPage, .int t_turn, .int t_oldest, .ref a_t_waitBlock, .ref a_t_waitByte, .ref a_t_waitOldest, .int t_waiting])), (a_t_disk, .inl ((cA 0), n_t_disk, .inl t_disk)), (a_t_tape, .inl ((cA 0), n_t_tape, .inl t_tape)), (a_t_waitBlock, .inl ((cA 0), n_t_waitBlock, .inl t_waitBlock)), (a_t_waitByte, .inl ((cA 0), n_t_waitByte, .inl t_waitByte)), (a_t_waitOldest, .inl ((cA 0), n_t_waitOldest, .inl t_waitOldest))]) hD [0, 1, 2, 3, 4, 5] (by decide) rfl
    exact W.iret (v := (0 : Int32)) hx hb hr (fun t ht hW => ⟨⟨_, (), rfl, rfl, ⟨L, rfl, by rw [ht]; exact hP9, va_K.moved hW.alike hK, hD9⟩⟩, hS.F ht⟩) hS.2.2 d_Md_record_42
  · subst e9
    have hP : va_P D classes ([(a_t, .inr (8, [.ref a_t_disk, .ref a_t_tape, .int t_tapeLong, (hdv L), (lsv L), .int t_kept, .int t_next, .int t_come, .int t_crashes, .int t_thrown, .int t_open, .int t_openFirst, .int t_openMany, .int t_openBytes, .int t_nextPage, .int t_turn, .int t_oldest, .ref a_t_waitBlock, .ref a_t_waitByte, .ref a_t_waitOldest, .int t_waiting])), (a_t_disk, .inl ((cA 0), n_t_disk, .inl t_disk)), (a_t_tape, .inl ((cA 0), n_t_tape, .inl t_tape)), (a_t_waitBlock, .inl ((cA 0), n_t_waitBlock, .inl t_waitBlock)), (a_t_waitByte, .inl ((cA 0), n_t_waitByte, .inl t_waitByte)), (a_t_waitOldest, .inl ((cA 0), n_t_waitOldest, .inl t_waitOldest))] ++ rl cA L) H := hP
    have hD : va_D A ([(a_t, .inr (8, [.ref a_t_disk, .ref a_t_tape, .int t_tapeLong, (hdv L), (lsv L), .int t_kept, .int t_next, .int t_come, .int t_crashes, .int t_thrown, .int t_open, .int t_openFirst, .int t_openMany, .int t_openBytes, .int t_nextPage, .int t_turn, .int t_oldest, .ref a_t_waitBlock, .ref a_t_waitByte, .ref a_t_waitOldest, .int t_waiting])), (a_t_disk, .inl ((cA 0), n_t_disk, .inl t_disk)), (a_t_tape, .inl ((cA 0), n_t_tape, .inl t_tape)), (a_t_waitBlock, .inl ((cA 0), n_t_waitBlock, .inl t_waitBlock)), (a_t_waitByte, .inl ((cA 0), n_t_waitByte, .inl t_waitByte)), (a_t_waitOldest, .inl ((cA 0), n_t_waitOldest, .inl t_waitOldest))] ++ rl cA L) := hD
    refine lv_astore_n (lv' := [(3, .ref r2.1), (0, .ref a_t), (1, .int p0), (2, .int p1)]) hx hb d_Md_record_5 rfl hl (by decide) rfl (fun ls hl => ?_)
    refine lv_aload_n hx hb d_Md_record_6 rfl (lv_at hl 1 rfl) ?_
    refine lv_aload_n hx hb d_Md_record_7 rfl (lv_at hl 0 rfl) ?_
    refine lv_ifnull hx hb d_Md_record_8 ?_
    refine lv_iload_n hx hb d_Md_record_11 rfl (lv_at hl 3 rfl) ?_
    refine lv_if_lt (tgt := 26) hx hb d_Md_record_12 (by decide) (fun c_2 => ?_) (fun c_2 => ?_)
    · replace hf := (if_pos c_2).symm.trans hf
      refine lv_iconst (v := 1) hx hb d_Md_record_26 (by decide) ?_
      refine lv_goto (tgt := 31) hx hb d_Md_record_27 (by decide) ?_
      refine va_put (D := D) (ci := 8) (v := .int (1 : Int32)) (ty := .int) (C := R_Md) (T := F_Md) (N := 21) hx hb hts (fun w9 h9 => .tail _ (gu_Md w9 h9)) t_Md t_Md_ok n_Md hown hK hP hD hS 0 rfl rfl 9 (by decide) (hts _ (.tail _ gm_293)) (fun _ h9 => h9) rfl (by decide +kernel) rfl rfl (Nat.le_of_ble_eq_true rfl) d_Md_record_31 (fun H locs hP hD hS => ?_)
      have hP : va_P D classes ([(a_t, .inr (8, [.ref a_t_disk, .ref a_t_tape, .int t_tapeLong, (hdv L), (lsv L), .int t_kept, .int t_next, .int t_come, .int t_crashes, .int (1 : Int32), .int t_open, .int t_openFirst, .int t_openMany, .int t_openBytes, .int t_nextPage, .int t_turn, .int t_oldest, .ref a_t_waitBlock, .ref a_t_waitByte, .ref a_t_waitOldest, .int t_waiting])), (a_t_disk, .inl ((cA 0), n_t_disk, .inl t_disk)), (a_t_tape, .inl ((cA 0), n_t_tape, .inl t_tape)), (a_t_waitBlock, .inl ((cA 0), n_t_waitBlock, .inl t_waitBlock)), (a_t_waitByte, .inl ((cA 0), n_t_waitByte, .inl t_waitByte)), (a_t_waitOldest, .inl ((cA 0), n_t_waitOldest, .inl t_waitOldest))] ++ rl cA L) H := hP
      have hD : va_D A ([(a_t, .inr (8, [.ref a_t_disk, .ref a_t_tape, .int t_tapeLong, (hdv L), (lsv L), .int t_kept, .int t_next, .int t_come, .int t_crashes, .int (1 : Int32), .int t_open, .int t_openFirst, .int t_openMany, .int t_openBytes, .int t_nextPage, .int t_turn, .int t_oldest, .ref a_t_waitBlock, .ref a_t_waitByte, .ref a_t_waitOldest, .int t_waiting])), (a_t_disk, .inl ((cA 0), n_t_disk, .inl t_disk)), (a_t_tape, .inl ((cA 0), n_t_tape, .inl t_tape)), (a_t_waitBlock, .inl ((cA 0), n_t_waitBlock, .inl t_waitBlock)), (a_t_waitByte, .inl ((cA 0), n_t_waitByte, .inl t_waitByte)), (a_t_waitOldest, .inl ((cA 0), n_t_waitOldest, .inl t_waitOldest))] ++ rl cA L) := hD
      refine lv_aload_n hx hb d_Md_record_34 rfl (lv_at hl 1 rfl) ?_
      refine va_get (D := D) (ci := 8) (v := .int (1 : Int32)) (C := R_Md) (T := F_Md) (N := 21) hx hb hts (fun w9 h9 => .tail _ (gu_Md w9 h9)) hown hK hP 0 rfl rfl 9 (by decide) (hts _ (.tail _ gm_293)) (fun _ h9 => h9) rfl d_Md_record_35 ?_
      refine lv_if_eq (tgt := 43) hx hb d_Md_record_38 (by decide) (fun c9 => absurd c9 (by decide)) (fun _ => ?_)
      refine lv_iconst (v := 0) hx hb d_Md_record_41 (by decide) ?_
      have ho9 := Option.some.inj hf
      subst ho9
      have hP9 := va_P.part (cx := [(a_t, .inr (8, [.ref a_t_disk, .ref a_t_tape, .int t_tapeLong, (hdv L), (lsv L), .int t_kept, .int t_next, .int t_come, .int t_crashes, .int (1 : Int32), .int t_open, .int t_openFirst, .int t_openMany, .int t_openBytes, .int t_nextPage, .int t_turn, .int t_oldest, .ref a_t_waitBlock, .ref a_t_waitByte, .ref a_t_waitOldest, .int t_waiting])), (a_t_disk, .inl ((cA 0), n_t_disk, .inl t_disk)), (a_t_tape, .inl ((cA 0), n_t_tape, .inl t_tape)), (a_t_waitBlock, .inl ((cA 0), n_t_waitBlock, .inl t_waitBlock)), (a_t_waitByte, .inl ((cA 0), n_t_waitByte, .inl t_waitByte)), (a_t_waitOldest, .inl ((cA 0), n_t_waitOldest, .inl t_waitOldest))]) hP [0, 1, 2, 3, 4, 5] rfl
      have hD9 := va_D.part (cx := [(a_t, .inr (8, [.ref a_t_disk, .ref a_t_tape, .int t_tapeLong, (hdv L), (lsv L), .int t_kept, .int t_next, .int t_come, .int t_crashes, .int (1 : Int32), .int t_open, .int t_openFirst, .int t_openMany, .int t_openBytes, .int t_nextPage, .int t_turn, .int t_oldest, .ref a_t_waitBlock, .ref a_t_waitByte, .ref a_t_waitOldest, .int t_waiting])), (a_t_disk, .inl ((cA 0), n_t_disk, .inl t_disk)), (a_t_tape, .inl ((cA 0), n_t_tape, .inl t_tape)), (a_t_waitBlock, .inl ((cA 0), n_t_waitBlock, .inl t_waitBlock)), (a_t_waitByte, .inl ((cA 0), n_t_waitByte, .inl t_waitByte)), (a_t_waitOldest, .inl ((cA 0), n_t_waitOldest, .inl t_waitOldest))]) hD [0, 1, 2, 3, 4, 5] (by decide) rfl
      exact W.iret (v := (0 : Int32)) hx hb hr (fun t ht hW => ⟨⟨_, (), rfl, rfl, ⟨L, rfl, by rw [ht]; exact hP9, va_K.moved hW.alike hK, hD9⟩⟩, hS.F ht⟩) hS.2.2 d_Md_record_42
    · replace hf := (if_neg c_2).symm.trans hf
      refine lv_iload_n hx hb d_Md_record_15 rfl (lv_at hl 3 rfl) ?_
      refine lv_iconst (v := 4) hx hb d_Md_record_16 (by decide) ?_
      refine lv_aload_n hx hb d_Md_record_17 rfl (lv_at hl 0 rfl) ?_
      refine va_get (D := D) (ci := 7) (v := .ref r2.2.1) (C := R_Re) (T := F_Re) (N := 5) hx hb hts (fun w9 h9 => .tail _ (gu_Re w9 h9)) hown hK hP (6 + 2 * pre2.length) (by rw [hL2]; exact rl_rec _ _ _ _) rfl 3 (by decide) (hts _ (.tail _ gm_358)) (fun _ h9 => h9) rfl d_Md_record_18 ?_
      refine va_alen hx hb hK hP (6 + 2 * pre2.length + 1) 0 (by rw [hL2]; exact rl_arr _ _ _ _) rfl rfl d_Md_record_21 ?_
      refine lv_iadd hx hb d_Md_record_22 ?_
      refine lv_icmp_lt (tgt := 30) hx hb d_Md_record_23 (by decide) (fun c_3 => ?_) (fun c_3 => ?_)
      · replace hf := (if_pos c_3).symm.trans hf
        refine lv_iconst (v := 0) hx hb d_Md_record_30 (by decide) ?_
        refine va_put (D := D) (ci := 8) (v := .int (0 : Int32)) (ty := .int) (C := R_Md) (T := F_Md) (N := 21) hx hb hts (fun w9 h9 => .tail _ (gu_Md w9 h9)) t_Md t_Md_ok n_Md hown hK hP hD hS 0 rfl rfl 9 (by decide) (hts _ (.tail _ gm_293)) (fun _ h9 => h9) rfl (by decide +kernel) rfl rfl (Nat.le_of_ble_eq_true rfl) d_Md_record_31 (fun H locs hP hD hS => ?_)
        have hP : va_P D classes ([(a_t, .inr (8, [.ref a_t_disk, .ref a_t_tape, .int t_tapeLong, (hdv L), (lsv L), .int t_kept, .int t_next, .int t_come, .int t_crashes, .int (0 : Int32), .int t_open, .int t_openFirst, .int t_openMany, .int t_openBytes, .int t_nextPage, .int t_turn, .int t_oldest, .ref a_t_waitBlock, .ref a_t_waitByte, .ref a_t_waitOldest, .int t_waiting])), (a_t_disk, .inl ((cA 0), n_t_disk, .inl t_disk)), (a_t_tape, .inl ((cA 0), n_t_tape, .inl t_tape)), (a_t_waitBlock, .inl ((cA 0), n_t_waitBlock, .inl t_waitBlock)), (a_t_waitByte, .inl ((cA 0), n_t_waitByte, .inl t_waitByte)), (a_t_waitOldest, .inl ((cA 0), n_t_waitOldest, .inl t_waitOldest))] ++ rl cA L) H := hP
        have hD : va_D A ([(a_t, .inr (8, [.ref a_t_disk, .ref a_t_tape, .int t_tapeLong, (hdv L), (lsv L), .int t_kept, .int t_next, .int t_come, .int t_crashes, .int (0 : Int32), .int t_open, .int t_openFirst, .int t_openMany, .int t_openBytes, .int t_nextPage, .int t_turn, .int t_oldest, .ref a_t_waitBlock, .ref a_t_waitByte, .ref a_t_waitOldest, .int t_waiting])), (a_t_disk, .inl ((cA 0), n_t_disk, .inl t_disk)), (a_t_tape, .inl ((cA 0), n_t_tape, .inl t_tape)), (a_t_waitBlock, .inl ((cA 0), n_t_waitBlock, .inl t_waitBlock)), (a_t_waitByte, .inl ((cA 0), n_t_waitByte, .inl t_waitByte)), (a_t_waitOldest, .inl ((cA 0), n_t_waitOldest, .inl t_waitOldest))] ++ rl cA L) := hD
        refine lv_aload_n hx hb d_Md_record_34 rfl (lv_at hl 1 rfl) ?_
        refine va_get (D := D) (ci := 8) (v := .int (0 : Int32)) (C := R_Md) (T := F_Md) (N := 21) hx hb hts (fun w9 h9 => .tail _ (gu_Md w9 h9)) hown hK hP 0 rfl rfl 9 (by decide) (hts _ (.tail _ gm_293)) (fun _ h9 => h9) rfl d_Md_record_35 ?_
        refine lv_if_eq (tgt := 43) hx hb d_Md_record_38 (by decide) (fun _ => ?_) (fun c9 => absurd (by decide) c9)
        refine lv_iload_n hx hb d_Md_record_43 rfl (lv_at hl 3 rfl) ?_
        refine lv_if_ne (tgt := 54) hx hb d_Md_record_44 (by decide) (fun c_4 => ?_) (fun c_4 => ?_)
        · replace hf := (if_neg c_4).symm.trans hf
          refine lv_iload_n hx hb d_Md_record_54 rfl (lv_at hl 3 rfl) ?_
          refine lv_iconst (v := 1) hx hb d_Md_record_55 (by decide) ?_
          refine lv_icmp_ne (tgt := 66) hx hb d_Md_record_56 (by decide) (fun c_5 => ?_) (fun c_5 => ?_)
          · replace hf := (if_neg c_5).symm.trans hf
            refine lv_iload_n hx hb d_Md_record_66 rfl (lv_at hl 3 rfl) ?_
            refine lv_iconst (v := 2) hx hb d_Md_record_67 (by decide) ?_
            refine lv_icmp_ne (tgt := 79) hx hb d_Md_record_68 (by decide) (fun c_6 => ?_) (fun c_6 => ?_)
            · replace hf := (if_neg c_6).symm.trans hf
              refine lv_iload_n hx hb d_Md_record_79 rfl (lv_at hl 3 rfl) ?_
              refine lv_iconst (v := 3) hx hb d_Md_record_80 (by decide) ?_
              refine lv_icmp_ne (tgt := 91) hx hb d_Md_record_81 (by decide) (fun c_7 => ?_) (fun c_7 => ?_)
              · replace hf := (if_neg c_7).symm.trans hf
                refine lv_aload_n hx hb d_Md_record_91 rfl (lv_at hl 0 rfl) ?_
                refine va_get (D := D) (ci := 7) (v := .ref r2.2.1) (C := R_Re) (T := F_Re) (N := 5) hx hb hts (fun w9 h9 => .tail _ (gu_Re w9 h9)) hown hK hP (6 + 2 * pre2.length) (by rw [hL2]; exact rl_rec _ _ _ _) rfl 3 (by decide) (hts _ (.tail _ gm_358)) (fun _ h9 => h9) rfl d_Md_record_92 ?_
                refine lv_iload_n hx hb d_Md_record_95 rfl (lv_at hl 3 rfl) ?_
                refine lv_iconst (v := 4) hx hb d_Md_record_96 (by decide) ?_
                refine lv_isub hx hb d_Md_record_97 ?_
                obtain ⟨ck_8, hf⟩ := hk_if hf
                refine va_iald hx hb hK hP (6 + 2 * pre2.length + 1) 0 (by rw [hL2]; exact rl_arr _ _ _ _) rfl ck_8 d_Md_record_98 ?_
                have ho9 := Option.some.inj hf
                subst ho9
                have hP9 := va_P.part (cx := [(a_t, .inr (8, [.ref a_t_disk, .ref a_t_tape, .int t_tapeLong, (hdv L), (lsv L), .int t_kept, .int t_next, .int t_come, .int t_crashes, .int (0 : Int32), .int t_open, .int t_openFirst, .int t_openMany, .int t_openBytes, .int t_nextPage, .int t_turn, .int t_oldest, .ref a_t_waitBlock, .ref a_t_waitByte, .ref a_t_waitOldest, .int t_waiting])), (a_t_disk, .inl ((cA 0), n_t_disk, .inl t_disk)), (a_t_tape, .inl ((cA 0), n_t_tape, .inl t_tape)), (a_t_waitBlock, .inl ((cA 0), n_t_waitBlock, .inl t_waitBlock)), (a_t_waitByte, .inl ((cA 0), n_t_waitByte, .inl t_waitByte)), (a_t_waitOldest, .inl ((cA 0), n_t_waitOldest, .inl t_waitOldest))]) hP [0, 1, 2, 3, 4, 5] rfl
                have hD9 := va_D.part (cx := [(a_t, .inr (8, [.ref a_t_disk, .ref a_t_tape, .int t_tapeLong, (hdv L), (lsv L), .int t_kept, .int t_next, .int t_come, .int t_crashes, .int (0 : Int32), .int t_open, .int t_openFirst, .int t_openMany, .int t_openBytes, .int t_nextPage, .int t_turn, .int t_oldest, .ref a_t_waitBlock, .ref a_t_waitByte, .ref a_t_waitOldest, .int t_waiting])), (a_t_disk, .inl ((cA 0), n_t_disk, .inl t_disk)), (a_t_tape, .inl ((cA 0), n_t_tape, .inl t_tape)), (a_t_waitBlock, .inl ((cA 0), n_t_waitBlock, .inl t_waitBlock)), (a_t_waitByte, .inl ((cA 0), n_t_waitByte, .inl t_waitByte)), (a_t_waitOldest, .inl ((cA 0), n_t_waitOldest, .inl t_waitOldest))]) hD [0, 1, 2, 3, 4, 5] (by decide) rfl
                exact W.iret (v := (r2.2.2.2.2.2.2 (p1 - (4 : Int32)).toNatClampNeg)) hx hb hr (fun t ht hW => ⟨⟨_, (), rfl, rfl, ⟨L, rfl, by rw [ht]; exact hP9, va_K.moved hW.alike hK, hD9⟩⟩, hS.F ht⟩) hS.2.2 d_Md_record_99
              · replace hf := (if_pos c_7).symm.trans hf
                refine lv_aload_n hx hb d_Md_record_84 rfl (lv_at hl 0 rfl) ?_
                refine va_get (D := D) (ci := 7) (v := .int r2.2.2.2.2.1) (C := R_Re) (T := F_Re) (N := 5) hx hb hts (fun w9 h9 => .tail _ (gu_Re w9 h9)) hown hK hP (6 + 2 * pre2.length) (by rw [hL2]; exact rl_rec _ _ _ _) rfl 2 (by decide) (hts _ (.tail _ gm_346)) (fun _ h9 => h9) rfl d_Md_record_85 ?_
                refine lv_goto (tgt := 99) hx hb d_Md_record_88 (by decide) ?_
                have ho9 := Option.some.inj hf
                subst ho9
                have hP9 := va_P.part (cx := [(a_t, .inr (8, [.ref a_t_disk, .ref a_t_tape, .int t_tapeLong, (hdv L), (lsv L), .int t_kept, .int t_next, .int t_come, .int t_crashes, .int (0 : Int32), .int t_open, .int t_openFirst, .int t_openMany, .int t_openBytes, .int t_nextPage, .int t_turn, .int t_oldest, .ref a_t_waitBlock, .ref a_t_waitByte, .ref a_t_waitOldest, .int t_waiting])), (a_t_disk, .inl ((cA 0), n_t_disk, .inl t_disk)), (a_t_tape, .inl ((cA 0), n_t_tape, .inl t_tape)), (a_t_waitBlock, .inl ((cA 0), n_t_waitBlock, .inl t_waitBlock)), (a_t_waitByte, .inl ((cA 0), n_t_waitByte, .inl t_waitByte)), (a_t_waitOldest, .inl ((cA 0), n_t_waitOldest, .inl t_waitOldest))]) hP [0, 1, 2, 3, 4, 5] rfl
                have hD9 := va_D.part (cx := [(a_t, .inr (8, [.ref a_t_disk, .ref a_t_tape, .int t_tapeLong, (hdv L), (lsv L), .int t_kept, .int t_next, .int t_come, .int t_crashes, .int (0 : Int32), .int t_open, .int t_openFirst, .int t_openMany, .int t_openBytes, .int t_nextPage, .int t_turn, .int t_oldest, .ref a_t_waitBlock, .ref a_t_waitByte, .ref a_t_waitOldest, .int t_waiting])), (a_t_disk, .inl ((cA 0), n_t_disk, .inl t_disk)), (a_t_tape, .inl ((cA 0), n_t_tape, .inl t_tape)), (a_t_waitBlock, .inl ((cA 0), n_t_waitBlock, .inl t_waitBlock)), (a_t_waitByte, .inl ((cA 0), n_t_waitByte, .inl t_waitByte)), (a_t_waitOldest, .inl ((cA 0), n_t_waitOldest, .inl t_waitOldest))]) hD [0, 1, 2, 3, 4, 5] (by decide) rfl
                exact W.iret (v := r2.2.2.2.2.1) hx hb hr (fun t ht hW => ⟨⟨_, (), rfl, rfl, ⟨L, rfl, by rw [ht]; exact hP9, va_K.moved hW.alike hK, hD9⟩⟩, hS.F ht⟩) hS.2.2 d_Md_record_99
            · replace hf := (if_pos c_6).symm.trans hf
              refine lv_aload_n hx hb d_Md_record_71 rfl (lv_at hl 0 rfl) ?_
              refine va_get (D := D) (ci := 7) (v := .ref r2.2.1) (C := R_Re) (T := F_Re) (N := 5) hx hb hts (fun w9 h9 => .tail _ (gu_Re w9 h9)) hown hK hP (6 + 2 * pre2.length) (by rw [hL2]; exact rl_rec _ _ _ _) rfl 3 (by decide) (hts _ (.tail _ gm_358)) (fun _ h9 => h9) rfl d_Md_record_72 ?_
              refine va_alen hx hb hK hP (6 + 2 * pre2.length + 1) 0 (by rw [hL2]; exact rl_arr _ _ _ _) rfl rfl d_Md_record_75 ?_
              refine lv_goto (tgt := 99) hx hb d_Md_record_76 (by decide) ?_
              have ho9 := Option.some.inj hf
              subst ho9
              have hP9 := va_P.part (cx := [(a_t, .inr (8, [.ref a_t_disk, .ref a_t_tape, .int t_tapeLong, (hdv L), (lsv L), .int t_kept, .int t_next, .int t_come, .int t_crashes, .int (0 : Int32), .int t_open, .int t_openFirst, .int t_openMany, .int t_openBytes, .int t_nextPage, .int t_turn, .int t_oldest, .ref a_t_waitBlock, .ref a_t_waitByte, .ref a_t_waitOldest, .int t_waiting])), (a_t_disk, .inl ((cA 0), n_t_disk, .inl t_disk)), (a_t_tape, .inl ((cA 0), n_t_tape, .inl t_tape)), (a_t_waitBlock, .inl ((cA 0), n_t_waitBlock, .inl t_waitBlock)), (a_t_waitByte, .inl ((cA 0), n_t_waitByte, .inl t_waitByte)), (a_t_waitOldest, .inl ((cA 0), n_t_waitOldest, .inl t_waitOldest))]) hP [0, 1, 2, 3, 4, 5] rfl
              have hD9 := va_D.part (cx := [(a_t, .inr (8, [.ref a_t_disk, .ref a_t_tape, .int t_tapeLong, (hdv L), (lsv L), .int t_kept, .int t_next, .int t_come, .int t_crashes, .int (0 : Int32), .int t_open, .int t_openFirst, .int t_openMany, .int t_openBytes, .int t_nextPage, .int t_turn, .int t_oldest, .ref a_t_waitBlock, .ref a_t_waitByte, .ref a_t_waitOldest, .int t_waiting])), (a_t_disk, .inl ((cA 0), n_t_disk, .inl t_disk)), (a_t_tape, .inl ((cA 0), n_t_tape, .inl t_tape)), (a_t_waitBlock, .inl ((cA 0), n_t_waitBlock, .inl t_waitBlock)), (a_t_waitByte, .inl ((cA 0), n_t_waitByte, .inl t_waitByte)), (a_t_waitOldest, .inl ((cA 0), n_t_waitOldest, .inl t_waitOldest))]) hD [0, 1, 2, 3, 4, 5] (by decide) rfl
              exact W.iret (v := (Int32.ofNat r2.2.2.2.2.2.1)) hx hb hr (fun t ht hW => ⟨⟨_, (), rfl, rfl, ⟨L, rfl, by rw [ht]; exact hP9, va_K.moved hW.alike hK, hD9⟩⟩, hS.F ht⟩) hS.2.2 d_Md_record_99
          · replace hf := (if_pos c_5).symm.trans hf
            refine lv_aload_n hx hb d_Md_record_59 rfl (lv_at hl 0 rfl) ?_
            refine va_get (D := D) (ci := 7) (v := .int r2.2.2.2.1) (C := R_Re) (T := F_Re) (N := 5) hx hb hts (fun w9 h9 => .tail _ (gu_Re w9 h9)) hown hK hP (6 + 2 * pre2.length) (by rw [hL2]; exact rl_rec _ _ _ _) rfl 1 (by decide) (hts _ (.tail _ gm_357)) (fun _ h9 => h9) rfl d_Md_record_60 ?_
            refine lv_goto (tgt := 99) hx hb d_Md_record_63 (by decide) ?_
            have ho9 := Option.some.inj hf
            subst ho9
            have hP9 := va_P.part (cx := [(a_t, .inr (8, [.ref a_t_disk, .ref a_t_tape, .int t_tapeLong, (hdv L), (lsv L), .int t_kept, .int t_next, .int t_come, .int t_crashes, .int (0 : Int32), .int t_open, .int t_openFirst, .int t_openMany, .int t_openBytes, .int t_nextPage, .int t_turn, .int t_oldest, .ref a_t_waitBlock, .ref a_t_waitByte, .ref a_t_waitOldest, .int t_waiting])), (a_t_disk, .inl ((cA 0), n_t_disk, .inl t_disk)), (a_t_tape, .inl ((cA 0), n_t_tape, .inl t_tape)), (a_t_waitBlock, .inl ((cA 0), n_t_waitBlock, .inl t_waitBlock)), (a_t_waitByte, .inl ((cA 0), n_t_waitByte, .inl t_waitByte)), (a_t_waitOldest, .inl ((cA 0), n_t_waitOldest, .inl t_waitOldest))]) hP [0, 1, 2, 3, 4, 5] rfl
            have hD9 := va_D.part (cx := [(a_t, .inr (8, [.ref a_t_disk, .ref a_t_tape, .int t_tapeLong, (hdv L), (lsv L), .int t_kept, .int t_next, .int t_come, .int t_crashes, .int (0 : Int32), .int t_open, .int t_openFirst, .int t_openMany, .int t_openBytes, .int t_nextPage, .int t_turn, .int t_oldest, .ref a_t_waitBlock, .ref a_t_waitByte, .ref a_t_waitOldest, .int t_waiting])), (a_t_disk, .inl ((cA 0), n_t_disk, .inl t_disk)), (a_t_tape, .inl ((cA 0), n_t_tape, .inl t_tape)), (a_t_waitBlock, .inl ((cA 0), n_t_waitBlock, .inl t_waitBlock)), (a_t_waitByte, .inl ((cA 0), n_t_waitByte, .inl t_waitByte)), (a_t_waitOldest, .inl ((cA 0), n_t_waitOldest, .inl t_waitOldest))]) hD [0, 1, 2, 3, 4, 5] (by decide) rfl
            exact W.iret (v := r2.2.2.2.1) hx hb hr (fun t ht hW => ⟨⟨_, (), rfl, rfl, ⟨L, rfl, by rw [ht]; exact hP9, va_K.moved hW.alike hK, hD9⟩⟩, hS.F ht⟩) hS.2.2 d_Md_record_99
        · replace hf := (if_pos c_4).symm.trans hf
          refine lv_aload_n hx hb d_Md_record_47 rfl (lv_at hl 0 rfl) ?_
          refine va_get (D := D) (ci := 7) (v := .int r2.2.2.1) (C := R_Re) (T := F_Re) (N := 5) hx hb hts (fun w9 h9 => .tail _ (gu_Re w9 h9)) hown hK hP (6 + 2 * pre2.length) (by rw [hL2]; exact rl_rec _ _ _ _) rfl 0 (by decide) (hts _ (.tail _ gm_344)) (fun _ h9 => h9) rfl d_Md_record_48 ?_
          refine lv_goto (tgt := 99) hx hb d_Md_record_51 (by decide) ?_
          have ho9 := Option.some.inj hf
          subst ho9
          have hP9 := va_P.part (cx := [(a_t, .inr (8, [.ref a_t_disk, .ref a_t_tape, .int t_tapeLong, (hdv L), (lsv L), .int t_kept, .int t_next, .int t_come, .int t_crashes, .int (0 : Int32), .int t_open, .int t_openFirst, .int t_openMany, .int t_openBytes, .int t_nextPage, .int t_turn, .int t_oldest, .ref a_t_waitBlock, .ref a_t_waitByte, .ref a_t_waitOldest, .int t_waiting])), (a_t_disk, .inl ((cA 0), n_t_disk, .inl t_disk)), (a_t_tape, .inl ((cA 0), n_t_tape, .inl t_tape)), (a_t_waitBlock, .inl ((cA 0), n_t_waitBlock, .inl t_waitBlock)), (a_t_waitByte, .inl ((cA 0), n_t_waitByte, .inl t_waitByte)), (a_t_waitOldest, .inl ((cA 0), n_t_waitOldest, .inl t_waitOldest))]) hP [0, 1, 2, 3, 4, 5] rfl
          have hD9 := va_D.part (cx := [(a_t, .inr (8, [.ref a_t_disk, .ref a_t_tape, .int t_tapeLong, (hdv L), (lsv L), .int t_kept, .int t_next, .int t_come, .int t_crashes, .int (0 : Int32), .int t_open, .int t_openFirst, .int t_openMany, .int t_openBytes, .int t_nextPage, .int t_turn, .int t_oldest, .ref a_t_waitBlock, .ref a_t_waitByte, .ref a_t_waitOldest, .int t_waiting])), (a_t_disk, .inl ((cA 0), n_t_disk, .inl t_disk)), (a_t_tape, .inl ((cA 0), n_t_tape, .inl t_tape)), (a_t_waitBlock, .inl ((cA 0), n_t_waitBlock, .inl t_waitBlock)), (a_t_waitByte, .inl ((cA 0), n_t_waitByte, .inl t_waitByte)), (a_t_waitOldest, .inl ((cA 0), n_t_waitOldest, .inl t_waitOldest))]) hD [0, 1, 2, 3, 4, 5] (by decide) rfl
          exact W.iret (v := r2.2.2.1) hx hb hr (fun t ht hW => ⟨⟨_, (), rfl, rfl, ⟨L, rfl, by rw [ht]; exact hP9, va_K.moved hW.alike hK, hD9⟩⟩, hS.F ht⟩) hS.2.2 d_Md_record_99
      · replace hf := (if_neg c_3).symm.trans hf
        refine lv_iconst (v := 1) hx hb d_Md_record_26 (by decide) ?_
        refine lv_goto (tgt := 31) hx hb d_Md_record_27 (by decide) ?_
        refine va_put (D := D) (ci := 8) (v := .int (1 : Int32)) (ty := .int) (C := R_Md) (T := F_Md) (N := 21) hx hb hts (fun w9 h9 => .tail _ (gu_Md w9 h9)) t_Md t_Md_ok n_Md hown hK hP hD hS 0 rfl rfl 9 (by decide) (hts _ (.tail _ gm_293)) (fun _ h9 => h9) rfl (by decide +kernel) rfl rfl (Nat.le_of_ble_eq_true rfl) d_Md_record_31 (fun H locs hP hD hS => ?_)
        have hP : va_P D classes ([(a_t, .inr (8, [.ref a_t_disk, .ref a_t_tape, .int t_tapeLong, (hdv L), (lsv L), .int t_kept, .int t_next, .int t_come, .int t_crashes, .int (1 : Int32), .int t_open, .int t_openFirst, .int t_openMany, .int t_openBytes, .int t_nextPage, .int t_turn, .int t_oldest, .ref a_t_waitBlock, .ref a_t_waitByte, .ref a_t_waitOldest, .int t_waiting])), (a_t_disk, .inl ((cA 0), n_t_disk, .inl t_disk)), (a_t_tape, .inl ((cA 0), n_t_tape, .inl t_tape)), (a_t_waitBlock, .inl ((cA 0), n_t_waitBlock, .inl t_waitBlock)), (a_t_waitByte, .inl ((cA 0), n_t_waitByte, .inl t_waitByte)), (a_t_waitOldest, .inl ((cA 0), n_t_waitOldest, .inl t_waitOldest))] ++ rl cA L) H := hP
        have hD : va_D A ([(a_t, .inr (8, [.ref a_t_disk, .ref a_t_tape, .int t_tapeLong, (hdv L), (lsv L), .int t_kept, .int t_next, .int t_come, .int t_crashes, .int (1 : Int32), .int t_open, .int t_openFirst, .int t_openMany, .int t_openBytes, .int t_nextPage, .int t_turn, .int t_oldest, .ref a_t_waitBlock, .ref a_t_waitByte, .ref a_t_waitOldest, .int t_waiting])), (a_t_disk, .inl ((cA 0), n_t_disk, .inl t_disk)), (a_t_tape, .inl ((cA 0), n_t_tape, .inl t_tape)), (a_t_waitBlock, .inl ((cA 0), n_t_waitBlock, .inl t_waitBlock)), (a_t_waitByte, .inl ((cA 0), n_t_waitByte, .inl t_waitByte)), (a_t_waitOldest, .inl ((cA 0), n_t_waitOldest, .inl t_waitOldest))] ++ rl cA L) := hD
        refine lv_aload_n hx hb d_Md_record_34 rfl (lv_at hl 1 rfl) ?_
        refine va_get (D := D) (ci := 8) (v := .int (1 : Int32)) (C := R_Md) (T := F_Md) (N := 21) hx hb hts (fun w9 h9 => .tail _ (gu_Md w9 h9)) hown hK hP 0 rfl rfl 9 (by decide) (hts _ (.tail _ gm_293)) (fun _ h9 => h9) rfl d_Md_record_35 ?_
        refine lv_if_eq (tgt := 43) hx hb d_Md_record_38 (by decide) (fun c9 => absurd c9 (by decide)) (fun _ => ?_)
        refine lv_iconst (v := 0) hx hb d_Md_record_41 (by decide) ?_
        have ho9 := Option.some.inj hf
        subst ho9
        have hP9 := va_P.part (cx := [(a_t, .inr (8, [.ref a_t_disk, .ref a_t_tape, .int t_tapeLong, (hdv L), (lsv L), .int t_kept, .int t_next, .int t_come, .int t_crashes, .int (1 : Int32), .int t_open, .int t_openFirst, .int t_openMany, .int t_openBytes, .int t_nextPage, .int t_turn, .int t_oldest, .ref a_t_waitBlock, .ref a_t_waitByte, .ref a_t_waitOldest, .int t_waiting])), (a_t_disk, .inl ((cA 0), n_t_disk, .inl t_disk)), (a_t_tape, .inl ((cA 0), n_t_tape, .inl t_tape)), (a_t_waitBlock, .inl ((cA 0), n_t_waitBlock, .inl t_waitBlock)), (a_t_waitByte, .inl ((cA 0), n_t_waitByte, .inl t_waitByte)), (a_t_waitOldest, .inl ((cA 0), n_t_waitOldest, .inl t_waitOldest))]) hP [0, 1, 2, 3, 4, 5] rfl
        have hD9 := va_D.part (cx := [(a_t, .inr (8, [.ref a_t_disk, .ref a_t_tape, .int t_tapeLong, (hdv L), (lsv L), .int t_kept, .int t_next, .int t_come, .int t_crashes, .int (1 : Int32), .int t_open, .int t_openFirst, .int t_openMany, .int t_openBytes, .int t_nextPage, .int t_turn, .int t_oldest, .ref a_t_waitBlock, .ref a_t_waitByte, .ref a_t_waitOldest, .int t_waiting])), (a_t_disk, .inl ((cA 0), n_t_disk, .inl t_disk)), (a_t_tape, .inl ((cA 0), n_t_tape, .inl t_tape)), (a_t_waitBlock, .inl ((cA 0), n_t_waitBlock, .inl t_waitBlock)), (a_t_waitByte, .inl ((cA 0), n_t_waitByte, .inl t_waitByte)), (a_t_waitOldest, .inl ((cA 0), n_t_waitOldest, .inl t_waitOldest))]) hD [0, 1, 2, 3, 4, 5] (by decide) rfl
        exact W.iret (v := (0 : Int32)) hx hb hr (fun t ht hW => ⟨⟨_, (), rfl, rfl, ⟨L, rfl, by rw [ht]; exact hP9, va_K.moved hW.alike hK, hD9⟩⟩, hS.F ht⟩) hS.2.2 d_Md_record_42
