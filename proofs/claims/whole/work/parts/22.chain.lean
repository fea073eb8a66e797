theorem gm_331 : (.code y_Md_waits b_Md_waits 4 (some .int) : Cond) ∈ gw := gw_in (i := 573) (by decide +kernel) rfl
theorem gm_332 : (.methodLink R_Md 60 y_Md_waits : Cond) ∈ gw := gw_in (i := 570) (by decide +kernel) rfl
theorem gm_333 : (.instanceMethod y_Md_waits : Cond) ∈ gw := gw_in (i := 572) (by decide +kernel) rfl
theorem gm_334 : (.selects R_Md y_Md_waits y_Md_waits : Cond) ∈ gw := gw_in (i := 9) (by decide +kernel) rfl
theorem gm_335 : (.code y_Md_nextPlace b_Md_nextPlace 1 (some .int) : Cond) ∈ gw := gw_in (i := 577) (by decide +kernel) rfl
theorem gm_336 : (.methodLink R_Md 64 y_Md_nextPlace : Cond) ∈ gw := gw_in (i := 574) (by decide +kernel) rfl
theorem gm_337 : (.instanceMethod y_Md_nextPlace : Cond) ∈ gw := gw_in (i := 576) (by decide +kernel) rfl
theorem gm_338 : (.selects R_Md y_Md_nextPlace y_Md_nextPlace : Cond) ∈ gw := gw_in (i := 10) (by decide +kernel) rfl
theorem gm_339 : (.fieldLink R_Md 68 "RoundJournalModel" "first" "LRoundJournalModel$Record;" : Cond) ∈ gw := gw_in (i := 597) (by decide +kernel) rfl
theorem gm_340 : (.code y_Md_putWord b_Md_putWord 4 none : Cond) ∈ gw := gw_in (i := 581) (by decide +kernel) rfl
theorem gm_341 : (.methodLink R_Md 82 y_Md_putWord : Cond) ∈ gw := gw_in (i := 578) (by decide +kernel) rfl
theorem gm_342 : (.instanceMethod y_Md_putWord : Cond) ∈ gw := gw_in (i := 580) (by decide +kernel) rfl
theorem gm_343 : (.selects R_Md y_Md_putWord y_Md_putWord : Cond) ∈ gw := gw_in (i := 11) (by decide +kernel) rfl
theorem gm_344 : (.fieldLink R_Md 72 "RoundJournalModel$Record" "number" "I" : Cond) ∈ gw := gw_in (i := 686) (by decide +kernel) rfl
theorem gm_345 : (.fieldLink R_Md 80 "RoundJournalModel$Record" "next" "LRoundJournalModel$Record;" : Cond) ∈ gw := gw_in (i := 693) (by decide +kernel) rfl
theorem gm_346 : (.fieldLink R_Md 77 "RoundJournalModel$Record" "page" "I" : Cond) ∈ gw := gw_in (i := 690) (by decide +kernel) rfl
theorem gm_347 : (.fieldLink R_Md 20 "RoundJournalModel" "next" "I" : Cond) ∈ gw := gw_in (i := 600) (by decide +kernel) rfl
theorem gm_348 : (.fieldLink R_Md 90 "RoundJournalModel" "openMany" "I" : Cond) ∈ gw := gw_in (i := 606) (by decide +kernel) rfl
theorem gm_349 : (.fieldLink R_Md 153 "RoundJournalModel" "crashes" "I" : Cond) ∈ gw := gw_in (i := 602) (by decide +kernel) rfl
theorem d_Md_waitHead_0 : decode b_Md_waitHead 0 = .ok (.aload_n 0, 1) := by decide +kernel
theorem d_Md_waitHead_1 : decode b_Md_waitHead 1 = .ok (.aload_n 0, 1) := by decide +kernel
theorem d_Md_waitHead_2 : decode b_Md_waitHead 2 = .ok (.getfield 32, 3) := by decide +kernel
theorem d_Md_waitHead_5 : decode b_Md_waitHead 5 = .ok (.iconst 2, 1) := by decide +kernel
theorem d_Md_waitHead_6 : decode b_Md_waitHead 6 = .ok (.irem, 1) := by decide +kernel
theorem d_Md_waitHead_7 : decode b_Md_waitHead 7 = .ok (.invokevirtual 60, 3) := by decide +kernel
theorem d_Md_waitHead_10 : decode b_Md_waitHead 10 = .ok (.istore_n 1, 1) := by decide +kernel
theorem d_Md_waitHead_11 : decode b_Md_waitHead 11 = .ok (.aload_n 0, 1) := by decide +kernel
theorem d_Md_waitHead_12 : decode b_Md_waitHead 12 = .ok (.invokevirtual 64, 3) := by decide +kernel
theorem d_Md_waitHead_15 : decode b_Md_waitHead 15 = .ok (.istore_n 2, 1) := by decide +kernel
theorem d_Md_waitHead_16 : decode b_Md_waitHead 16 = .ok (.aload_n 0, 1) := by decide +kernel
theorem d_Md_waitHead_17 : decode b_Md_waitHead 17 = .ok (.getfield 68, 3) := by decide +kernel
theorem d_Md_waitHead_20 : decode b_Md_waitHead 20 = .ok (.astore_n 3, 1) := by decide +kernel
theorem d_Md_waitHead_21 : decode b_Md_waitHead 21 = .ok (.aload_n 3, 1) := by decide +kernel
theorem d_Md_waitHead_22 : decode b_Md_waitHead 22 = .ok (.ifnull 27, 3) := by decide +kernel
theorem d_Md_waitHead_25 : decode b_Md_waitHead 25 = .ok (.aload_n 3, 1) := by decide +kernel
theorem d_Md_waitHead_26 : decode b_Md_waitHead 26 = .ok (.getfield 72, 3) := by decide +kernel
theorem d_Md_waitHead_29 : decode b_Md_waitHead 29 = .ok (.aload_n 0, 1) := by decide +kernel
theorem d_Md_waitHead_30 : decode b_Md_waitHead 30 = .ok (.getfield 16, 3) := by decide +kernel
theorem d_Md_waitHead_33 : decode b_Md_waitHead 33 = .ok (.if_icmp .ne 8, 3) := by decide +kernel
theorem d_Md_waitHead_36 : decode b_Md_waitHead 36 = .ok (.aload_n 3, 1) := by decide +kernel
theorem d_Md_waitHead_37 : decode b_Md_waitHead 37 = .ok (.getfield 77, 3) := by decide +kernel
theorem d_Md_waitHead_40 : decode b_Md_waitHead 40 = .ok (.istore_n 2, 1) := by decide +kernel
theorem d_Md_waitHead_41 : decode b_Md_waitHead 41 = .ok (.aload_n 3, 1) := by decide +kernel
theorem d_Md_waitHead_42 : decode b_Md_waitHead 42 = .ok (.getfield 80, 3) := by decide +kernel
theorem d_Md_waitHead_45 : decode b_Md_waitHead 45 = .ok (.astore_n 3, 1) := by decide +kernel
theorem d_Md_waitHead_46 : decode b_Md_waitHead 46 = .ok (.goto (-25), 3) := by decide +kernel
theorem d_Md_waitHead_49 : decode b_Md_waitHead 49 = .ok (.aload_n 0, 1) := by decide +kernel
theorem d_Md_waitHead_50 : decode b_Md_waitHead 50 = .ok (.iload_n 1, 1) := by decide +kernel
theorem d_Md_waitHead_51 : decode b_Md_waitHead 51 = .ok (.aload_n 0, 1) := by decide +kernel
theorem d_Md_waitHead_52 : decode b_Md_waitHead 52 = .ok (.getfield 32, 3) := by decide +kernel
theorem d_Md_waitHead_55 : decode b_Md_waitHead 55 = .ok (.invokevirtual 82, 3) := by decide +kernel
theorem d_Md_waitHead_58 : decode b_Md_waitHead 58 = .ok (.aload_n 0, 1) := by decide +kernel
theorem d_Md_waitHead_59 : decode b_Md_waitHead 59 = .ok (.iload_n 1, 1) := by decide +kernel
theorem d_Md_waitHead_60 : decode b_Md_waitHead 60 = .ok (.iconst 4, 1) := by decide +kernel
theorem d_Md_waitHead_61 : decode b_Md_waitHead 61 = .ok (.iadd, 1) := by decide +kernel
theorem d_Md_waitHead_62 : decode b_Md_waitHead 62 = .ok (.iload_n 2, 1) := by decide +kernel
theorem d_Md_waitHead_63 : decode b_Md_waitHead 63 = .ok (.invokevirtual 82, 3) := by decide +kernel
theorem d_Md_waitHead_66 : decode b_Md_waitHead 66 = .ok (.aload_n 0, 1) := by decide +kernel
theorem d_Md_waitHead_67 : decode b_Md_waitHead 67 = .ok (.iload_n 1, 1) := by decide +kernel
theorem d_Md_waitHead_68 : decode b_Md_waitHead 68 = .ok (.bipush 8, 2) := by decide +kernel
theorem d_Md_waitHead_70 : decode b_Md_waitHead 70 = .ok (.iadd, 1) := by decide +kernel
theorem d_Md_waitHead_71 : decode b_Md_waitHead 71 = .ok (.aload_n 0, 1) := by decide +kernel
theorem d_Md_waitHead_72 : decode b_Md_waitHead 72 = .ok (.getfield 16, 3) := by decide +kernel
theorem d_Md_waitHead_75 : decode b_Md_waitHead 75 = .ok (.invokevirtual 82, 3) := by decide +kernel
theorem d_Md_waitHead_78 : decode b_Md_waitHead 78 = .ok (.aload_n 0, 1) := by decide +kernel
theorem d_Md_waitHead_79 : decode b_Md_waitHead 79 = .ok (.iload_n 1, 1) := by decide +kernel
theorem d_Md_waitHead_80 : decode b_Md_waitHead 80 = .ok (.bipush 60, 2) := by decide +kernel
theorem d_Md_waitHead_82 : decode b_Md_waitHead 82 = .ok (.iadd, 1) := by decide +kernel
theorem d_Md_waitHead_83 : decode b_Md_waitHead 83 = .ok (.aload_n 0, 1) := by decide +kernel
theorem d_Md_waitHead_84 : decode b_Md_waitHead 84 = .ok (.getfield 41, 3) := by decide +kernel
theorem d_Md_waitHead_87 : decode b_Md_waitHead 87 = .ok (.iload_n 1, 1) := by decide +kernel
theorem d_Md_waitHead_88 : decode b_Md_waitHead 88 = .ok (.invokestatic 86, 3) := by decide +kernel
theorem d_Md_waitHead_91 : decode b_Md_waitHead 91 = .ok (.invokevirtual 82, 3) := by decide +kernel
theorem d_Md_waitHead_94 : decode b_Md_waitHead 94 = .ok (.aload_n 0, 1) := by decide +kernel
theorem d_Md_waitHead_95 : decode b_Md_waitHead 95 = .ok (.getfield 44, 3) := by decide +kernel
theorem d_Md_waitHead_98 : decode b_Md_waitHead 98 = .ok (.aload_n 0, 1) := by decide +kernel
theorem d_Md_waitHead_99 : decode b_Md_waitHead 99 = .ok (.getfield 57, 3) := by decide +kernel
theorem d_Md_waitHead_102 : decode b_Md_waitHead 102 = .ok (.iconst 1, 1) := by decide +kernel
theorem d_Md_waitHead_103 : decode b_Md_waitHead 103 = .ok (.isub, 1) := by decide +kernel
theorem d_Md_waitHead_104 : decode b_Md_waitHead 104 = .ok (.iload_n 2, 1) := by decide +kernel
theorem d_Md_waitHead_105 : decode b_Md_waitHead 105 = .ok (.iastore, 1) := by decide +kernel
theorem d_Md_waitHead_106 : decode b_Md_waitHead 106 = .ok (.return_, 1) := by decide +kernel
abbrev wd_Md_waitHead : List Cond := .code y_Md_waitHead b_Md_waitHead 4 none :: gw
def f_Md_waitHead_L21 (vs : List NV) (n_t_disk : Nat) (t_disk : Nat → Int32) (n_t_tape : Nat) (t_tape : Nat → Int32) (t_tapeLong : Int32) (t_kept : Int32) (t_next : Int32) (t_come : Int32) (t_crashes : Int32) (t_thrown : Int32) (t_open : Int32) (t_openFirst : Int32) (t_openMany : Int32) (t_openBytes : Int32) (t_nextPage : Int32) (t_turn : Int32) (t_oldest : Int32) (n_t_waitBlock : Nat) (t_waitBlock : Nat → Int32) (n_t_waitByte : Nat) (t_waitByte : Nat → Int32) (n_t_waitOldest : Nat) (t_waitOldest : Nat → Int32) (t_waiting : Int32) (y1 : Int32) (t_waitBlock_0 : Nat → Int32) (t_waitByte_0 : Nat → Int32) (t_waitOldest_0 : Nat → Int32) (t_waiting_0 : Int32) : List NV → Int32 → Option ((Nat → Int32) × (Nat → Int32) × (Nat → Int32) × Int32)
  | [], x2 =>
    (f_Md_putWord n_t_disk t_disk n_t_tape t_tape t_tapeLong t_kept t_next t_come t_crashes t_thrown t_open t_openFirst t_openMany t_openBytes t_nextPage t_turn t_oldest n_t_waitBlock t_waitBlock_0 n_t_waitByte t_waitByte_0 n_t_waitOldest t_waitOldest_0 t_waiting_0 y1 t_turn).bind fun o_3 =>
    (f_Md_putWord n_t_disk t_disk n_t_tape t_tape t_tapeLong t_kept t_next t_come t_crashes t_thrown t_open t_openFirst t_openMany t_openBytes t_nextPage t_turn t_oldest n_t_waitBlock t_waitBlock_0 n_t_waitByte o_3 n_t_waitOldest t_waitOldest_0 t_waiting_0 (y1 + (4 : Int32)) x2).bind fun o_4 =>
    (f_Md_putWord n_t_disk t_disk n_t_tape t_tape t_tapeLong t_kept t_next t_come t_crashes t_thrown t_open t_openFirst t_openMany t_openBytes t_nextPage t_turn t_oldest n_t_waitBlock t_waitBlock_0 n_t_waitByte o_4 n_t_waitOldest t_waitOldest_0 t_waiting_0 (y1 + (8 : Int32)) t_kept).bind fun o_5 =>
    (f_Md_check n_t_waitByte o_5 y1).bind fun o_6 =>
    (f_Md_putWord n_t_disk t_disk n_t_tape t_tape t_tapeLong t_kept t_next t_come t_crashes t_thrown t_open t_openFirst t_openMany t_openBytes t_nextPage t_turn t_oldest n_t_waitBlock t_waitBlock_0 n_t_waitByte o_5 n_t_waitOldest t_waitOldest_0 t_waiting_0 (y1 + (60 : Int32)) o_6).bind fun o_7 =>
    if (t_waiting_0 - (1 : Int32)) < 0 ∨ n_t_waitOldest ≤ (t_waiting_0 - (1 : Int32)).toNatClampNeg then none else
    some (t_waitBlock_0, o_7, (upd t_waitOldest_0 (t_waiting_0 - (1 : Int32)).toNatClampNeg x2), t_waiting_0)
  | v21 :: t21, x2 =>
    if v21.1 = t_kept then
      f_Md_waitHead_L21 vs n_t_disk t_disk n_t_tape t_tape t_tapeLong t_kept t_next t_come t_crashes t_thrown t_open t_openFirst t_openMany t_openBytes t_nextPage t_turn t_oldest n_t_waitBlock t_waitBlock n_t_waitByte t_waitByte n_t_waitOldest t_waitOldest t_waiting y1 t_waitBlock_0 t_waitByte_0 t_waitOldest_0 t_waiting_0 t21 v21.2.2.1
    else
      f_Md_waitHead_L21 vs n_t_disk t_disk n_t_tape t_tape t_tapeLong t_kept t_next t_come t_crashes t_thrown t_open t_openFirst t_openMany t_openBytes t_nextPage t_turn t_oldest n_t_waitBlock t_waitBlock n_t_waitByte t_waitByte n_t_waitOldest t_waitOldest t_waiting y1 t_waitBlock_0 t_waitByte_0 t_waitOldest_0 t_waiting_0 t21 x2
def f_Md_waitHead (vs : List NV) (n_t_disk : Nat) (t_disk : Nat → Int32) (n_t_tape : Nat) (t_tape : Nat → Int32) (t_tapeLong : Int32) (t_kept : Int32) (t_next : Int32) (t_come : Int32) (t_crashes : Int32) (t_thrown : Int32) (t_open : Int32) (t_openFirst : Int32) (t_openMany : Int32) (t_openBytes : Int32) (t_nextPage : Int32) (t_turn : Int32) (t_oldest : Int32) (n_t_waitBlock : Nat) (t_waitBlock : Nat → Int32) (n_t_waitByte : Nat) (t_waitByte : Nat → Int32) (n_t_waitOldest : Nat) (t_waitOldest : Nat → Int32) (t_waiting : Int32) : Option ((Nat → Int32) × (Nat → Int32) × (Nat → Int32) × Int32) :=
  (f_Md_waits n_t_disk t_disk n_t_tape t_tape t_tapeLong t_kept t_next t_come t_crashes t_thrown t_open t_openFirst t_openMany t_openBytes t_nextPage t_turn t_oldest n_t_waitBlock t_waitBlock n_t_waitByte t_waitByte n_t_waitOldest t_waitOldest t_waiting (t_turn - t_turn / (2 : Int32) * (2 : Int32))).bind fun o_1 =>
  (f_Md_nextPlace n_t_disk t_disk n_t_tape t_tape t_tapeLong t_kept t_next t_come t_crashes t_thrown t_open t_openFirst t_openMany t_openBytes t_nextPage t_turn t_oldest n_t_waitBlock o_1.2.1 n_t_waitByte o_1.2.2.1 n_t_waitOldest o_1.2.2.2.1 o_1.2.2.2.2).bind fun o_2 =>
  f_Md_waitHead_L21 vs n_t_disk t_disk n_t_tape t_tape t_tapeLong t_kept t_next t_come t_crashes t_thrown t_open t_openFirst t_openMany t_openBytes t_nextPage t_turn t_oldest n_t_waitBlock t_waitBlock n_t_waitByte t_waitByte n_t_waitOldest t_waitOldest t_waiting o_1.1 o_1.2.1 o_1.2.2.1 o_1.2.2.2.1 o_1.2.2.2.2 vs o_2
set_option maxHeartbeats 4000000 in
set_option maxRecDepth 100000 in
theorem k_Md_waitHead_L21 {p : Program} {l : Launch} {e : Env} {s : State} {m : MethodId} {args : Array Value} {below : List Frame} {meth : Method} {c : Code} (hx : p.tables.exec = Jvm.exec) (hb : c.code = b_Md_waitHead) (hr : meth.sig.returnType = none) (hml : c.maxLocals = 4) (hown : s.vm.findClass R_Md = some m.cls) (hts : ∀ w ∈ wd_Md_waitHead, w.before args s = true) (hlocks : meth.locks = false) {A : Nat → Prop} (hA : ∀ q, s.heap.size ≤ q → A q) (hE : ev A s) {D : va_G} {cA : Nat → ClassId} (hK : va_K D classes (tys cA) s) (a_t a_t_disk a_t_tape a_t_waitBlock a_t_waitByte a_t_waitOldest : Nat) (L : List PR) (n_t_disk : Nat) (t_disk : Nat → Int32) (n_t_tape : Nat) (t_tape : Nat → Int32) (t_tapeLong : Int32) (t_kept : Int32) (t_next : Int32) (t_come : Int32) (t_crashes : Int32) (t_thrown : Int32) (t_open : Int32) (t_openFirst : Int32) (t_openMany : Int32) (t_openBytes : Int32) (t_nextPage : Int32) (t_turn : Int32) (t_oldest : Int32) (n_t_waitBlock : Nat) (t_waitBlock : Nat → Int32) (n_t_waitByte : Nat) (t_waitByte : Nat → Int32) (n_t_waitOldest : Nat) (t_waitOldest : Nat → Int32) (t_waiting : Int32) (y1 : Int32) (t_waitBlock_0 : Nat → Int32) (t_waitByte_0 : Nat → Int32) (t_waitOldest_0 : Nat → Int32) (t_waiting_0 : Int32) (o : (Nat → Int32) × (Nat → Int32) × (Nat → Int32) × Int32) :
    ∀ (suf pre21 : List PR) (x2 : Int32) (H : Heap) (locs : List Loc), L = pre21 ++ suf → f_Md_waitHead_L21 (L.map pV) n_t_disk t_disk n_t_tape t_tape t_tapeLong t_kept t_next t_come t_crashes t_thrown t_open t_openFirst t_openMany t_openBytes t_nextPage t_turn t_oldest n_t_waitBlock t_waitBlock n_t_waitByte t_waitByte n_t_waitOldest t_waitOldest t_waiting y1 t_waitBlock_0 t_waitByte_0 t_waitOldest_0 t_waiting_0 (suf.map pV) x2 = some o → va_P D classes ([(a_t, .inr (8, [.ref a_t_disk, .ref a_t_tape, .int t_tapeLong, (hdv L), (lsv L), .int t_kept, .int t_next, .int t_come, .int t_crashes, .int t_thrown, .int t_open, .int t_openFirst, .int t_openMany, .int t_openBytes, .int t_nextPage, .int t_turn, .int t_oldest, .ref a_t_waitBlock, .ref a_t_waitByte, .ref a_t_waitOldest, .int t_waiting_0])), (a_t_disk, .inl ((cA 0), n_t_disk, .inl t_disk)), (a_t_tape, .inl ((cA 0), n_t_tape, .inl t_tape)), (a_t_waitBlock, .inl ((cA 0), n_t_waitBlock, .inl t_waitBlock_0)), (a_t_waitByte, .inl ((cA 0), n_t_waitByte, .inl t_waitByte_0)), (a_t_waitOldest, .inl ((cA 0), n_t_waitOldest, .inl t_waitOldest_0))] ++ rl cA L) H → va_D A ([(a_t, .inr (8, [.ref a_t_disk, .ref a_t_tape, .int t_tapeLong, (hdv L), (lsv L), .int t_kept, .int t_next, .int t_come, .int t_crashes, .int t_thrown, .int t_open, .int t_openFirst, .int t_openMany, .int t_openBytes, .int t_nextPage, .int t_turn, .int t_oldest, .ref a_t_waitBlock, .ref a_t_waitByte, .ref a_t_waitOldest, .int t_waiting_0])), (a_t_disk, .inl ((cA 0), n_t_disk, .inl t_disk)), (a_t_tape, .inl ((cA 0), n_t_tape, .inl t_tape)), (a_t_waitBlock, .inl ((cA 0), n_t_waitBlock, .inl t_waitBlock_0)), (a_t_waitByte, .inl ((cA 0), n_t_waitByte, .inl t_waitByte_0)), (a_t_waitOldest, .inl ((cA 0), n_t_waitOldest, .inl t_waitOldest_0))] ++ rl cA L) → va_S A s.heap H locs → ∀ ls : Array Slot, lv_has ls 4 [(0, .ref a_t), (1, .int y1), (2, .int x2), (3, hdv suf)] → W p l e ({ frames := 1, cells := 0, slots := 0, locals := 24 }) s m args below meth c H locs 0 0 (MQ below (va_Qv (fun (_ : Unit) => True) (fun _ t => ∃ u : List PR, u.map pV = (L.map pV) ∧ aR D cA A ([(a_t, .inr (8, [.ref a_t_disk, .ref a_t_tape, .int t_tapeLong, (hdv u), (lsv u), .int t_kept, .int t_next, .int t_come, .int t_crashes, .int t_thrown, .int t_open, .int t_openFirst, .int t_openMany, .int t_openBytes, .int t_nextPage, .int t_turn, .int t_oldest, .ref a_t_waitBlock, .ref a_t_waitByte, .ref a_t_waitOldest, .int o.2.2.2])), (a_t_disk, .inl ((cA 0), n_t_disk, .inl t_disk)), (a_t_tape, .inl ((cA 0), n_t_tape, .inl t_tape)), (a_t_waitBlock, .inl ((cA 0), n_t_waitBlock, .inl o.1)), (a_t_waitByte, .inl ((cA 0), n_t_waitByte, .inl o.2.1)), (a_t_waitOldest, .inl ((cA 0), n_t_waitOldest, .inl o.2.2.1))] ++ rl cA u) t) A) args s 0 0 A) (F0 m 21 ls []) := by
  intro suf
  induction suf with
  | nil =>
    intro pre21 x2 H locs hL21 hf hP hD hS ls hl
    have hl : lv_has ls 4 [(0, .ref a_t), (1, .int y1), (2, .int x2), (3, .null)] := hl
    rw [List.map_nil, f_Md_waitHead_L21.eq_1] at hf
    refine lv_aload_nN hx hb d_Md_waitHead_21 rfl (lv_at hl 3 rfl) ?_
    refine lv_ifnullN (tgt := 49) hx hb d_Md_waitHead_22 (by decide) ?_
    refine lv_aload_n hx hb d_Md_waitHead_49 rfl (lv_at hl 0 rfl) ?_
    refine lv_iload_n hx hb d_Md_waitHead_50 rfl (lv_at hl 1 rfl) ?_
    refine lv_aload_n hx hb d_Md_waitHead_51 rfl (lv_at hl 0 rfl) ?_
    refine va_get (D := D) (ci := 8) (v := .int t_turn) (C := R_Md) (T := F_Md) (N := 21) hx hb hts (fun w9 h9 => .tail _ (gu_Md w9 h9)) hown hK hP 0 rfl rfl 15 (by decide) (hts _ (.tail _ gm_325)) (fun _ h9 => h9) rfl d_Md_waitHead_52 ?_
    obtain ⟨o_3, ho_3, hf⟩ := hk_bd hf
    refine q_vQ (wr := []) (va_runV (As := [.int y1, .int t_turn]) (rest := []) ⟨hx, hb, hml, hown, hts⟩ (c_Md_putWord l D cA a_t a_t_disk a_t_tape a_t_waitBlock a_t_waitByte a_t_waitOldest (hdv L) (lsv L) _ n_t_disk t_disk n_t_tape t_tape t_tapeLong t_kept t_next t_come t_crashes t_thrown t_open t_openFirst t_openMany t_openBytes t_nextPage t_turn t_oldest n_t_waitBlock t_waitBlock_0 n_t_waitByte t_waitByte_0 n_t_waitOldest t_waitOldest_0 t_waiting_0 y1 t_turn o_3 ho_3) (cwV 2 hts (gd_V gm_341 gm_342 gm_343 gm_310 gm_340) rfl rfl rfl (by decide +kernel) ⟨Nat.le_of_ble_eq_true rfl, Nat.le_of_ble_eq_true rfl⟩) (q_pV hK hP hD hS hA hE [0, 1, 2, 3, 4, 5] (by decide) rfl rfl rfl rfl) rfl rfl hl.1 rfl (lv_room (Nat.le_of_ble_eq_true rfl)) d_Md_waitHead_55 ⟨Nat.zero_le _, Nat.zero_le _⟩) hP hD hS hA [0, 1, 2, 3, 4, 5] [] rfl rfl rfl (by decide) (by decide) (fun H locs hP hD hS => ?_)
    have hP : va_P D classes ([(a_t, .inr (8, [.ref a_t_disk, .ref a_t_tape, .int t_tapeLong, (hdv L), (lsv L), .int t_kept, .int t_next, .int t_come, .int t_crashes, .int t_thrown, .int t_open, .int t_openFirst, .int t_openMany, .int t_openBytes, .int t_nextPage, .int t_turn, .int t_oldest, .ref a_t_waitBlock, .ref a_t_waitByte, .ref a_t_waitOldest, .int t_waiting_0])), (a_t_disk, .inl ((cA 0), n_t_disk, .inl t_disk)), (a_t_tape, .inl ((cA 0), n_t_tape, .inl t_tape)), (a_t_waitBlock, .inl ((cA 0), n_t_waitBlock, .inl t_waitBlock_0)), (a_t_waitByte, .inl ((cA 0), n_t_waitByte, .inl o_3)), (a_t_waitOldest, .inl ((cA 0), n_t_waitOldest, .inl t_waitOldest_0))] ++ rl cA L) H := hP
    have hD : va_D A ([(a_t, .inr (8, [.ref a_t_disk, .ref a_t_tape, .int t_tapeLong, (hdv L), (lsv L), .int t_kept, .int t_next, .int t_come, .int t_crashes, .int t_thrown, .int t_open, .int t_openFirst, .int t_openMany, .int t_openBytes, .int t_nextPage, .int t_turn, .int t_oldest, .ref a_t_waitBlock, .ref a_t_waitByte, .ref a_t_waitOldest, .int t_waiting_0])), (a_t_disk, .inl ((cA 0), n_t_disk, .inl t_disk)), (a_t_tape, .inl ((cA 0), n_t_tape, .inl t_tape)), (a_t_waitBlock, .inl ((cA 0), n_t_waitBlock, .inl t_waitBlock_0)), (a_t_waitByte, .inl ((cA 0), n_t_waitByte, .inl o_3)), (a_t_waitOldest, .inl ((cA 0), n_t_waitOldest, .inl t_waitOldest_0))] ++ rl cA L) := hD
    refine lv_aload_n hx hb d_Md_waitHead_58 rfl (lv_at hl 0 rfl) ?_
    refine lv_iload_n hx hb d_Md_waitHead_59 rfl (lv_at hl 1 rfl) ?_
    refine lv_iconst (v := 4) hx hb d_Md_waitHead_60 (by decide) ?_
    refine lv_iadd hx hb d_Md_waitHead_61 ?_
    refine lv_iload_n hx hb d_Md_waitHead_62 rfl (lv_at hl 2 rfl) ?_
    obtain ⟨o_4, ho_4, hf⟩ := hk_bd hf
    refine q_vQ (wr := []) (va_runV (As := [.int (y1 + (4 : Int32)), .int x2]) (rest := []) ⟨hx, hb, hml, hown, hts⟩ (c_Md_putWord l D cA a_t a_t_disk a_t_tape a_t_waitBlock a_t_waitByte a_t_waitOldest (hdv L) (lsv L) _ n_t_disk t_disk n_t_tape t_tape t_tapeLong t_kept t_next t_come t_crashes t_thrown t_open t_openFirst t_openMany t_openBytes t_nextPage t_turn t_oldest n_t_waitBlock t_waitBlock_0 n_t_waitByte o_3 n_t_waitOldest t_waitOldest_0 t_waiting_0 (y1 + (4 : Int32)) x2 o_4 ho_4) (cwV 2 hts (gd_V gm_341 gm_342 gm_343 gm_310 gm_340) rfl rfl rfl (by decide +kernel) ⟨Nat.le_of_ble_eq_true rfl, Nat.le_of_ble_eq_true rfl⟩) (q_pV hK hP hD hS hA hE [0, 1, 2, 3, 4, 5] (by decide) rfl rfl rfl rfl) rfl rfl hl.1 rfl (lv_room (Nat.le_of_ble_eq_true rfl)) d_Md_waitHead_63 ⟨Nat.zero_le _, Nat.zero_le _⟩) hP hD hS hA [0, 1, 2, 3, 4, 5] [] rfl rfl rfl (by decide) (by decide) (fun H locs hP hD hS => ?_)
    have hP : va_P D classes ([(a_t, .inr (8, [.ref a_t_disk, .ref a_t_tape, .int t_tapeLong, (hdv L), (lsv L), .int t_kept, .int t_next, .int t_come, .int t_crashes, .int t_thrown, .int t_open, .int t_openFirst, .int t_openMany, .int t_openBytes, .int t_nextPage, .int t_turn, .int t_oldest, .ref a_t_waitBlock, .ref a_t_waitByte, .ref a_t_waitOldest, .int t_waiting_0])), (a_t_disk, .inl ((cA 0), n_t_disk, .inl t_disk)), (a_t_tape, .inl ((cA 0), n_t_tape, .inl t_tape)), (a_t_waitBlock, .inl ((cA 0), n_t_waitBlock, .inl t_waitBlock_0)), (a_t_waitByte, .inl ((cA 0), n_t_waitByte, .inl o_4)), (a_t_waitOldest, .inl ((cA 0), n_t_waitOldest, .inl t_waitOldest_0))] ++ rl cA L) H := hP
    have hD : va_D A ([(a_t, .inr (8, [.ref a_t_disk, .ref a_t_tape, .int t_tapeLong, (hdv L), (lsv L), .int t_kept, .int t_next, .int t_come, .int t_crashes, .int t_thrown, .int t_open, .int t_openFirst, .int t_openMany, .int t_openBytes, .int t_nextPage, .int t_turn, .int t_oldest, .ref a_t_waitBlock, .ref a_t_waitByte, .ref a_t_waitOldest, .int t_waiting_0])), (a_t_disk, .inl ((cA 0), n_t_disk, .inl t_disk)), (a_t_tape, .inl ((cA 0), n_t_tape, .inl t_tape)), (a_t_waitBlock, .inl ((cA 0), n_t_waitBlock, .inl t_waitBlock_0)), (a_t_waitByte, .inl ((cA 0), n_t_waitByte, .inl o_4)), (a_t_waitOldest, .inl ((cA 0), n_t_waitOldest, .inl t_waitOldest_0))] ++ rl cA L) := hD
    refine lv_aload_n hx hb d_Md_waitHead_66 rfl (lv_at hl 0 rfl) ?_
    refine lv_iload_n hx hb d_Md_waitHead_67 rfl (lv_at hl 1 rfl) ?_
    refine lv_bipush (v := 8) hx hb d_Md_waitHead_68 (by decide) ?_
    refine lv_iadd hx hb d_Md_waitHead_70 ?_
    refine lv_aload_n hx hb d_Md_waitHead_71 rfl (lv_at hl 0 rfl) ?_
    refine va_get (D := D) (ci := 8) (v := .int t_kept) (C := R_Md) (T := F_Md) (N := 21) hx hb hts (fun w9 h9 => .tail _ (gu_Md w9 h9)) hown hK hP 0 rfl rfl 5 (by decide) (hts _ (.tail _ gm_326)) (fun _ h9 => h9) rfl d_Md_waitHead_72 ?_
    obtain ⟨o_5, ho_5, hf⟩ := hk_bd hf
    refine q_vQ (wr := []) (va_runV (As := [.int (y1 + (8 : Int32)), .int t_kept]) (rest := []) ⟨hx, hb, hml, hown, hts⟩ (c_Md_putWord l D cA a_t a_t_disk a_t_tape a_t_waitBlock a_t_waitByte a_t_waitOldest (hdv L) (lsv L) _ n_t_disk t_disk n_t_tape t_tape t_tapeLong t_kept t_next t_come t_crashes t_thrown t_open t_openFirst t_openMany t_openBytes t_nextPage t_turn t_oldest n_t_waitBlock t_waitBlock_0 n_t_waitByte o_4 n_t_waitOldest t_waitOldest_0 t_waiting_0 (y1 + (8 : Int32)) t_kept o_5 ho_5) (cwV 2 hts (gd_V gm_341 gm_342 gm_343 gm_310 gm_340) rfl rfl rfl (by decide +kernel) ⟨Nat.le_of_ble_eq_true rfl, Nat.le_of_ble_eq_true rfl⟩) (q_pV hK hP hD hS hA hE [0, 1, 2, 3, 4, 5] (by decide) rfl rfl rfl rfl) rfl rfl hl.1 rfl (lv_room (Nat.le_of_ble_eq_true rfl)) d_Md_waitHead_75 ⟨Nat.zero_le _, Nat.zero_le _⟩) hP hD hS hA [0, 1, 2, 3, 4, 5] [] rfl rfl rfl (by decide) (by decide) (fun H locs hP hD hS => ?_)
    have hP : va_P D classes ([(a_t, .inr (8, [.ref a_t_disk, .ref a_t_tape, .int t_tapeLong, (hdv L), (lsv L), .int t_kept, .int t_next, .int t_come, .int t_crashes, .int t_thrown, .int t_open, .int t_openFirst, .int t_openMany, .int t_openBytes, .int t_nextPage, .int t_turn, .int t_oldest, .ref a_t_waitBlock, .ref a_t_waitByte, .ref a_t_waitOldest, .int t_waiting_0])), (a_t_disk, .inl ((cA 0), n_t_disk, .inl t_disk)), (a_t_tape, .inl ((cA 0), n_t_tape, .inl t_tape)), (a_t_waitBlock, .inl ((cA 0), n_t_waitBlock, .inl t_waitBlock_0)), (a_t_waitByte, .inl ((cA 0), n_t_waitByte, .inl o_5)), (a_t_waitOldest, .inl ((cA 0), n_t_waitOldest, .inl t_waitOldest_0))] ++ rl cA L) H := hP
    have hD : va_D A ([(a_t, .inr (8, [.ref a_t_disk, .ref a_t_tape, .int t_tapeLong, (hdv L), (lsv L), .int t_kept, .int t_next, .int t_come, .int t_crashes, .int t_thrown, .int t_open, .int t_openFirst, .int t_openMany, .int t_openBytes, .int t_nextPage, .int t_turn, .int t_oldest, .ref a_t_waitBlock, .ref a_t_waitByte, .ref a_t_waitOldest, .int t_waiting_0])), (a_t_disk, .inl ((cA 0), n_t_disk, .inl t_disk)), (a_t_tape, .inl ((cA 0), n_t_tape, .inl t_tape)), (a_t_waitBlock, .inl ((cA 0), n_t_waitBlock, .inl t_waitBlock_0)), (a_t_waitByte, .inl ((cA 0), n_t_waitByte, .inl o_5)), (a_t_waitOldest, .inl ((cA 0), n_t_waitOldest, .inl t_waitOldest_0))] ++ rl cA L) := hD
    refine lv_aload_n hx hb d_Md_waitHead_78 rfl (lv_at hl 0 rfl) ?_
    refine lv_iload_n hx hb d_Md_waitHead_79 rfl (lv_at hl 1 rfl) ?_
    refine lv_bipush (v := 60) hx hb d_Md_waitHead_80 (by decide) ?_
    refine lv_iadd hx hb d_Md_waitHead_82 ?_
    refine lv_aload_n hx hb d_Md_waitHead_83 rfl (lv_at hl 0 rfl) ?_
    refine va_get (D := D) (ci := 8) (v := .ref a_t_waitByte) (C := R_Md) (T := F_Md) (N := 21) hx hb hts (fun w9 h9 => .tail _ (gu_Md w9 h9)) hown hK hP 0 rfl rfl 18 (by decide) (hts _ (.tail _ gm_295)) (fun _ h9 => h9) rfl d_Md_waitHead_84 ?_
    refine lv_iload_n hx hb d_Md_waitHead_87 rfl (lv_at hl 1 rfl) ?_
    obtain ⟨o_6, ho_6, hf⟩ := hk_bd hf
    refine q_iQ (wr := [(a_t, .inr (8, [.ref a_t_disk, .ref a_t_tape, .int t_tapeLong, (hdv L), (lsv L), .int t_kept, .int t_next, .int t_come, .int t_crashes, .int t_thrown, .int t_open, .int t_openFirst, .int t_openMany, .int t_openBytes, .int t_nextPage, .int t_turn, .int t_oldest, .ref a_t_waitBlock, .ref a_t_waitByte, .ref a_t_waitOldest, .int t_waiting_0])), (a_t_disk, .inl ((cA 0), n_t_disk, .inl t_disk)), (a_t_tape, .inl ((cA 0), n_t_tape, .inl t_tape)), (a_t_waitBlock, .inl ((cA 0), n_t_waitBlock, .inl t_waitBlock_0)), (a_t_waitOldest, .inl ((cA 0), n_t_waitOldest, .inl t_waitOldest_0))]) (va_runS (As := [.ref a_t_waitByte, .int y1]) (rest := [.int (y1 + (60 : Int32)), .ref a_t]) ⟨hx, hb, hml, hown, hts⟩ (c_Md_check l D cA a_t_waitByte _ n_t_waitByte o_5 y1 o_6 ho_6) (va_cwS 2 hts (gd_S gm_315 gm_316 gm_310 gm_314) rfl rfl rfl (by decide +kernel) ⟨Nat.le_of_ble_eq_true rfl, Nat.le_of_ble_eq_true rfl⟩) (q_pS hK hP hD hS hA hE [4] (by decide) rfl) rfl rfl hl.1 rfl (lv_room (Nat.le_of_ble_eq_true rfl)) d_Md_waitHead_88 ⟨Nat.zero_le _, Nat.zero_le _⟩) hP hD hS hA [4] [0, 1, 2, 3, 5] rfl rfl rfl (by decide) (by decide) (fun H locs hP hD hS => ?_)
    have hP : va_P D classes ([(a_t, .inr (8, [.ref a_t_disk, .ref a_t_tape, .int t_tapeLong, (hdv L), (lsv L), .int t_kept, .int t_next, .int t_come, .int t_crashes, .int t_thrown, .int t_open, .int t_openFirst, .int t_openMany, .int t_openBytes, .int t_nextPage, .int t_turn, .int t_oldest, .ref a_t_waitBlock, .ref a_t_waitByte, .ref a_t_waitOldest, .int t_waiting_0])), (a_t_disk, .inl ((cA 0), n_t_disk, .inl t_disk)), (a_t_tape, .inl ((cA 0), n_t_tape, .inl t_tape)), (a_t_waitBlock, .inl ((cA 0), n_t_waitBlock, .inl t_waitBlock_0)), (a_t_waitOldest, .inl ((cA 0), n_t_waitOldest, .inl t_waitOldest_0)), (a_t_waitByte, .inl ((cA 0), n_t_waitByte, .inl o_5))] ++ rl cA L) H := hP
    have hD : va_D A ([(a_t, .inr (8, [.ref a_t_disk, .ref a_t_tape, .int t_tapeLong, (hdv L), (lsv L), .int t_kept, .int t_next, .int t_come, .int t_crashes, .int t_thrown, .int t_open, .int t_openFirst, .int t_openMany, .int t_openBytes, .int t_nextPage, .int t_turn, .int t_oldest, .ref a_t_waitBlock, .ref a_t_waitByte, .ref a_t_waitOldest, .int t_waiting_0])), (a_t_disk, .inl ((cA 0), n_t_disk, .inl t_disk)), (a_t_tape, .inl ((cA 0), n_t_tape, .inl t_tape)), (a_t_waitBlock, .inl ((cA 0), n_t_waitBlock, .inl t_waitBlock_0)), (a_t_waitOldest, .inl ((cA 0), n_t_waitOldest, .inl t_waitOldest_0)), (a_t_waitByte, .inl ((cA 0), n_t_waitByte, .inl o_5))] ++ rl cA L) := hD
    obtain ⟨o_7, ho_7, hf⟩ := hk_bd hf
    refine q_vQ (wr := []) (va_runV (As := [.int (y1 + (60 : Int32)), .int o_6]) (rest := []) ⟨hx, hb, hml, hown, hts⟩ (c_Md_putWord l D cA a_t a_t_disk a_t_tape a_t_waitBlock a_t_waitByte a_t_waitOldest (hdv L) (lsv L) _ n_t_disk t_disk n_t_tape t_tape t_tapeLong t_kept t_next t_come t_crashes t_thrown t_open t_openFirst t_openMany t_openBytes t_nextPage t_turn t_oldest n_t_waitBlock t_waitBlock_0 n_t_waitByte o_5 n_t_waitOldest t_waitOldest_0 t_waiting_0 (y1 + (60 : Int32)) o_6 o_7 ho_7) (cwV 2 hts (gd_V gm_341 gm_342 gm_343 gm_310 gm_340) rfl rfl rfl (by decide +kernel) ⟨Nat.le_of_ble_eq_true rfl, Nat.le_of_ble_eq_true rfl⟩) (q_pV hK hP hD hS hA hE [0, 1, 2, 3, 5, 4] (by decide) rfl rfl rfl rfl) rfl rfl hl.1 rfl (lv_room (Nat.le_of_ble_eq_true rfl)) d_Md_waitHead_91 ⟨Nat.zero_le _, Nat.zero_le _⟩) hP hD hS hA [0, 1, 2, 3, 5, 4] [] rfl rfl rfl (by decide) (by decide) (fun H locs hP hD hS => ?_)
    have hP : va_P D classes ([(a_t, .inr (8, [.ref a_t_disk, .ref a_t_tape, .int t_tapeLong, (hdv L), (lsv L), .int t_kept, .int t_next, .int t_come, .int t_crashes, .int t_thrown, .int t_open, .int t_openFirst, .int t_openMany, .int t_openBytes, .int t_nextPage, .int t_turn, .int t_oldest, .ref a_t_waitBlock, .ref a_t_waitByte, .ref a_t_waitOldest, .int t_waiting_0])), (a_t_disk, .inl ((cA 0), n_t_disk, .inl t_disk)), (a_t_tape, .inl ((cA 0), n_t_tape, .inl t_tape)), (a_t_waitBlock, .inl ((cA 0), n_t_waitBlock, .inl t_waitBlock_0)), (a_t_waitByte, .inl ((cA 0), n_t_waitByte, .inl o_7)), (a_t_waitOldest, .inl ((cA 0), n_t_waitOldest, .inl t_waitOldest_0))] ++ rl cA L) H := hP
    have hD : va_D A ([(a_t, .inr (8, [.ref a_t_disk, .ref a_t_tape, .int t_tapeLong, (hdv L), (lsv L), .int t_kept, .int t_next, .int t_come, .int t_crashes, .int t_thrown, .int t_open, .int t_openFirst, .int t_openMany, .int t_openBytes, .int t_nextPage, .int t_turn, .int t_oldest, .ref a_t_waitBlock, .ref a_t_waitByte, .ref a_t_waitOldest, .int t_waiting_0])), (a_t_disk, .inl ((cA 0), n_t_disk, .inl t_disk)), (a_t_tape, .inl ((cA 0), n_t_tape, .inl t_tape)), (a_t_waitBlock, .inl ((cA 0), n_t_waitBlock, .inl t_waitBlock_0)), (a_t_waitByte, .inl ((cA 0), n_t_waitByte, .inl o_7)), (a_t_waitOldest, .inl ((cA 0), n_t_waitOldest, .inl t_waitOldest_0))] ++ rl cA L) := hD
    refine lv_aload_n hx hb d_Md_waitHead_94 rfl (lv_at hl 0 rfl) ?_
    refine va_get (D := D) (ci := 8) (v := .ref a_t_waitOldest) (C := R_Md) (T := F_Md) (N := 21) hx hb hts (fun w9 h9 => .tail _ (gu_Md w9 h9)) hown hK hP 0 rfl rfl 19 (by decide) (hts _ (.tail _ gm_298)) (fun _ h9 => h9) rfl d_Md_waitHead_95 ?_
    refine lv_aload_n hx hb d_Md_waitHead_98 rfl (lv_at hl 0 rfl) ?_
    refine va_get (D := D) (ci := 8) (v := .int t_waiting_0) (C := R_Md) (T := F_Md) (N := 21) hx hb hts (fun w9 h9 => .tail _ (gu_Md w9 h9)) hown hK hP 0 rfl rfl 20 (by decide) (hts _ (.tail _ gm_296)) (fun _ h9 => h9) rfl d_Md_waitHead_99 ?_
    refine lv_iconst (v := 1) hx hb d_Md_waitHead_102 (by decide) ?_
    refine lv_isub hx hb d_Md_waitHead_103 ?_
    refine lv_iload_n hx hb d_Md_waitHead_104 rfl (lv_at hl 2 rfl) ?_
    obtain ⟨ck_8, hf⟩ := hk_if hf
    refine va_iast hx hb hK hP hD hS 5 0 rfl rfl ck_8 d_Md_waitHead_105 (fun H locs hP hD hS => ?_)
    have hP : va_P D classes ([(a_t, .inr (8, [.ref a_t_disk, .ref a_t_tape, .int t_tapeLong, (hdv L), (lsv L), .int t_kept, .int t_next, .int t_come, .int t_crashes, .int t_thrown, .int t_open, .int t_openFirst, .int t_openMany, .int t_openBytes, .int t_nextPage, .int t_turn, .int t_oldest, .ref a_t_waitBlock, .ref a_t_waitByte, .ref a_t_waitOldest, .int t_waiting_0])), (a_t_disk, .inl ((cA 0), n_t_disk, .inl t_disk)), (a_t_tape, .inl ((cA 0), n_t_tape, .inl t_tape)), (a_t_waitBlock, .inl ((cA 0), n_t_waitBlock, .inl t_waitBlock_0)), (a_t_waitByte, .inl ((cA 0), n_t_waitByte, .inl o_7)), (a_t_waitOldest, .inl ((cA 0), n_t_waitOldest, .inl (upd t_waitOldest_0 (t_waiting_0 - (1 : Int32)).toNatClampNeg x2)))] ++ rl cA L) H := hP
    have hD : va_D A ([(a_t, .inr (8, [.ref a_t_disk, .ref a_t_tape, .int t_tapeLong, (hdv L), (lsv L), .int t_kept, .int t_next, .int t_come, .int t_crashes, .int t_thrown, .int t_open, .int t_openFirst, .int t_openMany, .int t_openBytes, .int t_nextPage, .int t_turn, .int t_oldest, .ref a_t_waitBlock, .ref a_t_waitByte, .ref a_t_waitOldest, .int t_waiting_0])), (a_t_disk, .inl ((cA 0), n_t_disk, .inl t_disk)), (a_t_tape, .inl ((cA 0), n_t_tape, .inl t_tape)), (a_t_waitBlock, .inl ((cA 0), n_t_waitBlock, .inl t_waitBlock_0)), (a_t_waitByte, .inl ((cA 0), n_t_waitByte, .inl o_7)), (a_t_waitOldest, .inl ((cA 0), n_t_waitOldest, .inl (upd t_waitOldest_0 (t_waiting_0 - (1 : Int32)).toNatClampNeg x2)))] ++ rl cA L) := hD
    have ho9 := Option.some.inj hf
    subst ho9
    have hP9 := va_P.part (cx := [(a_t, .inr (8, [.ref a_t_disk, .ref a_t_tape, .int t_tapeLong, (hdv L), (lsv L), .int t_kept, .int t_next, .int t_come, .int t_crashes, .int t_thrown, .int t_open, .int t_openFirst, .int t_openMany, .int t_openBytes, .int t_nextPage, .int t_turn, .int t_oldest, .ref a_t_waitBlock, .ref a_t_waitByte, .ref a_t_waitOldest, .int t_waiting_0])), (a_t_disk, .inl ((cA 0), n_t_disk, .inl t_disk)), (a_t_tape, .inl ((cA 0), n_t_tape, .inl t_tape)), (a_t_waitBlock, .inl ((cA 0), n_t_waitBlock, .inl t_waitBlock_0)), (a_t_waitByte, .inl ((cA 0), n_t_waitByte, .inl o_7)), (a_t_waitOldest, .inl ((cA 0), n_t_waitOldest, .inl (upd t_waitOldest_0 (t_waiting_0 - (1 : Int32)).toNatClampNeg x2)))]) hP [0, 1, 2, 3, 4, 5] rfl
    have hD9 := va_D.part (cx := [(a_t, .inr (8, [.ref a_t_disk, .ref a_t_tape, .int t_tapeLong, (hdv L), (lsv L), .int t_kept, .int t_next, .int t_come, .int t_crashes, .int t_thrown, .int t_open, .int t_openFirst, .int t_openMany, .int t_openBytes, .int t_nextPage, .int t_turn, .int t_oldest, .ref a_t_waitBlock, .ref a_t_waitByte, .ref a_t_waitOldest, .int t_waiting_0])), (a_t_disk, .inl ((cA 0), n_t_disk, .inl t_disk)), (a_t_tape, .inl ((cA 0), n_t_tape, .inl t_tape)), (a_t_waitBlock, .inl ((cA 0), n_t_waitBlock, .inl t_waitBlock_0)), (a_t_waitByte, .inl ((cA 0), n_t_waitByte, .inl o_7)), (a_t_waitOldest, .inl ((cA 0), n_t_waitOldest, .inl (upd t_waitOldest_0 (t_waiting_0 - (1 : Int32)).toNatClampNeg x2)))]) hD [0, 1, 2, 3, 4, 5] (by decide) rfl
    exact W.vret hx hb hr (fun t ht hW => ⟨⟨(), rfl, trivial, ⟨L, rfl, by rw [ht]; exact hP9, va_K.moved hW.alike hK, hD9⟩⟩, hS.F ht⟩) hS.2.2 d_Md_waitHead_106
  | cons r21 t21 ih =>
    intro pre21 x2 H locs hL21 hf hP hD hS ls hl
    have hl : lv_has ls 4 [(0, .ref a_t), (1, .int y1), (2, .int x2), (3, .ref r21.1)] := hl
    rw [List.map_cons, f_Md_waitHead_L21.eq_2] at hf
    skip
    refine lv_aload_n hx hb d_Md_waitHead_21 rfl (lv_at hl 3 rfl) ?_
    refine lv_ifnull hx hb d_Md_waitHead_22 ?_
    refine lv_aload_n hx hb d_Md_waitHead_25 rfl (lv_at hl 3 rfl) ?_
    refine va_get (D := D) (ci := 7) (v := .int r21.2.2.1) (C := R_Re) (T := F_Re) (N := 5) hx hb hts (fun w9 h9 => .tail _ (gu_Re w9 h9)) hown hK hP (6 + 2 * pre21.length) (by rw [hL21]; exact rl_rec _ _ _ _) rfl 0 (by decide) (hts _ (.tail _ gm_344)) (fun _ h9 => h9) rfl d_Md_waitHead_26 ?_
    refine lv_aload_n hx hb d_Md_waitHead_29 rfl (lv_at hl 0 rfl) ?_
    refine va_get (D := D) (ci := 8) (v := .int t_kept) (C := R_Md) (T := F_Md) (N := 21) hx hb hts (fun w9 h9 => .tail _ (gu_Md w9 h9)) hown hK hP 0 rfl rfl 5 (by decide) (hts _ (.tail _ gm_326)) (fun _ h9 => h9) rfl d_Md_waitHead_30 ?_
    refine lv_icmp_ne (tgt := 41) hx hb d_Md_waitHead_33 (by decide) (fun c_9 => ?_) (fun c_9 => ?_)
    · replace hf := (if_neg c_9).symm.trans hf
      refine lv_aload_n hx hb d_Md_waitHead_41 rfl (lv_at hl 3 rfl) ?_
      refine va_get (D := D) (ci := 7) (v := (hdv t21)) (C := R_Re) (T := F_Re) (N := 5) hx hb hts (fun w9 h9 => .tail _ (gu_Re w9 h9)) hown hK hP (6 + 2 * pre21.length) (by rw [hL21]; exact rl_rec _ _ _ _) rfl 4 (by decide) (hts _ (.tail _ gm_345)) (fun _ h9 => h9) rfl d_Md_waitHead_42 ?_
      refine nk_astore_n (lv' := [(3, (hdv t21)), (0, .ref a_t), (1, .int y1), (2, .int x2)]) hx hb d_Md_waitHead_45 rfl hl (by decide) rfl (fun ls hl => ?_)
      refine lv_goto (tgt := 21) hx hb d_Md_waitHead_46 (by decide) ?_
      exact ih (pre21 ++ [r21]) x2 _ _ (by rw [hL21]; simp) hf (va_P.part hP [0, 1, 2, 3, 4, 5] rfl) (va_D.part hD [0, 1, 2, 3, 4, 5] (by decide) rfl) hS ls (lv_sub hl [1, 2, 3, 0] rfl)
    · replace hf := (if_pos c_9).symm.trans hf
      refine lv_aload_n hx hb d_Md_waitHead_36 rfl (lv_at hl 3 rfl) ?_
      refine va_get (D := D) (ci := 7) (v := .int r21.2.2.2.2.1) (C := R_Re) (T := F_Re) (N := 5) hx hb hts (fun w9 h9 => .tail _ (gu_Re w9 h9)) hown hK hP (6 + 2 * pre21.length) (by rw [hL21]; exact rl_rec _ _ _ _) rfl 2 (by decide) (hts _ (.tail _ gm_346)) (fun _ h9 => h9) rfl d_Md_waitHead_37 ?_
      refine lv_istore_n (lv' := [(2, .int r21.2.2.2.2.1), (0, .ref a_t), (1, .int y1), (3, .ref r21.1)]) hx hb d_Md_waitHead_40 rfl hl (by decide) rfl (fun ls hl => ?_)
      refine lv_aload_n hx hb d_Md_waitHead_41 rfl (lv_at hl 3 rfl) ?_
      refine va_get (D := D) (ci := 7) (v := (hdv t21)) (C := R_Re) (T := F_Re) (N := 5) hx hb hts (fun w9 h9 => .tail _ (gu_Re w9 h9)) hown hK hP (6 + 2 * pre21.length) (by rw [hL21]; exact rl_rec _ _ _ _) rfl 4 (by decide) (hts _ (.tail _ gm_345)) (fun _ h9 => h9) rfl d_Md_waitHead_42 ?_
      refine nk_astore_n (lv' := [(3, (hdv t21)), (2, .int r21.2.2.2.2.1), (0, .ref a_t), (1, .int y1)]) hx hb d_Md_waitHead_45 rfl hl (by decide) rfl (fun ls hl => ?_)
      refine lv_goto (tgt := 21) hx hb d_Md_waitHead_46 (by decide) ?_
      exact ih (pre21 ++ [r21]) r21.2.2.2.2.1 _ _ (by rw [hL21]; simp) hf (va_P.part hP [0, 1, 2, 3, 4, 5] rfl) (va_D.part hD [0, 1, 2, 3, 4, 5] (by decide) rfl) hS ls (lv_sub hl [2, 3, 1, 0] rfl)
set_option maxHeartbeats 4000000 in
set_option maxRecDepth 100000 in
theorem c_Md_waitHead (l : Launch) (D : va_G) (cA : Nat → ClassId) (a_t a_t_disk a_t_tape a_t_waitBlock a_t_waitByte a_t_waitOldest : Nat) (L : List PR) (sz : Nat) (n_t_disk : Nat) (t_disk : Nat → Int32) (n_t_tape : Nat) (t_tape : Nat → Int32) (t_tapeLong : Int32) (t_kept : Int32) (t_next : Int32) (t_come : Int32) (t_crashes : Int32) (t_thrown : Int32) (t_open : Int32) (t_openFirst : Int32) (t_openMany : Int32) (t_openBytes : Int32) (t_nextPage : Int32) (t_turn : Int32) (t_oldest : Int32) (n_t_waitBlock : Nat) (t_waitBlock : Nat → Int32) (n_t_waitByte : Nat) (t_waitByte : Nat → Int32) (n_t_waitOldest : Nat) (t_waitOldest : Nat → Int32) (t_waiting : Int32) (o : (Nat → Int32) × (Nat → Int32) × (Nat → Int32) × Int32) (hf : f_Md_waitHead (L.map pV) n_t_disk t_disk n_t_tape t_tape t_tapeLong t_kept t_next t_come t_crashes t_thrown t_open t_openFirst t_openMany t_openBytes t_nextPage t_turn t_oldest n_t_waitBlock t_waitBlock n_t_waitByte t_waitByte n_t_waitOldest t_waitOldest t_waiting = some o) : Met l y_Md_waitHead wd_Md_waitHead ({ frames := 1, cells := 0, slots := 0, locals := 24 }) (va_Pc [.ref a_t] (aP D cA ([(a_t, .inr (8, [.ref a_t_disk, .ref a_t_tape, .int t_tapeLong, (hdv L), (lsv L), .int t_kept, .int t_next, .int t_come, .int t_crashes, .int t_thrown, .int t_open, .int t_openFirst, .int t_openMany, .int t_openBytes, .int t_nextPage, .int t_turn, .int t_oldest, .ref a_t_waitBlock, .ref a_t_waitByte, .ref a_t_waitOldest, .int t_waiting])), (a_t_disk, .inl ((cA 0), n_t_disk, .inl t_disk)), (a_t_tape, .inl ((cA 0), n_t_tape, .inl t_tape)), (a_t_waitBlock, .inl ((cA 0), n_t_waitBlock, .inl t_waitBlock)), (a_t_waitByte, .inl ((cA 0), n_t_waitByte, .inl t_waitByte)), (a_t_waitOldest, .inl ((cA 0), n_t_waitOldest, .inl t_waitOldest))] ++ rl cA L) sz)) (va_Qv (fun (_ : Unit) => True) (fun _ t => ∃ u : List PR, u.map pV = (L.map pV) ∧ aR D cA (va_A ([(a_t, .inr (8, [.ref a_t_disk, .ref a_t_tape, .int t_tapeLong, (hdv L), (lsv L), .int t_kept, .int t_next, .int t_come, .int t_crashes, .int t_thrown, .int t_open, .int t_openFirst, .int t_openMany, .int t_openBytes, .int t_nextPage, .int t_turn, .int t_oldest, .ref a_t_waitBlock, .ref a_t_waitByte, .ref a_t_waitOldest, .int t_waiting])), (a_t_disk, .inl ((cA 0), n_t_disk, .inl t_disk)), (a_t_tape, .inl ((cA 0), n_t_tape, .inl t_tape)), (a_t_waitBlock, .inl ((cA 0), n_t_waitBlock, .inl t_waitBlock)), (a_t_waitByte, .inl ((cA 0), n_t_waitByte, .inl t_waitByte)), (a_t_waitOldest, .inl ((cA 0), n_t_waitOldest, .inl t_waitOldest))] ++ rl cA L) sz) ([(a_t, .inr (8, [.ref a_t_disk, .ref a_t_tape, .int t_tapeLong, (hdv u), (lsv u), .int t_kept, .int t_next, .int t_come, .int t_crashes, .int t_thrown, .int t_open, .int t_openFirst, .int t_openMany, .int t_openBytes, .int t_nextPage, .int t_turn, .int t_oldest, .ref a_t_waitBlock, .ref a_t_waitByte, .ref a_t_waitOldest, .int o.2.2.2])), (a_t_disk, .inl ((cA 0), n_t_disk, .inl t_disk)), (a_t_tape, .inl ((cA 0), n_t_tape, .inl t_tape)), (a_t_waitBlock, .inl ((cA 0), n_t_waitBlock, .inl o.1)), (a_t_waitByte, .inl ((cA 0), n_t_waitByte, .inl o.2.1)), (a_t_waitOldest, .inl ((cA 0), n_t_waitOldest, .inl o.2.2.1))] ++ rl cA u) t) (va_A ([(a_t, .inr (8, [.ref a_t_disk, .ref a_t_tape, .int t_tapeLong, (hdv L), (lsv L), .int t_kept, .int t_next, .int t_come, .int t_crashes, .int t_thrown, .int t_open, .int t_openFirst, .int t_openMany, .int t_openBytes, .int t_nextPage, .int t_turn, .int t_oldest, .ref a_t_waitBlock, .ref a_t_waitByte, .ref a_t_waitOldest, .int t_waiting])), (a_t_disk, .inl ((cA 0), n_t_disk, .inl t_disk)), (a_t_tape, .inl ((cA 0), n_t_tape, .inl t_tape)), (a_t_waitBlock, .inl ((cA 0), n_t_waitBlock, .inl t_waitBlock)), (a_t_waitByte, .inl ((cA 0), n_t_waitByte, .inl t_waitByte)), (a_t_waitOldest, .inl ((cA 0), n_t_waitOldest, .inl t_waitOldest))] ++ rl cA L) sz)) 0 0 (va_A ([(a_t, .inr (8, [.ref a_t_disk, .ref a_t_tape, .int t_tapeLong, (hdv L), (lsv L), .int t_kept, .int t_next, .int t_come, .int t_crashes, .int t_thrown, .int t_open, .int t_openFirst, .int t_openMany, .int t_openBytes, .int t_nextPage, .int t_turn, .int t_oldest, .ref a_t_waitBlock, .ref a_t_waitByte, .ref a_t_waitOldest, .int t_waiting])), (a_t_disk, .inl ((cA 0), n_t_disk, .inl t_disk)), (a_t_tape, .inl ((cA 0), n_t_tape, .inl t_tape)), (a_t_waitBlock, .inl ((cA 0), n_t_waitBlock, .inl t_waitBlock)), (a_t_waitByte, .inl ((cA 0), n_t_waitByte, .inl t_waitByte)), (a_t_waitOldest, .inl ((cA 0), n_t_waitOldest, .inl t_waitOldest))] ++ rl cA L) sz) := by
  refine Met.ofW (cc := b_Md_waitHead) (maxL := 4) (ret := none) (by decide +kernel) rfl ?_
  intro p e s m args below meth c s₁ B hml hv
  obtain ⟨rfl, hsz, hP, hK, hD0, hE⟩ := hv
  have hx := B.exec
  have hb := B.bytes
  have hr := B.returns
  have hts := atoms_spec (ws := wd_Md_waitHead) B.pre
  have hown : s.vm.findClass R_Md = some m.cls := findClass_of_methodNamed B.named
  have hlocks := B.notSynchronized
  subst hsz
  have hD := hD0.self (sz := s.heap.size)
  generalize hAe : va_A ([(a_t, .inr (8, [.ref a_t_disk, .ref a_t_tape, .int t_tapeLong, (hdv L), (lsv L), .int t_kept, .int t_next, .int t_come, .int t_crashes, .int t_thrown, .int t_open, .int t_openFirst, .int t_openMany, .int t_openBytes, .int t_nextPage, .int t_turn, .int t_oldest, .ref a_t_waitBlock, .ref a_t_waitByte, .ref a_t_waitOldest, .int t_waiting])), (a_t_disk, .inl ((cA 0), n_t_disk, .inl t_disk)), (a_t_tape, .inl ((cA 0), n_t_tape, .inl t_tape)), (a_t_waitBlock, .inl ((cA 0), n_t_waitBlock, .inl t_waitBlock)), (a_t_waitByte, .inl ((cA 0), n_t_waitByte, .inl t_waitByte)), (a_t_waitOldest, .inl ((cA 0), n_t_waitOldest, .inl t_waitOldest))] ++ rl cA L) s.heap.size = A at hD hE ⊢
  have hA : ∀ q : Nat, s.heap.size ≤ q → A q := fun q h => by rw [← hAe]; exact Or.inr h
  have hS : va_S A s.heap s.heap [] := va_S.rf
  have hl := lv_entry [.ref a_t] (n := 4) (Nat.le_of_ble_eq_true rfl)
  rw [lg_entry_eq]
  generalize (lg_sl [.ref a_t] ++ List.replicate (4 - (lg_sl [.ref a_t]).length) Slot.unset).toArray = ls at hl ⊢
  have hl : lv_has ls 4 [(0, .ref a_t)] := hl
  unfold f_Md_waitHead at hf
  refine lv_aload_n hx hb d_Md_waitHead_0 rfl (lv_at hl 0 rfl) ?_
  refine lv_aload_n hx hb d_Md_waitHead_1 rfl (lv_at hl 0 rfl) ?_
  refine va_get (D := D) (ci := 8) (v := .int t_turn) (C := R_Md) (T := F_Md) (N := 21) hx hb hts (fun w9 h9 => .tail _ (gu_Md w9 h9)) hown hK hP 0 rfl rfl 15 (by decide) (hts _ (.tail _ gm_325)) (fun _ h9 => h9) rfl d_Md_waitHead_2 ?_
  refine lv_iconst (v := 2) hx hb d_Md_waitHead_5 (by decide) ?_
  refine lv_irem hx hb d_Md_waitHead_6 (by decide) ?_
  obtain ⟨o_1, ho_1, hf⟩ := hk_bd hf
  refine q_iQ (wr := []) (va_runV (As := [.int (t_turn - t_turn / (2 : Int32) * (2 : Int32))]) (rest := []) ⟨hx, hb, hml, hown, hts⟩ (c_Md_waits l D cA a_t a_t_disk a_t_tape a_t_waitBlock a_t_waitByte a_t_waitOldest (hdv L) (lsv L) _ n_t_disk t_disk n_t_tape t_tape t_tapeLong t_kept t_next t_come t_crashes t_thrown t_open t_openFirst t_openMany t_openBytes t_nextPage t_turn t_oldest n_t_waitBlock t_waitBlock n_t_waitByte t_waitByte n_t_waitOldest t_waitOldest t_waiting (t_turn - t_turn / (2 : Int32) * (2 : Int32)) o_1 ho_1) (cwV 1 hts (gd_V gm_332 gm_333 gm_334 gm_310 gm_331) rfl rfl rfl (by decide +kernel) ⟨Nat.le_of_ble_eq_true rfl, Nat.le_of_ble_eq_true rfl⟩) (q_pV hK hP hD hS hA hE [0, 1, 2, 3, 4, 5] (by decide) rfl rfl rfl rfl) rfl rfl hl.1 rfl (lv_room (Nat.le_of_ble_eq_true rfl)) d_Md_waitHead_7 ⟨Nat.zero_le _, Nat.zero_le _⟩) hP hD hS hA [0, 1, 2, 3, 4, 5] [] rfl rfl rfl (by decide) (by decide) (fun H locs hP hD hS => ?_)
  have hP : va_P D classes ([(a_t, .inr (8, [.ref a_t_disk, .ref a_t_tape, .int t_tapeLong, (hdv L), (lsv L), .int t_kept, .int t_next, .int t_come, .int t_crashes, .int t_thrown, .int t_open, .int t_openFirst, .int t_openMany, .int t_openBytes, .int t_nextPage, .int t_turn, .int t_oldest, .ref a_t_waitBlock, .ref a_t_waitByte, .ref a_t_waitOldest, .int o_1.2.2.2.2])), (a_t_disk, .inl ((cA 0), n_t_disk, .inl t_disk)), (a_t_tape, .inl ((cA 0), n_t_tape, .inl t_tape)), (a_t_waitBlock, .inl ((cA 0), n_t_waitBlock, .inl o_1.2.1)), (a_t_waitByte, .inl ((cA 0), n_t_waitByte, .inl o_1.2.2.1)), (a_t_waitOldest, .inl ((cA 0), n_t_waitOldest, .inl o_1.2.2.2.1))] ++ rl cA L) H := hP
  have hD : va_D A ([(a_t, .inr (8, [.ref a_t_disk, .ref a_t_tape, .int t_tapeLong, (hdv L), (lsv L), .int t_kept, .int t_next, .int t_come, .int t_crashes, .int t_thrown, .int t_open, .int t_openFirst, .int t_openMany, .int t_openBytes, .int t_nextPage, .int t_turn, .int t_oldest, .ref a_t_waitBlock, .ref a_t_waitByte, .ref a_t_waitOldest, .int o_1.2.2.2.2])), (a_t_disk, .inl ((cA 0), n_t_disk, .inl t_disk)), (a_t_tape, .inl ((cA 0), n_t_tape, .inl t_tape)), (a_t_waitBlock, .inl ((cA 0), n_t_waitBlock, .inl o_1.2.1)), (a_t_waitByte, .inl ((cA 0), n_t_waitByte, .inl o_1.2.2.1)), (a_t_waitOldest, .inl ((cA 0), n_t_waitOldest, .inl o_1.2.2.2.1))] ++ rl cA L) := hD
  refine lv_istore_n (lv' := [(1, .int o_1.1), (0, .ref a_t)]) hx hb d_Md_waitHead_10 rfl hl (by decide) rfl (fun ls hl => ?_)
  refine lv_aload_n hx hb d_Md_waitHead_11 rfl (lv_at hl 1 rfl) ?_
  obtain ⟨o_2, ho_2, hf⟩ := hk_bd hf
  refine q_iQ (wr := []) (va_runV (As := []) (rest := []) ⟨hx, hb, hml, hown, hts⟩ (c_Md_nextPlace l D cA a_t a_t_disk a_t_tape a_t_waitBlock a_t_waitByte a_t_waitOldest (hdv L) (lsv L) _ n_t_disk t_disk n_t_tape t_tape t_tapeLong t_kept t_next t_come t_crashes t_thrown t_open t_openFirst t_openMany t_openBytes t_nextPage t_turn t_oldest n_t_waitBlock o_1.2.1 n_t_waitByte o_1.2.2.1 n_t_waitOldest o_1.2.2.2.1 o_1.2.2.2.2 o_2 ho_2) (cwV 0 hts (gd_V gm_336 gm_337 gm_338 gm_310 gm_335) rfl rfl rfl (by decide +kernel) ⟨Nat.le_of_ble_eq_true rfl, Nat.le_of_ble_eq_true rfl⟩) (q_pV hK hP hD hS hA hE [0, 1, 2, 3, 4, 5] (by decide) rfl rfl rfl rfl) rfl rfl hl.1 rfl (lv_room (Nat.le_of_ble_eq_true rfl)) d_Md_waitHead_12 ⟨Nat.zero_le _, Nat.zero_le _⟩) hP hD hS hA [0, 1, 2, 3, 4, 5] [] rfl rfl rfl (by decide) (by decide) (fun H locs hP hD hS => ?_)
  have hP : va_P D classes ([(a_t, .inr (8, [.ref a_t_disk, .ref a_t_tape, .int t_tapeLong, (hdv L), (lsv L), .int t_kept, .int t_next, .int t_come, .int t_crashes, .int t_thrown, .int t_open, .int t_openFirst, .int t_openMany, .int t_openBytes, .int t_nextPage, .int t_turn, .int t_oldest, .ref a_t_waitBlock, .ref a_t_waitByte, .ref a_t_waitOldest, .int o_1.2.2.2.2])), (a_t_disk, .inl ((cA 0), n_t_disk, .inl t_disk)), (a_t_tape, .inl ((cA 0), n_t_tape, .inl t_tape)), (a_t_waitBlock, .inl ((cA 0), n_t_waitBlock, .inl o_1.2.1)), (a_t_waitByte, .inl ((cA 0), n_t_waitByte, .inl o_1.2.2.1)), (a_t_waitOldest, .inl ((cA 0), n_t_waitOldest, .inl o_1.2.2.2.1))] ++ rl cA L) H := hP
  have hD : va_D A ([(a_t, .inr (8, [.ref a_t_disk, .ref a_t_tape, .int t_tapeLong, (hdv L), (lsv L), .int t_kept, .int t_next, .int t_come, .int t_crashes, .int t_thrown, .int t_open, .int t_openFirst, .int t_openMany, .int t_openBytes, .int t_nextPage, .int t_turn, .int t_oldest, .ref a_t_waitBlock, .ref a_t_waitByte, .ref a_t_waitOldest, .int o_1.2.2.2.2])), (a_t_disk, .inl ((cA 0), n_t_disk, .inl t_disk)), (a_t_tape, .inl ((cA 0), n_t_tape, .inl t_tape)), (a_t_waitBlock, .inl ((cA 0), n_t_waitBlock, .inl o_1.2.1)), (a_t_waitByte, .inl ((cA 0), n_t_waitByte, .inl o_1.2.2.1)), (a_t_waitOldest, .inl ((cA 0), n_t_waitOldest, .inl o_1.2.2.2.1))] ++ rl cA L) := hD
  refine lv_istore_n (lv' := [(2, .int o_2), (1, .int o_1.1), (0, .ref a_t)]) hx hb d_Md_waitHead_15 rfl hl (by decide) rfl (fun ls hl => ?_)
  refine lv_aload_n hx hb d_Md_waitHead_16 rfl (lv_at hl 2 rfl) ?_
  refine va_get (D := D) (ci := 8) (v := (hdv L)) (C := R_Md) (T := F_Md) (N := 21) hx hb hts (fun w9 h9 => .tail _ (gu_Md w9 h9)) hown hK hP 0 rfl rfl 3 (by decide) (hts _ (.tail _ gm_339)) (fun _ h9 => h9) rfl d_Md_waitHead_17 ?_
  refine nk_astore_n (lv' := [(3, (hdv L)), (2, .int o_2), (1, .int o_1.1), (0, .ref a_t)]) hx hb d_Md_waitHead_20 rfl hl (by decide) rfl (fun ls hl => ?_)
  exact k_Md_waitHead_L21 hx hb hr hml hown hts hlocks hA hE hK a_t a_t_disk a_t_tape a_t_waitBlock a_t_waitByte a_t_waitOldest L n_t_disk t_disk n_t_tape t_tape t_tapeLong t_kept t_next t_come t_crashes t_thrown t_open t_openFirst t_openMany t_openBytes t_nextPage t_turn t_oldest n_t_waitBlock t_waitBlock n_t_waitByte t_waitByte n_t_waitOldest t_waitOldest t_waiting o_1.1 o_1.2.1 o_1.2.2.1 o_1.2.2.2.1 o_1.2.2.2.2 _ _ [] o_2 _ _ rfl hf (va_P.part hP [0, 1, 2, 3, 4, 5] rfl) (va_D.part hD [0, 1, 2, 3, 4, 5] (by decide) rfl) hS ls (lv_sub hl [3, 2, 1, 0] rfl)
theorem d_Md_total_0 : decode b_Md_total 0 = .ok (.aload_n 0, 1) := by decide +kernel
theorem d_Md_total_1 : decode b_Md_total 1 = .ok (.iconst 0, 1) := by decide +kernel
theorem d_Md_total_2 : decode b_Md_total 2 = .ok (.putfield 53, 3) := by decide +kernel
theorem d_Md_total_5 : decode b_Md_total 5 = .ok (.iconst 0, 1) := by decide +kernel
theorem d_Md_total_6 : decode b_Md_total 6 = .ok (.istore_n 2, 1) := by decide +kernel
theorem d_Md_total_7 : decode b_Md_total 7 = .ok (.iload_n 1, 1) := by decide +kernel
theorem d_Md_total_8 : decode b_Md_total 8 = .ok (.tableswitch 134 0 9 #[56, 89, 94, 99, 104, 109, 114, 119, 124, 129], 56) := by decide +kernel
theorem d_Md_total_64 : decode b_Md_total 64 = .ok (.aload_n 0, 1) := by decide +kernel
theorem d_Md_total_65 : decode b_Md_total 65 = .ok (.getfield 68, 3) := by decide +kernel
theorem d_Md_total_68 : decode b_Md_total 68 = .ok (.astore_n 3, 1) := by decide +kernel
theorem d_Md_total_69 : decode b_Md_total 69 = .ok (.aload_n 3, 1) := by decide +kernel
theorem d_Md_total_70 : decode b_Md_total 70 = .ok (.ifnull 25, 3) := by decide +kernel
theorem d_Md_total_73 : decode b_Md_total 73 = .ok (.aload_n 3, 1) := by decide +kernel
theorem d_Md_total_74 : decode b_Md_total 74 = .ok (.getfield 72, 3) := by decide +kernel
theorem d_Md_total_77 : decode b_Md_total 77 = .ok (.aload_n 0, 1) := by decide +kernel
theorem d_Md_total_78 : decode b_Md_total 78 = .ok (.getfield 16, 3) := by decide +kernel
theorem d_Md_total_81 : decode b_Md_total 81 = .ok (.if_icmp .lt 6, 3) := by decide +kernel
theorem d_Md_total_84 : decode b_Md_total 84 = .ok (.iinc 2 1, 3) := by decide +kernel
theorem d_Md_total_87 : decode b_Md_total 87 = .ok (.aload_n 3, 1) := by decide +kernel
theorem d_Md_total_88 : decode b_Md_total 88 = .ok (.getfield 80, 3) := by decide +kernel
theorem d_Md_total_91 : decode b_Md_total 91 = .ok (.astore_n 3, 1) := by decide +kernel
theorem d_Md_total_92 : decode b_Md_total 92 = .ok (.goto (-23), 3) := by decide +kernel
theorem d_Md_total_95 : decode b_Md_total 95 = .ok (.iload_n 2, 1) := by decide +kernel
theorem d_Md_total_96 : decode b_Md_total 96 = .ok (.ireturn, 1) := by decide +kernel
theorem d_Md_total_97 : decode b_Md_total 97 = .ok (.aload_n 0, 1) := by decide +kernel
theorem d_Md_total_98 : decode b_Md_total 98 = .ok (.getfield 16, 3) := by decide +kernel
theorem d_Md_total_101 : decode b_Md_total 101 = .ok (.ireturn, 1) := by decide +kernel
theorem d_Md_total_102 : decode b_Md_total 102 = .ok (.aload_n 0, 1) := by decide +kernel
theorem d_Md_total_103 : decode b_Md_total 103 = .ok (.getfield 20, 3) := by decide +kernel
theorem d_Md_total_106 : decode b_Md_total 106 = .ok (.ireturn, 1) := by decide +kernel
theorem d_Md_total_107 : decode b_Md_total 107 = .ok (.aload_n 0, 1) := by decide +kernel
theorem d_Md_total_108 : decode b_Md_total 108 = .ok (.getfield 23, 3) := by decide +kernel
theorem d_Md_total_111 : decode b_Md_total 111 = .ok (.ireturn, 1) := by decide +kernel
theorem d_Md_total_112 : decode b_Md_total 112 = .ok (.aload_n 0, 1) := by decide +kernel
theorem d_Md_total_113 : decode b_Md_total 113 = .ok (.getfield 90, 3) := by decide +kernel
theorem d_Md_total_116 : decode b_Md_total 116 = .ok (.ireturn, 1) := by decide +kernel
theorem d_Md_total_117 : decode b_Md_total 117 = .ok (.aload_n 0, 1) := by decide +kernel
theorem d_Md_total_118 : decode b_Md_total 118 = .ok (.getfield 57, 3) := by decide +kernel
theorem d_Md_total_121 : decode b_Md_total 121 = .ok (.ireturn, 1) := by decide +kernel
theorem d_Md_total_122 : decode b_Md_total 122 = .ok (.aload_n 0, 1) := by decide +kernel
theorem d_Md_total_123 : decode b_Md_total 123 = .ok (.getfield 35, 3) := by decide +kernel
theorem d_Md_total_126 : decode b_Md_total 126 = .ok (.ireturn, 1) := by decide +kernel
theorem d_Md_total_127 : decode b_Md_total 127 = .ok (.aload_n 0, 1) := by decide +kernel
theorem d_Md_total_128 : decode b_Md_total 128 = .ok (.getfield 32, 3) := by decide +kernel
theorem d_Md_total_131 : decode b_Md_total 131 = .ok (.ireturn, 1) := by decide +kernel
theorem d_Md_total_132 : decode b_Md_total 132 = .ok (.aload_n 0, 1) := by decide +kernel
theorem d_Md_total_133 : decode b_Md_total 133 = .ok (.getfield 153, 3) := by decide +kernel
theorem d_Md_total_136 : decode b_Md_total 136 = .ok (.ireturn, 1) := by decide +kernel
theorem d_Md_total_137 : decode b_Md_total 137 = .ok (.aload_n 0, 1) := by decide +kernel
theorem d_Md_total_138 : decode b_Md_total 138 = .ok (.getfield 29, 3) := by decide +kernel
theorem d_Md_total_141 : decode b_Md_total 141 = .ok (.ireturn, 1) := by decide +kernel
theorem d_Md_total_142 : decode b_Md_total 142 = .ok (.iconst (-1), 1) := by decide +kernel
theorem d_Md_total_143 : decode b_Md_total 143 = .ok (.ireturn, 1) := by decide +kernel
abbrev wd_Md_total : List Cond := .code y_Md_total b_Md_total 4 (some .int) :: gw
def f_Md_total_L69 (vs : List NV) (n_t_disk : Nat) (t_disk : Nat → Int32) (n_t_tape : Nat) (t_tape : Nat → Int32) (t_tapeLong : Int32) (t_kept : Int32) (t_next : Int32) (t_come : Int32) (t_crashes : Int32) (t_thrown : Int32) (t_open : Int32) (t_openFirst : Int32) (t_openMany : Int32) (t_openBytes : Int32) (t_nextPage : Int32) (t_turn : Int32) (t_oldest : Int32) (n_t_waitBlock : Nat) (t_waitBlock : Nat → Int32) (n_t_waitByte : Nat) (t_waitByte : Nat → Int32) (n_t_waitOldest : Nat) (t_waitOldest : Nat → Int32) (t_waiting : Int32) (p0 : Int32) (t_thrown_0 : Int32) : List NV → Int32 → Option (Int32 × Int32)
  | [], x2 =>
    some (x2, t_thrown_0)
  | v69 :: t69, x2 =>
    if v69.1 < t_kept then
      f_Md_total_L69 vs n_t_disk t_disk n_t_tape t_tape t_tapeLong t_kept t_next t_come t_crashes t_thrown t_open t_openFirst t_openMany t_openBytes t_nextPage t_turn t_oldest n_t_waitBlock t_waitBlock n_t_waitByte t_waitByte n_t_waitOldest t_waitOldest t_waiting p0 t_thrown_0 t69 x2
    else
      f_Md_total_L69 vs n_t_disk t_disk n_t_tape t_tape t_tapeLong t_kept t_next t_come t_crashes t_thrown t_open t_openFirst t_openMany t_openBytes t_nextPage t_turn t_oldest n_t_waitBlock t_waitBlock n_t_waitByte t_waitByte n_t_waitOldest t_waitOldest t_waiting p0 t_thrown_0 t69 (x2 + (1 : Int32))
def f_Md_total (vs : List NV) (n_t_disk : Nat) (t_disk : Nat → Int32) (n_t_tape : Nat) (t_tape : Nat → Int32) (t_tapeLong : Int32) (t_kept : Int32) (t_next : Int32) (t_come : Int32) (t_crashes : Int32) (t_thrown : Int32) (t_open : Int32) (t_openFirst : Int32) (t_openMany : Int32) (t_openBytes : Int32) (t_nextPage : Int32) (t_turn : Int32) (t_oldest : Int32) (n_t_waitBlock : Nat) (t_waitBlock : Nat → Int32) (n_t_waitByte : Nat) (t_waitByte : Nat → Int32) (n_t_waitOldest : Nat) (t_waitOldest : Nat → Int32) (t_waiting : Int32) (p0 : Int32) : Option (Int32 × Int32) :=
  if p0 = (0 : Int32) then
    f_Md_total_L69 vs n_t_disk t_disk n_t_tape t_tape t_tapeLong t_kept t_next t_come t_crashes t_thrown t_open t_openFirst t_openMany t_openBytes t_nextPage t_turn t_oldest n_t_waitBlock t_waitBlock n_t_waitByte t_waitByte n_t_waitOldest t_waitOldest t_waiting p0 (0 : Int32) vs (0 : Int32)
  else
    if p0 = (1 : Int32) then
      some (t_kept, (0 : Int32))
    else
      if p0 = (2 : Int32) then
        some (t_next, (0 : Int32))
      else
        if p0 = (3 : Int32) then
          some (t_open, (0 : Int32))
        else
          if p0 = (4 : Int32) then
            some (t_openMany, (0 : Int32))
          else
            if p0 = (5 : Int32) then
              some (t_waiting, (0 : Int32))
            else
              if p0 = (6 : Int32) then
                some (t_oldest, (0 : Int32))
              else
                if p0 = (7 : Int32) then
                  some (t_turn, (0 : Int32))
                else
                  if p0 = (8 : Int32) then
                    some (t_crashes, (0 : Int32))
                  else
                    if p0 = (9 : Int32) then
                      some (t_nextPage, (0 : Int32))
                    else
                      some ((-1 : Int32), (0 : Int32))
set_option maxHeartbeats 4000000 in
set_option maxRecDepth 100000 in
theorem k_Md_total_L69 {p : Program} {l : Launch} {e : Env} {s : State} {m : MethodId} {args : Array Value} {below : List Frame} {meth : Method} {c : Code} (hx : p.tables.exec = Jvm.exec) (hb : c.code = b_Md_total) (hr : meth.sig.returnType = (some .int)) (hml : c.maxLocals = 4) (hown : s.vm.findClass R_Md = some m.cls) (hts : ∀ w ∈ wd_Md_total, w.before args s = true) (hlocks : meth.locks = false) {A : Nat → Prop} (hA : ∀ q, s.heap.size ≤ q → A q) (hE : ev A s) {D : va_G} {cA : Nat → ClassId} (hK : va_K D classes (tys cA) s) (a_t a_t_disk a_t_tape a_t_waitBlock a_t_waitByte a_t_waitOldest : Nat) (L : List PR) (n_t_disk : Nat) (t_disk : Nat → Int32) (n_t_tape : Nat) (t_tape : Nat → Int32) (t_tapeLong : Int32) (t_kept : Int32) (t_next : Int32) (t_come : Int32) (t_crashes : Int32) (t_thrown : Int32) (t_open : Int32) (t_openFirst : Int32) (t_openMany : Int32) (t_openBytes : Int32) (t_nextPage : Int32) (t_turn : Int32) (t_oldest : Int32) (n_t_waitBlock : Nat) (t_waitBlock : Nat → Int32) (n_t_waitByte : Nat) (t_waitByte : Nat → Int32) (n_t_waitOldest : Nat) (t_waitOldest : Nat → Int32) (t_waiting : Int32) (p0 : Int32) (t_thrown_0 : Int32) (o : Int32 × Int32) :
    ∀ (suf pre69 : List PR) (x2 : Int32) (H : Heap) (locs : List Loc), L = pre69 ++ suf → f_Md_total_L69 (L.map pV) n_t_disk t_disk n_t_tape t_tape t_tapeLong t_kept t_next t_come t_crashes t_thrown t_open t_openFirst t_openMany t_openBytes t_nextPage t_turn t_oldest n_t_waitBlock t_waitBlock n_t_waitByte t_waitByte n_t_waitOldest t_waitOldest t_waiting p0 t_thrown_0 (suf.map pV) x2 = some o → va_P D classes ([(a_t, .inr (8, [.ref a_t_disk, .ref a_t_tape, .int t_tapeLong, (hdv L), (lsv L), .int t_kept, .int t_next, .int t_come, .int t_crashes, .int t_thrown_0, .int t_open, .int t_openFirst, .int t_openMany, .int t_openBytes, .int t_nextPage, .int t_turn, .int t_oldest, .ref a_t_waitBlock, .ref a_t_waitByte, .ref a_t_waitOldest, .int t_waiting])), (a_t_disk, .inl ((cA 0), n_t_disk, .inl t_disk)), (a_t_tape, .inl ((cA 0), n_t_tape, .inl t_tape)), (a_t_waitBlock, .inl ((cA 0), n_t_waitBlock, .inl t_waitBlock)), (a_t_waitByte, .inl ((cA 0), n_t_waitByte, .inl t_waitByte)), (a_t_waitOldest, .inl ((cA 0), n_t_waitOldest, .inl t_waitOldest))] ++ rl cA L) H → va_D A ([(a_t, .inr (8, [.ref a_t_disk, .ref a_t_tape, .int t_tapeLong, (hdv L), (lsv L), .int t_kept, .int t_next, .int t_come, .int t_crashes, .int t_thrown_0, .int t_open, .int t_openFirst, .int t_openMany, .int t_openBytes, .int t_nextPage, .int t_turn, .int t_oldest, .ref a_t_waitBlock, .ref a_t_waitByte, .ref a_t_waitOldest, .int t_waiting])), (a_t_disk, .inl ((cA 0), n_t_disk, .inl t_disk)), (a_t_tape, .inl ((cA 0), n_t_tape, .inl t_tape)), (a_t_waitBlock, .inl ((cA 0), n_t_waitBlock, .inl t_waitBlock)), (a_t_waitByte, .inl ((cA 0), n_t_waitByte, .inl t_waitByte)), (a_t_waitOldest, .inl ((cA 0), n_t_waitOldest, .inl t_waitOldest))] ++ rl cA L) → va_S A s.heap H locs → ∀ ls : Array Slot, lv_has ls 4 [(0, .ref a_t), (1, .int p0), (2, .int x2), (3, hdv suf)] → W p l e ({ frames := 0, cells := 0, slots := 0, locals := 0 }) s m args below meth c H locs 0 0 (MQ below (va_Qi (fun r9 (_ : Unit) => r9 = o.1) (fun _ t => ∃ u : List PR, u.map pV = (L.map pV) ∧ aR D cA A ([(a_t, .inr (8, [.ref a_t_disk, .ref a_t_tape, .int t_tapeLong, (hdv u), (lsv u), .int t_kept, .int t_next, .int t_come, .int t_crashes, .int o.2, .int t_open, .int t_openFirst, .int t_openMany, .int t_openBytes, .int t_nextPage, .int t_turn, .int t_oldest, .ref a_t_waitBlock, .ref a_t_waitByte, .ref a_t_waitOldest, .int t_waiting])), (a_t_disk, .inl ((cA 0), n_t_disk, .inl t_disk)), (a_t_tape, .inl ((cA 0), n_t_tape, .inl t_tape)), (a_t_waitBlock, .inl ((cA 0), n_t_waitBlock, .inl t_waitBlock)), (a_t_waitByte, .inl ((cA 0), n_t_waitByte, .inl t_waitByte)), (a_t_waitOldest, .inl ((cA 0), n_t_waitOldest, .inl t_waitOldest))] ++ rl cA u) t) A) args s 0 0 A) (F0 m 69 ls []) := by
  intro suf
  induction suf with
  | nil =>
    intro pre69 x2 H locs hL69 hf hP hD hS ls hl
    have hl : lv_has ls 4 [(0, .ref a_t), (1, .int p0), (2, .int x2), (3, .null)] := hl
    rw [List.map_nil, f_Md_total_L69.eq_1] at hf
    refine lv_aload_nN hx hb d_Md_total_69 rfl (lv_at hl 3 rfl) ?_
    refine lv_ifnullN (tgt := 95) hx hb d_Md_total_70 (by decide) ?_
    refine lv_iload_n hx hb d_Md_total_95 rfl (lv_at hl 2 rfl) ?_
    have ho9 := Option.some.inj hf
    subst ho9
    have hP9 := va_P.part (cx := [(a_t, .inr (8, [.ref a_t_disk, .ref a_t_tape, .int t_tapeLong, (hdv L), (lsv L), .int t_kept, .int t_next, .int t_come, .int t_crashes, .int t_thrown_0, .int t_open, .int t_openFirst, .int t_openMany, .int t_openBytes, .int t_nextPage, .int t_turn, .int t_oldest, .ref a_t_waitBlock, .ref a_t_waitByte, .ref a_t_waitOldest, .int t_waiting])), (a_t_disk, .inl ((cA 0), n_t_disk, .inl t_disk)), (a_t_tape, .inl ((cA 0), n_t_tape, .inl t_tape)), (a_t_waitBlock, .inl ((cA 0), n_t_waitBlock, .inl t_waitBlock)), (a_t_waitByte, .inl ((cA 0), n_t_waitByte, .inl t_waitByte)), (a_t_waitOldest, .inl ((cA 0), n_t_waitOldest, .inl t_waitOldest))]) hP [0, 1, 2, 3, 4, 5] rfl
    have hD9 := va_D.part (cx := [(a_t, .inr (8, [.ref a_t_disk, .ref a_t_tape, .int t_tapeLong, (hdv L), (lsv L), .int t_kept, .int t_next, .int t_come, .int t_crashes, .int t_thrown_0, .int t_open, .int t_openFirst, .int t_openMany, .int t_openBytes, .int t_nextPage, .int t_turn, .int t_oldest, .ref a_t_waitBlock, .ref a_t_waitByte, .ref a_t_waitOldest, .int t_waiting])), (a_t_disk, .inl ((cA 0), n_t_disk, .inl t_disk)), (a_t_tape, .inl ((cA 0), n_t_tape, .inl t_tape)), (a_t_waitBlock, .inl ((cA 0), n_t_waitBlock, .inl t_waitBlock)), (a_t_waitByte, .inl ((cA 0), n_t_waitByte, .inl t_waitByte)), (a_t_waitOldest, .inl ((cA 0), n_t_waitOldest, .inl t_waitOldest))]) hD [0, 1, 2, 3, 4, 5] (by decide) rfl
    exact W.iret (v := x2) hx hb hr (fun t ht hW => ⟨⟨_, (), rfl, rfl, ⟨L, rfl, by rw [ht]; exact hP9, va_K.moved hW.alike hK, hD9⟩⟩, hS.F ht⟩) hS.2.2 d_Md_total_96
  | cons r69 t69 ih =>
    intro pre69 x2 H locs hL69 hf hP hD hS ls hl
    have hl : lv_has ls 4 [(0, .ref a_t), (1, .int p0), (2, .int x2), (3, .ref r69.1)] := hl
    rw [List.map_cons, f_Md_total_L69.eq_2] at hf
    skip
    refine lv_aload_n hx hb d_Md_total_69 rfl (lv_at hl 3 rfl) ?_
    refine lv_ifnull hx hb d_Md_total_70 ?_
    refine lv_aload_n hx hb d_Md_total_73 rfl (lv_at hl 3 rfl) ?_
    refine va_get (D := D) (ci := 7) (v := .int r69.2.2.1) (C := R_Re) (T := F_Re) (N := 5) hx hb hts (fun w9 h9 => .tail _ (gu_Re w9 h9)) hown hK hP (6 + 2 * pre69.length) (by rw [hL69]; exact rl_rec _ _ _ _) rfl 0 (by decide) (hts _ (.tail _ gm_344)) (fun _ h9 => h9) rfl d_Md_total_74 ?_
    refine lv_aload_n hx hb d_Md_total_77 rfl (lv_at hl 0 rfl) ?_
    refine va_get (D := D) (ci := 8) (v := .int t_kept) (C := R_Md) (T := F_Md) (N := 21) hx hb hts (fun w9 h9 => .tail _ (gu_Md w9 h9)) hown hK hP 0 rfl rfl 5 (by decide) (hts _ (.tail _ gm_326)) (fun _ h9 => h9) rfl d_Md_total_78 ?_
    refine lv_icmp_lt (tgt := 87) hx hb d_Md_total_81 (by decide) (fun c_2 => ?_) (fun c_2 => ?_)
    · replace hf := (if_pos c_2).symm.trans hf
      refine lv_aload_n hx hb d_Md_total_87 rfl (lv_at hl 3 rfl) ?_
      refine va_get (D := D) (ci := 7) (v := (hdv t69)) (C := R_Re) (T := F_Re) (N := 5) hx hb hts (fun w9 h9 => .tail _ (gu_Re w9 h9)) hown hK hP (6 + 2 * pre69.length) (by rw [hL69]; exact rl_rec _ _ _ _) rfl 4 (by decide) (hts _ (.tail _ gm_345)) (fun _ h9 => h9) rfl d_Md_total_88 ?_
      refine nk_astore_n (lv' := [(3, (hdv t69)), (0, .ref a_t), (1, .int p0), (2, .int x2)]) hx hb d_Md_total_91 rfl hl (by decide) rfl (fun ls hl => ?_)
      refine lv_goto (tgt := 69) hx hb d_Md_total_92 (by decide) ?_
      exact ih (pre69 ++ [r69]) x2 _ _ (by rw [hL69]; simp) hf (va_P.part hP [0, 1, 2, 3, 4, 5] rfl) (va_D.part hD [0, 1, 2, 3, 4, 5] (by decide) rfl) hS ls (lv_sub hl [1, 2, 3, 0] rfl)
    · replace hf := (if_neg c_2).symm.trans hf
      refine lv_iinc (v := (x2 + (1 : Int32))) (lv' := [(2, .int (x2 + (1 : Int32))), (0, .ref a_t), (1, .int p0), (3, .ref r69.1)]) hx hb d_Md_total_84 hl (k := 2) rfl rfl (by decide) rfl (fun ls hl => ?_)
      refine lv_aload_n hx hb d_Md_total_87 rfl (lv_at hl 3 rfl) ?_
      refine va_get (D := D) (ci := 7) (v := (hdv t69)) (C := R_Re) (T := F_Re) (N := 5) hx hb hts (fun w9 h9 => .tail _ (gu_Re w9 h9)) hown hK hP (6 + 2 * pre69.length) (by rw [hL69]; exact rl_rec _ _ _ _) rfl 4 (by decide) (hts _ (.tail _ gm_345)) (fun _ h9 => h9) rfl d_Md_total_88 ?_
      refine nk_astore_n (lv' := [(3, (hdv t69)), (2, .int (x2 + (1 : Int32))), (0, .ref a_t), (1, .int p0)]) hx hb d_Md_total_91 rfl hl (by decide) rfl (fun ls hl => ?_)
      refine lv_goto (tgt := 69) hx hb d_Md_total_92 (by decide) ?_
      exact ih (pre69 ++ [r69]) (x2 + (1 : Int32)) _ _ (by rw [hL69]; simp) hf (va_P.part hP [0, 1, 2, 3, 4, 5] rfl) (va_D.part hD [0, 1, 2, 3, 4, 5] (by decide) rfl) hS ls (lv_sub hl [2, 3, 1, 0] rfl)
set_option maxHeartbeats 4000000 in
set_option maxRecDepth 100000 in
theorem c_Md_total (l : Launch) (D : va_G) (cA : Nat → ClassId) (a_t a_t_disk a_t_tape a_t_waitBlock a_t_waitByte a_t_waitOldest : Nat) (L : List PR) (sz : Nat) (n_t_disk : Nat) (t_disk : Nat → Int32) (n_t_tape : Nat) (t_tape : Nat → Int32) (t_tapeLong : Int32) (t_kept : Int32) (t_next : Int32) (t_come : Int32) (t_crashes : Int32) (t_thrown : Int32) (t_open : Int32) (t_openFirst : Int32) (t_openMany : Int32) (t_openBytes : Int32) (t_nextPage : Int32) (t_turn : Int32) (t_oldest : Int32) (n_t_waitBlock : Nat) (t_waitBlock : Nat → Int32) (n_t_waitByte : Nat) (t_waitByte : Nat → Int32) (n_t_waitOldest : Nat) (t_waitOldest : Nat → Int32) (t_waiting : Int32) (p0 : Int32) (o : Int32 × Int32) (hf : f_Md_total (L.map pV) n_t_disk t_disk n_t_tape t_tape t_tapeLong t_kept t_next t_come t_crashes t_thrown t_open t_openFirst t_openMany t_openBytes t_nextPage t_turn t_oldest n_t_waitBlock t_waitBlock n_t_waitByte t_waitByte n_t_waitOldest t_waitOldest t_waiting p0 = some o) : Met l y_Md_total wd_Md_total ({ frames := 0, cells := 0, slots := 0, locals := 0 }) (va_Pc [.ref a_t, .int p0] (aP D cA ([(a_t, .inr (8, [.ref a_t_disk, .ref a_t_tape, .int t_tapeLong, (hdv L), (lsv L), .int t_kept, .int t_next, .int t_come, .int t_crashes, .int t_thrown, .int t_open, .int t_openFirst, .int t_openMany, .int t_openBytes, .int t_nextPage, .int t_turn, .int t_oldest, .ref a_t_waitBlock, .ref a_t_waitByte, .ref a_t_waitOldest, .int t_waiting])), (a_t_disk, .inl ((cA 0), n_t_disk, .inl t_disk)), (a_t_tape, .inl ((cA 0), n_t_tape, .inl t_tape)), (a_t_waitBlock, .inl ((cA 0), n_t_waitBlock, .inl t_waitBlock)), (a_t_waitByte, .inl ((cA 0), n_t_waitByte, .inl t_waitByte)), (a_t_waitOldest, .inl ((cA 0), n_t_waitOldest, .inl t_waitOldest))] ++ rl cA L) sz)) (va_Qi (fun r9 (_ : Unit) => r9 = o.1) (fun _ t => ∃ u : List PR, u.map pV = (L.map pV) ∧ aR D cA (va_A ([(a_t, .inr (8, [.ref a_t_disk, .ref a_t_tape, .int t_tapeLong, (hdv L), (lsv L), .int t_kept, .int t_next, .int t_come, .int t_crashes, .int t_thrown, .int t_open, .int t_openFirst, .int t_openMany, .int t_openBytes, .int t_nextPage, .int t_turn, .int t_oldest, .ref a_t_waitBlock, .ref a_t_waitByte, .ref a_t_waitOldest, .int t_waiting])), (a_t_disk, .inl ((cA 0), n_t_disk, .inl t_disk)), (a_t_tape, .inl ((cA 0), n_t_tape, .inl t_tape)), (a_t_waitBlock, .inl ((cA 0), n_t_waitBlock, .inl t_waitBlock)), (a_t_waitByte, .inl ((cA 0), n_t_waitByte, .inl t_waitByte)), (a_t_waitOldest, .inl ((cA 0), n_t_waitOldest, .inl t_waitOldest))] ++ rl cA L) sz) ([(a_t, .inr (8, [.ref a_t_disk, .ref a_t_tape, .int t_tapeLong, (hdv u), (lsv u), .int t_kept, .int t_next, .int t_come, .int t_crashes, .int o.2, .int t_open, .int t_openFirst, .int t_openMany, .int t_openBytes, .int t_nextPage, .int t_turn, .int t_oldest, .ref a_t_waitBlock, .ref a_t_waitByte, .ref a_t_waitOldest, .int t_waiting])), (a_t_disk, .inl ((cA 0), n_t_disk, .inl t_disk)), (a_t_tape, .inl ((cA 0), n_t_tape, .inl t_tape)), (a_t_waitBlock, .inl ((cA 0), n_t_waitBlock, .inl t_waitBlock)), (a_t_waitByte, .inl ((cA 0), n_t_waitByte, .inl t_waitByte)), (a_t_waitOldest, .inl ((cA 0), n_t_waitOldest, .inl t_waitOldest))] ++ rl cA u) t) (va_A ([(a_t, .inr (8, [.ref a_t_disk, .ref a_t_tape, .int t_tapeLong, (hdv L), (lsv L), .int t_kept, .int t_next, .int t_come, .int t_crashes, .int t_thrown, .int t_open, .int t_openFirst, .int t_openMany, .int t_openBytes, .int t_nextPage, .int t_turn, .int t_oldest, .ref a_t_waitBlock, .ref a_t_waitByte, .ref a_t_waitOldest, .int t_waiting])), (a_t_disk, .inl ((cA 0), n_t_disk, .inl t_disk)), (a_t_tape, .inl ((cA 0), n_t_tape, .inl t_tape)), (a_t_waitBlock, .inl ((cA 0), n_t_waitBlock, .inl t_waitBlock)), (a_t_waitByte, .inl ((cA 0), n_t_waitByte, .inl t_waitByte)), (a_t_waitOldest, .inl ((cA 0), n_t_waitOldest, .inl t_waitOldest))] ++ rl cA L) sz)) 0 0 (va_A ([(a_t, .inr (8, [.ref a_t_disk, .ref a_t_tape, .int t_tapeLong, (hdv L), (lsv L), .int t_kept, .int t_next, .int t_come, .int t_crashes, .int t_thrown, .int t_open, .int t_openFirst, .int t_openMany, .int t_openBytes, .int t_nextPage, .int t_turn, .int t_oldest, .ref a_t_waitBlock, .ref a_t_waitByte, .ref a_t_waitOldest, .int t_waiting])), (a_t_disk, .inl ((cA 0), n_t_disk, .inl t_disk)), (a_t_tape, .inl ((cA 0), n_t_tape, .inl t_tape)), (a_t_waitBlock, .inl ((cA 0), n_t_waitBlock, .inl t_waitBlock)), (a_t_waitByte, .inl ((cA 0), n_t_waitByte, .inl t_waitByte)), (a_t_waitOldest, .inl ((cA 0), n_t_waitOldest, .inl t_waitOldest))] ++ rl cA L) sz) := by
  refine Met.ofW (cc := b_Md_total) (maxL := 4) (ret := (some .int)) (by decide +kernel) rfl ?_
  intro p e s m args below meth c s₁ B hml hv
  obtain ⟨rfl, hsz, hP, hK, hD0, hE⟩ := hv
  have hx := B.exec
  have hb := B.bytes
  have hr := B.returns
  have hts := atoms_spec (ws := wd_Md_total) B.pre
  have hown : s.vm.findClass R_Md = some m.cls := findClass_of_methodNamed B.named
  have hlocks := B.notSynchronized
  subst hsz
  have hD := hD0.self (sz := s.heap.size)
  generalize hAe : va_A ([(a_t, .inr (8, [.ref a_t_disk, .ref a_t_tape, .int t_tapeLong, (hdv L), (lsv L), .int t_kept, .int t_next, .int t_come, .int t_crashes, .int t_thrown, .int t_open, .int t_openFirst, .int t_openMany, .int t_openBytes, .int t_nextPage, .int t_turn, .int t_oldest, .ref a_t_waitBlock, .ref a_t_waitByte, .ref a_t_waitOldest, .int t_waiting])), (a_t_disk, .inl ((cA 0), n_t_disk, .inl t_disk)), (a_t_tape, .inl ((cA 0), n_t_tape, .inl t_tape)), (a_t_waitBlock, .inl ((cA 0), n_t_waitBlock, .inl t_waitBlock)), (a_t_waitByte, .inl ((cA 0), n_t_waitByte, .inl t_waitByte)), (a_t_waitOldest, .inl ((cA 0), n_t_waitOldest, .inl t_waitOldest))] ++ rl cA L) s.heap.size = A at hD hE ⊢
  have hA : ∀ q : Nat, s.heap.size ≤ q → A q := fun q h => by rw [← hAe]; exact Or.inr h
  have hS : va_S A s.heap s.heap [] := va_S.rf
  have hl := lv_entry [.ref a_t, .int p0] (n := 4) (Nat.le_of_ble_eq_true rfl)
  rw [lg_entry_eq]
  generalize (lg_sl [.ref a_t, .int p0] ++ List.replicate (4 - (lg_sl [.ref a_t, .int p0]).length) Slot.unset).toArray = ls at hl ⊢
  have hl : lv_has ls 4 [(0, .ref a_t), (1, .int p0)] := hl
  unfold f_Md_total at hf
  refine lv_aload_n hx hb d_Md_total_0 rfl (lv_at hl 0 rfl) ?_
  refine lv_iconst (v := 0) hx hb d_Md_total_1 (by decide) ?_
  refine va_put (D := D) (ci := 8) (v := .int (0 : Int32)) (ty := .int) (C := R_Md) (T := F_Md) (N := 21) hx hb hts (fun w9 h9 => .tail _ (gu_Md w9 h9)) t_Md t_Md_ok n_Md hown hK hP hD hS 0 rfl rfl 9 (by decide) (hts _ (.tail _ gm_293)) (fun _ h9 => h9) rfl (by decide +kernel) rfl rfl (Nat.le_of_ble_eq_true rfl) d_Md_total_2 (fun H locs hP hD hS => ?_)
  have hP : va_P D classes ([(a_t, .inr (8, [.ref a_t_disk, .ref a_t_tape, .int t_tapeLong, (hdv L), (lsv L), .int t_kept, .int t_next, .int t_come, .int t_crashes, .int (0 : Int32), .int t_open, .int t_openFirst, .int t_openMany, .int t_openBytes, .int t_nextPage, .int t_turn, .int t_oldest, .ref a_t_waitBlock, .ref a_t_waitByte, .ref a_t_waitOldest, .int t_waiting])), (a_t_disk, .inl ((cA 0), n_t_disk, .inl t_disk)), (a_t_tape, .inl ((cA 0), n_t_tape, .inl t_tape)), (a_t_waitBlock, .inl ((cA 0), n_t_waitBlock, .inl t_waitBlock)), (a_t_waitByte, .inl ((cA 0), n_t_waitByte, .inl t_waitByte)), (a_t_waitOldest, .inl ((cA 0), n_t_waitOldest, .inl t_waitOldest))] ++ rl cA L) H := hP
  have hD : va_D A ([(a_t, .inr (8, [.ref a_t_disk, .ref a_t_tape, .int t_tapeLong, (hdv L), (lsv L), .int t_kept, .int t_next, .int t_come, .int t_crashes, .int (0 : Int32), .int t_open, .int t_openFirst, .int t_openMany, .int t_openBytes, .int t_nextPage, .int t_turn, .int t_oldest, .ref a_t_waitBlock, .ref a_t_waitByte, .ref a_t_waitOldest, .int t_waiting])), (a_t_disk, .inl ((cA 0), n_t_disk, .inl t_disk)), (a_t_tape, .inl ((cA 0), n_t_tape, .inl t_tape)), (a_t_waitBlock, .inl ((cA 0), n_t_waitBlock, .inl t_waitBlock)), (a_t_waitByte, .inl ((cA 0), n_t_waitByte, .inl t_waitByte)), (a_t_waitOldest, .inl ((cA 0), n_t_waitOldest, .inl t_waitOldest))] ++ rl cA L) := hD
  refine lv_iconst (v := 0) hx hb d_Md_total_5 (by decide) ?_
  refine lv_istore_n (lv' := [(2, .int (0 : Int32)), (0, .ref a_t), (1, .int p0)]) hx hb d_Md_total_6 rfl hl (by decide) rfl (fun ls hl => ?_)
  refine lv_iload_n hx hb d_Md_total_7 rfl (lv_at hl 2 rfl) ?_
  by_cases c_1 : p0 = (0 : Int32)
  · replace hf := (if_pos c_1).symm.trans hf
    refine lv_tableIn (off := 56) (tgt := 64) hx hb d_Md_total_8 (by rw [c_1]; decide) (by rw [c_1]; decide) (by rw [c_1]; decide) (by decide) ?_
    refine lv_aload_n hx hb d_Md_total_64 rfl (lv_at hl 1 rfl) ?_
    refine va_get (D := D) (ci := 8) (v := (hdv L)) (C := R_Md) (T := F_Md) (N := 21) hx hb hts (fun w9 h9 => .tail _ (gu_Md w9 h9)) hown hK hP 0 rfl rfl 3 (by decide) (hts _ (.tail _ gm_339)) (fun _ h9 => h9) rfl d_Md_total_65 ?_
    refine nk_astore_n (lv' := [(3, (hdv L)), (2, .int (0 : Int32)), (0, .ref a_t), (1, .int p0)]) hx hb d_Md_total_68 rfl hl (by decide) rfl (fun ls hl => ?_)
    exact k_Md_total_L69 hx hb hr hml hown hts hlocks hA hE hK a_t a_t_disk a_t_tape a_t_waitBlock a_t_waitByte a_t_waitOldest L n_t_disk t_disk n_t_tape t_tape t_tapeLong t_kept t_next t_come t_crashes t_thrown t_open t_openFirst t_openMany t_openBytes t_nextPage t_turn t_oldest n_t_waitBlock t_waitBlock n_t_waitByte t_waitByte n_t_waitOldest t_waitOldest t_waiting p0 (0 : Int32) _ _ [] (0 : Int32) _ _ rfl hf (va_P.part hP [0, 1, 2, 3, 4, 5] rfl) (va_D.part hD [0, 1, 2, 3, 4, 5] (by decide) rfl) hS ls (lv_sub hl [2, 3, 1, 0] rfl)
  · replace hf := (if_neg c_1).symm.trans hf
    by_cases c_3 : p0 = (1 : Int32)
    · replace hf := (if_pos c_3).symm.trans hf
      refine lv_tableIn (off := 89) (tgt := 97) hx hb d_Md_total_8 (by rw [c_3]; decide) (by rw [c_3]; decide) (by rw [c_3]; decide) (by decide) ?_
      refine lv_aload_n hx hb d_Md_total_97 rfl (lv_at hl 1 rfl) ?_
      refine va_get (D := D) (ci := 8) (v := .int t_kept) (C := R_Md) (T := F_Md) (N := 21) hx hb hts (fun w9 h9 => .tail _ (gu_Md w9 h9)) hown hK hP 0 rfl rfl 5 (by decide) (hts _ (.tail _ gm_326)) (fun _ h9 => h9) rfl d_Md_total_98 ?_
      have ho9 := Option.some.inj hf
      subst ho9
      have hP9 := va_P.part (cx := [(a_t, .inr (8, [.ref a_t_disk, .ref a_t_tape, .int t_tapeLong, (hdv L), (lsv L), .int t_kept, .int t_next, .int t_come, .int t_crashes, .int (0 : Int32), .int t_open, .int t_openFirst, .int t_openMany, .int t_openBytes, .int t_nextPage, .int t_turn, .int t_oldest, .ref a_t_waitBlock, .ref a_t_waitByte, .ref a_t_waitOldest, .int t_waiting])), (a_t_disk, .inl ((cA 0), n_t_disk, .inl t_disk)), (a_t_tape, .inl ((cA 0), n_t_tape, .inl t_tape)), (a_t_waitBlock, .inl ((cA 0), n_t_waitBlock, .inl t_waitBlock)), (a_t_waitByte, .inl ((cA 0), n_t_waitByte, .inl t_waitByte)), (a_t_waitOldest, .inl ((cA 0), n_t_waitOldest, .inl t_waitOldest))]) hP [0, 1, 2, 3, 4, 5] rfl
      have hD9 := va_D.part (cx := [(a_t, .inr (8, [.ref a_t_disk, .ref a_t_tape, .int t_tapeLong, (hdv L), (lsv L), .int t_kept, .int t_next, .int t_come, .int t_crashes, .int (0 : Int32), .int t_open, .int t_openFirst, .int t_openMany, .int t_openBytes, .int t_nextPage, .int t_turn, .int t_oldest, .ref a_t_waitBlock, .ref a_t_waitByte, .ref a_t_waitOldest, .int t_waiting])), (a_t_disk, .inl ((cA 0), n_t_disk, .inl t_disk)), (a_t_tape, .inl ((cA 0), n_t_tape, .inl t_tape)), (a_t_waitBlock, .inl ((cA 0), n_t_waitBlock, .inl t_waitBlock)), (a_t_waitByte, .inl ((cA 0), n_t_waitByte, .inl t_waitByte)), (a_t_waitOldest, .inl ((cA 0), n_t_waitOldest, .inl t_waitOldest))]) hD [0, 1, 2, 3, 4, 5] (by decide) rfl
      exact W.iret (v := t_kept) hx hb hr (fun t ht hW => ⟨⟨_, (), rfl, rfl, ⟨L, rfl, by rw [ht]; exact hP9, va_K.moved hW.alike hK, hD9⟩⟩, hS.F ht⟩) hS.2.2 d_Md_total_101
    · replace hf := (if_neg c_3).symm.trans hf
      by_cases c_4 : p0 = (2 : Int32)
      · replace hf := (if_pos c_4).symm.trans hf
        refine lv_tableIn (off := 94) (tgt := 102) hx hb d_Md_total_8 (by rw [c_4]; decide) (by rw [c_4]; decide) (by rw [c_4]; decide) (by decide) ?_
        refine lv_aload_n hx hb d_Md_total_102 rfl (lv_at hl 1 rfl) ?_
        refine va_get (D := D) (ci := 8) (v := .int t_next) (C := R_Md) (T := F_Md) (N := 21) hx hb hts (fun w9 h9 => .tail _ (gu_Md w9 h9)) hown hK hP 0 rfl rfl 6 (by decide) (hts _ (.tail _ gm_347)) (fun _ h9 => h9) rfl d_Md_total_103 ?_
        have ho9 := Option.some.inj hf
        subst ho9
        have hP9 := va_P.part (cx := [(a_t, .inr (8, [.ref a_t_disk, .ref a_t_tape, .int t_tapeLong, (hdv L), (lsv L), .int t_kept, .int t_next, .int t_come, .int t_crashes, .int (0 : Int32), .int t_open, .int t_openFirst, .int t_openMany, .int t_openBytes, .int t_nextPage, .int t_turn, .int t_oldest, .ref a_t_waitBlock, .ref a_t_waitByte, .ref a_t_waitOldest, .int t_waiting])), (a_t_disk, .inl ((cA 0), n_t_disk, .inl t_disk)), (a_t_tape, .inl ((cA 0), n_t_tape, .inl t_tape)), (a_t_waitBlock, .inl ((cA 0), n_t_waitBlock, .inl t_waitBlock)), (a_t_waitByte, .inl ((cA 0), n_t_waitByte, .inl t_waitByte)), (a_t_waitOldest, .inl ((cA 0), n_t_waitOldest, .inl t_waitOldest))]) hP [0, 1, 2, 3, 4, 5] rfl
        have hD9 := va_D.part (cx := [(a_t, .inr (8, [.ref a_t_disk, .ref a_t_tape, .int t_tapeLong, (hdv L), (lsv L), .int t_kept, .int t_next, .int t_come, .int t_crashes, .int (0 : Int32), .int t_open, .int t_openFirst, .int t_openMany, .int t_openBytes, .int t_nextPage, .int t_turn, .int t_oldest, .ref a_t_waitBlock, .ref a_t_waitByte, .ref a_t_waitOldest, .int t_waiting])), (a_t_disk, .inl ((cA 0), n_t_disk, .inl t_disk)), (a_t_tape, .inl ((cA 0), n_t_tape, .inl t_tape)), (a_t_waitBlock, .inl ((cA 0), n_t_waitBlock, .inl t_waitBlock)), (a_t_waitByte, .inl ((cA 0), n_t_waitByte, .inl t_waitByte)), (a_t_waitOldest, .inl ((cA 0), n_t_waitOldest, .inl t_waitOldest))]) hD [0, 1, 2, 3, 4, 5] (by decide) rfl
        exact W.iret (v := t_next) hx hb hr (fun t ht hW => ⟨⟨_, (), rfl, rfl, ⟨L, rfl, by rw [ht]; exact hP9, va_K.moved hW.alike hK, hD9⟩⟩, hS.F ht⟩) hS.2.2 d_Md_total_106
      · replace hf := (if_neg c_4).symm.trans hf
        by_cases c_5 : p0 = (3 : Int32)
        · replace hf := (if_pos c_5).symm.trans hf
          refine lv_tableIn (off := 99) (tgt := 107) hx hb d_Md_total_8 (by rw [c_5]; decide) (by rw [c_5]; decide) (by rw [c_5]; decide) (by decide) ?_
          refine lv_aload_n hx hb d_Md_total_107 rfl (lv_at hl 1 rfl) ?_
          refine va_get (D := D) (ci := 8) (v := .int t_open) (C := R_Md) (T := F_Md) (N := 21) hx hb hts (fun w9 h9 => .tail _ (gu_Md w9 h9)) hown hK hP 0 rfl rfl 10 (by decide) (hts _ (.tail _ gm_299)) (fun _ h9 => h9) rfl d_Md_total_108 ?_
          have ho9 := Option.some.inj hf
          subst ho9
          have hP9 := va_P.part (cx := [(a_t, .inr (8, [.ref a_t_disk, .ref a_t_tape, .int t_tapeLong, (hdv L), (lsv L), .int t_kept, .int t_next, .int t_come, .int t_crashes, .int (0 : Int32), .int t_open, .int t_openFirst, .int t_openMany, .int t_openBytes, .int t_nextPage, .int t_turn, .int t_oldest, .ref a_t_waitBlock, .ref a_t_waitByte, .ref a_t_waitOldest, .int t_waiting])), (a_t_disk, .inl ((cA 0), n_t_disk, .inl t_disk)), (a_t_tape, .inl ((cA 0), n_t_tape, .inl t_tape)), (a_t_waitBlock, .inl ((cA 0), n_t_waitBlock, .inl t_waitBlock)), (a_t_waitByte, .inl ((cA 0), n_t_waitByte, .inl t_waitByte)), (a_t_waitOldest, .inl ((cA 0), n_t_waitOldest, .inl t_waitOldest))]) hP [0, 1, 2, 3, 4, 5] rfl
          have hD9 := va_D.part (cx := [(a_t, .inr (8, [.ref a_t_disk, .ref a_t_tape, .int t_tapeLong, (hdv L), (lsv L), .int t_kept, .int t_next, .int t_come, .int t_crashes, .int (0 : Int32), .int t_open, .int t_openFirst, .int t_openMany, .int t_openBytes, .int t_nextPage, .int t_turn, .int t_oldest, .ref a_t_waitBlock, .ref a_t_waitByte, .ref a_t_waitOldest, .int t_waiting])), (a_t_disk, .inl ((cA 0), n_t_disk, .inl t_disk)), (a_t_tape, .inl ((cA 0), n_t_tape, .inl t_tape)), (a_t_waitBlock, .inl ((cA 0), n_t_waitBlock, .inl t_waitBlock)), (a_t_waitByte, .inl ((cA 0), n_t_waitByte, .inl t_waitByte)), (a_t_waitOldest, .inl ((cA 0), n_t_waitOldest, .inl t_waitOldest))]) hD [0, 1, 2, 3, 4, 5] (by decide) rfl
          exact W.iret (v := t_open) hx hb hr (fun t ht hW => ⟨⟨_, (), rfl, rfl, ⟨L, rfl, by rw [ht]; exact hP9, va_K.moved hW.alike hK, hD9⟩⟩, hS.F ht⟩) hS.2.2 d_Md_total_111
        · replace hf := (if_neg c_5).symm.trans hf
          by_cases c_6 : p0 = (4 : Int32)
          · replace hf := (if_pos c_6).symm.trans hf
            refine lv_tableIn (off := 104) (tgt := 112) hx hb d_Md_total_8 (by rw [c_6]; decide) (by rw [c_6]; decide) (by rw [c_6]; decide) (by decide) ?_
            refine lv_aload_n hx hb d_Md_total_112 rfl (lv_at hl 1 rfl) ?_
            refine va_get (D := D) (ci := 8) (v := .int t_openMany) (C := R_Md) (T := F_Md) (N := 21) hx hb hts (fun w9 h9 => .tail _ (gu_Md w9 h9)) hown hK hP 0 rfl rfl 12 (by decide) (hts _ (.tail _ gm_348)) (fun _ h9 => h9) rfl d_Md_total_113 ?_
            have ho9 := Option.some.inj hf
            subst ho9
            have hP9 := va_P.part (cx := [(a_t, .inr (8, [.ref a_t_disk, .ref a_t_tape, .int t_tapeLong, (hdv L), (lsv L), .int t_kept, .int t_next, .int t_come, .int t_crashes, .int (0 : Int32), .int t_open, .int t_openFirst, .int t_openMany, .int t_openBytes, .int t_nextPage, .int t_turn, .int t_oldest, .ref a_t_waitBlock, .ref a_t_waitByte, .ref a_t_waitOldest, .int t_waiting])), (a_t_disk, .inl ((cA 0), n_t_disk, .inl t_disk)), (a_t_tape, .inl ((cA 0), n_t_tape, .inl t_tape)), (a_t_waitBlock, .inl ((cA 0), n_t_waitBlock, .inl t_waitBlock)), (a_t_waitByte, .inl ((cA 0), n_t_waitByte, .inl t_waitByte)), (a_t_waitOldest, .inl ((cA 0), n_t_waitOldest, .inl t_waitOldest))]) hP [0, 1, 2, 3, 4, 5] rfl
            have hD9 := va_D.part (cx := [(a_t, .inr (8, [.ref a_t_disk, .ref a_t_tape, .int t_tapeLong, (hdv L), (lsv L), .int t_kept, .int t_next, .int t_come, .int t_crashes, .int (0 : Int32), .int t_open, .int t_openFirst, .int t_openMany, .int t_openBytes, .int t_nextPage, .int t_turn, .int t_oldest, .ref a_t_waitBlock, .ref a_t_waitByte, .ref a_t_waitOldest, .int t_waiting])), (a_t_disk, .inl ((cA 0), n_t_disk, .inl t_disk)), (a_t_tape, .inl ((cA 0), n_t_tape, .inl t_tape)), (a_t_waitBlock, .inl ((cA 0), n_t_waitBlock, .inl t_waitBlock)), (a_t_waitByte, .inl ((cA 0), n_t_waitByte, .inl t_waitByte)), (a_t_waitOldest, .inl ((cA 0), n_t_waitOldest, .inl t_waitOldest))]) hD [0, 1, 2, 3, 4, 5] (by decide) rfl
            exact W.iret (v := t_openMany) hx hb hr (fun t ht hW => ⟨⟨_, (), rfl, rfl, ⟨L, rfl, by rw [ht]; exact hP9, va_K.moved hW.alike hK, hD9⟩⟩, hS.F ht⟩) hS.2.2 d_Md_total_116
          · replace hf := (if_neg c_6).symm.trans hf
            by_cases c_7 : p0 = (5 : Int32)
            · replace hf := (if_pos c_7).symm.trans hf
              refine lv_tableIn (off := 109) (tgt := 117) hx hb d_Md_total_8 (by rw [c_7]; decide) (by rw [c_7]; decide) (by rw [c_7]; decide) (by decide) ?_
              refine lv_aload_n hx hb d_Md_total_117 rfl (lv_at hl 1 rfl) ?_
              refine va_get (D := D) (ci := 8) (v := .int t_waiting) (C := R_Md) (T := F_Md) (N := 21) hx hb hts (fun w9 h9 => .tail _ (gu_Md w9 h9)) hown hK hP 0 rfl rfl 20 (by decide) (hts _ (.tail _ gm_296)) (fun _ h9 => h9) rfl d_Md_total_118 ?_
              have ho9 := Option.some.inj hf
              subst ho9
              have hP9 := va_P.part (cx := [(a_t, .inr (8, [.ref a_t_disk, .ref a_t_tape, .int t_tapeLong, (hdv L), (lsv L), .int t_kept, .int t_next, .int t_come, .int t_crashes, .int (0 : Int32), .int t_open, .int t_openFirst, .int t_openMany, .int t_openBytes, .int t_nextPage, .int t_turn, .int t_oldest, .ref a_t_waitBlock, .ref a_t_waitByte, .ref a_t_waitOldest, .int t_waiting])), (a_t_disk, .inl ((cA 0), n_t_disk, .inl t_disk)), (a_t_tape, .inl ((cA 0), n_t_tape, .inl t_tape)), (a_t_waitBlock, .inl ((cA 0), n_t_waitBlock, .inl t_waitBlock)), (a_t_waitByte, .inl ((cA 0), n_t_waitByte, .inl t_waitByte)), (a_t_waitOldest, .inl ((cA 0), n_t_waitOldest, .inl t_waitOldest))]) hP [0, 1, 2, 3, 4, 5] rfl
              have hD9 := va_D.part (cx := [(a_t, .inr (8, [.ref a_t_disk, .ref a_t_tape, .int t_tapeLong, (hdv L), (lsv L), .int t_kept, .int t_next, .int t_come, .int t_crashes, .int (0 : Int32), .int t_open, .int t_openFirst, .int t_openMany, .int t_openBytes, .int t_nextPage, .int t_turn, .int t_oldest, .ref a_t_waitBlock, .ref a_t_waitByte, .ref a_t_waitOldest, .int t_waiting])), (a_t_disk, .inl ((cA 0), n_t_disk, .inl t_disk)), (a_t_tape, .inl ((cA 0), n_t_tape, .inl t_tape)), (a_t_waitBlock, .inl ((cA 0), n_t_waitBlock, .inl t_waitBlock)), (a_t_waitByte, .inl ((cA 0), n_t_waitByte, .inl t_waitByte)), (a_t_waitOldest, .inl ((cA 0), n_t_waitOldest, .inl t_waitOldest))]) hD [0, 1, 2, 3, 4, 5] (by decide) rfl
              exact W.iret (v := t_waiting) hx hb hr (fun t ht hW => ⟨⟨_, (), rfl, rfl, ⟨L, rfl, by rw [ht]; exact hP9, va_K.moved hW.alike hK, hD9⟩⟩, hS.F ht⟩) hS.2.2 d_Md_total_121
            · replace hf := (if_neg c_7).symm.trans hf
              by_cases c_8 : p0 = (6 : Int32)
              · replace hf := (if_pos c_8).symm.trans hf
                refine lv_tableIn (off := 114) (tgt := 122) hx hb d_Md_total_8 (by rw [c_8]; decide) (by rw [c_8]; decide) (by rw [c_8]; decide) (by decide) ?_
                refine lv_aload_n hx hb d_Md_total_122 rfl (lv_at hl 1 rfl) ?_
                refine va_get (D := D) (ci := 8) (v := .int t_oldest) (C := R_Md) (T := F_Md) (N := 21) hx hb hts (fun w9 h9 => .tail _ (gu_Md w9 h9)) hown hK hP 0 rfl rfl 16 (by decide) (hts _ (.tail _ gm_304)) (fun _ h9 => h9) rfl d_Md_total_123 ?_
                have ho9 := Option.some.inj hf
                subst ho9
                have hP9 := va_P.part (cx := [(a_t, .inr (8, [.ref a_t_disk, .ref a_t_tape, .int t_tapeLong, (hdv L), (lsv L), .int t_kept, .int t_next, .int t_come, .int t_crashes, .int (0 : Int32), .int t_open, .int t_openFirst, .int t_openMany, .int t_openBytes, .int t_nextPage, .int t_turn, .int t_oldest, .ref a_t_waitBlock, .ref a_t_waitByte, .ref a_t_waitOldest, .int t_waiting])), (a_t_disk, .inl ((cA 0), n_t_disk, .inl t_disk)), (a_t_tape, .inl ((cA 0), n_t_tape, .inl t_tape)), (a_t_waitBlock, .inl ((cA 0), n_t_waitBlock, .inl t_waitBlock)), (a_t_waitByte, .inl ((cA 0), n_t_waitByte, .inl t_waitByte)), (a_t_waitOldest, .inl ((cA 0), n_t_waitOldest, .inl t_waitOldest))]) hP [0, 1, 2, 3, 4, 5] rfl
                have hD9 := va_D.part (cx := [(a_t, .inr (8, [.ref a_t_disk, .ref a_t_tape, .int t_tapeLong, (hdv L), (lsv L), .int t_kept, .int t_next, .int t_come, .int t_crashes, .int (0 : Int32), .int t_open, .int t_openFirst, .int t_openMany, .int t_openBytes, .int t_nextPage, .int t_turn, .int t_oldest, .ref a_t_waitBlock, .ref a_t_waitByte, .ref a_t_waitOldest, .int t_waiting])), (a_t_disk, .inl ((cA 0), n_t_disk, .inl t_disk)), (a_t_tape, .inl ((cA 0), n_t_tape, .inl t_tape)), (a_t_waitBlock, .inl ((cA 0), n_t_waitBlock, .inl t_waitBlock)), (a_t_waitByte, .inl ((cA 0), n_t_waitByte, .inl t_waitByte)), (a_t_waitOldest, .inl ((cA 0), n_t_waitOldest, .inl t_waitOldest))]) hD [0, 1, 2, 3, 4, 5] (by decide) rfl
                exact W.iret (v := t_oldest) hx hb hr (fun t ht hW => ⟨⟨_, (), rfl, rfl, ⟨L, rfl, by rw [ht]; exact hP9, va_K.moved hW.alike hK, hD9⟩⟩, hS.F ht⟩) hS.2.2 d_Md_total_126
              · replace hf := (if_neg c_8).symm.trans hf
                by_cases c_9 : p0 = (7 : Int32)
                · replace hf := (if_pos c_9).symm.trans hf
                  refine lv_tableIn (off := 119) (tgt := 127) hx hb d_Md_total_8 (by rw [c_9]; decide) (by rw [c_9]; decide) (by rw [c_9]; decide) (by decide) ?_
                  refine lv_aload_n hx hb d_Md_total_127 rfl (lv_at hl 1 rfl) ?_
                  refine va_get (D := D) (ci := 8) (v := .int t_turn) (C := R_Md) (T := F_Md) (N := 21) hx hb hts (fun w9 h9 => .tail _ (gu_Md w9 h9)) hown hK hP 0 rfl rfl 15 (by decide) (hts _ (.tail _ gm_325)) (fun _ h9 => h9) rfl d_Md_total_128 ?_
                  have ho9 := Option.some.inj hf
                  subst ho9
                  have hP9 := va_P.part (cx := [(a_t, .inr (8, [.ref a_t_disk, .ref a_t_tape, .int t_tapeLong, (hdv L), (lsv L), .int t_kept, .int t_next, .int t_come, .int t_crashes, .int (0 : Int32), .int t_open, .int t_openFirst, .int t_openMany, .int t_openBytes, .int t_nextPage, .int t_turn, .int t_oldest, .ref a_t_waitBlock, .ref a_t_waitByte, .ref a_t_waitOldest, .int t_waiting])), (a_t_disk, .inl ((cA 0), n_t_disk, .inl t_disk)), (a_t_tape, .inl ((cA 0), n_t_tape, .inl t_tape)), (a_t_waitBlock, .inl ((cA 0), n_t_waitBlock, .inl t_waitBlock)), (a_t_waitByte, .inl ((cA 0), n_t_waitByte, .inl t_waitByte)), (a_t_waitOldest, .inl ((cA 0), n_t_waitOldest, .inl t_waitOldest))]) hP [0, 1, 2, 3, 4, 5] rfl
                  have hD9 := va_D.part (cx := [(a_t, .inr (8, [.ref a_t_disk, .ref a_t_tape, .int t_tapeLong, (hdv L), (lsv L), .int t_kept, .int t_next, .int t_come, .int t_crashes, .int (0 : Int32), .int t_open, .int t_openFirst, .int t_openMany, .int t_openBytes, .int t_nextPage, .int t_turn, .int t_oldest, .ref a_t_waitBlock, .ref a_t_waitByte, .ref a_t_waitOldest, .int t_waiting])), (a_t_disk, .inl ((cA 0), n_t_disk, .inl t_disk)), (a_t_tape, .inl ((cA 0), n_t_tape, .inl t_tape)), (a_t_waitBlock, .inl ((cA 0), n_t_waitBlock, .inl t_waitBlock)), (a_t_waitByte, .inl ((cA 0), n_t_waitByte, .inl t_waitByte)), (a_t_waitOldest, .inl ((cA 0), n_t_waitOldest, .inl t_waitOldest))]) hD [0, 1, 2, 3, 4, 5] (by decide) rfl
                  exact W.iret (v := t_turn) hx hb hr (fun t ht hW => ⟨⟨_, (), rfl, rfl, ⟨L, rfl, by rw [ht]; exact hP9, va_K.moved hW.alike hK, hD9⟩⟩, hS.F ht⟩) hS.2.2 d_Md_total_131
                · replace hf := (if_neg c_9).symm.trans hf
                  by_cases c_10 : p0 = (8 : Int32)
                  · replace hf := (if_pos c_10).symm.trans hf
                    refine lv_tableIn (off := 124) (tgt := 132) hx hb d_Md_total_8 (by rw [c_10]; decide) (by rw [c_10]; decide) (by rw [c_10]; decide) (by decide) ?_
                    refine lv_aload_n hx hb d_Md_total_132 rfl (lv_at hl 1 rfl) ?_
                    refine va_get (D := D) (ci := 8) (v := .int t_crashes) (C := R_Md) (T := F_Md) (N := 21) hx hb hts (fun w9 h9 => .tail _ (gu_Md w9 h9)) hown hK hP 0 rfl rfl 8 (by decide) (hts _ (.tail _ gm_349)) (fun _ h9 => h9) rfl d_Md_total_133 ?_
                    have ho9 := Option.some.inj hf
                    subst ho9
                    have hP9 := va_P.part (cx := [(a_t, .inr (8, [.ref a_t_disk, .ref a_t_tape, .int t_tapeLong, (hdv L), (lsv L), .int t_kept, .int t_next, .int t_come, .int t_crashes, .int (0 : Int32), .int t_open, .int t_openFirst, .int t_openMany, .int t_openBytes, .int t_nextPage, .int t_turn, .int t_oldest, .ref a_t_waitBlock, .ref a_t_waitByte, .ref a_t_waitOldest, .int t_waiting])), (a_t_disk, .inl ((cA 0), n_t_disk, .inl t_disk)), (a_t_tape, .inl ((cA 0), n_t_tape, .inl t_tape)), (a_t_waitBlock, .inl ((cA 0), n_t_waitBlock, .inl t_waitBlock)), (a_t_waitByte, .inl ((cA 0), n_t_waitByte, .inl t_waitByte)), (a_t_waitOldest, .inl ((cA 0), n_t_waitOldest, .inl t_waitOldest))]) hP [0, 1, 2, 3, 4, 5] rfl
                    have hD9 := va_D.part (cx := [(a_t, .inr (8, [.ref a_t_disk, .ref a_t_tape, .int t_tapeLong, (hdv L), (lsv L), .int t_kept, .int t_next, .int t_come, .int t_crashes, .int (0 : Int32), .int t_open, .int t_openFirst, .int t_openMany, .int t_openBytes, .int t_nextPage, .int t_turn, .int t_oldest, .ref a_t_waitBlock, .ref a_t_waitByte, .ref a_t_waitOldest, .int t_waiting])), (a_t_disk, .inl ((cA 0), n_t_disk, .inl t_disk)), (a_t_tape, .inl ((cA 0), n_t_tape, .inl t_tape)), (a_t_waitBlock, .inl ((cA 0), n_t_waitBlock, .inl t_waitBlock)), (a_t_waitByte, .inl ((cA 0), n_t_waitByte, .inl t_waitByte)), (a_t_waitOldest, .inl ((cA 0), n_t_waitOldest, .inl t_waitOldest))]) hD [0, 1, 2, 3, 4, 5] (by decide) rfl
                    exact W.iret (v := t_crashes) hx hb hr (fun t ht hW => ⟨⟨_, (), rfl, rfl, ⟨L, rfl, by rw [ht]; exact hP9, va_K.moved hW.alike hK, hD9⟩⟩, hS.F ht⟩) hS.2.2 d_Md_total_136
                  · replace hf := (if_neg c_10).symm.trans hf
                    by_cases c_11 : p0 = (9 : Int32)
                    · replace hf := (if_pos c_11).symm.trans hf
                      refine lv_tableIn (off := 129) (tgt := 137) hx hb d_Md_total_8 (by rw [c_11]; decide) (by rw [c_11]; decide) (by rw [c_11]; decide) (by decide) ?_
                      refine lv_aload_n hx hb d_Md_total_137 rfl (lv_at hl 1 rfl) ?_
                      refine va_get (D := D) (ci := 8) (v := .int t_nextPage) (C := R_Md) (T := F_Md) (N := 21) hx hb hts (fun w9 h9 => .tail _ (gu_Md w9 h9)) hown hK hP 0 rfl rfl 14 (by decide) (hts _ (.tail _ gm_300)) (fun _ h9 => h9) rfl d_Md_total_138 ?_
                      have ho9 := Option.some.inj hf
                      subst ho9
                      have hP9 := va_P.part (cx := [(a_t, .inr (8, [.ref a_t_disk, .ref a_t_tape, .int t_tapeLong, (hdv L), (lsv L), .int t_kept, .int t_next, .int t_come, .int t_crashes, .int (0 : Int32), .int t_open, .int t_openFirst, .int t_openMany, .int t_openBytes, .int t_nextPage, .int t_turn, .int t_oldest, .ref a_t_waitBlock, .ref a_t_waitByte, .ref a_t_waitOldest, .int t_waiting])), (a_t_disk, .inl ((cA 0), n_t_disk, .inl t_disk)), (a_t_tape, .inl ((cA 0), n_t_tape, .inl t_tape)), (a_t_waitBlock, .inl ((cA 0), n_t_waitBlock, .inl t_waitBlock)), (a_t_waitByte, .inl ((cA 0), n_t_waitByte, .inl t_waitByte)), (a_t_waitOldest, .inl ((cA 0), n_t_waitOldest, .inl t_waitOldest))]) hP [0, 1, 2, 3, 4, 5] rfl
                      have hD9 := va_D.part (cx := [(a_t, .inr (8, [.ref a_t_disk, .ref a_t_tape, .int t_tapeLong, (hdv L), (lsv L), .int t_kept, .int t_next, .int t_come, .int t_crashes, .int (0 : Int32), .int t_open, .int t_openFirst, .int t_openMany, .int t_openBytes, .int t_nextPage, .int t_turn, .int t_oldest, .ref a_t_waitBlock, .ref a_t_waitByte, .ref a_t_waitOldest, .int t_waiting])), (a_t_disk, .inl ((cA 0), n_t_disk, .inl t_disk)), (a_t_tape, .inl ((cA 0), n_t_tape, .inl t_tape)), (a_t_waitBlock, .inl ((cA 0), n_t_waitBlock, .inl t_waitBlock)), (a_t_waitByte, .inl ((cA 0), n_t_waitByte, .inl t_waitByte)), (a_t_waitOldest, .inl ((cA 0), n_t_waitOldest, .inl t_waitOldest))]) hD [0, 1, 2, 3, 4, 5] (by decide) rfl
                      exact W.iret (v := t_nextPage) hx hb hr (fun t ht hW => ⟨⟨_, (), rfl, rfl, ⟨L, rfl, by rw [ht]; exact hP9, va_K.moved hW.alike hK, hD9⟩⟩, hS.F ht⟩) hS.2.2 d_Md_total_141
                    · replace hf := (if_neg c_11).symm.trans hf
                      refine lv_tableOut (tgt := 142) hx hb d_Md_total_8 (sw_0_9 c_1 c_3 c_4 c_5 c_6 c_7 c_8 c_9 c_10 c_11) (by decide) ?_
                      refine lv_iconst (v := (-1)) hx hb d_Md_total_142 (by decide) ?_
                      have ho9 := Option.some.inj hf
                      subst ho9
                      have hP9 := va_P.part (cx := [(a_t, .inr (8, [.ref a_t_disk, .ref a_t_tape, .int t_tapeLong, (hdv L), (lsv L), .int t_kept, .int t_next, .int t_come, .int t_crashes, .int (0 : Int32), .int t_open, .int t_openFirst, .int t_openMany, .int t_openBytes, .int t_nextPage, .int t_turn, .int t_oldest, .ref a_t_waitBlock, .ref a_t_waitByte, .ref a_t_waitOldest, .int t_waiting])), (a_t_disk, .inl ((cA 0), n_t_disk, .inl t_disk)), (a_t_tape, .inl ((cA 0), n_t_tape, .inl t_tape)), (a_t_waitBlock, .inl ((cA 0), n_t_waitBlock, .inl t_waitBlock)), (a_t_waitByte, .inl ((cA 0), n_t_waitByte, .inl t_waitByte)), (a_t_waitOldest, .inl ((cA 0), n_t_waitOldest, .inl t_waitOldest))]) hP [0, 1, 2, 3, 4, 5] rfl
                      have hD9 := va_D.part (cx := [(a_t, .inr (8, [.ref a_t_disk, .ref a_t_tape, .int t_tapeLong, (hdv L), (lsv L), .int t_kept, .int t_next, .int t_come, .int t_crashes, .int (0 : Int32), .int t_open, .int t_openFirst, .int t_openMany, .int t_openBytes, .int t_nextPage, .int t_turn, .int t_oldest, .ref a_t_waitBlock, .ref a_t_waitByte, .ref a_t_waitOldest, .int t_waiting])), (a_t_disk, .inl ((cA 0), n_t_disk, .inl t_disk)), (a_t_tape, .inl ((cA 0), n_t_tape, .inl t_tape)), (a_t_waitBlock, .inl ((cA 0), n_t_waitBlock, .inl t_waitBlock)), (a_t_waitByte, .inl ((cA 0), n_t_waitByte, .inl t_waitByte)), (a_t_waitOldest, .inl ((cA 0), n_t_waitOldest, .inl t_waitOldest))]) hD [0, 1, 2, 3, 4, 5] (by decide) rfl
                      exact W.iret (v := (-1 : Int32)) hx hb hr (fun t ht hW => ⟨⟨_, (), rfl, rfl, ⟨L, rfl, by rw [ht]; exact hP9, va_K.moved hW.alike hK, hD9⟩⟩, hS.F ht⟩) hS.2.2 d_Md_total_143
