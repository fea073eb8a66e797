-- ===== PART A: goes FIRST, ahead of the names: the tables' words, and 'selects' of the private methods out of them =====
/-- a private method of a class that the tables say can be made, by its rows of tables_1 -/
def lw_okq (q : MethodName × Nat) : Prop := (q.1.cls ≠ "java/lang/invoke/MethodHandle" ∧ q.1.cls ≠ "java/lang/invoke/VarHandle") ∧ Cond.instantiable q.1.cls q.2 ∈ tables_1 ∧ Cond.privateMethod q.1 ∈ tables_1 ∧ Cond.instanceMethod q.1 ∈ tables_1
theorem lw_p0 : lw_okq (⟨"RoundJournal", "closeOpenPage", "()V"⟩, 9) := ⟨⟨by decide +kernel, by decide +kernel⟩, List.mem_of_getElem? (i := 19) (by decide +kernel), List.mem_of_getElem? (i := 246) (by decide +kernel), List.mem_of_getElem? (i := 247) (by decide +kernel)⟩
theorem lw_p1 : lw_okq (⟨"RoundJournal", "doWrites", "(I)V"⟩, 9) := ⟨⟨by decide +kernel, by decide +kernel⟩, List.mem_of_getElem? (i := 19) (by decide +kernel), List.mem_of_getElem? (i := 278) (by decide +kernel), List.mem_of_getElem? (i := 279) (by decide +kernel)⟩
theorem lw_p2 : lw_okq (⟨"java/lang/Throwable", "fillInStackTrace", "(I)Ljava/lang/Throwable;"⟩, 6) := ⟨⟨by decide +kernel, by decide +kernel⟩, List.mem_of_getElem? (i := 379) (by decide +kernel), List.mem_of_getElem? (i := 377) (by decide +kernel), List.mem_of_getElem? (i := 378) (by decide +kernel)⟩
theorem lw_p3 : lw_okq (⟨"RoundJournal", "makeRoom", "(I)Z"⟩, 9) := ⟨⟨by decide +kernel, by decide +kernel⟩, List.mem_of_getElem? (i := 19) (by decide +kernel), List.mem_of_getElem? (i := 424) (by decide +kernel), List.mem_of_getElem? (i := 425) (by decide +kernel)⟩
theorem lw_p4 : lw_okq (⟨"RoundJournal", "findAgain", "()V"⟩, 9) := ⟨⟨by decide +kernel, by decide +kernel⟩, List.mem_of_getElem? (i := 19) (by decide +kernel), List.mem_of_getElem? (i := 456) (by decide +kernel), List.mem_of_getElem? (i := 457) (by decide +kernel)⟩
theorem lw_p5 : lw_okq (⟨"RoundJournal", "isNextPage", "(II)Z"⟩, 9) := ⟨⟨by decide +kernel, by decide +kernel⟩, List.mem_of_getElem? (i := 19) (by decide +kernel), List.mem_of_getElem? (i := 479) (by decide +kernel), List.mem_of_getElem? (i := 480) (by decide +kernel)⟩
theorem lw_p6 : lw_okq (⟨"RoundJournal", "hasGoodRecords", "(I)Z"⟩, 9) := ⟨⟨by decide +kernel, by decide +kernel⟩, List.mem_of_getElem? (i := 19) (by decide +kernel), List.mem_of_getElem? (i := 486) (by decide +kernel), List.mem_of_getElem? (i := 487) (by decide +kernel)⟩
theorem lw_p7 : lw_okq (⟨"RoundJournal", "takePage", "(I)I"⟩, 9) := ⟨⟨by decide +kernel, by decide +kernel⟩, List.mem_of_getElem? (i := 19) (by decide +kernel), List.mem_of_getElem? (i := 490) (by decide +kernel), List.mem_of_getElem? (i := 491) (by decide +kernel)⟩
theorem lw_p8 : lw_okq (⟨"RoundJournalModel", "waitHead", "()V"⟩, 21) := ⟨⟨by decide +kernel, by decide +kernel⟩, List.mem_of_getElem? (i := 537) (by decide +kernel), List.mem_of_getElem? (i := 543) (by decide +kernel), List.mem_of_getElem? (i := 544) (by decide +kernel)⟩
theorem lw_p9 : lw_okq (⟨"RoundJournalModel", "waits", "(I)I"⟩, 21) := ⟨⟨by decide +kernel, by decide +kernel⟩, List.mem_of_getElem? (i := 537) (by decide +kernel), List.mem_of_getElem? (i := 547) (by decide +kernel), List.mem_of_getElem? (i := 548) (by decide +kernel)⟩
theorem lw_p10 : lw_okq (⟨"RoundJournalModel", "nextPlace", "()I"⟩, 21) := ⟨⟨by decide +kernel, by decide +kernel⟩, List.mem_of_getElem? (i := 537) (by decide +kernel), List.mem_of_getElem? (i := 551) (by decide +kernel), List.mem_of_getElem? (i := 552) (by decide +kernel)⟩
theorem lw_p11 : lw_okq (⟨"RoundJournalModel", "putWord", "(II)V"⟩, 21) := ⟨⟨by decide +kernel, by decide +kernel⟩, List.mem_of_getElem? (i := 537) (by decide +kernel), List.mem_of_getElem? (i := 555) (by decide +kernel), List.mem_of_getElem? (i := 556) (by decide +kernel)⟩
theorem lw_p12 : lw_okq (⟨"RoundJournalModel", "doFirst", "()V"⟩, 21) := ⟨⟨by decide +kernel, by decide +kernel⟩, List.mem_of_getElem? (i := 537) (by decide +kernel), List.mem_of_getElem? (i := 563) (by decide +kernel), List.mem_of_getElem? (i := 564) (by decide +kernel)⟩
theorem lw_p13 : lw_okq (⟨"RoundJournalModel", "comesFirst", "(I)V"⟩, 21) := ⟨⟨by decide +kernel, by decide +kernel⟩, List.mem_of_getElem? (i := 537) (by decide +kernel), List.mem_of_getElem? (i := 567) (by decide +kernel), List.mem_of_getElem? (i := 568) (by decide +kernel)⟩
theorem lw_p14 : lw_okq (⟨"RoundJournalModel", "close", "()V"⟩, 21) := ⟨⟨by decide +kernel, by decide +kernel⟩, List.mem_of_getElem? (i := 537) (by decide +kernel), List.mem_of_getElem? (i := 648) (by decide +kernel), List.mem_of_getElem? (i := 649) (by decide +kernel)⟩
theorem lw_p15 : lw_okq (⟨"RoundJournalModel", "forget", "()V"⟩, 21) := ⟨⟨by decide +kernel, by decide +kernel⟩, List.mem_of_getElem? (i := 537) (by decide +kernel), List.mem_of_getElem? (i := 652) (by decide +kernel), List.mem_of_getElem? (i := 653) (by decide +kernel)⟩
def lw_privs_1 : List (MethodName × Nat) := [(⟨"RoundJournal", "closeOpenPage", "()V"⟩, 9), (⟨"RoundJournal", "doWrites", "(I)V"⟩, 9), (⟨"java/lang/Throwable", "fillInStackTrace", "(I)Ljava/lang/Throwable;"⟩, 6), (⟨"RoundJournal", "makeRoom", "(I)Z"⟩, 9), (⟨"RoundJournal", "findAgain", "()V"⟩, 9), (⟨"RoundJournal", "isNextPage", "(II)Z"⟩, 9), (⟨"RoundJournal", "hasGoodRecords", "(I)Z"⟩, 9), (⟨"RoundJournal", "takePage", "(I)I"⟩, 9), (⟨"RoundJournalModel", "waitHead", "()V"⟩, 21), (⟨"RoundJournalModel", "waits", "(I)I"⟩, 21), (⟨"RoundJournalModel", "nextPlace", "()I"⟩, 21), (⟨"RoundJournalModel", "putWord", "(II)V"⟩, 21), (⟨"RoundJournalModel", "doFirst", "()V"⟩, 21), (⟨"RoundJournalModel", "comesFirst", "(I)V"⟩, 21), (⟨"RoundJournalModel", "close", "()V"⟩, 21), (⟨"RoundJournalModel", "forget", "()V"⟩, 21)]
theorem lw_r1 : ∀ q ∈ lw_privs_1, lw_okq q := List.forall_mem_cons.mpr ⟨lw_p0, List.forall_mem_cons.mpr ⟨lw_p1, List.forall_mem_cons.mpr ⟨lw_p2, List.forall_mem_cons.mpr ⟨lw_p3, List.forall_mem_cons.mpr ⟨lw_p4, List.forall_mem_cons.mpr ⟨lw_p5, List.forall_mem_cons.mpr ⟨lw_p6, List.forall_mem_cons.mpr ⟨lw_p7, List.forall_mem_cons.mpr ⟨lw_p8, List.forall_mem_cons.mpr ⟨lw_p9, List.forall_mem_cons.mpr ⟨lw_p10, List.forall_mem_cons.mpr ⟨lw_p11, List.forall_mem_cons.mpr ⟨lw_p12, List.forall_mem_cons.mpr ⟨lw_p13, List.forall_mem_cons.mpr ⟨lw_p14, List.forall_mem_cons.mpr ⟨lw_p15, fun _ h => absurd h List.not_mem_nil⟩⟩⟩⟩⟩⟩⟩⟩⟩⟩⟩⟩⟩⟩⟩⟩
theorem lw_p16 : lw_okq (⟨"RoundJournalModel", "add", "(LRoundJournalModel$Record;)V"⟩, 21) := ⟨⟨by decide +kernel, by decide +kernel⟩, List.mem_of_getElem? (i := 537) (by decide +kernel), List.mem_of_getElem? (i := 682) (by decide +kernel), List.mem_of_getElem? (i := 683) (by decide +kernel)⟩
theorem lw_p17 : lw_okq (⟨"RoundJournalModel", "find", "()V"⟩, 21) := ⟨⟨by decide +kernel, by decide +kernel⟩, List.mem_of_getElem? (i := 537) (by decide +kernel), List.mem_of_getElem? (i := 698) (by decide +kernel), List.mem_of_getElem? (i := 699) (by decide +kernel)⟩
theorem lw_p18 : lw_okq (⟨"RoundJournalModel", "findHead", "()V"⟩, 21) := ⟨⟨by decide +kernel, by decide +kernel⟩, List.mem_of_getElem? (i := 537) (by decide +kernel), List.mem_of_getElem? (i := 702) (by decide +kernel), List.mem_of_getElem? (i := 703) (by decide +kernel)⟩
theorem lw_p19 : lw_okq (⟨"RoundJournalModel", "isHead", "(I)Z"⟩, 21) := ⟨⟨by decide +kernel, by decide +kernel⟩, List.mem_of_getElem? (i := 537) (by decide +kernel), List.mem_of_getElem? (i := 706) (by decide +kernel), List.mem_of_getElem? (i := 707) (by decide +kernel)⟩
theorem lw_p20 : lw_okq (⟨"RoundJournalModel", "isWhole", "(I)Z"⟩, 21) := ⟨⟨by decide +kernel, by decide +kernel⟩, List.mem_of_getElem? (i := 537) (by decide +kernel), List.mem_of_getElem? (i := 713) (by decide +kernel), List.mem_of_getElem? (i := 714) (by decide +kernel)⟩
theorem lw_p21 : lw_okq (⟨"RoundJournalModel", "hasRecords", "(I)Z"⟩, 21) := ⟨⟨by decide +kernel, by decide +kernel⟩, List.mem_of_getElem? (i := 537) (by decide +kernel), List.mem_of_getElem? (i := 721) (by decide +kernel), List.mem_of_getElem? (i := 722) (by decide +kernel)⟩
theorem lw_p22 : lw_okq (⟨"RoundJournalModel", "findRecords", "(II)V"⟩, 21) := ⟨⟨by decide +kernel, by decide +kernel⟩, List.mem_of_getElem? (i := 537) (by decide +kernel), List.mem_of_getElem? (i := 725) (by decide +kernel), List.mem_of_getElem? (i := 726) (by decide +kernel)⟩
theorem lw_p23 : lw_okq (⟨"RoundJournalModel", "at", "(I)LRoundJournalModel$Record;"⟩, 21) := ⟨⟨by decide +kernel, by decide +kernel⟩, List.mem_of_getElem? (i := 537) (by decide +kernel), List.mem_of_getElem? (i := 745) (by decide +kernel), List.mem_of_getElem? (i := 746) (by decide +kernel)⟩
def lw_privs_2 : List (MethodName × Nat) := [(⟨"RoundJournalModel", "add", "(LRoundJournalModel$Record;)V"⟩, 21), (⟨"RoundJournalModel", "find", "()V"⟩, 21), (⟨"RoundJournalModel", "findHead", "()V"⟩, 21), (⟨"RoundJournalModel", "isHead", "(I)Z"⟩, 21), (⟨"RoundJournalModel", "isWhole", "(I)Z"⟩, 21), (⟨"RoundJournalModel", "hasRecords", "(I)Z"⟩, 21), (⟨"RoundJournalModel", "findRecords", "(II)V"⟩, 21), (⟨"RoundJournalModel", "at", "(I)LRoundJournalModel$Record;"⟩, 21)]
theorem lw_r2 : ∀ q ∈ lw_privs_2, lw_okq q := List.forall_mem_cons.mpr ⟨lw_p16, List.forall_mem_cons.mpr ⟨lw_p17, List.forall_mem_cons.mpr ⟨lw_p18, List.forall_mem_cons.mpr ⟨lw_p19, List.forall_mem_cons.mpr ⟨lw_p20, List.forall_mem_cons.mpr ⟨lw_p21, List.forall_mem_cons.mpr ⟨lw_p22, List.forall_mem_cons.mpr ⟨lw_p23, fun _ h => absurd h List.not_mem_nil⟩⟩⟩⟩⟩⟩⟩⟩
def lw_privs : List (MethodName × Nat) := lw_privs_1 ++ (lw_privs_2)
def lw_tbl : List Cond := k2_sels lw_privs ++ tables_1
theorem lw_privs_ok : ∀ q ∈ lw_privs, lw_okq q := by
  show ∀ q ∈ lw_privs_1 ++ (lw_privs_2), lw_okq q
  exact List.forall_mem_append.mpr ⟨lw_r1, lw_r2⟩
def R_Bl : String := "RoundJournal$Blocks"
def F_Bl : u_T := fun k => match k with
  | 0 => ("RoundJournal$Blocks", "count", "I", true)
  | _ => ("RoundJournal$Blocks", "bytes", "[B", true)
def t_Bl : Nat → FieldType := fun k => match k with
  | 0 => .int
  | _ => .array .byte
abbrev w_Bl : List Cond := u_ws R_Bl F_Bl 2
theorem n_Bl : ∀ a, a < 2 → ∀ b, b < 2 → a ≠ b → (F_Bl a).2.1 ≠ (F_Bl b).2.1 := by decide +kernel
theorem t_Bl_ok : ∀ k, k < 2 → parseFieldDescriptor (F_Bl k).2.2.1 = some (t_Bl k) := by decide +kernel
def R_Hd : String := "RoundJournal$Head"
def F_Hd : u_T := fun k => match k with
  | 0 => ("RoundJournal$Head", "turn", "I", false)
  | 1 => ("RoundJournal$Head", "oldest", "I", false)
  | _ => ("RoundJournal$Head", "kept", "I", false)
def t_Hd : Nat → FieldType := fun k => match k with
  | 0 => .int
  | 1 => .int
  | _ => .int
abbrev w_Hd : List Cond := u_ws R_Hd F_Hd 3
theorem n_Hd : ∀ a, a < 3 → ∀ b, b < 3 → a ≠ b → (F_Hd a).2.1 ≠ (F_Hd b).2.1 := by decide +kernel
theorem t_Hd_ok : ∀ k, k < 3 → parseFieldDescriptor (F_Hd k).2.2.1 = some (t_Hd k) := by decide +kernel
def R_Pg : String := "RoundJournal$Pages"
def F_Pg : u_T := fun k => match k with
  | 0 => ("RoundJournal$Pages", "rows", "LRoundJournal$Blocks;", true)
  | 1 => ("RoundJournal$Pages", "open", "I", false)
  | 2 => ("RoundJournal$Pages", "used", "I", false)
  | _ => ("RoundJournal$Pages", "next", "I", false)
def t_Pg : Nat → FieldType := fun k => match k with
  | 0 => .object "RoundJournal$Blocks"
  | 1 => .int
  | 2 => .int
  | _ => .int
abbrev w_Pg : List Cond := u_ws R_Pg F_Pg 4
theorem n_Pg : ∀ a, a < 4 → ∀ b, b < 4 → a ≠ b → (F_Pg a).2.1 ≠ (F_Pg b).2.1 := by decide +kernel
theorem t_Pg_ok : ∀ k, k < 4 → parseFieldDescriptor (F_Pg k).2.2.1 = some (t_Pg k) := by decide +kernel
def R_Rc : String := "RoundJournal$Records"
def F_Rc : u_T := fun k => match k with
  | 0 => ("RoundJournal$Records", "pageBySlot", "[I", true)
  | 1 => ("RoundJournal$Records", "startBySlot", "[I", true)
  | 2 => ("RoundJournal$Records", "kept", "I", false)
  | _ => ("RoundJournal$Records", "next", "I", false)
def t_Rc : Nat → FieldType := fun k => match k with
  | 0 => .array .int
  | 1 => .array .int
  | 2 => .int
  | _ => .int
abbrev w_Rc : List Cond := u_ws R_Rc F_Rc 4
theorem n_Rc : ∀ a, a < 4 → ∀ b, b < 4 → a ≠ b → (F_Rc a).2.1 ≠ (F_Rc b).2.1 := by decide +kernel
theorem t_Rc_ok : ∀ k, k < 4 → parseFieldDescriptor (F_Rc k).2.2.1 = some (t_Rc k) := by decide +kernel
def R_Tp : String := "RoundJournal$Tape"
def F_Tp : u_T := fun k => match k with
  | 0 => ("RoundJournal$Tape", "bytes", "[B", true)
  | _ => ("RoundJournal$Tape", "length", "I", false)
def t_Tp : Nat → FieldType := fun k => match k with
  | 0 => .array .byte
  | _ => .int
abbrev w_Tp : List Cond := u_ws R_Tp F_Tp 2
theorem n_Tp : ∀ a, a < 2 → ∀ b, b < 2 → a ≠ b → (F_Tp a).2.1 ≠ (F_Tp b).2.1 := by decide +kernel
theorem t_Tp_ok : ∀ k, k < 2 → parseFieldDescriptor (F_Tp k).2.2.1 = some (t_Tp k) := by decide +kernel
def R_Wt : String := "RoundJournal$Waiting"
def F_Wt : u_T := fun k => match k with
  | 0 => ("RoundJournal$Waiting", "blocks", "LRoundJournal$Blocks;", true)
  | 1 => ("RoundJournal$Waiting", "places", "[I", true)
  | _ => ("RoundJournal$Waiting", "count", "I", false)
def t_Wt : Nat → FieldType := fun k => match k with
  | 0 => .object "RoundJournal$Blocks"
  | 1 => .array .int
  | _ => .int
abbrev w_Wt : List Cond := u_ws R_Wt F_Wt 3
theorem n_Wt : ∀ a, a < 3 → ∀ b, b < 3 → a ≠ b → (F_Wt a).2.1 ≠ (F_Wt b).2.1 := by decide +kernel
theorem t_Wt_ok : ∀ k, k < 3 → parseFieldDescriptor (F_Wt k).2.2.1 = some (t_Wt k) := by decide +kernel
def R_RJ : String := "RoundJournal"
def F_RJ : u_T := fun k => match k with
  | 0 => ("RoundJournal", "diskBlocks", "LRoundJournal$Blocks;", true)
  | 1 => ("RoundJournal", "waiting", "LRoundJournal$Waiting;", true)
  | 2 => ("RoundJournal", "pages", "LRoundJournal$Pages;", true)
  | 3 => ("RoundJournal", "records", "LRoundJournal$Records;", true)
  | 4 => ("RoundJournal", "head", "LRoundJournal$Head;", true)
  | 5 => ("RoundJournal", "tape", "LRoundJournal$Tape;", true)
  | 6 => ("RoundJournal", "toldTurn", "I", false)
  | 7 => ("RoundJournal", "come", "I", false)
  | _ => ("RoundJournal", "crashes", "I", false)
def t_RJ : Nat → FieldType := fun k => match k with
  | 0 => .object "RoundJournal$Blocks"
  | 1 => .object "RoundJournal$Waiting"
  | 2 => .object "RoundJournal$Pages"
  | 3 => .object "RoundJournal$Records"
  | 4 => .object "RoundJournal$Head"
  | 5 => .object "RoundJournal$Tape"
  | 6 => .int
  | 7 => .int
  | _ => .int
abbrev w_RJ : List Cond := u_ws R_RJ F_RJ 9
theorem n_RJ : ∀ a, a < 9 → ∀ b, b < 9 → a ≠ b → (F_RJ a).2.1 ≠ (F_RJ b).2.1 := by decide +kernel
theorem t_RJ_ok : ∀ k, k < 9 → parseFieldDescriptor (F_RJ k).2.2.1 = some (t_RJ k) := by decide +kernel
def R_Re : String := "RoundJournalModel$Record"
def F_Re : u_T := fun k => match k with
  | 0 => ("RoundJournalModel$Record", "number", "I", true)
  | 1 => ("RoundJournalModel$Record", "kind", "I", true)
  | 2 => ("RoundJournalModel$Record", "page", "I", true)
  | 3 => ("RoundJournalModel$Record", "bytes", "[I", true)
  | _ => ("RoundJournalModel$Record", "next", "LRoundJournalModel$Record;", false)
def t_Re : Nat → FieldType := fun k => match k with
  | 0 => .int
  | 1 => .int
  | 2 => .int
  | 3 => .array .int
  | _ => .object "RoundJournalModel$Record"
abbrev w_Re : List Cond := u_ws R_Re F_Re 5
theorem n_Re : ∀ a, a < 5 → ∀ b, b < 5 → a ≠ b → (F_Re a).2.1 ≠ (F_Re b).2.1 := by decide +kernel
theorem t_Re_ok : ∀ k, k < 5 → parseFieldDescriptor (F_Re k).2.2.1 = some (t_Re k) := by decide +kernel
def R_Md : String := "RoundJournalModel"
def F_Md : u_T := fun k => match k with
  | 0 => ("RoundJournalModel", "disk", "[I", true)
  | 1 => ("RoundJournalModel", "tape", "[I", true)
  | 2 => ("RoundJournalModel", "tapeLong", "I", false)
  | 3 => ("RoundJournalModel", "first", "LRoundJournalModel$Record;", false)
  | 4 => ("RoundJournalModel", "last", "LRoundJournalModel$Record;", false)
  | 5 => ("RoundJournalModel", "kept", "I", false)
  | 6 => ("RoundJournalModel", "next", "I", false)
  | 7 => ("RoundJournalModel", "come", "I", false)
  | 8 => ("RoundJournalModel", "crashes", "I", false)
  | 9 => ("RoundJournalModel", "thrown", "I", false)
  | 10 => ("RoundJournalModel", "open", "I", false)
  | 11 => ("RoundJournalModel", "openFirst", "I", false)
  | 12 => ("RoundJournalModel", "openMany", "I", false)
  | 13 => ("RoundJournalModel", "openBytes", "I", false)
  | 14 => ("RoundJournalModel", "nextPage", "I", false)
  | 15 => ("RoundJournalModel", "turn", "I", false)
  | 16 => ("RoundJournalModel", "oldest", "I", false)
  | 17 => ("RoundJournalModel", "waitBlock", "[I", true)
  | 18 => ("RoundJournalModel", "waitByte", "[I", true)
  | 19 => ("RoundJournalModel", "waitOldest", "[I", true)
  | _ => ("RoundJournalModel", "waiting", "I", false)
def t_Md : Nat → FieldType := fun k => match k with
  | 0 => .array .int
  | 1 => .array .int
  | 2 => .int
  | 3 => .object "RoundJournalModel$Record"
  | 4 => .object "RoundJournalModel$Record"
  | 5 => .int
  | 6 => .int
  | 7 => .int
  | 8 => .int
  | 9 => .int
  | 10 => .int
  | 11 => .int
  | 12 => .int
  | 13 => .int
  | 14 => .int
  | 15 => .int
  | 16 => .int
  | 17 => .array .int
  | 18 => .array .int
  | 19 => .array .int
  | _ => .int
abbrev w_Md : List Cond := u_ws R_Md F_Md 21
theorem n_Md : ∀ a, a < 21 → ∀ b, b < 21 → a ≠ b → (F_Md a).2.1 ≠ (F_Md b).2.1 := by decide +kernel
theorem t_Md_ok : ∀ k, k < 21 → parseFieldDescriptor (F_Md k).2.2.1 = some (t_Md k) := by decide +kernel
def R_Lw : String := "RoundJournalLaw"
def R_Ma : String := "java/lang/Math"
abbrev b_Bl_init : ByteArray := prog_2_method_1_code
def y_Bl_init : MethodName := ⟨R_Bl, "<init>", "(I)V"⟩
abbrev b_Bl_has : ByteArray := prog_2_method_2_code
def y_Bl_has : MethodName := ⟨R_Bl, "has", "(II)Z"⟩
abbrev b_Bl_get : ByteArray := prog_2_method_3_code
def y_Bl_get : MethodName := ⟨R_Bl, "get", "(II)I"⟩
abbrev b_Bl_set : ByteArray := prog_2_method_4_code
def y_Bl_set : MethodName := ⟨R_Bl, "set", "(III)V"⟩
abbrev b_Bl_u32 : ByteArray := prog_2_method_5_code
def y_Bl_u32 : MethodName := ⟨R_Bl, "u32", "(II)I"⟩
abbrev b_Bl_setU32 : ByteArray := prog_2_method_6_code
def y_Bl_setU32 : MethodName := ⟨R_Bl, "setU32", "(III)V"⟩
abbrev b_Bl_clear : ByteArray := prog_2_method_7_code
def y_Bl_clear : MethodName := ⟨R_Bl, "clear", "(I)V"⟩
abbrev b_Bl_copyFrom : ByteArray := prog_2_method_8_code
def y_Bl_copyFrom : MethodName := ⟨R_Bl, "copyFrom", "(LRoundJournal$Blocks;III)V"⟩
abbrev b_Bl_checkOf : ByteArray := prog_2_method_9_code
def y_Bl_checkOf : MethodName := ⟨R_Bl, "checkOf", "(I)I"⟩
abbrev b_Bl_seal : ByteArray := prog_2_method_10_code
def y_Bl_seal : MethodName := ⟨R_Bl, "seal", "(I)V"⟩
abbrev b_Bl_isWhole : ByteArray := prog_2_method_11_code
def y_Bl_isWhole : MethodName := ⟨R_Bl, "isWhole", "(I)Z"⟩
abbrev b_Hd_init : ByteArray := prog_3_method_1_code
def y_Hd_init : MethodName := ⟨R_Hd, "<init>", "()V"⟩
abbrev b_Hd_placeOf : ByteArray := prog_3_method_2_code
def y_Hd_placeOf : MethodName := ⟨R_Hd, "placeOf", "(I)I"⟩
abbrev b_Hd_fill : ByteArray := prog_3_method_3_code
def y_Hd_fill : MethodName := ⟨R_Hd, "fill", "(LRoundJournal$Blocks;IIII)V"⟩
abbrev b_Hd_readFrom : ByteArray := prog_3_method_4_code
def y_Hd_readFrom : MethodName := ⟨R_Hd, "readFrom", "(LRoundJournal$Blocks;I)V"⟩
abbrev b_Hd_find : ByteArray := prog_3_method_5_code
def y_Hd_find : MethodName := ⟨R_Hd, "find", "(LRoundJournal$Blocks;)V"⟩
abbrev b_Hd_isGood : ByteArray := prog_3_method_6_code
def y_Hd_isGood : MethodName := ⟨R_Hd, "isGood", "(LRoundJournal$Blocks;I)Z"⟩
abbrev b_Pg_init : ByteArray := prog_4_method_1_code
def y_Pg_init : MethodName := ⟨R_Pg, "<init>", "()V"⟩
abbrev b_Pg_rowOf : ByteArray := prog_4_method_2_code
def y_Pg_rowOf : MethodName := ⟨R_Pg, "rowOf", "(I)I"⟩
abbrev b_Pg_placeOf : ByteArray := prog_4_method_3_code
def y_Pg_placeOf : MethodName := ⟨R_Pg, "placeOf", "(I)I"⟩
abbrev b_Pg_restart : ByteArray := prog_4_method_4_code
def y_Pg_restart : MethodName := ⟨R_Pg, "restart", "(I)V"⟩
abbrev b_Pg_openNext : ByteArray := prog_4_method_5_code
def y_Pg_openNext : MethodName := ⟨R_Pg, "openNext", "(I)V"⟩
abbrev b_Pg_takeNext : ByteArray := prog_4_method_6_code
def y_Pg_takeNext : MethodName := ⟨R_Pg, "takeNext", "(LRoundJournal$Blocks;I)I"⟩
abbrev b_Pg_coming : ByteArray := prog_4_method_7_code
def y_Pg_coming : MethodName := ⟨R_Pg, "coming", "()I"⟩
abbrev b_Pg_openCount : ByteArray := prog_4_method_8_code
def y_Pg_openCount : MethodName := ⟨R_Pg, "openCount", "()I"⟩
abbrev b_Pg_fits : ByteArray := prog_4_method_9_code
def y_Pg_fits : MethodName := ⟨R_Pg, "fits", "(I)Z"⟩
abbrev b_Pg_addRecord : ByteArray := prog_4_method_10_code
def y_Pg_addRecord : MethodName := ⟨R_Pg, "addRecord", "(ILRoundJournal$Tape;I)I"⟩
abbrev b_Pg_byteAt : ByteArray := prog_4_method_11_code
def y_Pg_byteAt : MethodName := ⟨R_Pg, "byteAt", "(II)I"⟩
abbrev b_Rc_init : ByteArray := prog_5_method_1_code
def y_Rc_init : MethodName := ⟨R_Rc, "<init>", "()V"⟩
abbrev b_Rc_restart : ByteArray := prog_5_method_2_code
def y_Rc_restart : MethodName := ⟨R_Rc, "restart", "(I)V"⟩
abbrev b_Rc_count : ByteArray := prog_5_method_3_code
def y_Rc_count : MethodName := ⟨R_Rc, "count", "()I"⟩
abbrev b_Rc_add : ByteArray := prog_5_method_4_code
def y_Rc_add : MethodName := ⟨R_Rc, "add", "(II)I"⟩
abbrev b_Rc_pageOf : ByteArray := prog_5_method_5_code
def y_Rc_pageOf : MethodName := ⟨R_Rc, "pageOf", "(I)I"⟩
abbrev b_Rc_startOf : ByteArray := prog_5_method_6_code
def y_Rc_startOf : MethodName := ⟨R_Rc, "startOf", "(I)I"⟩
abbrev b_Rc_slotOf : ByteArray := prog_5_method_7_code
def y_Rc_slotOf : MethodName := ⟨R_Rc, "slotOf", "(I)I"⟩
abbrev b_Tp_init : ByteArray := prog_6_method_1_code
def y_Tp_init : MethodName := ⟨R_Tp, "<init>", "()V"⟩
abbrev b_Tp_put : ByteArray := prog_6_method_2_code
def y_Tp_put : MethodName := ⟨R_Tp, "put", "(JI)Z"⟩
abbrev b_Tp_lift : ByteArray := prog_6_method_3_code
def y_Tp_lift : MethodName := ⟨R_Tp, "lift", "()I"⟩
abbrev b_Tp_byteAt : ByteArray := prog_6_method_4_code
def y_Tp_byteAt : MethodName := ⟨R_Tp, "byteAt", "(I)I"⟩
abbrev b_Wt_init : ByteArray := prog_7_method_1_code
def y_Wt_init : MethodName := ⟨R_Wt, "<init>", "()V"⟩
abbrev b_Wt_placeOf : ByteArray := prog_7_method_2_code
def y_Wt_placeOf : MethodName := ⟨R_Wt, "placeOf", "(I)I"⟩
abbrev b_Wt_addPage : ByteArray := prog_7_method_3_code
def y_Wt_addPage : MethodName := ⟨R_Wt, "addPage", "(ILRoundJournal$Blocks;I)V"⟩
abbrev b_Wt_addHead : ByteArray := prog_7_method_4_code
def y_Wt_addHead : MethodName := ⟨R_Wt, "addHead", "(III)V"⟩
abbrev b_RJ_init : ByteArray := prog_1_method_1_code
def y_RJ_init : MethodName := ⟨R_RJ, "<init>", "()V"⟩
abbrev b_RJ_type : ByteArray := prog_1_method_2_code
def y_RJ_type : MethodName := ⟨R_RJ, "type", "(JI)Z"⟩
abbrev b_RJ_append : ByteArray := prog_1_method_3_code
def y_RJ_append : MethodName := ⟨R_RJ, "append", "(I)I"⟩
abbrev b_RJ_sync : ByteArray := prog_1_method_4_code
def y_RJ_sync : MethodName := ⟨R_RJ, "sync", "()I"⟩
abbrev b_RJ_keep : ByteArray := prog_1_method_5_code
def y_RJ_keep : MethodName := ⟨R_RJ, "keep", "(I)Z"⟩
abbrev b_RJ_crash : ByteArray := prog_1_method_6_code
def y_RJ_crash : MethodName := ⟨R_RJ, "crash", "(II)I"⟩
abbrev b_RJ_spoil : ByteArray := prog_1_method_7_code
def y_RJ_spoil : MethodName := ⟨R_RJ, "spoil", "(III)Z"⟩
abbrev b_RJ_disk : ByteArray := prog_1_method_8_code
def y_RJ_disk : MethodName := ⟨R_RJ, "disk", "(II)I"⟩
abbrev b_RJ_record : ByteArray := prog_1_method_9_code
def y_RJ_record : MethodName := ⟨R_RJ, "record", "(II)I"⟩
abbrev b_RJ_write : ByteArray := prog_1_method_10_code
def y_RJ_write : MethodName := ⟨R_RJ, "write", "(II)I"⟩
abbrev b_RJ_total : ByteArray := prog_1_method_11_code
def y_RJ_total : MethodName := ⟨R_RJ, "total", "(I)I"⟩
abbrev b_RJ_makeRoom : ByteArray := prog_1_method_12_code
def y_RJ_makeRoom : MethodName := ⟨R_RJ, "makeRoom", "(I)Z"⟩
abbrev b_RJ_closeOpenPage : ByteArray := prog_1_method_13_code
def y_RJ_closeOpenPage : MethodName := ⟨R_RJ, "closeOpenPage", "()V"⟩
abbrev b_RJ_doWrites : ByteArray := prog_1_method_14_code
def y_RJ_doWrites : MethodName := ⟨R_RJ, "doWrites", "(I)V"⟩
abbrev b_RJ_findAgain : ByteArray := prog_1_method_15_code
def y_RJ_findAgain : MethodName := ⟨R_RJ, "findAgain", "()V"⟩
abbrev b_RJ_isNextPage : ByteArray := prog_1_method_16_code
def y_RJ_isNextPage : MethodName := ⟨R_RJ, "isNextPage", "(II)Z"⟩
abbrev b_RJ_hasGoodRecords : ByteArray := prog_1_method_17_code
def y_RJ_hasGoodRecords : MethodName := ⟨R_RJ, "hasGoodRecords", "(I)Z"⟩
abbrev b_RJ_takePage : ByteArray := prog_1_method_18_code
def y_RJ_takePage : MethodName := ⟨R_RJ, "takePage", "(I)I"⟩
abbrev b_RJ_isNumber : ByteArray := prog_1_method_19_code
def y_RJ_isNumber : MethodName := ⟨R_RJ, "isNumber", "(I)Z"⟩
abbrev b_Lw_append : ByteArray := method_3_code
def y_Lw_append : MethodName := ⟨R_Lw, "append", "(LRoundJournal;I[J)I"⟩
abbrev b_Lw_crash : ByteArray := method_4_code
def y_Lw_crash : MethodName := ⟨R_Lw, "crash", "(LRoundJournal;II[J)I"⟩
abbrev b_Lw_record : ByteArray := method_5_code
def y_Lw_record : MethodName := ⟨R_Lw, "record", "(LRoundJournal;II[J)I"⟩
abbrev b_Lw_write : ByteArray := method_6_code
def y_Lw_write : MethodName := ⟨R_Lw, "write", "(LRoundJournal;II[J)I"⟩
abbrev b_Re_init : ByteArray := prog_10_method_1_code
def y_Re_init : MethodName := ⟨R_Re, "<init>", "(III[I)V"⟩
abbrev b_Md_init : ByteArray := prog_9_method_1_code
def y_Md_init : MethodName := ⟨R_Md, "<init>", "()V"⟩
abbrev b_Md_thrown : ByteArray := prog_9_method_2_code
def y_Md_thrown : MethodName := ⟨R_Md, "thrown", "()I"⟩
abbrev b_Md_check : ByteArray := prog_9_method_3_code
def y_Md_check : MethodName := ⟨R_Md, "check", "([II)I"⟩
abbrev b_Md_word : ByteArray := prog_9_method_4_code
def y_Md_word : MethodName := ⟨R_Md, "word", "([II)I"⟩
abbrev b_Md_putWord : ByteArray := prog_9_method_5_code
def y_Md_putWord : MethodName := ⟨R_Md, "putWord", "(II)V"⟩
abbrev b_Md_waits : ByteArray := prog_9_method_6_code
def y_Md_waits : MethodName := ⟨R_Md, "waits", "(I)I"⟩
abbrev b_Md_waitHead : ByteArray := prog_9_method_7_code
def y_Md_waitHead : MethodName := ⟨R_Md, "waitHead", "()V"⟩
abbrev b_Md_nextPlace : ByteArray := prog_9_method_8_code
def y_Md_nextPlace : MethodName := ⟨R_Md, "nextPlace", "()I"⟩
abbrev b_Md_close : ByteArray := prog_9_method_9_code
def y_Md_close : MethodName := ⟨R_Md, "close", "()V"⟩
abbrev b_Md_forget : ByteArray := prog_9_method_10_code
def y_Md_forget : MethodName := ⟨R_Md, "forget", "()V"⟩
abbrev b_Md_type : ByteArray := prog_9_method_11_code
def y_Md_type : MethodName := ⟨R_Md, "type", "(JI)Z"⟩
abbrev b_Md_add : ByteArray := prog_9_method_12_code
def y_Md_add : MethodName := ⟨R_Md, "add", "(LRoundJournalModel$Record;)V"⟩
abbrev b_Md_append : ByteArray := prog_9_method_13_code
def y_Md_append : MethodName := ⟨R_Md, "append", "(I)I"⟩
abbrev b_Md_comesFirst : ByteArray := prog_9_method_14_code
def y_Md_comesFirst : MethodName := ⟨R_Md, "comesFirst", "(I)V"⟩
abbrev b_Md_doFirst : ByteArray := prog_9_method_15_code
def y_Md_doFirst : MethodName := ⟨R_Md, "doFirst", "()V"⟩
abbrev b_Md_sync : ByteArray := prog_9_method_16_code
def y_Md_sync : MethodName := ⟨R_Md, "sync", "()I"⟩
abbrev b_Md_keep : ByteArray := prog_9_method_17_code
def y_Md_keep : MethodName := ⟨R_Md, "keep", "(I)Z"⟩
abbrev b_Md_isWhole : ByteArray := prog_9_method_18_code
def y_Md_isWhole : MethodName := ⟨R_Md, "isWhole", "(I)Z"⟩
abbrev b_Md_isNumber : ByteArray := prog_9_method_19_code
def y_Md_isNumber : MethodName := ⟨R_Md, "isNumber", "(I)Z"⟩
abbrev b_Md_isHead : ByteArray := prog_9_method_20_code
def y_Md_isHead : MethodName := ⟨R_Md, "isHead", "(I)Z"⟩
abbrev b_Md_findHead : ByteArray := prog_9_method_21_code
def y_Md_findHead : MethodName := ⟨R_Md, "findHead", "()V"⟩
abbrev b_Md_hasRecords : ByteArray := prog_9_method_22_code
def y_Md_hasRecords : MethodName := ⟨R_Md, "hasRecords", "(I)Z"⟩
abbrev b_Md_findRecords : ByteArray := prog_9_method_23_code
def y_Md_findRecords : MethodName := ⟨R_Md, "findRecords", "(II)V"⟩
abbrev b_Md_find : ByteArray := prog_9_method_24_code
def y_Md_find : MethodName := ⟨R_Md, "find", "()V"⟩
abbrev b_Md_crash : ByteArray := prog_9_method_25_code
def y_Md_crash : MethodName := ⟨R_Md, "crash", "(II)I"⟩
abbrev b_Md_spoil : ByteArray := prog_9_method_26_code
def y_Md_spoil : MethodName := ⟨R_Md, "spoil", "(III)Z"⟩
abbrev b_Md_disk : ByteArray := prog_9_method_27_code
def y_Md_disk : MethodName := ⟨R_Md, "disk", "(II)I"⟩
abbrev b_Md_at : ByteArray := prog_9_method_28_code
def y_Md_at : MethodName := ⟨R_Md, "at", "(I)LRoundJournalModel$Record;"⟩
abbrev b_Md_record : ByteArray := prog_9_method_29_code
def y_Md_record : MethodName := ⟨R_Md, "record", "(II)I"⟩
abbrev b_Md_write : ByteArray := prog_9_method_30_code
def y_Md_write : MethodName := ⟨R_Md, "write", "(II)I"⟩
abbrev b_Md_total : ByteArray := prog_9_method_31_code
def y_Md_total : MethodName := ⟨R_Md, "total", "(I)I"⟩
abbrev b_Ma_floorMod : ByteArray := prog_14_method_50_code
def y_Ma_floorMod : MethodName := ⟨R_Ma, "floorMod", "(II)I"⟩
abbrev classes : List vw_C := [(R_Bl, F_Bl, 2), (R_Hd, F_Hd, 3), (R_Pg, F_Pg, 4), (R_Rc, F_Rc, 4), (R_Tp, F_Tp, 2), (R_Wt, F_Wt, 3), (R_RJ, F_RJ, 9), (R_Re, F_Re, 5), (R_Md, F_Md, 21)]
/-- the good words of the tables: every method has them beside its own code -/
def gw : List Cond := lw_tbl.filter goodWord
theorem gw_in {w : Cond} {i : Nat} (h : lw_tbl[i]? = some w) (hg : goodWord w = true) : w ∈ gw := List.mem_filter.mpr ⟨List.mem_of_getElem? h, hg⟩
theorem gw_tbl {w : Cond} (h : w ∈ gw) : w ∈ lw_tbl := (List.mem_filter.mp h).1
theorem gw_all {ws : List Cond} (h : ws.all (fun w => decide (w ∈ lw_tbl) && goodWord w) = true) : ∀ w ∈ ws, w ∈ gw := fun w hw => by
  have h1 := List.all_eq_true.mp h w hw
  simp only [Bool.and_eq_true, decide_eq_true_eq] at h1
  exact List.mem_filter.mpr h1
set_option maxRecDepth 20000 in
theorem gu_Bl : ∀ w ∈ w_Bl, w ∈ gw := gw_all (by decide +kernel)
set_option maxRecDepth 20000 in
theorem gu_Hd : ∀ w ∈ w_Hd, w ∈ gw := gw_all (by decide +kernel)
set_option maxRecDepth 20000 in
theorem gu_Pg : ∀ w ∈ w_Pg, w ∈ gw := gw_all (by decide +kernel)
set_option maxRecDepth 20000 in
theorem gu_Rc : ∀ w ∈ w_Rc, w ∈ gw := gw_all (by decide +kernel)
set_option maxRecDepth 20000 in
theorem gu_Tp : ∀ w ∈ w_Tp, w ∈ gw := gw_all (by decide +kernel)
set_option maxRecDepth 20000 in
theorem gu_Wt : ∀ w ∈ w_Wt, w ∈ gw := gw_all (by decide +kernel)
set_option maxRecDepth 20000 in
theorem gu_RJ : ∀ w ∈ w_RJ, w ∈ gw := gw_all (by decide +kernel)
set_option maxRecDepth 20000 in
theorem gu_Re : ∀ w ∈ w_Re, w ∈ gw := gw_all (by decide +kernel)
set_option maxRecDepth 20000 in
theorem gu_Md : ∀ w ∈ w_Md, w ∈ gw := gw_all (by decide +kernel)
