/-! keep, by both -/
section
variable {nD nT nB nW nO : Nat} {D TP bk W oo : Nat → Int32} {tl kp nx cm cr th op fo om ob np tu od wt : Int32}
theorem p_wh {vs : List NV} {k : Nat} {y1 w0 : Int32} {bk0 W0 oo0 : Nat → Int32} (hk : kp = Int32.ofNat k) (hk2 : k < 2147483648) : ∀ {l : List Ent} {b0 lo n : Nat} {x : Int32}, sq b0 lo l n → n < 2147483648 →
      (b0 ≤ k → k < n → ∃ e ∈ l, en e = k ∧ (∀ f ∈ l, k ≤ en f → ep e ≤ ep f) ∧ f_Md_waitHead_L21 vs nD D nT TP tl kp nx cm cr th op fo om ob np tu od nB bk nW W nO oo wt y1 bk0 W0 oo0 w0 (l.map nv) x = f_Md_waitHead_L21 vs nD D nT TP tl kp nx cm cr th op fo om ob np tu od nB bk nW W nO oo wt y1 bk0 W0 oo0 w0 [] (Int32.ofNat (ep e))) ∧
      (k < b0 ∨ n ≤ k → f_Md_waitHead_L21 vs nD D nT TP tl kp nx cm cr th op fo om ob np tu od nB bk nW W nO oo wt y1 bk0 W0 oo0 w0 (l.map nv) x = f_Md_waitHead_L21 vs nD D nT TP tl kp nx cm cr th op fo om ob np tu od nB bk nW W nO oo wt y1 bk0 W0 oo0 w0 [] x)
  | [], b0, lo, n, x, h, _ => by
    have h1 : b0 = n := h
    exact ⟨fun z1 z2 => by omega, fun _ => rfl⟩
  | e :: t, b0, lo, n, x, h, hn => by
    have h1 := h.1
    have h2 := sq_len h.2.2
    rw [List.map_cons, f_Md_waitHead_L21.eq_2, show (nv e).1 = Int32.ofNat (en e) from rfl, show (nv e).2.2.1 = Int32.ofNat (ep e) from rfl, hk, pi_eq (by omega) hk2, ← hk]
    by_cases c1 : en e = k
    · rw [if_pos c1]
      obtain ⟨-, g2⟩ := p_wh (vs := vs) (y1 := y1) (w0 := w0) (bk0 := bk0) (W0 := W0) (oo0 := oo0) hk hk2 (x := Int32.ofNat (ep e)) h.2.2 hn
      refine ⟨fun _ _ => ⟨e, List.mem_cons_self .., c1, fun f hf hf2 => ?_, g2 (by omega)⟩, fun z => by omega⟩
      rcases List.mem_cons.mp hf with rfl | hf
      · exact Nat.le_refl _
      · exact (sq_mem h.2.2 hf).2.2
    · rw [if_neg c1]
      obtain ⟨g1, g2⟩ := p_wh (vs := vs) (y1 := y1) (w0 := w0) (bk0 := bk0) (W0 := W0) (oo0 := oo0) hk hk2 (x := x) h.2.2 hn
      refine ⟨fun z1 z2 => ?_, fun z => g2 (by omega)⟩
      obtain ⟨e1, k1, k2, k3, k4⟩ := g1 (by omega) z2
      refine ⟨e1, List.mem_cons_of_mem _ k1, k2, fun f hf hf2 => ?_, k4⟩
      rcases List.mem_cons.mp hf with rfl | hf
      · omega
      · exact k3 f hf hf2
end
section
variable {BD BW pA BR pb sb BT D TP bk W oo : Nat → Int32} {K N P O b m T old w c r l : Nat} {uS fo ht hk th : Int32} {es : List Ent} {rem : Nat}
theorem o_keep (h : SX BD BW pA BR pb sb BT D TP bk W oo K N P O b m T old w c r l uS fo es (rem + 1)) (x : Int32) : ∃ (a : Int32) (BW' pA' bk' W' oo' : Nat → Int32) (K' T' w' : Nat) (es' : List Ent), f_RJ_keep 32 2048 BD 41 2624 BW 41 pA (Int32.ofNat w) 30 1920 BR (Int32.ofNat O) uS (Int32.ofNat P) 750 pb 750 sb (Int32.ofNat K) (Int32.ofNat N) ht (Int32.ofNat old) hk 40 BT (Int32.ofNat l) (Int32.ofNat T) (Int32.ofNat c) (Int32.ofNat r) x = some (a, BW', pA', Int32.ofNat w', Int32.ofNat K', Int32.ofNat T') ∧ f_Md_keep (es.map nv) 2048 D 40 TP (Int32.ofNat l) (Int32.ofNat K) (Int32.ofNat N) (Int32.ofNat c) (Int32.ofNat r) th (Int32.ofNat O) fo (Int32.ofNat m) (Int32.ofNat b) (Int32.ofNat P) (Int32.ofNat T) (Int32.ofNat old) 41 bk 2624 W 41 oo (Int32.ofNat w) x = some (a, Int32.ofNat K', 0, Int32.ofNat T', bk', W', oo', Int32.ofNat w', es'.map nv) ∧
      SX BD BW' pA' BR pb sb BT D TP bk' W' oo' K' N P O b m T' old w' c r l uS fo es' rem := by
  have h0 := h.less (Nat.le_succ rem)
  obtain ⟨ud, uw, ur, ut, pl, ol, ⟨a1, a2, a3, a4, a5, a6, a7, a8, a9, a10, a11, a12⟩, h2, h3, h4, h5, h6, h7⟩ := h
  have hpp : pgc O P ≤ P := by unfold pgc; split <;> omega
  unfold f_RJ_keep f_Md_keep
  by_cases c1 : x ≤ Int32.ofNat K
  · rw [if_pos c1, if_pos c1]; exact ⟨0, BW, pA, bk, W, oo, K, T, w, es, rfl, rfl, h0⟩
  rw [if_neg c1, if_neg c1]
  by_cases c2 : Int32.ofNat N < x
  · rw [if_pos c2, if_pos c2]; exact ⟨0, BW, pA, bk, W, oo, K, T, w, es, rfl, rfl, h0⟩
  rw [if_neg c2, if_neg c2]
  by_cases c3 : Int32.ofNat w < 40
  rotate_left
  · rw [if_neg c3, if_neg c3]; exact ⟨0, BW, pA, bk, W, oo, K, T, w, es, rfl, rfl, h0⟩
  rw [if_pos c3, if_pos c3]
  have c0 : ¬ x < 0 := fun z => pn_neg (show K < 2147483648 by omega) (Int32.lt_trans (Int32.not_le.mp c1) z)
  obtain ⟨k, hk, rfl⟩ := pn_ge c0
  rw [pn_le (by omega) (by omega)] at c1
  rw [pn_lt (by omega) (by omega)] at c2
  rw [nl_40, pn_lt (by omega) (by omega)] at c3
  have hT : Int32.ofNat T + 1 = Int32.ofNat (T + 1) := by rw [nl_1, pn_add]
  rw [hT]
  obtain ⟨⟨base, lo, hbase, hsq⟩, hE⟩ := h7
  -- the oldest PAGE that the HEAD tells
  have hq : ∃ q : Nat, 1 ≤ q ∧ q ≤ pgc O P ∧ (∀ f ∈ es, k ≤ en f → q ≤ ep f) ∧ (if Int32.ofNat N ≤ Int32.ofNat k then (f_Pg_coming 30 1920 BR (Int32.ofNat O) uS (Int32.ofNat P)) else f_Rc_pageOf 750 pb 750 sb (Int32.ofNat K) (Int32.ofNat N) (Int32.ofNat k)) = some (Int32.ofNat q) ∧
      ∀ (vs : List NV) (y1 w0 : Int32) (bk0 W0 oo0 : Nat → Int32), f_Md_waitHead_L21 vs 2048 D 40 TP (Int32.ofNat l) (Int32.ofNat k) (Int32.ofNat N) (Int32.ofNat c) (Int32.ofNat r) 0 (Int32.ofNat O) fo (Int32.ofNat m) (Int32.ofNat b) (Int32.ofNat P) (Int32.ofNat (T + 1)) (Int32.ofNat old) 41 bk 2624 W 41 oo (Int32.ofNat w) y1 bk0 W0 oo0 w0 (es.map nv) (Int32.ofNat (pgc O P)) = f_Md_waitHead_L21 vs 2048 D 40 TP (Int32.ofNat l) (Int32.ofNat k) (Int32.ofNat N) (Int32.ofNat c) (Int32.ofNat r) 0 (Int32.ofNat O) fo (Int32.ofNat m) (Int32.ofNat b) (Int32.ofNat P) (Int32.ofNat (T + 1)) (Int32.ofNat old) 41 bk 2624 W 41 oo (Int32.ofNat w) y1 bk0 W0 oo0 w0 [] (Int32.ofNat q) := by
    have hw := fun (vs : List NV) (y1 w0 : Int32) (bk0 W0 oo0 : Nat → Int32) => p_wh (nD := 2048) (D := D) (nT := 40) (TP := TP) (tl := Int32.ofNat l) (kp := Int32.ofNat k) (nx := Int32.ofNat N) (cm := Int32.ofNat c) (cr := Int32.ofNat r) (th := 0) (op := Int32.ofNat O) (fo := fo) (om := Int32.ofNat m) (ob := Int32.ofNat b) (np := Int32.ofNat P) (tu := Int32.ofNat (T + 1)) (od := Int32.ofNat old) (nB := 41) (bk := bk) (nW := 2624) (W := W) (nO := 41) (oo := oo) (wt := Int32.ofNat w) (vs := vs) (y1 := y1) (w0 := w0) (bk0 := bk0) (W0 := W0) (oo0 := oo0) (x := Int32.ofNat (pgc O P)) (k := k) rfl (by omega) hsq (by omega)
    rw [pi_le (by omega) (by omega)]
    by_cases d1 : N ≤ k
    · refine ⟨pgc O P, by omega, Nat.le_refl _, fun f hf hf2 => ?_, ?_, fun vs y1 w0 bk0 W0 oo0 => (hw vs y1 w0 bk0 W0 oo0).2 (by omega)⟩
      · have := (sq_mem hsq hf).2.1; omega
      · rw [if_pos d1]
        unfold f_Pg_coming pgc
        rw [pn_zero, pi_eq (by omega) (by omega)]
        split <;> rfl
    · obtain ⟨e, he, e1, e2, -⟩ := (hw [] 0 0 D D D).1 (by omega) (by omega)
      obtain ⟨⟨f1, f2, f3, f4, f5, f6, f7, f8⟩, g1, g2⟩ := hE e he
      obtain ⟨⟨k1, k2⟩, -⟩ := g1 (by omega)
      refine ⟨ep e, f3, ?_, e2, ?_, fun vs y1 w0 bk0 W0 oo0 => ?_⟩
      · unfold pgc
        by_cases d2 : O = 0
        · rw [if_pos d2]; omega
        · rw [if_neg d2]
          have := (h6.2 (by omega)).1; omega
      · rw [if_neg d1, pc_pageOf (by omega), ← e1, k1]
      · obtain ⟨e', he', e1', e2', e3'⟩ := (hw vs y1 w0 bk0 W0 oo0).1 (by omega) (by omega)
        rw [e3', show ep e' = ep e from Nat.le_antisymm (e2' e he (by omega)) (e2 e' he' (by omega))]
  obtain ⟨q, q1, q2, q3, eq1, eq2⟩ := hq
  obtain ⟨B', e1, hB'⟩ := w_fill h4.1 (show w < 41 by omega) (Int32.ofNat (T + 1)) (Int32.ofNat q) (Int32.ofNat k)
  have hhead : f_Wt_addHead 41 2624 BW 41 pA (Int32.ofNat w) (Int32.ofNat (T + 1)) (Int32.ofNat q) (Int32.ofNat k) = some (B', upd pA w (Int32.ofNat ((T + 1) % 2)), Int32.ofNat (w + 1)) := by
    unfold f_Wt_addHead f_Hd_placeOf
    rw [pi_le (by omega) (by omega), if_neg (by omega), pn_and1 (by omega), Option.bind_some, pn_ck (by omega) (by omega), pn_nat (by omega), e1, Option.bind_some, nl_1, pn_add]
  have hbd : ∀ e ∈ es, en e < 2147483648 ∧ ep e < 2147483648 := fun e he => by
    have z1 := (sq_mem hsq he).2.1
    have z2 := (hE e he).1.2.2.2.1
    omega
  have hmod : Int32.ofNat (T + 1) - Int32.ofNat (T + 1) / (2 : Int32) * (2 : Int32) = Int32.ofNat ((T + 1) % 2) := by rw [nl_2, pn_mod (by omega) (by omega)]
  have hnp : ∀ {bk0 W0 oo0 : Nat → Int32} {w0 : Int32}, f_Md_nextPlace 2048 D 40 TP (Int32.ofNat l) (Int32.ofNat k) (Int32.ofNat N) (Int32.ofNat c) (Int32.ofNat r) 0 (Int32.ofNat O) fo (Int32.ofNat m) (Int32.ofNat b) (Int32.ofNat P) (Int32.ofNat (T + 1)) (Int32.ofNat old) 41 bk0 2624 W0 41 oo0 w0 = some (Int32.ofNat (pgc O P)) := by
    intro bk0 W0 oo0 w0
    unfold f_Md_nextPlace pgc
    rw [pi_le0 (by omega)]
    split <;> rfl
  have hwt : f_Md_waitHead (es.map nv) 2048 D 40 TP (Int32.ofNat l) (Int32.ofNat k) (Int32.ofNat N) (Int32.ofNat c) (Int32.ofNat r) 0 (Int32.ofNat O) fo (Int32.ofNat m) (Int32.ofNat b) (Int32.ofNat P) (Int32.ofNat (T + 1)) (Int32.ofNat old) 41 bk 2624 W 41 oo (Int32.ofNat w) = some (upd bk w (Int32.ofNat ((T + 1) % 2)), hdw W (64 * w) (Int32.ofNat (T + 1)) (Int32.ofNat q) (Int32.ofNat k), upd oo w (Int32.ofNat q), Int32.ofNat (w + 1)) := by
    unfold f_Md_waitHead
    rw [hmod, pm_waits (by omega), Option.bind_some]
    simp only []
    rw [hnp, Option.bind_some, eq2, f_Md_waitHead_L21.eq_1, pm_put (by omega) (by omega), Option.bind_some, nl_4, pn_add, pm_put (by omega) (by omega), Option.bind_some, nl_8, pn_add, pm_put (by omega) (by omega), Option.bind_some, pm_check (by omega) (by omega), Option.bind_some, nl_60, pn_add, pm_put (by omega) (by omega), Option.bind_some, nl_1, pn_sub (by omega), Nat.add_sub_cancel, pn_ck (by omega) (by omega), pn_nat (by omega)]
    have : upd (upd oo w 0) w (Int32.ofNat q) = upd oo w (Int32.ofNat q) := funext fun j => by
      unfold upd
      by_cases z : j = w
      · rw [if_pos z, if_pos z]
      · rw [if_neg z, if_neg z, if_neg z]
    rw [this]
    rfl
  refine ⟨1, B', upd pA w (Int32.ofNat ((T + 1) % 2)), upd bk w (Int32.ofNat ((T + 1) % 2)), hdw W (64 * w) (Int32.ofNat (T + 1)) (Int32.ofNat q) (Int32.ofNat k), upd oo w (Int32.ofNat q), k, T + 1, w + 1, fg k O es, ?_, ?_, ud, hdw uw (64 * w) (Int32.ofNat (T + 1)) (Int32.ofNat q) (Int32.ofNat k), ur, ut, (fun i => if i = w then (T + 1) % 2 else pl i), (fun i => if i = w then q else ol i), ⟨by omega, by omega, by omega, a4, a5, by omega, by omega, by omega, a9, a10, a11, a12⟩, h2, h3, ⟨hB', fun i hi => ?_, fun j hj => ?_⟩, h5, ⟨h6.1, fun z => ?_⟩, fg_sq (by omega) hsq, fun e he => ?_⟩
  · by_cases d1 : Int32.ofNat N ≤ Int32.ofNat k
    · rw [if_pos d1] at eq1 ⊢
      rw [eq1, Option.bind_some, hhead, Option.bind_some]
    · rw [if_neg d1] at eq1 ⊢
      rw [eq1, Option.bind_some, hhead, Option.bind_some]
  · rw [hwt, Option.bind_some]
    unfold f_Md_forget
    rw [p_forget (K := k) (O := O) (by omega) (by omega) rfl rfl hbd, Option.bind_some]
  · unfold sWt
    dsimp only
    by_cases d1 : i = w
    · subst d1
      refine ⟨by rw [upd, if_pos rfl, if_pos rfl], by rw [upd, if_pos rfl, if_pos rfl], by rw [if_pos rfl]; omega, by rw [upd, if_pos rfl, if_pos rfl], by rw [if_pos rfl]; exact q2, fun _ => ?_, fun z => by rw [if_pos rfl] at z; omega⟩
      rw [if_pos rfl, hdw_old]
      exact ⟨q1, rfl⟩
    · obtain ⟨f1, f2, f3, f4, f5, f6, f7⟩ := h4.2.1 i (by omega)
      refine ⟨by rw [upd, if_neg d1, if_neg d1, f1], by rw [upd, if_neg d1, if_neg d1, f2], by rw [if_neg d1]; exact f3, by rw [upd, if_neg d1, if_neg d1, f4], by rw [if_neg d1]; exact f5, fun z => ?_, fun z => by rw [if_neg d1] at z ⊢; exact f7 z⟩
      rw [if_neg d1] at z ⊢
      refine ⟨(f6 z).1, ?_⟩
      rw [← (f6 z).2]
      exact w32_congr fun j hj => hdw_out (by omega)
  · by_cases d1 : 64 * w ≤ j
    · obtain ⟨i, rfl⟩ : ∃ i, j = 64 * w + i := ⟨j - 64 * w, by omega⟩
      exact hdw_same i (by omega)
    · rw [hdw_out (by omega), hdw_out (by omega)]
      exact h4.2.2 j (by omega)
  · obtain ⟨z1, z2, z3, z4, z5, z6, z7⟩ := h6.2 z
    exact ⟨z1, z2, z3, z4, z5, z6, fg_lay z7⟩
  · obtain ⟨f1, g1, g2⟩ := hE e (fg_mem he)
    refine ⟨f1, fun z => ?_, fun z => g2 (z.elim (fun z => Or.inl (by omega)) Or.inr)⟩
    obtain ⟨k1, k2, k3, k4⟩ := g1 (by omega)
    refine ⟨k1, k2, fun i hi => ?_, k4⟩
    show (if i = w then q else ol i) ≤ ep e
    by_cases d1 : i = w
    · rw [if_pos d1]; exact q3 e (fg_mem he) z
    · rw [if_neg d1]; exact k3 i (by omega)
end
