/-! THE OPEN PAGE IS CLOSED, by both -/
def fg (K O : Nat) : List Ent → List Ent
  | [] => []
  | e :: t => if K ≤ en e ∨ ep e = O then e :: t else fg K O t
theorem fg_mem {K O : Nat} {e : Ent} : ∀ {l : List Ent}, e ∈ fg K O l → e ∈ l
  | [], h => by cases h
  | x :: t, h => by
    unfold fg at h
    by_cases c1 : K ≤ en x ∨ ep x = O
    · rw [if_pos c1] at h; exact h
    · rw [if_neg c1] at h; exact List.mem_cons_of_mem _ (fg_mem h)
theorem fg_sq {K O n : Nat} : ∀ {l : List Ent} {b lo : Nat}, b ≤ K → sq b lo l n → ∃ b' lo', b' ≤ K ∧ sq b' lo' (fg K O l) n
  | [], b, lo, hb, h => ⟨b, lo, hb, h⟩
  | x :: t, b, lo, hb, h => by
    unfold fg
    by_cases c1 : K ≤ en x ∨ ep x = O
    · rw [if_pos c1]; exact ⟨b, lo, hb, h⟩
    · rw [if_neg c1]
      have h1 := h.1
      exact fg_sq (by omega) h.2.2
theorem fg_lay {K O u : Nat} : ∀ {l : List Ent} {k : Nat}, lay O k l u → lay O k (fg K O l) u
  | [], k, h => h
  | x :: t, k, h => by
    unfold fg
    by_cases c1 : K ≤ en x ∨ ep x = O
    · rw [if_pos c1]; exact h
    · rw [if_neg c1]
      rcases h with h | h
      · exact absurd (Or.inr h.1) c1
      · exact fg_lay h.2
theorem rowb_put {ur : Nat → Int32} {r : Nat} {v : Int32} {e : Ent} (h : rowb ur e) (h1 : eo e + 2 + el e ≤ 60) : rowb (put32 ur (64 * r + 60) v) e := by
  obtain ⟨a1, a2, a3⟩ := h
  refine ⟨?_, ?_, fun j hj => ?_⟩
  · rw [put32_out (by omega), a1]
  · rw [put32_out (by omega), a2]
  · rw [put32_out (by omega), a3 j hj]
section
variable {nD nT nB nW nO : Nat} {D TP bk W oo : Nat → Int32} {tl kp nx cm cr th op fo om ob np tu od wt : Int32}
theorem p_forget {vs : List NV} {K O : Nat} (hK : K < 2147483648) (hO : O < 2147483648) (hk : kp = Int32.ofNat K) (ho : op = Int32.ofNat O) : ∀ {l : List Ent}, (∀ e ∈ l, en e < 2147483648 ∧ ep e < 2147483648) → f_Md_forget_L0 vs nD D nT TP tl kp nx cm cr th op fo om ob np tu od nB bk nW W nO oo wt (l.map nv) = some ((fg K O l).map nv)
  | [], _ => rfl
  | e :: t, h => by
    have he := h e (List.mem_cons_self ..)
    rw [List.map_cons, f_Md_forget_L0.eq_2, show (nv e).1 = Int32.ofNat (en e) from rfl, show (nv e).2.2.1 = Int32.ofNat (ep e) from rfl, hk, ho, pi_le hK he.1, pi_eq he.2 hO, ← hk, ← ho, p_forget hK hO hk ho (fun x hx => h x (List.mem_cons_of_mem _ hx))]
    rw [fg.eq_2]
    by_cases c1 : K ≤ en e
    · rw [if_pos c1, if_pos (Or.inl c1)]; rfl
    · rw [if_neg c1]
      by_cases c2 : ep e = O
      · rw [if_pos c2, if_pos (Or.inr c2)]; rfl
      · rw [if_neg c2, if_neg (fun z => z.elim c1 c2)]
theorem p_close2 {vs : List NV} {v : NV} {q L : Nat} {G : Nat → Int32} (hv : v.2.2.2.1 = L) (hG : v.2.2.2.2 = G) (hL : L ≤ 40) (hq : q + L ≤ 2624) {y1 o1 m1 b1 w1 : Int32} {bk1 oo1 : Nat → Int32} {k9 : (Nat → Int32) → Int32 → Option (Int32 × Int32 × Int32 × (Nat → Int32) × (Nat → Int32) × (Nat → Int32) × Int32 × List NV)} :
    ∀ (n i : Nat) (X : Nat → Int32), i ≤ L → L < i + n → f_Md_close_L103 vs nD D nT TP tl kp nx cm cr th op fo om ob np tu od nB bk 2624 W nO oo wt y1 (Int32.ofNat q) o1 m1 b1 bk1 oo1 w1 v k9 n X (Int32.ofNat i) = k9 (cpy X G (q + i) i (L - i)) (Int32.ofNat L) := by
  intro n
  induction n with
  | zero => intro i X h1 h2; omega
  | succ n ih =>
    intro i X h1 h2
    rw [f_Md_close_L103.eq_2, hv, hG, pi_le (by omega) (by omega)]
    by_cases c1 : L ≤ i
    · have e1 : i = L := by omega
      rw [if_pos c1, e1, Nat.sub_self, show cpy X G (q + L) L 0 = X from funext fun j => by unfold cpy; rw [if_neg (by omega)]]
    · rw [if_neg c1, pn_ck (by omega) (by omega), pn_add, pn_ck (by omega) (by omega), pn_nat (by omega), pn_nat (by omega), nl_1, pn_add, ih (i + 1) _ (by omega) (by omega), ← Nat.add_assoc, cpy_step, show L - (i + 1) + 1 = L - i by omega]
theorem p_close1 {vs : List NV} {ur : Nat → Int32} {w r O U : Nat} (hw : w < 41) (hO : O < 2147483648) (hr : r = rw30 O) {o1 m1 b1 w1 : Int32} {bk1 oo1 W0 : Nat → Int32} (ho : o1 = Int32.ofNat O) :
    ∀ (t : List Ent) (k : Nat) (X : Nat → Int32), lay O k t U → k ≤ 60 → (∀ e ∈ t, (ep e = O → rowb ur e) ∧ eo e + 2 + el e ≤ 60 ∧ el e ≤ 40 ∧ ep e < 2147483648) → (∀ j, j < k → X (64 * w + j) = ur (64 * r + j)) → (∀ j, k ≤ j → j < 64 → X (64 * w + j) = 0) → (∀ j, j < 64 * w → X j = W0 j) →
    ∃ X', U ≤ 60 ∧ (∀ j, j < U → X' (64 * w + j) = ur (64 * r + j)) ∧ (∀ j, U ≤ j → j < 64 → X' (64 * w + j) = 0) ∧ (∀ j, j < 64 * w → X' j = W0 j) ∧
      f_Md_close_L59 vs nD D nT TP tl kp nx cm cr th op fo om ob np tu od nB bk 2624 W nO oo wt (Int32.ofNat (64 * w)) o1 m1 b1 bk1 oo1 w1 (t.map nv) X (Int32.ofNat (64 * w + k)) = f_Md_close_L59 vs nD D nT TP tl kp nx cm cr th op fo om ob np tu od nB bk 2624 W nO oo wt (Int32.ofNat (64 * w)) o1 m1 b1 bk1 oo1 w1 [] X' (Int32.ofNat (64 * w + U)) := by
  intro t
  induction t with
  | nil =>
    intro k X hl hk he h1 h2 h3
    have hl : k = U := hl
    subst hl
    exact ⟨X, hk, h1, h2, h3, rfl⟩
  | cons e t ih =>
    intro k X hl hk he h1 h2 h3
    obtain ⟨f1, f2, f3, f4⟩ := he e (List.mem_cons_self ..)
    have he2 := fun x hx => he x (List.mem_cons_of_mem _ hx)
    rw [List.map_cons, f_Md_close_L59.eq_2, show (nv e).2.2.1 = Int32.ofNat (ep e) from rfl, show (nv e).2.1 = Int32.ofNat (ek e) from rfl, show (nv e).2.2.2.1 = el e from rfl, ho, pi_eq f4 hO]
    rcases hl with ⟨c1, c2, hl⟩ | ⟨c1, hl⟩
    · subst hr
      obtain ⟨r1, r2, r3⟩ := f1 c1
      rw [c1, c2] at r1 r2 r3
      rw [if_pos c1, pn_ck (by omega) (by omega), nl_1, pn_add, pn_ck (by omega) (by omega), pn_nat (by omega), pn_nat (by omega), nl_2, pn_add, pn_zero, p_close2 (v := nv e) (L := el e) (G := eb e) rfl rfl f3 (by omega) 5000 0 _ (by omega) (by omega), pn_add]
      have := ih (k + 2 + el e) (cpy (upd (upd X (64 * w + k) (Int32.ofNat (ek e))) (64 * w + k + 1) (Int32.ofNat (el e))) (eb e) (64 * w + k + 2 + 0) 0 (el e - 0)) hl (by omega) he2 (fun j hj => by
        unfold cpy upd
        by_cases d1 : 64 * w + k + 2 + 0 ≤ 64 * w + j ∧ 64 * w + j < 64 * w + k + 2 + 0 + (el e - 0)
        · rw [if_pos d1, show 64 * rw30 O + j = 64 * rw30 O + k + 2 + (j - k - 2) by omega, r3 (j - k - 2) (by omega)]
          congr 1; omega
        · rw [if_neg d1]
          by_cases d2 : 64 * w + j = 64 * w + k + 1
          · rw [if_pos d2, ← r2]; congr 1; omega
          · rw [if_neg d2]
            by_cases d3 : 64 * w + j = 64 * w + k
            · rw [if_pos d3, ← r1]; congr 1; omega
            · rw [if_neg d3]; exact h1 j (by omega)) (fun j hj hj2 => by
        unfold cpy upd
        rw [if_neg (by omega), if_neg (by omega), if_neg (by omega)]
        exact h2 j (by omega) hj2) (fun j hj => by
        unfold cpy upd
        rw [if_neg (by omega), if_neg (by omega), if_neg (by omega)]
        exact h3 j hj)
      rw [ho, show 64 * w + (k + 2 + el e) = 64 * w + k + 2 + el e by omega] at this
      exact this
    · rw [if_neg c1]
      have := ih k X hl hk he2 h1 h2 h3
      rw [ho] at this
      exact this
end
section
variable {BD BW pA BR pb sb BT : Nat → Int32} {uS nP ckp cnx ht ho hk ctl tt ccm ccr : Int32}
variable {D TP bk W oo : Nat → Int32} {nT : Nat} {tl nx cm cr th fo np tu od : Int32}
theorem p_close {vs : List NV} {uw ur : Nat → Int32} {pl ol : Nat → Nat} {K N P O b m old w : Nat} {es : List Ent} {n1 n2 : Int32} {q1 : Nat → Int32} (hw : w < 41) (hO : 0 < O) (hP : P < 2147483648) (hN : N < 2147483648) (hK : K ≤ N) (hm : 0 < m) (hW : sWait BW pA bk W oo uw pl ol (pgc O P) w) (hr : Bv BR ur) (hop : sOpen ur O P b m uS fo es) (hE : sEnt ur pb sb ol K N P O b old w es) :
    ∃ (B5 B4 W' uw' us : Nat → Int32) (pl' ol' : Nat → Nat), f_RJ_closeOpenPage 32 2048 BD 41 2624 BW 41 pA (Int32.ofNat w) 30 1920 BR (Int32.ofNat O) uS nP 750 pb 750 sb ckp cnx ht ho hk 40 BT ctl tt ccm ccr = some (B5, upd pA w (Int32.ofNat (2 + rw30 O)), Int32.ofNat (w + 1), B4, 0) ∧ f_Md_close (es.map nv) 2048 D nT TP tl (Int32.ofNat K) nx cm cr th (Int32.ofNat O) fo (Int32.ofNat m) (Int32.ofNat b) np tu od 41 bk 2624 W 41 oo (Int32.ofNat w) = some (0, 0, 0, upd bk w (Int32.ofNat (2 + rw30 O)), W', upd oo w 0, Int32.ofNat (w + 1), (fg K 0 es).map nv) ∧
      sWait B5 (upd pA w (Int32.ofNat (2 + rw30 O))) (upd bk w (Int32.ofNat (2 + rw30 O))) W' (upd oo w 0) uw' pl' ol' (pgc 0 P) (w + 1) ∧ Bv B4 us ∧ sEnt us pb sb ol' K N P 0 0 old (w + 1) (fg K 0 es) ∧ (∀ i, i < w + 1 → ol' i ≤ pgc O P) := by
  obtain ⟨hoP, hU, hb, hmb, hm0, ⟨z1, z2, z3, z4⟩, hlay⟩ := hop.2 hO
  obtain ⟨hW1, hW2, hW3⟩ := hW
  obtain ⟨⟨base, lo, hbase, hsq⟩, hE2⟩ := hE
  have hrl := rw30_lt O
  have hpg : pgc O P = O := by unfold pgc; rw [if_neg (by omega)]
  have hpg0 : pgc 0 P = P := by unfold pgc; rw [if_pos rfl]
  have hcu : cur O P b ≤ cur 0 P 0 := by unfold cur; rw [if_neg (by omega), if_pos rfl]; omega
  obtain ⟨B4, e4, h4⟩ := r_seal hr hrl
  obtain ⟨B5, e5, h5⟩ := wr_copy hW1 h4 hw hrl (show 64 ≤ 64 by omega)
  generalize hus : put32 ur (64 * rw30 O + 60) (crc ur (64 * rw30 O)) = us at h4 h5
  -- the reference's block
  obtain ⟨Y0, hY0⟩ : ∃ z, z = upd (put32 (put32 (clr W (64 * w) 64) (64 * w) (Int32.ofNat O)) (64 * w + 4) fo) (64 * w + 8) (Int32.ofNat m) := ⟨_, rfl⟩
  have hu9 : ∀ j, j < 9 → Y0 (64 * w + j) = ur (64 * rw30 O + j) := fun j hj => by
    rw [hY0]
    by_cases d1 : j = 8
    · subst d1
      rw [upd, if_pos rfl, z3]
    · rw [upd, if_neg (by omega)]
      by_cases d2 : j < 4
      · rw [put32_out (by omega), z1 j d2]
        exact put32_in d2
      · rw [show 64 * w + j = 64 * w + 4 + (j - 4) by omega, show 64 * rw30 O + j = 64 * rw30 O + 4 + (j - 4) by omega, z2 (j - 4) (by omega)]
        exact put32_in (by omega)
  have hu0 : ∀ j, 9 ≤ j → j < 64 → Y0 (64 * w + j) = 0 := fun j hj hj2 => by
    rw [hY0, upd, if_neg (by omega), put32_out (by omega), put32_out (by omega)]
    exact clr_in hj2
  have huo : ∀ j, j < 64 * w → Y0 j = W j := fun j hj => by
    rw [hY0, upd, if_neg (by omega), put32_out (by omega), put32_out (by omega)]
    exact clr_out (by omega)
  have hsz : ∀ e ∈ es, (ep e = O → rowb ur e) ∧ eo e + 2 + el e ≤ 60 ∧ el e ≤ 40 ∧ ep e < 2147483648 := fun e he => by
    obtain ⟨⟨f1, f2, f3, f4, f5, f6, f7, f8⟩, -, g⟩ := hE2 e he
    exact ⟨fun z => g (Or.inr z), f2, f7, by omega⟩
  obtain ⟨X, hX0, hX1, hX2, hX3, eX⟩ := p_close1 (nD := 2048) (D := D) (nT := nT) (TP := TP) (tl := tl) (kp := Int32.ofNat K) (nx := nx) (cm := cm) (cr := cr) (th := th) (op := Int32.ofNat O) (fo := fo) (om := Int32.ofNat m) (ob := Int32.ofNat b) (np := np) (tu := tu) (od := od) (nB := 41) (bk := bk) (W := W) (nO := 41) (oo := oo) (wt := Int32.ofNat w) (vs := es.map nv) (m1 := Int32.ofNat m) (b1 := Int32.ofNat b) (w1 := Int32.ofNat (w + 1)) (bk1 := upd bk w (Int32.ofNat (2 + rw30 O))) (oo1 := upd oo w 0) (W0 := W) (r := rw30 O) hw (show O < 2147483648 by omega) rfl rfl es 9 Y0 hlay (by omega) hsz hu9 hu0 huo
  have hXr : ∀ j, j < 64 → X (64 * w + j) = ur (64 * rw30 O + j) := fun j hj => by
    by_cases d1 : j < 9 + b
    · exact hX1 j d1
    · rw [hX2 j (by omega) hj, z4 j (by omega) hj]
  have hcrc : crc X (64 * w) = crc ur (64 * rw30 O) := crc_congr fun j hj => hXr j (by omega)
  have hWf : ∀ j, j < 64 * (w + 1) → put32 X (64 * w + 60) (crc X (64 * w)) j = cpy uw us (64 * w) (64 * rw30 O) 64 j := fun j hj => by
    unfold cpy
    by_cases d1 : 64 * w ≤ j
    · rw [if_pos (by omega), hcrc, ← hus]
      obtain ⟨i, rfl⟩ : ∃ i, j = 64 * w + i := ⟨j - 64 * w, by omega⟩
      rw [show 64 * rw30 O + (64 * w + i - 64 * w) = 64 * rw30 O + i by omega]
      exact put32_same (by omega) hXr
    · rw [if_neg (by omega), put32_out (by omega), hX3 j (by omega)]
      exact hW3 j (by omega)
  have hbd : ∀ e ∈ es, en e < 2147483648 ∧ ep e < 2147483648 := fun e he => by
    have := (sq_mem hsq he).2.1
    exact ⟨by omega, (hsz e he).2.2.2⟩
  refine ⟨B5, B4, put32 X (64 * w + 60) (crc X (64 * w)), cpy uw us (64 * w) (64 * rw30 O) 64, us, fun i => if i = w then 2 + rw30 O else pl i, fun i => if i = w then 0 else ol i, ?_, ?_, ⟨h5, fun i hi => ?_, hWf⟩, h4, ⟨fg_sq hbase hsq, fun e he => ?_⟩, fun i hi => ?_⟩
  · unfold f_RJ_closeOpenPage
    rw [p_openCount hr (by omega) hop, Option.bind_some, pn_zero, pi_eq (by omega) (by omega), if_neg (by omega), pc_row (by omega) (by omega), Option.bind_some, e4, Option.bind_some]
    unfold f_Wt_addPage
    rw [pi_le (by omega) (by omega), if_neg (by omega), pc_place (by omega) (by omega), Option.bind_some, ← pn_zero, pn_ck (by omega) (by omega), pn_nat (by omega), nl_64, e5, Option.bind_some, Option.bind_some, nl_1, pn_add]
  · unfold f_Md_close
    rw [pm_row (by omega) (by omega), pm_waits hw, Option.bind_some]
    simp only []
    rw [pm_put (by omega) (by omega), Option.bind_some, nl_4, pn_add, pm_put (by omega) (by omega), Option.bind_some, nl_8, pn_add, pn_ck (by omega) (by omega), pn_nat (by omega), nl_9, pn_add, ← hY0, eX, f_Md_close_L59.eq_1, pm_check (by omega) (by omega), Option.bind_some, nl_60, pn_add, pm_put (by omega) (by omega), Option.bind_some]
    unfold f_Md_forget
    rw [p_forget (op := 0) (K := K) (O := 0) (by omega) (by omega) rfl rfl hbd, Option.bind_some]
  · unfold sWt
    dsimp only
    by_cases d1 : i = w
    · subst d1
      refine ⟨by rw [upd, if_pos rfl, if_pos rfl], by rw [upd, if_pos rfl, if_pos rfl], by rw [if_pos rfl]; omega, by rw [upd, if_pos rfl, if_pos rfl]; rfl, by rw [if_pos rfl]; omega, fun z => ?_, fun _ => by rw [if_pos rfl]⟩
      rw [if_pos rfl] at z; omega
    · obtain ⟨f1, f2, f3, f4, f5, f6, f7⟩ := hW2 i (by omega)
      refine ⟨by rw [upd, if_neg d1, if_neg d1, f1], by rw [upd, if_neg d1, if_neg d1, f2], by rw [if_neg d1]; exact f3, by rw [upd, if_neg d1, if_neg d1, f4], by rw [if_neg d1]; omega, fun z => ?_, fun z => by rw [if_neg d1] at z ⊢; exact f7 z⟩
      rw [if_neg d1] at z ⊢
      refine ⟨(f6 z).1, ?_⟩
      rw [← (f6 z).2]
      refine w32_congr fun j hj => ?_
      unfold cpy
      rw [if_neg (by omega)]
  · obtain ⟨⟨f1, f2, f3, f4, f5, f6, f7, f8⟩, g1, g2⟩ := hE2 e (fg_mem he)
    refine ⟨⟨f1, f2, f3, f4, f5, f6, f7, by omega⟩, fun z => ?_, fun z => ?_⟩
    · obtain ⟨k1, k2, k3, k4⟩ := g1 z
      refine ⟨k1, k2, fun i hi => ?_, k4⟩
      show (if i = w then 0 else ol i) ≤ ep e
      by_cases d1 : i = w
      · rw [if_pos d1]; omega
      · rw [if_neg d1]; exact k3 i (by omega)
    · rw [← hus]
      exact rowb_put (g2 (z.elim Or.inl (fun z => by omega))) f2
  · show (if i = w then 0 else ol i) ≤ pgc O P
    by_cases d1 : i = w
    · rw [if_pos d1]; omega
    · rw [if_neg d1]; exact (hW2 i (by omega)).2.2.2.2.1
end
