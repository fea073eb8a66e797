/-! FOUND AGAIN, by both -/
theorem ne_m1 {a : Nat} (h : a < 2147483648) : Int32.ofNat a ≠ -1 := fun e => by
  have := pn_neg h
  rw [e] at this
  exact this (by decide)
theorem pi_30 {α : Type} {a : Nat} {X Y : α} (ha : a < 2147483648) : (if (30 : Int32) ≤ Int32.ofNat a then X else Y) = if 30 ≤ a then X else Y := pi_le (a := 30) (by omega) ha
theorem p_fol {i beh : Nat} (hb : beh < 2147483648) (A : Prop) (w : Int32) : (if (if i = 0 then (-1 : Int32) else Int32.ofNat beh) = -1 then A else w = (if i = 0 then (-1 : Int32) else Int32.ofNat beh)) = (if i = 0 then A else w = Int32.ofNat beh) := by
  by_cases hi : i = 0
  · rw [if_pos hi, if_pos rfl, if_pos hi]
  · rw [if_neg hi, if_neg (ne_m1 hb), if_neg hi]
section
variable {BD BW pA BR pb sb BT : Nat → Int32} {wc oP uS nP ckp cnx ht ho hk ctl tt ccm ccr : Int32}
variable {nD nT nB nW nO : Nat} {D TP bk W oo : Nat → Int32} {tl kp nx cm cr th op fo om ob np tu od wt : Int32}
theorem p_find1 {u : Nat → Int32} (h : Bv BD u) (hD : ∀ j, j < 2048 → D j = u j) {K old : Nat} {o0 u0 t0 d0 h0 q0 o1 m1 b1 t1 d1 n1 : Int32} (hK : 1 ≤ K) (hK2 : K ≤ 1000000) (hol : 1 ≤ old) (hol2 : old ≤ 1000000) :
    ∀ (r i beh n m uc us : Nat) (B ur g s : Nat → Int32) (es : List Ent), i + r = 30 → Bv B ur → fnd K old (old + i) (max beh K) ur g s es → (i = 0 → beh = 0) → beh ≤ 1000025 → r < n → r < m → 50 * r ≤ uc → 126 * r ≤ us →
    ∃ (B' ur' g' s' : Nat → Int32) (es' : List Ent) (P' N' : Nat), Bv B' ur' ∧ fnd K old P' N' ur' g' s' es' ∧ old ≤ P' ∧ P' ≤ old + 30 ∧ K ≤ N' ∧ N' ≤ 1000025 ∧
      f_RJ_findAgain_L54 32 2048 BD 41 2624 BW 41 pA wc 30 1920 BR oP uS nP 750 pb 750 sb ckp cnx ht ho hk 40 BT ctl tt ccm ccr o0 u0 (Int32.ofNat K) t0 d0 h0 q0 n B (Int32.ofNat (old + i)) g s (Int32.ofNat (max beh K)) (if i = 0 then -1 else Int32.ofNat beh) (Int32.ofNat i) = some (B', o0, u0, Int32.ofNat P', g', s', Int32.ofNat K, Int32.ofNat N', t0, d0, h0, q0) ∧
      f_Md_find_L43 (es.map nv) 2048 D nT TP tl kp nx cm cr th op fo om ob np tu od nB bk nW W nO oo wt (Int32.ofNat K) n1 o1 m1 b1 t1 d1 m (Int32.ofNat (old + i)) (Int32.ofNat beh) 1 (Int32.ofNat i) uc us = some (Int32.ofNat K, Int32.ofNat N', o1, m1, b1, Int32.ofNat P', t1, d1, es'.map nv) := by
  intro r
  induction r with
  | zero =>
    intro i beh n m uc us B ur g s es hi hB hf hb0 hb hn hm huc hus
    obtain ⟨n, rfl⟩ : ∃ z, n = z + 1 := ⟨n - 1, by omega⟩
    obtain ⟨m, rfl⟩ : ∃ z, m = z + 1 := ⟨m - 1, by omega⟩
    refine ⟨B, ur, g, s, es, old + i, max beh K, hB, hf, by omega, by omega, by omega, by omega, ?_, pm_find_end hK2 (by omega) (by omega) m uc us (Or.inl (by omega))⟩
    rw [f_RJ_findAgain_L54.eq_2, pi_30 (by omega), if_pos (by omega)]
  | succ r ih =>
    intro i beh n m uc us B ur g s es hi hB hf hb0 hb hn hm huc hus
    obtain ⟨n, rfl⟩ : ∃ z, n = z + 1 := ⟨n - 1, by omega⟩
    obtain ⟨m, rfl⟩ : ∃ z, m = z + 1 := ⟨m - 1, by omega⟩
    have hnx := pc_next (BW := BW) (pA := pA) (wc := wc) (BR := B) (oP := o0) (uS := u0) (nP := Int32.ofNat (old + i)) (pb := g) (sb := s) (ckp := Int32.ofNat K) (cnx := Int32.ofNat (max beh K)) (ht := t0) (ho := d0) (hk := h0) (BT := BT) (ctl := ctl) (tt := q0) (ccm := ccm) (ccr := ccr) h (P := old + i) (K := K) rfl rfl (if i = 0 then -1 else Int32.ofNat beh)
    rw [p_fol (by omega)] at hnx
    by_cases hy : pgk u (old + i) (if i = 0 then ¬ Int32.ofNat K < w32 u (64 * (2 + rw30 (old + i)) + 4) else w32 u (64 * (2 + rw30 (old + i)) + 4) = Int32.ofNat beh)
    · obtain ⟨f, hf1, hf2, hff⟩ := hy.2.2.1
      obtain ⟨c, hcc⟩ : ∃ c, (u (64 * (2 + rw30 (old + i)) + 8)).toNatClampNeg = c := ⟨_, rfl⟩
      have hh : hrk u (64 * (2 + rw30 (old + i))) c 9 = true := by rw [← hcc]; exact hy.2.2.2.2
      have hc := hrk_len _ _ hh (by omega)
      have hN : max beh K = max f K := by
        have := hy.2.2.2.1
        by_cases hi0 : i = 0
        · rw [if_pos hi0, hff, pn_lt (by omega) (by omega)] at this
          have := hb0 hi0
          omega
        · rw [if_neg hi0, hff, pn_eq (by omega) (by omega)] at this
          omega
      obtain ⟨B1, hB1, e1⟩ := pc_take (BW := BW) (pA := pA) (wc := wc) (BR := B) (oP := o0) (uS := u0) (nP := Int32.ofNat (old + i)) (pb := g) (sb := s) (ckp := Int32.ofNat K) (cnx := Int32.ofNat (max beh K)) (ht := t0) (ho := d0) (hk := h0) (BT := BT) (ctl := ctl) (tt := q0) (ccm := ccm) (ccr := ccr) h hB (P := old + i) (K := K) (f := f) (c := c) (by omega) (by omega) rfl rfl hK2 hf2 (by rw [hN]) hff hcc hh
      obtain ⟨B', ur', g', s', es', P', N', a1, a2, a3, a4, a5, a6, a7, a8⟩ := ih (i + 1) (f + c) n m (uc - 50) (us - 126) B1 _ _ _ _ (by omega) hB1 (fnd_take (P := old + i) hf h.small hol (by omega) (by omega) hN hh) (by omega) (by omega) (by omega) (by omega) (by omega) (by omega)
      refine ⟨B', ur', g', s', es', P', N', a1, a2, a3, a4, a5, a6, ?_, ?_⟩
      · rw [f_RJ_findAgain_L54.eq_2, pi_30 (by omega), if_neg (by omega), pc_place (by omega) (by omega), Option.bind_some, hnx.1 hy, Option.bind_some, if_neg (by decide), e1, Option.bind_some, nl_1, pn_add]
        rw [if_neg (by omega)] at a7
        exact a7
      · rw [pm_find_yes h.small hD (by omega) (by omega) hK2 (by omega) m uc us (by omega) (by omega) hff hf2 hcc hy, ← List.map_append]
        exact a8
    · refine ⟨B, ur, g, s, es, old + i, max beh K, hB, hf, by omega, by omega, by omega, by omega, ?_, ?_⟩
      · rw [f_RJ_findAgain_L54.eq_2, pi_30 (by omega), if_neg (by omega), pc_place (by omega) (by omega), Option.bind_some, hnx.2 hy, Option.bind_some, if_pos rfl]
      · obtain ⟨m, rfl⟩ : ∃ z, m = z + 1 := ⟨m - 1, by omega⟩
        rw [pm_find_no h.small hD (by omega) (by omega) (by omega) (m + 1) uc us hy]
        exact pm_find_end hK2 (by omega) (by omega) m uc us (Or.inr rfl)
theorem p_find {vs : List NV} {u ur : Nat → Int32} (h : Bv BD u) (hr : Bv BR ur) (hD : ∀ j, j < 2048 → D j = u j) :
    ∃ (B' ur' g' s' : Nat → Int32) (es' : List Ent) (t old K P' N' : Nat), Bv B' ur' ∧ fnd K old P' N' ur' g' s' es' ∧ t ≤ 1000000 ∧ 1 ≤ old ∧ old ≤ 1000000 ∧ 1 ≤ K ∧ K ≤ 1000000 ∧ old ≤ P' ∧ P' ≤ old + 30 ∧ K ≤ N' ∧ N' ≤ 1000025 ∧
      f_RJ_findAgain 32 2048 BD 41 2624 BW 41 pA wc 30 1920 BR oP uS nP 750 pb 750 sb ckp cnx ht ho hk 40 BT ctl tt ccm ccr = some (B', 0, 0, Int32.ofNat P', g', s', Int32.ofNat K, Int32.ofNat N', Int32.ofNat t, Int32.ofNat old, Int32.ofNat K, Int32.ofNat t) ∧
      f_Md_find vs 2048 D nT TP tl kp nx cm cr th op fo om ob np tu od nB bk nW W nO oo wt = some (Int32.ofNat K, Int32.ofNat N', 0, 0, 0, Int32.ofNat P', Int32.ofNat t, Int32.ofNat old, es'.map nv) := by
  obtain ⟨t, old, K, a1, ⟨a2, a3⟩, ⟨a4, a5⟩, e1, e2⟩ := pc_hfind h hD (t0 := ht) (o0 := ho) (k0 := hk)
  obtain ⟨B', ur', g', s', es', P', N', b1, b2, b3, b4, b5, b6, b7, b8⟩ := p_find1 (BW := BW) (pA := pA) (wc := wc) (BR := BR) (oP := oP) (uS := uS) (nP := nP) (pb := pb) (sb := sb) (ckp := ckp) (cnx := cnx) (ht := ht) (ho := ho) (hk := hk) (BT := BT) (ctl := ctl) (tt := tt) (ccm := ccm) (ccr := ccr) (nT := nT) (TP := TP) (tl := tl) (kp := kp) (nx := nx) (cm := cm) (cr := cr) (th := th) (op := op) (fo := fo) (om := om) (ob := ob) (np := np) (tu := tu) (od := od) (nB := nB) (bk := bk) (nW := nW) (W := W) (nO := nO) (oo := oo) (wt := wt) h hD (K := K) (old := old) (o0 := 0) (u0 := 0) (t0 := Int32.ofNat t) (d0 := Int32.ofNat old) (h0 := Int32.ofNat K) (q0 := Int32.ofNat t) (o1 := 0) (m1 := 0) (b1 := 0) (t1 := Int32.ofNat t) (d1 := Int32.ofNat old) (n1 := nx) a4 a5 a2 a3 30 0 0 40 5000 1500 3780 BR ur pb sb [] (by omega) hr ⟨by show K = max 0 K; omega, fun e he => by cases he⟩ (fun _ => rfl) (by omega) (by omega) (by omega) (by omega) (by omega)
  refine ⟨B', ur', g', s', es', t, old, K, P', N', b1, b2, a1, a2, a3, a4, a5, b3, b4, b5, b6, ?_, ?_⟩
  · unfold f_RJ_findAgain f_Rc_restart f_Pg_restart
    rw [e1, Option.bind_some, Option.bind_some, Option.bind_some]
    rw [Nat.zero_max, Nat.add_zero, if_pos rfl] at b7
    exact b7
  · unfold f_Md_find
    rw [e2, Option.bind_some]
    exact b8
end
