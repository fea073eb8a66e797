/-! crash, by both -/
section
variable {nD nT nB nW nO : Nat} {D TP bk W oo : Nat → Int32} {tl kp nx cm cr th op fo om ob np tu od wt : Int32}
theorem p_cr1 {vs : List NV} {uw : Nat → Int32} {pl ol : Nat → Nat} {x y : Nat} {k0 n0 r0 t0 o0 m0 b0 p0 u0 : Int32} (hx : x < 2147483648) (hy : y ≤ 64) : ∀ (n k f : Nat) (D1 u bk1 oo1 W1 : Nat → Int32) (o : Nat), k ≤ x → n ≤ 41 → n < f → rst bk1 oo1 W1 uw pl ol k n → (∀ j, j < 2048 → D1 j = u j) →
      ∃ (D2 bk2 oo2 W2 : Nat → Int32) (od2 : Int32), (∀ j, j < 2048 → D2 j = (if x - k < n then cpy (dsk uw pl k (x - k) u) uw (64 * pl x) (64 * x) y else dsk uw pl k n u) j) ∧
        ∀ (k' n' o' m' b' p' t' d' a' th' : Int32) (vs' : List NV), f_Md_find vs 2048 D2 nT TP tl k0 n0 cm r0 t0 o0 fo m0 b0 p0 u0 od2 41 bk2 2624 W2 41 oo2 0 = some (k', n', o', m', b', p', t', d', vs') →
          f_Md_total vs' 2048 D2 nT TP tl k' n' cm r0 t0 o' fo m' b' p' t' d' 41 bk2 2624 W2 41 oo2 0 0 = some (a', th') →
          f_Md_crash_L58 vs 2048 D nT TP tl kp nx cm cr th op fo om ob np tu od 41 bk 2624 W 41 oo wt (Int32.ofNat x) (Int32.ofNat y) k0 n0 r0 t0 o0 m0 b0 p0 u0 f D1 (Int32.ofNat o) bk1 W1 oo1 (Int32.ofNat n) (Int32.ofNat k) = some (a', D2, k', n', r0, th', o', m', b', p', t', d', bk2, W2, oo2, 0, vs') := by
  intro n
  induction n with
  | zero =>
    intro k f D1 u bk1 oo1 W1 o hk _ hf _ hD
    obtain ⟨f, rfl⟩ : ∃ z, f = z + 1 := ⟨f - 1, by omega⟩
    refine ⟨D1, bk1, oo1, W1, Int32.ofNat o, fun j hj => ?_, fun k' n' o' m' b' p' t' d' a' th' vs' e1 e2 => ?_⟩
    · rw [if_neg (by omega)]; exact hD j hj
    · have hz : Int32.ofNat 0 ≤ (0 : Int32) := by decide
      by_cases z : Int32.ofNat x ≤ Int32.ofNat k
      · rw [f_Md_crash_L58.eq_2, if_pos z, if_pos hz, e1, Option.bind_some, e2, Option.bind_some]
      · rw [f_Md_crash_L58.eq_2, if_neg z, if_pos hz, if_pos hz, e1, Option.bind_some, e2, Option.bind_some]
  | succ n ih =>
    intro k f D1 u bk1 oo1 W1 o hk hn hf h hD
    obtain ⟨f, rfl⟩ : ∃ z, f = z + 1 := ⟨f - 1, by omega⟩
    by_cases c1 : x ≤ k
    · have hxk : x = k := by omega
      subst hxk
      obtain ⟨g1, g2, g3, g4⟩ := h.1 0 (by omega)
      rw [Nat.add_zero] at g1 g2 g3 g4
      refine ⟨cpy D1 W1 (64 * pl x) 0 y, shf bk1 1 n, shf oo1 1 n, shf W1 64 (64 * n), (if y = 64 ∧ 0 < ol x then Int32.ofNat (ol x) else Int32.ofNat o), fun j hj => ?_, fun k' n' o' m' b' p' t' d' a' th' vs' e1 e2 => ?_⟩
      · rw [if_pos (by omega), Nat.sub_self]
        exact rst_disk hy h hD j hj
      · rw [f_Md_crash_L58.eq_2, pi_le (by omega) (by omega), if_pos (by omega), pi_le0 (by omega), if_neg (by omega), pm_first (by omega) g3 hy g1 g2 g4, Option.bind_some, e1, Option.bind_some, e2, Option.bind_some]
    · obtain ⟨D2, bk2, oo2, W2, a1, a2, a3⟩ := p_dof (nT := nT) (TP := TP) (tl := tl) (kp := k0) (nx := n0) (cm := cm) (cr := r0) (th := t0) (op := o0) (fo := fo) (om := m0) (ob := b0) (np := p0) (tu := u0) (o := o) (by omega) h hD
      obtain ⟨D3, bk3, oo3, W3, od3, b1, b2⟩ := ih (k + 1) f D2 _ bk2 oo2 W2 (if 0 < ol k then ol k else o) (by omega) (by omega) (by omega) a2 a1
      refine ⟨D3, bk3, oo3, W3, od3, fun j hj => ?_, fun k' n' o' m' b' p' t' d' a' th' vs' e1 e2 => ?_⟩
      · rw [b1 j hj]
        by_cases c2 : x - k < n + 1
        · rw [if_pos c2, if_pos (by omega), show x - k = (x - (k + 1)) + 1 by omega]; rfl
        · rw [if_neg c2, if_neg (by omega)]; rfl
      · rw [f_Md_crash_L58.eq_2, pi_le (by omega) (by omega), if_neg c1, pi_le0 (by omega), if_neg (by omega), a3, Option.bind_some, nl_1, pn_add]
        exact b2 k' n' o' m' b' p' t' d' a' th' vs' e1 e2
end
section
variable {BD BW pA BR pb sb BT D TP bk W oo : Nat → Int32} {K N P O b m T old w c r l : Nat} {uS fo ht hk th : Int32} {es : List Ent} {rem : Nat}
theorem p_crC {ud uw : Nat → Int32} {pl ol : Nat → Nat} {x y pg : Nat} (hw : w ≤ 40) (hx : x < 2147483648) (hy : y ≤ 64) (hr : r < 300) (hD : Bv BD ud) (hW : sWait BW pA bk W oo uw pl ol pg w) :
    ∃ (B2 : Nat → Int32) (h1 h2 : Int32) (o2 : Nat), Bv B2 (if x - 0 < w then cpy (dsk uw pl 0 (x - 0) ud) uw (64 * pl x) (64 * x) y else dsk uw pl 0 w ud) ∧
      ∀ (R' p' s' : Nat → Int32) (oP' uS' nP' kp' nx' t' d' k' q' : Int32), f_RJ_findAgain 32 2048 B2 41 2624 BW 41 pA 0 30 1920 BR (Int32.ofNat O) uS (Int32.ofNat P) 750 pb 750 sb (Int32.ofNat K) (Int32.ofNat N) h1 (Int32.ofNat o2) h2 40 BT (Int32.ofNat l) (Int32.ofNat T) (Int32.ofNat c) (Int32.ofNat (r + 1)) = some (R', oP', uS', nP', p', s', kp', nx', t', d', k', q') →
        f_RJ_crash 32 2048 BD 41 2624 BW 41 pA (Int32.ofNat w) 30 1920 BR (Int32.ofNat O) uS (Int32.ofNat P) 750 pb 750 sb (Int32.ofNat K) (Int32.ofNat N) ht (Int32.ofNat old) hk 40 BT (Int32.ofNat l) (Int32.ofNat T) (Int32.ofNat c) (Int32.ofNat r) (Int32.ofNat x) (Int32.ofNat y) = some (0, nx' - kp', B2, 0, R', oP', uS', nP', p', s', kp', nx', t', d', k', q', Int32.ofNat (r + 1)) := by
  obtain ⟨hW1, hW2, hW3⟩ := hW
  have hpp : ∀ i, i < w → pA i = Int32.ofNat (pl i) ∧ pl i < 32 ∧ (pl i < 2 → 0 < ol i ∧ w32 uw (64 * i + 4) = Int32.ofNat (ol i)) ∧ (2 ≤ pl i → ol i = 0) := fun i hi => by obtain ⟨a1, a2, a3, a4, a5, a6, a7⟩ := hW2 i hi; exact ⟨a1, a3, a6, a7⟩
  have hcc : (if Int32.ofNat w < Int32.ofNat x then Int32.ofNat w else Int32.ofNat x) = Int32.ofNat (if w < x then w else x) := by
    rw [pi_lt (by omega) hx]; split <;> rfl
  have hr1 : Int32.ofNat r + 1 = Int32.ofNat (r + 1) := by rw [nl_1, pn_add]
  have h300 : Int32.ofNat r < (300 : Int32) := by rw [nl_300, pn_lt (by omega) (by omega)]; exact hr
  have h64 : Int32.ofNat y ≤ (64 : Int32) := by rw [nl_64, pn_le (by omega) (by omega)]; exact hy
  unfold f_RJ_crash
  simp only [hcc]
  rw [if_neg (pn_neg hx), if_neg (pn_neg (by omega)), if_pos h64, if_pos h300, hr1]
  by_cases c1 : x < w
  · have hcw : (if w < x then w else x) = x := if_neg (by omega)
    rw [hcw]
    obtain ⟨B', h1, h2, hB, e1⟩ := p_dow (BD := BD) (BR := BR) (wc := Int32.ofNat w) (oP := Int32.ofNat O) (uS := uS) (nP := Int32.ofNat P) (pb := pb) (sb := sb) (ckp := Int32.ofNat K) (cnx := Int32.ofNat N) (ht := ht) (ho := Int32.ofNat old) (hk := hk) (BT := BT) (ctl := Int32.ofNat l) (tt := Int32.ofNat T) (ccm := Int32.ofNat c) (ccr := Int32.ofNat (r + 1)) hW1 (show w ≤ 41 by omega) (show x ≤ w by omega) hpp x 0 50 BD ud ht hk old (by omega) (by omega) hD
    obtain ⟨g1, g2, -⟩ := hpp x c1
    obtain ⟨B2, e2, hB2⟩ := dw_copy hB hW1 (r := pl x) (r' := x) (n := y) g2 (by omega) hy
    refine ⟨B2, h1, h2, odn ol 0 x old, by rw [if_pos (by omega)]; exact hB2, fun R' p' s' oP' uS' nP' kp' nx' t' d' k' q' e3 => ?_⟩
    have e0 : f_Wt_placeOf 41 2624 BW 41 pA (Int32.ofNat w) (Int32.ofNat x) = some (Int32.ofNat (pl x)) := by
      unfold f_Wt_placeOf
      rw [if_neg (pn_neg (by omega)), pi_le (by omega) (by omega), if_neg (by omega), pn_ck (by omega) (by omega), pn_nat (by omega), g1]
    have ed : f_RJ_doWrites 32 2048 BD 41 2624 BW 41 pA (Int32.ofNat w) 30 1920 BR (Int32.ofNat O) uS (Int32.ofNat P) 750 pb 750 sb (Int32.ofNat K) (Int32.ofNat N) ht (Int32.ofNat old) hk 40 BT (Int32.ofNat l) (Int32.ofNat T) (Int32.ofNat c) (Int32.ofNat (r + 1)) (Int32.ofNat x) = some (B', h1, Int32.ofNat (odn ol 0 x old), h2) := e1
    rw [ed, Option.bind_some, pi_le (by omega) (by omega), if_neg (by omega), e0, Option.bind_some, e2, Option.bind_some, e3, Option.bind_some]
    rfl
  · have hcw : (if w < x then w else x) = w := by split <;> omega
    rw [hcw]
    obtain ⟨B', h1, h2, hB, e1⟩ := p_dow (BD := BD) (BR := BR) (wc := Int32.ofNat w) (oP := Int32.ofNat O) (uS := uS) (nP := Int32.ofNat P) (pb := pb) (sb := sb) (ckp := Int32.ofNat K) (cnx := Int32.ofNat N) (ht := ht) (ho := Int32.ofNat old) (hk := hk) (BT := BT) (ctl := Int32.ofNat l) (tt := Int32.ofNat T) (ccm := Int32.ofNat c) (ccr := Int32.ofNat (r + 1)) hW1 (show w ≤ 41 by omega) (Nat.le_refl w) hpp w 0 50 BD ud ht hk old (by omega) (by omega) hD
    refine ⟨B', h1, h2, odn ol 0 w old, by rw [if_neg (by omega)]; exact hB, fun R' p' s' oP' uS' nP' kp' nx' t' d' k' q' e3 => ?_⟩
    have ed : f_RJ_doWrites 32 2048 BD 41 2624 BW 41 pA (Int32.ofNat w) 30 1920 BR (Int32.ofNat O) uS (Int32.ofNat P) 750 pb 750 sb (Int32.ofNat K) (Int32.ofNat N) ht (Int32.ofNat old) hk 40 BT (Int32.ofNat l) (Int32.ofNat T) (Int32.ofNat c) (Int32.ofNat (r + 1)) (Int32.ofNat w) = some (B', h1, Int32.ofNat (odn ol 0 w old), h2) := e1
    rw [ed, Option.bind_some, pi_le (by omega) (by omega), if_pos (by omega), e3, Option.bind_some]
    rfl
theorem o_crash (h : SX BD BW pA BR pb sb BT D TP bk W oo K N P O b m T old w c r l uS fo es rem) (hrem : rem ≤ 1900) (x y : Int32) :
    (∃ q : Nat, (q = 1 ∨ q = 2) ∧ (x < 0 ∨ y < 0 ∨ ¬ y ≤ 64 ∨ Int32.ofNat r = 300) ∧ f_RJ_crash 32 2048 BD 41 2624 BW 41 pA (Int32.ofNat w) 30 1920 BR (Int32.ofNat O) uS (Int32.ofNat P) 750 pb 750 sb (Int32.ofNat K) (Int32.ofNat N) ht (Int32.ofNat old) hk 40 BT (Int32.ofNat l) (Int32.ofNat T) (Int32.ofNat c) (Int32.ofNat r) x y = some (q, 0, BD, Int32.ofNat w, BR, Int32.ofNat O, uS, Int32.ofNat P, pb, sb, Int32.ofNat K, Int32.ofNat N, ht, Int32.ofNat old, hk, Int32.ofNat T, Int32.ofNat r) ∧ f_Md_crash (es.map nv) 2048 D 40 TP (Int32.ofNat l) (Int32.ofNat K) (Int32.ofNat N) (Int32.ofNat c) (Int32.ofNat r) th (Int32.ofNat O) fo (Int32.ofNat m) (Int32.ofNat b) (Int32.ofNat P) (Int32.ofNat T) (Int32.ofNat old) 41 bk 2624 W 41 oo (Int32.ofNat w) x y = some (0, D, Int32.ofNat K, Int32.ofNat N, Int32.ofNat r, Int32.ofNat q, Int32.ofNat O, Int32.ofNat m, Int32.ofNat b, Int32.ofNat P, Int32.ofNat T, Int32.ofNat old, bk, W, oo, Int32.ofNat w, es.map nv)) ∨
    (¬ (x < 0 ∨ y < 0 ∨ ¬ y ≤ 64 ∨ Int32.ofNat r = 300) ∧ r < 300 ∧ ∃ (a : Int32) (B' R' p' s' D' bk' W' oo' : Nat → Int32) (K' N' P' T' old' : Nat) (es' : List Ent), f_RJ_crash 32 2048 BD 41 2624 BW 41 pA (Int32.ofNat w) 30 1920 BR (Int32.ofNat O) uS (Int32.ofNat P) 750 pb 750 sb (Int32.ofNat K) (Int32.ofNat N) ht (Int32.ofNat old) hk 40 BT (Int32.ofNat l) (Int32.ofNat T) (Int32.ofNat c) (Int32.ofNat r) x y = some (0, a, B', 0, R', 0, 0, Int32.ofNat P', p', s', Int32.ofNat K', Int32.ofNat N', Int32.ofNat T', Int32.ofNat old', Int32.ofNat K', Int32.ofNat T', Int32.ofNat (r + 1)) ∧
      f_Md_crash (es.map nv) 2048 D 40 TP (Int32.ofNat l) (Int32.ofNat K) (Int32.ofNat N) (Int32.ofNat c) (Int32.ofNat r) th (Int32.ofNat O) fo (Int32.ofNat m) (Int32.ofNat b) (Int32.ofNat P) (Int32.ofNat T) (Int32.ofNat old) 41 bk 2624 W 41 oo (Int32.ofNat w) x y = some (a, D', Int32.ofNat K', Int32.ofNat N', Int32.ofNat (r + 1), 0, 0, 0, 0, Int32.ofNat P', Int32.ofNat T', Int32.ofNat old', bk', W', oo', 0, es'.map nv) ∧ SX B' BW pA R' p' s' BT D' TP bk' W' oo' K' N' P' 0 0 0 T' old' 0 c (r + 1) l 0 fo es' rem) := by
  obtain ⟨ud, uw, ur, ut, pl, ol, ⟨a1, a2, a3, a4, a5, a6, a7, a8, a9, a10, a11, a12⟩, h2, h3, h4, h5, h6, h7⟩ := h
  have hpp : pgc O P ≤ P := by unfold pgc; split <;> omega
  by_cases c1 : x < 0
  · refine Or.inl ⟨1, Or.inl rfl, Or.inl c1, ?_, ?_⟩
    · unfold f_RJ_crash; rw [if_pos c1]
    · unfold f_Md_crash; rw [if_pos c1]; rfl
  by_cases c2 : y < 0
  · refine Or.inl ⟨1, Or.inl rfl, Or.inr (Or.inl c2), ?_, ?_⟩
    · unfold f_RJ_crash; rw [if_neg c1, if_pos c2]
    · unfold f_Md_crash; rw [if_neg c1, if_pos c2]; rfl
  by_cases c3 : y ≤ 64
  rotate_left
  · refine Or.inl ⟨1, Or.inl rfl, Or.inr (Or.inr (Or.inl c3)), ?_, ?_⟩
    · unfold f_RJ_crash; rw [if_neg c1, if_neg c2, if_neg c3]
    · unfold f_Md_crash; rw [if_neg c1, if_neg c2, if_neg c3]; rfl
  by_cases c4 : r = 300
  · have c5 : Int32.ofNat r = 300 := by rw [c4]; rfl
    refine Or.inl ⟨2, Or.inr rfl, Or.inr (Or.inr (Or.inr c5)), ?_, ?_⟩
    · unfold f_RJ_crash
      rw [if_neg c1, if_neg c2, if_pos c3, if_neg (by rw [c5]; decide)]
    · unfold f_Md_crash; rw [if_neg c1, if_neg c2, if_pos c3, if_pos c5]; rfl
  have c5 : ¬ Int32.ofNat r = 300 := by rw [nl_300, pn_eq (by omega) (by omega)]; exact c4
  refine Or.inr ⟨fun z => z.elim c1 (fun z => z.elim c2 (fun z => z.elim (fun z => z c3) c5)), by omega, ?_⟩
  obtain ⟨x, hx, rfl⟩ := pn_ge c1
  obtain ⟨y, hy, rfl⟩ := pn_ge c2
  have hy2 : y ≤ 64 := by
    have := c3
    rw [nl_64, pn_le (by omega) (by omega)] at this
    exact this
  have hr1 : Int32.ofNat r + 1 = Int32.ofNat (r + 1) := by rw [nl_1, pn_add]
  obtain ⟨B2, k1, k2, o2, hB2, ecl⟩ := p_crC (O := O) (P := P) (K := K) (N := N) (T := T) (old := old) (c := c) (l := l) (uS := uS) (ht := ht) (hk := hk) (BR := BR) (pb := pb) (sb := sb) (BT := BT) (x := x) (y := y) (show w ≤ 40 by omega) hx hy2 (show r < 300 by omega) h2.1 h4
  obtain ⟨D2, bk2, oo2, W2, od2, hD2, erf⟩ := p_cr1 (D := D) (nT := 40) (TP := TP) (tl := Int32.ofNat l) (kp := Int32.ofNat K) (nx := Int32.ofNat N) (cm := Int32.ofNat c) (cr := Int32.ofNat r) (th := th) (op := Int32.ofNat O) (fo := fo) (om := Int32.ofNat m) (ob := Int32.ofNat b) (np := Int32.ofNat P) (tu := Int32.ofNat T) (od := Int32.ofNat old) (bk := bk) (W := W) (oo := oo) (wt := Int32.ofNat w) (vs := es.map nv) (k0 := Int32.ofNat K) (n0 := Int32.ofNat N) (r0 := Int32.ofNat (r + 1)) (t0 := 0) (o0 := Int32.ofNat O) (m0 := Int32.ofNat m) (b0 := Int32.ofNat b) (p0 := Int32.ofNat P) (u0 := Int32.ofNat T) (uw := uw) (pl := pl) (ol := ol) hx hy2 w 0 5000 D ud bk oo W old (by omega) (by omega) (by omega) ⟨fun i hi => by obtain ⟨z1, z2, z3, z4, z5, z6, z7⟩ := h4.2.1 i hi; rw [Nat.zero_add]; exact ⟨z2, z4, z3, by omega⟩, fun j hj => by rw [Nat.mul_zero, Nat.zero_add]; exact h4.2.2 j hj⟩ h2.2
  generalize (if x - 0 < w then cpy (dsk uw pl 0 (x - 0) ud) uw (64 * pl x) (64 * x) y else dsk uw pl 0 w ud) = u2 at hB2 hD2
  obtain ⟨R', ur', g', s', es', t, old', K', P', N', f1, f2, f3, f4, f5, f6, f7, f8, f9, f10, f11, f12, f13⟩ := p_find (BW := BW) (pA := pA) (wc := 0) (BR := BR) (oP := Int32.ofNat O) (uS := uS) (nP := Int32.ofNat P) (pb := pb) (sb := sb) (ckp := Int32.ofNat K) (cnx := Int32.ofNat N) (ht := k1) (ho := Int32.ofNat o2) (hk := k2) (BT := BT) (ctl := Int32.ofNat l) (tt := Int32.ofNat T) (ccm := Int32.ofNat c) (ccr := Int32.ofNat (r + 1)) (nT := 40) (TP := TP) (tl := Int32.ofNat l) (kp := Int32.ofNat K) (nx := Int32.ofNat N) (cm := Int32.ofNat c) (cr := Int32.ofNat (r + 1)) (th := 0) (op := Int32.ofNat O) (fo := fo) (om := Int32.ofNat m) (ob := Int32.ofNat b) (np := Int32.ofNat P) (tu := Int32.ofNat T) (od := od2) (nB := 41) (bk := bk2) (nW := 2624) (W := W2) (nO := 41) (oo := oo2) (wt := 0) (vs := es.map nv) hB2 h5 hD2
  refine ⟨Int32.ofNat (N' - K'), B2, R', g', s', D2, bk2, W2, oo2, K', N', P', t, old', es', ?_, ?_, u2, uw, ur', ut, pl, ol, ?_⟩
  · have := ecl _ _ _ _ _ _ _ _ _ _ _ _ f12
    rw [pn_sub f10] at this
    exact this
  · unfold f_Md_crash
    rw [if_neg c1, if_neg c2, if_pos c3, if_neg c5, hr1]
    refine erf _ _ _ _ _ _ _ _ _ _ _ f13 ?_
    unfold f_Md_total
    rw [if_pos rfl]
    have := p_count (nD := 2048) (D := D2) (nT := 40) (TP := TP) (tl := Int32.ofNat l) (kp := Int32.ofNat K') (nx := Int32.ofNat N') (cm := Int32.ofNat c) (cr := Int32.ofNat (r + 1)) (th := 0) (op := 0) (fo := fo) (om := 0) (ob := 0) (np := Int32.ofNat P') (tu := Int32.ofNat t) (od := Int32.ofNat old') (nB := 41) (bk := bk2) (nW := 2624) (W := W2) (nO := 41) (oo := oo2) (wt := 0) (vs := es'.map nv) (p0 := 0) (t0 := 0) (x := 0) (show K' < 2147483648 by omega) rfl f2.1 (by omega)
    rw [Nat.zero_add, Nat.max_self] at this
    exact this
  · have hpg : pgc 0 P' = P' := by unfold pgc; rw [if_pos rfl]
    refine ⟨⟨f6, f10, by omega, f4, by omega, by omega, by omega, by omega, a9, by omega, a11, by omega⟩, ⟨hB2, hD2⟩, h3, ⟨h4.1, fun i hi => by omega, fun j hj => by omega⟩, f1, ⟨fun _ => ⟨rfl, rfl⟩, fun z => by omega⟩, ⟨K', old', Nat.le_refl _, f2.1⟩, fun e he => ?_⟩
    obtain ⟨g1, g2, g3⟩ := f2.2 e he
    have g4 := (sq_mem f2.1 he).2.2
    exact ⟨by unfold cur; rw [if_pos rfl]; exact g1, fun _ => ⟨g2, g4, fun i hi => by omega, by omega⟩, fun _ => g3⟩
end
