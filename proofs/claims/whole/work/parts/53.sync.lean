/-! WAITING WRITES ARE DONE, by both -/
def dsk (uw : Nat → Int32) (pl : Nat → Nat) : Nat → Nat → (Nat → Int32) → Nat → Int32
  | _, 0, u => u
  | k, n + 1, u => dsk uw pl (k + 1) n (cpy u uw (64 * pl k) (64 * k) 64)
def odn (ol : Nat → Nat) : Nat → Nat → Nat → Nat
  | _, 0, o => o
  | k, n + 1, o => odn ol (k + 1) n (if 0 < ol k then ol k else o)
theorem odn_le {ol : Nat → Nat} {B : Nat} : ∀ (n k o : Nat), o ≤ B → (∀ i, k ≤ i → i < k + n → ol i ≤ B) → odn ol k n o ≤ B
  | 0, _, _, h, _ => h
  | n + 1, k, o, h, h2 => by
    unfold odn
    refine odn_le n (k + 1) _ ?_ (fun i h3 h4 => h2 i (by omega) (by omega))
    by_cases c1 : 0 < ol k
    · rw [if_pos c1]; exact h2 k (by omega) (by omega)
    · rw [if_neg c1]; exact h
theorem odn_pos {ol : Nat → Nat} : ∀ (n k o : Nat), 1 ≤ o → 1 ≤ odn ol k n o
  | 0, _, _, h => h
  | n + 1, k, o, h => by
    unfold odn
    refine odn_pos n (k + 1) _ ?_
    by_cases c1 : 0 < ol k
    · rw [if_pos c1]; exact c1
    · rw [if_neg c1]; exact h
section
variable {BD BW pA BR pb sb BT : Nat → Int32} {wc oP uS nP ckp cnx ht ho hk ctl tt ccm ccr : Int32}
theorem p_dow {uw : Nat → Int32} {pl ol : Nat → Nat} {q w : Nat} (hBW : Bv BW uw) (hw : w ≤ 41) (hq : q ≤ w) (hp : ∀ i, i < w → pA i = Int32.ofNat (pl i) ∧ pl i < 32 ∧ (pl i < 2 → 0 < ol i ∧ w32 uw (64 * i + 4) = Int32.ofNat (ol i)) ∧ (2 ≤ pl i → ol i = 0)) :
    ∀ (n k f : Nat) (B u : Nat → Int32) (h1 h2 : Int32) (o : Nat), k + n = q → n < f → Bv B u → ∃ B' h1' h2', Bv B' (dsk uw pl k n u) ∧ f_RJ_doWrites_L2 32 2048 BD 41 2624 BW 41 pA wc 30 1920 BR oP uS nP 750 pb 750 sb ckp cnx ht ho hk 40 BT ctl tt ccm ccr (Int32.ofNat q) f B h1 (Int32.ofNat o) h2 (Int32.ofNat k) = some (B', h1', Int32.ofNat (odn ol k n o), h2') := by
  intro n
  induction n with
  | zero =>
    intro k f B u h1 h2 o hkq hf hB
    obtain ⟨f, rfl⟩ : ∃ z, f = z + 1 := ⟨f - 1, by omega⟩
    refine ⟨B, h1, h2, hB, ?_⟩
    rw [f_RJ_doWrites_L2.eq_2, pi_le (by omega) (by omega), if_pos (by omega)]
    rfl
  | succ n ih =>
    intro k f B u h1 h2 o hkq hf hB
    obtain ⟨f, rfl⟩ : ∃ z, f = z + 1 := ⟨f - 1, by omega⟩
    obtain ⟨g1, g2, g3, g4⟩ := hp k (by omega)
    obtain ⟨B1, e1, hB1⟩ := dw_copy hB hBW (r := pl k) (r' := k) (n := 64) g2 (by omega) (by omega)
    have e0 : f_Wt_placeOf 41 2624 BW 41 pA wc (Int32.ofNat k) = some (Int32.ofNat (pl k)) := by
      unfold f_Wt_placeOf
      rw [if_neg (pn_neg (by omega)), pi_le (by omega) (by omega), if_neg (by omega), pn_ck (by omega) (by omega), pn_nat (by omega), g1]
    have e9 : (2 : Int32) ≤ Int32.ofNat (pl k) ↔ 2 ≤ pl k := by rw [nl_2, pn_le (by omega) (by omega)]
    have eL : f_RJ_doWrites_L2 32 2048 BD 41 2624 BW 41 pA wc 30 1920 BR oP uS nP 750 pb 750 sb ckp cnx ht ho hk 40 BT ctl tt ccm ccr (Int32.ofNat q) (f + 1) B h1 (Int32.ofNat o) h2 (Int32.ofNat k) = if 2 ≤ pl k then f_RJ_doWrites_L2 32 2048 BD 41 2624 BW 41 pA wc 30 1920 BR oP uS nP 750 pb 750 sb ckp cnx ht ho hk 40 BT ctl tt ccm ccr (Int32.ofNat q) f B1 h1 (Int32.ofNat o) h2 (Int32.ofNat (k + 1)) else f_RJ_doWrites_L2 32 2048 BD 41 2624 BW 41 pA wc 30 1920 BR oP uS nP 750 pb 750 sb ckp cnx ht ho hk 40 BT ctl tt ccm ccr (Int32.ofNat q) f B1 (w32 uw (64 * k)) (w32 uw (64 * k + 4)) (w32 uw (64 * k + 8)) (Int32.ofNat (k + 1)) := by
      rw [f_RJ_doWrites_L2.eq_2, pi_le (by omega) (by omega), if_neg (by omega), e0, Option.bind_some, nl_64, e1, Option.bind_some, w_readFrom hBW (by omega), Option.bind_some]
      by_cases c1 : 2 ≤ pl k
      · rw [if_pos (e9.mpr c1), if_pos c1, nl_1, pn_add]
      · rw [if_neg (fun z => c1 (e9.mp z)), if_neg c1, nl_1, pn_add]
    rw [eL]
    unfold dsk odn
    by_cases c1 : 2 ≤ pl k
    · rw [if_pos c1, if_neg (by have := g4 c1; omega)]
      exact ih (k + 1) f B1 _ h1 h2 o (by omega) (by omega) hB1
    · obtain ⟨z1, z2⟩ := g3 (by omega)
      rw [if_neg c1, if_pos z1, z2]
      exact ih (k + 1) f B1 _ _ _ (ol k) (by omega) (by omega) hB1
end
/-- what the reference holds, once k of them are done -/
def rst (bk oo W uw : Nat → Int32) (pl ol : Nat → Nat) (k n : Nat) : Prop := (∀ i, i < n → bk i = Int32.ofNat (pl (k + i)) ∧ oo i = Int32.ofNat (ol (k + i)) ∧ pl (k + i) < 32 ∧ ol (k + i) < 2147483648) ∧ ∀ j, j < 64 * n → W j = uw (64 * k + j)
theorem rst_next {bk oo W uw : Nat → Int32} {pl ol : Nat → Nat} {k n : Nat} (h : rst bk oo W uw pl ol k (n + 1)) : rst (shf bk 1 n) (shf oo 1 n) (shf W 64 (64 * n)) uw pl ol (k + 1) n := by
  refine ⟨fun i hi => ?_, fun j hj => ?_⟩
  · unfold shf
    rw [if_pos hi, if_pos hi, show k + 1 + i = k + (i + 1) by omega]
    exact h.1 (i + 1) (by omega)
  · unfold shf
    rw [if_pos hj, h.2 _ (by omega)]
    congr 1; omega
theorem rst_disk {bk oo W uw D u : Nat → Int32} {pl ol : Nat → Nat} {k n c : Nat} (hc : c ≤ 64) (h : rst bk oo W uw pl ol k (n + 1)) (hD : ∀ j, j < 2048 → D j = u j) : ∀ j, j < 2048 → cpy D W (64 * pl k) 0 c j = cpy u uw (64 * pl k) (64 * k) c j := fun j hj => by
  unfold cpy
  by_cases c1 : 64 * pl k ≤ j ∧ j < 64 * pl k + c
  · rw [if_pos c1, if_pos c1, h.2 _ (by omega)]
    congr 1; omega
  · rw [if_neg c1, if_neg c1, hD j hj]
section
variable {nD nT nB nW nO : Nat} {D TP bk W oo : Nat → Int32} {tl kp nx cm cr th op fo om ob np tu od wt : Int32}
theorem p_dof {bk1 oo1 W1 uw D1 u : Nat → Int32} {pl ol : Nat → Nat} {k n o : Nat} (hn : n < 41) (h : rst bk1 oo1 W1 uw pl ol k (n + 1)) (hD : ∀ j, j < 2048 → D1 j = u j) :
    ∃ D2 bk2 oo2 W2, (∀ j, j < 2048 → D2 j = cpy u uw (64 * pl k) (64 * k) 64 j) ∧ rst bk2 oo2 W2 uw pl ol (k + 1) n ∧ f_Md_doFirst 2048 D1 nT TP tl kp nx cm cr th op fo om ob np tu (Int32.ofNat o) 41 bk1 2624 W1 41 oo1 (Int32.ofNat (n + 1)) = some (D2, Int32.ofNat (if 0 < ol k then ol k else o), bk2, W2, oo2, Int32.ofNat n) := by
  obtain ⟨g1, g2, g3, g4⟩ := h.1 0 (by omega)
  rw [Nat.add_zero] at g1 g2 g3 g4
  refine ⟨_, _, _, _, rst_disk (by omega) h hD, rst_next h, ?_⟩
  rw [pm_do hn g3 g1 g2 g4]
  by_cases z : 0 < ol k
  · rw [if_pos z, if_pos z]
  · rw [if_neg z, if_neg z]
theorem p_sync1 {vs : List NV} {uw : Nat → Int32} {pl ol : Nat → Nat} {y1 t0 o0 m0 b0 : Int32} : ∀ (n k f : Nat) (D1 u bk1 oo1 W1 : Nat → Int32) (o : Nat), n ≤ 41 → n < f → rst bk1 oo1 W1 uw pl ol k n → (∀ j, j < 2048 → D1 j = u j) →
      ∃ D2 bk2 oo2 W2, (∀ j, j < 2048 → D2 j = dsk uw pl k n u j) ∧ f_Md_sync_L28 vs 2048 D nT TP tl kp nx cm cr th op fo om ob np tu od 41 bk 2624 W 41 oo wt y1 t0 o0 m0 b0 f D1 (Int32.ofNat o) bk1 W1 oo1 (Int32.ofNat n) = some (y1, D2, t0, o0, m0, b0, Int32.ofNat (odn ol k n o), bk2, W2, oo2, Int32.ofNat 0, vs) := by
  intro n
  induction n with
  | zero =>
    intro k f D1 u bk1 oo1 W1 o _ hf _ hD
    obtain ⟨f, rfl⟩ : ∃ z, f = z + 1 := ⟨f - 1, by omega⟩
    refine ⟨D1, bk1, oo1, W1, hD, ?_⟩
    rw [f_Md_sync_L28.eq_2, pi_le0 (by omega), if_pos rfl]
    rfl
  | succ n ih =>
    intro k f D1 u bk1 oo1 W1 o hn hf h hD
    obtain ⟨f, rfl⟩ : ∃ z, f = z + 1 := ⟨f - 1, by omega⟩
    obtain ⟨D2, bk2, oo2, W2, a1, a2, a3⟩ := p_dof (nT := nT) (TP := TP) (tl := tl) (kp := kp) (nx := nx) (cm := cm) (cr := cr) (th := t0) (op := o0) (fo := fo) (om := m0) (ob := b0) (np := np) (tu := tu) (o := o) (by omega) h hD
    rw [f_Md_sync_L28.eq_2, pi_le0 (by omega), if_neg (by omega), a3, Option.bind_some]
    unfold dsk odn
    exact ih (k + 1) f D2 _ bk2 oo2 W2 _ (by omega) (by omega) a2 a1
end
section
variable {BD BW pA BR pb sb BT D TP bk W oo : Nat → Int32} {K N P O b m T old w c r l : Nat} {uS fo ht hk th : Int32} {es : List Ent} {rem : Nat}
/-- sync -/
theorem p_sync2 {vs : List NV} {ud uw : Nat → Int32} {pl ol : Nat → Nat} {v pg : Nat} {BW' pA' BR' bk' W' oo' : Nat → Int32} {q1 t0 o0 m0 b0 : Int32} (hv : v ≤ 41) (hD : sDisk BD D ud) (hW : sWait BW' pA' bk' W' oo' uw pl ol pg v) (hpg : pg < 2147483648) :
    ∃ B' D' bk2 oo2 W2 h1 h2, sDisk B' D' (dsk uw pl 0 v ud) ∧ f_RJ_doWrites 32 2048 BD 41 2624 BW' 41 pA' (Int32.ofNat v) 30 1920 BR' q1 uS (Int32.ofNat P) 750 pb 750 sb (Int32.ofNat K) (Int32.ofNat N) ht (Int32.ofNat old) hk 40 BT (Int32.ofNat l) (Int32.ofNat T) (Int32.ofNat c) (Int32.ofNat r) (Int32.ofNat v) = some (B', h1, Int32.ofNat (odn ol 0 v old), h2) ∧
      f_Md_sync_L28 vs 2048 D 40 TP (Int32.ofNat l) (Int32.ofNat K) (Int32.ofNat N) (Int32.ofNat c) (Int32.ofNat r) th (Int32.ofNat O) fo (Int32.ofNat m) (Int32.ofNat b) (Int32.ofNat P) (Int32.ofNat T) (Int32.ofNat old) 41 bk 2624 W 41 oo (Int32.ofNat w) (Int32.ofNat v) t0 o0 m0 b0 5000 D (Int32.ofNat old) bk' W' oo' (Int32.ofNat v) = some (Int32.ofNat v, D', t0, o0, m0, b0, Int32.ofNat (odn ol 0 v old), bk2, W2, oo2, 0, vs) := by
  obtain ⟨hW1, hW2, hW3⟩ := hW
  obtain ⟨B', h1, h2, hB, e1⟩ := p_dow (BD := BD) (BR := BR') (wc := Int32.ofNat v) (oP := q1) (uS := uS) (nP := Int32.ofNat P) (pb := pb) (sb := sb) (ckp := Int32.ofNat K) (cnx := Int32.ofNat N) (ht := ht) (ho := Int32.ofNat old) (hk := hk) (BT := BT) (ctl := Int32.ofNat l) (tt := Int32.ofNat T) (ccm := Int32.ofNat c) (ccr := Int32.ofNat r) hW1 (show v ≤ 41 by omega) (Nat.le_refl v) (fun i hi => by obtain ⟨a1, a2, a3, a4, a5, a6, a7⟩ := hW2 i hi; exact ⟨a1, a3, a6, a7⟩) v 0 50 BD ud ht hk old (by omega) (by omega) hD.1
  obtain ⟨D', bk2, oo2, W2, hD2, e2⟩ := p_sync1 (D := D) (nT := 40) (TP := TP) (tl := Int32.ofNat l) (kp := Int32.ofNat K) (nx := Int32.ofNat N) (cm := Int32.ofNat c) (cr := Int32.ofNat r) (th := th) (op := Int32.ofNat O) (fo := fo) (om := Int32.ofNat m) (ob := Int32.ofNat b) (np := Int32.ofNat P) (tu := Int32.ofNat T) (od := Int32.ofNat old) (bk := bk) (W := W) (oo := oo) (wt := Int32.ofNat w) (vs := vs) (uw := uw) (pl := pl) (ol := ol) (y1 := Int32.ofNat v) (t0 := t0) (o0 := o0) (m0 := m0) (b0 := b0) v 0 5000 D ud bk' oo' W' old hv (by omega) ⟨fun i hi => by obtain ⟨a1, a2, a3, a4, a5, a6, a7⟩ := hW2 i hi; rw [Nat.zero_add]; exact ⟨a2, a4, a3, by omega⟩, fun j hj => by rw [Nat.mul_zero, Nat.zero_add]; exact hW3 j hj⟩ hD.2
  exact ⟨B', D', bk2, oo2, W2, h1, h2, ⟨hB, hD2⟩, e1, e2⟩
theorem o_sync (h : SX BD BW pA BR pb sb BT D TP bk W oo K N P O b m T old w c r l uS fo es rem) : ∃ (a : Int32) (B' BW' pA' BR' D' bk' W' oo' : Nat → Int32) (O' b' m' old' : Nat) (h1 h2 : Int32) (es' : List Ent), f_RJ_sync 32 2048 BD 41 2624 BW 41 pA (Int32.ofNat w) 30 1920 BR (Int32.ofNat O) uS (Int32.ofNat P) 750 pb 750 sb (Int32.ofNat K) (Int32.ofNat N) ht (Int32.ofNat old) hk 40 BT (Int32.ofNat l) (Int32.ofNat T) (Int32.ofNat c) (Int32.ofNat r) = some (a, B', BW', pA', 0, BR', Int32.ofNat O', h1, Int32.ofNat old', h2) ∧
      f_Md_sync (es.map nv) 2048 D 40 TP (Int32.ofNat l) (Int32.ofNat K) (Int32.ofNat N) (Int32.ofNat c) (Int32.ofNat r) th (Int32.ofNat O) fo (Int32.ofNat m) (Int32.ofNat b) (Int32.ofNat P) (Int32.ofNat T) (Int32.ofNat old) 41 bk 2624 W 41 oo (Int32.ofNat w) = some (a, D', 0, Int32.ofNat O', Int32.ofNat m', Int32.ofNat b', Int32.ofNat old', bk', W', oo', 0, es'.map nv) ∧ SX B' BW' pA' BR' pb sb BT D' TP bk' W' oo' K N P O' b' m' T old' 0 c r l uS fo es' rem := by
  obtain ⟨ud, uw, ur, ut, pl, ol, ⟨a1, a2, a3, a4, a5, a6, a7, a8, a9, a10, a11, a12⟩, h2, h3, h4, h5, h6, h7⟩ := h
  have hpp : pgc O P ≤ P := by unfold pgc; split <;> omega
  have hbm : m ≤ 51 ∧ b ≤ 51 := by
    by_cases z : O = 0
    · have := h6.1 z; omega
    · have := h6.2 (by omega); omega
  unfold f_RJ_sync f_Md_sync
  rw [pi_le0 (by omega), pi_le0 (by omega)]
  by_cases c1 : m = 0
  · -- nothing to close
    obtain ⟨B', D', bk2, oo2, W2, k1, k2, e1, e2, e3⟩ := p_sync2 (BR' := BR) (P := P) (O := O) (b := b) (m := m) (K := K) (N := N) (T := T) (old := old) (w := w) (c := c) (r := r) (l := l) (bk := bk) (W := W) (oo := oo) (fo := fo) (th := th) (ht := ht) (hk := hk) (BT := BT) (TP := TP) (pb := pb) (sb := sb) (uS := uS) (vs := es.map nv) (q1 := Int32.ofNat O) (t0 := 0) (o0 := Int32.ofNat O) (m0 := Int32.ofNat m) (b0 := Int32.ofNat b) (show w ≤ 41 by omega) h2 h4 (by omega)
    have hcl : f_RJ_closeOpenPage 32 2048 BD 41 2624 BW 41 pA (Int32.ofNat w) 30 1920 BR (Int32.ofNat O) uS (Int32.ofNat P) 750 pb 750 sb (Int32.ofNat K) (Int32.ofNat N) ht (Int32.ofNat old) hk 40 BT (Int32.ofNat l) (Int32.ofNat T) (Int32.ofNat c) (Int32.ofNat r) = some (BW, pA, Int32.ofNat w, BR, Int32.ofNat O) := by
      unfold f_RJ_closeOpenPage
      rw [p_openCount h5 (by omega) h6, Option.bind_some, c1, if_pos (show Int32.ofNat 0 = 0 from rfl)]
    refine ⟨Int32.ofNat w, B', BW, pA, BR, D', bk2, W2, oo2, O, b, m, odn ol 0 w old, k1, k2, es, ?_, ?_, dsk uw pl 0 w ud, uw, ur, ut, pl, ol, ?_⟩
    · rw [hcl, Option.bind_some, e2, Option.bind_some]
    · rw [if_pos c1, e3]
      split <;> rfl
    · obtain ⟨h7a, h7b⟩ := h7
      refine ⟨⟨a1, a2, a3, odn_pos _ _ _ a4, odn_le _ _ _ a5 (fun i _ hi => (h4.2.1 i (by omega)).2.2.2.2.1), a6, a7, by omega, a9, a10, a11, a12⟩, e1, h3, ⟨h4.1, fun i hi => by omega, fun j hj => by omega⟩, h5, h6, h7a, fun e he => ?_⟩
      obtain ⟨f1, f2, f3⟩ := h7b e he
      refine ⟨f1, fun z => ?_, f3⟩
      obtain ⟨g1, g2, g3, g4⟩ := f2 z
      exact ⟨g1, odn_le _ _ _ g2 (fun i _ hi => g3 i (by omega)), fun i hi => by omega, g4⟩
  · have hO : 0 < O := by
      by_cases z : O = 0
      · have := (h6.1 z).2; omega
      · omega
    obtain ⟨B5, B4, W', uw', us, pl', ol', e4, e5, g1, g2, g3, g4⟩ := p_close (BD := BD) (D := D) (nT := 40) (TP := TP) (tl := Int32.ofNat l) (nx := Int32.ofNat N) (cm := Int32.ofNat c) (cr := Int32.ofNat r) (th := 0) (np := Int32.ofNat P) (tu := Int32.ofNat T) (od := Int32.ofNat old) (nP := Int32.ofNat P) (ckp := Int32.ofNat K) (cnx := Int32.ofNat N) (ht := ht) (ho := Int32.ofNat old) (hk := hk) (BT := BT) (ctl := Int32.ofNat l) (tt := Int32.ofNat T) (ccm := Int32.ofNat c) (ccr := Int32.ofNat r) (vs := es.map nv) (n1 := 0) (n2 := 0) (q1 := D) (show w < 41 by omega) hO (by omega) (by omega) a2 (by omega) h4 h5 h6 h7
    obtain ⟨B', D', bk2, oo2, W2, k1, k2, e1, e2, e3⟩ := p_sync2 (BR' := B4) (P := P) (O := O) (b := b) (m := m) (K := K) (N := N) (T := T) (old := old) (w := w) (c := c) (r := r) (l := l) (bk := bk) (W := W) (oo := oo) (fo := fo) (th := th) (ht := ht) (hk := hk) (BT := BT) (TP := TP) (pb := pb) (sb := sb) (uS := uS) (vs := (fg K 0 es).map nv) (q1 := 0) (t0 := 0) (o0 := 0) (m0 := 0) (b0 := 0) (show w + 1 ≤ 41 by omega) h2 g1 (by unfold pgc; rw [if_pos rfl]; omega)
    have hpg0 : pgc 0 P = P := by unfold pgc; rw [if_pos rfl]
    refine ⟨Int32.ofNat (w + 1), B', B5, upd pA w (Int32.ofNat (2 + rw30 O)), B4, D', bk2, W2, oo2, 0, 0, 0, odn ol' 0 (w + 1) old, k1, k2, fg K 0 es, ?_, ?_, dsk uw' pl' 0 (w + 1) ud, uw', us, ut, pl', ol', ?_⟩
    · rw [e4, Option.bind_some, e2, Option.bind_some]; rfl
    · rw [if_neg (by omega), if_neg c1, e5, Option.bind_some, e3]; rfl
    · obtain ⟨h7a, h7b⟩ := g3
      refine ⟨⟨a1, a2, a3, odn_pos _ _ _ a4, odn_le _ _ _ (by omega) (fun i _ hi => by have := g4 i (by omega); omega), a6, a7, by omega, a9, a10, a11, by omega⟩, e1, h3, ⟨g1.1, fun i hi => by omega, fun j hj => by omega⟩, g2, ⟨fun _ => ⟨rfl, rfl⟩, fun z => by omega⟩, h7a, fun e he => ?_⟩
      obtain ⟨f1, f2, f3⟩ := h7b e he
      refine ⟨f1, fun z => ?_, f3⟩
      obtain ⟨j1, j2, j3, j4⟩ := f2 z
      exact ⟨j1, odn_le _ _ _ j2 (fun i _ hi => j3 i (by omega)), fun i hi => by omega, j4⟩
end
