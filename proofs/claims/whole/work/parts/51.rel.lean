/-! THE TWO STATES, SIDE BY SIDE -/
def pgc (O P : Nat) : Nat := if O = 0 then P else O
def cur (O P b : Nat) : Nat := if O = 0 then 25 * P else 25 * O + b / 2
/-- the entries of PAGE O lie one behind the other -/
def lay (O : Nat) : Nat → List Ent → Nat → Prop
  | k, [], u => k = u
  | k, e :: t, u => (ep e = O ∧ eo e = k ∧ lay O (k + 2 + el e) t u) ∨ (ep e ≠ O ∧ lay O k t u)
def sNum (K N P O T old w c r l rem : Nat) : Prop := 1 ≤ K ∧ K ≤ N ∧ N + rem ≤ 1002000 ∧ 1 ≤ old ∧ old ≤ pgc O P ∧ P + rem ≤ 1002000 ∧ T + rem ≤ 1002000 ∧ w ≤ 40 ∧ c ≤ 3000 ∧ r ≤ 300 ∧ l ≤ 40 ∧ O < P
def sDisk (BD D ud : Nat → Int32) : Prop := Bv BD ud ∧ ∀ j, j < 2048 → D j = ud j
def sTape (BT TP ut : Nat → Int32) (l : Nat) : Prop := Bv BT ut ∧ ∀ j, j < l → TP j = ut j
def sWt (pA bk oo uw : Nat → Int32) (pl ol : Nat → Nat) (pg i : Nat) : Prop := pA i = Int32.ofNat (pl i) ∧ bk i = Int32.ofNat (pl i) ∧ pl i < 32 ∧ oo i = Int32.ofNat (ol i) ∧ ol i ≤ pg ∧ (pl i < 2 → 0 < ol i ∧ w32 uw (64 * i + 4) = Int32.ofNat (ol i)) ∧ (2 ≤ pl i → ol i = 0)
def sWait (BW pA bk W oo uw : Nat → Int32) (pl ol : Nat → Nat) (pg w : Nat) : Prop := Bv BW uw ∧ (∀ i, i < w → sWt pA bk oo uw pl ol pg i) ∧ ∀ j, j < 64 * w → W j = uw j
def opn (ur : Nat → Int32) (O b m : Nat) (fo : Int32) : Prop := (∀ j, j < 4 → ur (64 * rw30 O + j) = put32 (fun _ => 0) 0 (Int32.ofNat O) (0 + j)) ∧ (∀ j, j < 4 → ur (64 * rw30 O + 4 + j) = put32 (fun _ => 0) 0 fo (0 + j)) ∧ ur (64 * rw30 O + 8) = Int32.ofNat m ∧ ∀ j, 9 + b ≤ j → j < 64 → ur (64 * rw30 O + j) = 0
def sOpen (ur : Nat → Int32) (O P b m : Nat) (uS fo : Int32) (es : List Ent) : Prop := (O = 0 → b = 0 ∧ m = 0) ∧ (0 < O → O + 1 = P ∧ uS = Int32.ofNat (9 + b) ∧ b ≤ 51 ∧ 2 * m ≤ b ∧ (m = 0 → b = 0) ∧ opn ur O b m fo ∧ lay O 9 es (9 + b))
def sE1 (ur pb sb : Nat → Int32) (ol : Nat → Nat) (K N P O b old w : Nat) (e : Ent) : Prop := fsz P N (cur O P b) e ∧ (K ≤ en e → slt pb sb e ∧ old ≤ ep e ∧ (∀ i, i < w → ol i ≤ ep e) ∧ P ≤ ep e + 30) ∧ (K ≤ en e ∨ ep e = O → rowb ur e)
def sEnt (ur pb sb : Nat → Int32) (ol : Nat → Nat) (K N P O b old w : Nat) (es : List Ent) : Prop := (∃ base lo, base ≤ K ∧ sq base lo es N) ∧ ∀ e ∈ es, sE1 ur pb sb ol K N P O b old w e
def ST (BD BW pA BR pb sb BT D TP bk W oo : Nat → Int32) (K N P O b m T old w c r l : Nat) (uS fo : Int32) (es : List Ent) (rem : Nat) (ud uw ur ut : Nat → Int32) (pl ol : Nat → Nat) : Prop :=
  sNum K N P O T old w c r l rem ∧ sDisk BD D ud ∧ sTape BT TP ut l ∧ sWait BW pA bk W oo uw pl ol (pgc O P) w ∧ Bv BR ur ∧ sOpen ur O P b m uS fo es ∧ sEnt ur pb sb ol K N P O b old w es
def SX (BD BW pA BR pb sb BT D TP bk W oo : Nat → Int32) (K N P O b m T old w c r l : Nat) (uS fo : Int32) (es : List Ent) (rem : Nat) : Prop := ∃ ud uw ur ut pl ol, ST BD BW pA BR pb sb BT D TP bk W oo K N P O b m T old w c r l uS fo es rem ud uw ur ut pl ol
theorem pn_pred (a : Nat) : Int32.ofNat (a + 1) + (-1) = Int32.ofNat a := by
  rw [← Int32.sub_eq_add_neg, nl_1, pn_sub (by omega)]
  rfl
section
variable {nD nT nB nW nO : Nat} {D TP bk W oo : Nat → Int32} {tl kp nx cm cr th op fo om ob np tu od wt : Int32}
/-- the counting, and the finding, of RECORDS that are kept -/
theorem p_count {vs : List NV} {p0 t0 : Int32} {K : Nat} (hK : K < 2147483648) (hk : kp = Int32.ofNat K) : ∀ {es : List Ent} {lo b0 n x : Nat}, sq b0 lo es n → n < 2147483648 → f_Md_total_L69 vs nD D nT TP tl kp nx cm cr th op fo om ob np tu od nB bk nW W nO oo wt p0 t0 (es.map nv) (Int32.ofNat x) = some (Int32.ofNat (x + (n - max b0 K)), t0)
  | [], lo, b0, n, x, h, _ => by
    have h1 : b0 = n := h
    rw [List.map_nil, f_Md_total_L69.eq_1, show n - max b0 K = 0 by omega, Nat.add_zero]
  | e :: t, lo, b0, n, x, h, hn => by
    have h1 := h.1
    have h2 := sq_len h.2.2
    rw [List.map_cons, f_Md_total_L69.eq_2, show (nv e).1 = Int32.ofNat (en e) from rfl, hk, pi_lt (by omega) hK, ← hk]
    by_cases c1 : en e < K
    · rw [if_pos c1, p_count hK hk h.2.2 hn, show max (b0 + 1) K = max b0 K by omega]
    · rw [if_neg c1, nl_1, pn_add, p_count hK hk h.2.2 hn, show x + 1 + (n - max (b0 + 1) K) = x + (n - max b0 K) by omega]
theorem p_at {vs : List NV} {p0 : Int32} (hp : ¬ p0 < 0) {K : Nat} (hK : K < 2147483648) (hk : kp = Int32.ofNat K) : ∀ {es : List Ent} {lo b0 n x : Nat}, sq b0 lo es n → n < 2147483648 → x < 2147483648 →
      (max b0 K + x < n → ∃ e ∈ es, en e = max b0 K + x ∧ f_Md_at_L7 vs nD D nT TP tl kp nx cm cr th op fo om ob np tu od nB bk nW W nO oo wt p0 (es.map nv) (Int32.ofNat x) = some (some (nv e))) ∧ (n ≤ max b0 K + x → f_Md_at_L7 vs nD D nT TP tl kp nx cm cr th op fo om ob np tu od nB bk nW W nO oo wt p0 (es.map nv) (Int32.ofNat x) = some none)
  | [], lo, b0, n, x, h, _, _ => by
    have h1 : b0 = n := h
    exact ⟨fun z => by omega, fun _ => rfl⟩
  | e :: t, lo, b0, n, x, h, hn, hx => by
    have h1 := h.1
    have h2 := sq_len h.2.2
    rw [List.map_cons, f_Md_at_L7.eq_2, if_neg hp, show (nv e).1 = Int32.ofNat (en e) from rfl, hk, pi_lt (by omega) hK, ← hk]
    by_cases c1 : en e < K
    · rw [if_pos c1]
      obtain ⟨b1, b2⟩ := p_at (vs := vs) hp hK hk h.2.2 hn hx
      rw [show max (b0 + 1) K = max b0 K by omega] at b1 b2
      refine ⟨fun z => ?_, b2⟩
      obtain ⟨e1, f1, f2, f3⟩ := b1 z
      exact ⟨e1, List.mem_cons_of_mem _ f1, f2, f3⟩
    · rw [if_neg c1, pn_zero, pi_eq hx (by omega)]
      cases x with
      | zero =>
        rw [if_pos rfl]
        exact ⟨fun _ => ⟨e, List.mem_cons_self .., by omega, rfl⟩, fun z => by omega⟩
      | succ x =>
        rw [if_neg (by omega), pn_pred]
        obtain ⟨b1, b2⟩ := p_at (vs := vs) hp hK hk h.2.2 hn (x := x) (by omega)
        rw [show max (b0 + 1) K + x = max b0 K + (x + 1) by omega] at b1 b2
        refine ⟨fun z => ?_, b2⟩
        obtain ⟨e1, f1, f2, f3⟩ := b1 z
        exact ⟨e1, List.mem_cons_of_mem _ f1, f2, f3⟩
end
section
variable {BD BW pA BR pb sb BT D TP bk W oo : Nat → Int32} {K N P O b m T old w c r l : Nat} {uS fo ht hk th : Int32} {es : List Ent} {rem : Nat}
theorem SX.less (h : SX BD BW pA BR pb sb BT D TP bk W oo K N P O b m T old w c r l uS fo es rem) {q : Nat} (hq : q ≤ rem) : SX BD BW pA BR pb sb BT D TP bk W oo K N P O b m T old w c r l uS fo es q := by
  obtain ⟨ud, uw, ur, ut, pl, ol, ⟨a1, a2, a3, a4, a5, a6, a7, a8⟩, h2⟩ := h
  exact ⟨ud, uw, ur, ut, pl, ol, ⟨a1, a2, by omega, a4, a5, by omega, by omega, a8⟩, h2⟩
/-- disk, spoil -/
theorem o_disk (h : SX BD BW pA BR pb sb BT D TP bk W oo K N P O b m T old w c r l uS fo es rem) (x y : Int32) : ∃ a, f_RJ_disk 32 2048 BD 41 2624 BW 41 pA (Int32.ofNat w) 30 1920 BR (Int32.ofNat O) uS (Int32.ofNat P) 750 pb 750 sb (Int32.ofNat K) (Int32.ofNat N) ht (Int32.ofNat old) hk 40 BT (Int32.ofNat l) (Int32.ofNat T) (Int32.ofNat c) (Int32.ofNat r) x y = some a ∧ f_Md_disk 2048 D 40 TP (Int32.ofNat l) (Int32.ofNat K) (Int32.ofNat N) (Int32.ofNat c) (Int32.ofNat r) th (Int32.ofNat O) fo (Int32.ofNat m) (Int32.ofNat b) (Int32.ofNat P) (Int32.ofNat T) (Int32.ofNat old) 41 bk 2624 W 41 oo (Int32.ofNat w) x y = some (a, 0) := by
  obtain ⟨ud, uw, ur, ut, pl, ol, -, ⟨h1, h2⟩, -⟩ := h
  unfold f_RJ_disk f_Md_disk f_Bl_has
  by_cases c1 : x < 0
  · rw [if_pos c1, if_pos c1]; exact ⟨-1, rfl, rfl⟩
  rw [if_neg c1, if_neg c1]
  by_cases c2 : (32 : Int32) ≤ x
  · rw [if_pos c2, if_pos c2]; exact ⟨-1, rfl, rfl⟩
  rw [if_neg c2, if_neg c2]
  by_cases c3 : y < 0
  · rw [if_pos c3, if_pos c3]; exact ⟨-1, rfl, rfl⟩
  rw [if_neg c3, if_neg c3]
  by_cases c4 : (64 : Int32) ≤ y
  · rw [if_pos c4, if_neg (fun z => Int32.not_le.mpr z c4)]; exact ⟨-1, rfl, rfl⟩
  rw [if_neg c4, if_pos (Int32.not_le.mp c4)]
  obtain ⟨i, hi, rfl⟩ := pn_of (n := 32) (by omega) c1 (Int32.not_le.mp c2)
  obtain ⟨j, hj, rfl⟩ := pn_of (n := 64) (by omega) c3 (Int32.not_le.mp c4)
  refine ⟨ud (64 * i + j), ?_, ?_⟩
  · rw [Option.bind_some, if_neg (by decide), d_get h1 hi hj, Option.bind_some]
  · rw [nl_64, pn_mul, pn_add, pn_ck (by omega) (by omega), pn_nat (by omega), h2 _ (by omega)]
theorem o_spoil (h : SX BD BW pA BR pb sb BT D TP bk W oo K N P O b m T old w c r l uS fo es rem) (x y z : Int32) : ∃ (a : Int32) (B' D' : Nat → Int32), f_RJ_spoil 32 2048 BD 41 2624 BW 41 pA (Int32.ofNat w) 30 1920 BR (Int32.ofNat O) uS (Int32.ofNat P) 750 pb 750 sb (Int32.ofNat K) (Int32.ofNat N) ht (Int32.ofNat old) hk 40 BT (Int32.ofNat l) (Int32.ofNat T) (Int32.ofNat c) (Int32.ofNat r) x y z = some (a, B') ∧ f_Md_spoil 2048 D 40 TP (Int32.ofNat l) (Int32.ofNat K) (Int32.ofNat N) (Int32.ofNat c) (Int32.ofNat r) th (Int32.ofNat O) fo (Int32.ofNat m) (Int32.ofNat b) (Int32.ofNat P) (Int32.ofNat T) (Int32.ofNat old) 41 bk 2624 W 41 oo (Int32.ofNat w) x y z = some (a, D', 0) ∧ SX B' BW pA BR pb sb BT D' TP bk W oo K N P O b m T old w c r l uS fo es rem := by
  have h0 := h
  obtain ⟨ud, uw, ur, ut, pl, ol, hn, ⟨h1, h2⟩, h3⟩ := h
  unfold f_RJ_spoil f_Md_spoil f_Bl_has
  by_cases c1 : x < 0
  · rw [if_pos c1, if_pos c1]; exact ⟨0, BD, D, rfl, rfl, h0⟩
  rw [if_neg c1, if_neg c1]
  by_cases c2 : (32 : Int32) ≤ x
  · rw [if_pos c2, if_pos c2]; exact ⟨0, BD, D, rfl, rfl, h0⟩
  rw [if_neg c2, if_neg c2]
  by_cases c3 : y < 0
  · rw [if_pos c3, if_pos c3]; exact ⟨0, BD, D, rfl, rfl, h0⟩
  rw [if_neg c3, if_neg c3]
  by_cases c4 : (64 : Int32) ≤ y
  · rw [if_pos c4, if_neg (fun z => Int32.not_le.mpr z c4)]; exact ⟨0, BD, D, rfl, rfl, h0⟩
  rw [if_neg c4, if_pos (Int32.not_le.mp c4)]
  obtain ⟨i, hi, rfl⟩ := pn_of (n := 32) (by omega) c1 (Int32.not_le.mp c2)
  obtain ⟨j, hj, rfl⟩ := pn_of (n := 64) (by omega) c3 (Int32.not_le.mp c4)
  obtain ⟨B', e1, h4⟩ := pb_set (c := 32) h1 (by omega) hi hj z
  refine ⟨1, B', upd D (64 * i + j) (z &&& 255), ?_, ?_, upd ud (64 * i + j) (z &&& 255), uw, ur, ut, pl, ol, hn, ⟨h4, fun q hq => ?_⟩, h3⟩
  · rw [Option.bind_some, if_neg (by decide)]
    have e2 : f_Bl_set 32 2048 BD (Int32.ofNat i) (Int32.ofNat j) z = some B' := e1
    rw [e2, Option.bind_some]
  · rw [nl_64, pn_mul, pn_add, pn_ck (by omega) (by omega), pn_nat (by omega)]
  · unfold upd
    rw [h2 q hq]
/-- write -/
theorem o_write (h : SX BD BW pA BR pb sb BT D TP bk W oo K N P O b m T old w c r l uS fo es rem) (x y : Int32) : (∃ a, f_RJ_write 32 2048 BD 41 2624 BW 41 pA (Int32.ofNat w) 30 1920 BR (Int32.ofNat O) uS (Int32.ofNat P) 750 pb 750 sb (Int32.ofNat K) (Int32.ofNat N) ht (Int32.ofNat old) hk 40 BT (Int32.ofNat l) (Int32.ofNat T) (Int32.ofNat c) (Int32.ofNat r) x y = some (0, a) ∧ f_Md_write 2048 D 40 TP (Int32.ofNat l) (Int32.ofNat K) (Int32.ofNat N) (Int32.ofNat c) (Int32.ofNat r) th (Int32.ofNat O) fo (Int32.ofNat m) (Int32.ofNat b) (Int32.ofNat P) (Int32.ofNat T) (Int32.ofNat old) 41 bk 2624 W 41 oo (Int32.ofNat w) x y = some (a, 0)) ∨ (f_RJ_write 32 2048 BD 41 2624 BW 41 pA (Int32.ofNat w) 30 1920 BR (Int32.ofNat O) uS (Int32.ofNat P) 750 pb 750 sb (Int32.ofNat K) (Int32.ofNat N) ht (Int32.ofNat old) hk 40 BT (Int32.ofNat l) (Int32.ofNat T) (Int32.ofNat c) (Int32.ofNat r) x y = some (3, 0) ∧ f_Md_write 2048 D 40 TP (Int32.ofNat l) (Int32.ofNat K) (Int32.ofNat N) (Int32.ofNat c) (Int32.ofNat r) th (Int32.ofNat O) fo (Int32.ofNat m) (Int32.ofNat b) (Int32.ofNat P) (Int32.ofNat T) (Int32.ofNat old) 41 bk 2624 W 41 oo (Int32.ofNat w) x y = some (0, 1)) := by
  obtain ⟨ud, uw, ur, ut, pl, ol, hn, -, -, ⟨h1, h2, h3⟩, -⟩ := h
  obtain ⟨-, -, -, -, -, -, -, hw, -⟩ := hn
  unfold f_RJ_write f_Md_write
  by_cases c1 : x < 0
  · rw [if_pos c1, if_pos c1]; exact Or.inr ⟨rfl, rfl⟩
  rw [if_neg c1, if_neg c1]
  by_cases c2 : Int32.ofNat w ≤ x
  · rw [if_pos c2, if_pos c2]; exact Or.inr ⟨rfl, rfl⟩
  rw [if_neg c2, if_neg c2]
  by_cases c3 : y < 0
  · rw [if_pos c3, if_pos c3]; exact Or.inr ⟨rfl, rfl⟩
  rw [if_neg c3, if_neg c3]
  by_cases c4 : y ≤ (64 : Int32)
  rotate_left
  · rw [if_neg c4, if_neg c4]; exact Or.inr ⟨rfl, rfl⟩
  rw [if_pos c4, if_pos c4]
  obtain ⟨i, hi, rfl⟩ := pn_of (by omega) c1 (Int32.not_le.mp c2)
  obtain ⟨j, hj, rfl⟩ := pn_ge c3
  have hj2 : j ≤ 64 := by
    have := c4
    rw [nl_64, pn_le (by omega) (by omega)] at this
    exact this
  left
  by_cases c5 : j = 0
  · subst c5
    obtain ⟨a1, a2, -⟩ := h2 i hi
    refine ⟨Int32.ofNat (pl i), ?_, ?_⟩
    · rw [if_pos (show Int32.ofNat 0 = 0 from rfl)]
      unfold f_Wt_placeOf
      rw [if_neg c1, pi_le (by omega) (by omega), if_neg (by omega), pn_ck (by omega) (by omega), pn_nat (by omega), a1, Option.bind_some]
    · rw [if_pos (show Int32.ofNat 0 = 0 from rfl), pn_ck (by omega) (by omega), pn_nat (by omega), a2]
  · have c6 : ¬ Int32.ofNat j = 0 := by
      rw [pn_zero, pn_eq (by omega) (by omega)]; exact c5
    refine ⟨uw (64 * i + (j - 1)), ?_, ?_⟩
    · rw [if_neg c6, nl_1, pn_sub (by omega), w_get h1 (by omega) (by omega), Option.bind_some]
    · rw [if_neg c6, nl_1, nl_64, pn_mul, pn_add, pn_sub (by omega), pn_ck (by omega) (by omega), pn_nat (by omega), show 64 * i + j - 1 = 64 * i + (j - 1) by omega, h3 _ (by omega)]
/-- total -/
theorem p_openCount {ur : Nat → Int32} (hr : Bv BR ur) (hO : O < 2147483648) (ho : sOpen ur O P b m uS fo es) {q1 q2 : Int32} : f_Pg_openCount 30 1920 BR (Int32.ofNat O) q1 q2 = some (Int32.ofNat m) := by
  unfold f_Pg_openCount
  rw [pn_zero, pi_eq hO (by omega)]
  by_cases c1 : O = 0
  · rw [if_pos c1, (ho.1 c1).2]
  · obtain ⟨-, -, -, -, -, ⟨-, -, a3, -⟩, -⟩ := ho.2 (by omega)
    rw [if_neg c1]
    unfold f_Pg_byteAt
    rw [pc_row (by omega) hO, Option.bind_some, nl_8, r_get hr (rw30_lt O) (by omega), Option.bind_some, a3, Option.bind_some]
theorem o_total (h : SX BD BW pA BR pb sb BT D TP bk W oo K N P O b m T old w c r l uS fo es rem) (x : Int32) : ∃ a, f_RJ_total 32 2048 BD 41 2624 BW 41 pA (Int32.ofNat w) 30 1920 BR (Int32.ofNat O) uS (Int32.ofNat P) 750 pb 750 sb (Int32.ofNat K) (Int32.ofNat N) ht (Int32.ofNat old) hk 40 BT (Int32.ofNat l) (Int32.ofNat T) (Int32.ofNat c) (Int32.ofNat r) x = some a ∧ f_Md_total (es.map nv) 2048 D 40 TP (Int32.ofNat l) (Int32.ofNat K) (Int32.ofNat N) (Int32.ofNat c) (Int32.ofNat r) th (Int32.ofNat O) fo (Int32.ofNat m) (Int32.ofNat b) (Int32.ofNat P) (Int32.ofNat T) (Int32.ofNat old) 41 bk 2624 W 41 oo (Int32.ofNat w) x = some (a, 0) := by
  obtain ⟨ud, uw, ur, ut, pl, ol, ⟨a1, a2, a3, a4, a5, a6, a7, a8⟩, -, -, -, h4, h5, ⟨base, lo, h6, h7⟩, -⟩ := h
  unfold f_RJ_total f_Md_total
  by_cases c0 : x = 0
  · rw [if_pos c0, if_pos c0]
    refine ⟨Int32.ofNat (N - K), ?_, ?_⟩
    · unfold f_Rc_count
      rw [pn_sub a2, Option.bind_some]
    · rw [show (f_Md_total_L69 (es.map nv) 2048 D 40 TP (Int32.ofNat l) (Int32.ofNat K) (Int32.ofNat N) (Int32.ofNat c) (Int32.ofNat r) th (Int32.ofNat O) fo (Int32.ofNat m) (Int32.ofNat b) (Int32.ofNat P) (Int32.ofNat T) (Int32.ofNat old) 41 bk 2624 W 41 oo (Int32.ofNat w) x 0 (es.map nv) 0) = _ from p_count (x := 0) (by omega) rfl h7 (by omega), Nat.zero_add, show max base K = K by omega]
  rw [if_neg c0, if_neg c0, p_openCount h4 (by omega) h5]
  by_cases c1 : x = 1
  · rw [if_pos c1, if_pos c1]; exact ⟨_, rfl, rfl⟩
  rw [if_neg c1, if_neg c1]
  by_cases c2 : x = 2
  · rw [if_pos c2, if_pos c2]; exact ⟨_, rfl, rfl⟩
  rw [if_neg c2, if_neg c2]
  by_cases c3 : x = 3
  · rw [if_pos c3, if_pos c3]; exact ⟨_, rfl, rfl⟩
  rw [if_neg c3, if_neg c3]
  by_cases c4 : x = 4
  · rw [if_pos c4, if_pos c4]; exact ⟨_, rfl, rfl⟩
  rw [if_neg c4, if_neg c4]
  by_cases c5 : x = 5
  · rw [if_pos c5, if_pos c5]; exact ⟨_, rfl, rfl⟩
  rw [if_neg c5, if_neg c5]
  by_cases c6 : x = 6
  · rw [if_pos c6, if_pos c6]; exact ⟨_, rfl, rfl⟩
  rw [if_neg c6, if_neg c6]
  by_cases c7 : x = 7
  · rw [if_pos c7, if_pos c7]; exact ⟨_, rfl, rfl⟩
  rw [if_neg c7, if_neg c7]
  by_cases c8 : x = 8
  · rw [if_pos c8, if_pos c8]; exact ⟨_, rfl, rfl⟩
  rw [if_neg c8, if_neg c8]
  by_cases c9 : x = 9
  · rw [if_pos c9, if_pos c9]; exact ⟨_, rfl, rfl⟩
  rw [if_neg c9, if_neg c9]
  exact ⟨_, rfl, rfl⟩
/-- record -/
theorem o_record (h : SX BD BW pA BR pb sb BT D TP bk W oo K N P O b m T old w c r l uS fo es rem) (x y : Int32) : (∃ a, f_RJ_record 32 2048 BD 41 2624 BW 41 pA (Int32.ofNat w) 30 1920 BR (Int32.ofNat O) uS (Int32.ofNat P) 750 pb 750 sb (Int32.ofNat K) (Int32.ofNat N) ht (Int32.ofNat old) hk 40 BT (Int32.ofNat l) (Int32.ofNat T) (Int32.ofNat c) (Int32.ofNat r) x y = some (0, a) ∧ f_Md_record (es.map nv) 2048 D 40 TP (Int32.ofNat l) (Int32.ofNat K) (Int32.ofNat N) (Int32.ofNat c) (Int32.ofNat r) th (Int32.ofNat O) fo (Int32.ofNat m) (Int32.ofNat b) (Int32.ofNat P) (Int32.ofNat T) (Int32.ofNat old) 41 bk 2624 W 41 oo (Int32.ofNat w) x y = some (a, 0)) ∨ (f_RJ_record 32 2048 BD 41 2624 BW 41 pA (Int32.ofNat w) 30 1920 BR (Int32.ofNat O) uS (Int32.ofNat P) 750 pb 750 sb (Int32.ofNat K) (Int32.ofNat N) ht (Int32.ofNat old) hk 40 BT (Int32.ofNat l) (Int32.ofNat T) (Int32.ofNat c) (Int32.ofNat r) x y = some (3, 0) ∧ f_Md_record (es.map nv) 2048 D 40 TP (Int32.ofNat l) (Int32.ofNat K) (Int32.ofNat N) (Int32.ofNat c) (Int32.ofNat r) th (Int32.ofNat O) fo (Int32.ofNat m) (Int32.ofNat b) (Int32.ofNat P) (Int32.ofNat T) (Int32.ofNat old) 41 bk 2624 W 41 oo (Int32.ofNat w) x y = some (0, 1)) := by
  obtain ⟨ud, uw, ur, ut, pl, ol, ⟨a1, a2, a3, a4, a5, a6, a7, a8⟩, -, -, -, h4, h5, ⟨base, lo, h6, h7⟩, h8⟩ := h
  unfold f_RJ_record f_Md_record f_Md_at
  by_cases c1 : x < 0
  · rw [if_pos c1]
    right
    refine ⟨rfl, ?_⟩
    cases es with
    | nil => rfl
    | cons e t => rw [List.map_cons, f_Md_at_L7.eq_2, if_pos c1]; rfl
  rw [if_neg c1]
  obtain ⟨i, hi, rfl⟩ := pn_ge c1
  obtain ⟨b1, b2⟩ := p_at (vs := es.map nv) (nD := 2048) (D := D) (nT := 40) (TP := TP) (tl := Int32.ofNat l) (kp := Int32.ofNat K) (nx := Int32.ofNat N) (cm := Int32.ofNat c) (cr := Int32.ofNat r) (th := th) (op := Int32.ofNat O) (fo := fo) (om := Int32.ofNat m) (ob := Int32.ofNat b) (np := Int32.ofNat P) (tu := Int32.ofNat T) (od := Int32.ofNat old) (nB := 41) (bk := bk) (nW := 2624) (W := W) (nO := 41) (oo := oo) (wt := Int32.ofNat w) c1 (show K < 2147483648 by omega) rfl h7 (by omega) hi
  rw [show max base K = K by omega] at b1 b2
  unfold f_Rc_count
  rw [pn_sub a2, Option.bind_some, pi_lt hi (by omega)]
  by_cases c2 : i < N - K
  rotate_left
  · rw [if_neg c2, b2 (by omega)]
    exact Or.inr ⟨rfl, rfl⟩
  rw [if_pos c2]
  obtain ⟨e, he, hen, e1⟩ := b1 (by omega)
  rw [e1, Option.bind_some, pn_add]
  obtain ⟨⟨f1, f2, f3, f4, f5, f6, f7, f8⟩, hlive, hrow⟩ := h8 e he
  obtain ⟨⟨g1, g2⟩, -⟩ := hlive (by omega)
  obtain ⟨r1, r2, r3⟩ := hrow (Or.inl (by omega))
  have hbyte : ∀ k, k < 64 → f_Pg_byteAt 30 1920 BR (Int32.ofNat O) uS (Int32.ofNat P) (Int32.ofNat (ep e)) (Int32.ofNat k) = some (ur (64 * rw30 (ep e) + k)) := fun k hk => by
    unfold f_Pg_byteAt
    rw [pc_row f3 (by omega), Option.bind_some, r_get h4 (rw30_lt _) hk, Option.bind_some]
  rw [pc_pageOf (by omega), Option.bind_some, pc_startOf (by omega), Option.bind_some, ← hen, g1, g2, nl_1, pn_add, hbyte _ (by omega), Option.bind_some, ← nl_1, ← Nat.add_assoc, r2]
  show (∃ a, _ = _ ∧ (if y < 0 then _ else if y < 4 + Int32.ofNat (el e) then _ else _) = _) ∨ (_ ∧ (if y < 0 then _ else if y < 4 + Int32.ofNat (el e) then _ else _) = _)
  by_cases c3 : y < 0
  · rw [if_pos c3, if_pos c3]; exact Or.inr ⟨rfl, rfl⟩
  rw [if_neg c3, if_neg c3]
  by_cases c4 : y < 4 + Int32.ofNat (el e)
  rotate_left
  · rw [if_neg c4, if_neg c4]; exact Or.inr ⟨rfl, rfl⟩
  rw [if_pos c4, if_pos c4]
  left
  by_cases d0 : y = 0
  · rw [if_pos d0, if_pos d0]; exact ⟨_, rfl, rfl⟩
  rw [if_neg d0, if_neg d0]
  by_cases d1 : y = 1
  · rw [if_pos d1, if_pos d1, hbyte _ (by omega), Option.bind_some, r1]; exact ⟨_, rfl, rfl⟩
  rw [if_neg d1, if_neg d1]
  by_cases d2 : y = 2
  · rw [if_pos d2, if_pos d2]; exact ⟨_, rfl, rfl⟩
  rw [if_neg d2, if_neg d2]
  by_cases d3 : y = 3
  · rw [if_pos d3, if_pos d3]; exact ⟨_, rfl, rfl⟩
  rw [if_neg d3, if_neg d3]
  obtain ⟨k, hk, rfl⟩ := pn_ge c3
  rw [nl_4, pn_add, pn_lt (by omega) (by omega)] at c4
  rw [pn_zero, pn_eq (by omega) (by omega)] at d0
  rw [nl_1, pn_eq (by omega) (by omega)] at d1
  rw [nl_2, pn_eq (by omega) (by omega)] at d2
  rw [nl_3, pn_eq (by omega) (by omega)] at d3
  refine ⟨eb e (k - 4), ?_, ?_⟩
  · rw [nl_2, pn_add, pn_add, nl_4, pn_sub (by omega), hbyte _ (by omega), Option.bind_some, ← r3 (k - 4) (by omega), show 64 * rw30 (ep e) + (eo e + 2 + k - 4) = 64 * rw30 (ep e) + eo e + 2 + (k - 4) by omega]
  · rw [nl_4, pn_sub (by omega), show (nv e).2.2.2.1 = el e from rfl, show (nv e).2.2.2.2 = eb e from rfl, pn_ck (by omega) (by omega), pn_nat (by omega)]
/-- type -/
theorem i64_255 (y : Int64) : (y &&& (255 : Int64)).toInt32 = y.toInt32 &&& 255 := by
  rw [Int64.toInt32_and]
  rfl
theorem p_type1 (v : Int64) {n : Nat} (hn : n ≤ 8) (hl : l + n ≤ 40) {t0 : Int32} : ∀ (q f g : Nat) (B X u : Nat → Int32), q ≤ n → q < f → q < g → Bv B u → (∀ j, j < l + (n - q) → X j = u j) →
      ∃ B' X' u', Bv B' u' ∧ (∀ j, j < l + n → X' j = u' j) ∧ f_Tp_put_L32 40 BT (Int32.ofNat l) v (Int32.ofNat n) f B (Int32.ofNat (l + (n - q))) (Int32.ofNat q - 1) = some (1, B', Int32.ofNat (l + n)) ∧ f_Md_type_L32 2048 D 40 TP (Int32.ofNat l) (Int32.ofNat K) (Int32.ofNat N) (Int32.ofNat c) (Int32.ofNat r) th (Int32.ofNat O) fo (Int32.ofNat m) (Int32.ofNat b) (Int32.ofNat P) (Int32.ofNat T) (Int32.ofNat old) 41 bk 2624 W 41 oo (Int32.ofNat w) v (Int32.ofNat n) (Int32.ofNat l) t0 g X (Int32.ofNat (n - q)) = some (1, X', Int32.ofNat (l + n), t0) := by
  intro q
  induction q with
  | zero =>
    intro f g B X u _ hf hg hB hX
    obtain ⟨f, rfl⟩ : ∃ z, f = z + 1 := ⟨f - 1, by omega⟩
    obtain ⟨g, rfl⟩ : ∃ z, g = z + 1 := ⟨g - 1, by omega⟩
    refine ⟨B, X, u, hB, hX, ?_, ?_⟩
    · rw [f_Tp_put_L32.eq_2, if_pos (by decide), Nat.sub_zero]
    · rw [f_Md_type_L32.eq_2, Nat.sub_zero, pi_le (by omega) (by omega), if_pos (by omega), pn_add]
  | succ q ih =>
    intro f g B X u hq hf hg hB hX
    obtain ⟨f, rfl⟩ : ∃ z, f = z + 1 := ⟨f - 1, by omega⟩
    obtain ⟨g, rfl⟩ : ∃ z, g = z + 1 := ⟨g - 1, by omega⟩
    have hq1 : Int32.ofNat (q + 1) - 1 = Int32.ofNat q := by rw [nl_1, pn_sub (by omega)]; rfl
    have hq2 : (Int32.ofNat n - 1) - Int32.ofNat (n - (q + 1)) = Int32.ofNat q := by rw [nl_1, pn_sub (by omega), pn_sub (by omega), show n - 1 - (n - (q + 1)) = q by omega]
    obtain ⟨B', X', u', a1, a2, a3, a4⟩ := ih f g _ (upd X (l + (n - (q + 1))) (((v.toUInt64 >>> ((8 * Int32.ofNat q).toInt64.toUInt64 &&& Int64.toUInt64 63)).toInt64 &&& (255 : Int64)).toInt32)) _ (by omega) (by omega) (by omega) (hB.upd (l + (n - (q + 1))) (v.toUInt64 >>> ((8 * Int32.ofNat q).toInt64.toUInt64 &&& Int64.toUInt64 63)).toInt64.toInt32) (fun j hj => by
      unfold upd
      by_cases e1 : j = l + (n - (q + 1))
      · rw [if_pos e1, if_pos e1, i64_255]
      · rw [if_neg e1, if_neg e1]
        exact hX j (by omega))
    refine ⟨B', X', u', a1, a2, ?_, ?_⟩
    · rw [f_Tp_put_L32.eq_2, hq1, if_neg (pn_neg (by omega)), pn_ck (by omega) (by omega), pn_nat (by omega), ← Int32.sub_eq_add_neg, show Int32.ofNat (l + (n - (q + 1))) + 1 = Int32.ofNat (l + (n - q)) by rw [nl_1, pn_add]; congr 1; omega]
      exact a3
    · rw [f_Md_type_L32.eq_2, pi_le (by omega) (by omega), if_neg (by omega), hq2, pn_add, pn_ck (by omega) (by omega), pn_nat (by omega), show Int32.ofNat (n - (q + 1)) + 1 = Int32.ofNat (n - q) by rw [nl_1, pn_add]; congr 1; omega]
      exact a4
theorem o_type (h : SX BD BW pA BR pb sb BT D TP bk W oo K N P O b m T old w c r l uS fo es rem) (v : Int64) (x : Int32) : ∃ (a : Int32) (B' X' : Nat → Int32) (l' : Nat), f_RJ_type 32 2048 BD 41 2624 BW 41 pA (Int32.ofNat w) 30 1920 BR (Int32.ofNat O) uS (Int32.ofNat P) 750 pb 750 sb (Int32.ofNat K) (Int32.ofNat N) ht (Int32.ofNat old) hk 40 BT (Int32.ofNat l) (Int32.ofNat T) (Int32.ofNat c) (Int32.ofNat r) v x = some (a, B', Int32.ofNat l') ∧ f_Md_type 2048 D 40 TP (Int32.ofNat l) (Int32.ofNat K) (Int32.ofNat N) (Int32.ofNat c) (Int32.ofNat r) th (Int32.ofNat O) fo (Int32.ofNat m) (Int32.ofNat b) (Int32.ofNat P) (Int32.ofNat T) (Int32.ofNat old) 41 bk 2624 W 41 oo (Int32.ofNat w) v x = some (a, X', Int32.ofNat l', 0) ∧ SX BD BW pA BR pb sb B' D X' bk W oo K N P O b m T old w c r l' uS fo es rem := by
  have h0 := h
  obtain ⟨ud, uw, ur, ut, pl, ol, ⟨a1, a2, a3, a4, a5, a6, a7, a8, a9, a10, a11, a12⟩, h2, ⟨h3, h4⟩, h5⟩ := h
  unfold f_RJ_type f_Md_type f_Tp_put
  by_cases c1 : x < 1
  · rw [if_pos c1, if_pos c1]; exact ⟨0, BT, TP, l, rfl, rfl, h0⟩
  rw [if_neg c1, if_neg c1]
  by_cases c2 : (8 : Int32) < x
  · rw [if_pos c2, if_pos c2]; exact ⟨0, BT, TP, l, rfl, rfl, h0⟩
  rw [if_neg c2, if_neg c2]
  have c0 : ¬ x < 0 := fun z => c1 (Int32.lt_trans z (by decide))
  obtain ⟨n, hn, rfl⟩ := pn_ge c0
  rw [nl_1, pn_lt (by omega) (by omega)] at c1
  rw [nl_8, pn_lt (by omega) (by omega)] at c2
  rw [pn_add, nl_40]
  by_cases c3 : Int32.ofNat (l + n) ≤ Int32.ofNat 40
  rotate_left
  · rw [if_neg c3, if_neg c3]; exact ⟨0, BT, TP, l, rfl, rfl, h0⟩
  rw [if_pos c3, if_pos c3]
  rw [pn_le (by omega) (by omega)] at c3
  obtain ⟨B', X', u', e1, e2, e3, e4⟩ := p_type1 (BT := BT) (TP := TP) (D := D) (bk := bk) (W := W) (oo := oo) (K := K) (N := N) (P := P) (O := O) (b := b) (m := m) (T := T) (old := old) (w := w) (c := c) (r := r) (fo := fo) (th := th) v (show n ≤ 8 by omega) c3 (t0 := 0) n 10 5000 BT TP ut (by omega) (by omega) (by omega) h3 (fun j hj => h4 j (by omega))
  rw [Nat.sub_self, Nat.add_zero] at e3
  rw [Nat.sub_self] at e4
  refine ⟨1, B', X', l + n, ?_, ?_, ud, uw, ur, u', pl, ol, ⟨a1, a2, a3, a4, a5, a6, a7, a8, a9, a10, c3, a12⟩, h2, ⟨e1, e2⟩, h5⟩
  · rw [e3, Option.bind_some, if_neg (fun z => z (Or.inr rfl))]
  · exact e4
end
