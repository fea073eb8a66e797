/-! small numbers: remainders; the class's rows, places, slots -/
theorem pn_div {a b : Nat} (ha : a < 2147483648) (hb : b < 2147483648) : Int32.ofNat a / Int32.ofNat b = Int32.ofNat (a / b) := by
  apply Int32.toInt_inj.mp
  have hq : a / b ≤ a := Nat.div_le_self a b
  rw [Int32.toInt_div, Int32.toInt_ofNat_of_lt ha, Int32.toInt_ofNat_of_lt hb, Int32.toInt_ofNat_of_lt (by omega)]
  rw [show (Int.tdiv (a : Int) (b : Int)) = ((a / b : Nat) : Int) from (Int.ofNat_tdiv a b).symm]
  generalize a / b = q at hq ⊢
  rw [Int.bmod_eq_of_le (by omega) (by omega)]
theorem pn_mod {a b : Nat} (ha : a < 2147483648) (hb : b < 2147483648) : Int32.ofNat a - Int32.ofNat a / Int32.ofNat b * Int32.ofNat b = Int32.ofNat (a % b) := by
  rw [pn_div ha hb, pn_mul, pn_sub (Nat.div_mul_le_self a b)]
  congr 1
  have := Nat.div_add_mod a b
  rw [Nat.mul_comm] at this
  omega
theorem pn_xor_nn {a b : Nat} (ha : a < 2147483648) (hb : b < 2147483648) : (0 : Int32) ≤ (Int32.ofNat a ^^^ Int32.ofNat b) := by
  rw [Int32.le_iff_toInt_le]
  show (0 : Int) ≤ (Int32.ofNat a ^^^ Int32.ofNat b).toBitVec.toInt
  have h1 : (Int32.ofNat a).toBitVec.msb = false := by
    rw [BitVec.msb_eq_toInt]
    have : (Int32.ofNat a).toBitVec.toInt = (a : Int) := Int32.toInt_ofNat_of_lt ha
    rw [this]; simp
  have h2 : (Int32.ofNat b).toBitVec.msb = false := by
    rw [BitVec.msb_eq_toInt]
    have : (Int32.ofNat b).toBitVec.toInt = (b : Int) := Int32.toInt_ofNat_of_lt hb
    rw [this]; simp
  have h3 : (Int32.ofNat a ^^^ Int32.ofNat b).toBitVec.msb = false := by
    rw [Int32.toBitVec_xor, BitVec.msb_xor, h1, h2]; rfl
  rw [BitVec.msb_eq_toInt] at h3
  rw [decide_eq_false_iff_not] at h3
  omega
theorem pc_fmod {a b : Nat} (ha : a < 2147483648) (hb : b < 2147483648) (h0 : 0 < b) : f_Ma_floorMod (Int32.ofNat a) (Int32.ofNat b) = some (Int32.ofNat (a % b)) := by
  unfold f_Ma_floorMod
  rw [if_neg (by rw [pn_zero, pn_eq hb (by decide)]; omega), if_pos (pn_xor_nn ha hb), pn_mod ha hb]
theorem pn_and1 {a : Nat} (ha : a < 2147483648) : Int32.ofNat a &&& (1 : Int32) = Int32.ofNat (a % 2) := by
  apply Int32.toBitVec_inj.mp
  rw [Int32.toBitVec_and]
  show BitVec.ofNat 32 a &&& 1#32 = BitVec.ofNat 32 (a % 2)
  apply BitVec.eq_of_toNat_eq
  rw [BitVec.toNat_and, BitVec.toNat_ofNat, BitVec.toNat_ofNat, BitVec.toNat_ofNat, Nat.mod_eq_of_lt (show a < 2 ^ 32 by omega), Nat.mod_eq_of_lt (show a % 2 < 2 ^ 32 by omega)]
  show a &&& 1 = _
  rw [Nat.and_one_is_mod]
/-- a PAGE's row -/
def rw30 (p : Nat) : Nat := (p - 1) % 30
theorem rw30_lt (p : Nat) : rw30 p < 30 := Nat.mod_lt _ (by decide)
theorem pc_row {p : Nat} (h1 : 1 ≤ p) (hp : p < 2147483648) : f_Pg_rowOf (Int32.ofNat p) = some (Int32.ofNat (rw30 p)) := by
  unfold f_Pg_rowOf
  rw [nl_1, pn_sub h1, nl_30, pc_fmod (by omega) (by omega) (by omega), Option.bind_some]
  rfl
theorem pc_place {p : Nat} (h1 : 1 ≤ p) (hp : p < 2147483648) : f_Pg_placeOf (Int32.ofNat p) = some (Int32.ofNat (2 + rw30 p)) := by
  unfold f_Pg_placeOf
  rw [pc_row h1 hp, Option.bind_some, nl_2, pn_add]
theorem pm_row {p : Nat} (h1 : 1 ≤ p) (hp : p < 2147483648) : (2 : Int32) + ((Int32.ofNat p - (1 : Int32)) - (Int32.ofNat p - (1 : Int32)) / (30 : Int32) * (30 : Int32)) = Int32.ofNat (2 + rw30 p) := by
  rw [nl_1, pn_sub h1, nl_30, pn_mod (by omega) (by omega), nl_2, pn_add]
  rfl
theorem pc_slot {n : Nat} (hn : n < 2147483648) : f_Rc_slotOf (Int32.ofNat n) = some (Int32.ofNat (n % 750)) := by
  unfold f_Rc_slotOf
  rw [nl_750, pc_fmod hn (by omega) (by omega), Option.bind_some]
theorem pc_add {n : Nat} {pb sb : Nat → Int32} {kp pg s : Int32} (hn : n + 1 < 2147483648) : f_Rc_add 750 pb 750 sb kp (Int32.ofNat n) pg s = some (Int32.ofNat n, upd pb (n % 750) pg, upd sb (n % 750) s, Int32.ofNat (n + 1)) := by
  have h := Nat.mod_lt n (show 0 < 750 by decide)
  unfold f_Rc_add
  rw [pc_slot (by omega), Option.bind_some, pn_ck (by omega) (by omega), pn_ck (by omega) (by omega), pn_nat (by omega), nl_1, pn_add, pn_sub (by omega), Nat.add_sub_cancel]
theorem pc_pageOf {n : Nat} {pb sb : Nat → Int32} {kp nx : Int32} (hn : n < 2147483648) : f_Rc_pageOf 750 pb 750 sb kp nx (Int32.ofNat n) = some (pb (n % 750)) := by
  have h := Nat.mod_lt n (show 0 < 750 by decide)
  unfold f_Rc_pageOf
  rw [pc_slot (by omega), Option.bind_some, pn_ck (by omega) (by omega), pn_nat (by omega)]
theorem pc_startOf {n : Nat} {pb sb : Nat → Int32} {kp nx : Int32} (hn : n < 2147483648) : f_Rc_startOf 750 pb 750 sb kp nx (Int32.ofNat n) = some (sb (n % 750)) := by
  have h := Nat.mod_lt n (show 0 < 750 by decide)
  unfold f_Rc_startOf
  rw [pc_slot (by omega), Option.bind_some, pn_ck (by omega) (by omega), pn_nat (by omega)]
/-! heads -/
def hd3 (u : Nat → Int32) (p : Nat) (t o k : Int32) : Nat → Int32 := put32 (put32 (put32 (clr u p 64) p t) (p + 4) o) (p + 8) k
/-- a HEAD's 64 bytes at p -/
def hdw (u : Nat → Int32) (p : Nat) (t o k : Int32) : Nat → Int32 := put32 (hd3 u p t o k) (p + 60) (crc (hd3 u p t o k) p)
theorem clr_in {u : Nat → Int32} {p n j : Nat} (h : j < n) : clr u p n (p + j) = 0 := by
  rw [clr, if_pos (by omega)]
theorem clr_out {u : Nat → Int32} {p n j : Nat} (h : j < p ∨ p + n ≤ j) : clr u p n j = u j := by
  rw [clr, if_neg (by omega)]
theorem put32_same {u g : Nat → Int32} {p q r j : Nat} {v : Int32} (hj : j < 64) (h : ∀ j, j < 64 → u (p + j) = g (q + j)) : put32 u (p + r) v (p + j) = put32 g (q + r) v (q + j) := by
  by_cases hr : r ≤ j ∧ j < r + 4
  · have := put32_in (u := u) (g := g) (p := p + r) (q := q + r) (v := v) (j := j - r) (by omega)
    rwa [show p + r + (j - r) = p + j by omega, show q + r + (j - r) = q + j by omega] at this
  · rw [put32_out (by omega), put32_out (by omega), h j hj]
theorem hd3_same {u g : Nat → Int32} {p q : Nat} {t o k : Int32} (j : Nat) (hj : j < 64) : hd3 u p t o k (p + j) = hd3 g q t o k (q + j) := by
  unfold hd3
  refine put32_same hj (fun j hj => ?_)
  refine put32_same hj (fun j hj => ?_)
  refine put32_same (r := 0) hj (fun j hj => ?_)
  rw [clr_in hj, clr_in hj]
theorem hdw_same {u g : Nat → Int32} {p q : Nat} {t o k : Int32} (j : Nat) (hj : j < 64) : hdw u p t o k (p + j) = hdw g q t o k (q + j) := by
  unfold hdw
  rw [crc_congr (u := hd3 u p t o k) (g := hd3 g q t o k) (p := p) (q := q) (fun j hj => hd3_same j (by omega))]
  exact put32_same hj hd3_same
theorem hdw_out {u : Nat → Int32} {p j : Nat} {t o k : Int32} (h : j < p ∨ p + 64 ≤ j) : hdw u p t o k j = u j := by
  unfold hdw hd3
  rw [put32_out (by omega), put32_out (by omega), put32_out (by omega), put32_out (by omega), clr_out (by omega)]
theorem hdw_old {u : Nat → Int32} {p : Nat} {t o k : Int32} : w32 (hdw u p t o k) (p + 4) = o := by
  unfold hdw hd3
  rw [w32_congr (g := put32 (put32 (clr u p 64) p t) (p + 4) o) (q := p + 4) (fun j hj => by rw [put32_out (by omega), put32_out (by omega)]), w32_put]
theorem pc_fill {c r : Nat} {B u : Nat → Int32} (h : Bv B u) (hc : c ≤ 41) (hr : r < c) (t o k : Int32) : ∃ B', f_Hd_fill (Int32.ofNat c) (64 * c) B (Int32.ofNat r) t o k = some B' ∧ Bv B' (hdw u (64 * r) t o k) := by
  unfold f_Hd_fill
  obtain ⟨B1, e1, h1⟩ := pb_clear h hc hr
  obtain ⟨B2, e2, h2⟩ := pb_setU32 h1 hc hr (show 0 ≤ 60 by omega) t
  obtain ⟨B3, e3, h3⟩ := pb_setU32 h2 hc hr (show 4 ≤ 60 by omega) o
  obtain ⟨B4, e4, h4⟩ := pb_setU32 h3 hc hr (show 8 ≤ 60 by omega) k
  obtain ⟨B5, e5, h5⟩ := pb_seal h4 hc hr
  refine ⟨B5, ?_, h5⟩
  rw [e1, Option.bind_some, pn_zero, e2, Option.bind_some, nl_4, e3, Option.bind_some, nl_8, e4, Option.bind_some, e5, Option.bind_some]
theorem pc_readFrom {c r : Nat} {B u : Nat → Int32} (h : Bv B u) (hc : c ≤ 41) (hr : r < c) {t o k : Int32} : f_Hd_readFrom t o k (Int32.ofNat c) (64 * c) B (Int32.ofNat r) = some (w32 u (64 * r), w32 u (64 * r + 4), w32 u (64 * r + 8)) := by
  unfold f_Hd_readFrom
  rw [pn_zero, pb_u32 h hc hr (by omega), Option.bind_some, nl_4, pb_u32 h hc hr (by omega), Option.bind_some, nl_8, pb_u32 h hc hr (by omega), Option.bind_some]
  rfl
/-- 1 .. 1000000 -/
def okn (x : Int32) : Prop := ∃ n, 1 ≤ n ∧ n ≤ 1000000 ∧ x = Int32.ofNat n
theorem okn_iff {x : Int32} : okn x ↔ ¬ x < 1 ∧ ¬ (1000000 : Int32) < x := by
  constructor
  · rintro ⟨n, h1, h2, rfl⟩
    rw [nl_1, nl_1000000, pn_lt (by omega) (by omega), pn_lt (by omega) (by omega)]
    omega
  · intro ⟨h1, h2⟩
    have h0 : ¬ x < 0 := fun h => h1 (Int32.lt_trans h (by decide))
    obtain ⟨k, hk, rfl⟩ := pn_ge h0
    rw [nl_1, pn_lt (by omega) (by omega)] at h1
    rw [nl_1000000, pn_lt (by omega) (by omega)] at h2
    exact ⟨k, by omega, by omega, rfl⟩
theorem pc_num (x : Int32) : (okn x ∧ f_RJ_isNumber x = some 1 ∧ f_Md_isNumber x = some 1) ∨ (¬ okn x ∧ f_RJ_isNumber x = some 0 ∧ f_Md_isNumber x = some 0) := by
  unfold f_RJ_isNumber f_Md_isNumber
  rw [okn_iff]
  by_cases h1 : x < 1
  · rw [if_pos h1]; exact Or.inr ⟨fun h => h.1 h1, rfl, rfl⟩
  · rw [if_neg h1]
    by_cases h2 : (1000000 : Int32) < x
    · rw [if_pos h2]; exact Or.inr ⟨fun h => h.2 h2, rfl, rfl⟩
    · rw [if_neg h2]; exact Or.inl ⟨⟨h1, h2⟩, rfl, rfl⟩
def whl (u : Nat → Int32) (p : Nat) : Prop := w32 u (p + 60) = crc u p
