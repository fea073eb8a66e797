/-! THE PURE LAYER: small numbers as Nats -/
theorem nl_0 : (0 : Int32) = Int32.ofNat 0 := rfl
theorem nl_1 : (1 : Int32) = Int32.ofNat 1 := rfl
theorem nl_2 : (2 : Int32) = Int32.ofNat 2 := rfl
theorem nl_3 : (3 : Int32) = Int32.ofNat 3 := rfl
theorem nl_4 : (4 : Int32) = Int32.ofNat 4 := rfl
theorem nl_5 : (5 : Int32) = Int32.ofNat 5 := rfl
theorem nl_6 : (6 : Int32) = Int32.ofNat 6 := rfl
theorem nl_7 : (7 : Int32) = Int32.ofNat 7 := rfl
theorem nl_8 : (8 : Int32) = Int32.ofNat 8 := rfl
theorem nl_9 : (9 : Int32) = Int32.ofNat 9 := rfl
theorem nl_10 : (10 : Int32) = Int32.ofNat 10 := rfl
theorem nl_15 : (15 : Int32) = Int32.ofNat 15 := rfl
theorem nl_16 : (16 : Int32) = Int32.ofNat 16 := rfl
theorem nl_24 : (24 : Int32) = Int32.ofNat 24 := rfl
theorem nl_30 : (30 : Int32) = Int32.ofNat 30 := rfl
theorem nl_31 : (31 : Int32) = Int32.ofNat 31 := rfl
theorem nl_32 : (32 : Int32) = Int32.ofNat 32 := rfl
theorem nl_40 : (40 : Int32) = Int32.ofNat 40 := rfl
theorem nl_41 : (41 : Int32) = Int32.ofNat 41 := rfl
theorem nl_50 : (50 : Int32) = Int32.ofNat 50 := rfl
theorem nl_51 : (51 : Int32) = Int32.ofNat 51 := rfl
theorem nl_60 : (60 : Int32) = Int32.ofNat 60 := rfl
theorem nl_64 : (64 : Int32) = Int32.ofNat 64 := rfl
theorem nl_255 : (255 : Int32) = Int32.ofNat 255 := rfl
theorem nl_300 : (300 : Int32) = Int32.ofNat 300 := rfl
theorem nl_750 : (750 : Int32) = Int32.ofNat 750 := rfl
theorem nl_3000 : (3000 : Int32) = Int32.ofNat 3000 := rfl
theorem nl_1000000 : (1000000 : Int32) = Int32.ofNat 1000000 := rfl
theorem pn_zero : (0 : Int32) = Int32.ofNat 0 := rfl
theorem pn_lt {a b : Nat} (ha : a < 2147483648) (hb : b < 2147483648) : (Int32.ofNat a < Int32.ofNat b) = (a < b) := propext (Int32.ofNat_lt_ofNat ha hb)
theorem pn_le {a b : Nat} (ha : a < 2147483648) (hb : b < 2147483648) : (Int32.ofNat a ≤ Int32.ofNat b) = (a ≤ b) := propext (Int32.ofNat_le_ofNat ha hb)
theorem pn_eq {a b : Nat} (ha : a < 2147483648) (hb : b < 2147483648) : (Int32.ofNat a = Int32.ofNat b) = (a = b) := propext ⟨fun h => by
  have := congrArg Int32.toNatClampNeg h
  rwa [Int32.toNatClampNeg_ofNat_of_lt ha, Int32.toNatClampNeg_ofNat_of_lt hb] at this, fun h => by rw [h]⟩
theorem pn_add (a b : Nat) : Int32.ofNat a + Int32.ofNat b = Int32.ofNat (a + b) := (Int32.ofNat_add a b).symm
theorem pn_mul (a b : Nat) : Int32.ofNat a * Int32.ofNat b = Int32.ofNat (a * b) := (Int32.ofNat_mul a b).symm
theorem pn_sub {a b : Nat} (h : b ≤ a) : Int32.ofNat a - Int32.ofNat b = Int32.ofNat (a - b) := (Int32.ofNat_sub a b h).symm
theorem pn_nat {a : Nat} (h : a < 2147483648) : (Int32.ofNat a).toNatClampNeg = a := Int32.toNatClampNeg_ofNat_of_lt h
theorem pn_neg {a : Nat} (h : a < 2147483648) : ¬ Int32.ofNat a < 0 := by
  rw [pn_zero, pn_lt h (by decide)]; omega
theorem pn_ck {α : Type} {a N : Nat} {X : Option α} (h : a < N) (hN : N < 2147483648) : (if Int32.ofNat a < 0 ∨ N ≤ (Int32.ofNat a).toNatClampNeg then none else X) = X := by
  rw [if_neg]
  rw [pn_nat (by omega)]
  intro h1
  rcases h1 with h1 | h1
  · exact pn_neg (by omega) h1
  · omega
theorem pi_lt {α : Type} {a b : Nat} {X Y : α} (ha : a < 2147483648) (hb : b < 2147483648) : (if Int32.ofNat a < Int32.ofNat b then X else Y) = if a < b then X else Y := by
  simp only [pn_lt ha hb]
theorem pi_le {α : Type} {a b : Nat} {X Y : α} (ha : a < 2147483648) (hb : b < 2147483648) : (if Int32.ofNat a ≤ Int32.ofNat b then X else Y) = if a ≤ b then X else Y := by
  simp only [pn_le ha hb]
theorem pi_eq {α : Type} {a b : Nat} {X Y : α} (ha : a < 2147483648) (hb : b < 2147483648) : (if Int32.ofNat a = Int32.ofNat b then X else Y) = if a = b then X else Y := by
  simp only [pn_eq ha hb]
/-- any int that lies in a range is small -/
theorem pn_of {x : Int32} {n : Nat} (hn : n < 2147483648) (h0 : ¬ x < 0) (h1 : x < Int32.ofNat n) : ∃ k, k < n ∧ x = Int32.ofNat k := by
  refine ⟨x.toNatClampNeg, ?_, ?_⟩
  · have h1 := Int32.lt_iff_toInt_lt.mp h1
    have h0 : ¬ x.toInt < 0 := fun h => h0 (Int32.lt_iff_toInt_lt.mpr h)
    rw [Int32.toInt_ofNat_of_lt hn] at h1
    have : x.toNatClampNeg = x.toInt.toNat := rfl
    omega
  · apply Int32.toInt_inj.mp
    have h1 := Int32.lt_iff_toInt_lt.mp h1
    have h0 : ¬ x.toInt < 0 := fun h => h0 (Int32.lt_iff_toInt_lt.mpr h)
    rw [Int32.toInt_ofNat_of_lt hn] at h1
    have : x.toNatClampNeg = x.toInt.toNat := rfl
    rw [Int32.toInt_ofNat_of_lt (by omega)]
    omega
theorem pn_ge {x : Int32} (h0 : ¬ x < 0) : ∃ k, k < 2147483648 ∧ x = Int32.ofNat k := by
  have h0 : ¬ x.toInt < 0 := fun h => h0 (Int32.lt_iff_toInt_lt.mpr h)
  have := Int32.toInt_lt x
  refine ⟨x.toNatClampNeg, ?_, ?_⟩
  · have : x.toNatClampNeg = x.toInt.toNat := rfl
    omega
  · apply Int32.toInt_inj.mp
    have : x.toNatClampNeg = x.toInt.toNat := rfl
    rw [Int32.toInt_ofNat_of_lt (by omega)]
    omega
theorem pn_and255 (x : Int32) : ∃ n, n < 256 ∧ x &&& 255 = Int32.ofNat n := by
  refine ⟨(x.toBitVec &&& 255#32).toNat, ?_, ?_⟩
  · rw [BitVec.toNat_and]
    exact Nat.lt_of_le_of_lt Nat.and_le_right (by decide)
  · apply Int32.toBitVec_inj.mp
    rw [Int32.toBitVec_and]
    apply BitVec.eq_of_toNat_eq
    have e : (Int32.ofNat (x.toBitVec &&& 255#32).toNat).toBitVec = BitVec.ofNat 32 (x.toBitVec &&& 255#32).toNat := rfl
    rw [e, BitVec.ofNat_toNat]
    simp
/-! bytes -/
def by8 (B : Nat → Int32) : Prop := ∀ i, fits .byte (.int (B i)) = true
/-- the bytes of B, as 0 .. 255, are u -/
def Bv (B u : Nat → Int32) : Prop := by8 B ∧ ∀ i, B i &&& 255 = u i
theorem pb_nar (x : Int32) : vp_nar .byte x.toInt8.toInt32 &&& 255 = x &&& 255 ∧ fits .byte (.int (vp_nar .byte x.toInt8.toInt32)) = true := by
  have e : vp_nar .byte x.toInt8.toInt32 = x.toInt8.toInt32.toInt8.toInt32 := rfl
  rw [e, Int8.toInt8_toInt32]
  constructor
  · apply Int32.toBitVec_inj.mp
    rw [Int32.toBitVec_and, Int32.toBitVec_and]
    show (BitVec.signExtend 32 (BitVec.signExtend 8 x.toBitVec)) &&& 255#32 = x.toBitVec &&& 255#32
    apply BitVec.eq_of_getLsbD_eq
    intro i hi
    rw [BitVec.getLsbD_and, BitVec.getLsbD_and]
    by_cases h8 : i < 8
    · rw [BitVec.getLsbD_signExtend, BitVec.getLsbD_signExtend]
      simp [h8, hi]
    · have : BitVec.getLsbD 255#32 i = false := by
        have hd : ∀ k : Fin 24, (255#32).getLsbD (k.val + 8) = false := by decide
        have := hd ⟨i - 8, by omega⟩
        rwa [show i - 8 + 8 = i by omega] at this
      rw [this]; simp
  · have h1 := Int8.le_toInt x.toInt8
    have h2 := Int8.toInt_lt x.toInt8
    show (decide (-128 ≤ x.toInt8.toInt32) && decide (x.toInt8.toInt32 ≤ 127)) = true
    rw [Bool.and_eq_true, decide_eq_true_iff, decide_eq_true_iff, Int32.le_iff_toInt_le, Int32.le_iff_toInt_le, Int8.toInt_toInt32]
    have e1 : (-128 : Int32).toInt = -128 := by decide
    have e2 : (127 : Int32).toInt = 127 := by decide
    rw [e1, e2]
    omega
theorem Bv.upd {B u : Nat → Int32} (h : Bv B u) (k : Nat) (x : Int32) : Bv (upd B k (vp_nar .byte x.toInt8.toInt32)) (upd u k (x &&& 255)) := by
  obtain ⟨h1, h2⟩ := pb_nar x
  refine ⟨fun i => ?_, fun i => ?_⟩
  · unfold Jvm.Pilot.CRoundJournalLaw_law_r8986_2294a3.upd
    split
    · exact h2
    · exact h.1 i
  · unfold Jvm.Pilot.CRoundJournalLaw_law_r8986_2294a3.upd
    split
    · exact h1
    · exact h.2 i
theorem Bv.small {B u : Nat → Int32} (h : Bv B u) (i : Nat) : ∃ n, n < 256 ∧ u i = Int32.ofNat n := by
  rw [← h.2 i]; exact pn_and255 _

theorem pn_has {c r i n : Nat} {B : Nat → Int32} (hc : c ≤ 41) (hr : r < c) (hi : i < 64) : f_Bl_has (Int32.ofNat c) n B (Int32.ofNat r) (Int32.ofNat i) = some 1 := by
  unfold f_Bl_has
  rw [if_neg (pn_neg (by omega)), pi_le (by omega) (by omega), if_neg (by omega), if_neg (pn_neg (by omega)), nl_64, pi_le (by omega) (by omega), if_neg (by omega)]
theorem pn_64 (r i : Nat) : Int32.ofNat r * (64 : Int32) + Int32.ofNat i = Int32.ofNat (64 * r + i) := by
  rw [nl_64, pn_mul, pn_add, Nat.mul_comm]
theorem pb_get {c r i : Nat} {B u : Nat → Int32} (h : Bv B u) (hc : c ≤ 41) (hr : r < c) (hi : i < 64) : f_Bl_get (Int32.ofNat c) (64 * c) B (Int32.ofNat r) (Int32.ofNat i) = some (u (64 * r + i)) := by
  unfold f_Bl_get
  rw [pn_has hc hr hi, Option.bind_some, if_neg (by decide), pn_64, pn_ck (by omega) (by omega), pn_nat (by omega), h.2]
theorem pb_set {c r i : Nat} {B u : Nat → Int32} (h : Bv B u) (hc : c ≤ 41) (hr : r < c) (hi : i < 64) (v : Int32) : ∃ B', f_Bl_set (Int32.ofNat c) (64 * c) B (Int32.ofNat r) (Int32.ofNat i) v = some B' ∧ Bv B' (upd u (64 * r + i) (v &&& 255)) := by
  refine ⟨_, ?_, h.upd (64 * r + i) v⟩
  unfold f_Bl_set
  rw [pn_has hc hr hi, Option.bind_some, if_neg (by decide), pn_64, pn_ck (by omega) (by omega), pn_nat (by omega)]
/-- four bytes as an int -/
def w32 (u : Nat → Int32) (p : Nat) : Int32 := ((((u p) <<< ((24 : Int32) &&& 31)) ||| ((u (p + 1)) <<< ((16 : Int32) &&& 31))) ||| ((u (p + 2)) <<< ((8 : Int32) &&& 31))) ||| (u (p + 3))
theorem pb_u32 {c r i : Nat} {B u : Nat → Int32} (h : Bv B u) (hc : c ≤ 41) (hr : r < c) (hi : i ≤ 60) : f_Bl_u32 (Int32.ofNat c) (64 * c) B (Int32.ofNat r) (Int32.ofNat i) = some (w32 u (64 * r + i)) := by
  unfold f_Bl_u32 w32
  rw [nl_60, pi_lt (by omega) (by omega), if_neg (by omega), pn_has hc hr (by omega), Option.bind_some, if_neg (by decide), pn_64, nl_1, pn_add, nl_2, pn_add, nl_3, pn_add, pn_ck (by omega) (by omega), pn_ck (by omega) (by omega), pn_ck (by omega) (by omega), pn_ck (by omega) (by omega), pn_nat (by omega), pn_nat (by omega), pn_nat (by omega), pn_nat (by omega), h.2, h.2, h.2, h.2]
/-- byte number k (0 the highest) of an int -/
def byt (v : Int32) (s : UInt32) : Int32 := (v.toUInt32 >>> s).toInt32 &&& 255
def put32 (u : Nat → Int32) (p : Nat) (v : Int32) : Nat → Int32 := upd (upd (upd (upd u p (byt v 24)) (p + 1) (byt v 16)) (p + 2) (byt v 8)) (p + 3) (byt v 0)
theorem byt_0 (v : Int32) : byt v 0 = v &&& 255 := by
  unfold byt
  simp
theorem pb_setU32 {c r i : Nat} {B u : Nat → Int32} (h : Bv B u) (hc : c ≤ 41) (hr : r < c) (hi : i ≤ 60) (v : Int32) : ∃ B', f_Bl_setU32 (Int32.ofNat c) (64 * c) B (Int32.ofNat r) (Int32.ofNat i) v = some B' ∧ Bv B' (put32 u (64 * r + i) v) := by
  unfold f_Bl_setU32
  obtain ⟨B1, e1, h1⟩ := pb_set h hc hr (show i < 64 by omega) (v.toUInt32 >>> ((24 : Int32).toUInt32 &&& Int32.toUInt32 31)).toInt32
  obtain ⟨B2, e2, h2⟩ := pb_set h1 hc hr (show i + 1 < 64 by omega) (v.toUInt32 >>> ((16 : Int32).toUInt32 &&& Int32.toUInt32 31)).toInt32
  obtain ⟨B3, e3, h3⟩ := pb_set h2 hc hr (show i + 2 < 64 by omega) (v.toUInt32 >>> ((8 : Int32).toUInt32 &&& Int32.toUInt32 31)).toInt32
  obtain ⟨B4, e4, h4⟩ := pb_set h3 hc hr (show i + 3 < 64 by omega) v
  refine ⟨B4, ?_, ?_⟩
  · rw [nl_1, pn_add, nl_2, pn_add, nl_3, pn_add, e1, Option.bind_some, e2, Option.bind_some, e3, Option.bind_some, e4, Option.bind_some]
  · unfold put32
    rw [byt_0]
    exact h4
def clr (u : Nat → Int32) (p n : Nat) : Nat → Int32 := fun j => if p ≤ j ∧ j < p + n then 0 else u j
theorem pb_clear1 {c r : Nat} {B0 : Nat → Int32} (hc : c ≤ 41) (hr : r < c) : ∀ (n i : Nat) (B u : Nat → Int32), Bv B u → i ≤ 64 → 64 < i + n → ∃ B', f_Bl_clear_L2 (Int32.ofNat c) (64 * c) B0 (Int32.ofNat r) n B (Int32.ofNat i) = some B' ∧ Bv B' (clr u (64 * r + i) (64 - i)) := by
  intro n
  induction n with
  | zero => intro i B u h h1 h2; omega
  | succ n ih =>
    intro i B u h h1 h2
    rw [f_Bl_clear_L2.eq_2, nl_64, pi_le (by omega) (by omega)]
    by_cases hi : 64 ≤ i
    · rw [if_pos hi]
      refine ⟨B, rfl, h.1, fun j => ?_⟩
      rw [h.2, clr, if_neg (by omega)]
    · rw [if_neg hi]
      obtain ⟨B1, e1, h1'⟩ := pb_set h hc hr (show i < 64 by omega) 0
      obtain ⟨B2, e2, h2'⟩ := ih (i + 1) B1 _ h1' (by omega) (by omega)
      refine ⟨B2, ?_, h2'.1, fun j => ?_⟩
      · rw [e1, Option.bind_some, nl_1, pn_add, e2]
      · rw [h2'.2]
        unfold clr upd
        by_cases hj : j = 64 * r + i
        · rw [if_neg (by omega), if_pos hj, if_pos (by omega)]; rfl
        · by_cases hk : 64 * r + (i + 1) ≤ j ∧ j < 64 * r + (i + 1) + (64 - (i + 1))
          · rw [if_pos hk, if_pos (by omega)]
          · rw [if_neg hk, if_neg hj, if_neg (by omega)]
theorem pb_clear {c r : Nat} {B u : Nat → Int32} (h : Bv B u) (hc : c ≤ 41) (hr : r < c) : ∃ B', f_Bl_clear (Int32.ofNat c) (64 * c) B (Int32.ofNat r) = some B' ∧ Bv B' (clr u (64 * r) 64) :=
  pb_clear1 hc hr 70 0 B u h (by omega) (by omega)
/-- n bytes from q of g come to p -/
def cpy (u g : Nat → Int32) (p q n : Nat) : Nat → Int32 := fun j => if p ≤ j ∧ j < p + n then g (q + (j - p)) else u j
theorem pb_copy {c c' r r' n : Nat} {B u B' u' : Nat → Int32} (h : Bv B u) (h' : Bv B' u') (hc : c ≤ 41) (hr : r < c) (hc' : c' ≤ 41) (hr' : r' < c') (hn : n ≤ 64) : ∃ B1, f_Bl_copyFrom (Int32.ofNat c) (64 * c) B (Int32.ofNat c') (64 * c') B' (Int32.ofNat r') (Int32.ofNat r) (Int32.ofNat n) = some B1 ∧ Bv B1 (cpy u u' (64 * r) (64 * r') n) := by
  refine ⟨va_cpy B' B (64 * r') (64 * r) n, ?_, ?_⟩
  · unfold f_Bl_copyFrom
    have e := pn_has (n := 64 * c) (B := B) hc hr (show 0 < 64 by omega)
    have e' := pn_has (n := 64 * c') (B := B') hc' hr' (show 0 < 64 by omega)
    rw [pn_zero, e, Option.bind_some, if_neg (by decide), e', Option.bind_some, if_neg (by decide), ← pn_zero, if_neg (pn_neg (by omega)), nl_64, pi_lt (by omega) (by omega), if_neg (by omega), pn_mul, pn_mul, if_neg (pn_neg (by omega)), if_neg (pn_neg (by omega)), pn_nat (by omega), pn_nat (by omega), pn_nat (by omega), if_neg (pn_neg (by omega)), if_neg (by omega), if_neg (by omega), if_neg (fun hh => hh (fun i _ => h'.1 _)), Nat.mul_comm r', Nat.mul_comm r]
  · refine ⟨fun i => ?_, fun i => ?_⟩
    · unfold va_cpy; split
      · exact h'.1 _
      · exact h.1 _
    · unfold va_cpy cpy; split
      · exact h'.2 _
      · exact h.2 _
