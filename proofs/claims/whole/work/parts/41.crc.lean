/-! THE CHECK: bit by bit, and four bits at a time by FOUR_BITS -/
def st1 (v : BitVec 32) : BitVec 32 := (v >>> 1) ^^^ (if v.getLsbD 0 then 0xEDB88320#32 else 0#32)
def stN : Nat → BitVec 32 → BitVec 32
  | 0, v => v
  | n + 1, v => stN n (st1 v)
theorem st1_xor (a b : BitVec 32) : st1 (a ^^^ b) = st1 a ^^^ st1 b := by
  unfold st1
  rw [BitVec.getLsbD_xor, BitVec.ushiftRight_xor_distrib]
  cases a.getLsbD 0 <;> cases b.getLsbD 0 <;> simp [BitVec.xor_assoc]
  · exact BitVec.xor_comm _ _
  · rw [BitVec.xor_comm (b >>> 1), ← BitVec.xor_assoc, BitVec.xor_self, BitVec.zero_xor]
theorem stN_xor : ∀ (n : Nat) (a b : BitVec 32), stN n (a ^^^ b) = stN n a ^^^ stN n b
  | 0, _, _ => rfl
  | n + 1, a, b => by rw [stN, stN, stN, st1_xor, stN_xor n]
theorem st1_even (h : BitVec 32) (k : Nat) : st1 (h <<< (k + 1)) = (h <<< (k + 1)) >>> 1 := by
  unfold st1
  have : (h <<< (k + 1)).getLsbD 0 = false := by simp
  rw [this]
  simp
theorem sh_one (h : BitVec 32) (k : Nat) (hh : h.toNat < 2 ^ 28) (hk : k < 4) : (h <<< (k + 1)) >>> 1 = h <<< k := by
  apply BitVec.eq_of_toNat_eq
  rw [BitVec.toNat_ushiftRight, BitVec.toNat_shiftLeft, BitVec.toNat_shiftLeft, Nat.shiftLeft_eq, Nat.shiftLeft_eq, Nat.shiftRight_eq_div_pow]
  have h1 : h.toNat * 2 ^ (k + 1) < 2 ^ 32 := by
    have : 2 ^ (k + 1) ≤ 2 ^ 4 := Nat.pow_le_pow_right (by decide) (by omega)
    calc h.toNat * 2 ^ (k + 1) ≤ h.toNat * 2 ^ 4 := Nat.mul_le_mul_left _ this
      _ < 2 ^ 28 * 2 ^ 4 := by omega
      _ = 2 ^ 32 := by decide
  have e : h.toNat * 2 ^ (k + 1) = h.toNat * 2 ^ k * 2 := by rw [Nat.pow_succ, Nat.mul_assoc]
  rw [Nat.mod_eq_of_lt h1, Nat.mod_eq_of_lt (by omega), e]
  omega
theorem st4_high (h : BitVec 32) (hh : h.toNat < 2 ^ 28) : stN 4 (h <<< 4) = h := by
  rw [stN, st1_even h 3, sh_one h 3 hh (by decide), stN, st1_even h 2, sh_one h 2 hh (by decide), stN, st1_even h 1, sh_one h 1 hh (by decide), stN, st1_even h 0, sh_one h 0 hh (by decide), stN]
  simp
theorem st4_low : ∀ n : Fin 16, stN 4 (BitVec.ofNat 32 n.val) = (fb n.val).toBitVec := by decide +kernel
theorem st4_split (v : BitVec 32) : v = ((v >>> 4) <<< 4) ^^^ (v &&& 15#32) := by
  apply BitVec.eq_of_getLsbD_eq
  intro i hi
  rw [BitVec.getLsbD_xor, BitVec.getLsbD_and, BitVec.getLsbD_shiftLeft, BitVec.getLsbD_ushiftRight]
  have hd : ∀ k : Fin 32, (15#32).getLsbD k.val = decide (k.val < 4) := by decide
  have := hd ⟨i, hi⟩
  simp only at this
  rw [this]
  by_cases h4 : i < 4
  · simp [h4]
  · have e : 4 + (i - 4) = i := by omega
    simp [h4, hi, e]
theorem pn_and15 (x : Int32) : ∃ n, n < 16 ∧ x &&& 15 = Int32.ofNat n ∧ x.toBitVec &&& 15#32 = BitVec.ofNat 32 n := by
  refine ⟨(x.toBitVec &&& 15#32).toNat, ?_, ?_, ?_⟩
  · rw [BitVec.toNat_and]
    exact Nat.lt_of_le_of_lt Nat.and_le_right (by decide)
  · apply Int32.toBitVec_inj.mp
    rw [Int32.toBitVec_and]
    apply BitVec.eq_of_toNat_eq
    have e : (Int32.ofNat (x.toBitVec &&& 15#32).toNat).toBitVec = BitVec.ofNat 32 (x.toBitVec &&& 15#32).toNat := rfl
    rw [e, BitVec.ofNat_toNat]
    simp
  · rw [BitVec.ofNat_toNat]; simp
def stB (s : Int32) : Int32 := if (s &&& (1 : Int32)) = 0 then (s.toUInt32 >>> ((1 : Int32).toUInt32 &&& Int32.toUInt32 31)).toInt32 else (s.toUInt32 >>> ((1 : Int32).toUInt32 &&& Int32.toUInt32 31)).toInt32 ^^^ (-306674912 : Int32)
def stBn : Nat → Int32 → Int32
  | 0, s => s
  | n + 1, s => stBn n (stB s)
def nib (s : Int32) : Int32 := (s.toUInt32 >>> ((4 : Int32).toUInt32 &&& Int32.toUInt32 31)).toInt32 ^^^ fb (s &&& (15 : Int32)).toNatClampNeg
theorem stB_bv (s : Int32) : (stB s).toBitVec = st1 s.toBitVec := by
  have hsh : (s.toUInt32 >>> ((1 : Int32).toUInt32 &&& Int32.toUInt32 31)).toInt32.toBitVec = s.toBitVec >>> 1 := rfl
  have hc : ((s &&& (1 : Int32)) = 0) ↔ s.toBitVec.getLsbD 0 = false := by
    rw [← Int32.toBitVec_inj, Int32.toBitVec_and]
    show s.toBitVec &&& 1#32 = 0#32 ↔ _
    rw [BitVec.and_one_eq_setWidth_ofBool_getLsbD]
    cases s.toBitVec.getLsbD 0 <;> decide
  unfold stB st1
  by_cases h : (s &&& (1 : Int32)) = 0
  · rw [if_pos h, hsh, hc.mp h]; simp
  · rw [if_neg h, Int32.toBitVec_xor, hsh]
    have : s.toBitVec.getLsbD 0 = true := by
      cases h9 : s.toBitVec.getLsbD 0
      · exact absurd (hc.mpr h9) h
      · rfl
    rw [this]
    rfl
theorem stBn_bv : ∀ (n : Nat) (s : Int32), (stBn n s).toBitVec = stN n s.toBitVec
  | 0, _ => rfl
  | n + 1, s => by rw [stBn, stN, stBn_bv n, stB_bv]
theorem nib_eq (s : Int32) : nib s = stBn 4 s := by
  apply Int32.toBitVec_inj.mp
  rw [stBn_bv]
  obtain ⟨n, hn, e1, e2⟩ := pn_and15 s
  unfold nib
  rw [e1, pn_nat (by omega), Int32.toBitVec_xor]
  have hsh : (s.toUInt32 >>> ((4 : Int32).toUInt32 &&& Int32.toUInt32 31)).toInt32.toBitVec = s.toBitVec >>> 4 := rfl
  rw [hsh]
  conv => rhs; rw [st4_split s.toBitVec]
  rw [stN_xor, st4_high, e2, st4_low ⟨n, hn⟩]
  rw [BitVec.toNat_ushiftRight, Nat.shiftRight_eq_div_pow]
  have := s.toBitVec.isLt
  omega
theorem stBn_add : ∀ (a b : Nat) (s : Int32), stBn b (stBn a s) = stBn (a + b) s
  | 0, b, s => by rw [stBn, Nat.zero_add]
  | a + 1, b, s => by rw [stBn, stBn_add a b, show a + 1 + b = a + b + 1 by omega, stBn]
theorem nib_nib (s : Int32) : nib (nib s) = stBn 8 s := by
  rw [nib_eq, nib_eq, stBn_add]
def crcL (u : Nat → Int32) (p : Nat) : Nat → Nat → Int32 → Int32
  | 0, _, s => s
  | n + 1, k, s => crcL u p n (k + 1) (stBn 8 (s ^^^ u (p + k)))
/-- the CHECK of the 60 bytes from p on -/
def crc (u : Nat → Int32) (p : Nat) : Int32 := crcL u p 60 0 (-1) ^^^ (-1)
theorem crcL_congr {u g : Nat → Int32} {p q : Nat} : ∀ (n k : Nat) (s : Int32), (∀ j, j < k + n → u (p + j) = g (q + j)) → crcL u p n k s = crcL g q n k s
  | 0, _, _, _ => rfl
  | n + 1, k, s, h => by rw [crcL, crcL, h k (by omega), crcL_congr n (k + 1) _ (fun j hj => h j (by omega))]
theorem crc_congr {u g : Nat → Int32} {p q : Nat} (h : ∀ j, j < 60 → u (p + j) = g (q + j)) : crc u p = crc g q := by
  unfold crc
  rw [crcL_congr 60 0 _ (fun j hj => h j (by omega))]
theorem w32_congr {u g : Nat → Int32} {p q : Nat} (h : ∀ j, j < 4 → u (p + j) = g (q + j)) : w32 u p = w32 g q := by
  unfold w32
  rw [show u p = g q from h 0 (by omega), h 1 (by omega), h 2 (by omega), h 3 (by omega)]
