/-! the CHECK as the two compute it; words of four bytes -/
theorem pb_check1 {c r : Nat} {B u : Nat → Int32} (h : Bv B u) (hc : c ≤ 41) (hr : r < c) : ∀ (n k : Nat) (s : Int32), k ≤ 60 → 60 < k + n → f_Bl_checkOf_L21 (Int32.ofNat c) (64 * c) B (Int32.ofNat r) (Int32.ofNat (64 * r)) n s (Int32.ofNat k) = some (crcL u (64 * r) (60 - k) k s ^^^ (-1)) := by
  intro n
  induction n with
  | zero => intro k s h1 h2; omega
  | succ n ih =>
    intro k s h1 h2
    rw [f_Bl_checkOf_L21.eq_2, nl_60, pi_le (by omega) (by omega)]
    by_cases hk : 60 ≤ k
    · rw [if_pos hk, show 60 - k = 0 by omega, crcL]
    · rw [if_neg hk, pn_add, pn_ck (by omega) (by omega), pn_nat (by omega), h.2]
      have e15 : ∀ (x : Int32) (X : Option Int32), (if (x &&& (15 : Int32)) < 0 ∨ 16 ≤ (x &&& (15 : Int32)).toNatClampNeg then none else X) = X := fun x X => by
        obtain ⟨m, hm, e, -⟩ := pn_and15 x
        rw [e, pn_ck (by omega) (by omega)]
      rw [e15, e15, nl_1, pn_add]
      show f_Bl_checkOf_L21 (Int32.ofNat c) (64 * c) B (Int32.ofNat r) (Int32.ofNat (64 * r)) n (nib (nib (s ^^^ u (64 * r + k)))) (Int32.ofNat (k + 1)) = _
      rw [nib_nib, ih (k + 1) _ (by omega) (by omega), show 60 - k = (60 - (k + 1)) + 1 by omega, crcL]; rfl
theorem pb_check {c r : Nat} {B u : Nat → Int32} (h : Bv B u) (hc : c ≤ 41) (hr : r < c) : f_Bl_checkOf (Int32.ofNat c) (64 * c) B (Int32.ofNat r) = some (crc u (64 * r)) := by
  unfold f_Bl_checkOf
  have e := pn_has (n := 64 * c) (B := B) hc hr (show 0 < 64 by omega)
  rw [pn_zero, e, Option.bind_some, if_neg (by decide), nl_64, pn_mul, Nat.mul_comm r 64]
  exact pb_check1 h hc hr 70 0 (-1) (by omega) (by omega)
theorem pb_seal {c r : Nat} {B u : Nat → Int32} (h : Bv B u) (hc : c ≤ 41) (hr : r < c) : ∃ B', f_Bl_seal (Int32.ofNat c) (64 * c) B (Int32.ofNat r) = some B' ∧ Bv B' (put32 u (64 * r + 60) (crc u (64 * r))) := by
  unfold f_Bl_seal
  obtain ⟨B1, e1, h1⟩ := pb_setU32 h hc hr (show 60 ≤ 60 by omega) (crc u (64 * r))
  refine ⟨B1, ?_, h1⟩
  rw [pb_check h hc hr, Option.bind_some, nl_60, e1, Option.bind_some]
theorem pb_whole {c r : Nat} {B u : Nat → Int32} (h : Bv B u) (hc : c ≤ 41) (hr : r < c) : f_Bl_isWhole (Int32.ofNat c) (64 * c) B (Int32.ofNat r) = some (if w32 u (64 * r + 60) = crc u (64 * r) then 1 else 0) := by
  unfold f_Bl_isWhole
  rw [nl_60, pb_u32 h hc hr (by omega), Option.bind_some, pb_check h hc hr, Option.bind_some]
  split <;> rfl
/-! the reference's -/
theorem pm_check2 {N p : Nat} {M : Nat → Int32} {y : Int32} {k9 : Int32 → Int32 → Option Int32} : ∀ (n j : Nat) (s : Int32), j ≤ 8 → 8 < j + n → f_Md_check_L21 N M (Int32.ofNat p) y k9 n s (Int32.ofNat j) = k9 (stBn (8 - j) s) (Int32.ofNat 8) := by
  intro n
  induction n with
  | zero => intro j s h1 h2; omega
  | succ n ih =>
    intro j s h1 h2
    rw [f_Md_check_L21.eq_2, nl_8, pi_le (by omega) (by omega)]
    by_cases hj : 8 ≤ j
    · rw [if_pos hj, show j = 8 by omega]; rfl
    · rw [if_neg hj, nl_1, pn_add, ih _ _ (by omega) (by omega), ih _ _ (by omega) (by omega), show 8 - j = 8 - (j + 1) + 1 by omega, stBn, stB, ← nl_1]
      split <;> rfl
theorem pm_check1 {N p : Nat} {M : Nat → Int32} (hp : p + 60 ≤ N) (hN : N < 2147483648) : ∀ (n k : Nat) (s : Int32), k ≤ 60 → 60 < k + n → f_Md_check_L4 N M (Int32.ofNat p) n s (Int32.ofNat k) = some (crcL M p (60 - k) k s ^^^ (-1)) := by
  intro n
  induction n with
  | zero => intro k s h1 h2; omega
  | succ n ih =>
    intro k s h1 h2
    rw [f_Md_check_L4.eq_2, nl_60, pi_le (by omega) (by omega)]
    by_cases hk : 60 ≤ k
    · rw [if_pos hk, show 60 - k = 0 by omega, crcL]
    · rw [if_neg hk, pn_add, pn_ck (by omega) (by omega), pn_nat (by omega), pn_zero, pm_check2 5000 0 _ (by omega) (by omega)]
      show f_Md_check_L4 N M (Int32.ofNat p) n (stBn 8 (s ^^^ M (p + k))) (Int32.ofNat k + 1) = _
      rw [nl_1, pn_add, ih (k + 1) _ (by omega) (by omega), show 60 - k = (60 - (k + 1)) + 1 by omega, crcL]; rfl
theorem pm_check {N p : Nat} {M : Nat → Int32} (hp : p + 60 ≤ N) (hN : N < 2147483648) : f_Md_check N M (Int32.ofNat p) = some (crc M p) :=
  pm_check1 hp hN 5000 0 (-1) (by omega) (by omega)
theorem pm_word {N p : Nat} {M : Nat → Int32} (hp : p + 4 ≤ N) (hN : N < 2147483648) : f_Md_word N M (Int32.ofNat p) = some (w32 M p) := by
  unfold f_Md_word w32
  rw [nl_1, pn_add, nl_2, pn_add, nl_3, pn_add, pn_ck (by omega) (by omega), pn_ck (by omega) (by omega), pn_ck (by omega) (by omega), pn_ck (by omega) (by omega), pn_nat (by omega), pn_nat (by omega), pn_nat (by omega), pn_nat (by omega)]
theorem byt_small (v : Int32) (s : UInt32) : ∃ n, n < 256 ∧ byt v s = Int32.ofNat n := pn_and255 _
theorem bt_bv (v : Int32) (k : Nat) (hk : k < 32) : ((v.toUInt32 >>> (UInt32.ofNat k)).toInt32 &&& 255).toBitVec = (v.toBitVec >>> k) &&& 255#32 := by
  rw [Int32.toBitVec_and]
  show (v.toBitVec >>> ((UInt32.ofNat k).toBitVec % 32#32)) &&& 255#32 = _
  have : ((UInt32.ofNat k).toBitVec % 32#32).toNat = k := by
    show (BitVec.ofNat 32 k % 32#32).toNat = k
    rw [BitVec.toNat_umod, BitVec.toNat_ofNat, BitVec.toNat_ofNat, Nat.mod_eq_of_lt (show k < 2 ^ 32 by omega)]
    exact Nat.mod_eq_of_lt hk
  show (v.toBitVec >>> ((UInt32.ofNat k).toBitVec % 32#32).toNat) &&& 255#32 = _
  rw [this]
theorem bits_back (v : BitVec 32) : (((v >>> 24 &&& 255#32) <<< 24 ||| (v >>> 16 &&& 255#32) <<< 16) ||| (v >>> 8 &&& 255#32) <<< 8) ||| (v >>> 0 &&& 255#32) = v := by
  apply BitVec.eq_of_getLsbD_eq
  intro i hi
  have hd : ∀ k : Nat, k < 32 → (255#32).getLsbD k = decide (k < 8) := fun k hk => by
    have : ∀ k : Fin 32, (255#32).getLsbD k.val = decide (k.val < 8) := by decide
    exact this ⟨k, hk⟩
  simp only [BitVec.getLsbD_or, BitVec.getLsbD_shiftLeft, BitVec.getLsbD_and, BitVec.getLsbD_ushiftRight]
  rw [hd (i - 24) (by omega), hd (i - 16) (by omega), hd (i - 8) (by omega), hd i (by omega)]
  by_cases h1 : i < 8
  · simp [h1, show i < 24 by omega, show i < 16 by omega]
  · by_cases h2 : i < 16
    · simp [h1, h2, hi, show i < 24 by omega, show i - 8 < 8 by omega, show 8 + (i - 8) = i by omega]
    · by_cases h3 : i < 24
      · simp [h1, h2, h3, hi, show i - 16 < 8 by omega, show ¬ i - 8 < 8 by omega, show 16 + (i - 16) = i by omega]
      · simp [h1, h2, h3, hi, show i - 24 < 8 by omega, show ¬ i - 8 < 8 by omega, show ¬ i - 16 < 8 by omega, show 24 + (i - 24) = i by omega]
theorem w32_byt (v : Int32) : ((((byt v 24) <<< ((24 : Int32) &&& 31)) ||| ((byt v 16) <<< ((16 : Int32) &&& 31))) ||| ((byt v 8) <<< ((8 : Int32) &&& 31))) ||| (byt v 0) = v := by
  apply Int32.toBitVec_inj.mp
  have e24 : (byt v 24).toBitVec = (v.toBitVec >>> 24) &&& 255#32 := bt_bv v 24 (by decide)
  have e16 : (byt v 16).toBitVec = (v.toBitVec >>> 16) &&& 255#32 := bt_bv v 16 (by decide)
  have e8 : (byt v 8).toBitVec = (v.toBitVec >>> 8) &&& 255#32 := bt_bv v 8 (by decide)
  have e0 : (byt v 0).toBitVec = (v.toBitVec >>> 0) &&& 255#32 := bt_bv v 0 (by decide)
  rw [Int32.toBitVec_or, Int32.toBitVec_or, Int32.toBitVec_or]
  show (((byt v 24).toBitVec <<< 24 ||| (byt v 16).toBitVec <<< 16) ||| (byt v 8).toBitVec <<< 8) ||| (byt v 0).toBitVec = v.toBitVec
  rw [e24, e16, e8, e0, bits_back]
theorem w32_put (u : Nat → Int32) (p : Nat) (v : Int32) : w32 (put32 u p v) p = v := by
  have h0 : put32 u p v p = byt v 24 := by unfold put32 upd; rw [if_neg (by omega), if_neg (by omega), if_neg (by omega), if_pos rfl]
  have h1 : put32 u p v (p + 1) = byt v 16 := by unfold put32 upd; rw [if_neg (by omega), if_neg (by omega), if_pos rfl]
  have h2 : put32 u p v (p + 2) = byt v 8 := by unfold put32 upd; rw [if_neg (by omega), if_pos rfl]
  have h3 : put32 u p v (p + 3) = byt v 0 := by unfold put32 upd; rw [if_pos rfl]
  unfold w32
  rw [h0, h1, h2, h3, w32_byt]
theorem put32_out {u : Nat → Int32} {p : Nat} {v : Int32} {j : Nat} (h : j < p ∨ p + 4 ≤ j) : put32 u p v j = u j := by
  unfold put32 upd
  rw [if_neg (by omega), if_neg (by omega), if_neg (by omega), if_neg (by omega)]
theorem put32_in {u g : Nat → Int32} {p q : Nat} {v : Int32} {j : Nat} (h : j < 4) : put32 u p v (p + j) = put32 g q v (q + j) := by
  unfold put32 upd
  rcases (show j = 0 ∨ j = 1 ∨ j = 2 ∨ j = 3 by omega) with rfl | rfl | rfl | rfl
  · rw [if_neg (by omega), if_neg (by omega), if_neg (by omega), if_pos (by omega), if_neg (by omega), if_neg (by omega), if_neg (by omega), if_pos (by omega)]
  · rw [if_neg (by omega), if_neg (by omega), if_pos (by omega), if_neg (by omega), if_neg (by omega), if_pos (by omega)]
  · rw [if_neg (by omega), if_pos (by omega), if_neg (by omega), if_pos (by omega)]
  · rw [if_pos (by omega), if_pos (by omega)]
