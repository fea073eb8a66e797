/-! THE REFERENCE: words, what waits, what is done first -/
section
variable {nD nT nB nW nO : Nat} {D TP bk W oo : Nat → Int32} {tl kp nx cm cr th op fo om ob np tu od wt : Int32}
theorem pn_n0 : (0 : Int32).toNatClampNeg = 0 := rfl
theorem pn_ck0 {α : Type} {N : Nat} {X : Option α} (hN : 0 < N) : (if (0 : Int32) < 0 ∨ N ≤ (0 : Int32).toNatClampNeg then none else X) = X := by
  rw [if_neg]
  intro h
  rcases h with h | h
  · exact absurd h (by decide)
  · rw [pn_n0] at h; omega
theorem pi_le0 {α : Type} {a : Nat} {X Y : α} (ha : a < 2147483648) : (if Int32.ofNat a ≤ 0 then X else Y) = if a = 0 then X else Y := by
  rw [pn_zero, pi_le ha (by decide)]
  by_cases h : a = 0
  · rw [if_pos h, if_pos (by omega)]
  · rw [if_neg h, if_neg (by omega)]
theorem pm_put1 {N p : Nat} {v : Int32} (hp : p + 4 ≤ N) (hN : N < 2147483648) {W0 : Nat → Int32} : ∀ (n k : Nat) (g : Nat → Int32), k ≤ 4 → 4 < k + n → f_Md_putWord_L2 nD D nT TP tl kp nx cm cr th op fo om ob np tu od nB bk N W0 nO oo wt (Int32.ofNat p) v n g (Int32.ofNat k) = some (fun j => if p + k ≤ j ∧ j < p + 4 then put32 g p v j else g j) := by
  intro n
  induction n with
  | zero => intro k g h1 h2; omega
  | succ n ih =>
    intro k g h1 h2
    rw [f_Md_putWord_L2.eq_2, nl_4, pi_le (by omega) (by omega)]
    by_cases hk : 4 ≤ k
    · rw [if_pos hk]
      congr 1
      funext j
      rw [if_neg (by omega)]
    · rw [if_neg hk, pn_add, pn_ck (by omega) (by omega), pn_nat (by omega), nl_1, pn_add, ih (k + 1) _ (by omega) (by omega)]
      congr 1
      funext j
      by_cases hj : j = p + k
      · subst hj
        rw [if_neg (by omega), if_pos (by omega)]
        unfold put32 upd
        rcases (show k = 0 ∨ k = 1 ∨ k = 2 ∨ k = 3 by omega) with rfl | rfl | rfl | rfl
        · rw [if_pos (by omega), if_neg (by omega), if_neg (by omega), if_neg (by omega), if_pos (by omega)]; rfl
        · rw [if_pos (by omega), if_neg (by omega), if_neg (by omega), if_pos (by omega)]; rfl
        · rw [if_pos (by omega), if_neg (by omega), if_pos (by omega)]; rfl
        · rw [if_pos (by omega), if_pos (by omega)]; rfl
      · by_cases hi : p + (k + 1) ≤ j ∧ j < p + 4
        · rw [if_pos hi, if_pos (by omega)]
          unfold put32 upd
          by_cases h1 : j = p + 3
          · rw [if_pos h1, if_pos h1]
          · rw [if_neg h1, if_neg h1]
            by_cases h2 : j = p + 2
            · rw [if_pos h2, if_pos h2]
            · rw [if_neg h2, if_neg h2]
              by_cases h3 : j = p + 1
              · rw [if_pos h3, if_pos h3]
              · omega
        · rw [if_neg hi, if_neg (by omega), upd, if_neg hj]
theorem pm_put {p : Nat} (hp : p + 4 ≤ nW) (hN : nW < 2147483648) (v : Int32) : f_Md_putWord nD D nT TP tl kp nx cm cr th op fo om ob np tu od nB bk nW W nO oo wt (Int32.ofNat p) v = some (put32 W p v) := by
  unfold f_Md_putWord
  rw [pn_zero, pm_put1 hp hN 5000 0 W (by omega) (by omega)]
  congr 1
  funext j
  by_cases h : p + 0 ≤ j ∧ j < p + 4
  · rw [if_pos h]
  · rw [if_neg h, put32_out (by omega)]
theorem clr_step (u : Nat → Int32) (p n : Nat) : clr (upd u p 0) (p + 1) n = clr u p (n + 1) := by
  funext j
  unfold clr upd
  by_cases hj : j = p
  · rw [if_neg (by omega), if_pos hj, if_pos (by omega)]
  · by_cases h : p + 1 ≤ j ∧ j < p + 1 + n
    · rw [if_pos h, if_pos (by omega)]
    · rw [if_neg h, if_neg hj, if_neg (by omega)]
theorem pm_waits1 {w : Nat} (hw : w < 41) {b : Int32} {bk' oo' : Nat → Int32} : ∀ (n k : Nat) (g : Nat → Int32), k ≤ 64 → 64 < k + n → f_Md_waits_L10 nD D nT TP tl kp nx cm cr th op fo om ob np tu od 41 bk 2624 W 41 oo wt b (Int32.ofNat (64 * w)) bk' oo' (Int32.ofNat w) n g (Int32.ofNat k) = some (Int32.ofNat (64 * w), upd bk' w b, clr g (64 * w + k) (64 - k), upd oo' w 0, Int32.ofNat (w + 1)) := by
  intro n
  induction n with
  | zero => intro k g h1 h2; omega
  | succ n ih =>
    intro k g h1 h2
    rw [f_Md_waits_L10.eq_2, nl_64, pi_le (by omega) (by omega)]
    by_cases hk : 64 ≤ k
    · rw [if_pos hk, pn_ck (by omega) (by omega), pn_ck (by omega) (by omega), pn_nat (by omega), nl_1, pn_add]
      congr 5
      funext j
      rw [clr, if_neg (by omega)]
    · rw [if_neg hk, pn_add, pn_ck (by omega) (by omega), pn_nat (by omega), nl_1, pn_add, ih (k + 1) _ (by omega) (by omega), ← Nat.add_assoc, clr_step, show 64 - (k + 1) + 1 = 64 - k by omega]
theorem pm_waits {w : Nat} (hw : w < 41) (b : Int32) : f_Md_waits nD D nT TP tl kp nx cm cr th op fo om ob np tu od 41 bk 2624 W 41 oo (Int32.ofNat w) b = some (Int32.ofNat (64 * w), upd bk w b, clr W (64 * w) 64, upd oo w 0, Int32.ofNat (w + 1)) := by
  unfold f_Md_waits
  rw [nl_64, pn_mul]
  exact pm_waits1 hw 5000 0 W (by omega) (by omega)
/-- all below n come one step (of d) nearer -/
def shf (g : Nat → Int32) (d n : Nat) : Nat → Int32 := fun j => if j < n then g (j + d) else g j
theorem pm_first3 {w : Nat} (hw : w < 41) {p0 : Int32} {D' bk' oo' : Nat → Int32} {o' : Int32} {W0 : Nat → Int32} : ∀ (n k : Nat) (g : Nat → Int32), k ≤ 64 * w → 64 * w < k + n → (∀ j, g j = shf W0 64 k j) → f_Md_comesFirst_L116 nD D nT TP tl kp nx cm cr th op fo om ob np tu od nB bk 2624 W nO oo wt p0 D' o' bk' oo' (Int32.ofNat w) n g (Int32.ofNat k) = some (D', o', bk', shf W0 64 (64 * w), oo', Int32.ofNat w) := by
  intro n
  induction n with
  | zero => intro k g h1 h2; omega
  | succ n ih =>
    intro k g h1 h2 h3
    rw [f_Md_comesFirst_L116.eq_2, nl_64, pn_mul, pi_le (by omega) (by omega)]
    by_cases hk : 64 * w ≤ k
    · rw [if_pos hk]
      rw [show 64 * w = k by omega, ← (funext h3 : g = shf W0 64 k)]
    · rw [if_neg hk, pn_add, pn_ck (by omega) (by omega), pn_ck (by omega) (by omega), pn_nat (by omega), pn_nat (by omega), nl_1, pn_add, ih (k + 1) _ (by omega) (by omega)]
      intro j
      unfold upd
      by_cases hj : j = k
      · rw [if_pos hj, h3, shf, shf, if_neg (by omega), if_pos (by omega), hj]
      · rw [if_neg hj, h3, shf, shf]
        by_cases hi : j < k
        · rw [if_pos hi, if_pos (by omega)]
        · rw [if_neg hi, if_neg (by omega)]
theorem pm_first2 {w : Nat} (hw : w < 41) {p0 : Int32} {D' W' bk0 oo0 : Nat → Int32} {o' : Int32} : ∀ (n k : Nat) (g f : Nat → Int32), k ≤ w → w < k + n → (∀ j, g j = shf bk0 1 k j) → (∀ j, f j = shf oo0 1 k j) → f_Md_comesFirst_L72 nD D nT TP tl kp nx cm cr th op fo om ob np tu od 41 bk 2624 W 41 oo wt p0 D' o' W' (Int32.ofNat w) n g f (Int32.ofNat k) = some (D', o', shf bk0 1 w, shf W' 64 (64 * w), shf oo0 1 w, Int32.ofNat w) := by
  intro n
  induction n with
  | zero => intro k g f h1 h2; omega
  | succ n ih =>
    intro k g f h1 h2 h3 h4
    rw [f_Md_comesFirst_L72.eq_2, pi_le (by omega) (by omega)]
    by_cases hk : w ≤ k
    · rw [if_pos hk, pn_zero, pm_first3 (W0 := W') hw 5000 0 W' (by omega) (by omega) (fun j => by rw [shf, if_neg (by omega)]), show w = k by omega, ← (funext h3 : g = shf bk0 1 k), ← (funext h4 : f = shf oo0 1 k)]
    · rw [if_neg hk, nl_1, pn_add, pn_ck (by omega) (by omega), pn_ck (by omega) (by omega), pn_ck (by omega) (by omega), pn_ck (by omega) (by omega), pn_nat (by omega), pn_nat (by omega), ih (k + 1) _ _ (by omega) (by omega)]
      · intro j
        unfold upd
        by_cases hj : j = k
        · rw [if_pos hj, h3, shf, shf, if_neg (by omega), if_pos (by omega), hj]
        · rw [if_neg hj, h3, shf, shf]
          by_cases hi : j < k
          · rw [if_pos hi, if_pos (by omega)]
          · rw [if_neg hi, if_neg (by omega)]
      · intro j
        unfold upd
        by_cases hj : j = k
        · rw [if_pos hj, h4, shf, shf, if_neg (by omega), if_pos (by omega), hj]
        · rw [if_neg hj, h4, shf, shf]
          by_cases hi : j < k
          · rw [if_pos hi, if_pos (by omega)]
          · rw [if_neg hi, if_neg (by omega)]
theorem cpy_step (u g : Nat → Int32) (p q n : Nat) : cpy (upd u p (g q)) g (p + 1) (q + 1) n = cpy u g p q (n + 1) := by
  funext j
  unfold cpy upd
  by_cases hj : j = p
  · rw [if_neg (by omega), if_pos hj, if_pos (by omega), hj, Nat.sub_self, Nat.add_zero]
  · by_cases h : p + 1 ≤ j ∧ j < p + 1 + n
    · rw [if_pos h, if_pos (by omega), show q + 1 + (j - (p + 1)) = q + (j - p) by omega]
    · rw [if_neg h, if_neg hj, if_neg (by omega)]
theorem pm_first1 {w b c o : Nat} (hw : w < 41) (hb : b < 32) (hc : c ≤ 64) {W0 bk0 oo0 : Nat → Int32} (h0 : bk0 0 = Int32.ofNat b) (ho : oo0 0 = Int32.ofNat o) (hoo : o < 2147483648) {o' : Int32} : ∀ (n k : Nat) (g : Nat → Int32), k ≤ c → c < k + n → f_Md_comesFirst_L2 2048 D nT TP tl kp nx cm cr th op fo om ob np tu od 41 bk 2624 W 41 oo wt (Int32.ofNat c) o' bk0 W0 oo0 (Int32.ofNat (w + 1)) n g (Int32.ofNat k) = some (cpy g W0 (64 * b + k) k (c - k), (if c = 64 ∧ 0 < o then Int32.ofNat o else o'), shf bk0 1 w, shf W0 64 (64 * w), shf oo0 1 w, Int32.ofNat w) := by
  intro n
  induction n with
  | zero => intro k g h1 h2; omega
  | succ n ih =>
    intro k g h1 h2
    rw [f_Md_comesFirst_L2.eq_2, pi_le (by omega) (by omega)]
    by_cases hk : c ≤ k
    · have e9 : cpy g W0 (64 * b + k) k (c - k) = g := by
        funext j
        rw [cpy, if_neg (by omega)]
      rw [if_pos hk, nl_64, pi_eq (by omega) (by omega), e9, pn_ck0 (by omega), pn_ck0 (by omega), pn_n0, ho, pi_le0 hoo, nl_1, pn_sub (by omega), Nat.add_sub_cancel, pn_zero,
        pm_first2 hw 5000 0 bk0 oo0 (by omega) (by omega) (fun j => by rw [shf, if_neg (by omega)]) (fun j => by rw [shf, if_neg (by omega)]),
        pm_first2 hw 5000 0 bk0 oo0 (by omega) (by omega) (fun j => by rw [shf, if_neg (by omega)]) (fun j => by rw [shf, if_neg (by omega)])]
      by_cases h64 : c = 64
      · rw [if_pos h64]
        by_cases h0 : o = 0
        · rw [if_pos h0, if_neg (by omega)]
        · rw [if_neg h0, if_pos (by omega)]
      · rw [if_neg h64, if_neg (by omega)]
    · rw [if_neg hk, pn_ck0 (by omega), pn_n0, h0, pn_ck (a := k) (by omega) (by omega), nl_64, pn_mul, pn_add, pn_ck (by omega) (by omega), pn_nat (a := k) (by omega), pn_nat (by omega), nl_1, pn_add, ih (k + 1) _ (by omega) (by omega), ← Nat.add_assoc, cpy_step, show c - (k + 1) + 1 = c - k by omega]
theorem pm_first {w b c o : Nat} (hw : w < 41) (hb : b < 32) (hc : c ≤ 64) (h0 : bk 0 = Int32.ofNat b) (ho : oo 0 = Int32.ofNat o) (hoo : o < 2147483648) : f_Md_comesFirst 2048 D nT TP tl kp nx cm cr th op fo om ob np tu od 41 bk 2624 W 41 oo (Int32.ofNat (w + 1)) (Int32.ofNat c) = some (cpy D W (64 * b) 0 c, (if c = 64 ∧ 0 < o then Int32.ofNat o else od), shf bk 1 w, shf W 64 (64 * w), shf oo 1 w, Int32.ofNat w) := by
  unfold f_Md_comesFirst
  rw [pn_zero, pm_first1 hw hb hc h0 ho hoo 5000 0 D (by omega) (by omega)]
  rfl
theorem pm_do {w b o : Nat} (hw : w < 41) (hb : b < 32) (h0 : bk 0 = Int32.ofNat b) (ho : oo 0 = Int32.ofNat o) (hoo : o < 2147483648) : f_Md_doFirst 2048 D nT TP tl kp nx cm cr th op fo om ob np tu od 41 bk 2624 W 41 oo (Int32.ofNat (w + 1)) = some (cpy D W (64 * b) 0 64, (if 0 < o then Int32.ofNat o else od), shf bk 1 w, shf W 64 (64 * w), shf oo 1 w, Int32.ofNat w) := by
  unfold f_Md_doFirst
  rw [nl_64, pm_first hw hb (by omega) h0 ho hoo, Option.bind_some]
  by_cases h : 0 < o
  · rw [if_pos h, if_pos ⟨rfl, h⟩]
  · rw [if_neg h, if_neg (fun z => h z.2)]
end
