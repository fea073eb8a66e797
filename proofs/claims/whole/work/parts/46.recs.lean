/-! RECORDS on a BLOCK: are they good; which are they -/
/-- r RECORDS from byte k of the BLOCK at p on are good -/
def hrk (u : Nat → Int32) (p : Nat) : Nat → Nat → Bool
  | 0, _ => true
  | r + 1, k => if 60 < k + 2 then false else if u (p + k) = 0 then false else if 40 < (u (p + k + 1)).toNatClampNeg then false else if 60 < k + 2 + (u (p + k + 1)).toNatClampNeg then false else hrk u p r (k + 2 + (u (p + k + 1)).toNatClampNeg)
theorem hrk_len {u : Nat → Int32} {p : Nat} : ∀ (r k : Nat), hrk u p r k = true → k ≤ 60 → k + 2 * r ≤ 60
  | 0, _, _, h => by omega
  | r + 1, k, h, hk => by
    rw [hrk] at h
    by_cases h1 : 60 < k + 2
    · rw [if_pos h1] at h; cases h
    · rw [if_neg h1] at h
      by_cases h2 : u (p + k) = 0
      · rw [if_pos h2] at h; cases h
      · rw [if_neg h2] at h
        by_cases h3 : 40 < (u (p + k + 1)).toNatClampNeg
        · rw [if_pos h3] at h; cases h
        · rw [if_neg h3] at h
          by_cases h4 : 60 < k + 2 + (u (p + k + 1)).toNatClampNeg
          · rw [if_pos h4] at h; cases h
          · rw [if_neg h4] at h
            have := hrk_len r _ h (by omega)
            omega
theorem hrk_succ {u : Nat → Int32} {p r k : Nat} (h : hrk u p (r + 1) k = true) : k + 2 ≤ 60 ∧ u (p + k) ≠ 0 ∧ (u (p + k + 1)).toNatClampNeg ≤ 40 ∧ k + 2 + (u (p + k + 1)).toNatClampNeg ≤ 60 ∧ hrk u p r (k + 2 + (u (p + k + 1)).toNatClampNeg) = true := by
  rw [hrk] at h
  by_cases h1 : 60 < k + 2
  · rw [if_pos h1] at h; cases h
  · rw [if_neg h1] at h
    by_cases h2 : u (p + k) = 0
    · rw [if_pos h2] at h; cases h
    · rw [if_neg h2] at h
      by_cases h3 : 40 < (u (p + k + 1)).toNatClampNeg
      · rw [if_pos h3] at h; cases h
      · rw [if_neg h3] at h
        by_cases h4 : 60 < k + 2 + (u (p + k + 1)).toNatClampNeg
        · rw [if_pos h4] at h; cases h
        · rw [if_neg h4] at h
          exact ⟨by omega, h2, by omega, by omega, h⟩
theorem sm_nat {u : Nat → Int32} (hs : ∀ i, ∃ n, n < 256 ∧ u i = Int32.ofNat n) (i : Nat) : (u i).toNatClampNeg < 256 ∧ u i = Int32.ofNat (u i).toNatClampNeg := by
  obtain ⟨n, hn, e⟩ := hs i
  rw [e, pn_nat (by omega)]
  exact ⟨hn, rfl⟩
section
variable {BD BW pA BR pb sb BT : Nat → Int32} {wc oP uS nP ckp cnx ht ho hk ctl tt ccm ccr : Int32}
theorem pc_hgood1 {u : Nat → Int32} (h : Bv BD u) {b c : Nat} (hb : b < 32) (hc : c < 256) : ∀ (n i k : Nat), i ≤ c → c < i + n → k ≤ 60 → f_RJ_hasGoodRecords_L17 32 2048 BD 41 2624 BW 41 pA wc 30 1920 BR oP uS nP 750 pb 750 sb ckp cnx ht ho hk 40 BT ctl tt ccm ccr (Int32.ofNat b) (Int32.ofNat c) n (Int32.ofNat k) (Int32.ofNat i) = some (if hrk u (64 * b) (c - i) k = true then 1 else 0) := by
  intro n
  induction n with
  | zero => intro i k h1 h2; omega
  | succ n ih =>
    intro i k h1 h2 hk
    rw [f_RJ_hasGoodRecords_L17.eq_2, pi_le (by omega) (by omega)]
    by_cases hi : c ≤ i
    · rw [if_pos hi, show c - i = 0 by omega, hrk, if_pos rfl]
    · rw [if_neg hi, show c - i = (c - (i + 1)) + 1 by omega, hrk, nl_2, pn_add, nl_60, pi_le (by omega) (by omega)]
      by_cases a1 : 60 < k + 2
      · rw [if_neg (by omega), if_pos a1, if_neg (by decide)]
      · rw [if_pos (by omega), if_neg a1, nl_1, pn_add, d_get h hb (by omega), Option.bind_some, d_get h hb (by omega), Option.bind_some]
        by_cases a2 : u (64 * b + k) = 0
        · rw [if_pos a2, if_pos a2, if_neg (by decide)]
        · obtain ⟨hm, em⟩ := sm_nat h.small (64 * b + k + 1)
          rw [if_neg a2, if_neg a2, show 64 * b + (k + 1) = 64 * b + k + 1 by omega]
          generalize (u (64 * b + k + 1)).toNatClampNeg = m at hm em
          rw [em, nl_40, pi_lt (by omega) (by omega)]
          by_cases a3 : 40 < m
          · rw [if_pos a3, if_pos a3, if_neg (by decide)]
          · rw [if_neg a3, if_neg a3, pn_add, pi_le (by omega) (by omega)]
            by_cases a4 : 60 < k + 2 + m
            · rw [if_neg (by omega), if_pos a4, if_neg (by decide)]
            · rw [if_pos (by omega), if_neg a4, pn_add, pn_add, pn_add, ih (i + 1) (k + (2 + m)) (by omega) (by omega) (by omega), show k + (2 + m) = k + 2 + m by omega]; rfl
theorem pc_hgood {u : Nat → Int32} (h : Bv BD u) {b : Nat} (hb : b < 32) : f_RJ_hasGoodRecords 32 2048 BD 41 2624 BW 41 pA wc 30 1920 BR oP uS nP 750 pb 750 sb ckp cnx ht ho hk 40 BT ctl tt ccm ccr (Int32.ofNat b) = some (if hrk u (64 * b) (u (64 * b + 8)).toNatClampNeg 9 = true then 1 else 0) := by
  obtain ⟨hm, em⟩ := sm_nat h.small (64 * b + 8)
  unfold f_RJ_hasGoodRecords
  rw [nl_8, d_get h hb (by omega), Option.bind_some]
  generalize (u (64 * b + 8)).toNatClampNeg = m at hm em
  rw [em]
  exact pc_hgood1 h hb hm 300 0 9 (by omega) (by omega) (by omega)
end
section
variable {nD nT nB nW nO : Nat} {D TP bk W oo : Nat → Int32} {tl kp nx cm cr th op fo om ob np tu od wt : Int32}
theorem pm_hrec1 {u : Nat → Int32} (hs : ∀ i, ∃ n, n < 256 ∧ u i = Int32.ofNat n) (hD : ∀ j, j < 2048 → D j = u j) {p c : Nat} (hp : p + 64 ≤ 2048) (hcc : u (p + 8) = Int32.ofNat c) (hc : c < 256) : ∀ (n i k : Nat), i ≤ c → c < i + n → k ≤ 60 → f_Md_hasRecords_L13 2048 D nT TP tl kp nx cm cr th op fo om ob np tu od nB bk nW W nO oo wt (Int32.ofNat p) (Int32.ofNat (p + 60)) n (Int32.ofNat (p + k)) (Int32.ofNat i) = some (if hrk u p (c - i) k = true then 1 else 0) := by
  intro n
  induction n with
  | zero => intro i k h1 h2; omega
  | succ n ih =>
    intro i k h1 h2 hk
    rw [f_Md_hasRecords_L13.eq_2, nl_8, pn_add, pn_ck (by omega) (by omega), pn_nat (by omega), hD _ (by omega), hcc, pi_le (by omega) (by omega)]
    by_cases hi : c ≤ i
    · rw [if_pos hi, show c - i = 0 by omega, hrk, if_pos rfl]
    · rw [if_neg hi, show c - i = (c - (i + 1)) + 1 by omega, hrk, nl_2, pn_add, pi_lt (by omega) (by omega)]
      by_cases a1 : 60 < k + 2
      · rw [if_pos (by omega), if_pos a1, if_neg (by decide)]
      · rw [if_neg (by omega), if_neg a1, pn_ck (by omega) (by omega), pn_nat (a := p + k) (by omega), hD (p + k) (by omega)]
        by_cases a2 : u (p + k) = 0
        · rw [if_pos a2, if_pos a2, if_neg (by decide)]
        · obtain ⟨hm, em⟩ := sm_nat hs (p + k + 1)
          rw [if_neg a2, if_neg a2, nl_1, pn_add, pn_ck (by omega) (by omega), pn_ck (by omega) (by omega), pn_ck (by omega) (by omega), pn_nat (a := p + k + 1) (by omega), hD (p + k + 1) (by omega)]
          generalize (u (p + k + 1)).toNatClampNeg = m at hm em
          rw [em, nl_40, pi_lt (by omega) (by omega)]
          by_cases a3 : 40 < m
          · rw [if_pos a3, if_pos a3, if_neg (by decide)]
          · rw [if_neg a3, if_neg a3, pn_add, pi_le (by omega) (by omega)]
            by_cases a4 : 60 < k + 2 + m
            · rw [if_neg (by omega), if_pos a4, if_neg (by decide)]
            · rw [if_pos (by omega), if_neg a4, pn_add, pn_add, pn_add, show p + k + (2 + m) = p + (k + 2 + m) by omega, ih (i + 1) (k + 2 + m) (by omega) (by omega) (by omega)]; rfl
theorem pm_hrec {u : Nat → Int32} (hs : ∀ i, ∃ n, n < 256 ∧ u i = Int32.ofNat n) (hD : ∀ j, j < 2048 → D j = u j) {p : Nat} (hp : p + 64 ≤ 2048) : f_Md_hasRecords 2048 D nT TP tl kp nx cm cr th op fo om ob np tu od nB bk nW W nO oo wt (Int32.ofNat p) = some (if hrk u p (u (p + 8)).toNatClampNeg 9 = true then 1 else 0) := by
  obtain ⟨hm, em⟩ := sm_nat hs (p + 8)
  unfold f_Md_hasRecords
  generalize (u (p + 8)).toNatClampNeg = m at hm em
  rw [nl_60, pn_add, nl_9, pn_add]
  exact pm_hrec1 hs hD hp em hm 5000 0 9 (by omega) (by omega) (by omega)
end
/-! entries: number, KIND, PAGE, how many bytes, these, and where on the PAGE the RECORD begins -/
abbrev Ent := Nat × Nat × Nat × Nat × (Nat → Int32) × Nat
abbrev en (e : Ent) : Nat := e.1
abbrev ek (e : Ent) : Nat := e.2.1
abbrev ep (e : Ent) : Nat := e.2.2.1
abbrev el (e : Ent) : Nat := e.2.2.2.1
abbrev eb (e : Ent) : Nat → Int32 := e.2.2.2.2.1
abbrev eo (e : Ent) : Nat := e.2.2.2.2.2
def nv (e : Ent) : NV := (Int32.ofNat (en e), Int32.ofNat (ek e), Int32.ofNat (ep e), el e, eb e)
def rec1 (u : Nat → Int32) (p pg nm k : Nat) : Ent := (nm, (u (p + k)).toNatClampNeg, pg, (u (p + k + 1)).toNatClampNeg, fun j => if j < (u (p + k + 1)).toNatClampNeg then u (p + k + 2 + j) else 0, k)
/-- the RECORDS from K on, of r RECORDS from byte k on, the first of number nm -/
def recs (u : Nat → Int32) (p pg K : Nat) : Nat → Nat → Nat → List Ent
  | 0, _, _ => []
  | r + 1, nm, k => (if K ≤ nm then [rec1 u p pg nm k] else []) ++ recs u p pg K r (nm + 1) (k + 2 + (u (p + k + 1)).toNatClampNeg)
def adP (f : Nat → Int32) : List Ent → Nat → Int32
  | [] => f
  | e :: t => adP (upd f (en e % 750) (Int32.ofNat (ep e))) t
def adS (f : Nat → Int32) : List Ent → Nat → Int32
  | [] => f
  | e :: t => adS (upd f (en e % 750) (Int32.ofNat (eo e))) t
section
variable {BD BW pA BR pb sb BT : Nat → Int32} {wc oP uS nP ckp cnx ht ho hk ctl tt ccm ccr : Int32}
theorem pc_take1 {u : Nat → Int32} (h : Bv BD u) {b c pg K f : Nat} (hb : b < 32) (hc : c < 256) (hK : K ≤ 1000000) (hf : f ≤ 1002000) {R0 : Nat → Int32} {q0 : Int32} (hkp : ckp = Int32.ofNat K) : ∀ (n i k : Nat) (g s : Nat → Int32), i ≤ c → c < i + n → k ≤ 60 → hrk u (64 * b) (c - i) k = true → f_RJ_takePage_L42 32 2048 BD 41 2624 BW 41 pA wc 30 1920 BR oP uS nP 750 pb 750 sb ckp cnx ht ho hk 40 BT ctl tt ccm ccr (Int32.ofNat b) (Int32.ofNat pg) (Int32.ofNat f) (Int32.ofNat c) R0 q0 n g s (Int32.ofNat (max (f + i) K)) (Int32.ofNat k) (Int32.ofNat i) = some (Int32.ofNat (f + c), R0, q0, adP g (recs u (64 * b) pg K (c - i) (f + i) k), adS s (recs u (64 * b) pg K (c - i) (f + i) k), Int32.ofNat (max (f + c) K)) := by
  intro n
  induction n with
  | zero => intro i k g s h1 h2; omega
  | succ n ih =>
    intro i k g s h1 h2 hk hh
    rw [f_RJ_takePage_L42.eq_2, pi_le (by omega) (by omega)]
    by_cases hi : c ≤ i
    · rw [if_pos hi, show c - i = 0 by omega, recs, adP, adS, pn_add, show i = c by omega]
    · have e9 : c - i = (c - (i + 1)) + 1 := by omega
      rw [e9] at hh
      obtain ⟨a1, a2, a3, a4, a5⟩ := hrk_succ hh
      obtain ⟨hm, em⟩ := sm_nat h.small (64 * b + k + 1)
      rw [if_neg hi, e9, recs, pn_add, hkp, pi_lt (by omega) (by omega), nl_1, pn_add, d_get h hb (by omega), show 64 * b + (k + 1) = 64 * b + k + 1 by omega]
      by_cases hn : f + i < K
      · rw [if_pos hn, Option.bind_some, em, pn_nat (by omega)]
        generalize (u (64 * b + k + 1)).toNatClampNeg = m at *
        rw [nl_2, pn_add, pn_add, pn_add, show max (f + i) K = max (f + (i + 1)) K by omega, show k + (2 + m) = k + 2 + m by omega, ← hkp, ih (i + 1) (k + 2 + m) g s (by omega) (by omega) (by omega) a5, if_neg (by omega), List.nil_append]
        rfl
      · rw [if_neg hn, show max (f + i) K = f + i by omega, pc_add (by omega), Option.bind_some, Option.bind_some, if_pos (show K ≤ f + i by omega)]
        have er : rec1 u (64 * b) pg (f + i) k = rec1 u (64 * b) pg (f + i) k := rfl
        rw [List.cons_append, List.nil_append, adP, adS]
        show f_RJ_takePage_L42 _ _ _ _ _ _ _ _ _ _ _ _ _ _ _ _ _ _ _ _ _ _ _ _ _ _ _ _ _ _ _ _ _ _ _ _ n (upd g ((f + i) % 750) (Int32.ofNat pg)) (upd s ((f + i) % 750) (Int32.ofNat k)) (Int32.ofNat (f + i + 1)) (Int32.ofNat k + (2 + u (64 * b + k + 1))) (Int32.ofNat i + Int32.ofNat 1) = _
        have e2 : Int32.ofNat k + (2 + u (64 * b + k + 1)) = Int32.ofNat (k + 2 + (u (64 * b + k + 1)).toNatClampNeg) := by
          conv => lhs; rw [em]
          rw [nl_2, pn_add, pn_add]; congr 1; omega
        have e3 : Int32.ofNat (f + i + 1) = Int32.ofNat (max (f + (i + 1)) K) := by congr 1; omega
        rw [e2, pn_add, e3, ← hkp, ih (i + 1) _ _ _ (by omega) (by omega) (by omega) a5]
        rfl
end
