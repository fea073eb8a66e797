/-! FOUND AGAIN: PAGES one after the other, by both -/
section
variable {BD BW pA BR pb sb BT : Nat → Int32} {wc oP uS nP ckp cnx ht ho hk ctl tt ccm ccr : Int32}
theorem pc_take {u ur : Nat → Int32} (h : Bv BD u) (hr : Bv BR ur) {P K f c : Nat} (hP1 : 1 ≤ P) (hP2 : P < 1002000) (hnP : nP = Int32.ofNat P) (hkp : ckp = Int32.ofNat K) (hK : K ≤ 1000000) (hf : f ≤ 1000000) (hcnx : cnx = Int32.ofNat (max f K)) (hff : w32 u (64 * (2 + rw30 P) + 4) = Int32.ofNat f) (hcc : (u (64 * (2 + rw30 P) + 8)).toNatClampNeg = c) (hh : hrk u (64 * (2 + rw30 P)) c 9 = true) :
    ∃ B1, Bv B1 (cpy ur u (64 * rw30 P) (64 * (2 + rw30 P)) 64) ∧ f_RJ_takePage 32 2048 BD 41 2624 BW 41 pA wc 30 1920 BR oP uS nP 750 pb 750 sb ckp cnx ht ho hk 40 BT ctl tt ccm ccr (Int32.ofNat (2 + rw30 P)) = some (Int32.ofNat (f + c), B1, Int32.ofNat (P + 1), adP pb (recs u (64 * (2 + rw30 P)) P K c f 9), adS sb (recs u (64 * (2 + rw30 P)) P K c f 9), Int32.ofNat (max (f + c) K)) := by
  have hlt := rw30_lt P
  obtain ⟨B1, e1, h1⟩ := rd_copy hr h (show rw30 P < 30 by omega) (show 2 + rw30 P < 32 by omega) (show 64 ≤ 64 by omega)
  refine ⟨B1, h1, ?_⟩
  obtain ⟨hm, em⟩ := sm_nat h.small (64 * (2 + rw30 P) + 8)
  rw [hcc] at hm em
  unfold f_RJ_takePage f_Pg_takeNext
  rw [hnP, pc_row hP1 (by omega), Option.bind_some, nl_64, e1, Option.bind_some, Option.bind_some, nl_4, d_u32 h (by omega) (by omega), Option.bind_some, nl_8, d_get h (by omega) (by omega), Option.bind_some, hff, em, hcnx, nl_1, pn_add]
  exact pc_take1 h (show 2 + rw30 P < 32 by omega) hm hK (by omega) hkp 300 0 9 pb sb (by omega) (by omega) (by omega) hh
end
section
variable {nD nT nB nW nO : Nat} {D TP bk W oo : Nat → Int32} {tl kp nx cm cr th op fo om ob np tu od wt : Int32}
theorem pm_find_no {vs : List NV} {u : Nat → Int32} (hs : ∀ i, ∃ n, n < 256 ∧ u i = Int32.ofNat n) (hD : ∀ j, j < 2048 → D j = u j) {P K i : Nat} {o1 m1 b1 t1 d1 n1 x : Int32} (hP1 : 1 ≤ P) (hP2 : P < 1002000) (hi : i < 30) (n uc us : Nat)
    (hno : ¬ pgk u P (if i = 0 then ¬ Int32.ofNat K < w32 u (64 * (2 + rw30 P) + 4) else w32 u (64 * (2 + rw30 P) + 4) = x)) :
    f_Md_find_L43 vs 2048 D nT TP tl kp nx cm cr th op fo om ob np tu od nB bk nW W nO oo wt (Int32.ofNat K) n1 o1 m1 b1 t1 d1 (n + 1) (Int32.ofNat P) x 1 (Int32.ofNat i) uc us = f_Md_find_L43 vs 2048 D nT TP tl kp nx cm cr th op fo om ob np tu od nB bk nW W nO oo wt (Int32.ofNat K) n1 o1 m1 b1 t1 d1 n (Int32.ofNat P) x 0 (Int32.ofNat (i + 1)) uc us := by
  have hb : 2 + rw30 P < 32 := by have := rw30_lt P; omega
  unfold pgk at hno
  rw [f_Md_find_L43.eq_2, pm_row hP1 (by omega)]
  generalize hbb : 2 + rw30 P = b at hb hno
  rw [nl_30, pi_le (by omega) (by omega), if_neg (by omega), if_neg (by decide), nl_64, pn_mul, nl_4, pn_add, pm_word_at hD (by omega), Option.bind_some, pm_whole hD hb, Option.bind_some, pm_word_at hD (by omega), Option.bind_some]
  rcases pc_num (w32 u (64 * b + 4)) with ⟨h1, -, e1⟩ | ⟨h1, -, e1⟩
  · rw [e1, Option.bind_some, nl_1, pn_add]
    by_cases h3 : w32 u (64 * b + 60) = crc u (64 * b)
    · rw [if_pos h3, if_neg (by decide)]
      by_cases h2 : w32 u (64 * b) = Int32.ofNat P
      · rw [if_pos h2, if_neg (by decide), pn_zero, pi_eq (by omega) (by omega)]
        by_cases h5 : i = 0
        · rw [if_pos h5]
          by_cases h6 : Int32.ofNat K < w32 u (64 * b + 4)
          · rw [if_pos h6]
          · rw [if_neg h6, pm_hrec hs hD (by omega), Option.bind_some]
            by_cases h4 : hrk u (64 * b) (u (64 * b + 8)).toNatClampNeg 9 = true
            · exact absurd ⟨h3, h2, h1, by rw [if_pos h5]; exact h6, h4⟩ hno
            · rw [if_neg h4, if_pos (show (0 : Int32) = Int32.ofNat 0 from rfl)]
        · rw [if_neg h5]
          by_cases h6 : w32 u (64 * b + 4) = x
          · rw [if_pos h6, pm_hrec hs hD (by omega), Option.bind_some]
            by_cases h4 : hrk u (64 * b) (u (64 * b + 8)).toNatClampNeg 9 = true
            · exact absurd ⟨h3, h2, h1, by rw [if_neg h5]; exact h6, h4⟩ hno
            · rw [if_neg h4, if_pos (show (0 : Int32) = Int32.ofNat 0 from rfl)]
          · rw [if_neg h6]
      · rw [if_neg h2]
    · rw [if_neg h3, if_pos rfl]
  · rw [e1, Option.bind_some, if_pos rfl, nl_1, pn_add]
    by_cases h3 : w32 u (64 * b + 60) = crc u (64 * b)
    · rw [if_pos h3, if_neg (by decide)]
      split <;> rfl
    · rw [if_neg h3, if_pos rfl]
theorem pm_find_yes {vs : List NV} {u : Nat → Int32} (hs : ∀ i, ∃ n, n < 256 ∧ u i = Int32.ofNat n) (hD : ∀ j, j < 2048 → D j = u j) {P K i f c : Nat} {o1 m1 b1 t1 d1 n1 x : Int32} (hP1 : 1 ≤ P) (hP2 : P < 1002000) (hK : K ≤ 1000000) (hi : i < 30) (n uc us : Nat) (huc : 50 ≤ uc) (hus : 126 ≤ us) (hff : w32 u (64 * (2 + rw30 P) + 4) = Int32.ofNat f) (hf : f ≤ 1000000) (hcc : (u (64 * (2 + rw30 P) + 8)).toNatClampNeg = c)
    (hyes : pgk u P (if i = 0 then ¬ Int32.ofNat K < w32 u (64 * (2 + rw30 P) + 4) else w32 u (64 * (2 + rw30 P) + 4) = x)) :
    f_Md_find_L43 vs 2048 D nT TP tl kp nx cm cr th op fo om ob np tu od nB bk nW W nO oo wt (Int32.ofNat K) n1 o1 m1 b1 t1 d1 (n + 1) (Int32.ofNat P) x 1 (Int32.ofNat i) uc us = f_Md_find_L43 (vs ++ (recs u (64 * (2 + rw30 P)) P K c f 9).map nv) 2048 D nT TP tl kp nx cm cr th op fo om ob np tu od nB bk nW W nO oo wt (Int32.ofNat K) n1 o1 m1 b1 t1 d1 n (Int32.ofNat (P + 1)) (Int32.ofNat (f + c)) 1 (Int32.ofNat (i + 1)) (uc - 50) (us - 126) := by
  have hb : 2 + rw30 P < 32 := by have := rw30_lt P; omega
  obtain ⟨hm, em⟩ := sm_nat hs (64 * (2 + rw30 P) + 8)
  rw [hcc] at hm em
  unfold pgk at hyes
  rw [hcc] at hyes
  rw [f_Md_find_L43.eq_2, pm_row hP1 (by omega)]
  generalize hbb : 2 + rw30 P = b at *
  obtain ⟨h3, h2, h1, h5, h4⟩ := hyes
  have hrec : ∀ vs', f_Md_findRecords vs' 2048 D nT TP tl (Int32.ofNat K) n1 cm cr th o1 fo m1 b1 (Int32.ofNat P) t1 d1 nB bk nW W nO oo wt (Int32.ofNat P) (Int32.ofNat (64 * b)) = some (vs' ++ (recs u (64 * b) P K c f 9).map nv) := fun vs' => by
    rw [← hcc]
    exact pm_recs hs hD (by omega) hff (by omega) hK rfl (by rw [hcc]; exact h4) vs'
  have hnum : f_Md_isNumber (Int32.ofNat f) = some 1 := by
    rcases pc_num (w32 u (64 * b + 4)) with ⟨z1, -, z2⟩ | ⟨z1, -, z2⟩
    · rw [← hff]; exact z2
    · exact absurd h1 z1
  rw [nl_30, pi_le (by omega) (by omega), if_neg (by omega), if_neg (by decide), nl_64, pn_mul, nl_4, pn_add, pm_word_at hD (by omega), Option.bind_some, pm_whole hD hb, Option.bind_some, pm_word_at hD (by omega), Option.bind_some, if_pos h3, if_neg (by decide), if_pos h2, hff, hnum, Option.bind_some, if_neg (by decide), pn_zero, pi_eq (by omega) (by omega), pm_hrec hs hD (by omega), hcc, Option.bind_some, if_pos h4, if_neg (show ¬ (1 : Int32) = Int32.ofNat 0 by decide), if_neg (show ¬ (uc < 50 ∨ us < 126) by omega), hrec, Option.bind_some, nl_8, pn_add, ← pn_zero, pn_ck (by omega) (by omega), pn_nat (by omega), hD _ (by omega), em, pn_add, nl_1, pn_add, pn_add]
  rw [hff] at h5
  by_cases hi0 : i = 0
  · rw [if_pos hi0] at h5
    rw [if_pos hi0, if_neg h5]
  · rw [if_neg hi0] at h5
    rw [if_neg hi0, if_pos h5]
theorem pm_find_end {vs : List NV} {P K i x1 : Nat} {o1 m1 b1 t1 d1 n1 y : Int32} (hK : K ≤ 1000000) (hx : x1 < 2147483648) (hi : i ≤ 30) (n uc us : Nat) (h : 30 ≤ i ∨ y = 0) :
    f_Md_find_L43 vs 2048 D nT TP tl kp nx cm cr th op fo om ob np tu od nB bk nW W nO oo wt (Int32.ofNat K) n1 o1 m1 b1 t1 d1 (n + 1) (Int32.ofNat P) (Int32.ofNat x1) y (Int32.ofNat i) uc us = some (Int32.ofNat K, Int32.ofNat (max x1 K), o1, m1, b1, Int32.ofNat P, t1, d1, vs) := by
  have e : (if Int32.ofNat x1 ≤ Int32.ofNat K then some (Int32.ofNat K, Int32.ofNat K, o1, m1, b1, Int32.ofNat P, t1, d1, vs) else some (Int32.ofNat K, Int32.ofNat x1, o1, m1, b1, Int32.ofNat P, t1, d1, vs)) = some (Int32.ofNat K, Int32.ofNat (max x1 K), o1, m1, b1, Int32.ofNat P, t1, d1, vs) := by
    rw [pi_le (by omega) (by omega)]
    by_cases hk : x1 ≤ K
    · rw [if_pos hk, show max x1 K = K by omega]
    · rw [if_neg hk, show max x1 K = x1 by omega]
  rw [f_Md_find_L43.eq_2, e, nl_30, pi_le (by omega) (by omega)]
  by_cases h30 : 30 ≤ i
  · rw [if_pos h30]
  · rw [if_neg h30, if_pos]
    rcases h with h | h
    · omega
    · exact h
end
