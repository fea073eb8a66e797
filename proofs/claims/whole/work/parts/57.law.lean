/-! the law's loop -/
theorem p_end {n i : Nat} (hn : n ≤ 2048) (hi : i ≤ 2052) : (Int32.ofNat n - 4 < Int32.ofNat i) ↔ n < i + 4 := by
  by_cases h : 4 ≤ n
  · rw [nl_4, pn_sub h, pn_lt (by omega) (by omega)]
    omega
  · have h0 : Int32.ofNat n - 4 < 0 := by
      have : n = 0 ∨ n = 1 ∨ n = 2 ∨ n = 3 := by omega
      rcases this with rfl | rfl | rfl | rfl <;> decide
    exact ⟨fun _ => by omega, fun _ => Int32.lt_of_lt_of_le h0 (Int32.not_lt.mp (pn_neg (by omega)))⟩
theorem lg_same (x : Int64) : lg_cmp x x = 0 := by
  unfold lg_cmp
  rw [if_neg (fun h => Int64.lt_irrefl h), if_pos rfl]
theorem lg_upd (f : Nat → Int64) (a : Int32) : lg_cmp (vp_updL f (0 : Int32).toNatClampNeg a.toInt64 (0 : Int32).toNatClampNeg) a.toInt64 = 0 := by
  unfold vp_updL
  rw [if_pos rfl, lg_same]
section
variable {BD BW pA BR pb sb BT : Nat → Int32} {wc oP uS nP ckp cnx ht ho hk ctl tt ccm ccr : Int32}
theorem lw_append {ou : Nat → Int64} {x a : Int32} {q : Nat} {a1 a2 a4 a8 a9 : Nat → Int32} {a3 a5 a6 a7 a10 a11 a12 : Int32} (hq : q ≤ 2) (h : f_RJ_append 32 2048 BD 41 2624 BW 41 pA wc 30 1920 BR oP uS nP 750 pb 750 sb ckp cnx ht ho hk 40 BT ctl tt ccm ccr x = some (q, a, a1, a2, a3, a4, a5, a6, a7, a8, a9, a10, a11, a12)) :
    f_Lw_append 32 2048 BD 41 2624 BW 41 pA wc 30 1920 BR oP uS nP 750 pb 750 sb ckp cnx ht ho hk 40 BT ctl tt ccm ccr 1 ou x = some (Int32.ofNat q, a1, a2, a3, a4, a5, a6, a7, a8, a9, a10, a11, a12, if q = 0 then vp_updL ou (0 : Int32).toNatClampNeg a.toInt64 else ou) := by
  unfold f_Lw_append
  rw [h, Option.bind_some]
  dsimp only
  rw [pn_ck0 (by omega)]
  have : q = 0 ∨ q = 1 ∨ q = 2 := by omega
  rcases this with rfl | rfl | rfl <;> rfl
theorem lw_crash {ou : Nat → Int64} {x y a : Int32} {q : Nat} {a1 a3 a7 a8 : Nat → Int32} {a2 a4 a5 a6 a9 a10 a11 a12 a13 a14 a15 : Int32} (hq : q ≤ 2) (h : f_RJ_crash 32 2048 BD 41 2624 BW 41 pA wc 30 1920 BR oP uS nP 750 pb 750 sb ckp cnx ht ho hk 40 BT ctl tt ccm ccr x y = some (q, a, a1, a2, a3, a4, a5, a6, a7, a8, a9, a10, a11, a12, a13, a14, a15)) :
    f_Lw_crash 32 2048 BD 41 2624 BW 41 pA wc 30 1920 BR oP uS nP 750 pb 750 sb ckp cnx ht ho hk 40 BT ctl tt ccm ccr 1 ou x y = some (Int32.ofNat q, a1, a2, a3, a4, a5, a6, a7, a8, a9, a10, a11, a12, a13, a14, a15, if q = 0 then vp_updL ou (0 : Int32).toNatClampNeg a.toInt64 else ou) := by
  unfold f_Lw_crash
  rw [h, Option.bind_some]
  dsimp only
  rw [pn_ck0 (by omega)]
  have : q = 0 ∨ q = 1 ∨ q = 2 := by omega
  rcases this with rfl | rfl | rfl <;> rfl
theorem lw_record {ou : Nat → Int64} {x y a : Int32} (h : f_RJ_record 32 2048 BD 41 2624 BW 41 pA wc 30 1920 BR oP uS nP 750 pb 750 sb ckp cnx ht ho hk 40 BT ctl tt ccm ccr x y = some (0, a)) : f_Lw_record 32 2048 BD 41 2624 BW 41 pA wc 30 1920 BR oP uS nP 750 pb 750 sb ckp cnx ht ho hk 40 BT ctl tt ccm ccr 1 ou x y = some (0, vp_updL ou (0 : Int32).toNatClampNeg a.toInt64) := by
  unfold f_Lw_record
  rw [h, Option.bind_some]
  dsimp only
  rw [pn_ck0 (by omega)]
  rfl
theorem lw_record3 {ou : Nat → Int64} {x y a : Int32} (h : f_RJ_record 32 2048 BD 41 2624 BW 41 pA wc 30 1920 BR oP uS nP 750 pb 750 sb ckp cnx ht ho hk 40 BT ctl tt ccm ccr x y = some (3, a)) : f_Lw_record 32 2048 BD 41 2624 BW 41 pA wc 30 1920 BR oP uS nP 750 pb 750 sb ckp cnx ht ho hk 40 BT ctl tt ccm ccr 1 ou x y = some (1, ou) := by
  unfold f_Lw_record
  rw [h, Option.bind_some]
  rfl
theorem lw_write {ou : Nat → Int64} {x y a : Int32} (h : f_RJ_write 32 2048 BD 41 2624 BW 41 pA wc 30 1920 BR oP uS nP 750 pb 750 sb ckp cnx ht ho hk 40 BT ctl tt ccm ccr x y = some (0, a)) : f_Lw_write 32 2048 BD 41 2624 BW 41 pA wc 30 1920 BR oP uS nP 750 pb 750 sb ckp cnx ht ho hk 40 BT ctl tt ccm ccr 1 ou x y = some (0, vp_updL ou (0 : Int32).toNatClampNeg a.toInt64) := by
  unfold f_Lw_write
  rw [h, Option.bind_some]
  dsimp only
  rw [pn_ck0 (by omega)]
  rfl
theorem lw_write3 {ou : Nat → Int64} {x y a : Int32} (h : f_RJ_write 32 2048 BD 41 2624 BW 41 pA wc 30 1920 BR oP uS nP 750 pb 750 sb ckp cnx ht ho hk 40 BT ctl tt ccm ccr x y = some (3, a)) : f_Lw_write 32 2048 BD 41 2624 BW 41 pA wc 30 1920 BR oP uS nP 750 pb 750 sb ckp cnx ht ho hk 40 BT ctl tt ccm ccr 1 ou x y = some (1, ou) := by
  unfold f_Lw_write
  rw [h, Option.bind_some]
  rfl
end
set_option maxHeartbeats 4000000 in
theorem p_law {nS : Nat} {xs : Nat → Int32} (hnS : nS ≤ 2048) : ∀ (rem n i uc us : Nat) {BD BW pA BR pb sb BT D TP bk W oo : Nat → Int32} {K N P O b m T old w c r l : Nat} {uS fo ht hk th : Int32} {es : List Ent} {ou : Nat → Int64}, SX BD BW pA BR pb sb BT D TP bk W oo K N P O b m T old w c r l uS fo es rem → rem ≤ 600 → nS < i + 4 * rem + 4 → i ≤ 2052 → rem < n → 3 * rem + 1500 * (300 - r) ≤ uc → 51 * rem + 3780 * (300 - r) ≤ us →
      f_law_L23 nS xs 32 2048 41 2624 41 30 1920 750 750 40 2048 40 41 2624 41 1 n (es.map nv) BD BW pA (Int32.ofNat w) BR (Int32.ofNat O) uS (Int32.ofNat P) pb sb (Int32.ofNat K) (Int32.ofNat N) ht (Int32.ofNat old) hk BT (Int32.ofNat l) (Int32.ofNat T) (Int32.ofNat c) (Int32.ofNat r) D TP (Int32.ofNat l) (Int32.ofNat K) (Int32.ofNat N) (Int32.ofNat c) (Int32.ofNat r) th (Int32.ofNat O) fo (Int32.ofNat m) (Int32.ofNat b) (Int32.ofNat P) (Int32.ofNat T) (Int32.ofNat old) bk W oo (Int32.ofNat w) ou (Int32.ofNat i) uc us = some 1 := by
  intro rem
  induction rem with
  | zero =>
    intro n i uc us BD BW pA BR pb sb BT D TP bk W oo K N P O b m T old w c r l uS fo ht hk th es ou h h1 h2 h3 h4 h5 h6
    obtain ⟨n, rfl⟩ : ∃ z, n = z + 1 := ⟨n - 1, by omega⟩
    rw [f_law_L23.eq_2, if_pos ((p_end hnS h3).mpr (by omega))]
  | succ rem ih =>
    intro n i uc us BD BW pA BR pb sb BT D TP bk W oo K N P O b m T old w c r l uS fo ht hk th es ou h h1 h2 h3 h4 h5 h6
    obtain ⟨n, rfl⟩ : ∃ z, n = z + 1 := ⟨n - 1, by omega⟩
    by_cases hz : nS < i + 4
    · rw [f_law_L23.eq_2, if_pos ((p_end hnS h3).mpr hz)]
    have hl := h.less (Nat.le_succ rem)
    have hi1 : Int32.ofNat i + 1 = Int32.ofNat (i + 1) := by rw [nl_1, pn_add]
    have hi2 : Int32.ofNat i + 2 = Int32.ofNat (i + 2) := by rw [nl_2, pn_add]
    have hi3 : Int32.ofNat i + 3 = Int32.ofNat (i + 3) := by rw [nl_3, pn_add]
    have hi4 : Int32.ofNat i + 4 = Int32.ofNat (i + 4) := by rw [nl_4, pn_add]
    rw [f_law_L23.eq_2, if_neg (fun z => hz ((p_end hnS h3).mp z)), pn_ck (by omega) (by omega), hi1, hi2, hi3, hi4]
    generalize xs (Int32.ofNat i).toNatClampNeg &&& 15 = sel
    generalize xs (Int32.ofNat (i + 1)).toNatClampNeg = x1
    generalize xs (Int32.ofNat (i + 2)).toNatClampNeg = x2
    generalize xs (Int32.ofNat (i + 3)).toNatClampNeg = x3
    by_cases s0 : sel = 0
    · rw [if_pos s0, pn_ck (by omega) (by omega), pn_ck (by omega) (by omega), pn_ck (by omega) (by omega)]
      generalize ((x1.toInt64 <<< ((32 : Int32).toInt64 &&& 63)) ||| (x2.toInt64 &&& (4294967295 : Int64))) = v
      obtain ⟨a, B', X', l', e1, e2, hS⟩ := o_type (ht := ht) (hk := hk) (th := th) hl v x3
      rw [e1, Option.bind_some, pn_ck (by omega) (by omega), pn_ck (by omega) (by omega), pn_ck (by omega) (by omega), e2, Option.bind_some]
      dsimp only
      rw [if_pos rfl]
      exact ih n (i + 4) uc us hS (by omega) (by omega) (by omega) (by omega) (by omega) (by omega)
    rw [if_neg s0]
    by_cases s1 : sel = 1
    · rw [if_pos s1, pn_ck (by omega) (by omega), if_neg (by omega)]
      obtain ⟨q, a, BW', pA', BR', pb', sb', bk', W', oo', N', P', O', b', m', w', c', uS', fo', es', hq, e1, e2, hS⟩ := o_append (ht := ht) (hk := hk) (th := th) h x1
      rw [lw_append hq e1, Option.bind_some, pn_ck (by omega) (by omega), if_neg (by omega), e2, Option.bind_some]
      unfold f_Md_thrown
      rw [Option.bind_some]
      dsimp only
      rw [if_pos rfl, pn_ck0 (by omega)]
      have hq2 : q = 0 ∨ q = 1 ∨ q = 2 := by omega
      have hih := fun z => ih n (i + 4) (uc - 1 - 2) (us - 6 - 45) (ht := ht) (hk := hk) (th := Int32.ofNat q) (ou := z) hS (by omega) (by omega) (by omega) (by omega) (by omega) (by omega)
      rcases hq2 with rfl | rfl | rfl
      · rw [if_pos (show Int32.ofNat 0 = 0 from rfl), if_pos (show 0 = 0 from rfl), if_pos (lg_upd ou a)]
        exact hih _
      · rw [if_neg (by decide)]
        exact hih _
      · rw [if_neg (by decide)]
        exact hih _
    rw [if_neg s1]
    by_cases s2 : sel = 2
    · rw [if_pos s2]
      obtain ⟨a, B', BW', pA', BR', D', bk', W', oo', O', b', m', old', k1, k2, es', e1, e2, hS⟩ := o_sync (ht := ht) (hk := hk) (th := th) hl
      rw [e1, Option.bind_some, e2, Option.bind_some]
      dsimp only
      rw [if_pos rfl]
      exact ih n (i + 4) uc us hS (by omega) (by omega) (by omega) (by omega) (by omega) (by omega)
    rw [if_neg s2]
    by_cases s3 : sel = 3
    · rw [if_pos s3, pn_ck (by omega) (by omega)]
      obtain ⟨a, BW', pA', bk', W', oo', K', T', w', es', e1, e2, hS⟩ := o_keep (ht := ht) (hk := hk) (th := th) h x1
      rw [e1, Option.bind_some, pn_ck (by omega) (by omega), e2, Option.bind_some]
      dsimp only
      rw [if_pos rfl]
      exact ih n (i + 4) uc us hS (by omega) (by omega) (by omega) (by omega) (by omega) (by omega)
    rw [if_neg s3]
    by_cases s4 : sel = 4
    · rw [if_pos s4, pn_ck (by omega) (by omega), pn_ck (by omega) (by omega), if_neg (by omega)]
      rcases o_crash (ht := ht) (hk := hk) (th := th) hl (by omega) x1 x2 with ⟨q, hq, hc, e1, e2⟩ | ⟨hc, hr, a, B', R', p', s', D', bk', W', oo', K', N', P', T', old', es', e1, e2, hS⟩
      · rw [lw_crash (by omega) e1, Option.bind_some, pn_ck (by omega) (by omega), pn_ck (by omega) (by omega), if_pos hc, e2, Option.bind_some]
        unfold f_Md_thrown
        rw [Option.bind_some]
        dsimp only
        rw [if_pos rfl]
        have hih := ih n (i + 4) (uc - 1) (us - 6) (ht := ht) (hk := hk) (th := Int32.ofNat q) (ou := ou) hl (by omega) (by omega) (by omega) (by omega) (by omega) (by omega)
        rcases hq with rfl | rfl
        · rw [if_neg (by decide)]
          exact hih
        · rw [if_neg (by decide)]
          exact hih
      · rw [lw_crash (by omega) e1, Option.bind_some, pn_ck (by omega) (by omega), pn_ck (by omega) (by omega), if_neg hc, if_neg (by omega), e2, Option.bind_some]
        unfold f_Md_thrown
        rw [Option.bind_some]
        dsimp only
        rw [if_pos (show (0 : Int32) = Int32.ofNat 0 from rfl), pn_ck0 (by omega), if_pos (show Int32.ofNat 0 = 0 from rfl), if_pos (show 0 = 0 from rfl), if_pos (lg_upd ou a)]
        exact ih n (i + 4) (uc - 1 - 1500) (us - 6 - 3780) (th := 0) hS (by omega) (by omega) (by omega) (by omega) (by omega) (by omega)
    rw [if_neg s4]
    by_cases s5 : sel = 5
    · rw [if_pos s5, pn_ck (by omega) (by omega), pn_ck (by omega) (by omega), pn_ck (by omega) (by omega)]
      obtain ⟨a, B', D', e1, e2, hS⟩ := o_spoil (ht := ht) (hk := hk) (th := th) hl x1 x2 x3
      rw [e1, Option.bind_some, pn_ck (by omega) (by omega), pn_ck (by omega) (by omega), pn_ck (by omega) (by omega), e2, Option.bind_some]
      dsimp only
      rw [if_pos rfl]
      exact ih n (i + 4) uc us hS (by omega) (by omega) (by omega) (by omega) (by omega) (by omega)
    rw [if_neg s5]
    by_cases s6 : sel = 6
    · rw [if_pos s6, pn_ck (by omega) (by omega), pn_ck (by omega) (by omega)]
      obtain ⟨a, e1, e2⟩ := o_disk (ht := ht) (hk := hk) (th := th) hl x1 x2
      rw [e1, Option.bind_some, pn_ck (by omega) (by omega), pn_ck (by omega) (by omega), e2, Option.bind_some]
      dsimp only
      rw [if_pos rfl]
      exact ih n (i + 4) uc us hl (by omega) (by omega) (by omega) (by omega) (by omega) (by omega)
    rw [if_neg s6]
    by_cases s7 : sel = 7
    · rw [if_pos s7, pn_ck (by omega) (by omega), pn_ck (by omega) (by omega), if_neg (by omega)]
      rcases o_record (ht := ht) (hk := hk) (th := th) hl x1 x2 with ⟨a, e1, e2⟩ | ⟨e1, e2⟩
      · rw [lw_record e1, Option.bind_some, pn_ck (by omega) (by omega), pn_ck (by omega) (by omega), e2, Option.bind_some]
        unfold f_Md_thrown
        rw [Option.bind_some]
        dsimp only
        rw [if_pos rfl, if_pos rfl, pn_ck0 (by omega), if_pos (lg_upd ou a)]
        exact ih n (i + 4) (uc - 1) (us - 6) hl (by omega) (by omega) (by omega) (by omega) (by omega) (by omega)
      · rw [lw_record3 e1, Option.bind_some, pn_ck (by omega) (by omega), pn_ck (by omega) (by omega), e2, Option.bind_some]
        unfold f_Md_thrown
        rw [Option.bind_some]
        dsimp only
        rw [if_pos rfl, if_neg (by decide)]
        exact ih n (i + 4) (uc - 1) (us - 6) hl (by omega) (by omega) (by omega) (by omega) (by omega) (by omega)
    rw [if_neg s7]
    by_cases s8 : sel = 8
    · rw [if_pos s8, pn_ck (by omega) (by omega), pn_ck (by omega) (by omega), if_neg (by omega)]
      rcases o_write (ht := ht) (hk := hk) (th := th) hl x1 x2 with ⟨a, e1, e2⟩ | ⟨e1, e2⟩
      · rw [lw_write e1, Option.bind_some, pn_ck (by omega) (by omega), pn_ck (by omega) (by omega), e2, Option.bind_some]
        unfold f_Md_thrown
        rw [Option.bind_some]
        dsimp only
        rw [if_pos rfl, if_pos rfl, pn_ck0 (by omega), if_pos (lg_upd ou a)]
        exact ih n (i + 4) (uc - 1) (us - 6) hl (by omega) (by omega) (by omega) (by omega) (by omega) (by omega)
      · rw [lw_write3 e1, Option.bind_some, pn_ck (by omega) (by omega), pn_ck (by omega) (by omega), e2, Option.bind_some]
        unfold f_Md_thrown
        rw [Option.bind_some]
        dsimp only
        rw [if_pos rfl, if_neg (by decide)]
        exact ih n (i + 4) (uc - 1) (us - 6) hl (by omega) (by omega) (by omega) (by omega) (by omega) (by omega)
    rw [if_neg s8]
    by_cases s9 : sel = 9
    · rw [if_pos s9, pn_ck (by omega) (by omega)]
      obtain ⟨a, e1, e2⟩ := o_total (ht := ht) (hk := hk) (th := th) hl x1
      rw [e1, Option.bind_some, pn_ck (by omega) (by omega), e2, Option.bind_some]
      dsimp only
      rw [if_pos rfl]
      exact ih n (i + 4) uc us hl (by omega) (by omega) (by omega) (by omega) (by omega) (by omega)
    rw [if_neg s9]
    exact ih n (i + 4) uc us hl (by omega) (by omega) (by omega) (by omega) (by omega) (by omega)
