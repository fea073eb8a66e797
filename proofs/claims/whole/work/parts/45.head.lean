/-! the class's blocks by their counts: 32 on the DISK, 41 that wait, 30 rows of PAGES -/
theorem d_get {r i : Nat} {B u : Nat → Int32} (h : Bv B u) (hr : r < 32) (hi : i < 64) : f_Bl_get 32 2048 B (Int32.ofNat r) (Int32.ofNat i) = some (u (64 * r + i)) := pb_get (c := 32) h (by omega) hr hi
theorem w_get {r i : Nat} {B u : Nat → Int32} (h : Bv B u) (hr : r < 41) (hi : i < 64) : f_Bl_get 41 2624 B (Int32.ofNat r) (Int32.ofNat i) = some (u (64 * r + i)) := pb_get (c := 41) h (by omega) hr hi
theorem r_get {r i : Nat} {B u : Nat → Int32} (h : Bv B u) (hr : r < 30) (hi : i < 64) : f_Bl_get 30 1920 B (Int32.ofNat r) (Int32.ofNat i) = some (u (64 * r + i)) := pb_get (c := 30) h (by omega) hr hi
theorem d_u32 {r i : Nat} {B u : Nat → Int32} (h : Bv B u) (hr : r < 32) (hi : i ≤ 60) : f_Bl_u32 32 2048 B (Int32.ofNat r) (Int32.ofNat i) = some (w32 u (64 * r + i)) := pb_u32 (c := 32) h (by omega) hr hi
theorem d_whole {r : Nat} {B u : Nat → Int32} (h : Bv B u) (hr : r < 32) : f_Bl_isWhole 32 2048 B (Int32.ofNat r) = some (if w32 u (64 * r + 60) = crc u (64 * r) then 1 else 0) := pb_whole (c := 32) h (by omega) hr
theorem d_readFrom {r : Nat} {B u : Nat → Int32} (h : Bv B u) (hr : r < 32) {t o k : Int32} : f_Hd_readFrom t o k 32 2048 B (Int32.ofNat r) = some (w32 u (64 * r), w32 u (64 * r + 4), w32 u (64 * r + 8)) := pc_readFrom (c := 32) h (by omega) hr
theorem w_readFrom {r : Nat} {B u : Nat → Int32} (h : Bv B u) (hr : r < 41) {t o k : Int32} : f_Hd_readFrom t o k 41 2624 B (Int32.ofNat r) = some (w32 u (64 * r), w32 u (64 * r + 4), w32 u (64 * r + 8)) := pc_readFrom (c := 41) h (by omega) hr
theorem r_set {r i : Nat} {B u : Nat → Int32} (h : Bv B u) (hr : r < 30) (hi : i < 64) (v : Int32) : ∃ B', f_Bl_set 30 1920 B (Int32.ofNat r) (Int32.ofNat i) v = some B' ∧ Bv B' (upd u (64 * r + i) (v &&& 255)) := pb_set (c := 30) h (by omega) hr hi v
theorem r_setU32 {r i : Nat} {B u : Nat → Int32} (h : Bv B u) (hr : r < 30) (hi : i ≤ 60) (v : Int32) : ∃ B', f_Bl_setU32 30 1920 B (Int32.ofNat r) (Int32.ofNat i) v = some B' ∧ Bv B' (put32 u (64 * r + i) v) := pb_setU32 (c := 30) h (by omega) hr hi v
theorem r_clear {r : Nat} {B u : Nat → Int32} (h : Bv B u) (hr : r < 30) : ∃ B', f_Bl_clear 30 1920 B (Int32.ofNat r) = some B' ∧ Bv B' (clr u (64 * r) 64) := pb_clear (c := 30) h (by omega) hr
theorem r_seal {r : Nat} {B u : Nat → Int32} (h : Bv B u) (hr : r < 30) : ∃ B', f_Bl_seal 30 1920 B (Int32.ofNat r) = some B' ∧ Bv B' (put32 u (64 * r + 60) (crc u (64 * r))) := pb_seal (c := 30) h (by omega) hr
theorem w_fill {r : Nat} {B u : Nat → Int32} (h : Bv B u) (hr : r < 41) (t o k : Int32) : ∃ B', f_Hd_fill 41 2624 B (Int32.ofNat r) t o k = some B' ∧ Bv B' (hdw u (64 * r) t o k) := pc_fill (c := 41) h (by omega) hr t o k
theorem d_fill {r : Nat} {B u : Nat → Int32} (h : Bv B u) (hr : r < 32) (t o k : Int32) : ∃ B', f_Hd_fill 32 2048 B (Int32.ofNat r) t o k = some B' ∧ Bv B' (hdw u (64 * r) t o k) := pc_fill (c := 32) h (by omega) hr t o k
/-- of a WRITE that waits, to the DISK -/
theorem dw_copy {r r' n : Nat} {B u B' u' : Nat → Int32} (h : Bv B u) (h' : Bv B' u') (hr : r < 32) (hr' : r' < 41) (hn : n ≤ 64) : ∃ B1, f_Bl_copyFrom 32 2048 B 41 2624 B' (Int32.ofNat r') (Int32.ofNat r) (Int32.ofNat n) = some B1 ∧ Bv B1 (cpy u u' (64 * r) (64 * r') n) := pb_copy (c := 32) (c' := 41) h h' (by omega) hr (by omega) hr' hn
/-- of a row, to a WRITE that waits -/
theorem wr_copy {r r' n : Nat} {B u B' u' : Nat → Int32} (h : Bv B u) (h' : Bv B' u') (hr : r < 41) (hr' : r' < 30) (hn : n ≤ 64) : ∃ B1, f_Bl_copyFrom 41 2624 B 30 1920 B' (Int32.ofNat r') (Int32.ofNat r) (Int32.ofNat n) = some B1 ∧ Bv B1 (cpy u u' (64 * r) (64 * r') n) := pb_copy (c := 41) (c' := 30) h h' (by omega) hr (by omega) hr' hn
/-- of the DISK, to a row -/
theorem rd_copy {r r' n : Nat} {B u B' u' : Nat → Int32} (h : Bv B u) (h' : Bv B' u') (hr : r < 30) (hr' : r' < 32) (hn : n ≤ 64) : ∃ B1, f_Bl_copyFrom 30 1920 B 32 2048 B' (Int32.ofNat r') (Int32.ofNat r) (Int32.ofNat n) = some B1 ∧ Bv B1 (cpy u u' (64 * r) (64 * r') n) := pb_copy (c := 30) (c' := 32) h h' (by omega) hr (by omega) hr' hn
/-! the HEAD that is found -/
section
variable {nD nT nB nW nO : Nat} {D TP bk W oo : Nat → Int32} {tl kp nx cm cr th op fo om ob np tu od wt : Int32}
theorem pm_word_at {u : Nat → Int32} (hD : ∀ j, j < 2048 → D j = u j) {p : Nat} (hp : p + 4 ≤ 2048) : f_Md_word 2048 D (Int32.ofNat p) = some (w32 u p) := by
  rw [pm_word hp (by omega), w32_congr (fun j hj => hD (p + j) (by omega))]
theorem pm_whole {u : Nat → Int32} (hD : ∀ j, j < 2048 → D j = u j) {b : Nat} (hb : b < 32) : f_Md_isWhole 2048 D nT TP tl kp nx cm cr th op fo om ob np tu od nB bk nW W nO oo wt (Int32.ofNat b) = some (if w32 u (64 * b + 60) = crc u (64 * b) then 1 else 0) := by
  unfold f_Md_isWhole
  rw [nl_64, pn_mul, nl_60, pn_add, pm_word_at hD (by omega), Option.bind_some, pm_check (by omega) (by omega), Option.bind_some, crc_congr (u := D) (g := u) (q := 64 * b) (fun j hj => hD (64 * b + j) (by omega))]
  split <;> rfl
def gdh (u : Nat → Int32) (b : Nat) : Prop := okn (w32 u (64 * b)) ∧ okn (w32 u (64 * b + 4)) ∧ okn (w32 u (64 * b + 8)) ∧ (w32 u (64 * b) &&& 1) = Int32.ofNat b ∧ w32 u (64 * b + 60) = crc u (64 * b)
theorem pc_good {B u : Nat → Int32} (h : Bv B u) (hD : ∀ j, j < 2048 → D j = u j) {b : Nat} (hb : b < 2) : (gdh u b ∧ f_Hd_isGood 32 2048 B (Int32.ofNat b) = some 1 ∧ f_Md_isHead 2048 D nT TP tl kp nx cm cr th op fo om ob np tu od nB bk nW W nO oo wt (Int32.ofNat b) = some 1) ∨ (¬ gdh u b ∧ f_Hd_isGood 32 2048 B (Int32.ofNat b) = some 0 ∧ f_Md_isHead 2048 D nT TP tl kp nx cm cr th op fo om ob np tu od nB bk nW W nO oo wt (Int32.ofNat b) = some 0) := by
  unfold f_Hd_isGood f_Md_isHead gdh
  have e0 := d_u32 h (show b < 32 by omega) (show 0 ≤ 60 by omega)
  rw [pn_zero, nl_4, nl_8, e0, d_u32 h (show b < 32 by omega) (show 4 ≤ 60 by omega), d_u32 h (show b < 32 by omega) (show 8 ≤ 60 by omega), d_whole h (by omega), pm_whole hD (by omega), nl_64, pn_mul, pn_add, pn_add, pm_word_at hD (by omega), pm_word_at hD (by omega), pm_word_at hD (by omega), Nat.add_zero]
  simp only [Option.bind_some]
  rcases pc_num (w32 u (64 * b)) with ⟨h1, e1, e1'⟩ | ⟨h1, e1, e1'⟩
  · rcases pc_num (w32 u (64 * b + 4)) with ⟨h2, e2, e2'⟩ | ⟨h2, e2, e2'⟩
    · rcases pc_num (w32 u (64 * b + 8)) with ⟨h3, e3, e3'⟩ | ⟨h3, e3, e3'⟩
      · obtain ⟨n, hn1, hn2, hn⟩ := h1
        have hm : w32 u (64 * b) - w32 u (64 * b) / (2 : Int32) * (2 : Int32) = w32 u (64 * b) &&& 1 := by rw [hn, nl_2, pn_mod (by omega) (by omega), pn_and1 (by omega)]
        by_cases h4 : (w32 u (64 * b) &&& 1) = Int32.ofNat b
        · by_cases h5 : w32 u (64 * b + 60) = crc u (64 * b)
          · left
            refine ⟨⟨⟨n, hn1, hn2, hn⟩, h2, h3, h4, h5⟩, ?_, ?_⟩
            · simp [e1, e2, e3, f_Hd_placeOf, h4, h5]
            · simp [e1', e2', e3', hm, h4, h5]
          · right
            refine ⟨fun z => h5 z.2.2.2.2, ?_, ?_⟩
            · simp [e1, e2, e3, f_Hd_placeOf, h4, h5]
            · simp [h5]
        · right
          refine ⟨fun z => h4 z.2.2.2.1, ?_, ?_⟩
          · simp [e1, e2, e3, f_Hd_placeOf, h4]
          · by_cases h5 : w32 u (64 * b + 60) = crc u (64 * b)
            · simp [e1', e2', e3', hm, h4, h5]
            · simp [h5]
      · right
        refine ⟨fun z => h3 z.2.2.1, ?_, ?_⟩
        · simp [e1, e2, e3, f_Hd_placeOf]
        · by_cases h5 : w32 u (64 * b + 60) = crc u (64 * b)
          · simp [e1', e2', e3', h5]
          · simp [h5]
    · right
      refine ⟨fun z => h2 z.2.1, ?_, ?_⟩
      · simp [e1, e2, f_Hd_placeOf]
      · by_cases h5 : w32 u (64 * b + 60) = crc u (64 * b)
        · simp [e1', e2', h5]
        · simp [h5]
  · right
    refine ⟨fun z => h1 z.1, ?_, ?_⟩
    · simp [e1]
    · by_cases h5 : w32 u (64 * b + 60) = crc u (64 * b)
      · simp [e1', h5]
      · simp [h5]
theorem pc_hfind1 {B u : Nat → Int32} (h : Bv B u) (hD : ∀ j, j < 2048 → D j = u j) {t0 o0 k0 : Int32} {b : Nat} (hb : b < 2) (n m t o k : Nat) (ht : t ≤ 1000000) (ho : 1 ≤ o ∧ o ≤ 1000000) (hk : 1 ≤ k ∧ k ≤ 1000000) : ∃ t' o' k' : Nat, t' ≤ 1000000 ∧ (1 ≤ o' ∧ o' ≤ 1000000) ∧ (1 ≤ k' ∧ k' ≤ 1000000) ∧ f_Hd_find_L17 t0 o0 k0 32 2048 B (n + 1) (Int32.ofNat t) (Int32.ofNat o) (Int32.ofNat k) (Int32.ofNat b) = f_Hd_find_L17 t0 o0 k0 32 2048 B n (Int32.ofNat t') (Int32.ofNat o') (Int32.ofNat k') (Int32.ofNat (b + 1)) ∧ f_Md_findHead_L17 2048 D nT TP tl kp nx cm cr th op fo om ob np tu od nB bk nW W nO oo wt (m + 1) (Int32.ofNat k) (Int32.ofNat t) (Int32.ofNat o) (Int32.ofNat b) = f_Md_findHead_L17 2048 D nT TP tl kp nx cm cr th op fo om ob np tu od nB bk nW W nO oo wt m (Int32.ofNat k') (Int32.ofNat t') (Int32.ofNat o') (Int32.ofNat (b + 1)) := by
  have e0 := d_u32 h (show b < 32 by omega) (show 0 ≤ 60 by omega)
  have m0 := pm_word_at hD (show 64 * b + 4 ≤ 2048 by omega)
  have m4 := pm_word_at hD (show 64 * b + 4 + 4 ≤ 2048 by omega)
  have m8 := pm_word_at hD (show 64 * b + 8 + 4 ≤ 2048 by omega)
  rw [Nat.add_zero] at e0
  rw [f_Hd_find_L17.eq_2, f_Md_findHead_L17.eq_2, nl_2, pi_le (by omega) (by omega), if_neg (by omega), pi_le (by omega) (by omega), if_neg (by omega), nl_1, pn_add, nl_64, pn_mul, nl_4, nl_8, pn_add, pn_add, m0, m4, m8]
  rcases pc_good h hD hb with ⟨hg, eg, eg'⟩ | ⟨hg, eg, eg'⟩
  · obtain ⟨⟨t', h1, h2, e1⟩, ⟨o', h3, h4, e2⟩, ⟨k', h5, h6, e3⟩, -, -⟩ := hg
    rw [eg, eg', Option.bind_some, Option.bind_some, if_neg (by decide), if_neg (by decide), Option.bind_some, pn_zero, e0, Option.bind_some, d_readFrom h (by omega), e1, e2, e3, pi_le (by omega) (by omega), pi_le (by omega) (by omega)]
    by_cases hc : t' ≤ t
    · rw [if_pos hc, if_pos hc]
      exact ⟨t, o, k, ht, ho, hk, rfl, rfl⟩
    · rw [if_neg hc, if_neg hc, Option.bind_some, Option.bind_some, Option.bind_some, Option.bind_some]
      exact ⟨t', o', k', h2, ⟨h3, h4⟩, ⟨h5, h6⟩, rfl, rfl⟩
  · rw [eg, eg', Option.bind_some, Option.bind_some, if_pos rfl, if_pos rfl]
    exact ⟨t, o, k, ht, ho, hk, rfl, rfl⟩
theorem pc_hfind {B u : Nat → Int32} (h : Bv B u) (hD : ∀ j, j < 2048 → D j = u j) {t0 o0 k0 : Int32} : ∃ t o k : Nat, t ≤ 1000000 ∧ (1 ≤ o ∧ o ≤ 1000000) ∧ (1 ≤ k ∧ k ≤ 1000000) ∧ f_Hd_find t0 o0 k0 32 2048 B = some (Int32.ofNat t, Int32.ofNat o, Int32.ofNat k) ∧ f_Md_findHead 2048 D nT TP tl kp nx cm cr th op fo om ob np tu od nB bk nW W nO oo wt = some (Int32.ofNat k, Int32.ofNat t, Int32.ofNat o) := by
  obtain ⟨t1, o1, k1, a1, a2, a3, e1, e1'⟩ := pc_hfind1 (nT := nT) (TP := TP) (tl := tl) (kp := kp) (nx := nx) (cm := cm) (cr := cr) (th := th) (op := op) (fo := fo) (om := om) (ob := ob) (np := np) (tu := tu) (od := od) (nB := nB) (bk := bk) (nW := nW) (W := W) (nO := nO) (oo := oo) (wt := wt) (t0 := t0) (o0 := o0) (k0 := k0) h hD (show 0 < 2 by omega) 4 4999 0 1 1 (by omega) (by omega) (by omega)
  obtain ⟨t2, o2, k2, b1, b2, b3, e2, e2'⟩ := pc_hfind1 (nT := nT) (TP := TP) (tl := tl) (kp := kp) (nx := nx) (cm := cm) (cr := cr) (th := th) (op := op) (fo := fo) (om := om) (ob := ob) (np := np) (tu := tu) (od := od) (nB := nB) (bk := bk) (nW := nW) (W := W) (nO := nO) (oo := oo) (wt := wt) (t0 := t0) (o0 := o0) (k0 := k0) h hD (show 1 < 2 by omega) 3 4998 t1 o1 k1 a1 a2 a3
  refine ⟨t2, o2, k2, b1, b2, b3, ?_, ?_⟩
  · unfold f_Hd_find
    refine e1.trans (e2.trans ?_)
    rw [f_Hd_find_L17.eq_2, nl_2, pi_le (by omega) (by omega), if_pos (by omega)]
  · unfold f_Md_findHead
    refine e1'.trans (e2'.trans ?_)
    rw [f_Md_findHead_L17.eq_2, nl_2, pi_le (by omega) (by omega), if_pos (by omega)]
end
