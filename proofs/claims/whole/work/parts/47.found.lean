/-! the reference: the RECORDS of a BLOCK come to its list -/
section
variable {nD nT nB nW nO : Nat} {D TP bk W oo : Nat → Int32} {tl kp nx cm cr th op fo om ob np tu od wt : Int32}
theorem pm_bytes {vs : List NV} {u : Nat → Int32} (hD : ∀ j, j < 2048 → D j = u j) {q m : Nat} (hq : q + 2 + m ≤ 2048) (hm : m ≤ 40) {a1 a2 a4 a6 : Int32} {k9 : (Nat → Int32) → Int32 → Option (List NV)} : ∀ (n i : Nat) (g : Nat → Int32), i ≤ m → m < i + n → (∀ j, g j = if j < i then u (q + 2 + j) else 0) → f_Md_findRecords_L65 vs 2048 D nT TP tl kp nx cm cr th op fo om ob np tu od nB bk nW W nO oo wt a1 a2 (Int32.ofNat q) a4 (Int32.ofNat m) a6 m k9 n g (Int32.ofNat i) = k9 (fun j => if j < m then u (q + 2 + j) else 0) (Int32.ofNat m) := by
  intro n
  induction n with
  | zero => intro i g h1 h2; omega
  | succ n ih =>
    intro i g h1 h2 hg
    rw [f_Md_findRecords_L65.eq_2, pi_le (by omega) (by omega)]
    by_cases hi : m ≤ i
    · rw [if_pos hi, show i = m by omega]
      congr 1
      funext j
      rw [hg j, show i = m by omega]
    · rw [if_neg hi, nl_2, pn_add, pn_add, pn_ck (by omega) (by omega), pn_ck (by omega) (by omega), pn_nat (by omega), pn_nat (by omega), hD _ (by omega), nl_1, pn_add, ih (i + 1) _ (by omega) (by omega)]
      intro j
      unfold upd
      by_cases hj : j = i
      · rw [if_pos hj, if_pos (by omega), hj]
      · rw [if_neg hj, hg j]
        by_cases hi : j < i
        · rw [if_pos hi, if_pos (by omega)]
        · rw [if_neg hi, if_neg (by omega)]
theorem pm_recs1 {u : Nat → Int32} (hs : ∀ i, ∃ n, n < 256 ∧ u i = Int32.ofNat n) (hD : ∀ j, j < 2048 → D j = u j) {p pg c f K : Nat} (hp : p + 64 ≤ 2048) (hcc : u (p + 8) = Int32.ofNat c) (hc : c < 256) (hff : w32 u (p + 4) = Int32.ofNat f) (hf : f ≤ 1002000) (hK : K ≤ 1000000) (hkp : kp = Int32.ofNat K) : ∀ (n i k uc us : Nat) (vs : List NV), i ≤ c → c < i + n → 2 * i + 9 ≤ k → k ≤ 60 → hrk u p (c - i) k = true → 50 ≤ uc + 2 * i → 126 ≤ us + (k - 9) + 3 * i → f_Md_findRecords_L8 vs 2048 D nT TP tl kp nx cm cr th op fo om ob np tu od nB bk nW W nO oo wt (Int32.ofNat pg) (Int32.ofNat p) n (Int32.ofNat (p + k)) (Int32.ofNat i) uc us = some (vs ++ (recs u p pg K (c - i) (f + i) k).map nv) := by
  intro n
  induction n with
  | zero => intro i k uc us vs h1 h2; omega
  | succ n ih =>
    intro i k uc us vs h1 h2 h3 hk hh hu hv
    rw [f_Md_findRecords_L8.eq_2, nl_8, pn_add, pn_ck (by omega) (by omega), pn_nat (by omega), hD _ (by omega), hcc, pi_le (by omega) (by omega)]
    by_cases hi : c ≤ i
    · rw [if_pos hi, show c - i = 0 by omega, recs, List.map_nil, List.append_nil]
    · have e9 : c - i = (c - (i + 1)) + 1 := by omega
      rw [e9] at hh
      obtain ⟨a1, a2, a3, a4, a5⟩ := hrk_succ hh
      obtain ⟨hm, em⟩ := sm_nat hs (p + k + 1)
      obtain ⟨hm', em'⟩ := sm_nat hs (p + k)
      rw [if_neg hi, e9, recs, nl_1, pn_add, pn_ck (by omega) (by omega), nl_4, pn_add, pm_word_at hD (by omega), Option.bind_some, hff, pn_add, hkp, pi_lt (by omega) (by omega), pn_nat (a := p + k + 1) (by omega), hD (p + k + 1) (by omega)]
      by_cases hn : f + i < K
      · rw [if_pos hn, if_neg (by omega), List.nil_append]
        generalize hmm : (u (p + k + 1)).toNatClampNeg = m at *
        rw [em, nl_2, pn_add, pn_add, pn_add, show p + k + (2 + m) = p + (k + 2 + m) by omega, ← hkp, ih (i + 1) (k + 2 + m) uc us vs (by omega) (by omega) (by omega) (by omega) a5 (by omega) (by omega)]
        rfl
      · rw [if_neg hn, if_pos (show K ≤ f + i by omega)]
        unfold rec1
        generalize hmm : (u (p + k + 1)).toNatClampNeg = m at *
        generalize hll : (u (p + k)).toNatClampNeg = q at *
        have hneg : ¬ (Int32.ofNat m < 0 ∨ 40 < m ∨ uc < 2 ∨ us < 5 + m) := by
          intro z
          rcases z with z | z | z | z
          · exact pn_neg (by omega) z
          · omega
          · omega
          · omega
        rw [em, if_neg hneg, pn_zero, pm_bytes hD (q := p + k) (m := m) (by omega) (by omega) 5000 0 _ (by omega) (by omega) (fun j => by rw [if_neg (by omega)]; rfl)]
        rw [← pn_zero, pn_ck (by omega) (by omega), pn_nat (a := p + k) (by omega), hD (p + k) (by omega), em']
        show f_Md_findRecords_L8 (vs ++ [(Int32.ofNat (f + i), Int32.ofNat q, Int32.ofNat pg, m, fun j => if j < m then u (p + k + 2 + j) else 0)]) _ _ _ _ _ _ _ _ _ _ _ _ _ _ _ _ _ _ _ _ _ _ _ _ _ _ n (Int32.ofNat (p + k) + (2 + Int32.ofNat m)) (Int32.ofNat i + Int32.ofNat 1) (uc - 2) (us - (5 + m)) = _
        rw [nl_2, pn_add, pn_add, pn_add, show p + k + (2 + m) = p + (k + 2 + m) by omega, ← hkp, ih (i + 1) (k + 2 + m) (uc - 2) (us - (5 + m)) _ (by omega) (by omega) (by omega) (by omega) a5 (by omega) (by omega), List.append_assoc]
        rfl
theorem pm_recs {u : Nat → Int32} (hs : ∀ i, ∃ n, n < 256 ∧ u i = Int32.ofNat n) (hD : ∀ j, j < 2048 → D j = u j) {p pg f K : Nat} (hp : p + 64 ≤ 2048) (hff : w32 u (p + 4) = Int32.ofNat f) (hf : f ≤ 1002000) (hK : K ≤ 1000000) (hkp : kp = Int32.ofNat K) (hh : hrk u p (u (p + 8)).toNatClampNeg 9 = true) (vs : List NV) : f_Md_findRecords vs 2048 D nT TP tl kp nx cm cr th op fo om ob np tu od nB bk nW W nO oo wt (Int32.ofNat pg) (Int32.ofNat p) = some (vs ++ (recs u p pg K (u (p + 8)).toNatClampNeg f 9).map nv) := by
  obtain ⟨hm, em⟩ := sm_nat hs (p + 8)
  generalize (u (p + 8)).toNatClampNeg = m at hm em hh
  unfold f_Md_findRecords
  rw [nl_9, pn_add]
  exact pm_recs1 hs hD hp em hm hff hf hK hkp 5000 0 9 50 126 vs (by omega) (by omega) (by omega) (by omega) hh (by omega) (by omega)
end
/-! numbers one behind the other, PAGES never falling -/
def sq : Nat → Nat → List Ent → Nat → Prop
  | b, _, [], n => b = n
  | b, lo, e :: t, n => en e = b ∧ lo ≤ ep e ∧ sq (b + 1) (ep e) t n
theorem sq_lo : ∀ {b lo lo' n : Nat} {l : List Ent}, sq b lo l n → lo' ≤ lo → sq b lo' l n
  | _, _, _, _, [], h, _ => h
  | _, _, _, _, _ :: _, h, hl => ⟨h.1, Nat.le_trans hl h.2.1, h.2.2⟩
theorem sq_len : ∀ {b lo n : Nat} {l : List Ent}, sq b lo l n → n = b + l.length
  | _, _, _, [], h => h.symm
  | b, _, n, _ :: t, h => by
    have := sq_len h.2.2
    rw [List.length_cons]; omega
theorem sq_mem : ∀ {b lo n : Nat} {l : List Ent} {e : Ent}, sq b lo l n → e ∈ l → b ≤ en e ∧ en e < n ∧ lo ≤ ep e
  | _, _, _, [], _, _, he => by cases he
  | b, lo, n, f :: t, e, h, he => by
    have hl := sq_len h.2.2
    rcases List.mem_cons.mp he with rfl | he
    · have h1 := h.1; exact ⟨by omega, by omega, h.2.1⟩
    · obtain ⟨h1, h2, h3⟩ := sq_mem h.2.2 he
      exact ⟨by omega, h2, Nat.le_trans h.2.1 h3⟩
theorem sq_app : ∀ {b lo n q lo2 : Nat} {l l2 : List Ent}, sq b lo l n → sq n lo2 l2 q → lo ≤ lo2 → (∀ e ∈ l, ep e ≤ lo2) → sq b lo (l ++ l2) q
  | b, lo, n, q, lo2, [], l2, h, h2, hl, _ => by
    cases h
    exact sq_lo h2 hl
  | b, lo, n, q, lo2, e :: t, l2, h, h2, hl, hm => ⟨h.1, h.2.1, sq_app h.2.2 h2 (hm e (List.mem_cons_self ..)) (fun f hf => hm f (List.mem_cons_of_mem _ hf))⟩
/-- the entry of number k, if it is there -/
theorem sq_find : ∀ {b lo n k : Nat} {l : List Ent}, sq b lo l n → b ≤ k → k < n → ∃ e, e ∈ l ∧ en e = k ∧ ∀ f ∈ l, k ≤ en f → ep e ≤ ep f
  | b, lo, n, k, [], h, h1, h2 => by cases h; omega
  | b, lo, n, k, e :: t, h, h1, h2 => by
    by_cases hk : k = b
    · have h9 := h.1
      refine ⟨e, List.mem_cons_self .., by omega, fun f hf hkf => ?_⟩
      rcases List.mem_cons.mp hf with rfl | hf
      · exact Nat.le_refl _
      · exact (sq_mem h.2.2 hf).2.2
    · obtain ⟨f, hf, h3, h4⟩ := sq_find h.2.2 (show b + 1 ≤ k by omega) h2
      refine ⟨f, List.mem_cons_of_mem _ hf, h3, fun g hg hkg => ?_⟩
      rcases List.mem_cons.mp hg with rfl | hg
      · have := h.1; omega
      · exact h4 g hg hkg
/-- what holds of the RECORDS of a good BLOCK -/
theorem recs_mem {u : Nat → Int32} (hs : ∀ i, ∃ n, n < 256 ∧ u i = Int32.ofNat n) {p pg K : Nat} : ∀ {r nm k : Nat} {e : Ent}, hrk u p r k = true → 9 ≤ k → k ≤ 60 → e ∈ recs u p pg K r nm k → K ≤ en e ∧ nm ≤ en e ∧ en e < nm + r ∧ ep e = pg ∧ k ≤ eo e ∧ eo e + 2 + el e ≤ 60 ∧ 1 ≤ ek e ∧ ek e ≤ 255 ∧ el e ≤ 40 ∧ (eo e - 9) / 2 + (nm + r - en e) ≤ 25 ∧ u (p + eo e) = Int32.ofNat (ek e) ∧ u (p + eo e + 1) = Int32.ofNat (el e) ∧ ∀ j, j < el e → u (p + eo e + 2 + j) = eb e j
  | 0, nm, k, e, h, h9, hk, he => by rw [recs] at he; cases he
  | r + 1, nm, k, e, h, h9, hk, he => by
    have hl := hrk_len _ _ h hk
    obtain ⟨a1, a2, a3, a4, a5⟩ := hrk_succ h
    rw [recs] at he
    rcases List.mem_append.mp he with he | he
    · by_cases hn : K ≤ nm
      · rw [if_pos hn, List.mem_singleton] at he
        subst he
        obtain ⟨hm, em⟩ := sm_nat hs (p + k + 1)
        obtain ⟨hm', em'⟩ := sm_nat hs (p + k)
        have h0 : (u (p + k)).toNatClampNeg ≠ 0 := fun z => a2 (by rw [em', z]; rfl)
        refine ⟨hn, Nat.le_refl _, by show nm < nm + (r + 1); omega, rfl, Nat.le_refl _, a4, by show 1 ≤ (u (p + k)).toNatClampNeg; omega, by show (u (p + k)).toNatClampNeg ≤ 255; omega, a3, ?_, em', em, fun j hj => ?_⟩
        · show (k - 9) / 2 + (nm + (r + 1) - nm) ≤ 25
          omega
        · show u (p + k + 2 + j) = if j < (u (p + k + 1)).toNatClampNeg then u (p + k + 2 + j) else 0
          rw [if_pos (show j < (u (p + k + 1)).toNatClampNeg from hj)]
      · rw [if_neg hn] at he; cases he
    · obtain ⟨b1, b2, b3, b4, b5, b6, b7, b8, b9, b10, b11, b12, b13⟩ := recs_mem hs a5 (by omega) (by omega) he
      exact ⟨b1, by omega, by omega, b4, by omega, b6, b7, b8, b9, by omega, b11, b12, b13⟩
theorem recs_sq {u : Nat → Int32} {p pg K : Nat} : ∀ (r nm k : Nat), sq (max nm K) pg (recs u p pg K r nm k) (max (nm + r) K)
  | 0, nm, k => by rw [recs]; exact rfl
  | r + 1, nm, k => by
    rw [recs]
    have ih := recs_sq (u := u) (p := p) (pg := pg) (K := K) r (nm + 1) (k + 2 + (u (p + k + 1)).toNatClampNeg)
    rw [show nm + (r + 1) = nm + 1 + r by omega]
    by_cases hn : K ≤ nm
    · rw [if_pos hn, List.singleton_append]
      refine ⟨by show nm = max nm K; omega, Nat.le_refl _, ?_⟩
      rw [show max nm K + 1 = max (nm + 1) K by omega]
      exact ih
    · rw [if_neg hn, List.nil_append, show max nm K = max (nm + 1) K by omega]
      exact ih
