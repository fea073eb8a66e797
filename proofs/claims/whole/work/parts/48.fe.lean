/-! entries, and where the class holds them -/
theorem adP_out : ∀ {l : List Ent} {f : Nat → Int32} {s : Nat}, (∀ e ∈ l, en e % 750 ≠ s) → adP f l s = f s
  | [], _, _, _ => rfl
  | e :: t, f, s, h => by
    rw [adP, adP_out (fun x hx => h x (List.mem_cons_of_mem _ hx)), upd, if_neg (fun z => h e (List.mem_cons_self ..) z.symm)]
theorem adS_out : ∀ {l : List Ent} {f : Nat → Int32} {s : Nat}, (∀ e ∈ l, en e % 750 ≠ s) → adS f l s = f s
  | [], _, _, _ => rfl
  | e :: t, f, s, h => by
    rw [adS, adS_out (fun x hx => h x (List.mem_cons_of_mem _ hx)), upd, if_neg (fun z => h e (List.mem_cons_self ..) z.symm)]
theorem mod_ne {a b : Nat} (h1 : a < b) (h2 : b < a + 750) : a % 750 ≠ b % 750 := by omega
theorem ad_in : ∀ {b lo n : Nat} {l : List Ent} {f g : Nat → Int32} {e : Ent}, sq b lo l n → n ≤ b + 750 → e ∈ l → adP f l (en e % 750) = Int32.ofNat (ep e) ∧ adS g l (en e % 750) = Int32.ofNat (eo e)
  | _, _, _, [], _, _, _, _, _, he => by cases he
  | b, lo, n, x :: t, f, g, e, h, hn, he => by
    have h1 := h.1
    rcases List.mem_cons.mp he with rfl | he
    · rw [adP, adS, adP_out (fun y hy => ?_), adS_out (fun y hy => ?_), upd, upd, if_pos rfl, if_pos rfl]
      · exact ⟨rfl, rfl⟩
      · obtain ⟨a1, a2, -⟩ := sq_mem h.2.2 hy
        exact (mod_ne (by omega) (by omega)).symm
      · obtain ⟨a1, a2, -⟩ := sq_mem h.2.2 hy
        exact (mod_ne (by omega) (by omega)).symm
    · rw [adP, adS]
      exact ad_in h.2.2 (by omega) he
/-- the RECORD's bytes lie on its PAGE's row -/
def rowb (ur : Nat → Int32) (e : Ent) : Prop := ur (64 * rw30 (ep e) + eo e) = Int32.ofNat (ek e) ∧ ur (64 * rw30 (ep e) + eo e + 1) = Int32.ofNat (el e) ∧ ∀ j, j < el e → ur (64 * rw30 (ep e) + eo e + 2 + j) = eb e j
/-- the sizes of an entry; cur: as many RECORDS as might have come -/
def fsz (P N cur : Nat) (e : Ent) : Prop := 9 ≤ eo e ∧ eo e + 2 + el e ≤ 60 ∧ 1 ≤ ep e ∧ ep e < P ∧ 1 ≤ ek e ∧ ek e ≤ 255 ∧ el e ≤ 40 ∧ 25 * ep e + (eo e - 9) / 2 + (N - en e) ≤ cur
def slt (pb sb : Nat → Int32) (e : Ent) : Prop := pb (en e % 750) = Int32.ofNat (ep e) ∧ sb (en e % 750) = Int32.ofNat (eo e)
theorem rowb_cpy {ur g : Nat → Int32} {r q : Nat} {e : Ent} (h : rowb ur e) (h1 : eo e + 2 + el e ≤ 60) (hr : rw30 (ep e) ≠ r) : rowb (cpy ur g (64 * r) q 64) e := by
  obtain ⟨a1, a2, a3⟩ := h
  refine ⟨?_, ?_, fun j hj => ?_⟩
  · rw [cpy, if_neg (by omega), a1]
  · rw [cpy, if_neg (by omega), a2]
  · rw [cpy, if_neg (by omega), a3 j hj]
theorem rw30_ne {p q : Nat} (h1 : 1 ≤ p) (h2 : p < q) (h3 : q < p + 30) : rw30 p ≠ rw30 q := by
  unfold rw30
  omega
/-- what was found, up to PAGE P, RECORD N -/
def fnd (K old P N : Nat) (ur pb sb : Nat → Int32) (es : List Ent) : Prop := sq K old es N ∧ ∀ e ∈ es, fsz P N (25 * P) e ∧ slt pb sb e ∧ rowb ur e
theorem fnd_take {K old P N f c : Nat} {ur pb sb u : Nat → Int32} {es : List Ent} (h : fnd K old P N ur pb sb es) (hs : ∀ i, ∃ n, n < 256 ∧ u i = Int32.ofNat n) (ho : 1 ≤ old) (hP : old ≤ P) (hP2 : P < old + 30) (hN : N = max f K) (hh : hrk u (64 * (2 + rw30 P)) c 9 = true) :
    fnd K old (P + 1) (max (f + c) K) (cpy ur u (64 * rw30 P) (64 * (2 + rw30 P)) 64) (adP pb (recs u (64 * (2 + rw30 P)) P K c f 9)) (adS sb (recs u (64 * (2 + rw30 P)) P K c f 9)) (es ++ recs u (64 * (2 + rw30 P)) P K c f 9) := by
  obtain ⟨h1, h2⟩ := h
  have hc := hrk_len _ _ hh (by omega)
  have hL := recs_sq (u := u) (p := 64 * (2 + rw30 P)) (pg := P) (K := K) c f 9
  have hm := fun e => recs_mem (K := K) (nm := f) (pg := P) (e := e) hs hh (by omega) (by omega)
  generalize recs u (64 * (2 + rw30 P)) P K c f 9 = L at hL hm
  rw [← hN] at hL
  have hsq : sq K old (es ++ L) (max (f + c) K) := sq_app h1 hL hP (fun e he => by have := (h2 e he).1.2.2.2.1; omega)
  refine ⟨hsq, fun e he => ?_⟩
  have hin := sq_mem hsq he
  rcases List.mem_append.mp he with he | he
  · obtain ⟨⟨a1, a2, a3, a4, a5, a6, a7, a8⟩, a9, a10⟩ := h2 e he
    have hin2 := sq_mem h1 he
    refine ⟨⟨a1, a2, a3, by omega, a5, a6, a7, by omega⟩, ?_, rowb_cpy a10 a2 (rw30_ne a3 (by omega) (by omega))⟩
    have hne : ∀ x ∈ L, en x % 750 ≠ en e % 750 := fun x hx => by
      obtain ⟨b1, b2, -⟩ := sq_mem hL hx
      exact (mod_ne (by omega) (by omega)).symm
    exact ⟨by rw [adP_out hne]; exact a9.1, by rw [adS_out hne]; exact a9.2⟩
  · obtain ⟨b1, b2, b3, b4, b5, b6, b7, b8, b9, b10, b11, b12, b13⟩ := hm e he
    refine ⟨⟨b5, b6, by omega, by omega, b7, b8, b9, by omega⟩, ad_in hL (by omega) he, ?_, ?_, fun j hj => ?_⟩
    · rw [b4, cpy, if_pos (by omega), ← b11]
      congr 1; omega
    · rw [b4, cpy, if_pos (by omega), ← b12]
      congr 1; omega
    · rw [b4, cpy, if_pos (by omega), ← b13 j hj]
      congr 1; omega
/-- the BLOCK b is good as PAGE P -/
def pgk (u : Nat → Int32) (P : Nat) (fol : Prop) : Prop := w32 u (64 * (2 + rw30 P) + 60) = crc u (64 * (2 + rw30 P)) ∧ w32 u (64 * (2 + rw30 P)) = Int32.ofNat P ∧ okn (w32 u (64 * (2 + rw30 P) + 4)) ∧ fol ∧ hrk u (64 * (2 + rw30 P)) (u (64 * (2 + rw30 P) + 8)).toNatClampNeg 9 = true
section
variable {BD BW pA BR pb sb BT : Nat → Int32} {wc oP uS nP ckp cnx ht ho hk ctl tt ccm ccr : Int32}
theorem pc_next {u : Nat → Int32} (h : Bv BD u) {P K : Nat} (hnP : nP = Int32.ofNat P) (hkp : ckp = Int32.ofNat K) (x : Int32) :
    (pgk u P (if x = -1 then ¬ Int32.ofNat K < w32 u (64 * (2 + rw30 P) + 4) else w32 u (64 * (2 + rw30 P) + 4) = x) → f_RJ_isNextPage 32 2048 BD 41 2624 BW 41 pA wc 30 1920 BR oP uS nP 750 pb 750 sb ckp cnx ht ho hk 40 BT ctl tt ccm ccr (Int32.ofNat (2 + rw30 P)) x = some 1) ∧
    (¬ pgk u P (if x = -1 then ¬ Int32.ofNat K < w32 u (64 * (2 + rw30 P) + 4) else w32 u (64 * (2 + rw30 P) + 4) = x) → f_RJ_isNextPage 32 2048 BD 41 2624 BW 41 pA wc 30 1920 BR oP uS nP 750 pb 750 sb ckp cnx ht ho hk 40 BT ctl tt ccm ccr (Int32.ofNat (2 + rw30 P)) x = some 0) := by
  have hb : 2 + rw30 P < 32 := by have := rw30_lt P; omega
  generalize hbb : 2 + rw30 P = b at hb
  unfold f_RJ_isNextPage pgk
  rw [hbb, nl_4, d_u32 h hb (by omega), pn_zero, d_u32 h hb (by omega), Nat.add_zero, ← pn_zero, d_whole h hb, pc_hgood h hb, hnP, hkp]
  simp only [Option.bind_some]
  rcases pc_num (w32 u (64 * b + 4)) with ⟨h1, e1, -⟩ | ⟨h1, e1, -⟩
  · rw [e1]
    by_cases h2 : w32 u (64 * b) = Int32.ofNat P
    · by_cases h3 : w32 u (64 * b + 60) = crc u (64 * b)
      · by_cases h4 : hrk u (64 * b) (u (64 * b + 8)).toNatClampNeg 9 = true
        · by_cases h5 : x = -1
          · by_cases h6 : Int32.ofNat K < w32 u (64 * b + 4)
            · refine ⟨fun z => ?_, fun _ => ?_⟩
              · have := z.2.2.2.1; rw [if_pos h5] at this; exact absurd h6 this
              · simp [h2, h5, h6]
            · refine ⟨fun _ => ?_, fun z => absurd ⟨h3, h2, h1, by rw [if_pos h5]; exact h6, h4⟩ z⟩
              simp [h2, h3, h4, h5, h6]
          · by_cases h6 : w32 u (64 * b + 4) = x
            · refine ⟨fun _ => ?_, fun z => absurd ⟨h3, h2, h1, by rw [if_neg h5]; exact h6, h4⟩ z⟩
              simp [h2, h3, h4, h5, h6]
            · refine ⟨fun z => ?_, fun _ => ?_⟩
              · have := z.2.2.2.1; rw [if_neg h5] at this; exact absurd this h6
              · simp [h2, h5, h6]
        · refine ⟨fun z => absurd z.2.2.2.2 h4, fun _ => ?_⟩
          simp [h2, h3, h4]
      · refine ⟨fun z => absurd z.1 h3, fun _ => ?_⟩
        simp [h2, h3]
    · refine ⟨fun z => absurd z.2.1 h2, fun _ => ?_⟩
      simp [h2]
  · refine ⟨fun z => absurd z.2.2.1 h1, fun _ => ?_⟩
    rw [e1]
    simp
end
