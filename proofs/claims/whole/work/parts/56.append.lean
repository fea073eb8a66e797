/-! append, by both -/
theorem an_255 {n : Nat} (h : n < 256) : Int32.ofNat n &&& 255 = Int32.ofNat n := by
  apply Int32.toBitVec_inj.mp
  rw [Int32.toBitVec_and]
  apply BitVec.eq_of_toNat_eq
  rw [BitVec.toNat_and]
  have e1 : (Int32.ofNat n).toBitVec.toNat = n := by
    show (BitVec.ofNat 32 n).toNat = n
    rw [BitVec.toNat_ofNat]
    omega
  rw [e1, show (255 : Int32).toBitVec.toNat = 2 ^ 8 - 1 from rfl, Nat.and_two_pow_sub_one_eq_mod]
  omega
theorem lay_none {O k : Nat} : ∀ {l : List Ent}, (∀ e ∈ l, ep e ≠ O) → lay O k l k
  | [], _ => rfl
  | e :: t, h => Or.inr ⟨h e (List.mem_cons_self ..), lay_none fun x hx => h x (List.mem_cons_of_mem _ hx)⟩
theorem lay_le {O u : Nat} : ∀ {l : List Ent} {k : Nat}, lay O k l u → k ≤ u
  | [], k, h => Nat.le_of_eq h
  | e :: t, k, h => by
    rcases h with ⟨-, -, h⟩ | ⟨-, h⟩
    · have := lay_le h; omega
    · exact lay_le h
theorem lay_in {O u : Nat} {x : Ent} : ∀ {l : List Ent} {k : Nat}, lay O k l u → x ∈ l → ep x = O → eo x + 2 + el x ≤ u
  | [], k, h, hx, _ => by cases hx
  | e :: t, k, h, hx, ho => by
    rcases h with ⟨c1, c2, h⟩ | ⟨c1, h⟩
    · rcases List.mem_cons.mp hx with rfl | hx
      · have := lay_le h; omega
      · exact lay_in h hx ho
    · rcases List.mem_cons.mp hx with rfl | hx
      · exact absurd ho c1
      · exact lay_in h hx ho
theorem lay_app {O u : Nat} {x : Ent} (h1 : ep x = O) (h2 : eo x = u) : ∀ {l : List Ent} {k : Nat}, lay O k l u → lay O k (l ++ [x]) (u + 2 + el x)
  | [], k, h => by
    have h : k = u := h
    exact Or.inl ⟨h1, by omega, by show _ = _; omega⟩
  | e :: t, k, h => by
    rcases h with ⟨c1, c2, h⟩ | ⟨c1, h⟩
    · exact Or.inl ⟨c1, c2, lay_app h1 h2 h⟩
    · exact Or.inr ⟨c1, lay_app h1 h2 h⟩
/-- the row behind the new RECORD -/
def nrow (ur ur' ut : Nat → Int32) (r b m k l : Nat) : Prop := (∀ j, j ≠ 64 * r + 8 → (j < 64 * r + 9 + b ∨ 64 * r + 9 + b + 2 + l ≤ j) → ur' j = ur j) ∧ ur' (64 * r + 9 + b) = Int32.ofNat k ∧ ur' (64 * r + 9 + b + 1) = Int32.ofNat l ∧ (∀ j, j < l → ur' (64 * r + 9 + b + 2 + j) = ut j) ∧ ur' (64 * r + 8) = Int32.ofNat (m + 1)
section
variable {BR BT : Nat → Int32} {nP q1 q2 : Int32}
theorem p_rec1 {ut : Nat → Int32} (hT : Bv BT ut) {O b m k l : Nat} (hO : 1 ≤ O) (hO2 : O < 2147483648) (hl : l ≤ 40) (hb : b + 2 + l ≤ 51) (hm : m < 255) : ∀ (n i : Nat) (B u : Nat → Int32), i ≤ l → l < i + n → Bv B u → u (64 * rw30 O + 8) = Int32.ofNat m →
      ∃ B', Bv B' (upd (cpy u ut (64 * rw30 O + 9 + b + 2 + i) i (l - i)) (64 * rw30 O + 8) (Int32.ofNat (m + 1))) ∧ f_Pg_addRecord_L44 30 1920 BR (Int32.ofNat O) q1 nP 40 BT 0 (Int32.ofNat k) (Int32.ofNat l) (Int32.ofNat (rw30 O)) (Int32.ofNat (9 + b)) (Int32.ofNat (9 + b)) n B (Int32.ofNat i) = some (Int32.ofNat (9 + b), B', Int32.ofNat (9 + b + (2 + l))) := by
  have hr := rw30_lt O
  intro n
  induction n with
  | zero => intro i B u h1 h2; omega
  | succ n ih =>
    intro i B u h1 h2 hB hu
    rw [f_Pg_addRecord_L44.eq_2, pi_le (by omega) (by omega)]
    by_cases c1 : l ≤ i
    · have e1 : i = l := by omega
      obtain ⟨B', e2, h3⟩ := r_set hB hr (show 8 < 64 by omega) (Int32.ofNat (m + 1))
      rw [an_255 (by omega)] at h3
      have hc : f_Pg_openCount 30 1920 B (Int32.ofNat O) (Int32.ofNat (9 + b)) nP = some (Int32.ofNat m) := by
        unfold f_Pg_openCount f_Pg_byteAt
        rw [pn_zero, pi_eq hO2 (by omega), if_neg (by omega), pc_row hO hO2, Option.bind_some, nl_8, r_get hB hr (by omega), Option.bind_some, hu, Option.bind_some]
      refine ⟨B', ?_, ?_⟩
      · rw [show cpy u ut (64 * rw30 O + 9 + b + 2 + i) i (l - i) = u from funext fun j => by unfold cpy; rw [if_neg (by omega)]]
        exact h3
      · rw [if_pos c1, hc, Option.bind_some, nl_1, pn_add, nl_8, e2, Option.bind_some, nl_2, pn_add, pn_add]
    · obtain ⟨B1, e2, h3⟩ := r_set hB hr (show 9 + b + 2 + i < 64 by omega) (ut i)
      obtain ⟨z, hz, ez⟩ := hT.small i
      have hta : f_Tp_byteAt 40 BT 0 (Int32.ofNat i) = some (ut i) := by
        unfold f_Tp_byteAt
        rw [if_neg (pn_neg (by omega)), pi_le (by omega) (by omega), if_neg (by omega), pn_ck (by omega) (by omega), pn_nat (by omega), hT.2]
      rw [show ut i &&& 255 = ut i by rw [ez, an_255 hz]] at h3
      obtain ⟨B', h4, e4⟩ := ih (i + 1) B1 _ (by omega) (by omega) h3 (by unfold upd; rw [if_neg (by omega)]; exact hu)
      refine ⟨B', ?_, ?_⟩
      · have := cpy_step u ut (64 * rw30 O + 9 + b + 2 + i) i (l - (i + 1))
        rw [show l - (i + 1) + 1 = l - i by omega] at this
        rw [← this]
        rw [show 64 * rw30 O + (9 + b + 2 + i) = 64 * rw30 O + 9 + b + 2 + i by omega] at h4
        exact h4
      · rw [if_neg c1, hta, Option.bind_some, nl_2, pn_add, pn_add, e2, Option.bind_some, nl_1, pn_add]
        exact e4
theorem p_rec {ur ut : Nat → Int32} (hR : Bv BR ur) (hT : Bv BT ut) {O b m k l : Nat} (hO : 1 ≤ O) (hO2 : O < 2147483648) (hl : l ≤ 40) (hb : b + 2 + l ≤ 51) (hm : m < 255) (hk : k < 256) (hu : ur (64 * rw30 O + 8) = Int32.ofNat m) :
    ∃ B' ur', Bv B' ur' ∧ nrow ur ur' ut (rw30 O) b m k l ∧ f_Pg_addRecord 30 1920 BR (Int32.ofNat O) (Int32.ofNat (9 + b)) nP 40 BT 0 (Int32.ofNat k) (Int32.ofNat l) = some (Int32.ofNat (9 + b), B', Int32.ofNat (9 + b + (2 + l))) := by
  have hr := rw30_lt O
  obtain ⟨B1, e1, h1⟩ := r_set hR hr (show 9 + b < 64 by omega) (Int32.ofNat k)
  obtain ⟨B2, e2, h2⟩ := r_set h1 hr (show 9 + b + 1 < 64 by omega) (Int32.ofNat l)
  rw [an_255 hk] at h2
  rw [an_255 (show l < 256 by omega)] at h2
  obtain ⟨B', h3, e3⟩ := p_rec1 (BR := BR) (nP := nP) (q1 := Int32.ofNat (9 + b)) (k := k) hT hO hO2 hl hb hm 50 0 B2 _ (by omega) (by omega) h2 (by unfold upd; rw [if_neg (by omega), if_neg (by omega)]; exact hu)
  refine ⟨B', _, h3, ⟨fun j hj1 hj2 => ?_, ?_, ?_, fun j hj => ?_, ?_⟩, ?_⟩
  · unfold upd cpy
    dsimp only
    rw [if_neg hj1, if_neg (by omega), if_neg (by omega), if_neg (by omega)]
  · unfold upd cpy
    dsimp only
    rw [if_neg (by omega), if_neg (by omega), if_neg (by omega), if_pos (by omega)]
  · unfold upd cpy
    dsimp only
    rw [if_neg (by omega), if_neg (by omega), if_pos (by omega)]
  · unfold upd cpy
    dsimp only
    rw [if_neg (by omega), if_pos (by omega)]
    congr 1; omega
  · unfold upd
    rw [if_pos rfl]
  · unfold f_Pg_addRecord
    rw [pc_row hO hO2, Option.bind_some, e1, Option.bind_some, nl_1, pn_add, e2, Option.bind_some]
    exact e3
theorem p_open {ur : Nat → Int32} (hR : Bv BR ur) {P N K old w : Nat} {pb sb : Nat → Int32} {ol : Nat → Nat} {es : List Ent} (hP : 1 ≤ P) (hP2 : P + 1 < 2147483648) (hold : P < old + 30) (hE : sEnt ur pb sb ol K N P 0 0 old w es) (uS : Int32) :
    ∃ B' ur', Bv B' ur' ∧ sOpen ur' P (P + 1) 0 0 (Int32.ofNat 9) (Int32.ofNat N) es ∧ sEnt ur' pb sb ol K N (P + 1) P 0 old w es ∧ f_Pg_openNext 30 1920 BR q1 q2 (Int32.ofNat P) (Int32.ofNat N) = some (B', Int32.ofNat P, Int32.ofNat 9, Int32.ofNat (P + 1)) := by
  have hr := rw30_lt P
  obtain ⟨B1, e1, h1⟩ := r_clear hR hr
  obtain ⟨B2, e2, h2⟩ := r_setU32 h1 hr (show 0 ≤ 60 by omega) (Int32.ofNat P)
  obtain ⟨B3, e3, h3⟩ := r_setU32 h2 hr (show 4 ≤ 60 by omega) (Int32.ofNat N)
  rw [Nat.add_zero] at h2 h3
  obtain ⟨⟨base, lo, hb, hsq⟩, hE2⟩ := hE
  have hne : ∀ e ∈ es, ep e ≠ P := fun e he => by
    have := (hE2 e he).1.2.2.2.1; omega
  refine ⟨B3, _, h3, ⟨fun z => by omega, fun _ => ⟨rfl, rfl, by omega, by omega, fun _ => rfl, ⟨fun j hj => ?_, fun j hj => ?_, ?_, fun j hj hj2 => ?_⟩, lay_none hne⟩⟩, ⟨⟨base, lo, hb, hsq⟩, fun e he => ?_⟩, ?_⟩
  · rw [put32_out (by omega)]
    exact put32_in hj
  · exact put32_in hj
  · rw [put32_out (by omega), put32_out (by omega), clr_in (by omega)]
    rfl
  · rw [put32_out (by omega), put32_out (by omega), clr_in (by omega)]
  · obtain ⟨⟨f1, f2, f3, f4, f5, f6, f7, f8⟩, g1, g2⟩ := hE2 e he
    have hcu : cur 0 P 0 = cur P (P + 1) 0 := by unfold cur; rw [if_pos rfl, if_neg (by omega)]; omega
    refine ⟨⟨f1, f2, f3, by omega, f5, f6, f7, by omega⟩, fun z => ?_, fun z => ?_⟩
    · obtain ⟨k1, k2, k3, k4⟩ := g1 z
      exact ⟨k1, k2, k3, by omega⟩
    · have hlive : K ≤ en e := z.elim id (fun z => absurd z (hne e he))
      obtain ⟨k1, k2, k3, k4⟩ := g1 hlive
      obtain ⟨r1, r2, r3⟩ := g2 (Or.inl hlive)
      have hrr := rw30_ne f3 f4 (by omega)
      refine ⟨?_, ?_, fun j hj => ?_⟩
      · rw [put32_out (by omega), put32_out (by omega), clr_out (by omega), r1]
      · rw [put32_out (by omega), put32_out (by omega), clr_out (by omega), r2]
      · rw [put32_out (by omega), put32_out (by omega), clr_out (by omega), r3 j hj]
  · unfold f_Pg_openNext
    rw [pc_row hP (by omega), Option.bind_some, e1, Option.bind_some, pn_zero, e2, Option.bind_some, nl_4, e3, Option.bind_some, nl_1, pn_add]
    rfl
end
section
variable {nD nT nB nW nO : Nat} {D TP bk W oo : Nat → Int32} {tl kp nx cm cr th op fo om ob np tu od wt : Int32}
theorem p_app1 {vs : List NV} {l : Nat} (hl : l ≤ 40) {x y tl0 nx0 cm0 th0 op0 fo0 om0 ob0 np0 wt0 : Int32} {bk0 W0 oo0 : Nat → Int32} : ∀ (n i : Nat) (g : Nat → Int32), i ≤ l → l < i + n → (∀ j, g j = if j < i then TP j else 0) →
      f_Md_append_L158 vs nD D 40 TP tl kp nx cm cr th op fo om ob np tu od nB bk nW W nO oo wt x (Int32.ofNat l) y tl0 nx0 cm0 th0 op0 fo0 om0 ob0 np0 bk0 W0 oo0 wt0 l n g (Int32.ofNat i) = some (((nx0 + 1) - 1), tl0, nx0 + 1, cm0 + 1, th0, op0, fo0, om0 + 1, ob0 + (2 + Int32.ofNat l), np0, bk0, W0, oo0, wt0, vs ++ [(nx0, x, op0, l, fun j => if j < l then TP j else 0)]) := by
  intro n
  induction n with
  | zero => intro i g h1 h2; omega
  | succ n ih =>
    intro i g h1 h2 hg
    rw [f_Md_append_L158.eq_2, pi_le (by omega) (by omega)]
    by_cases c1 : l ≤ i
    · have e1 : i = l := by omega
      rw [if_pos c1]
      unfold f_Re_init f_Md_add
      rw [Option.bind_some, Option.bind_some, show g = (fun j => if j < l then TP j else 0) from funext fun j => by rw [hg j, e1]]
    · rw [if_neg c1, pn_ck (by omega) (by omega), pn_ck (by omega) (by omega), pn_nat (by omega), show Int32.ofNat i + 1 = Int32.ofNat (i + 1) by rw [nl_1, pn_add]]
      refine ih (i + 1) _ (by omega) (by omega) fun j => ?_
      unfold upd
      by_cases d1 : j = i
      · rw [if_pos d1, if_pos (by omega), d1]
      · rw [if_neg d1, hg j]
        by_cases d2 : j < i
        · rw [if_pos d2, if_pos (by omega)]
        · rw [if_neg d2, if_neg (by omega)]
end
section
variable {BD BW pA BR pb sb BT D TP bk W oo : Nat → Int32} {K N P O b m T old w c r l : Nat} {uS fo ht hk th : Int32} {es : List Ent} {rem : Nat}
/-- the new RECORD, on a PAGE that has room -/
theorem p_new {ud uw ur ur' ut : Nat → Int32} {pl ol : Nat → Nat} {k : Nat} {B' : Nat → Int32} (h : ST BD BW pA BR pb sb BT D TP bk W oo K N P O b m T old w c r l uS fo es rem ud uw ur ut pl ol) (hNr : N + (rem + 1) ≤ 1002000) (hO : 0 < O) (hfit : b + 2 + l ≤ 51) (hc : c < 3000) (hk : 1 ≤ k ∧ k ≤ 255) (hB : Bv B' ur') (hn : nrow ur ur' ut (rw30 O) b m k l) :
    SX BD BW pA B' (upd pb (N % 750) (Int32.ofNat O)) (upd sb (N % 750) (Int32.ofNat (9 + b))) BT D TP bk W oo K (N + 1) P O (b + (2 + l)) (m + 1) T old w (c + 1) r 0 (Int32.ofNat (9 + b + (2 + l))) fo (es ++ [(N, k, O, l, fun j => if j < l then TP j else 0, 9 + b)]) rem := by
  obtain ⟨⟨a1, a2, a3, a4, a5, a6, a7, a8, a9, a10, a11, a12⟩, h2, h3, h4, h5, h6, ⟨base, lo, hb, hsq⟩, hE⟩ := h
  obtain ⟨z1, z2, z3, z4, z5, ⟨y1, y2, y3, y4⟩, z7⟩ := h6.2 hO
  obtain ⟨n1, n2, n3, n4, n5⟩ := hn
  have hcu : cur O P b = 25 * O + b / 2 := by unfold cur; rw [if_neg (by omega)]
  have hcu2 : cur O P (b + (2 + l)) = 25 * O + (b + (2 + l)) / 2 := by unfold cur; rw [if_neg (by omega)]
  have hpg : pgc O P = O := by unfold pgc; rw [if_neg (by omega)]
  refine ⟨ud, uw, ur', ut, pl, ol, ⟨a1, by omega, by omega, a4, a5, by omega, by omega, a8, by omega, a10, by omega, a12⟩, h2, ⟨h3.1, fun j hj => by omega⟩, h4, hB, ⟨fun z => by omega, fun _ => ⟨z1, by rw [Nat.add_assoc], by omega, by omega, fun z => by omega, ⟨fun j hj => ?_, fun j hj => ?_, n5, fun j hj hj2 => ?_⟩, ?_⟩⟩, ⟨base, 0, hb, ?_⟩, fun e he => ?_⟩
  · rw [n1 _ (by omega) (by omega)]; exact y1 j hj
  · rw [n1 _ (by omega) (by omega)]; exact y2 j hj
  · rw [n1 _ (by omega) (by omega)]; exact y4 j (by omega) hj2
  · have := lay_app (x := (N, k, O, l, fun j => if j < l then TP j else 0, 9 + b)) (O := O) rfl rfl z7
    rw [show 9 + (b + (2 + l)) = 9 + b + 2 + l by omega]
    exact this
  · exact sq_app (sq_lo hsq (Nat.zero_le _)) (lo2 := O) (show sq N O [(N, k, O, l, fun j => if j < l then TP j else 0, 9 + b)] (N + 1) from ⟨rfl, Nat.le_refl _, rfl⟩) (Nat.zero_le _) (fun e he => by have := (hE e he).1.2.2.2.1; omega)
  · rcases List.mem_append.mp he with he | he
    · obtain ⟨⟨f1, f2, f3, f4, f5, f6, f7, f8⟩, g1, g2⟩ := hE e he
      have hen := sq_mem hsq he
      refine ⟨⟨f1, f2, f3, f4, f5, f6, f7, by omega⟩, fun z => ?_, fun z => ?_⟩
      · obtain ⟨⟨k0, k1⟩, k2, k3, k4⟩ := g1 z
        have hne : en e % 750 ≠ N % 750 := mod_ne (by omega) (by omega)
        refine ⟨⟨by unfold upd; rw [if_neg hne]; exact k0, by unfold upd; rw [if_neg hne]; exact k1⟩, k2, k3, k4⟩
      · obtain ⟨r1, r2, r3⟩ := g2 z
        have hfar : ∀ j, eo e ≤ j → j < eo e + 2 + el e → ur' (64 * rw30 (ep e) + j) = ur (64 * rw30 (ep e) + j) := fun j hj1 hj2 => by
          by_cases d1 : ep e = O
          · have := lay_in z7 he d1
            rw [d1]
            exact n1 _ (by omega) (by omega)
          · have hlive : K ≤ en e := z.elim id (fun z => absurd z d1)
            have hrr := rw30_ne f3 (show ep e < O by omega) (by have := (g1 hlive).2.2.2; omega)
            exact n1 _ (by omega) (by omega)
        refine ⟨by rw [hfar _ (by omega) (by omega)]; exact r1, by rw [Nat.add_assoc, hfar _ (by omega) (by omega), ← Nat.add_assoc]; exact r2, fun j hj => ?_⟩
        rw [show 64 * rw30 (ep e) + eo e + 2 + j = 64 * rw30 (ep e) + (eo e + 2 + j) by omega, hfar _ (by omega) (by omega), ← r3 j hj]
        congr 1; omega
    · rw [List.mem_singleton] at he
      subst he
      refine ⟨⟨by show 9 ≤ 9 + b; omega, by show 9 + b + 2 + l ≤ 60; omega, by show 1 ≤ O; omega, by show O < P; omega, hk.1, hk.2, by show l ≤ 40; omega, by show 25 * O + (9 + b - 9) / 2 + (N + 1 - N) ≤ _; omega⟩, fun _ => ⟨⟨?_, ?_⟩, by show old ≤ O; omega, fun i hi => by have := (h4.2.1 i hi).2.2.2.2.1; show ol i ≤ O; omega, by show P ≤ O + 30; omega⟩, fun _ => ⟨?_, ?_, fun j hj => ?_⟩⟩
      · show upd pb (N % 750) (Int32.ofNat O) (N % 750) = Int32.ofNat O
        unfold upd; rw [if_pos rfl]
      · show upd sb (N % 750) (Int32.ofNat (9 + b)) (N % 750) = Int32.ofNat (9 + b)
        unfold upd; rw [if_pos rfl]
      · show ur' (64 * rw30 O + (9 + b)) = Int32.ofNat k
        rw [← Nat.add_assoc]; exact n2
      · show ur' (64 * rw30 O + (9 + b) + 1) = Int32.ofNat l
        rw [← Nat.add_assoc]; exact n3
      · have hj : j < l := hj
        show ur' (64 * rw30 O + (9 + b) + 2 + j) = if j < l then TP j else 0
        rw [if_pos hj, ← Nat.add_assoc, n4 j hj, h3.2 j hj]
theorem p_fin {hk' : Int32} {BW1 pA1 BR1 bk1 W1 oo1 ud uw ur ut : Nat → Int32} {pl ol : Nat → Nat} {P1 O1 b1 m1 w1 k : Nat} {uS1 fo1 y : Int32} {es1 : List Ent} (hk : 1 ≤ k ∧ k ≤ 255) (hw : w < 40) (hc : c < 3000) (hO1 : 0 < O1) (hfit : b1 + 2 + l ≤ 51)
    (hroom : f_RJ_makeRoom 32 2048 BD 41 2624 BW 41 pA (Int32.ofNat w) 30 1920 BR (Int32.ofNat O) uS (Int32.ofNat P) 750 pb 750 sb (Int32.ofNat K) (Int32.ofNat N) ht (Int32.ofNat old) hk' 40 BT 0 (Int32.ofNat T) (Int32.ofNat c) (Int32.ofNat r) (Int32.ofNat l) = some (1, BW1, pA1, Int32.ofNat w1, BR1, Int32.ofNat O1, uS1, Int32.ofNat P1))
    (h : ST BD BW1 pA1 BR1 pb sb BT D TP bk1 W1 oo1 K N P1 O1 b1 m1 T old w1 c r l uS1 fo1 es1 rem ud uw ur ut pl ol) (hNr : N + (rem + 1) ≤ 1002000)
    (href : f_Md_append (es.map nv) 2048 D 40 TP (Int32.ofNat l) (Int32.ofNat K) (Int32.ofNat N) (Int32.ofNat c) (Int32.ofNat r) th (Int32.ofNat O) fo (Int32.ofNat m) (Int32.ofNat b) (Int32.ofNat P) (Int32.ofNat T) (Int32.ofNat old) 41 bk 2624 W 41 oo (Int32.ofNat w) (Int32.ofNat k) = f_Md_append_L158 (es1.map nv) 2048 D 40 TP (Int32.ofNat l) (Int32.ofNat K) (Int32.ofNat N) (Int32.ofNat c) (Int32.ofNat r) th (Int32.ofNat O) fo (Int32.ofNat m) (Int32.ofNat b) (Int32.ofNat P) (Int32.ofNat T) (Int32.ofNat old) 41 bk 2624 W 41 oo (Int32.ofNat w) (Int32.ofNat k) (Int32.ofNat l) y 0 (Int32.ofNat N) (Int32.ofNat c) 0 (Int32.ofNat O1) fo1 (Int32.ofNat m1) (Int32.ofNat b1) (Int32.ofNat P1) bk1 W1 oo1 (Int32.ofNat w1) l 5000 (fun _ => 0) 0) :
    ∃ (q : Nat) (a : Int32) (BW' pA' BR' pb' sb' bk' W' oo' : Nat → Int32) (N' P' O' b' m' w' c' : Nat) (uS' fo' : Int32) (es' : List Ent), q ≤ 2 ∧ f_RJ_append 32 2048 BD 41 2624 BW 41 pA (Int32.ofNat w) 30 1920 BR (Int32.ofNat O) uS (Int32.ofNat P) 750 pb 750 sb (Int32.ofNat K) (Int32.ofNat N) ht (Int32.ofNat old) hk' 40 BT (Int32.ofNat l) (Int32.ofNat T) (Int32.ofNat c) (Int32.ofNat r) (Int32.ofNat k) = some (q, a, BW', pA', Int32.ofNat w', BR', Int32.ofNat O', uS', Int32.ofNat P', pb', sb', Int32.ofNat N', 0, Int32.ofNat c') ∧
      f_Md_append (es.map nv) 2048 D 40 TP (Int32.ofNat l) (Int32.ofNat K) (Int32.ofNat N) (Int32.ofNat c) (Int32.ofNat r) th (Int32.ofNat O) fo (Int32.ofNat m) (Int32.ofNat b) (Int32.ofNat P) (Int32.ofNat T) (Int32.ofNat old) 41 bk 2624 W 41 oo (Int32.ofNat w) (Int32.ofNat k) = some (a, 0, Int32.ofNat N', Int32.ofNat c', Int32.ofNat q, Int32.ofNat O', fo', Int32.ofNat m', Int32.ofNat b', Int32.ofNat P', bk', W', oo', Int32.ofNat w', es'.map nv) ∧ SX BD BW' pA' BR' pb' sb' BT D TP bk' W' oo' K N' P' O' b' m' T old w' c' r 0 uS' fo' es' rem := by
  have h0 := h
  obtain ⟨⟨a1, a2, a3, a4, a5, a6, a7, a8, a9, a10, a11, a12⟩, h2, h3, h4, h5, h6, h7⟩ := h0
  obtain ⟨z1, z2, z3, z4, z5, ⟨y1, y2, y3, y4⟩, z7⟩ := h6.2 hO1
  obtain ⟨B', ur', hB', hnr, e1⟩ := p_rec (nP := Int32.ofNat P1) (k := k) h5 h3.1 (show 1 ≤ O1 by omega) (by omega) (show l ≤ 40 by omega) hfit (show m1 < 255 by omega) (by omega) y3
  refine ⟨0, Int32.ofNat N, BW1, pA1, B', _, _, bk1, W1, oo1, N + 1, P1, O1, b1 + (2 + l), m1 + 1, w1, c + 1, Int32.ofNat (9 + b1 + (2 + l)), fo1, _, by omega, ?_, ?_, p_new h hNr hO1 hfit hc hk hB' hnr⟩
  · unfold f_RJ_append f_Tp_lift
    rw [Option.bind_some, if_neg (by rw [nl_1, pn_lt (by omega) (by omega)]; omega), if_pos (by rw [nl_255, pn_le (by omega) (by omega)]; omega), if_neg (by rw [nl_40, pn_le (by omega) (by omega)]; omega), if_pos (by rw [nl_3000, pn_lt (by omega) (by omega)]; omega)]
    show (f_RJ_makeRoom 32 2048 BD 41 2624 BW 41 pA (Int32.ofNat w) 30 1920 BR (Int32.ofNat O) uS (Int32.ofNat P) 750 pb 750 sb (Int32.ofNat K) (Int32.ofNat N) ht (Int32.ofNat old) hk' 40 BT 0 (Int32.ofNat T) (Int32.ofNat c) (Int32.ofNat r) (Int32.ofNat l)).bind _ = _
    rw [hroom, Option.bind_some, if_neg (show ¬ (1 : Int32) = 0 by decide)]
    show (f_Pg_addRecord 30 1920 BR1 (Int32.ofNat O1) uS1 (Int32.ofNat P1) 40 BT 0 (Int32.ofNat k) (Int32.ofNat l)).bind _ = _
    rw [z2, e1, Option.bind_some]
    show (f_Rc_add 750 pb 750 sb (Int32.ofNat K) (Int32.ofNat N) (Int32.ofNat O1) (Int32.ofNat (9 + b1))).bind _ = _
    rw [pc_add (by omega), Option.bind_some, nl_1, pn_add]
  · rw [href]
    have := p_app1 (nD := 2048) (D := D) (TP := TP) (tl := Int32.ofNat l) (kp := Int32.ofNat K) (nx := Int32.ofNat N) (cm := Int32.ofNat c) (cr := Int32.ofNat r) (th := th) (op := Int32.ofNat O) (fo := fo) (om := Int32.ofNat m) (ob := Int32.ofNat b) (np := Int32.ofNat P) (tu := Int32.ofNat T) (od := Int32.ofNat old) (nB := 41) (bk := bk) (nW := 2624) (W := W) (nO := 41) (oo := oo) (wt := Int32.ofNat w) (vs := es1.map nv) (l := l) (by omega) (x := Int32.ofNat k) (y := y) (tl0 := 0) (nx0 := Int32.ofNat N) (cm0 := Int32.ofNat c) (th0 := 0) (op0 := Int32.ofNat O1) (fo0 := fo1) (om0 := Int32.ofNat m1) (ob0 := Int32.ofNat b1) (np0 := Int32.ofNat P1) (wt0 := Int32.ofNat w1) (bk0 := bk1) (W0 := W1) (oo0 := oo1) 5000 0 (fun _ => 0) (by omega) (by omega) (fun j => by rw [if_neg (by omega)])
    rw [show (Int32.ofNat 0) = (0 : Int32) from rfl] at this
    rw [this, nl_2, pn_add, pn_add, nl_1, pn_add, pn_add, pn_add, pn_sub (by omega), Nat.add_sub_cancel, List.map_append]
    rfl
theorem o_append (h : SX BD BW pA BR pb sb BT D TP bk W oo K N P O b m T old w c r l uS fo es (rem + 1)) (x : Int32) : ∃ (q : Nat) (a : Int32) (BW' pA' BR' pb' sb' bk' W' oo' : Nat → Int32) (N' P' O' b' m' w' c' : Nat) (uS' fo' : Int32) (es' : List Ent), q ≤ 2 ∧ f_RJ_append 32 2048 BD 41 2624 BW 41 pA (Int32.ofNat w) 30 1920 BR (Int32.ofNat O) uS (Int32.ofNat P) 750 pb 750 sb (Int32.ofNat K) (Int32.ofNat N) ht (Int32.ofNat old) hk 40 BT (Int32.ofNat l) (Int32.ofNat T) (Int32.ofNat c) (Int32.ofNat r) x = some (q, a, BW', pA', Int32.ofNat w', BR', Int32.ofNat O', uS', Int32.ofNat P', pb', sb', Int32.ofNat N', 0, Int32.ofNat c') ∧
      f_Md_append (es.map nv) 2048 D 40 TP (Int32.ofNat l) (Int32.ofNat K) (Int32.ofNat N) (Int32.ofNat c) (Int32.ofNat r) th (Int32.ofNat O) fo (Int32.ofNat m) (Int32.ofNat b) (Int32.ofNat P) (Int32.ofNat T) (Int32.ofNat old) 41 bk 2624 W 41 oo (Int32.ofNat w) x = some (a, 0, Int32.ofNat N', Int32.ofNat c', Int32.ofNat q, Int32.ofNat O', fo', Int32.ofNat m', Int32.ofNat b', Int32.ofNat P', bk', W', oo', Int32.ofNat w', es'.map nv) ∧ SX BD BW' pA' BR' pb' sb' BT D TP bk' W' oo' K N' P' O' b' m' T old w' c' r 0 uS' fo' es' rem := by
  have h0 : SX BD BW pA BR pb sb BT D TP bk W oo K N P O b m T old w c r 0 uS fo es rem := by
    obtain ⟨ud, uw, ur, ut, pl, ol, ⟨a1, a2, a3, a4, a5, a6, a7, a8, a9, a10, a11, a12⟩, h2, h3, h4⟩ := h
    exact ⟨ud, uw, ur, ut, pl, ol, ⟨a1, a2, by omega, a4, a5, by omega, by omega, a8, a9, a10, by omega, a12⟩, h2, ⟨h3.1, fun j hj => by omega⟩, h4⟩
  obtain ⟨ud, uw, ur, ut, pl, ol, hST⟩ := h
  have hST0 := hST
  obtain ⟨⟨a1, a2, a3, a4, a5, a6, a7, a8, a9, a10, a11, a12⟩, h2, h3, h4, h5, h6, h7⟩ := hST0
  by_cases c1 : x < 1
  · refine ⟨1, 0, BW, pA, BR, pb, sb, bk, W, oo, N, P, O, b, m, w, c, uS, fo, es, by omega, ?_, ?_, h0⟩
    · unfold f_RJ_append f_Tp_lift; rw [Option.bind_some, if_pos c1]
    · unfold f_Md_append; rw [if_pos c1]; rfl
  by_cases c2 : x ≤ 255
  rotate_left
  · refine ⟨1, 0, BW, pA, BR, pb, sb, bk, W, oo, N, P, O, b, m, w, c, uS, fo, es, by omega, ?_, ?_, h0⟩
    · unfold f_RJ_append f_Tp_lift; rw [Option.bind_some, if_neg c1, if_neg c2]
    · unfold f_Md_append; rw [if_neg c1, if_neg c2]; rfl
  by_cases c3 : (40 : Int32) ≤ Int32.ofNat w
  · refine ⟨2, 0, BW, pA, BR, pb, sb, bk, W, oo, N, P, O, b, m, w, c, uS, fo, es, by omega, ?_, ?_, h0⟩
    · unfold f_RJ_append f_Tp_lift; rw [Option.bind_some, if_neg c1, if_pos c2, if_pos c3]
    · unfold f_Md_append; rw [if_neg c1, if_pos c2, if_pos c3]; rfl
  by_cases c4 : c = 3000
  · have c5 : Int32.ofNat c = 3000 := by rw [c4]; rfl
    refine ⟨2, 0, BW, pA, BR, pb, sb, bk, W, oo, N, P, O, b, m, w, c, uS, fo, es, by omega, ?_, ?_, h0⟩
    · unfold f_RJ_append f_Tp_lift; rw [Option.bind_some, if_neg c1, if_pos c2, if_neg c3, if_neg (by rw [c5]; decide)]
    · unfold f_Md_append; rw [if_neg c1, if_pos c2, if_neg c3, if_pos c5]; rfl
  have c5 : ¬ Int32.ofNat c = 3000 := by rw [nl_3000, pn_eq (by omega) (by omega)]; exact c4
  have c6 : Int32.ofNat c < 3000 := by rw [nl_3000, pn_lt (by omega) (by omega)]; omega
  have hck : ∀ {α : Type} {X : Option α}, (if Int32.ofNat l < 0 ∨ 40 < (Int32.ofNat l).toNatClampNeg then none else X) = X := by
    intro α X
    rw [if_neg]
    rintro (z | z)
    · exact pn_neg (by omega) z
    · rw [pn_nat (by omega)] at z; omega
  have hO0 : (Int32.ofNat O ≤ 0) ↔ O = 0 := by rw [pn_zero, pn_le (by omega) (by omega)]; omega
  have hO1 : (Int32.ofNat O = 0) ↔ O = 0 := by rw [pn_zero, pn_eq (by omega) (by omega)]
  have hpgP : pgc O P ≤ P := by unfold pgc; split <;> omega
  have hP30 : (Int32.ofNat P < Int32.ofNat old + 30) ↔ P < old + 30 := by rw [nl_30, pn_add, pn_lt (by omega) (by omega)]
  have hb51 : b ≤ 51 := by
    by_cases z : O = 0
    · have := (h6.1 z).1; omega
    · exact (h6.2 (by omega)).2.2.1
  have h51 : ((51 : Int32) < (Int32.ofNat b + 2) + Int32.ofNat l) ↔ 51 < b + 2 + l := by rw [nl_51, nl_2, pn_add, pn_add, pn_lt (by omega) (by omega)]
  have c0 : ¬ x < 0 := fun z => c1 (Int32.lt_trans z (by decide))
  obtain ⟨k, hkk, rfl⟩ := pn_ge c0
  have hk1 : 1 ≤ k ∧ k ≤ 255 := by
    have z1 := c1
    have z2 := c2
    rw [nl_1, pn_lt (by omega) (by omega)] at z1
    rw [nl_255, pn_le (by omega) (by omega)] at z2
    omega
  have hw40 : w < 40 := by
    have z1 := c3
    rw [nl_40, pn_le (by omega) (by omega)] at z1
    omega
  by_cases hA : 0 < O ∧ b + 2 + l ≤ 51
  · -- it fits
    obtain ⟨z1, z2, z3, z4, z5, z6, z7⟩ := h6.2 hA.1
    refine p_fin (hk' := hk) (y := 1) hk1 hw40 (by omega) hA.1 hA.2 ?_ ⟨⟨a1, a2, by omega, a4, a5, by omega, by omega, a8, a9, a10, a11, a12⟩, h2, h3, h4, h5, h6, h7⟩ a3 ?_
    · have hf : f_Pg_fits 30 1920 BR (Int32.ofNat O) uS (Int32.ofNat P) (Int32.ofNat l) = some 1 := by
        unfold f_Pg_fits
        rw [if_neg (fun z => by have := hO1.mp z; omega), if_neg (by rw [z2, nl_60, nl_2, pn_add, pn_add, pn_lt (by omega) (by omega)]; omega)]
      unfold f_RJ_makeRoom
      rw [hf, Option.bind_some, if_neg (by decide)]
    · unfold f_Md_append
      rw [if_neg c1, if_pos c2, if_neg c3, if_neg c5, if_neg (fun z => by have := hO0.mp z; omega), if_neg (fun z => by have := h51.mp z; omega), hck, pn_nat (by omega)]
  have hf : f_Pg_fits 30 1920 BR (Int32.ofNat O) uS (Int32.ofNat P) (Int32.ofNat l) = some 0 := by
    unfold f_Pg_fits
    by_cases z : O = 0
    · rw [if_pos (hO1.mpr z)]
    · obtain ⟨z1, z2, z3, z4, z5, z6, z7⟩ := h6.2 (by omega)
      rw [if_neg (fun y => z (hO1.mp y)), if_pos (by rw [z2, nl_60, nl_2, pn_add, pn_add, pn_lt (by omega) (by omega)]; omega)]
  by_cases hB : P < old + 30
  rotate_left
  · refine ⟨0, 0, BW, pA, BR, pb, sb, bk, W, oo, N, P, O, b, m, w, c, uS, fo, es, by omega, ?_, ?_, h0⟩
    · unfold f_RJ_append f_Tp_lift f_RJ_makeRoom
      rw [Option.bind_some, if_neg c1, if_pos c2, if_neg c3, if_pos c6]
      show ((f_Pg_fits 30 1920 BR (Int32.ofNat O) uS (Int32.ofNat P) (Int32.ofNat l)).bind _).bind _ = _
      rw [hf, Option.bind_some, if_pos rfl, if_neg (fun z => hB (hP30.mp z)), Option.bind_some, if_pos rfl]
    · unfold f_Md_append
      rw [if_neg c1, if_pos c2, if_neg c3, if_neg c5]
      by_cases z : O = 0
      · rw [if_pos (hO0.mpr z), if_neg (fun z => hB (hP30.mp z))]; rfl
      · rw [if_neg (fun y => z (hO0.mp y)), if_pos (h51.mpr (by omega)), if_neg (fun z => hB (hP30.mp z))]; rfl
  by_cases hO : O = 0
  · -- no PAGE is open
    subst hO
    obtain ⟨hb0, hm0⟩ := h6.1 rfl
    subst hb0; subst hm0
    have hpg : pgc 0 P = P := by unfold pgc; rw [if_pos rfl]
    have hpg2 : pgc P (P + 1) = P := by unfold pgc; rw [if_neg (by omega)]
    obtain ⟨B', ur', g1, g2, g3, g4⟩ := p_open (q1 := Int32.ofNat 0) (q2 := uS) h5 (show 1 ≤ P by omega) (by omega) hB h7 uS
    refine p_fin (hk' := hk) (y := 0) (O1 := P) (P1 := P + 1) (b1 := 0) (m1 := 0) (w1 := w) (uS1 := Int32.ofNat 9) (fo1 := Int32.ofNat N) (es1 := es) (BW1 := BW) (pA1 := pA) (BR1 := B') (bk1 := bk) (W1 := W) (oo1 := oo) (ud := ud) (uw := uw) (ur := ur') (ut := ut) (pl := pl) (ol := ol) hk1 hw40 (by omega) (by omega) (by omega) ?_ ⟨⟨a1, a2, by omega, a4, by omega, by omega, by omega, a8, a9, a10, a11, by omega⟩, h2, h3, by rw [hpg2, ← hpg]; exact h4, g1, g2, g3⟩ a3 ?_
    · have hcl : f_RJ_closeOpenPage 32 2048 BD 41 2624 BW 41 pA (Int32.ofNat w) 30 1920 BR (Int32.ofNat 0) uS (Int32.ofNat P) 750 pb 750 sb (Int32.ofNat K) (Int32.ofNat N) ht (Int32.ofNat old) hk 40 BT 0 (Int32.ofNat T) (Int32.ofNat c) (Int32.ofNat r) = some (BW, pA, Int32.ofNat w, BR, Int32.ofNat 0) := by
        unfold f_RJ_closeOpenPage
        rw [p_openCount h5 (by omega) h6, Option.bind_some, if_pos (show Int32.ofNat 0 = 0 from rfl)]
      unfold f_RJ_makeRoom
      rw [hf, Option.bind_some, if_pos rfl, if_pos (hP30.mpr hB), hcl, Option.bind_some, g4, Option.bind_some]
    · unfold f_Md_append
      rw [if_neg c1, if_pos c2, if_neg c3, if_neg c5, if_pos (hO0.mpr rfl), if_pos (hP30.mpr hB), if_pos (hO0.mpr rfl), hck, pn_nat (by omega), show Int32.ofNat P + 1 = Int32.ofNat (P + 1) by rw [nl_1, pn_add]]
  · -- the open PAGE is closed first
    have hO3 : 0 < O := by omega
    obtain ⟨z1, z2, z3, z4, z5, z6, z7⟩ := h6.2 hO3
    have hm : 0 < m := by
      by_cases z : m = 0
      · have := z5 z; omega
      · omega
    obtain ⟨B5, B4, W', uw', us, pl', ol', e4, e5, g1, g2, g3, g4⟩ := p_close (BD := BD) (D := D) (nT := 40) (TP := TP) (tl := 0) (nx := Int32.ofNat N) (cm := Int32.ofNat c) (cr := Int32.ofNat r) (th := 0) (np := Int32.ofNat P) (tu := Int32.ofNat T) (od := Int32.ofNat old) (nP := Int32.ofNat P) (ckp := Int32.ofNat K) (cnx := Int32.ofNat N) (ht := ht) (ho := Int32.ofNat old) (hk := hk) (BT := BT) (ctl := 0) (tt := Int32.ofNat T) (ccm := Int32.ofNat c) (ccr := Int32.ofNat r) (vs := es.map nv) (n1 := 0) (n2 := 0) (q1 := D) (show w < 41 by omega) hO3 (by omega) (by omega) a2 hm h4 h5 h6 h7
    have hpg : pgc 0 P = P := by unfold pgc; rw [if_pos rfl]
    have hpg2 : pgc P (P + 1) = P := by unfold pgc; rw [if_neg (by omega)]
    have hpg3 : pgc O P = O := by unfold pgc; rw [if_neg (by omega)]
    obtain ⟨B', ur', k1, k2, k3, k4⟩ := p_open (q1 := 0) (q2 := uS) g2 (show 1 ≤ P by omega) (by omega) hB g3 uS
    refine p_fin (hk' := hk) (y := 0) (O1 := P) (P1 := P + 1) (b1 := 0) (m1 := 0) (w1 := w + 1) (uS1 := Int32.ofNat 9) (fo1 := Int32.ofNat N) (es1 := fg K 0 es) (BW1 := B5) (pA1 := upd pA w (Int32.ofNat (2 + rw30 O))) (BR1 := B') (bk1 := upd bk w (Int32.ofNat (2 + rw30 O))) (W1 := W') (oo1 := upd oo w 0) (ud := ud) (uw := uw') (ur := ur') (ut := ut) (pl := pl') (ol := ol') hk1 hw40 (by omega) (by omega) (by omega) ?_ ⟨⟨a1, a2, by omega, a4, by omega, by omega, by omega, by omega, a9, a10, a11, by omega⟩, h2, h3, by rw [hpg2, ← hpg]; exact g1, k1, k2, k3⟩ a3 ?_
    · unfold f_RJ_makeRoom
      rw [hf, Option.bind_some, if_pos rfl, if_pos (hP30.mpr hB), e4, Option.bind_some, k4, Option.bind_some]
    · unfold f_Md_append
      rw [if_neg c1, if_pos c2, if_neg c3, if_neg c5, if_neg (fun y => hO (hO0.mp y)), if_pos (h51.mpr (by omega)), if_pos (hP30.mpr hB), if_neg (fun y => hO (hO0.mp y)), e5, Option.bind_some, hck, pn_nat (by omega), show Int32.ofNat P + 1 = Int32.ofNat (P + 1) by rw [nl_1, pn_add]]
      rfl
end
