/-! the start, by both -/
theorem hdw_turn {u : Nat → Int32} {p : Nat} {t o k : Int32} : w32 (hdw u p t o k) p = t := by
  unfold hdw hd3
  rw [← w32_put (clr u p 64) p t]
  refine w32_congr fun j hj => ?_
  rw [put32_out (by omega), put32_out (by omega), put32_out (by omega), w32_put]
theorem hdw_kept {u : Nat → Int32} {p : Nat} {t o k : Int32} : w32 (hdw u p t o k) (p + 8) = k := by
  unfold hdw hd3
  rw [← w32_put (put32 (put32 (clr u p 64) p t) (p + 4) o) (p + 8) k]
  refine w32_congr fun j hj => ?_
  rw [put32_out (by omega), w32_put]
theorem bv_0 : Bv (fun _ => 0) (fun _ => 0) := ⟨fun _ => (by decide : fits .byte (.int 0) = true), fun _ => (by decide : (0 : Int32) &&& 255 = 0)⟩
theorem bl_init32 : f_Bl_init 32 = some (32, 2048, fun _ => 0) := by
  unfold f_Bl_init
  rfl
theorem bl_init30 : f_Bl_init 30 = some (30, 1920, fun _ => 0) := by
  unfold f_Bl_init
  rfl
theorem bl_init41 : f_Bl_init 41 = some (41, 2624, fun _ => 0) := by
  unfold f_Bl_init
  rfl
theorem p_init (rem : Nat) (hrem : rem ≤ 1000000) : ∃ (BD BR D bk W oo : Nat → Int32) (h1 h2 : Int32),
    f_RJ_init = some (32, 2048, BD, 41, 2624, (fun _ => 0), 41, (fun _ => 0), 0, 30, 1920, BR, 1, 9, 2, 750, (fun _ => 0), 750, (fun _ => 0), 1, 1, h1, 1, h2, 40, (fun _ => 0), 0, 1, 0, 0) ∧
    f_Md_init = some (2048, D, 40, (fun _ => 0), 0, 1, 1, 0, 0, 0, 1, 1, 0, 0, 2, 1, 1, 41, bk, 2624, W, 41, oo, 0) ∧
    SX BD (fun _ => 0) (fun _ => 0) BR (fun _ => 0) (fun _ => 0) (fun _ => 0) D (fun _ => 0) bk W oo 1 1 2 1 0 0 1 1 0 0 0 0 9 1 [] rem := by
  obtain ⟨BD, e1, hBD⟩ := d_fill bv_0 (show 1 < 32 by omega) 1 1 1
  obtain ⟨BR, ur, hBR, hop, hen, e2⟩ := p_open (q1 := 0) (q2 := 0) bv_0 (P := 1) (N := 1) (K := 1) (old := 1) (w := 0) (pb := fun _ => 0) (sb := fun _ => 0) (ol := fun _ => 0) (es := []) (by omega) (by omega) (by omega) ⟨⟨1, 1, by omega, rfl⟩, fun e he => by cases he⟩ 0
  have e3 := d_readFrom hBD (show 1 < 32 by omega) (t := 0) (o := 0) (k := 0)
  rw [hdw_turn, hdw_old, hdw_kept] at e3
  have hwt : f_Md_waitHead [] 2048 (fun _ => 0) 40 (fun _ => 0) 0 1 1 0 0 0 1 1 0 0 2 1 1 41 (fun _ => 0) 2624 (fun _ => 0) 41 (fun _ => 0) 0 = some (upd (fun _ => 0) 0 1, hdw (fun _ => 0) 0 1 1 1, upd (fun _ => 0) 0 1, Int32.ofNat (0 + 1)) := by
    unfold f_Md_waitHead
    rw [show (1 : Int32) - 1 / 2 * 2 = 1 from rfl, show f_Md_waits 2048 (fun _ => 0) 40 (fun _ => 0) 0 1 1 0 0 0 1 1 0 0 2 1 1 41 (fun _ => 0) 2624 (fun _ => 0) 41 (fun _ => 0) 0 1 = _ from pm_waits (w := 0) (by omega) 1, Option.bind_some]
    dsimp only
    rw [show f_Md_nextPlace 2048 (fun _ => 0) 40 (fun _ => 0) 0 1 1 0 0 0 1 1 0 0 2 1 1 41 (upd (fun _ => 0) 0 1) 2624 (clr (fun _ => 0) (64 * 0) 64) 41 (upd (fun _ => 0) 0 0) (Int32.ofNat (0 + 1)) = some 1 from rfl, Option.bind_some, f_Md_waitHead_L21.eq_1, pm_put (by omega) (by omega), Option.bind_some, nl_4, pn_add, pm_put (by omega) (by omega), Option.bind_some, nl_8, pn_add, pm_put (by omega) (by omega), Option.bind_some, pm_check (by omega) (by omega), Option.bind_some, nl_60, pn_add, pm_put (by omega) (by omega), Option.bind_some, show Int32.ofNat (0 + 1) - 1 = Int32.ofNat 0 from rfl, pn_ck (by omega) (by omega), pn_nat (by omega)]
    have : upd (upd (fun _ => (0 : Int32)) 0 0) 0 1 = upd (fun _ => 0) 0 1 := funext fun j => by
      unfold upd
      by_cases z : j = 0
      · rw [if_pos z, if_pos z]
      · rw [if_neg z, if_neg z, if_neg z]
    rw [this]
    rfl
  have hdo := pm_do (D := fun _ => 0) (nT := 40) (TP := fun _ => 0) (tl := 0) (kp := 1) (nx := 1) (cm := 0) (cr := 0) (th := 0) (op := 1) (fo := 1) (om := 0) (ob := 0) (np := 2) (tu := 1) (od := 1) (bk := upd (fun _ => 0) 0 1) (W := hdw (fun _ => 0) 0 1 1 1) (oo := upd (fun _ => 0) 0 1) (w := 0) (b := 1) (o := 1) (by omega) (by omega) (by unfold upd; rw [if_pos rfl]; rfl) (by unfold upd; rw [if_pos rfl]; rfl) (by omega)
  rw [if_pos (by omega)] at hdo
  refine ⟨BD, BR, cpy (fun _ => 0) (hdw (fun _ => 0) 0 1 1 1) (64 * 1) 0 64, shf (upd (fun _ => 0) 0 1) 1 0, shf (hdw (fun _ => 0) 0 1 1 1) 64 (64 * 0), shf (upd (fun _ => 0) 0 1) 1 0, 1, 1, ?_, ?_, hdw (fun _ => 0) 64 1 1 1, fun _ => 0, ur, fun _ => 0, fun _ => 0, fun _ => 0, ⟨by omega, by omega, by omega, by omega, by unfold pgc; rw [if_neg (by omega)]; omega, by omega, by omega, by omega, by omega, by omega, by omega, by omega⟩, ⟨hBD, fun j hj => ?_⟩, ⟨bv_0, fun j hj => by omega⟩, ⟨bv_0, fun i hi => by omega, fun j hj => by omega⟩, hBR, hop, hen⟩
  rotate_left
  · unfold f_Md_init
    rw [hwt, Option.bind_some]
    dsimp only
    rw [hdo, Option.bind_some]
    rfl
  · unfold cpy
    by_cases c1 : 64 * 1 ≤ j ∧ j < 64 * 1 + 64
    · rw [if_pos c1]
      obtain ⟨i, rfl⟩ : ∃ i, j = 64 + i := ⟨j - 64, by omega⟩
      rw [show 0 + (64 + i - 64 * 1) = 0 + i by omega]
      exact hdw_same i (by omega)
    · rw [if_neg c1, hdw_out (by omega)]
  · unfold f_RJ_init f_Wt_init f_Pg_init f_Rc_init f_Hd_init f_Tp_init f_Hd_placeOf f_Rc_restart f_Pg_restart
    rw [bl_init32, bl_init41, bl_init30]
    simp only [Option.bind_some]
    rw [show (1 : Int32) &&& 1 = Int32.ofNat 1 from rfl, e1]
    simp only [Option.bind_some]
    rw [e3]
    simp only [Option.bind_some]
    rw [show f_Pg_openNext 30 1920 (fun _ => 0) 0 0 1 1 = _ from e2]
    rfl
