/-! ===== the law: its head ===== -/
set_option maxHeartbeats 4000000 in
theorem law_all {G : GG} {N : Nat} {xs : Nat → Int32} (hS : SCR G N xs) : SW G 15 mL_law (aw_qi (fun r _ _ _ _ => r = 1)) (N + 133) (6 * N + 3210) 0 [some (.ref 1099), none, none, none, none, none, none] [] (0, fun _ _ => 0, fun _ _ => 0, fun _ _ => 0) := by
  have z0 : ZO 0 (fun _ _ => 0) (fun _ _ => 0) (fun _ _ => 0) := fun o _ => ⟨fun _ => rfl, fun _ => rfl, fun _ => rfl⟩
  have hz := z0
  have z1 : ZO 119 (fun _ _ => 0) (fun _ _ => 0) (cX (fun _ _ => 0)) := (ZO.up (ZO.up (ZO.up (ZO.up (ZO.up (ZO.up (ZO.up (ZO.up (ZO.up (ZO.up (ZO.up (ZO.up (ZO.up (ZO.up (ZO.up (ZO.up (ZO.up (ZO.up (ZO.le (m' := 119) (ZO.up (ZO.up (ZO.up (ZO.up (ZO.up (ZO.up (ZO.up (ZO.up (ZO.up (ZO.up (ZO.up (ZO.up (ZO.up (ZO.up (ZO.up (ZO.up (ZO.up (ZO.up (ZO.le (m' := 101) (ZO.up (ZO.up (ZO.up (ZO.up (ZO.le (m' := 83) (ZO.up (ZO.up (ZO.up (ZO.le (m' := 79) (ZO.up (ZO.up (ZO.up (ZO.up (ZO.le (m' := 76) (ZO.up (ZO.up (ZO.up (ZO.up (ZO.le (m' := 72) (ZO.up (ZO.le (m' := 68) (cPT_z (s := 11) (b := 60) (by decide) (cPT_z (s := 10) (b := 12) (by decide) (ZO.up (ZO.up (ZO.le (m' := 11) (ZO.up (ZO.up (ZO.up (ZO.le (m' := 8) (ZO.up (ZO.up (ZO.up (ZO.up (ZO.le (m' := 5) hz (by omega)) (by omega)) (by omega)) (by omega)) (by omega)) (by omega)) (by omega)) (by omega)) (by omega)) (by decide)) (by decide)) (by decide)) 16) 3) (by decide)) (by omega)) (by omega)) (by omega)) (by omega)) (by omega)) (by omega)) (by omega)) (by omega)) (by omega)) (by omega)) (by omega)) (by omega)) (by omega)) (by omega)) (by omega)) (by omega)) (by omega)) (by omega)) (by omega)) (by omega)) (by omega)) (by omega)) (by omega)) (by omega)) (by omega)) (by omega)) (by omega)) (by omega)) (by omega)) (by omega)) (by omega)) (by omega)) (by omega)) (by omega)) (by omega)) (by omega)) (by omega)) (by omega)) (by omega)) (by omega)) (by omega)) (by omega)) (by omega)) (by omega)) (by omega)) (by omega)) (by omega)) (by omega)) (by omega)) (by omega)) (by omega)) (by omega)) (by omega)) (by omega)) (by omega)) (by omega)) (by omega)) (by omega))
  refine SW.new (a := N + 132) (b := 6 * N + 3199) (n0 := 0) aw_cl9 kp_1 (ZO.at z0 (by decide)) ww_132 ww_133 ww_112 (by decide) dL_law_0 ?_
  refine SW.dup dL_law_3 rfl ?_
  refine SW.less (a' := 118 + (N + 14)) (b' := 1630 + (6 * N + 1569)) (by omega) (by omega) ?_
  refine SW.ci0 (y' := mX9_init) kI_L_15 (k' := 3) (by decide) (by decide) (Nat.le_of_ble_eq_true rfl) dL_law_4 (kC9 z0 ?_)
  refine SW.astore_n dL_law_7 (by decide) rfl rfl ?_
  refine SW.new (a := N + 13) (b := 6 * N + 1536) (n0 := 119) aw_cl10 kp_120 (ZO.at z1 (by decide)) ww_1236 ww_1237 ww_122 (by decide) dL_law_8 ?_
  refine SW.dup dL_law_11 rfl ?_
  refine SW.less (a' := 12 + (N + 1)) (b' := 1535 + (6 * N + 1)) (by omega) (by omega) ?_
  refine SW.ci0 (y' := mX10_init) kI_L_18 (k' := 1) (by decide) (by decide) (Nat.le_of_ble_eq_true rfl) dL_law_12 (kC10 (m := 119) (fun _ _ => rfl) z1 ?_)
  have z2 : ZO 132 (aw_u (fun _ _ => 0) 120 10 (-1)) (fun _ _ => 0) (cM (cX (fun _ _ => 0))) := by
    have z := (z1.le (m' := 132) (by decide)).upS (o := 120) (k := 10) (v := -1) (by decide)
    exact ZO.up (ZO.up (ZO.up (ZO.up (ZO.up (ZO.up (ZO.up (ZO.up (ZO.up (ZO.up (ZO.up (ZO.up z (by decide)) (by decide)) (by decide)) (by decide)) (by decide)) (by decide)) (by decide)) (by decide)) (by decide)) (by decide)) (by decide)) (by decide)
  refine SW.astore_n dL_law_15 (by decide) rfl rfl ?_
  refine SW.iconst (v := (1 : Int32)) dL_law_16 (by decide) ?_
  refine SW.newa (a := N) (b := 6 * N) (N := 1) (t := 2) (n0 := 132) (at0 := .long) (ty := .long) rfl (Or.inr (Or.inl ⟨rfl, rfl⟩)) kp_133 (ZO.at z2 (by decide)) ww_186 (by decide) (by decide) (by decide) dL_law_17 ?_
  refine SW.astore_n dL_law_19 (by decide) rfl rfl ?_
  refine SW.iconst (v := (0 : Int32)) dL_law_20 (by decide) ?_
  refine SW.istore dL_law_21 (by decide) rfl rfl ?_
  exact law_loop hS N 0 133 sg0 (fun _ _ => 0) th0 sg0 (by omega) (by decide) ⟨th0_WT, CI_0, fun _ _ _ => rfl, AI_0⟩
