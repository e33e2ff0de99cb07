/-! ===== the constructors: claims, facts, moths ===== -/
theorem aw_uz {σ : SG} {o k : Nat} (h : σ o k = 0) : aw_u σ o k 0 = σ := by
  funext o' k'
  unfold aw_u
  split
  · rename_i e; rw [e.1, e.2, h]
  · rfl
section Ctor2
variable {G : GG} {σ : SG} {τ : TU} {θ : TH} {qv : Nat → SG → TU → TH → Prop}
set_option maxHeartbeats 4000000 in
theorem kC0 {m N : Nat} (x : Int32) (hx : ¬ x < 0) (hN : x.toNatClampNeg = N) (hs : N ≤ 1000) (kp0 : aw_kp (m + 1) = (0, 0)) (hk : ∀ j, 1 ≤ j → j < 5 → aw_kp (m + 1 + j) = (1, N)) (hz : ZO m σ τ θ) (hq : qv (m + 5) σ τ (aw_u (aw_u (aw_u (aw_u θ (m + 1) 0 (m + 2)) (m + 1) 1 (m + 3)) (m + 1) 2 (m + 4)) (m + 1) 3 (m + 5))) : SMv G 1 mX0_init 4 (0 + N + N + N + N) [.ref (m + 1), .int x] (m + 1) σ τ θ qv := by
  refine SM.of [some (.ref (m + 1)), some (.int x), none] rfl rfl (Nat.le_of_ble_eq_true rfl) ?_
  refine SW.aload_n dX0_init_0 rfl ?_
  refine SW.oinit (by omega) ww_331 ww_138 ww_139 (by decide) (by decide) dX0_init_1 ?_
  refine SW.iload_n dX0_init_4 rfl ?_
  refine SW.if_ge 12 dX0_init_5 (by decide) (fun hbr => ?_) (fun hbr => absurd (Int32.not_lt.mp hx) hbr)
  refine SW.iload_n dX0_init_12 rfl ?_
  refine SW.istore_n dX0_init_13 (by decide) rfl rfl ?_
  refine SW.aload_n dX0_init_14 rfl ?_
  refine SW.iload_n dX0_init_15 rfl ?_
  refine SW.newa (a := 3) (b := 0 + N + N + N) (N := N) (t := 1) (at0 := .int) (ty := .int) rfl (Or.inl ⟨rfl, rfl⟩) (hk 1 (by decide) (by decide)) (ZO.at hz (by omega)) ww_213 hx hN (by omega) dX0_init_16 ?_
  refine SW.putR (f := 0) aw_cl0 kp0 (by omega) (by omega) (by decide) ww_332 (by first | exact Or.inl rfl | exact Or.inr ⟨rfl, rfl, rfl⟩) dX0_init_18 rfl (fun _ => rfl) (fun _ => rfl) (by omega) ?_
  refine SW.aload_n dX0_init_21 rfl ?_
  refine SW.iload_n dX0_init_22 rfl ?_
  refine SW.newa (a := 2) (b := 0 + N + N) (N := N) (t := 1) (at0 := .int) (ty := .int) rfl (Or.inl ⟨rfl, rfl⟩) (hk 2 (by decide) (by decide)) (ZO.at (ZO.up (ZO.le (m' := m + 2) hz (by omega)) (by omega)) (by omega)) ww_213 hx hN (by omega) dX0_init_23 ?_
  refine SW.putR (f := 1) aw_cl0 kp0 (by omega) (by omega) (by decide) ww_339 (by first | exact Or.inl rfl | exact Or.inr ⟨rfl, rfl, rfl⟩) dX0_init_25 rfl (fun _ => rfl) (fun _ => rfl) (by omega) ?_
  refine SW.aload_n dX0_init_28 rfl ?_
  refine SW.iload_n dX0_init_29 rfl ?_
  refine SW.newa (a := 1) (b := 0 + N) (N := N) (t := 1) (at0 := .int) (ty := .int) rfl (Or.inl ⟨rfl, rfl⟩) (hk 3 (by decide) (by decide)) (ZO.at (ZO.up (ZO.le (m' := m + 3) (ZO.up (ZO.le (m' := m + 2) hz (by omega)) (by omega)) (by omega)) (by omega)) (by omega)) ww_213 hx hN (by omega) dX0_init_30 ?_
  refine SW.putR (f := 2) aw_cl0 kp0 (by omega) (by omega) (by decide) ww_344 (by first | exact Or.inl rfl | exact Or.inr ⟨rfl, rfl, rfl⟩) dX0_init_32 rfl (fun _ => rfl) (fun _ => rfl) (by omega) ?_
  refine SW.aload_n dX0_init_35 rfl ?_
  refine SW.iload_n dX0_init_36 rfl ?_
  refine SW.newa (a := 0) (b := 0) (N := N) (t := 1) (at0 := .int) (ty := .int) rfl (Or.inl ⟨rfl, rfl⟩) (hk 4 (by decide) (by decide)) (ZO.at (ZO.up (ZO.le (m' := m + 4) (ZO.up (ZO.le (m' := m + 3) (ZO.up (ZO.le (m' := m + 2) hz (by omega)) (by omega)) (by omega)) (by omega)) (by omega)) (by omega)) (by omega)) ww_213 hx hN (by omega) dX0_init_37 ?_
  refine SW.putR (f := 3) aw_cl0 kp0 (by omega) (by omega) (by decide) ww_348 (by first | exact Or.inl rfl | exact Or.inr ⟨rfl, rfl, rfl⟩) dX0_init_39 rfl (fun _ => rfl) (fun _ => rfl) (by omega) ?_
  refine SW.aload_n dX0_init_42 rfl ?_
  refine SW.iconst (v := (0 : Int32)) dX0_init_43 (by decide) ?_
  refine SW.putI (f := 4) aw_cl0 kp0 (by omega) (by omega) (by decide) ww_353 (by first | exact Or.inl rfl | exact Or.inr ⟨rfl, rfl, rfl⟩) dX0_init_44 rfl rfl rfl ?_
  rw [aw_uz ((hz (m + 1) (by omega)).1 _)]
  exact SW.vret dX0_init_47 rfl ⟨rfl, hq⟩
set_option maxHeartbeats 4000000 in
theorem kC1 {m : Nat} (hk : ∀ j, j < 18 → aw_kp (m + 1 + j) = aw_kp (84 + j)) (hz : ZO m σ τ θ) (hq : qv (m + 18) σ τ (aw_u (aw_u (aw_u (aw_u (aw_u (aw_u (aw_u (aw_u (aw_u (aw_u (aw_u (aw_u (aw_u (aw_u (aw_u (aw_u (aw_u θ (m + 1) 0 (m + 2)) (m + 1) 1 (m + 3)) (m + 1) 2 (m + 4)) (m + 1) 3 (m + 5)) (m + 1) 4 (m + 6)) (m + 1) 5 (m + 7)) (m + 1) 6 (m + 8)) (m + 9) 0 (m + 10)) (m + 9) 1 (m + 11)) (m + 9) 2 (m + 12)) (m + 9) 3 (m + 13)) (m + 1) 7 (m + 9)) (m + 14) 0 (m + 15)) (m + 14) 1 (m + 16)) (m + 14) 2 (m + 17)) (m + 14) 3 (m + 18)) (m + 1) 8 (m + 14))) : SMv G 2 mX1_init 17 86 [.ref (m + 1)] (m + 1) σ τ θ qv := by
  have kp0 := (hk 0 (by decide)).trans (show aw_kp 84 = (0, 1) by decide +kernel)
  refine SM.of [some (.ref (m + 1))] rfl rfl (Nat.le_of_ble_eq_true rfl) ?_
  refine SW.aload_n dX1_init_0 rfl ?_
  refine SW.oinit (by omega) ww_325 ww_138 ww_139 (by decide) (by decide) dX1_init_1 ?_
  refine SW.aload_n dX1_init_4 rfl ?_
  refine SW.iconst (v := (5 : Int32)) dX1_init_5 (by decide) ?_
  refine SW.newa (a := 16) (b := 81) (N := 5) (t := 1) (at0 := .int) (ty := .int) rfl (Or.inl ⟨rfl, rfl⟩) ((hk 1 (by decide)).trans (by decide +kernel)) (ZO.at hz (by omega)) ww_213 (by decide) (by decide) (by decide) dX1_init_6 ?_
  refine SW.putR (f := 0) aw_cl1 kp0 (by omega) (by omega) (by decide) ww_372 (by first | exact Or.inl rfl | exact Or.inr ⟨rfl, rfl, rfl⟩) dX1_init_8 rfl (fun _ => rfl) (fun _ => rfl) (by omega) ?_
  refine SW.aload_n dX1_init_11 rfl ?_
  refine SW.iconst (v := (5 : Int32)) dX1_init_12 (by decide) ?_
  refine SW.newa (a := 15) (b := 76) (N := 5) (t := 1) (at0 := .int) (ty := .int) rfl (Or.inl ⟨rfl, rfl⟩) ((hk 2 (by decide)).trans (by decide +kernel)) (ZO.at (ZO.up (ZO.le (m' := m + 2) hz (by omega)) (by omega)) (by omega)) ww_213 (by decide) (by decide) (by decide) dX1_init_13 ?_
  refine SW.putR (f := 1) aw_cl1 kp0 (by omega) (by omega) (by decide) ww_375 (by first | exact Or.inl rfl | exact Or.inr ⟨rfl, rfl, rfl⟩) dX1_init_15 rfl (fun _ => rfl) (fun _ => rfl) (by omega) ?_
  refine SW.aload_n dX1_init_18 rfl ?_
  refine SW.iconst (v := (5 : Int32)) dX1_init_19 (by decide) ?_
  refine SW.newa (a := 14) (b := 71) (N := 5) (t := 1) (at0 := .int) (ty := .int) rfl (Or.inl ⟨rfl, rfl⟩) ((hk 3 (by decide)).trans (by decide +kernel)) (ZO.at (ZO.up (ZO.le (m' := m + 3) (ZO.up (ZO.le (m' := m + 2) hz (by omega)) (by omega)) (by omega)) (by omega)) (by omega)) ww_213 (by decide) (by decide) (by decide) dX1_init_20 ?_
  refine SW.putR (f := 2) aw_cl1 kp0 (by omega) (by omega) (by decide) ww_378 (by first | exact Or.inl rfl | exact Or.inr ⟨rfl, rfl, rfl⟩) dX1_init_22 rfl (fun _ => rfl) (fun _ => rfl) (by omega) ?_
  refine SW.aload_n dX1_init_25 rfl ?_
  refine SW.iconst (v := (5 : Int32)) dX1_init_26 (by decide) ?_
  refine SW.newa (a := 13) (b := 66) (N := 5) (t := 1) (at0 := .int) (ty := .int) rfl (Or.inl ⟨rfl, rfl⟩) ((hk 4 (by decide)).trans (by decide +kernel)) (ZO.at (ZO.up (ZO.le (m' := m + 4) (ZO.up (ZO.le (m' := m + 3) (ZO.up (ZO.le (m' := m + 2) hz (by omega)) (by omega)) (by omega)) (by omega)) (by omega)) (by omega)) (by omega)) ww_213 (by decide) (by decide) (by decide) dX1_init_27 ?_
  refine SW.putR (f := 3) aw_cl1 kp0 (by omega) (by omega) (by decide) ww_381 (by first | exact Or.inl rfl | exact Or.inr ⟨rfl, rfl, rfl⟩) dX1_init_29 rfl (fun _ => rfl) (fun _ => rfl) (by omega) ?_
  refine SW.aload_n dX1_init_32 rfl ?_
  refine SW.iconst (v := (4 : Int32)) dX1_init_33 (by decide) ?_
  refine SW.newa (a := 12) (b := 62) (N := 4) (t := 1) (at0 := .int) (ty := .int) rfl (Or.inl ⟨rfl, rfl⟩) ((hk 5 (by decide)).trans (by decide +kernel)) (ZO.at (ZO.up (ZO.le (m' := m + 5) (ZO.up (ZO.le (m' := m + 4) (ZO.up (ZO.le (m' := m + 3) (ZO.up (ZO.le (m' := m + 2) hz (by omega)) (by omega)) (by omega)) (by omega)) (by omega)) (by omega)) (by omega)) (by omega)) (by omega)) ww_213 (by decide) (by decide) (by decide) dX1_init_34 ?_
  refine SW.putR (f := 4) aw_cl1 kp0 (by omega) (by omega) (by decide) ww_384 (by first | exact Or.inl rfl | exact Or.inr ⟨rfl, rfl, rfl⟩) dX1_init_36 rfl (fun _ => rfl) (fun _ => rfl) (by omega) ?_
  refine SW.aload_n dX1_init_39 rfl ?_
  refine SW.iconst (v := (4 : Int32)) dX1_init_40 (by decide) ?_
  refine SW.newa (a := 11) (b := 58) (N := 4) (t := 1) (at0 := .int) (ty := .int) rfl (Or.inl ⟨rfl, rfl⟩) ((hk 6 (by decide)).trans (by decide +kernel)) (ZO.at (ZO.up (ZO.le (m' := m + 6) (ZO.up (ZO.le (m' := m + 5) (ZO.up (ZO.le (m' := m + 4) (ZO.up (ZO.le (m' := m + 3) (ZO.up (ZO.le (m' := m + 2) hz (by omega)) (by omega)) (by omega)) (by omega)) (by omega)) (by omega)) (by omega)) (by omega)) (by omega)) (by omega)) (by omega)) ww_213 (by decide) (by decide) (by decide) dX1_init_41 ?_
  refine SW.putR (f := 5) aw_cl1 kp0 (by omega) (by omega) (by decide) ww_387 (by first | exact Or.inl rfl | exact Or.inr ⟨rfl, rfl, rfl⟩) dX1_init_43 rfl (fun _ => rfl) (fun _ => rfl) (by omega) ?_
  refine SW.aload_n dX1_init_46 rfl ?_
  refine SW.iconst (v := (4 : Int32)) dX1_init_47 (by decide) ?_
  refine SW.newa (a := 10) (b := 54) (N := 4) (t := 1) (at0 := .int) (ty := .int) rfl (Or.inl ⟨rfl, rfl⟩) ((hk 7 (by decide)).trans (by decide +kernel)) (ZO.at (ZO.up (ZO.le (m' := m + 7) (ZO.up (ZO.le (m' := m + 6) (ZO.up (ZO.le (m' := m + 5) (ZO.up (ZO.le (m' := m + 4) (ZO.up (ZO.le (m' := m + 3) (ZO.up (ZO.le (m' := m + 2) hz (by omega)) (by omega)) (by omega)) (by omega)) (by omega)) (by omega)) (by omega)) (by omega)) (by omega)) (by omega)) (by omega)) (by omega)) (by omega)) ww_213 (by decide) (by decide) (by decide) dX1_init_48 ?_
  refine SW.putR (f := 6) aw_cl1 kp0 (by omega) (by omega) (by decide) ww_391 (by first | exact Or.inl rfl | exact Or.inr ⟨rfl, rfl, rfl⟩) dX1_init_50 rfl (fun _ => rfl) (fun _ => rfl) (by omega) ?_
  refine SW.aload_n dX1_init_53 rfl ?_
  refine SW.new (a := 9) (b := 49) aw_cl0 ((hk 8 (by decide)).trans (by decide +kernel)) (ZO.at (ZO.up (ZO.le (m' := m + 8) (ZO.up (ZO.le (m' := m + 7) (ZO.up (ZO.le (m' := m + 6) (ZO.up (ZO.le (m' := m + 5) (ZO.up (ZO.le (m' := m + 4) (ZO.up (ZO.le (m' := m + 3) (ZO.up (ZO.le (m' := m + 2) hz (by omega)) (by omega)) (by omega)) (by omega)) (by omega)) (by omega)) (by omega)) (by omega)) (by omega)) (by omega)) (by omega)) (by omega)) (by omega)) (by omega)) (by omega)) ww_326 ww_327 ww_121 (by decide) dX1_init_54 ?_
  refine SW.dup dX1_init_57 rfl ?_
  refine SW.bipush (v := (7 : Int32)) dX1_init_58 (by decide) ?_
  refine SW.ci1 kI_X1_35 (a' := 4) (b' := 28) (a := 5) (b := 21) (k' := 1) (y' := mX0_init) (by omega) (by omega) (Nat.le_of_ble_eq_true rfl) dX1_init_60 (kC0 (m := m + 8) (N := 7) 7 (by decide) (by decide) (by decide) ((hk 8 (by decide)).trans (by decide +kernel)) (fun j h1 h2 => by rcases (show j = 1 ∨ j = 2 ∨ j = 3 ∨ j = 4 by omega) with rfl | rfl | rfl | rfl; exact (hk 9 (by decide)).trans (by decide +kernel); exact (hk 10 (by decide)).trans (by decide +kernel); exact (hk 11 (by decide)).trans (by decide +kernel); exact (hk 12 (by decide)).trans (by decide +kernel)) (ZO.le (m' := m + 8) (ZO.up (ZO.le (m' := m + 8) (ZO.up (ZO.le (m' := m + 7) (ZO.up (ZO.le (m' := m + 6) (ZO.up (ZO.le (m' := m + 5) (ZO.up (ZO.le (m' := m + 4) (ZO.up (ZO.le (m' := m + 3) (ZO.up (ZO.le (m' := m + 2) hz (by omega)) (by omega)) (by omega)) (by omega)) (by omega)) (by omega)) (by omega)) (by omega)) (by omega)) (by omega)) (by omega)) (by omega)) (by omega)) (by omega)) (by omega)) ?_)
  refine SW.putR (f := 7) aw_cl1 kp0 (by omega) (by omega) (by decide) ww_393 (by first | exact Or.inl rfl | exact Or.inr ⟨rfl, rfl, rfl⟩) dX1_init_63 rfl (fun _ => rfl) (fun _ => rfl) (by omega) ?_
  refine SW.aload_n dX1_init_66 rfl ?_
  refine SW.new (a := 4) (b := 16) aw_cl0 ((hk 13 (by decide)).trans (by decide +kernel)) (ZO.at (ZO.up (ZO.up (ZO.up (ZO.up (ZO.up (ZO.le (m' := m + 13) (ZO.up (ZO.le (m' := m + 8) (ZO.up (ZO.le (m' := m + 7) (ZO.up (ZO.le (m' := m + 6) (ZO.up (ZO.le (m' := m + 5) (ZO.up (ZO.le (m' := m + 4) (ZO.up (ZO.le (m' := m + 3) (ZO.up (ZO.le (m' := m + 2) hz (by omega)) (by omega)) (by omega)) (by omega)) (by omega)) (by omega)) (by omega)) (by omega)) (by omega)) (by omega)) (by omega)) (by omega)) (by omega)) (by omega)) (by omega)) (by omega)) (by omega)) (by omega)) (by omega)) (by omega)) (by omega)) ww_326 ww_327 ww_121 (by decide) dX1_init_67 ?_
  refine SW.dup dX1_init_70 rfl ?_
  refine SW.iconst (v := (4 : Int32)) dX1_init_71 (by decide) ?_
  refine SW.ci1 kI_X1_35 (a' := 4) (b' := 16) (a := 0) (b := 0) (k' := 1) (y' := mX0_init) (by omega) (by omega) (Nat.le_of_ble_eq_true rfl) dX1_init_72 (kC0 (m := m + 13) (N := 4) 4 (by decide) (by decide) (by decide) ((hk 13 (by decide)).trans (by decide +kernel)) (fun j h1 h2 => by rcases (show j = 1 ∨ j = 2 ∨ j = 3 ∨ j = 4 by omega) with rfl | rfl | rfl | rfl; exact (hk 14 (by decide)).trans (by decide +kernel); exact (hk 15 (by decide)).trans (by decide +kernel); exact (hk 16 (by decide)).trans (by decide +kernel); exact (hk 17 (by decide)).trans (by decide +kernel)) (ZO.le (m' := m + 13) (ZO.up (ZO.up (ZO.up (ZO.up (ZO.up (ZO.le (m' := m + 13) (ZO.up (ZO.le (m' := m + 8) (ZO.up (ZO.le (m' := m + 7) (ZO.up (ZO.le (m' := m + 6) (ZO.up (ZO.le (m' := m + 5) (ZO.up (ZO.le (m' := m + 4) (ZO.up (ZO.le (m' := m + 3) (ZO.up (ZO.le (m' := m + 2) hz (by omega)) (by omega)) (by omega)) (by omega)) (by omega)) (by omega)) (by omega)) (by omega)) (by omega)) (by omega)) (by omega)) (by omega)) (by omega)) (by omega)) (by omega)) (by omega)) (by omega)) (by omega)) (by omega)) (by omega)) (by omega)) ?_)
  refine SW.putR (f := 8) aw_cl1 kp0 (by omega) (by omega) (by decide) ww_399 (by first | exact Or.inl rfl | exact Or.inr ⟨rfl, rfl, rfl⟩) dX1_init_75 rfl (fun _ => rfl) (fun _ => rfl) (by omega) ?_
  exact SW.vret dX1_init_78 rfl ⟨rfl, hq⟩
set_option maxHeartbeats 4000000 in
theorem kC3 {m : Nat} (hk : ∀ j, j < 4 → aw_kp (m + 1 + j) = aw_kp (80 + j)) (hz : ZO m σ τ θ) (hq : qv (m + 4) σ τ (aw_u (aw_u (aw_u θ (m + 2) 0 (m + 3)) (m + 2) 1 (m + 4)) (m + 1) 0 (m + 2))) : SMv G 2 mX3_init 3 15 [.ref (m + 1)] (m + 1) σ τ θ qv := by
  have kp0 := (hk 0 (by decide)).trans (show aw_kp 80 = (0, 3) by decide +kernel)
  refine SM.of [some (.ref (m + 1))] rfl rfl (Nat.le_of_ble_eq_true rfl) ?_
  refine SW.aload_n dX3_init_0 rfl ?_
  refine SW.oinit (by omega) ww_308 ww_138 ww_139 (by decide) (by decide) dX3_init_1 ?_
  refine SW.aload_n dX3_init_4 rfl ?_
  refine SW.new (a := 2) (b := 12) aw_cl2 ((hk 1 (by decide)).trans (by decide +kernel)) (ZO.at hz (by omega)) ww_309 ww_188 ww_114 (by decide) dX3_init_5 ?_
  refine SW.dup dX3_init_8 rfl ?_
  refine SW.cn0 kN_X3_9.1 kN_X3_9.2 (a' := 2) (b' := 12) (a := 0) (b := 0) (k' := 1) (y' := mX2_init) (by omega) (by omega) (Nat.le_of_ble_eq_true rfl) dX3_init_9 (kC2 (m := m + 1) (fun j hj => by rcases (show j = 0 ∨ j = 1 ∨ j = 2 by omega) with rfl | rfl | rfl; exact (hk 1 (by decide)).trans (by decide +kernel); exact (hk 2 (by decide)).trans (by decide +kernel); exact (hk 3 (by decide)).trans (by decide +kernel)) (ZO.le (m' := m + 1) hz (by omega)) ?_)
  refine SW.putR (f := 0) aw_cl3 kp0 (by omega) (by omega) (by decide) ww_311 (by first | exact Or.inl rfl | exact Or.inr ⟨rfl, rfl, rfl⟩) dX3_init_12 rfl (fun _ => rfl) (fun _ => rfl) (by omega) ?_
  exact SW.vret dX3_init_15 rfl ⟨rfl, hq⟩
end Ctor2
