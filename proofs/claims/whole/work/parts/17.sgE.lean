set_option maxHeartbeats 4000000 in
set_option maxRecDepth 20000 in
theorem sgX9_look_0 {G : GG} {k : Nat} {q : Int32 → Nat → SG → TU → TH → Prop} {n : Nat} {σ : SG} {τ : TU} {θ : TH}   (hk : 6 ≤ k)  (hW : aw_WT n θ) (vc : SMi G 1 mX9_noDuchy 0 0 [.ref 1] n σ τ θ (fun a1 n1 σ1 τ1 θ1 => aw_WT n1 θ1 ∧ (((a1 = 0) → (SMv G 4 mX4_weigh 0 0 [.ref 77, .ref (θ1 1 7), .ref 6] n1 σ1 τ1 θ1 (fun n3 σ3 τ3 θ3 => aw_WT n3 θ3 ∧ (SMi G 5 mX9_manToLookAt 0 0 [.ref 1] n3 σ3 τ3 θ3 (fun a4 n4 σ4 τ4 θ4 => aw_WT n4 θ4 ∧ (SMi G 1 mX9_grant 0 0 [.ref 1, .int a4] n4 σ4 τ4 θ4 (fun a5 n5 σ5 τ5 θ5 => aw_WT n5 θ5 ∧ (q a5 n5 σ5 τ5 θ5)))))))) ∧ ((¬ a1 = 0) → (SMi G 1 mX9_refuse 0 0 [.ref 1, .int (1 : Int32)] n1 σ1 τ1 θ1 (fun a6 n6 σ6 τ6 θ6 => aw_WT n6 θ6 ∧ (q a6 n6 σ6 τ6 θ6))))))) : SW G k mX9_look (aw_qi q) 0 0 0 [some (.ref 1)] [] (n, σ, τ, θ) := by
  refine SW.aload_n dX9_look_0 rfl ?_
  refine SW.cvi0 kV_X9_134 (by omega) aw_cl9 kp_1 (by decide) (hW.le (by decide)) rfl (Nat.le_of_ble_eq_true rfl) dX9_look_1 (SMi.mono vc ?_)
  intro a1 n1 σ1 τ1 θ1 vc
  obtain ⟨hW, vc⟩ := vc
  refine SW.if_eq 13 dX9_look_4 (by decide) (fun hbr => ?_) (fun hbr => ?_)
  · replace vc := vc.1 hbr
    refine SW.aload_n dX9_look_13 rfl ?_
    refine SW.getS (f := 5) (r := 77) aw_cl9 kp_1 (by decide) (hW.le (by decide)) (by decide) ww_470 dX9_look_14 rfl hW.t1_5 ?_
    refine SW.aload_n dX9_look_17 rfl ?_
    have hF2 := hW.f
    refine SW.getS (f := 7) (r := (θ1 1 7)) aw_cl9 kp_1 (by decide) (hW.le (by decide)) (by decide) ww_472 dX9_look_18 rfl rfl ?_
    refine SW.aload_n dX9_look_21 rfl ?_
    refine SW.getS (f := 1) (r := 6) aw_cl9 kp_1 (by decide) (hW.le (by decide)) (by decide) ww_466 dX9_look_22 rfl hW.t1_1 ?_
    refine SW.cvv2 kV_X9_211 (by omega) aw_cl4 kp_77 (by decide) (hW.le (by decide)) rfl (Nat.le_of_ble_eq_true rfl) dX9_look_25 (SMv.mono vc ?_)
    intro n3 σ3 τ3 θ3 vc
    obtain ⟨hW, vc⟩ := vc
    refine SW.aload_n dX9_look_28 rfl ?_
    refine SW.aload_n dX9_look_29 rfl ?_
    refine SW.cvi0 kV_X9_244 (by omega) aw_cl9 kp_1 (by decide) (hW.le (by decide)) rfl (Nat.le_of_ble_eq_true rfl) dX9_look_30 (SMi.mono vc ?_)
    intro a4 n4 σ4 τ4 θ4 vc
    obtain ⟨hW, vc⟩ := vc
    refine SW.cvi1 kV_X9_100 (by omega) aw_cl9 kp_1 (by decide) (hW.le (by decide)) rfl (Nat.le_of_ble_eq_true rfl) dX9_look_33 (SMi.mono vc ?_)
    intro a5 n5 σ5 τ5 θ5 vc
    obtain ⟨hW, vc⟩ := vc
    exact SW.iret dX9_look_36 rfl rfl ⟨_, rfl, vc⟩
  · replace vc := vc.2 hbr
    refine SW.aload_n dX9_look_7 rfl ?_
    refine SW.iconst (v := (1 : Int32)) dX9_look_8 (by decide) ?_
    refine SW.cvi1 kV_X9_82 (by omega) aw_cl9 kp_1 (by decide) (hW.le (by decide)) rfl (Nat.le_of_ble_eq_true rfl) dX9_look_9 (SMi.mono vc ?_)
    intro a6 n6 σ6 τ6 θ6 vc
    obtain ⟨hW, vc⟩ := vc
    exact SW.iret dX9_look_12 rfl rfl ⟨_, rfl, vc⟩
theorem ctX9_look {G : GG} {q : Int32 → Nat → SG → TU → TH → Prop} {n : Nat} {σ : SG} {τ : TU} {θ : TH}  (h : SW G 6 mX9_look (aw_qi q) 0 0 0 [some (.ref 1)] [] (n, σ, τ, θ)) : SMi G 6 mX9_look 0 0 [.ref 1] n σ τ θ q := SM.of _ rfl rfl (Nat.le_of_ble_eq_true rfl) h
set_option maxHeartbeats 4000000 in
set_option maxRecDepth 20000 in
theorem sgX9_lookLeaves_0 {G : GG} {k : Nat} {q : Int32 → Nat → SG → TU → TH → Prop} {n : Nat} {σ : SG} {τ : TU} {θ : TH}   (hk : 6 ≤ k)  (hW : aw_WT n θ) (vc : SMi G 1 mX9_noDuchy 0 0 [.ref 1] n σ τ θ (fun a1 n1 σ1 τ1 θ1 => aw_WT n1 θ1 ∧ (((a1 = 0) → (SMv G 4 mX4_weigh 0 0 [.ref 77, .ref (θ1 1 7), .ref 6] n1 σ1 τ1 θ1 (fun n3 σ3 τ3 θ3 => aw_WT n3 θ3 ∧ (SMi G 5 mX9_manToLookAt 0 0 [.ref 1] n3 σ3 τ3 θ3 (fun a4 n4 σ4 τ4 θ4 => aw_WT n4 θ4 ∧ (((¬ a4 = (-2 : Int32)) → (SMi G 4 mX4_leftAtMost 0 0 [.ref 77, .ref (θ4 1 7), .ref 6, .int a4] n4 σ4 τ4 θ4 (fun a6 n6 σ6 τ6 θ6 => aw_WT n6 θ6 ∧ (SMi G 1 mX9_grant 0 0 [.ref 1, .int a6] n6 σ6 τ6 θ6 (fun a7 n7 σ7 τ7 θ7 => aw_WT n7 θ7 ∧ (q a7 n7 σ7 τ7 θ7)))))) ∧ ((a4 = (-2 : Int32)) → (SMi G 1 mX9_grant 0 0 [.ref 1, .int (-2 : Int32)] n4 σ4 τ4 θ4 (fun a8 n8 σ8 τ8 θ8 => aw_WT n8 θ8 ∧ (q a8 n8 σ8 τ8 θ8)))))))))) ∧ ((¬ a1 = 0) → (SMi G 1 mX9_refuse 0 0 [.ref 1, .int (1 : Int32)] n1 σ1 τ1 θ1 (fun a9 n9 σ9 τ9 θ9 => aw_WT n9 θ9 ∧ (q a9 n9 σ9 τ9 θ9))))))) : SW G k mX9_lookLeaves (aw_qi q) 0 0 0 [some (.ref 1), none] [] (n, σ, τ, θ) := by
  refine SW.aload_n dX9_lookLeaves_0 rfl ?_
  refine SW.cvi0 kV_X9_134 (by omega) aw_cl9 kp_1 (by decide) (hW.le (by decide)) rfl (Nat.le_of_ble_eq_true rfl) dX9_lookLeaves_1 (SMi.mono vc ?_)
  intro a1 n1 σ1 τ1 θ1 vc
  obtain ⟨hW, vc⟩ := vc
  refine SW.if_eq 13 dX9_lookLeaves_4 (by decide) (fun hbr => ?_) (fun hbr => ?_)
  · replace vc := vc.1 hbr
    refine SW.aload_n dX9_lookLeaves_13 rfl ?_
    refine SW.getS (f := 5) (r := 77) aw_cl9 kp_1 (by decide) (hW.le (by decide)) (by decide) ww_470 dX9_lookLeaves_14 rfl hW.t1_5 ?_
    refine SW.aload_n dX9_lookLeaves_17 rfl ?_
    have hF2 := hW.f
    refine SW.getS (f := 7) (r := (θ1 1 7)) aw_cl9 kp_1 (by decide) (hW.le (by decide)) (by decide) ww_472 dX9_lookLeaves_18 rfl rfl ?_
    refine SW.aload_n dX9_lookLeaves_21 rfl ?_
    refine SW.getS (f := 1) (r := 6) aw_cl9 kp_1 (by decide) (hW.le (by decide)) (by decide) ww_466 dX9_lookLeaves_22 rfl hW.t1_1 ?_
    refine SW.cvv2 kV_X9_211 (by omega) aw_cl4 kp_77 (by decide) (hW.le (by decide)) rfl (Nat.le_of_ble_eq_true rfl) dX9_lookLeaves_25 (SMv.mono vc ?_)
    intro n3 σ3 τ3 θ3 vc
    obtain ⟨hW, vc⟩ := vc
    refine SW.aload_n dX9_lookLeaves_28 rfl ?_
    refine SW.cvi0 kV_X9_244 (by omega) aw_cl9 kp_1 (by decide) (hW.le (by decide)) rfl (Nat.le_of_ble_eq_true rfl) dX9_lookLeaves_29 (SMi.mono vc ?_)
    intro a4 n4 σ4 τ4 θ4 vc
    obtain ⟨hW, vc⟩ := vc
    refine SW.istore_n dX9_lookLeaves_32 (by decide) rfl rfl ?_
    refine SW.aload_n dX9_lookLeaves_33 rfl ?_
    refine SW.iload_n dX9_lookLeaves_34 rfl ?_
    refine SW.bipush (v := (-2 : Int32)) dX9_lookLeaves_35 (by decide) ?_
    refine SW.icmp_ne 45 dX9_lookLeaves_37 (by decide) (fun hbr => ?_) (fun hbr => ?_)
    · replace vc := vc.1 hbr
      refine SW.aload_n dX9_lookLeaves_45 rfl ?_
      refine SW.getS (f := 5) (r := 77) aw_cl9 kp_1 (by decide) (hW.le (by decide)) (by decide) ww_470 dX9_lookLeaves_46 rfl hW.t1_5 ?_
      refine SW.aload_n dX9_lookLeaves_49 rfl ?_
      have hF5 := hW.f
      refine SW.getS (f := 7) (r := (θ4 1 7)) aw_cl9 kp_1 (by decide) (hW.le (by decide)) (by decide) ww_472 dX9_lookLeaves_50 rfl rfl ?_
      refine SW.aload_n dX9_lookLeaves_53 rfl ?_
      refine SW.getS (f := 1) (r := 6) aw_cl9 kp_1 (by decide) (hW.le (by decide)) (by decide) ww_466 dX9_lookLeaves_54 rfl hW.t1_1 ?_
      refine SW.iload_n dX9_lookLeaves_57 rfl ?_
      refine SW.cvi3 kV_X9_247 (by omega) aw_cl4 kp_77 (by decide) (hW.le (by decide)) rfl (Nat.le_of_ble_eq_true rfl) dX9_lookLeaves_58 (SMi.mono vc ?_)
      intro a6 n6 σ6 τ6 θ6 vc
      obtain ⟨hW, vc⟩ := vc
      refine SW.cvi1 kV_X9_100 (by omega) aw_cl9 kp_1 (by decide) (hW.le (by decide)) rfl (Nat.le_of_ble_eq_true rfl) dX9_lookLeaves_61 (SMi.mono vc ?_)
      intro a7 n7 σ7 τ7 θ7 vc
      obtain ⟨hW, vc⟩ := vc
      exact SW.iret dX9_lookLeaves_64 rfl rfl ⟨_, rfl, vc⟩
    · replace vc := vc.2 hbr
      refine SW.bipush (v := (-2 : Int32)) dX9_lookLeaves_40 (by decide) ?_
      refine SW.goto 61 dX9_lookLeaves_42 (by decide) ?_
      refine SW.cvi1 kV_X9_100 (by omega) aw_cl9 kp_1 (by decide) (hW.le (by decide)) rfl (Nat.le_of_ble_eq_true rfl) dX9_lookLeaves_61 (SMi.mono vc ?_)
      intro a8 n8 σ8 τ8 θ8 vc
      obtain ⟨hW, vc⟩ := vc
      exact SW.iret dX9_lookLeaves_64 rfl rfl ⟨_, rfl, vc⟩
  · replace vc := vc.2 hbr
    refine SW.aload_n dX9_lookLeaves_7 rfl ?_
    refine SW.iconst (v := (1 : Int32)) dX9_lookLeaves_8 (by decide) ?_
    refine SW.cvi1 kV_X9_82 (by omega) aw_cl9 kp_1 (by decide) (hW.le (by decide)) rfl (Nat.le_of_ble_eq_true rfl) dX9_lookLeaves_9 (SMi.mono vc ?_)
    intro a9 n9 σ9 τ9 θ9 vc
    obtain ⟨hW, vc⟩ := vc
    exact SW.iret dX9_lookLeaves_12 rfl rfl ⟨_, rfl, vc⟩
theorem ctX9_lookLeaves {G : GG} {q : Int32 → Nat → SG → TU → TH → Prop} {n : Nat} {σ : SG} {τ : TU} {θ : TH}  (h : SW G 6 mX9_lookLeaves (aw_qi q) 0 0 0 [some (.ref 1), none] [] (n, σ, τ, θ)) : SMi G 6 mX9_lookLeaves 0 0 [.ref 1] n σ τ θ q := SM.of _ rfl rfl (Nat.le_of_ble_eq_true rfl) h
set_option maxHeartbeats 4000000 in
set_option maxRecDepth 20000 in
theorem sgX9_lowest_0 {G : GG} {k : Nat} {q : Int64 → Nat → SG → TU → TH → Prop} {n : Nat} {σ : SG} {τ : TU} {θ : TH}  (x0 : Int64) (x2 : Int64) (x4 : Int32) (hk : 1 ≤ k)  (hW : aw_WT n θ) (vc : (((lg_cmp x0 (0 : Int64)) ≤ 0) → (((x4 = 0) → (q (0 : Int64) n σ τ θ)) ∧ ((¬ x4 = 0) → (q (1 : Int64) n σ τ θ)))) ∧ ((¬ (lg_cmp x0 (0 : Int64)) ≤ 0) → (((0 < (lg_cmp x2 (0 : Int64))) → (SW G k mX9_lowest (aw_ql q) 0 0 32 [some (.long x0), none, some (.long x2), none, some (.int x4), some (.long x2), none, some (.long x0), none, some (.int (0 : Int32)), none, none] [] (n, σ, τ, θ))) ∧ ((¬ 0 < (lg_cmp x2 (0 : Int64))) → (((x4 = 0) → (q (0 : Int64) n σ τ θ)) ∧ ((¬ x4 = 0) → (q (1 : Int64) n σ τ θ))))))) : SW G k mX9_lowest (aw_ql q) 0 0 0 [some (.long x0), none, some (.long x2), none, some (.int x4), none, none, none, none, none, none, none] [] (n, σ, τ, θ) := by
  refine SW.lload_n dX9_lowest_0 rfl ?_
  refine SW.lconst (v := (0 : Int64)) dX9_lowest_1 (by decide) ?_
  refine SW.lcmp dX9_lowest_2 ?_
  refine SW.if_le 12 dX9_lowest_3 (by decide) (fun hbr => ?_) (fun hbr => ?_)
  · replace vc := vc.1 hbr
    refine SW.iload dX9_lowest_12 rfl ?_
    refine SW.if_eq 21 dX9_lowest_14 (by decide) (fun hbr => ?_) (fun hbr => ?_)
    · replace vc := vc.1 hbr
      refine SW.lconst (v := (0 : Int64)) dX9_lowest_21 (by decide) ?_
      exact SW.lret dX9_lowest_22 rfl ⟨_, rfl, vc⟩
    · replace vc := vc.2 hbr
      refine SW.lconst (v := (1 : Int64)) dX9_lowest_17 (by decide) ?_
      refine SW.goto 22 dX9_lowest_18 (by decide) ?_
      exact SW.lret dX9_lowest_22 rfl ⟨_, rfl, vc⟩
  · replace vc := vc.2 hbr
    refine SW.lload_n dX9_lowest_6 rfl ?_
    refine SW.lconst (v := (0 : Int64)) dX9_lowest_7 (by decide) ?_
    refine SW.lcmp dX9_lowest_8 ?_
    refine SW.if_gt 23 dX9_lowest_9 (by decide) (fun hbr => ?_) (fun hbr => ?_)
    · replace vc := vc.1 hbr
      refine SW.lload_n dX9_lowest_23 rfl ?_
      refine SW.lstore dX9_lowest_24 (by decide) rfl rfl ?_
      refine SW.lload_n dX9_lowest_26 rfl ?_
      refine SW.lstore dX9_lowest_27 (by decide) rfl rfl ?_
      refine SW.iconst (v := (0 : Int32)) dX9_lowest_29 (by decide) ?_
      refine SW.istore dX9_lowest_30 (by decide) rfl rfl ?_
      exact vc
    · replace vc := vc.2 hbr
      refine SW.iload dX9_lowest_12 rfl ?_
      refine SW.if_eq 21 dX9_lowest_14 (by decide) (fun hbr => ?_) (fun hbr => ?_)
      · replace vc := vc.1 hbr
        refine SW.lconst (v := (0 : Int64)) dX9_lowest_21 (by decide) ?_
        exact SW.lret dX9_lowest_22 rfl ⟨_, rfl, vc⟩
      · replace vc := vc.2 hbr
        refine SW.lconst (v := (1 : Int64)) dX9_lowest_17 (by decide) ?_
        refine SW.goto 22 dX9_lowest_18 (by decide) ?_
        exact SW.lret dX9_lowest_22 rfl ⟨_, rfl, vc⟩
set_option maxHeartbeats 4000000 in
set_option maxRecDepth 20000 in
theorem sgX9_lowest_32 {G : GG} {k : Nat} {q : Int64 → Nat → SG → TU → TH → Prop} {n : Nat} {σ : SG} {τ : TU} {θ : TH}  (x0 : Int64) (x2 : Int64) (x4 : Int32) (x5 : Int64) (x7 : Int64) (x9 : Int32) (hk : 1 ≤ k)  (hW : aw_WT n θ) (vc : (((200 : Int32) ≤ x9) → (((¬ (lg_cmp x5 (0 : Int64)) = 0) → (((x4 = 0) → ((¬ x5 = 0) ∧ (q (x0 / x5) n σ τ θ))) ∧ ((¬ x4 = 0) → ((¬ x5 = 0) ∧ (q (x2 / x5) n σ τ θ))))) ∧ (((lg_cmp x5 (0 : Int64)) = 0) → (q (-1 : Int64) n σ τ θ)))) ∧ ((¬ (200 : Int32) ≤ x9) → ((((lg_cmp x7 (0 : Int64)) = 0) → (((¬ (lg_cmp x5 (0 : Int64)) = 0) → (((x4 = 0) → ((¬ x5 = 0) ∧ (q (x0 / x5) n σ τ θ))) ∧ ((¬ x4 = 0) → ((¬ x5 = 0) ∧ (q (x2 / x5) n σ τ θ))))) ∧ (((lg_cmp x5 (0 : Int64)) = 0) → (q (-1 : Int64) n σ τ θ)))) ∧ ((¬ (lg_cmp x7 (0 : Int64)) = 0) → ((¬ x7 = 0) ∧ (SW G k mX9_lowest (aw_ql q) 0 0 32 [some (.long x0), none, some (.long x2), none, some (.int x4), some (.long x7), none, some (.long (x5 - x5 / x7 * x7)), none, some (.int (x9 + (1 : Int32))), none, none] [] (n, σ, τ, θ))))))) : SW G k mX9_lowest (aw_ql q) 0 0 32 [some (.long x0), none, some (.long x2), none, some (.int x4), some (.long x5), none, some (.long x7), none, some (.int x9), none, none] [] (n, σ, τ, θ) := by
  refine SW.iload dX9_lowest_32 rfl ?_
  refine SW.sipush (v := (200 : Int32)) dX9_lowest_34 (by decide) ?_
  refine SW.icmp_ge 68 dX9_lowest_37 (by decide) (fun hbr => ?_) (fun hbr => ?_)
  · replace vc := vc.1 hbr
    refine SW.lload dX9_lowest_68 rfl ?_
    refine SW.lconst (v := (0 : Int64)) dX9_lowest_70 (by decide) ?_
    refine SW.lcmp dX9_lowest_71 ?_
    refine SW.if_ne 79 dX9_lowest_72 (by decide) (fun hbr => ?_) (fun hbr => ?_)
    · replace vc := vc.1 hbr
      refine SW.iload dX9_lowest_79 rfl ?_
      refine SW.if_eq 88 dX9_lowest_81 (by decide) (fun hbr => ?_) (fun hbr => ?_)
      · replace vc := vc.1 hbr
        refine SW.lload_n dX9_lowest_88 rfl ?_
        refine SW.lload dX9_lowest_89 rfl ?_
        refine SW.ldiv dX9_lowest_91 vc.1 ?_
        replace vc := vc.2
        exact SW.lret dX9_lowest_92 rfl ⟨_, rfl, vc⟩
      · replace vc := vc.2 hbr
        refine SW.lload_n dX9_lowest_84 rfl ?_
        refine SW.goto 89 dX9_lowest_85 (by decide) ?_
        refine SW.lload dX9_lowest_89 rfl ?_
        refine SW.ldiv dX9_lowest_91 vc.1 ?_
        replace vc := vc.2
        exact SW.lret dX9_lowest_92 rfl ⟨_, rfl, vc⟩
    · replace vc := vc.2 hbr
      refine SW.ldc2 (v := (-1 : Int64)) ww_995 dX9_lowest_75 ?_
      exact SW.lret dX9_lowest_78 rfl ⟨_, rfl, vc⟩
  · replace vc := vc.2 hbr
    refine SW.lload dX9_lowest_40 rfl ?_
    refine SW.lconst (v := (0 : Int64)) dX9_lowest_42 (by decide) ?_
    refine SW.lcmp dX9_lowest_43 ?_
    refine SW.if_eq 68 dX9_lowest_44 (by decide) (fun hbr => ?_) (fun hbr => ?_)
    · replace vc := vc.1 hbr
      refine SW.lload dX9_lowest_68 rfl ?_
      refine SW.lconst (v := (0 : Int64)) dX9_lowest_70 (by decide) ?_
      refine SW.lcmp dX9_lowest_71 ?_
      refine SW.if_ne 79 dX9_lowest_72 (by decide) (fun hbr => ?_) (fun hbr => ?_)
      · replace vc := vc.1 hbr
        refine SW.iload dX9_lowest_79 rfl ?_
        refine SW.if_eq 88 dX9_lowest_81 (by decide) (fun hbr => ?_) (fun hbr => ?_)
        · replace vc := vc.1 hbr
          refine SW.lload_n dX9_lowest_88 rfl ?_
          refine SW.lload dX9_lowest_89 rfl ?_
          refine SW.ldiv dX9_lowest_91 vc.1 ?_
          replace vc := vc.2
          exact SW.lret dX9_lowest_92 rfl ⟨_, rfl, vc⟩
        · replace vc := vc.2 hbr
          refine SW.lload_n dX9_lowest_84 rfl ?_
          refine SW.goto 89 dX9_lowest_85 (by decide) ?_
          refine SW.lload dX9_lowest_89 rfl ?_
          refine SW.ldiv dX9_lowest_91 vc.1 ?_
          replace vc := vc.2
          exact SW.lret dX9_lowest_92 rfl ⟨_, rfl, vc⟩
      · replace vc := vc.2 hbr
        refine SW.ldc2 (v := (-1 : Int64)) ww_995 dX9_lowest_75 ?_
        exact SW.lret dX9_lowest_78 rfl ⟨_, rfl, vc⟩
    · replace vc := vc.2 hbr
      refine SW.lload dX9_lowest_47 rfl ?_
      refine SW.lload dX9_lowest_49 rfl ?_
      refine SW.lrem dX9_lowest_51 vc.1 ?_
      replace vc := vc.2
      refine SW.lstore dX9_lowest_52 (by decide) rfl rfl ?_
      refine SW.lload dX9_lowest_54 rfl ?_
      refine SW.lstore dX9_lowest_56 (by decide) rfl rfl ?_
      refine SW.lload dX9_lowest_58 rfl ?_
      refine SW.lstore dX9_lowest_60 (by decide) rfl rfl ?_
      refine SW.iinc (v := (x9 + (1 : Int32))) dX9_lowest_62 rfl rfl (by decide) rfl rfl ?_
      refine SW.goto 32 dX9_lowest_65 (by decide) ?_
      refine SW.msk [true, true, true, true, true, true, true, true, true, true, false, true] rfl ?_
      exact vc
theorem ctX9_lowest {G : GG} {q : Int64 → Nat → SG → TU → TH → Prop} {n : Nat} {σ : SG} {τ : TU} {θ : TH} (x0 : Int64) (x2 : Int64) (x4 : Int32) (h : SW G 1 mX9_lowest (aw_ql q) 0 0 0 [some (.long x0), none, some (.long x2), none, some (.int x4), none, none, none, none, none, none, none] [] (n, σ, τ, θ)) : SMl G 1 mX9_lowest 0 0 [.long x0, .long x2, .int x4] n σ τ θ q := SM.of _ rfl rfl (Nat.le_of_ble_eq_true rfl) h
set_option maxHeartbeats 4000000 in
set_option maxRecDepth 20000 in
theorem sgX9_man_0 {G : GG} {k : Nat} {q : Int32 → Nat → SG → TU → TH → Prop} {n : Nat} {σ : SG} {τ : TU} {θ : TH}  (x1 : Int32) (x2 : Int32) (hk : 6 ≤ k)  (hW : aw_WT n θ) (vc : SMi G 1 mX9_isMan 0 0 [.ref 1, .int x1] n σ τ θ (fun a1 n1 σ1 τ1 θ1 => aw_WT n1 θ1 ∧ (((a1 = 0) → (SMi G 1 mX9_refuse 0 0 [.ref 1, .int (1 : Int32)] n1 σ1 τ1 θ1 (fun a2 n2 σ2 τ2 θ2 => aw_WT n2 θ2 ∧ (q a2 n2 σ2 τ2 θ2)))) ∧ ((¬ a1 = 0) → (((x2 < 0) → (SMi G 1 mX9_refuse 0 0 [.ref 1, .int (1 : Int32)] n1 σ1 τ1 θ1 (fun a3 n3 σ3 τ3 θ3 => aw_WT n3 θ3 ∧ (q a3 n3 σ3 τ3 θ3)))) ∧ ((¬ x2 < 0) → (((x2 ≤ (7 : Int32)) → (SMi G 5 mX9_factOfMan 0 0 [.ref 1, .int x1, .int x2] n1 σ1 τ1 θ1 (fun a4 n4 σ4 τ4 θ4 => aw_WT n4 θ4 ∧ (SMi G 1 mX9_grant 0 0 [.ref 1, .int a4] n4 σ4 τ4 θ4 (fun a5 n5 σ5 τ5 θ5 => aw_WT n5 θ5 ∧ (q a5 n5 σ5 τ5 θ5)))))) ∧ ((¬ x2 ≤ (7 : Int32)) → (SMi G 1 mX9_refuse 0 0 [.ref 1, .int (1 : Int32)] n1 σ1 τ1 θ1 (fun a6 n6 σ6 τ6 θ6 => aw_WT n6 θ6 ∧ (q a6 n6 σ6 τ6 θ6))))))))))) : SW G k mX9_man (aw_qi q) 0 0 0 [some (.ref 1), some (.int x1), some (.int x2)] [] (n, σ, τ, θ) := by
  refine SW.aload_n dX9_man_0 rfl ?_
  refine SW.iload_n dX9_man_1 rfl ?_
  refine SW.cvi1 kV_X9_106 (by omega) aw_cl9 kp_1 (by decide) (hW.le (by decide)) rfl (Nat.le_of_ble_eq_true rfl) dX9_man_2 (SMi.mono vc ?_)
  intro a1 n1 σ1 τ1 θ1 vc
  obtain ⟨hW, vc⟩ := vc
  refine SW.if_eq 18 dX9_man_5 (by decide) (fun hbr => ?_) (fun hbr => ?_)
  · replace vc := vc.1 hbr
    refine SW.aload_n dX9_man_18 rfl ?_
    refine SW.iconst (v := (1 : Int32)) dX9_man_19 (by decide) ?_
    refine SW.cvi1 kV_X9_82 (by omega) aw_cl9 kp_1 (by decide) (hW.le (by decide)) rfl (Nat.le_of_ble_eq_true rfl) dX9_man_20 (SMi.mono vc ?_)
    intro a2 n2 σ2 τ2 θ2 vc
    obtain ⟨hW, vc⟩ := vc
    exact SW.iret dX9_man_23 rfl rfl ⟨_, rfl, vc⟩
  · replace vc := vc.2 hbr
    refine SW.iload_n dX9_man_8 rfl ?_
    refine SW.if_lt 18 dX9_man_9 (by decide) (fun hbr => ?_) (fun hbr => ?_)
    · replace vc := vc.1 hbr
      refine SW.aload_n dX9_man_18 rfl ?_
      refine SW.iconst (v := (1 : Int32)) dX9_man_19 (by decide) ?_
      refine SW.cvi1 kV_X9_82 (by omega) aw_cl9 kp_1 (by decide) (hW.le (by decide)) rfl (Nat.le_of_ble_eq_true rfl) dX9_man_20 (SMi.mono vc ?_)
      intro a3 n3 σ3 τ3 θ3 vc
      obtain ⟨hW, vc⟩ := vc
      exact SW.iret dX9_man_23 rfl rfl ⟨_, rfl, vc⟩
    · replace vc := vc.2 hbr
      refine SW.iload_n dX9_man_12 rfl ?_
      refine SW.bipush (v := (7 : Int32)) dX9_man_13 (by decide) ?_
      refine SW.icmp_le 24 dX9_man_15 (by decide) (fun hbr => ?_) (fun hbr => ?_)
      · replace vc := vc.1 hbr
        refine SW.aload_n dX9_man_24 rfl ?_
        refine SW.aload_n dX9_man_25 rfl ?_
        refine SW.iload_n dX9_man_26 rfl ?_
        refine SW.iload_n dX9_man_27 rfl ?_
        refine SW.cvi2 kV_X9_110 (by omega) aw_cl9 kp_1 (by decide) (hW.le (by decide)) rfl (Nat.le_of_ble_eq_true rfl) dX9_man_28 (SMi.mono vc ?_)
        intro a4 n4 σ4 τ4 θ4 vc
        obtain ⟨hW, vc⟩ := vc
        refine SW.cvi1 kV_X9_100 (by omega) aw_cl9 kp_1 (by decide) (hW.le (by decide)) rfl (Nat.le_of_ble_eq_true rfl) dX9_man_31 (SMi.mono vc ?_)
        intro a5 n5 σ5 τ5 θ5 vc
        obtain ⟨hW, vc⟩ := vc
        exact SW.iret dX9_man_34 rfl rfl ⟨_, rfl, vc⟩
      · replace vc := vc.2 hbr
        refine SW.aload_n dX9_man_18 rfl ?_
        refine SW.iconst (v := (1 : Int32)) dX9_man_19 (by decide) ?_
        refine SW.cvi1 kV_X9_82 (by omega) aw_cl9 kp_1 (by decide) (hW.le (by decide)) rfl (Nat.le_of_ble_eq_true rfl) dX9_man_20 (SMi.mono vc ?_)
        intro a6 n6 σ6 τ6 θ6 vc
        obtain ⟨hW, vc⟩ := vc
        exact SW.iret dX9_man_23 rfl rfl ⟨_, rfl, vc⟩
theorem ctX9_man {G : GG} {q : Int32 → Nat → SG → TU → TH → Prop} {n : Nat} {σ : SG} {τ : TU} {θ : TH} (x1 : Int32) (x2 : Int32) (h : SW G 6 mX9_man (aw_qi q) 0 0 0 [some (.ref 1), some (.int x1), some (.int x2)] [] (n, σ, τ, θ)) : SMi G 6 mX9_man 0 0 [.ref 1, .int x1, .int x2] n σ τ θ q := SM.of _ rfl rfl (Nat.le_of_ble_eq_true rfl) h
set_option maxHeartbeats 4000000 in
set_option maxRecDepth 20000 in
theorem sgX9_manToLookAt_0 {G : GG} {k : Nat} {q : Int32 → Nat → SG → TU → TH → Prop} {n : Nat} {σ : SG} {τ : TU} {θ : TH}   (hk : 5 ≤ k)  (hW : aw_WT n θ) (vc : ((¬ (σ 77 0) = 0) → (SMi G 4 mX4_leftAtMost 0 0 [.ref 77, .ref (θ 1 7), .ref 6, .int (0 : Int32)] n σ τ θ (fun a2 n2 σ2 τ2 θ2 => aw_WT n2 θ2 ∧ (SW G k mX9_manToLookAt (aw_qi q) 0 0 34 [some (.ref 1), some (.int (0 : Int32)), some (.int a2), some (.int (1 : Int32)), none] [] (n2, σ2, τ2, θ2))))) ∧ (((σ 77 0) = 0) → (q (-2 : Int32) n σ τ θ))) : SW G k mX9_manToLookAt (aw_qi q) 0 0 0 [some (.ref 1), none, none, none, none] [] (n, σ, τ, θ) := by
  refine SW.aload_n dX9_manToLookAt_0 rfl ?_
  refine SW.getS (f := 5) (r := 77) aw_cl9 kp_1 (by decide) (hW.le (by decide)) (by decide) ww_470 dX9_manToLookAt_1 rfl hW.t1_5 ?_
  refine SW.getI (f := 0) aw_cl4 kp_77 (by decide) (hW.le (by decide)) (by decide) ww_286 dX9_manToLookAt_4 rfl ?_
  refine SW.if_ne 13 dX9_manToLookAt_7 (by decide) (fun hbr => ?_) (fun hbr => ?_)
  · replace vc := vc.1 hbr
    refine SW.iconst (v := (0 : Int32)) dX9_manToLookAt_13 (by decide) ?_
    refine SW.istore_n dX9_manToLookAt_14 (by decide) rfl rfl ?_
    refine SW.aload_n dX9_manToLookAt_15 rfl ?_
    refine SW.getS (f := 5) (r := 77) aw_cl9 kp_1 (by decide) (hW.le (by decide)) (by decide) ww_470 dX9_manToLookAt_16 rfl hW.t1_5 ?_
    refine SW.aload_n dX9_manToLookAt_19 rfl ?_
    have hF1 := hW.f
    refine SW.getS (f := 7) (r := (θ 1 7)) aw_cl9 kp_1 (by decide) (hW.le (by decide)) (by decide) ww_472 dX9_manToLookAt_20 rfl rfl ?_
    refine SW.aload_n dX9_manToLookAt_23 rfl ?_
    refine SW.getS (f := 1) (r := 6) aw_cl9 kp_1 (by decide) (hW.le (by decide)) (by decide) ww_466 dX9_manToLookAt_24 rfl hW.t1_1 ?_
    refine SW.iconst (v := (0 : Int32)) dX9_manToLookAt_27 (by decide) ?_
    refine SW.cvi3 kV_X9_247 (by omega) aw_cl4 kp_77 (by decide) (hW.le (by decide)) rfl (Nat.le_of_ble_eq_true rfl) dX9_manToLookAt_28 (SMi.mono vc ?_)
    intro a2 n2 σ2 τ2 θ2 vc
    obtain ⟨hW, vc⟩ := vc
    refine SW.istore_n dX9_manToLookAt_31 (by decide) rfl rfl ?_
    refine SW.iconst (v := (1 : Int32)) dX9_manToLookAt_32 (by decide) ?_
    refine SW.istore_n dX9_manToLookAt_33 (by decide) rfl rfl ?_
    exact vc
  · replace vc := vc.2 hbr
    refine SW.bipush (v := (-2 : Int32)) dX9_manToLookAt_10 (by decide) ?_
    exact SW.iret dX9_manToLookAt_12 rfl rfl ⟨_, rfl, vc⟩
set_option maxHeartbeats 4000000 in
set_option maxRecDepth 20000 in
theorem sgX9_manToLookAt_34 {G : GG} {k : Nat} {q : Int32 → Nat → SG → TU → TH → Prop} {n : Nat} {σ : SG} {τ : TU} {θ : TH}  (x1 : Int32) (x2 : Int32) (x3 : Int32) (hk : 5 ≤ k)  (hW : aw_WT n θ) (vc : (((σ (θ 1 7) 13) ≤ x3) → (q x1 n σ τ θ)) ∧ ((¬ (σ (θ 1 7) 13) ≤ x3) → (SMi G 4 mX4_leftAtMost 0 0 [.ref 77, .ref (θ 1 7), .ref 6, .int x3] n σ τ θ (fun a3 n3 σ3 τ3 θ3 => aw_WT n3 θ3 ∧ (((x2 ≤ a3) → (SW G k mX9_manToLookAt (aw_qi q) 0 0 34 [some (.ref 1), some (.int x1), some (.int x2), some (.int (x3 + (1 : Int32))), none] [] (n3, σ3, τ3, θ3))) ∧ ((¬ x2 ≤ a3) → (SW G k mX9_manToLookAt (aw_qi q) 0 0 34 [some (.ref 1), some (.int x3), some (.int a3), some (.int (x3 + (1 : Int32))), none] [] (n3, σ3, τ3, θ3)))))))) : SW G k mX9_manToLookAt (aw_qi q) 0 0 34 [some (.ref 1), some (.int x1), some (.int x2), some (.int x3), none] [] (n, σ, τ, θ) := by
  refine SW.iload_n dX9_manToLookAt_34 rfl ?_
  refine SW.aload_n dX9_manToLookAt_35 rfl ?_
  have hF1 := hW.f
  refine SW.getS (f := 7) (r := (θ 1 7)) aw_cl9 kp_1 (by decide) (hW.le (by decide)) (by decide) ww_472 dX9_manToLookAt_36 rfl rfl ?_
  refine SW.getI (f := 13) aw_cl1 (kpF_0 hF1) (leF_0 hF1).1 (hW.le (leF_0 hF1).2) (by decide) ww_423 dX9_manToLookAt_39 rfl ?_
  refine SW.icmp_ge 80 dX9_manToLookAt_42 (by decide) (fun hbr => ?_) (fun hbr => ?_)
  · replace vc := vc.1 hbr
    refine SW.iload_n dX9_manToLookAt_80 rfl ?_
    exact SW.iret dX9_manToLookAt_81 rfl rfl ⟨_, rfl, vc⟩
  · replace vc := vc.2 hbr
    refine SW.aload_n dX9_manToLookAt_45 rfl ?_
    refine SW.getS (f := 5) (r := 77) aw_cl9 kp_1 (by decide) (hW.le (by decide)) (by decide) ww_470 dX9_manToLookAt_46 rfl hW.t1_5 ?_
    refine SW.aload_n dX9_manToLookAt_49 rfl ?_
    have hF2 := hW.f
    refine SW.getS (f := 7) (r := (θ 1 7)) aw_cl9 kp_1 (by decide) (hW.le (by decide)) (by decide) ww_472 dX9_manToLookAt_50 rfl rfl ?_
    refine SW.aload_n dX9_manToLookAt_53 rfl ?_
    refine SW.getS (f := 1) (r := 6) aw_cl9 kp_1 (by decide) (hW.le (by decide)) (by decide) ww_466 dX9_manToLookAt_54 rfl hW.t1_1 ?_
    refine SW.iload_n dX9_manToLookAt_57 rfl ?_
    refine SW.cvi3 kV_X9_247 (by omega) aw_cl4 kp_77 (by decide) (hW.le (by decide)) rfl (Nat.le_of_ble_eq_true rfl) dX9_manToLookAt_58 (SMi.mono vc ?_)
    intro a3 n3 σ3 τ3 θ3 vc
    obtain ⟨hW, vc⟩ := vc
    refine SW.istore dX9_manToLookAt_61 (by decide) rfl rfl ?_
    refine SW.iload dX9_manToLookAt_63 rfl ?_
    refine SW.iload_n dX9_manToLookAt_65 rfl ?_
    refine SW.icmp_ge 74 dX9_manToLookAt_66 (by decide) (fun hbr => ?_) (fun hbr => ?_)
    · replace vc := vc.1 hbr
      refine SW.iinc (v := (x3 + (1 : Int32))) dX9_manToLookAt_74 rfl rfl (by decide) rfl rfl ?_
      refine SW.goto 34 dX9_manToLookAt_77 (by decide) ?_
      refine SW.msk [true, true, true, true, false] rfl ?_
      exact vc
    · replace vc := vc.2 hbr
      refine SW.iload_n dX9_manToLookAt_69 rfl ?_
      refine SW.istore_n dX9_manToLookAt_70 (by decide) rfl rfl ?_
      refine SW.iload dX9_manToLookAt_71 rfl ?_
      refine SW.istore_n dX9_manToLookAt_73 (by decide) rfl rfl ?_
      refine SW.iinc (v := (x3 + (1 : Int32))) dX9_manToLookAt_74 rfl rfl (by decide) rfl rfl ?_
      refine SW.goto 34 dX9_manToLookAt_77 (by decide) ?_
      refine SW.msk [true, true, true, true, false] rfl ?_
      exact vc
theorem ctX9_manToLookAt {G : GG} {q : Int32 → Nat → SG → TU → TH → Prop} {n : Nat} {σ : SG} {τ : TU} {θ : TH}  (h : SW G 5 mX9_manToLookAt (aw_qi q) 0 0 0 [some (.ref 1), none, none, none, none] [] (n, σ, τ, θ)) : SMi G 5 mX9_manToLookAt 0 0 [.ref 1] n σ τ θ q := SM.of _ rfl rfl (Nat.le_of_ble_eq_true rfl) h
set_option maxHeartbeats 4000000 in
set_option maxRecDepth 20000 in
theorem sgX9_moths_0 {G : GG} {k : Nat} {q : Int32 → Nat → SG → TU → TH → Prop} {n : Nat} {σ : SG} {τ : TU} {θ : TH}  (x1 : Int32) (x2 : Int32) (x3 : Int32) (hk : 5 ≤ k)  (hW : aw_WT n θ) (vc : SMi G 1 mX9_isMan 0 0 [.ref 1, .int x1] n σ τ θ (fun a1 n1 σ1 τ1 θ1 => aw_WT n1 θ1 ∧ (((¬ a1 = 0) → (SMi G 1 mX9_isFlight 0 0 [.ref 1, .int x2, .int x3] n1 σ1 τ1 θ1 (fun a2 n2 σ2 τ2 θ2 => aw_WT n2 θ2 ∧ (((¬ a2 = 0) → (SMv G 4 mX3_fly 0 0 [.ref 80, .ref (θ2 1 7), .ref 6, .int x2, .int x3] n2 σ2 τ2 θ2 (fun n4 σ4 τ4 θ4 => aw_WT n4 θ4 ∧ (SMi G 3 mX1_headOf 0 0 [.ref (θ4 1 7), .ref 81, .int x1, .int (σ4 81 2)] n4 σ4 τ4 θ4 (fun a6 n6 σ6 τ6 θ6 => aw_WT n6 θ6 ∧ (SMi G 1 mX9_grant 0 0 [.ref 1, .int a6] n6 σ6 τ6 θ6 (fun a7 n7 σ7 τ7 θ7 => aw_WT n7 θ7 ∧ (q a7 n7 σ7 τ7 θ7)))))))) ∧ ((a2 = 0) → (SMi G 1 mX9_refuse 0 0 [.ref 1, .int (2 : Int32)] n2 σ2 τ2 θ2 (fun a8 n8 σ8 τ8 θ8 => aw_WT n8 θ8 ∧ (q a8 n8 σ8 τ8 θ8)))))))) ∧ ((a1 = 0) → (SMi G 1 mX9_refuse 0 0 [.ref 1, .int (1 : Int32)] n1 σ1 τ1 θ1 (fun a9 n9 σ9 τ9 θ9 => aw_WT n9 θ9 ∧ (q a9 n9 σ9 τ9 θ9))))))) : SW G k mX9_moths (aw_qi q) 0 0 0 [some (.ref 1), some (.int x1), some (.int x2), some (.int x3)] [] (n, σ, τ, θ) := by
  refine SW.aload_n dX9_moths_0 rfl ?_
  refine SW.iload_n dX9_moths_1 rfl ?_
  refine SW.cvi1 kV_X9_106 (by omega) aw_cl9 kp_1 (by decide) (hW.le (by decide)) rfl (Nat.le_of_ble_eq_true rfl) dX9_moths_2 (SMi.mono vc ?_)
  intro a1 n1 σ1 τ1 θ1 vc
  obtain ⟨hW, vc⟩ := vc
  refine SW.if_ne 14 dX9_moths_5 (by decide) (fun hbr => ?_) (fun hbr => ?_)
  · replace vc := vc.1 hbr
    refine SW.aload_n dX9_moths_14 rfl ?_
    refine SW.iload_n dX9_moths_15 rfl ?_
    refine SW.iload_n dX9_moths_16 rfl ?_
    refine SW.cvi2 kV_X9_280 (by omega) aw_cl9 kp_1 (by decide) (hW.le (by decide)) rfl (Nat.le_of_ble_eq_true rfl) dX9_moths_17 (SMi.mono vc ?_)
    intro a2 n2 σ2 τ2 θ2 vc
    obtain ⟨hW, vc⟩ := vc
    refine SW.if_ne 29 dX9_moths_20 (by decide) (fun hbr => ?_) (fun hbr => ?_)
    · replace vc := vc.1 hbr
      refine SW.aload_n dX9_moths_29 rfl ?_
      refine SW.getS (f := 6) (r := 80) aw_cl9 kp_1 (by decide) (hW.le (by decide)) (by decide) ww_471 dX9_moths_30 rfl hW.t1_6 ?_
      refine SW.aload_n dX9_moths_33 rfl ?_
      have hF3 := hW.f
      refine SW.getS (f := 7) (r := (θ2 1 7)) aw_cl9 kp_1 (by decide) (hW.le (by decide)) (by decide) ww_472 dX9_moths_34 rfl rfl ?_
      refine SW.aload_n dX9_moths_37 rfl ?_
      refine SW.getS (f := 1) (r := 6) aw_cl9 kp_1 (by decide) (hW.le (by decide)) (by decide) ww_466 dX9_moths_38 rfl hW.t1_1 ?_
      refine SW.iload_n dX9_moths_41 rfl ?_
      refine SW.iload_n dX9_moths_42 rfl ?_
      refine SW.cvv4 kV_X9_284 (by omega) aw_cl3 kp_80 (by decide) (hW.le (by decide)) rfl (Nat.le_of_ble_eq_true rfl) dX9_moths_43 (SMv.mono vc ?_)
      intro n4 σ4 τ4 θ4 vc
      obtain ⟨hW, vc⟩ := vc
      refine SW.aload_n dX9_moths_46 rfl ?_
      refine SW.aload_n dX9_moths_47 rfl ?_
      have hF5 := hW.f
      refine SW.getS (f := 7) (r := (θ4 1 7)) aw_cl9 kp_1 (by decide) (hW.le (by decide)) (by decide) ww_472 dX9_moths_48 rfl rfl ?_
      refine SW.aload_n dX9_moths_51 rfl ?_
      refine SW.getS (f := 6) (r := 80) aw_cl9 kp_1 (by decide) (hW.le (by decide)) (by decide) ww_471 dX9_moths_52 rfl hW.t1_6 ?_
      refine SW.getS (f := 0) (r := 81) aw_cl3 kp_80 (by decide) (hW.le (by decide)) (by decide) ww_312 dX9_moths_55 rfl hW.t80_0 ?_
      refine SW.iload_n dX9_moths_58 rfl ?_
      refine SW.aload_n dX9_moths_59 rfl ?_
      refine SW.getS (f := 6) (r := 80) aw_cl9 kp_1 (by decide) (hW.le (by decide)) (by decide) ww_471 dX9_moths_60 rfl hW.t1_6 ?_
      refine SW.getS (f := 0) (r := 81) aw_cl3 kp_80 (by decide) (hW.le (by decide)) (by decide) ww_312 dX9_moths_63 rfl hW.t80_0 ?_
      refine SW.getI (f := 2) aw_cl2 kp_81 (by decide) (hW.le (by decide)) (by decide) ww_204 dX9_moths_66 rfl ?_
      refine SW.cvi3 kV_X9_147 (by omega) aw_cl1 (kpF_0 hF5) (leF_0 hF5).1 (hW.le (leF_0 hF5).2) rfl (Nat.le_of_ble_eq_true rfl) dX9_moths_69 (SMi.mono vc ?_)
      intro a6 n6 σ6 τ6 θ6 vc
      obtain ⟨hW, vc⟩ := vc
      refine SW.cvi1 kV_X9_100 (by omega) aw_cl9 kp_1 (by decide) (hW.le (by decide)) rfl (Nat.le_of_ble_eq_true rfl) dX9_moths_72 (SMi.mono vc ?_)
      intro a7 n7 σ7 τ7 θ7 vc
      obtain ⟨hW, vc⟩ := vc
      exact SW.iret dX9_moths_75 rfl rfl ⟨_, rfl, vc⟩
    · replace vc := vc.2 hbr
      refine SW.aload_n dX9_moths_23 rfl ?_
      refine SW.iconst (v := (2 : Int32)) dX9_moths_24 (by decide) ?_
      refine SW.cvi1 kV_X9_82 (by omega) aw_cl9 kp_1 (by decide) (hW.le (by decide)) rfl (Nat.le_of_ble_eq_true rfl) dX9_moths_25 (SMi.mono vc ?_)
      intro a8 n8 σ8 τ8 θ8 vc
      obtain ⟨hW, vc⟩ := vc
      exact SW.iret dX9_moths_28 rfl rfl ⟨_, rfl, vc⟩
  · replace vc := vc.2 hbr
    refine SW.aload_n dX9_moths_8 rfl ?_
    refine SW.iconst (v := (1 : Int32)) dX9_moths_9 (by decide) ?_
    refine SW.cvi1 kV_X9_82 (by omega) aw_cl9 kp_1 (by decide) (hW.le (by decide)) rfl (Nat.le_of_ble_eq_true rfl) dX9_moths_10 (SMi.mono vc ?_)
    intro a9 n9 σ9 τ9 θ9 vc
    obtain ⟨hW, vc⟩ := vc
    exact SW.iret dX9_moths_13 rfl rfl ⟨_, rfl, vc⟩
theorem ctX9_moths {G : GG} {q : Int32 → Nat → SG → TU → TH → Prop} {n : Nat} {σ : SG} {τ : TU} {θ : TH} (x1 : Int32) (x2 : Int32) (x3 : Int32) (h : SW G 5 mX9_moths (aw_qi q) 0 0 0 [some (.ref 1), some (.int x1), some (.int x2), some (.int x3)] [] (n, σ, τ, θ)) : SMi G 5 mX9_moths 0 0 [.ref 1, .int x1, .int x2, .int x3] n σ τ θ q := SM.of _ rfl rfl (Nat.le_of_ble_eq_true rfl) h
set_option maxHeartbeats 4000000 in
set_option maxRecDepth 20000 in
theorem sgX9_noDuchy_0 {G : GG} {k : Nat} {q : Int32 → Nat → SG → TU → TH → Prop} {n : Nat} {σ : SG} {τ : TU} {θ : TH}   (hk : 1 ≤ k)  (hW : aw_WT n θ) (vc : ((¬ (σ (θ 1 7) 13) = 0) → (q (0 : Int32) n σ τ θ)) ∧ (((σ (θ 1 7) 13) = 0) → (q (1 : Int32) n σ τ θ))) : SW G k mX9_noDuchy (aw_qi q) 0 0 0 [some (.ref 1)] [] (n, σ, τ, θ) := by
  refine SW.aload_n dX9_noDuchy_0 rfl ?_
  have hF1 := hW.f
  refine SW.getS (f := 7) (r := (θ 1 7)) aw_cl9 kp_1 (by decide) (hW.le (by decide)) (by decide) ww_472 dX9_noDuchy_1 rfl rfl ?_
  refine SW.getI (f := 13) aw_cl1 (kpF_0 hF1) (leF_0 hF1).1 (hW.le (leF_0 hF1).2) (by decide) ww_423 dX9_noDuchy_4 rfl ?_
  refine SW.if_ne 14 dX9_noDuchy_7 (by decide) (fun hbr => ?_) (fun hbr => ?_)
  · replace vc := vc.1 hbr
    refine SW.iconst (v := (0 : Int32)) dX9_noDuchy_14 (by decide) ?_
    exact SW.iret dX9_noDuchy_15 rfl rfl ⟨_, rfl, vc⟩
  · replace vc := vc.2 hbr
    refine SW.iconst (v := (1 : Int32)) dX9_noDuchy_10 (by decide) ?_
    refine SW.goto 15 dX9_noDuchy_11 (by decide) ?_
    exact SW.iret dX9_noDuchy_15 rfl rfl ⟨_, rfl, vc⟩
theorem ctX9_noDuchy {G : GG} {q : Int32 → Nat → SG → TU → TH → Prop} {n : Nat} {σ : SG} {τ : TU} {θ : TH}  (h : SW G 1 mX9_noDuchy (aw_qi q) 0 0 0 [some (.ref 1)] [] (n, σ, τ, θ)) : SMi G 1 mX9_noDuchy 0 0 [.ref 1] n σ τ θ q := SM.of _ rfl rfl (Nat.le_of_ble_eq_true rfl) h
set_option maxHeartbeats 4000000 in
set_option maxRecDepth 20000 in
theorem sgX9_passers_0 {G : GG} {k : Nat} {q : Int32 → Nat → SG → TU → TH → Prop} {n : Nat} {σ : SG} {τ : TU} {θ : TH}   (hk : 5 ≤ k)  (hW : aw_WT n θ) (vc : SMi G 1 mX9_noDuchy 0 0 [.ref 1] n σ τ θ (fun a1 n1 σ1 τ1 θ1 => aw_WT n1 θ1 ∧ (((a1 = 0) → (SW G k mX9_passers (aw_qi q) 0 0 17 [some (.ref 1), some (.int (0 : Int32)), some (.int (0 : Int32)), none] [] (n1, σ1, τ1, θ1))) ∧ ((¬ a1 = 0) → (SMi G 1 mX9_refuse 0 0 [.ref 1, .int (1 : Int32)] n1 σ1 τ1 θ1 (fun a2 n2 σ2 τ2 θ2 => aw_WT n2 θ2 ∧ (q a2 n2 σ2 τ2 θ2))))))) : SW G k mX9_passers (aw_qi q) 0 0 0 [some (.ref 1), none, none, none] [] (n, σ, τ, θ) := by
  refine SW.aload_n dX9_passers_0 rfl ?_
  refine SW.cvi0 kV_X9_134 (by omega) aw_cl9 kp_1 (by decide) (hW.le (by decide)) rfl (Nat.le_of_ble_eq_true rfl) dX9_passers_1 (SMi.mono vc ?_)
  intro a1 n1 σ1 τ1 θ1 vc
  obtain ⟨hW, vc⟩ := vc
  refine SW.if_eq 13 dX9_passers_4 (by decide) (fun hbr => ?_) (fun hbr => ?_)
  · replace vc := vc.1 hbr
    refine SW.iconst (v := (0 : Int32)) dX9_passers_13 (by decide) ?_
    refine SW.istore_n dX9_passers_14 (by decide) rfl rfl ?_
    refine SW.iconst (v := (0 : Int32)) dX9_passers_15 (by decide) ?_
    refine SW.istore_n dX9_passers_16 (by decide) rfl rfl ?_
    exact vc
  · replace vc := vc.2 hbr
    refine SW.aload_n dX9_passers_7 rfl ?_
    refine SW.iconst (v := (1 : Int32)) dX9_passers_8 (by decide) ?_
    refine SW.cvi1 kV_X9_82 (by omega) aw_cl9 kp_1 (by decide) (hW.le (by decide)) rfl (Nat.le_of_ble_eq_true rfl) dX9_passers_9 (SMi.mono vc ?_)
    intro a2 n2 σ2 τ2 θ2 vc
    obtain ⟨hW, vc⟩ := vc
    exact SW.iret dX9_passers_12 rfl rfl ⟨_, rfl, vc⟩
set_option maxHeartbeats 4000000 in
set_option maxRecDepth 20000 in
theorem sgX9_passers_17 {G : GG} {k : Nat} {q : Int32 → Nat → SG → TU → TH → Prop} {n : Nat} {σ : SG} {τ : TU} {θ : TH}  (x1 : Int32) (x2 : Int32) (hk : 5 ≤ k)  (hW : aw_WT n θ) (vc : (((σ (θ 1 7) 13) ≤ x2) → (SMi G 1 mX9_grant 0 0 [.ref 1, .int x1] n σ τ θ (fun a2 n2 σ2 τ2 θ2 => aw_WT n2 θ2 ∧ (q a2 n2 σ2 τ2 θ2)))) ∧ ((¬ (σ (θ 1 7) 13) ≤ x2) → (vp_in x2 5 ∧ (SMi G 1 mX9_isDoor 0 0 [.ref 1, .int (σ ((θ 1 7) + 4) x2.toNatClampNeg)] n σ τ θ (fun a4 n4 σ4 τ4 θ4 => aw_WT n4 θ4 ∧ (((a4 = 0) → (SW G k mX9_passers (aw_qi q) 0 0 17 [some (.ref 1), some (.int x1), some (.int (x2 + (1 : Int32))), none] [] (n4, σ4, τ4, θ4))) ∧ ((¬ a4 = 0) → (SMi G 4 mX1_passes 0 0 [.ref (θ4 1 7), .ref 6, .int x2, .int (σ ((θ 1 7) + 4) x2.toNatClampNeg)] n4 σ4 τ4 θ4 (fun a6 n6 σ6 τ6 θ6 => aw_WT n6 θ6 ∧ (((a6 = 0) → (SW G k mX9_passers (aw_qi q) 0 0 17 [some (.ref 1), some (.int x1), some (.int (x2 + (1 : Int32))), none] [] (n6, σ6, τ6, θ6))) ∧ ((¬ a6 = 0) → (SW G k mX9_passers (aw_qi q) 0 0 17 [some (.ref 1), some (.int (x1 ||| ((1 : Int32) <<< (x2 &&& 31)))), some (.int (x2 + (1 : Int32))), none] [] (n6, σ6, τ6, θ6))))))))))))) : SW G k mX9_passers (aw_qi q) 0 0 17 [some (.ref 1), some (.int x1), some (.int x2), none] [] (n, σ, τ, θ) := by
  refine SW.iload_n dX9_passers_17 rfl ?_
  refine SW.aload_n dX9_passers_18 rfl ?_
  have hF1 := hW.f
  refine SW.getS (f := 7) (r := (θ 1 7)) aw_cl9 kp_1 (by decide) (hW.le (by decide)) (by decide) ww_472 dX9_passers_19 rfl rfl ?_
  refine SW.getI (f := 13) aw_cl1 (kpF_0 hF1) (leF_0 hF1).1 (hW.le (leF_0 hF1).2) (by decide) ww_423 dX9_passers_22 rfl ?_
  refine SW.icmp_ge 74 dX9_passers_25 (by decide) (fun hbr => ?_) (fun hbr => ?_)
  · replace vc := vc.1 hbr
    refine SW.aload_n dX9_passers_74 rfl ?_
    refine SW.iload_n dX9_passers_75 rfl ?_
    refine SW.cvi1 kV_X9_100 (by omega) aw_cl9 kp_1 (by decide) (hW.le (by decide)) rfl (Nat.le_of_ble_eq_true rfl) dX9_passers_76 (SMi.mono vc ?_)
    intro a2 n2 σ2 τ2 θ2 vc
    obtain ⟨hW, vc⟩ := vc
    exact SW.iret dX9_passers_79 rfl rfl ⟨_, rfl, vc⟩
  · replace vc := vc.2 hbr
    refine SW.aload_n dX9_passers_28 rfl ?_
    have hF3 := hW.f
    refine SW.getS (f := 7) (r := (θ 1 7)) aw_cl9 kp_1 (by decide) (hW.le (by decide)) (by decide) ww_472 dX9_passers_29 rfl rfl ?_
    refine SW.getS (f := 3) (r := (θ 1 7) + 4) aw_cl1 (kpF_0 hF3) (leF_0 hF3).1 (hW.le (leF_0 hF3).2) (by decide) ww_383 dX9_passers_32 rfl (hW.f3 hF3) ?_
    refine SW.iload_n dX9_passers_35 rfl ?_
    refine SW.iald (kpF_4 hF3) (leF_4 hF3).1 (hW.le (leF_4 hF3).2) vc.1 dX9_passers_36 ?_
    replace vc := vc.2
    refine SW.istore_n dX9_passers_37 (by decide) rfl rfl ?_
    refine SW.aload_n dX9_passers_38 rfl ?_
    refine SW.iload_n dX9_passers_39 rfl ?_
    refine SW.cvi1 kV_X9_120 (by omega) aw_cl9 kp_1 (by decide) (hW.le (by decide)) rfl (Nat.le_of_ble_eq_true rfl) dX9_passers_40 (SMi.mono vc ?_)
    intro a4 n4 σ4 τ4 θ4 vc
    obtain ⟨hW, vc⟩ := vc
    refine SW.if_eq 68 dX9_passers_43 (by decide) (fun hbr => ?_) (fun hbr => ?_)
    · replace vc := vc.1 hbr
      refine SW.iinc (v := (x2 + (1 : Int32))) dX9_passers_68 rfl rfl (by decide) rfl rfl ?_
      refine SW.goto 17 dX9_passers_71 (by decide) ?_
      refine SW.msk [true, true, true, false] rfl ?_
      exact vc
    · replace vc := vc.2 hbr
      refine SW.aload_n dX9_passers_46 rfl ?_
      have hF5 := hW.f
      refine SW.getS (f := 7) (r := (θ4 1 7)) aw_cl9 kp_1 (by decide) (hW.le (by decide)) (by decide) ww_472 dX9_passers_47 rfl rfl ?_
      refine SW.aload_n dX9_passers_50 rfl ?_
      refine SW.getS (f := 1) (r := 6) aw_cl9 kp_1 (by decide) (hW.le (by decide)) (by decide) ww_466 dX9_passers_51 rfl hW.t1_1 ?_
      refine SW.iload_n dX9_passers_54 rfl ?_
      refine SW.iload_n dX9_passers_55 rfl ?_
      refine SW.cvi3 kV_X9_160 (by omega) aw_cl1 (kpF_0 hF5) (leF_0 hF5).1 (hW.le (leF_0 hF5).2) rfl (Nat.le_of_ble_eq_true rfl) dX9_passers_56 (SMi.mono vc ?_)
      intro a6 n6 σ6 τ6 θ6 vc
      obtain ⟨hW, vc⟩ := vc
      refine SW.if_eq 68 dX9_passers_59 (by decide) (fun hbr => ?_) (fun hbr => ?_)
      · replace vc := vc.1 hbr
        refine SW.iinc (v := (x2 + (1 : Int32))) dX9_passers_68 rfl rfl (by decide) rfl rfl ?_
        refine SW.goto 17 dX9_passers_71 (by decide) ?_
        refine SW.msk [true, true, true, false] rfl ?_
        exact vc
      · replace vc := vc.2 hbr
        refine SW.iload_n dX9_passers_62 rfl ?_
        refine SW.iconst (v := (1 : Int32)) dX9_passers_63 (by decide) ?_
        refine SW.iload_n dX9_passers_64 rfl ?_
        refine SW.ishl dX9_passers_65 ?_
        refine SW.ior dX9_passers_66 ?_
        refine SW.istore_n dX9_passers_67 (by decide) rfl rfl ?_
        refine SW.iinc (v := (x2 + (1 : Int32))) dX9_passers_68 rfl rfl (by decide) rfl rfl ?_
        refine SW.goto 17 dX9_passers_71 (by decide) ?_
        refine SW.msk [true, true, true, false] rfl ?_
        exact vc
theorem ctX9_passers {G : GG} {q : Int32 → Nat → SG → TU → TH → Prop} {n : Nat} {σ : SG} {τ : TU} {θ : TH}  (h : SW G 5 mX9_passers (aw_qi q) 0 0 0 [some (.ref 1), none, none, none] [] (n, σ, τ, θ)) : SMi G 5 mX9_passers 0 0 [.ref 1] n σ τ θ q := SM.of _ rfl rfl (Nat.le_of_ble_eq_true rfl) h
set_option maxHeartbeats 4000000 in
set_option maxRecDepth 20000 in
theorem sgX9_pay_0 {G : GG} {k : Nat} {q : Int32 → Nat → SG → TU → TH → Prop} {n : Nat} {σ : SG} {τ : TU} {θ : TH}  (x1 : Int32) (x2 : Int32) (hk : 3 ≤ k)  (hW : aw_WT n θ) (vc : SMi G 1 mX9_isDebt 0 0 [.ref 1, .int x1] n σ τ θ (fun a1 n1 σ1 τ1 θ1 => aw_WT n1 θ1 ∧ (((¬ a1 = 0) → (((x2 < (1 : Int32)) → (SMi G 1 mX9_refuse 0 0 [.ref 1, .int (2 : Int32)] n1 σ1 τ1 θ1 (fun a2 n2 σ2 τ2 θ2 => aw_WT n2 θ2 ∧ (q a2 n2 σ2 τ2 θ2)))) ∧ ((¬ x2 < (1 : Int32)) → (((x2 ≤ (99 : Int32)) → (SMi G 1 mX1_isDue 0 0 [.ref (θ1 1 7), .ref 6, .int x1, .int (σ1 6 2)] n1 σ1 τ1 θ1 (fun a4 n4 σ4 τ4 θ4 => aw_WT n4 θ4 ∧ (((a4 = 0) → (SMi G 1 mX9_refuse 0 0 [.ref 1, .int (5 : Int32)] n4 σ4 τ4 θ4 (fun a5 n5 σ5 τ5 θ5 => aw_WT n5 θ5 ∧ (q a5 n5 σ5 τ5 θ5)))) ∧ ((¬ a4 = 0) → (vp_in x1 7 ∧ (((x2 ≤ (σ4 8 x1.toNatClampNeg)) → (vp_in x1 7 ∧ (vp_in (σ4 ((θ4 1 7) + 9) x1.toNatClampNeg) 5 ∧ (((x2 ≤ (σ4 7 (σ4 ((θ4 1 7) + 9) x1.toNatClampNeg).toNatClampNeg)) → (SMv G 2 mX5_keep 0 0 [.ref 9, .ref 6] n4 σ4 τ4 θ4 (fun n7 σ7 τ7 θ7 => aw_WT n7 θ7 ∧ (vp_in (σ4 ((θ4 1 7) + 9) x1.toNatClampNeg) 5 ∧ (vp_in (σ4 ((θ4 1 7) + 9) x1.toNatClampNeg) 5 ∧ (vp_in x1 7 ∧ (vp_in ((aw_u σ7 7 (σ4 ((θ4 1 7) + 9) x1.toNatClampNeg).toNatClampNeg ((σ7 7 (σ4 ((θ4 1 7) + 9) x1.toNatClampNeg).toNatClampNeg) - x2)) ((θ7 1 7) + 10) x1.toNatClampNeg) 5 ∧ (vp_in ((aw_u σ7 7 (σ4 ((θ4 1 7) + 9) x1.toNatClampNeg).toNatClampNeg ((σ7 7 (σ4 ((θ4 1 7) + 9) x1.toNatClampNeg).toNatClampNeg) - x2)) ((θ7 1 7) + 10) x1.toNatClampNeg) 5 ∧ (vp_in x1 7 ∧ (vp_in x1 7 ∧ (vp_in x1 7 ∧ (SMi G 1 mX9_grant 0 0 [.ref 1, .int ((aw_u (aw_u (aw_u σ7 7 (σ4 ((θ4 1 7) + 9) x1.toNatClampNeg).toNatClampNeg ((σ7 7 (σ4 ((θ4 1 7) + 9) x1.toNatClampNeg).toNatClampNeg) - x2)) 7 ((aw_u σ7 7 (σ4 ((θ4 1 7) + 9) x1.toNatClampNeg).toNatClampNeg ((σ7 7 (σ4 ((θ4 1 7) + 9) x1.toNatClampNeg).toNatClampNeg) - x2)) ((θ7 1 7) + 10) x1.toNatClampNeg).toNatClampNeg (((aw_u σ7 7 (σ4 ((θ4 1 7) + 9) x1.toNatClampNeg).toNatClampNeg ((σ7 7 (σ4 ((θ4 1 7) + 9) x1.toNatClampNeg).toNatClampNeg) - x2)) 7 ((aw_u σ7 7 (σ4 ((θ4 1 7) + 9) x1.toNatClampNeg).toNatClampNeg ((σ7 7 (σ4 ((θ4 1 7) + 9) x1.toNatClampNeg).toNatClampNeg) - x2)) ((θ7 1 7) + 10) x1.toNatClampNeg).toNatClampNeg) + x2)) 8 x1.toNatClampNeg (((aw_u (aw_u σ7 7 (σ4 ((θ4 1 7) + 9) x1.toNatClampNeg).toNatClampNeg ((σ7 7 (σ4 ((θ4 1 7) + 9) x1.toNatClampNeg).toNatClampNeg) - x2)) 7 ((aw_u σ7 7 (σ4 ((θ4 1 7) + 9) x1.toNatClampNeg).toNatClampNeg ((σ7 7 (σ4 ((θ4 1 7) + 9) x1.toNatClampNeg).toNatClampNeg) - x2)) ((θ7 1 7) + 10) x1.toNatClampNeg).toNatClampNeg (((aw_u σ7 7 (σ4 ((θ4 1 7) + 9) x1.toNatClampNeg).toNatClampNeg ((σ7 7 (σ4 ((θ4 1 7) + 9) x1.toNatClampNeg).toNatClampNeg) - x2)) 7 ((aw_u σ7 7 (σ4 ((θ4 1 7) + 9) x1.toNatClampNeg).toNatClampNeg ((σ7 7 (σ4 ((θ4 1 7) + 9) x1.toNatClampNeg).toNatClampNeg) - x2)) ((θ7 1 7) + 10) x1.toNatClampNeg).toNatClampNeg) + x2)) 8 x1.toNatClampNeg) - x2)) 8 x1.toNatClampNeg)] n7 (aw_u (aw_u (aw_u σ7 7 (σ4 ((θ4 1 7) + 9) x1.toNatClampNeg).toNatClampNeg ((σ7 7 (σ4 ((θ4 1 7) + 9) x1.toNatClampNeg).toNatClampNeg) - x2)) 7 ((aw_u σ7 7 (σ4 ((θ4 1 7) + 9) x1.toNatClampNeg).toNatClampNeg ((σ7 7 (σ4 ((θ4 1 7) + 9) x1.toNatClampNeg).toNatClampNeg) - x2)) ((θ7 1 7) + 10) x1.toNatClampNeg).toNatClampNeg (((aw_u σ7 7 (σ4 ((θ4 1 7) + 9) x1.toNatClampNeg).toNatClampNeg ((σ7 7 (σ4 ((θ4 1 7) + 9) x1.toNatClampNeg).toNatClampNeg) - x2)) 7 ((aw_u σ7 7 (σ4 ((θ4 1 7) + 9) x1.toNatClampNeg).toNatClampNeg ((σ7 7 (σ4 ((θ4 1 7) + 9) x1.toNatClampNeg).toNatClampNeg) - x2)) ((θ7 1 7) + 10) x1.toNatClampNeg).toNatClampNeg) + x2)) 8 x1.toNatClampNeg (((aw_u (aw_u σ7 7 (σ4 ((θ4 1 7) + 9) x1.toNatClampNeg).toNatClampNeg ((σ7 7 (σ4 ((θ4 1 7) + 9) x1.toNatClampNeg).toNatClampNeg) - x2)) 7 ((aw_u σ7 7 (σ4 ((θ4 1 7) + 9) x1.toNatClampNeg).toNatClampNeg ((σ7 7 (σ4 ((θ4 1 7) + 9) x1.toNatClampNeg).toNatClampNeg) - x2)) ((θ7 1 7) + 10) x1.toNatClampNeg).toNatClampNeg (((aw_u σ7 7 (σ4 ((θ4 1 7) + 9) x1.toNatClampNeg).toNatClampNeg ((σ7 7 (σ4 ((θ4 1 7) + 9) x1.toNatClampNeg).toNatClampNeg) - x2)) 7 ((aw_u σ7 7 (σ4 ((θ4 1 7) + 9) x1.toNatClampNeg).toNatClampNeg ((σ7 7 (σ4 ((θ4 1 7) + 9) x1.toNatClampNeg).toNatClampNeg) - x2)) ((θ7 1 7) + 10) x1.toNatClampNeg).toNatClampNeg) + x2)) 8 x1.toNatClampNeg) - x2)) τ7 θ7 (fun a9 n9 σ9 τ9 θ9 => aw_WT n9 θ9 ∧ (q a9 n9 σ9 τ9 θ9)))))))))))))) ∧ ((¬ x2 ≤ (σ4 7 (σ4 ((θ4 1 7) + 9) x1.toNatClampNeg).toNatClampNeg)) → (SMi G 1 mX9_refuse 0 0 [.ref 1, .int (6 : Int32)] n4 σ4 τ4 θ4 (fun a10 n10 σ10 τ10 θ10 => aw_WT n10 θ10 ∧ (q a10 n10 σ10 τ10 θ10)))))))) ∧ ((¬ x2 ≤ (σ4 8 x1.toNatClampNeg)) → (SMi G 1 mX9_refuse 0 0 [.ref 1, .int (5 : Int32)] n4 σ4 τ4 θ4 (fun a11 n11 σ11 τ11 θ11 => aw_WT n11 θ11 ∧ (q a11 n11 σ11 τ11 θ11))))))))))) ∧ ((¬ x2 ≤ (99 : Int32)) → (SMi G 1 mX9_refuse 0 0 [.ref 1, .int (2 : Int32)] n1 σ1 τ1 θ1 (fun a12 n12 σ12 τ12 θ12 => aw_WT n12 θ12 ∧ (q a12 n12 σ12 τ12 θ12)))))))) ∧ ((a1 = 0) → (SMi G 1 mX9_refuse 0 0 [.ref 1, .int (1 : Int32)] n1 σ1 τ1 θ1 (fun a13 n13 σ13 τ13 θ13 => aw_WT n13 θ13 ∧ (q a13 n13 σ13 τ13 θ13))))))) : SW G k mX9_pay (aw_qi q) 0 0 0 [some (.ref 1), some (.int x1), some (.int x2), none] [] (n, σ, τ, θ) := by
  refine SW.aload_n dX9_pay_0 rfl ?_
  refine SW.iload_n dX9_pay_1 rfl ?_
  refine SW.cvi1 kV_X9_114 (by omega) aw_cl9 kp_1 (by decide) (hW.le (by decide)) rfl (Nat.le_of_ble_eq_true rfl) dX9_pay_2 (SMi.mono vc ?_)
  intro a1 n1 σ1 τ1 θ1 vc
  obtain ⟨hW, vc⟩ := vc
  refine SW.if_ne 14 dX9_pay_5 (by decide) (fun hbr => ?_) (fun hbr => ?_)
  · replace vc := vc.1 hbr
    refine SW.iload_n dX9_pay_14 rfl ?_
    refine SW.iconst (v := (1 : Int32)) dX9_pay_15 (by decide) ?_
    refine SW.icmp_lt 25 dX9_pay_16 (by decide) (fun hbr => ?_) (fun hbr => ?_)
    · replace vc := vc.1 hbr
      refine SW.aload_n dX9_pay_25 rfl ?_
      refine SW.iconst (v := (2 : Int32)) dX9_pay_26 (by decide) ?_
      refine SW.cvi1 kV_X9_82 (by omega) aw_cl9 kp_1 (by decide) (hW.le (by decide)) rfl (Nat.le_of_ble_eq_true rfl) dX9_pay_27 (SMi.mono vc ?_)
      intro a2 n2 σ2 τ2 θ2 vc
      obtain ⟨hW, vc⟩ := vc
      exact SW.iret dX9_pay_30 rfl rfl ⟨_, rfl, vc⟩
    · replace vc := vc.2 hbr
      refine SW.iload_n dX9_pay_19 rfl ?_
      refine SW.bipush (v := (99 : Int32)) dX9_pay_20 (by decide) ?_
      refine SW.icmp_le 31 dX9_pay_22 (by decide) (fun hbr => ?_) (fun hbr => ?_)
      · replace vc := vc.1 hbr
        refine SW.aload_n dX9_pay_31 rfl ?_
        have hF3 := hW.f
        refine SW.getS (f := 7) (r := (θ1 1 7)) aw_cl9 kp_1 (by decide) (hW.le (by decide)) (by decide) ww_472 dX9_pay_32 rfl rfl ?_
        refine SW.aload_n dX9_pay_35 rfl ?_
        refine SW.getS (f := 1) (r := 6) aw_cl9 kp_1 (by decide) (hW.le (by decide)) (by decide) ww_466 dX9_pay_36 rfl hW.t1_1 ?_
        refine SW.iload_n dX9_pay_39 rfl ?_
        refine SW.aload_n dX9_pay_40 rfl ?_
        refine SW.getS (f := 1) (r := 6) aw_cl9 kp_1 (by decide) (hW.le (by decide)) (by decide) ww_466 dX9_pay_41 rfl hW.t1_1 ?_
        refine SW.getI (f := 2) aw_cl2 kp_6 (by decide) (hW.le (by decide)) (by decide) ww_204 dX9_pay_44 rfl ?_
        refine SW.cvi3 kV_X9_176 (by omega) aw_cl1 (kpF_0 hF3) (leF_0 hF3).1 (hW.le (leF_0 hF3).2) rfl (Nat.le_of_ble_eq_true rfl) dX9_pay_47 (SMi.mono vc ?_)
        intro a4 n4 σ4 τ4 θ4 vc
        obtain ⟨hW, vc⟩ := vc
        refine SW.if_eq 66 dX9_pay_50 (by decide) (fun hbr => ?_) (fun hbr => ?_)
        · replace vc := vc.1 hbr
          refine SW.aload_n dX9_pay_66 rfl ?_
          refine SW.iconst (v := (5 : Int32)) dX9_pay_67 (by decide) ?_
          refine SW.cvi1 kV_X9_82 (by omega) aw_cl9 kp_1 (by decide) (hW.le (by decide)) rfl (Nat.le_of_ble_eq_true rfl) dX9_pay_68 (SMi.mono vc ?_)
          intro a5 n5 σ5 τ5 θ5 vc
          obtain ⟨hW, vc⟩ := vc
          exact SW.iret dX9_pay_71 rfl rfl ⟨_, rfl, vc⟩
        · replace vc := vc.2 hbr
          refine SW.aload_n dX9_pay_53 rfl ?_
          refine SW.getS (f := 1) (r := 6) aw_cl9 kp_1 (by decide) (hW.le (by decide)) (by decide) ww_466 dX9_pay_54 rfl hW.t1_1 ?_
          refine SW.getS (f := 1) (r := 8) aw_cl2 kp_6 (by decide) (hW.le (by decide)) (by decide) ww_199 dX9_pay_57 rfl hW.t6_1 ?_
          refine SW.iload_n dX9_pay_60 rfl ?_
          refine SW.iald kp_8 (by decide) (hW.le (by decide)) vc.1 dX9_pay_61 ?_
          replace vc := vc.2
          refine SW.iload_n dX9_pay_62 rfl ?_
          refine SW.icmp_ge 72 dX9_pay_63 (by decide) (fun hbr => ?_) (fun hbr => ?_)
          · replace vc := vc.1 hbr
            refine SW.aload_n dX9_pay_72 rfl ?_
            have hF6 := hW.f
            refine SW.getS (f := 7) (r := (θ4 1 7)) aw_cl9 kp_1 (by decide) (hW.le (by decide)) (by decide) ww_472 dX9_pay_73 rfl rfl ?_
            refine SW.getS (f := 7) (r := (θ4 1 7) + 8) aw_cl1 (kpF_0 hF6) (leF_0 hF6).1 (hW.le (leF_0 hF6).2) (by decide) ww_398 dX9_pay_76 rfl (hW.f7 hF6) ?_
            refine SW.getS (f := 0) (r := (θ4 1 7) + 9) aw_cl0 (kpF_8 hF6) (leF_8 hF6).1 (hW.le (leF_8 hF6).2) (by decide) ww_338 dX9_pay_79 rfl (hW.f8_0 hF6) ?_
            refine SW.iload_n dX9_pay_82 rfl ?_
            refine SW.iald (kpF_9 hF6) (leF_9 hF6).1 (hW.le (leF_9 hF6).2) vc.1 dX9_pay_83 ?_
            replace vc := vc.2
            refine SW.istore_n dX9_pay_84 (by decide) rfl rfl ?_
            refine SW.aload_n dX9_pay_85 rfl ?_
            refine SW.getS (f := 1) (r := 6) aw_cl9 kp_1 (by decide) (hW.le (by decide)) (by decide) ww_466 dX9_pay_86 rfl hW.t1_1 ?_
            refine SW.getS (f := 0) (r := 7) aw_cl2 kp_6 (by decide) (hW.le (by decide)) (by decide) ww_194 dX9_pay_89 rfl hW.t6_0 ?_
            refine SW.iload_n dX9_pay_92 rfl ?_
            refine SW.iald kp_7 (by decide) (hW.le (by decide)) vc.1 dX9_pay_93 ?_
            replace vc := vc.2
            refine SW.iload_n dX9_pay_94 rfl ?_
            refine SW.icmp_ge 105 dX9_pay_95 (by decide) (fun hbr => ?_) (fun hbr => ?_)
            · replace vc := vc.1 hbr
              refine SW.aload_n dX9_pay_105 rfl ?_
              refine SW.getS (f := 2) (r := 9) aw_cl9 kp_1 (by decide) (hW.le (by decide)) (by decide) ww_467 dX9_pay_106 rfl hW.t1_2 ?_
              refine SW.aload_n dX9_pay_109 rfl ?_
              refine SW.getS (f := 1) (r := 6) aw_cl9 kp_1 (by decide) (hW.le (by decide)) (by decide) ww_466 dX9_pay_110 rfl hW.t1_1 ?_
              refine SW.cvv1 kV_X9_297 (by omega) aw_cl5 kp_9 (by decide) (hW.le (by decide)) rfl (Nat.le_of_ble_eq_true rfl) dX9_pay_113 (SMv.mono vc ?_)
              intro n7 σ7 τ7 θ7 vc
              obtain ⟨hW, vc⟩ := vc
              refine SW.aload_n dX9_pay_116 rfl ?_
              refine SW.getS (f := 1) (r := 6) aw_cl9 kp_1 (by decide) (hW.le (by decide)) (by decide) ww_466 dX9_pay_117 rfl hW.t1_1 ?_
              refine SW.getS (f := 0) (r := 7) aw_cl2 kp_6 (by decide) (hW.le (by decide)) (by decide) ww_194 dX9_pay_120 rfl hW.t6_0 ?_
              refine SW.iload_n dX9_pay_123 rfl ?_
              refine SW.dup2 dX9_pay_124 rfl rfl ?_
              refine SW.iald kp_7 (by decide) (hW.le (by decide)) vc.1 dX9_pay_125 ?_
              replace vc := vc.2
              refine SW.iload_n dX9_pay_126 rfl ?_
              refine SW.isub dX9_pay_127 ?_
              refine SW.iast kp_7 (by decide) (hW.le (by decide)) vc.1 dX9_pay_128 ?_
              replace vc := vc.2
              refine SW.aload_n dX9_pay_129 rfl ?_
              refine SW.getS (f := 1) (r := 6) aw_cl9 kp_1 (by decide) (hW.le (by decide)) (by decide) ww_466 dX9_pay_130 rfl hW.t1_1 ?_
              refine SW.getS (f := 0) (r := 7) aw_cl2 kp_6 (by decide) (hW.le (by decide)) (by decide) ww_194 dX9_pay_133 rfl hW.t6_0 ?_
              refine SW.aload_n dX9_pay_136 rfl ?_
              have hF8 := hW.f
              refine SW.getS (f := 7) (r := (θ7 1 7)) aw_cl9 kp_1 (by decide) (hW.le (by decide)) (by decide) ww_472 dX9_pay_137 rfl rfl ?_
              refine SW.getS (f := 7) (r := (θ7 1 7) + 8) aw_cl1 (kpF_0 hF8) (leF_0 hF8).1 (hW.le (leF_0 hF8).2) (by decide) ww_398 dX9_pay_140 rfl (hW.f7 hF8) ?_
              refine SW.getS (f := 1) (r := (θ7 1 7) + 10) aw_cl0 (kpF_8 hF8) (leF_8 hF8).1 (hW.le (leF_8 hF8).2) (by decide) ww_343 dX9_pay_143 rfl (hW.f8_1 hF8) ?_
              refine SW.iload_n dX9_pay_146 rfl ?_
              refine SW.iald (kpF_10 hF8) (leF_10 hF8).1 (hW.le (leF_10 hF8).2) vc.1 dX9_pay_147 ?_
              replace vc := vc.2
              refine SW.dup2 dX9_pay_148 rfl rfl ?_
              refine SW.iald kp_7 (by decide) (hW.le (by decide)) vc.1 dX9_pay_149 ?_
              replace vc := vc.2
              refine SW.iload_n dX9_pay_150 rfl ?_
              refine SW.iadd dX9_pay_151 ?_
              refine SW.iast kp_7 (by decide) (hW.le (by decide)) vc.1 dX9_pay_152 ?_
              replace vc := vc.2
              refine SW.aload_n dX9_pay_153 rfl ?_
              refine SW.getS (f := 1) (r := 6) aw_cl9 kp_1 (by decide) (hW.le (by decide)) (by decide) ww_466 dX9_pay_154 rfl hW.t1_1 ?_
              refine SW.getS (f := 1) (r := 8) aw_cl2 kp_6 (by decide) (hW.le (by decide)) (by decide) ww_199 dX9_pay_157 rfl hW.t6_1 ?_
              refine SW.iload_n dX9_pay_160 rfl ?_
              refine SW.dup2 dX9_pay_161 rfl rfl ?_
              refine SW.iald kp_8 (by decide) (hW.le (by decide)) vc.1 dX9_pay_162 ?_
              replace vc := vc.2
              refine SW.iload_n dX9_pay_163 rfl ?_
              refine SW.isub dX9_pay_164 ?_
              refine SW.iast kp_8 (by decide) (hW.le (by decide)) vc.1 dX9_pay_165 ?_
              replace vc := vc.2
              refine SW.aload_n dX9_pay_166 rfl ?_
              refine SW.aload_n dX9_pay_167 rfl ?_
              refine SW.getS (f := 1) (r := 6) aw_cl9 kp_1 (by decide) (hW.le (by decide)) (by decide) ww_466 dX9_pay_168 rfl hW.t1_1 ?_
              refine SW.getS (f := 1) (r := 8) aw_cl2 kp_6 (by decide) (hW.le (by decide)) (by decide) ww_199 dX9_pay_171 rfl hW.t6_1 ?_
              refine SW.iload_n dX9_pay_174 rfl ?_
              refine SW.iald kp_8 (by decide) (hW.le (by decide)) vc.1 dX9_pay_175 ?_
              replace vc := vc.2
              refine SW.cvi1 kV_X9_100 (by omega) aw_cl9 kp_1 (by decide) (hW.le (by decide)) rfl (Nat.le_of_ble_eq_true rfl) dX9_pay_176 (SMi.mono vc ?_)
              intro a9 n9 σ9 τ9 θ9 vc
              obtain ⟨hW, vc⟩ := vc
              exact SW.iret dX9_pay_179 rfl rfl ⟨_, rfl, vc⟩
            · replace vc := vc.2 hbr
              refine SW.aload_n dX9_pay_98 rfl ?_
              refine SW.bipush (v := (6 : Int32)) dX9_pay_99 (by decide) ?_
              refine SW.cvi1 kV_X9_82 (by omega) aw_cl9 kp_1 (by decide) (hW.le (by decide)) rfl (Nat.le_of_ble_eq_true rfl) dX9_pay_101 (SMi.mono vc ?_)
              intro a10 n10 σ10 τ10 θ10 vc
              obtain ⟨hW, vc⟩ := vc
              exact SW.iret dX9_pay_104 rfl rfl ⟨_, rfl, vc⟩
          · replace vc := vc.2 hbr
            refine SW.aload_n dX9_pay_66 rfl ?_
            refine SW.iconst (v := (5 : Int32)) dX9_pay_67 (by decide) ?_
            refine SW.cvi1 kV_X9_82 (by omega) aw_cl9 kp_1 (by decide) (hW.le (by decide)) rfl (Nat.le_of_ble_eq_true rfl) dX9_pay_68 (SMi.mono vc ?_)
            intro a11 n11 σ11 τ11 θ11 vc
            obtain ⟨hW, vc⟩ := vc
            exact SW.iret dX9_pay_71 rfl rfl ⟨_, rfl, vc⟩
      · replace vc := vc.2 hbr
        refine SW.aload_n dX9_pay_25 rfl ?_
        refine SW.iconst (v := (2 : Int32)) dX9_pay_26 (by decide) ?_
        refine SW.cvi1 kV_X9_82 (by omega) aw_cl9 kp_1 (by decide) (hW.le (by decide)) rfl (Nat.le_of_ble_eq_true rfl) dX9_pay_27 (SMi.mono vc ?_)
        intro a12 n12 σ12 τ12 θ12 vc
        obtain ⟨hW, vc⟩ := vc
        exact SW.iret dX9_pay_30 rfl rfl ⟨_, rfl, vc⟩
  · replace vc := vc.2 hbr
    refine SW.aload_n dX9_pay_8 rfl ?_
    refine SW.iconst (v := (1 : Int32)) dX9_pay_9 (by decide) ?_
    refine SW.cvi1 kV_X9_82 (by omega) aw_cl9 kp_1 (by decide) (hW.le (by decide)) rfl (Nat.le_of_ble_eq_true rfl) dX9_pay_10 (SMi.mono vc ?_)
    intro a13 n13 σ13 τ13 θ13 vc
    obtain ⟨hW, vc⟩ := vc
    exact SW.iret dX9_pay_13 rfl rfl ⟨_, rfl, vc⟩
theorem ctX9_pay {G : GG} {q : Int32 → Nat → SG → TU → TH → Prop} {n : Nat} {σ : SG} {τ : TU} {θ : TH} (x1 : Int32) (x2 : Int32) (h : SW G 3 mX9_pay (aw_qi q) 0 0 0 [some (.ref 1), some (.int x1), some (.int x2), none] [] (n, σ, τ, θ)) : SMi G 3 mX9_pay 0 0 [.ref 1, .int x1, .int x2] n σ τ θ q := SM.of _ rfl rfl (Nat.le_of_ble_eq_true rfl) h
set_option maxHeartbeats 4000000 in
set_option maxRecDepth 20000 in
theorem sgX9_payAll_0 {G : GG} {k : Nat} {q : Int32 → Nat → SG → TU → TH → Prop} {n : Nat} {σ : SG} {τ : TU} {θ : TH}   (hk : 5 ≤ k)  (hW : aw_WT n θ) (vc : SMi G 1 mX9_noDuchy 0 0 [.ref 1] n σ τ θ (fun a1 n1 σ1 τ1 θ1 => aw_WT n1 θ1 ∧ (((a1 = 0) → (SW G k mX9_payAll (aw_qi q) 0 0 17 [some (.ref 1), some (.int (0 : Int32)), some (.int (0 : Int32)), none, none] [] (n1, σ1, τ1, θ1))) ∧ ((¬ a1 = 0) → (SMi G 1 mX9_refuse 0 0 [.ref 1, .int (1 : Int32)] n1 σ1 τ1 θ1 (fun a2 n2 σ2 τ2 θ2 => aw_WT n2 θ2 ∧ (q a2 n2 σ2 τ2 θ2))))))) : SW G k mX9_payAll (aw_qi q) 0 0 0 [some (.ref 1), none, none, none, none] [] (n, σ, τ, θ) := by
  refine SW.aload_n dX9_payAll_0 rfl ?_
  refine SW.cvi0 kV_X9_134 (by omega) aw_cl9 kp_1 (by decide) (hW.le (by decide)) rfl (Nat.le_of_ble_eq_true rfl) dX9_payAll_1 (SMi.mono vc ?_)
  intro a1 n1 σ1 τ1 θ1 vc
  obtain ⟨hW, vc⟩ := vc
  refine SW.if_eq 13 dX9_payAll_4 (by decide) (fun hbr => ?_) (fun hbr => ?_)
  · replace vc := vc.1 hbr
    refine SW.iconst (v := (0 : Int32)) dX9_payAll_13 (by decide) ?_
    refine SW.istore_n dX9_payAll_14 (by decide) rfl rfl ?_
    refine SW.iconst (v := (0 : Int32)) dX9_payAll_15 (by decide) ?_
    refine SW.istore_n dX9_payAll_16 (by decide) rfl rfl ?_
    exact vc
  · replace vc := vc.2 hbr
    refine SW.aload_n dX9_payAll_7 rfl ?_
    refine SW.iconst (v := (1 : Int32)) dX9_payAll_8 (by decide) ?_
    refine SW.cvi1 kV_X9_82 (by omega) aw_cl9 kp_1 (by decide) (hW.le (by decide)) rfl (Nat.le_of_ble_eq_true rfl) dX9_payAll_9 (SMi.mono vc ?_)
    intro a2 n2 σ2 τ2 θ2 vc
    obtain ⟨hW, vc⟩ := vc
    exact SW.iret dX9_payAll_12 rfl rfl ⟨_, rfl, vc⟩
set_option maxHeartbeats 4000000 in
set_option maxRecDepth 20000 in
theorem sgX9_payAll_17 {G : GG} {k : Nat} {q : Int32 → Nat → SG → TU → TH → Prop} {n : Nat} {σ : SG} {τ : TU} {θ : TH}  (x1 : Int32) (x2 : Int32) (hk : 5 ≤ k)  (hW : aw_WT n θ) (vc : (((σ (θ 1 7) 13) ≤ x2) → (SMi G 1 mX9_grant 0 0 [.ref 1, .int x1] n σ τ θ (fun a2 n2 σ2 τ2 θ2 => aw_WT n2 θ2 ∧ (q a2 n2 σ2 τ2 θ2)))) ∧ ((¬ (σ (θ 1 7) 13) ≤ x2) → (vp_in x2 5 ∧ (SMi G 1 mX9_isDoor 0 0 [.ref 1, .int (σ ((θ 1 7) + 4) x2.toNatClampNeg)] n σ τ θ (fun a4 n4 σ4 τ4 θ4 => aw_WT n4 θ4 ∧ (((a4 = 0) → (((¬ (0 : Int32) = (-2 : Int32)) → (SW G k mX9_payAll (aw_qi q) 0 0 17 [some (.ref 1), some (.int (x1 + (0 : Int32))), some (.int (x2 + (1 : Int32))), none, none] [] (n4, σ4, τ4, θ4))) ∧ (((0 : Int32) = (-2 : Int32)) → (SMi G 1 mX9_grant 0 0 [.ref 1, .int (-2 : Int32)] n4 σ4 τ4 θ4 (fun a5 n5 σ5 τ5 θ5 => aw_WT n5 θ5 ∧ (q a5 n5 σ5 τ5 θ5)))))) ∧ ((¬ a4 = 0) → (SMi G 4 mX9_affordableToll 0 0 [.ref 1, .int x2, .int (σ ((θ 1 7) + 4) x2.toNatClampNeg)] n4 σ4 τ4 θ4 (fun a6 n6 σ6 τ6 θ6 => aw_WT n6 θ6 ∧ (((¬ a6 = (-2 : Int32)) → (SW G k mX9_payAll (aw_qi q) 0 0 17 [some (.ref 1), some (.int (x1 + a6)), some (.int (x2 + (1 : Int32))), none, none] [] (n6, σ6, τ6, θ6))) ∧ ((a6 = (-2 : Int32)) → (SMi G 1 mX9_grant 0 0 [.ref 1, .int (-2 : Int32)] n6 σ6 τ6 θ6 (fun a7 n7 σ7 τ7 θ7 => aw_WT n7 θ7 ∧ (q a7 n7 σ7 τ7 θ7)))))))))))))) : SW G k mX9_payAll (aw_qi q) 0 0 17 [some (.ref 1), some (.int x1), some (.int x2), none, none] [] (n, σ, τ, θ) := by
  refine SW.iload_n dX9_payAll_17 rfl ?_
  refine SW.aload_n dX9_payAll_18 rfl ?_
  have hF1 := hW.f
  refine SW.getS (f := 7) (r := (θ 1 7)) aw_cl9 kp_1 (by decide) (hW.le (by decide)) (by decide) ww_472 dX9_payAll_19 rfl rfl ?_
  refine SW.getI (f := 13) aw_cl1 (kpF_0 hF1) (leF_0 hF1).1 (hW.le (leF_0 hF1).2) (by decide) ww_423 dX9_payAll_22 rfl ?_
  refine SW.icmp_ge 83 dX9_payAll_25 (by decide) (fun hbr => ?_) (fun hbr => ?_)
  · replace vc := vc.1 hbr
    refine SW.aload_n dX9_payAll_83 rfl ?_
    refine SW.iload_n dX9_payAll_84 rfl ?_
    refine SW.cvi1 kV_X9_100 (by omega) aw_cl9 kp_1 (by decide) (hW.le (by decide)) rfl (Nat.le_of_ble_eq_true rfl) dX9_payAll_85 (SMi.mono vc ?_)
    intro a2 n2 σ2 τ2 θ2 vc
    obtain ⟨hW, vc⟩ := vc
    exact SW.iret dX9_payAll_88 rfl rfl ⟨_, rfl, vc⟩
  · replace vc := vc.2 hbr
    refine SW.aload_n dX9_payAll_28 rfl ?_
    have hF3 := hW.f
    refine SW.getS (f := 7) (r := (θ 1 7)) aw_cl9 kp_1 (by decide) (hW.le (by decide)) (by decide) ww_472 dX9_payAll_29 rfl rfl ?_
    refine SW.getS (f := 3) (r := (θ 1 7) + 4) aw_cl1 (kpF_0 hF3) (leF_0 hF3).1 (hW.le (leF_0 hF3).2) (by decide) ww_383 dX9_payAll_32 rfl (hW.f3 hF3) ?_
    refine SW.iload_n dX9_payAll_35 rfl ?_
    refine SW.iald (kpF_4 hF3) (leF_4 hF3).1 (hW.le (leF_4 hF3).2) vc.1 dX9_payAll_36 ?_
    replace vc := vc.2
    refine SW.istore_n dX9_payAll_37 (by decide) rfl rfl ?_
    refine SW.aload_n dX9_payAll_38 rfl ?_
    refine SW.iload_n dX9_payAll_39 rfl ?_
    refine SW.cvi1 kV_X9_120 (by omega) aw_cl9 kp_1 (by decide) (hW.le (by decide)) rfl (Nat.le_of_ble_eq_true rfl) dX9_payAll_40 (SMi.mono vc ?_)
    intro a4 n4 σ4 τ4 θ4 vc
    obtain ⟨hW, vc⟩ := vc
    refine SW.if_eq 55 dX9_payAll_43 (by decide) (fun hbr => ?_) (fun hbr => ?_)
    · replace vc := vc.1 hbr
      refine SW.iconst (v := (0 : Int32)) dX9_payAll_55 (by decide) ?_
      refine SW.istore dX9_payAll_56 (by decide) rfl rfl ?_
      refine SW.iload dX9_payAll_58 rfl ?_
      refine SW.bipush (v := (-2 : Int32)) dX9_payAll_60 (by decide) ?_
      refine SW.icmp_ne 72 dX9_payAll_62 (by decide) (fun hbr => ?_) (fun hbr => ?_)
      · replace vc := vc.1 hbr
        refine SW.iload_n dX9_payAll_72 rfl ?_
        refine SW.iload dX9_payAll_73 rfl ?_
        refine SW.iadd dX9_payAll_75 ?_
        refine SW.istore_n dX9_payAll_76 (by decide) rfl rfl ?_
        refine SW.iinc (v := (x2 + (1 : Int32))) dX9_payAll_77 rfl rfl (by decide) rfl rfl ?_
        refine SW.goto 17 dX9_payAll_80 (by decide) ?_
        refine SW.msk [true, true, true, false, false] rfl ?_
        exact vc
      · replace vc := vc.2 hbr
        refine SW.aload_n dX9_payAll_65 rfl ?_
        refine SW.bipush (v := (-2 : Int32)) dX9_payAll_66 (by decide) ?_
        refine SW.cvi1 kV_X9_100 (by omega) aw_cl9 kp_1 (by decide) (hW.le (by decide)) rfl (Nat.le_of_ble_eq_true rfl) dX9_payAll_68 (SMi.mono vc ?_)
        intro a5 n5 σ5 τ5 θ5 vc
        obtain ⟨hW, vc⟩ := vc
        exact SW.iret dX9_payAll_71 rfl rfl ⟨_, rfl, vc⟩
    · replace vc := vc.2 hbr
      refine SW.aload_n dX9_payAll_46 rfl ?_
      refine SW.iload_n dX9_payAll_47 rfl ?_
      refine SW.iload_n dX9_payAll_48 rfl ?_
      refine SW.cvi2 kV_X9_154 (by omega) aw_cl9 kp_1 (by decide) (hW.le (by decide)) rfl (Nat.le_of_ble_eq_true rfl) dX9_payAll_49 (SMi.mono vc ?_)
      intro a6 n6 σ6 τ6 θ6 vc
      obtain ⟨hW, vc⟩ := vc
      refine SW.goto 56 dX9_payAll_52 (by decide) ?_
      refine SW.istore dX9_payAll_56 (by decide) rfl rfl ?_
      refine SW.iload dX9_payAll_58 rfl ?_
      refine SW.bipush (v := (-2 : Int32)) dX9_payAll_60 (by decide) ?_
      refine SW.icmp_ne 72 dX9_payAll_62 (by decide) (fun hbr => ?_) (fun hbr => ?_)
      · replace vc := vc.1 hbr
        refine SW.iload_n dX9_payAll_72 rfl ?_
        refine SW.iload dX9_payAll_73 rfl ?_
        refine SW.iadd dX9_payAll_75 ?_
        refine SW.istore_n dX9_payAll_76 (by decide) rfl rfl ?_
        refine SW.iinc (v := (x2 + (1 : Int32))) dX9_payAll_77 rfl rfl (by decide) rfl rfl ?_
        refine SW.goto 17 dX9_payAll_80 (by decide) ?_
        refine SW.msk [true, true, true, false, false] rfl ?_
        exact vc
      · replace vc := vc.2 hbr
        refine SW.aload_n dX9_payAll_65 rfl ?_
        refine SW.bipush (v := (-2 : Int32)) dX9_payAll_66 (by decide) ?_
        refine SW.cvi1 kV_X9_100 (by omega) aw_cl9 kp_1 (by decide) (hW.le (by decide)) rfl (Nat.le_of_ble_eq_true rfl) dX9_payAll_68 (SMi.mono vc ?_)
        intro a7 n7 σ7 τ7 θ7 vc
        obtain ⟨hW, vc⟩ := vc
        exact SW.iret dX9_payAll_71 rfl rfl ⟨_, rfl, vc⟩
theorem ctX9_payAll {G : GG} {q : Int32 → Nat → SG → TU → TH → Prop} {n : Nat} {σ : SG} {τ : TU} {θ : TH}  (h : SW G 5 mX9_payAll (aw_qi q) 0 0 0 [some (.ref 1), none, none, none, none] [] (n, σ, τ, θ)) : SMi G 5 mX9_payAll 0 0 [.ref 1] n σ τ θ q := SM.of _ rfl rfl (Nat.le_of_ble_eq_true rfl) h
set_option maxHeartbeats 4000000 in
set_option maxRecDepth 20000 in
theorem sgX9_payFor_0 {G : GG} {k : Nat} {q : Int32 → Nat → SG → TU → TH → Prop} {n : Nat} {σ : SG} {τ : TU} {θ : TH}  (x1 : Int32) (x2 : Int32) (hk : 5 ≤ k)  (hW : aw_WT n θ) (vc : SMi G 1 mX9_isMan 0 0 [.ref 1, .int x1] n σ τ θ (fun a1 n1 σ1 τ1 θ1 => aw_WT n1 θ1 ∧ (((a1 = 0) → (SMi G 1 mX9_refuse 0 0 [.ref 1, .int (1 : Int32)] n1 σ1 τ1 θ1 (fun a2 n2 σ2 τ2 θ2 => aw_WT n2 θ2 ∧ (q a2 n2 σ2 τ2 θ2)))) ∧ ((¬ a1 = 0) → (SMi G 1 mX9_isDoor 0 0 [.ref 1, .int x2] n1 σ1 τ1 θ1 (fun a3 n3 σ3 τ3 θ3 => aw_WT n3 θ3 ∧ (((¬ a3 = 0) → (SMi G 4 mX9_affordableToll 0 0 [.ref 1, .int x1, .int x2] n3 σ3 τ3 θ3 (fun a4 n4 σ4 τ4 θ4 => aw_WT n4 θ4 ∧ (SMi G 1 mX9_grant 0 0 [.ref 1, .int a4] n4 σ4 τ4 θ4 (fun a5 n5 σ5 τ5 θ5 => aw_WT n5 θ5 ∧ (q a5 n5 σ5 τ5 θ5)))))) ∧ ((a3 = 0) → (SMi G 1 mX9_refuse 0 0 [.ref 1, .int (1 : Int32)] n3 σ3 τ3 θ3 (fun a6 n6 σ6 τ6 θ6 => aw_WT n6 θ6 ∧ (q a6 n6 σ6 τ6 θ6))))))))))) : SW G k mX9_payFor (aw_qi q) 0 0 0 [some (.ref 1), some (.int x1), some (.int x2)] [] (n, σ, τ, θ) := by
  refine SW.aload_n dX9_payFor_0 rfl ?_
  refine SW.iload_n dX9_payFor_1 rfl ?_
  refine SW.cvi1 kV_X9_106 (by omega) aw_cl9 kp_1 (by decide) (hW.le (by decide)) rfl (Nat.le_of_ble_eq_true rfl) dX9_payFor_2 (SMi.mono vc ?_)
  intro a1 n1 σ1 τ1 θ1 vc
  obtain ⟨hW, vc⟩ := vc
  refine SW.if_eq 16 dX9_payFor_5 (by decide) (fun hbr => ?_) (fun hbr => ?_)
  · replace vc := vc.1 hbr
    refine SW.aload_n dX9_payFor_16 rfl ?_
    refine SW.iconst (v := (1 : Int32)) dX9_payFor_17 (by decide) ?_
    refine SW.cvi1 kV_X9_82 (by omega) aw_cl9 kp_1 (by decide) (hW.le (by decide)) rfl (Nat.le_of_ble_eq_true rfl) dX9_payFor_18 (SMi.mono vc ?_)
    intro a2 n2 σ2 τ2 θ2 vc
    obtain ⟨hW, vc⟩ := vc
    exact SW.iret dX9_payFor_21 rfl rfl ⟨_, rfl, vc⟩
  · replace vc := vc.2 hbr
    refine SW.aload_n dX9_payFor_8 rfl ?_
    refine SW.iload_n dX9_payFor_9 rfl ?_
    refine SW.cvi1 kV_X9_120 (by omega) aw_cl9 kp_1 (by decide) (hW.le (by decide)) rfl (Nat.le_of_ble_eq_true rfl) dX9_payFor_10 (SMi.mono vc ?_)
    intro a3 n3 σ3 τ3 θ3 vc
    obtain ⟨hW, vc⟩ := vc
    refine SW.if_ne 22 dX9_payFor_13 (by decide) (fun hbr => ?_) (fun hbr => ?_)
    · replace vc := vc.1 hbr
      refine SW.aload_n dX9_payFor_22 rfl ?_
      refine SW.aload_n dX9_payFor_23 rfl ?_
      refine SW.iload_n dX9_payFor_24 rfl ?_
      refine SW.iload_n dX9_payFor_25 rfl ?_
      refine SW.cvi2 kV_X9_154 (by omega) aw_cl9 kp_1 (by decide) (hW.le (by decide)) rfl (Nat.le_of_ble_eq_true rfl) dX9_payFor_26 (SMi.mono vc ?_)
      intro a4 n4 σ4 τ4 θ4 vc
      obtain ⟨hW, vc⟩ := vc
      refine SW.cvi1 kV_X9_100 (by omega) aw_cl9 kp_1 (by decide) (hW.le (by decide)) rfl (Nat.le_of_ble_eq_true rfl) dX9_payFor_29 (SMi.mono vc ?_)
      intro a5 n5 σ5 τ5 θ5 vc
      obtain ⟨hW, vc⟩ := vc
      exact SW.iret dX9_payFor_32 rfl rfl ⟨_, rfl, vc⟩
    · replace vc := vc.2 hbr
      refine SW.aload_n dX9_payFor_16 rfl ?_
      refine SW.iconst (v := (1 : Int32)) dX9_payFor_17 (by decide) ?_
      refine SW.cvi1 kV_X9_82 (by omega) aw_cl9 kp_1 (by decide) (hW.le (by decide)) rfl (Nat.le_of_ble_eq_true rfl) dX9_payFor_18 (SMi.mono vc ?_)
      intro a6 n6 σ6 τ6 θ6 vc
      obtain ⟨hW, vc⟩ := vc
      exact SW.iret dX9_payFor_21 rfl rfl ⟨_, rfl, vc⟩
theorem ctX9_payFor {G : GG} {q : Int32 → Nat → SG → TU → TH → Prop} {n : Nat} {σ : SG} {τ : TU} {θ : TH} (x1 : Int32) (x2 : Int32) (h : SW G 5 mX9_payFor (aw_qi q) 0 0 0 [some (.ref 1), some (.int x1), some (.int x2)] [] (n, σ, τ, θ)) : SMi G 5 mX9_payFor 0 0 [.ref 1, .int x1, .int x2] n σ τ θ q := SM.of _ rfl rfl (Nat.le_of_ble_eq_true rfl) h
set_option maxHeartbeats 4000000 in
set_option maxRecDepth 20000 in
theorem sgX9_reach_0 {G : GG} {k : Nat} {q : Int32 → Nat → SG → TU → TH → Prop} {n : Nat} {σ : SG} {τ : TU} {θ : TH}  (x1 : Int32) (hk : 3 ≤ k)  (hW : aw_WT n θ) (vc : SMi G 1 mX9_isMan 0 0 [.ref 1, .int x1] n σ τ θ (fun a1 n1 σ1 τ1 θ1 => aw_WT n1 θ1 ∧ (((¬ a1 = 0) → (SMi G 2 mX1_owedBits 0 0 [.ref (θ1 1 7), .ref 6, .int x1] n1 σ1 τ1 θ1 (fun a3 n3 σ3 τ3 θ3 => aw_WT n3 θ3 ∧ (SW G k mX9_reach (aw_qi q) 0 0 29 [some (.ref 1), none, some (.int a3), some (.int (0 : Int32)), none] [] (n3, σ3, τ3, θ3))))) ∧ ((a1 = 0) → (SMi G 1 mX9_refuse 0 0 [.ref 1, .int (1 : Int32)] n1 σ1 τ1 θ1 (fun a4 n4 σ4 τ4 θ4 => aw_WT n4 θ4 ∧ (q a4 n4 σ4 τ4 θ4))))))) : SW G k mX9_reach (aw_qi q) 0 0 0 [some (.ref 1), some (.int x1), none, none, none] [] (n, σ, τ, θ) := by
  refine SW.aload_n dX9_reach_0 rfl ?_
  refine SW.iload_n dX9_reach_1 rfl ?_
  refine SW.cvi1 kV_X9_106 (by omega) aw_cl9 kp_1 (by decide) (hW.le (by decide)) rfl (Nat.le_of_ble_eq_true rfl) dX9_reach_2 (SMi.mono vc ?_)
  intro a1 n1 σ1 τ1 θ1 vc
  obtain ⟨hW, vc⟩ := vc
  refine SW.if_ne 14 dX9_reach_5 (by decide) (fun hbr => ?_) (fun hbr => ?_)
  · replace vc := vc.1 hbr
    refine SW.aload_n dX9_reach_14 rfl ?_
    have hF2 := hW.f
    refine SW.getS (f := 7) (r := (θ1 1 7)) aw_cl9 kp_1 (by decide) (hW.le (by decide)) (by decide) ww_472 dX9_reach_15 rfl rfl ?_
    refine SW.aload_n dX9_reach_18 rfl ?_
    refine SW.getS (f := 1) (r := 6) aw_cl9 kp_1 (by decide) (hW.le (by decide)) (by decide) ww_466 dX9_reach_19 rfl hW.t1_1 ?_
    refine SW.iload_n dX9_reach_22 rfl ?_
    refine SW.cvi2 kV_X9_208 (by omega) aw_cl1 (kpF_0 hF2) (leF_0 hF2).1 (hW.le (leF_0 hF2).2) rfl (Nat.le_of_ble_eq_true rfl) dX9_reach_23 (SMi.mono vc ?_)
    intro a3 n3 σ3 τ3 θ3 vc
    obtain ⟨hW, vc⟩ := vc
    refine SW.istore_n dX9_reach_26 (by decide) rfl rfl ?_
    refine SW.iconst (v := (0 : Int32)) dX9_reach_27 (by decide) ?_
    refine SW.istore_n dX9_reach_28 (by decide) rfl rfl ?_
    refine SW.msk [true, false, true, true, true] rfl ?_
    exact vc
  · replace vc := vc.2 hbr
    refine SW.aload_n dX9_reach_8 rfl ?_
    refine SW.iconst (v := (1 : Int32)) dX9_reach_9 (by decide) ?_
    refine SW.cvi1 kV_X9_82 (by omega) aw_cl9 kp_1 (by decide) (hW.le (by decide)) rfl (Nat.le_of_ble_eq_true rfl) dX9_reach_10 (SMi.mono vc ?_)
    intro a4 n4 σ4 τ4 θ4 vc
    obtain ⟨hW, vc⟩ := vc
    exact SW.iret dX9_reach_13 rfl rfl ⟨_, rfl, vc⟩
set_option maxHeartbeats 4000000 in
set_option maxRecDepth 20000 in
theorem sgX9_reach_29 {G : GG} {k : Nat} {q : Int32 → Nat → SG → TU → TH → Prop} {n : Nat} {σ : SG} {τ : TU} {θ : TH}  (x2 : Int32) (x3 : Int32) (hk : 3 ≤ k)  (hW : aw_WT n θ) (vc : (((σ (θ 1 7) 13) ≤ x3) → (SMi G 1 mX9_grant 0 0 [.ref 1, .int x2] n σ τ θ (fun a2 n2 σ2 τ2 θ2 => aw_WT n2 θ2 ∧ (q a2 n2 σ2 τ2 θ2)))) ∧ ((¬ (σ (θ 1 7) 13) ≤ x3) → (SW G k mX9_reach (aw_qi q) 0 0 43 [some (.ref 1), none, some (.int x2), some (.int x3), some (.int (0 : Int32))] [] (n, σ, τ, θ)))) : SW G k mX9_reach (aw_qi q) 0 0 29 [some (.ref 1), none, some (.int x2), some (.int x3), none] [] (n, σ, τ, θ) := by
  refine SW.iload_n dX9_reach_29 rfl ?_
  refine SW.aload_n dX9_reach_30 rfl ?_
  have hF1 := hW.f
  refine SW.getS (f := 7) (r := (θ 1 7)) aw_cl9 kp_1 (by decide) (hW.le (by decide)) (by decide) ww_472 dX9_reach_31 rfl rfl ?_
  refine SW.getI (f := 13) aw_cl1 (kpF_0 hF1) (leF_0 hF1).1 (hW.le (leF_0 hF1).2) (by decide) ww_423 dX9_reach_34 rfl ?_
  refine SW.icmp_ge 92 dX9_reach_37 (by decide) (fun hbr => ?_) (fun hbr => ?_)
  · replace vc := vc.1 hbr
    refine SW.aload_n dX9_reach_92 rfl ?_
    refine SW.iload_n dX9_reach_93 rfl ?_
    refine SW.cvi1 kV_X9_100 (by omega) aw_cl9 kp_1 (by decide) (hW.le (by decide)) rfl (Nat.le_of_ble_eq_true rfl) dX9_reach_94 (SMi.mono vc ?_)
    intro a2 n2 σ2 τ2 θ2 vc
    obtain ⟨hW, vc⟩ := vc
    exact SW.iret dX9_reach_97 rfl rfl ⟨_, rfl, vc⟩
  · replace vc := vc.2 hbr
    refine SW.iconst (v := (0 : Int32)) dX9_reach_40 (by decide) ?_
    refine SW.istore dX9_reach_41 (by decide) rfl rfl ?_
    exact vc
set_option maxHeartbeats 4000000 in
set_option maxRecDepth 20000 in
theorem sgX9_reach_43 {G : GG} {k : Nat} {q : Int32 → Nat → SG → TU → TH → Prop} {n : Nat} {σ : SG} {τ : TU} {θ : TH}  (x2 : Int32) (x3 : Int32) (x4 : Int32) (hk : 3 ≤ k)  (hW : aw_WT n θ) (vc : (((σ (θ 1 7) 13) ≤ x4) → (SW G k mX9_reach (aw_qi q) 0 0 29 [some (.ref 1), none, some (.int x2), some (.int (x3 + (1 : Int32))), none] [] (n, σ, τ, θ))) ∧ ((¬ (σ (θ 1 7) 13) ≤ x4) → (((((x2 >>> (x4 &&& 31)) &&& (1 : Int32)) = 0) → (SW G k mX9_reach (aw_qi q) 0 0 43 [some (.ref 1), none, some (.int x2), some (.int x3), some (.int (x4 + (1 : Int32)))] [] (n, σ, τ, θ))) ∧ ((¬ ((x2 >>> (x4 &&& 31)) &&& (1 : Int32)) = 0) → (SMi G 2 mX1_owedBits 0 0 [.ref (θ 1 7), .ref 6, .int x4] n σ τ θ (fun a3 n3 σ3 τ3 θ3 => aw_WT n3 θ3 ∧ (SW G k mX9_reach (aw_qi q) 0 0 43 [some (.ref 1), none, some (.int (x2 ||| a3)), some (.int x3), some (.int (x4 + (1 : Int32)))] [] (n3, σ3, τ3, θ3)))))))) : SW G k mX9_reach (aw_qi q) 0 0 43 [some (.ref 1), none, some (.int x2), some (.int x3), some (.int x4)] [] (n, σ, τ, θ) := by
  refine SW.iload dX9_reach_43 rfl ?_
  refine SW.aload_n dX9_reach_45 rfl ?_
  have hF1 := hW.f
  refine SW.getS (f := 7) (r := (θ 1 7)) aw_cl9 kp_1 (by decide) (hW.le (by decide)) (by decide) ww_472 dX9_reach_46 rfl rfl ?_
  refine SW.getI (f := 13) aw_cl1 (kpF_0 hF1) (leF_0 hF1).1 (hW.le (leF_0 hF1).2) (by decide) ww_423 dX9_reach_49 rfl ?_
  refine SW.icmp_ge 86 dX9_reach_52 (by decide) (fun hbr => ?_) (fun hbr => ?_)
  · replace vc := vc.1 hbr
    refine SW.iinc (v := (x3 + (1 : Int32))) dX9_reach_86 rfl rfl (by decide) rfl rfl ?_
    refine SW.goto 29 dX9_reach_89 (by decide) ?_
    refine SW.msk [true, true, true, true, false] rfl ?_
    exact vc
  · replace vc := vc.2 hbr
    refine SW.iload_n dX9_reach_55 rfl ?_
    refine SW.iload dX9_reach_56 rfl ?_
    refine SW.ishr dX9_reach_58 ?_
    refine SW.iconst (v := (1 : Int32)) dX9_reach_59 (by decide) ?_
    refine SW.iand dX9_reach_60 ?_
    refine SW.if_eq 80 dX9_reach_61 (by decide) (fun hbr => ?_) (fun hbr => ?_)
    · replace vc := vc.1 hbr
      refine SW.iinc (v := (x4 + (1 : Int32))) dX9_reach_80 rfl rfl (by decide) rfl rfl ?_
      refine SW.goto 43 dX9_reach_83 (by decide) ?_
      exact vc
    · replace vc := vc.2 hbr
      refine SW.iload_n dX9_reach_64 rfl ?_
      refine SW.aload_n dX9_reach_65 rfl ?_
      have hF2 := hW.f
      refine SW.getS (f := 7) (r := (θ 1 7)) aw_cl9 kp_1 (by decide) (hW.le (by decide)) (by decide) ww_472 dX9_reach_66 rfl rfl ?_
      refine SW.aload_n dX9_reach_69 rfl ?_
      refine SW.getS (f := 1) (r := 6) aw_cl9 kp_1 (by decide) (hW.le (by decide)) (by decide) ww_466 dX9_reach_70 rfl hW.t1_1 ?_
      refine SW.iload dX9_reach_73 rfl ?_
      refine SW.cvi2 kV_X9_208 (by omega) aw_cl1 (kpF_0 hF2) (leF_0 hF2).1 (hW.le (leF_0 hF2).2) rfl (Nat.le_of_ble_eq_true rfl) dX9_reach_75 (SMi.mono vc ?_)
      intro a3 n3 σ3 τ3 θ3 vc
      obtain ⟨hW, vc⟩ := vc
      refine SW.ior dX9_reach_78 ?_
      refine SW.istore_n dX9_reach_79 (by decide) rfl rfl ?_
      refine SW.iinc (v := (x4 + (1 : Int32))) dX9_reach_80 rfl rfl (by decide) rfl rfl ?_
      refine SW.goto 43 dX9_reach_83 (by decide) ?_
      exact vc
theorem ctX9_reach {G : GG} {q : Int32 → Nat → SG → TU → TH → Prop} {n : Nat} {σ : SG} {τ : TU} {θ : TH} (x1 : Int32) (h : SW G 3 mX9_reach (aw_qi q) 0 0 0 [some (.ref 1), some (.int x1), none, none, none] [] (n, σ, τ, θ)) : SMi G 3 mX9_reach 0 0 [.ref 1, .int x1] n σ τ θ q := SM.of _ rfl rfl (Nat.le_of_ble_eq_true rfl) h
set_option maxHeartbeats 4000000 in
set_option maxRecDepth 20000 in
theorem sgX9_refuse_0 {G : GG} {k : Nat} {q : Int32 → Nat → SG → TU → TH → Prop} {n : Nat} {σ : SG} {τ : TU} {θ : TH}  (x1 : Int32) (hk : 1 ≤ k)  (hW : aw_WT n θ) (vc : q (-1 : Int32) n (aw_u σ 1 10 x1) τ θ) : SW G k mX9_refuse (aw_qi q) 0 0 0 [some (.ref 1), some (.int x1)] [] (n, σ, τ, θ) := by
  refine SW.aload_n dX9_refuse_0 rfl ?_
  refine SW.iload_n dX9_refuse_1 rfl ?_
  refine SW.putI (f := 10) aw_cl9 kp_1 (by decide) (hW.le (by decide)) (by decide) ww_475 (Or.inl rfl) dX9_refuse_2 rfl rfl rfl ?_
  refine SW.iconst (v := (-1 : Int32)) dX9_refuse_5 (by decide) ?_
  exact SW.iret dX9_refuse_6 rfl rfl ⟨_, rfl, vc⟩
theorem ctX9_refuse {G : GG} {q : Int32 → Nat → SG → TU → TH → Prop} {n : Nat} {σ : SG} {τ : TU} {θ : TH} (x1 : Int32) (h : SW G 1 mX9_refuse (aw_qi q) 0 0 0 [some (.ref 1), some (.int x1)] [] (n, σ, τ, θ)) : SMi G 1 mX9_refuse 0 0 [.ref 1, .int x1] n σ τ θ q := SM.of _ rfl rfl (Nat.le_of_ble_eq_true rfl) h
set_option maxHeartbeats 4000000 in
set_option maxRecDepth 20000 in
theorem sgX9_rest_0 {G : GG} {k : Nat} {q : Int32 → Nat → SG → TU → TH → Prop} {n : Nat} {σ : SG} {τ : TU} {θ : TH}  (x1 : Int32) (x2 : Int32) (x3 : Int32) (hk : 3 ≤ k)  (hW : aw_WT n θ) (vc : SMi G 2 mX9_troubleOfDispute 0 0 [.ref 1, .int x1, .int x2, .int x3] n σ τ θ (fun a1 n1 σ1 τ1 θ1 => aw_WT n1 θ1 ∧ (((a1 = 0) → (SW G k mX9_rest (aw_qi q) 0 0 24 [some (.ref 1), some (.int x1), some (.int x2), some (.int x3), none, some (.int (0 : Int32))] [] (n1, σ1, τ1, θ1))) ∧ ((¬ a1 = 0) → (SMi G 1 mX9_refuse 0 0 [.ref 1, .int a1] n1 σ1 τ1 θ1 (fun a2 n2 σ2 τ2 θ2 => aw_WT n2 θ2 ∧ (q a2 n2 σ2 τ2 θ2))))))) : SW G k mX9_rest (aw_qi q) 0 0 0 [some (.ref 1), some (.int x1), some (.int x2), some (.int x3), none, none] [] (n, σ, τ, θ) := by
  refine SW.aload_n dX9_rest_0 rfl ?_
  refine SW.iload_n dX9_rest_1 rfl ?_
  refine SW.iload_n dX9_rest_2 rfl ?_
  refine SW.iload_n dX9_rest_3 rfl ?_
  refine SW.cvi3 kV_X9_260 (by omega) aw_cl9 kp_1 (by decide) (hW.le (by decide)) rfl (Nat.le_of_ble_eq_true rfl) dX9_rest_4 (SMi.mono vc ?_)
  intro a1 n1 σ1 τ1 θ1 vc
  obtain ⟨hW, vc⟩ := vc
  refine SW.istore dX9_rest_7 (by decide) rfl rfl ?_
  refine SW.iload dX9_rest_9 rfl ?_
  refine SW.if_eq 21 dX9_rest_11 (by decide) (fun hbr => ?_) (fun hbr => ?_)
  · replace vc := vc.1 hbr
    refine SW.iconst (v := (0 : Int32)) dX9_rest_21 (by decide) ?_
    refine SW.istore dX9_rest_22 (by decide) rfl rfl ?_
    refine SW.msk [true, true, true, true, false, true] rfl ?_
    exact vc
  · replace vc := vc.2 hbr
    refine SW.aload_n dX9_rest_14 rfl ?_
    refine SW.iload dX9_rest_15 rfl ?_
    refine SW.cvi1 kV_X9_82 (by omega) aw_cl9 kp_1 (by decide) (hW.le (by decide)) rfl (Nat.le_of_ble_eq_true rfl) dX9_rest_17 (SMi.mono vc ?_)
    intro a2 n2 σ2 τ2 θ2 vc
    obtain ⟨hW, vc⟩ := vc
    exact SW.iret dX9_rest_20 rfl rfl ⟨_, rfl, vc⟩
set_option maxHeartbeats 4000000 in
set_option maxRecDepth 20000 in
theorem sgX9_rest_24 {G : GG} {k : Nat} {q : Int32 → Nat → SG → TU → TH → Prop} {n : Nat} {σ : SG} {τ : TU} {θ : TH}  (x1 : Int32) (x2 : Int32) (x3 : Int32) (x5 : Int32) (hk : 3 ≤ k)  (hW : aw_WT n θ) (vc : (((4 : Int32) ≤ x5) → (SMi G 1 mX9_grant 0 0 [.ref 1, .int (-2 : Int32)] n σ τ θ (fun a1 n1 σ1 τ1 θ1 => aw_WT n1 θ1 ∧ (q a1 n1 σ1 τ1 θ1)))) ∧ ((¬ (4 : Int32) ≤ x5) → (SMi G 2 mX9_isRest 0 0 [.ref 1, .int x1, .int x2, .int x3, .int x5] n σ τ θ (fun a2 n2 σ2 τ2 θ2 => aw_WT n2 θ2 ∧ (((a2 = 0) → (SW G k mX9_rest (aw_qi q) 0 0 24 [some (.ref 1), some (.int x1), some (.int x2), some (.int x3), none, some (.int (x5 + (1 : Int32)))] [] (n2, σ2, τ2, θ2))) ∧ ((¬ a2 = 0) → (SMi G 1 mX9_grant 0 0 [.ref 1, .int (((x5 >>> ((1 : Int32) &&& 31)) * (10 : Int32)) + (x5 &&& (1 : Int32)))] n2 σ2 τ2 θ2 (fun a3 n3 σ3 τ3 θ3 => aw_WT n3 θ3 ∧ (q a3 n3 σ3 τ3 θ3))))))))) : SW G k mX9_rest (aw_qi q) 0 0 24 [some (.ref 1), some (.int x1), some (.int x2), some (.int x3), none, some (.int x5)] [] (n, σ, τ, θ) := by
  refine SW.iload dX9_rest_24 rfl ?_
  refine SW.iconst (v := (4 : Int32)) dX9_rest_26 (by decide) ?_
  refine SW.icmp_ge 65 dX9_rest_27 (by decide) (fun hbr => ?_) (fun hbr => ?_)
  · replace vc := vc.1 hbr
    refine SW.aload_n dX9_rest_65 rfl ?_
    refine SW.bipush (v := (-2 : Int32)) dX9_rest_66 (by decide) ?_
    refine SW.cvi1 kV_X9_100 (by omega) aw_cl9 kp_1 (by decide) (hW.le (by decide)) rfl (Nat.le_of_ble_eq_true rfl) dX9_rest_68 (SMi.mono vc ?_)
    intro a1 n1 σ1 τ1 θ1 vc
    obtain ⟨hW, vc⟩ := vc
    exact SW.iret dX9_rest_71 rfl rfl ⟨_, rfl, vc⟩
  · replace vc := vc.2 hbr
    refine SW.aload_n dX9_rest_30 rfl ?_
    refine SW.iload_n dX9_rest_31 rfl ?_
    refine SW.iload_n dX9_rest_32 rfl ?_
    refine SW.iload_n dX9_rest_33 rfl ?_
    refine SW.iload dX9_rest_34 rfl ?_
    refine SW.cvi4 kV_X9_268 (by omega) aw_cl9 kp_1 (by decide) (hW.le (by decide)) rfl (Nat.le_of_ble_eq_true rfl) dX9_rest_36 (SMi.mono vc ?_)
    intro a2 n2 σ2 τ2 θ2 vc
    obtain ⟨hW, vc⟩ := vc
    refine SW.if_eq 59 dX9_rest_39 (by decide) (fun hbr => ?_) (fun hbr => ?_)
    · replace vc := vc.1 hbr
      refine SW.iinc (v := (x5 + (1 : Int32))) dX9_rest_59 rfl rfl (by decide) rfl rfl ?_
      refine SW.goto 24 dX9_rest_62 (by decide) ?_
      exact vc
    · replace vc := vc.2 hbr
      refine SW.aload_n dX9_rest_42 rfl ?_
      refine SW.iload dX9_rest_43 rfl ?_
      refine SW.iconst (v := (1 : Int32)) dX9_rest_45 (by decide) ?_
      refine SW.ishr dX9_rest_46 ?_
      refine SW.bipush (v := (10 : Int32)) dX9_rest_47 (by decide) ?_
      refine SW.imul dX9_rest_49 ?_
      refine SW.iload dX9_rest_50 rfl ?_
      refine SW.iconst (v := (1 : Int32)) dX9_rest_52 (by decide) ?_
      refine SW.iand dX9_rest_53 ?_
      refine SW.iadd dX9_rest_54 ?_
      refine SW.cvi1 kV_X9_100 (by omega) aw_cl9 kp_1 (by decide) (hW.le (by decide)) rfl (Nat.le_of_ble_eq_true rfl) dX9_rest_55 (SMi.mono vc ?_)
      intro a3 n3 σ3 τ3 θ3 vc
      obtain ⟨hW, vc⟩ := vc
      exact SW.iret dX9_rest_58 rfl rfl ⟨_, rfl, vc⟩
theorem ctX9_rest {G : GG} {q : Int32 → Nat → SG → TU → TH → Prop} {n : Nat} {σ : SG} {τ : TU} {θ : TH} (x1 : Int32) (x2 : Int32) (x3 : Int32) (h : SW G 3 mX9_rest (aw_qi q) 0 0 0 [some (.ref 1), some (.int x1), some (.int x2), some (.int x3), none, none] [] (n, σ, τ, θ)) : SMi G 3 mX9_rest 0 0 [.ref 1, .int x1, .int x2, .int x3] n σ τ θ q := SM.of _ rfl rfl (Nat.le_of_ble_eq_true rfl) h
set_option maxHeartbeats 4000000 in
set_option maxRecDepth 20000 in
theorem sgX9_rests_0 {G : GG} {k : Nat} {q : Int32 → Nat → SG → TU → TH → Prop} {n : Nat} {σ : SG} {τ : TU} {θ : TH}  (x1 : Int32) (x2 : Int32) (x3 : Int32) (hk : 3 ≤ k)  (hW : aw_WT n θ) (vc : SMi G 2 mX9_troubleOfDispute 0 0 [.ref 1, .int x1, .int x2, .int x3] n σ τ θ (fun a1 n1 σ1 τ1 θ1 => aw_WT n1 θ1 ∧ (((a1 = 0) → (SW G k mX9_rests (aw_qi q) 0 0 27 [some (.ref 1), some (.int x1), some (.int x2), some (.int x3), none, some (.int (0 : Int32)), some (.int (0 : Int32))] [] (n1, σ1, τ1, θ1))) ∧ ((¬ a1 = 0) → (SMi G 1 mX9_refuse 0 0 [.ref 1, .int a1] n1 σ1 τ1 θ1 (fun a2 n2 σ2 τ2 θ2 => aw_WT n2 θ2 ∧ (q a2 n2 σ2 τ2 θ2))))))) : SW G k mX9_rests (aw_qi q) 0 0 0 [some (.ref 1), some (.int x1), some (.int x2), some (.int x3), none, none, none] [] (n, σ, τ, θ) := by
  refine SW.aload_n dX9_rests_0 rfl ?_
  refine SW.iload_n dX9_rests_1 rfl ?_
  refine SW.iload_n dX9_rests_2 rfl ?_
  refine SW.iload_n dX9_rests_3 rfl ?_
  refine SW.cvi3 kV_X9_260 (by omega) aw_cl9 kp_1 (by decide) (hW.le (by decide)) rfl (Nat.le_of_ble_eq_true rfl) dX9_rests_4 (SMi.mono vc ?_)
  intro a1 n1 σ1 τ1 θ1 vc
  obtain ⟨hW, vc⟩ := vc
  refine SW.istore dX9_rests_7 (by decide) rfl rfl ?_
  refine SW.iload dX9_rests_9 rfl ?_
  refine SW.if_eq 21 dX9_rests_11 (by decide) (fun hbr => ?_) (fun hbr => ?_)
  · replace vc := vc.1 hbr
    refine SW.iconst (v := (0 : Int32)) dX9_rests_21 (by decide) ?_
    refine SW.istore dX9_rests_22 (by decide) rfl rfl ?_
    refine SW.iconst (v := (0 : Int32)) dX9_rests_24 (by decide) ?_
    refine SW.istore dX9_rests_25 (by decide) rfl rfl ?_
    refine SW.msk [true, true, true, true, false, true, true] rfl ?_
    exact vc
  · replace vc := vc.2 hbr
    refine SW.aload_n dX9_rests_14 rfl ?_
    refine SW.iload dX9_rests_15 rfl ?_
    refine SW.cvi1 kV_X9_82 (by omega) aw_cl9 kp_1 (by decide) (hW.le (by decide)) rfl (Nat.le_of_ble_eq_true rfl) dX9_rests_17 (SMi.mono vc ?_)
    intro a2 n2 σ2 τ2 θ2 vc
    obtain ⟨hW, vc⟩ := vc
    exact SW.iret dX9_rests_20 rfl rfl ⟨_, rfl, vc⟩
set_option maxHeartbeats 4000000 in
set_option maxRecDepth 20000 in
theorem sgX9_rests_27 {G : GG} {k : Nat} {q : Int32 → Nat → SG → TU → TH → Prop} {n : Nat} {σ : SG} {τ : TU} {θ : TH}  (x1 : Int32) (x2 : Int32) (x3 : Int32) (x5 : Int32) (x6 : Int32) (hk : 3 ≤ k)  (hW : aw_WT n θ) (vc : (((4 : Int32) ≤ x6) → (SMi G 1 mX9_grant 0 0 [.ref 1, .int x5] n σ τ θ (fun a1 n1 σ1 τ1 θ1 => aw_WT n1 θ1 ∧ (q a1 n1 σ1 τ1 θ1)))) ∧ ((¬ (4 : Int32) ≤ x6) → (SMi G 2 mX9_isRest 0 0 [.ref 1, .int x1, .int x2, .int x3, .int x6] n σ τ θ (fun a2 n2 σ2 τ2 θ2 => aw_WT n2 θ2 ∧ (((a2 = 0) → (SW G k mX9_rests (aw_qi q) 0 0 27 [some (.ref 1), some (.int x1), some (.int x2), some (.int x3), none, some (.int x5), some (.int (x6 + (1 : Int32)))] [] (n2, σ2, τ2, θ2))) ∧ ((¬ a2 = 0) → (SW G k mX9_rests (aw_qi q) 0 0 27 [some (.ref 1), some (.int x1), some (.int x2), some (.int x3), none, some (.int (x5 + (1 : Int32))), some (.int (x6 + (1 : Int32)))] [] (n2, σ2, τ2, θ2)))))))) : SW G k mX9_rests (aw_qi q) 0 0 27 [some (.ref 1), some (.int x1), some (.int x2), some (.int x3), none, some (.int x5), some (.int x6)] [] (n, σ, τ, θ) := by
  refine SW.iload dX9_rests_27 rfl ?_
  refine SW.iconst (v := (4 : Int32)) dX9_rests_29 (by decide) ?_
  refine SW.icmp_ge 54 dX9_rests_30 (by decide) (fun hbr => ?_) (fun hbr => ?_)
  · replace vc := vc.1 hbr
    refine SW.aload_n dX9_rests_54 rfl ?_
    refine SW.iload dX9_rests_55 rfl ?_
    refine SW.cvi1 kV_X9_100 (by omega) aw_cl9 kp_1 (by decide) (hW.le (by decide)) rfl (Nat.le_of_ble_eq_true rfl) dX9_rests_57 (SMi.mono vc ?_)
    intro a1 n1 σ1 τ1 θ1 vc
    obtain ⟨hW, vc⟩ := vc
    exact SW.iret dX9_rests_60 rfl rfl ⟨_, rfl, vc⟩
  · replace vc := vc.2 hbr
    refine SW.aload_n dX9_rests_33 rfl ?_
    refine SW.iload_n dX9_rests_34 rfl ?_
    refine SW.iload_n dX9_rests_35 rfl ?_
    refine SW.iload_n dX9_rests_36 rfl ?_
    refine SW.iload dX9_rests_37 rfl ?_
    refine SW.cvi4 kV_X9_268 (by omega) aw_cl9 kp_1 (by decide) (hW.le (by decide)) rfl (Nat.le_of_ble_eq_true rfl) dX9_rests_39 (SMi.mono vc ?_)
    intro a2 n2 σ2 τ2 θ2 vc
    obtain ⟨hW, vc⟩ := vc
    refine SW.if_eq 48 dX9_rests_42 (by decide) (fun hbr => ?_) (fun hbr => ?_)
    · replace vc := vc.1 hbr
      refine SW.iinc (v := (x6 + (1 : Int32))) dX9_rests_48 rfl rfl (by decide) rfl rfl ?_
      refine SW.goto 27 dX9_rests_51 (by decide) ?_
      exact vc
    · replace vc := vc.2 hbr
      refine SW.iinc (v := (x5 + (1 : Int32))) dX9_rests_45 rfl rfl (by decide) rfl rfl ?_
      refine SW.iinc (v := (x6 + (1 : Int32))) dX9_rests_48 rfl rfl (by decide) rfl rfl ?_
      refine SW.goto 27 dX9_rests_51 (by decide) ?_
      exact vc
theorem ctX9_rests {G : GG} {q : Int32 → Nat → SG → TU → TH → Prop} {n : Nat} {σ : SG} {τ : TU} {θ : TH} (x1 : Int32) (x2 : Int32) (x3 : Int32) (h : SW G 3 mX9_rests (aw_qi q) 0 0 0 [some (.ref 1), some (.int x1), some (.int x2), some (.int x3), none, none, none] [] (n, σ, τ, θ)) : SMi G 3 mX9_rests 0 0 [.ref 1, .int x1, .int x2, .int x3] n σ τ θ q := SM.of _ rfl rfl (Nat.le_of_ble_eq_true rfl) h
set_option maxHeartbeats 4000000 in
set_option maxRecDepth 20000 in
theorem sgX9_ring_0 {G : GG} {k : Nat} {q : Int32 → Nat → SG → TU → TH → Prop} {n : Nat} {σ : SG} {τ : TU} {θ : TH}  (x1 : Int32) (hk : 5 ≤ k)  (hW : aw_WT n θ) (vc : SMi G 1 mX9_isMan 0 0 [.ref 1, .int x1] n σ τ θ (fun a1 n1 σ1 τ1 θ1 => aw_WT n1 θ1 ∧ (((¬ a1 = 0) → (SMi G 4 mX6_find 0 0 [.ref 73, .ref (θ1 1 7), .ref 6, .int x1] n1 σ1 τ1 θ1 (fun a3 n3 σ3 τ3 θ3 => aw_WT n3 θ3 ∧ (((a3 = 0) → (SMi G 1 mX9_grant 0 0 [.ref 1, .int (-2 : Int32)] n3 σ3 τ3 θ3 (fun a4 n4 σ4 τ4 θ4 => aw_WT n4 θ4 ∧ (q a4 n4 σ4 τ4 θ4)))) ∧ ((¬ a3 = 0) → (SMi G 1 mX9_grant 0 0 [.ref 1, .int (σ3 73 1)] n3 σ3 τ3 θ3 (fun a5 n5 σ5 τ5 θ5 => aw_WT n5 θ5 ∧ (q a5 n5 σ5 τ5 θ5)))))))) ∧ ((a1 = 0) → (SMi G 1 mX9_refuse 0 0 [.ref 1, .int (1 : Int32)] n1 σ1 τ1 θ1 (fun a6 n6 σ6 τ6 θ6 => aw_WT n6 θ6 ∧ (q a6 n6 σ6 τ6 θ6))))))) : SW G k mX9_ring (aw_qi q) 0 0 0 [some (.ref 1), some (.int x1)] [] (n, σ, τ, θ) := by
  refine SW.aload_n dX9_ring_0 rfl ?_
  refine SW.iload_n dX9_ring_1 rfl ?_
  refine SW.cvi1 kV_X9_106 (by omega) aw_cl9 kp_1 (by decide) (hW.le (by decide)) rfl (Nat.le_of_ble_eq_true rfl) dX9_ring_2 (SMi.mono vc ?_)
  intro a1 n1 σ1 τ1 θ1 vc
  obtain ⟨hW, vc⟩ := vc
  refine SW.if_ne 14 dX9_ring_5 (by decide) (fun hbr => ?_) (fun hbr => ?_)
  · replace vc := vc.1 hbr
    refine SW.aload_n dX9_ring_14 rfl ?_
    refine SW.aload_n dX9_ring_15 rfl ?_
    refine SW.getS (f := 4) (r := 73) aw_cl9 kp_1 (by decide) (hW.le (by decide)) (by decide) ww_469 dX9_ring_16 rfl hW.t1_4 ?_
    refine SW.aload_n dX9_ring_19 rfl ?_
    have hF2 := hW.f
    refine SW.getS (f := 7) (r := (θ1 1 7)) aw_cl9 kp_1 (by decide) (hW.le (by decide)) (by decide) ww_472 dX9_ring_20 rfl rfl ?_
    refine SW.aload_n dX9_ring_23 rfl ?_
    refine SW.getS (f := 1) (r := 6) aw_cl9 kp_1 (by decide) (hW.le (by decide)) (by decide) ww_466 dX9_ring_24 rfl hW.t1_1 ?_
    refine SW.iload_n dX9_ring_27 rfl ?_
    refine SW.cvi3 kV_X9_195 (by omega) aw_cl6 kp_73 (by decide) (hW.le (by decide)) rfl (Nat.le_of_ble_eq_true rfl) dX9_ring_28 (SMi.mono vc ?_)
    intro a3 n3 σ3 τ3 θ3 vc
    obtain ⟨hW, vc⟩ := vc
    refine SW.if_eq 44 dX9_ring_31 (by decide) (fun hbr => ?_) (fun hbr => ?_)
    · replace vc := vc.1 hbr
      refine SW.bipush (v := (-2 : Int32)) dX9_ring_44 (by decide) ?_
      refine SW.cvi1 kV_X9_100 (by omega) aw_cl9 kp_1 (by decide) (hW.le (by decide)) rfl (Nat.le_of_ble_eq_true rfl) dX9_ring_46 (SMi.mono vc ?_)
      intro a4 n4 σ4 τ4 θ4 vc
      obtain ⟨hW, vc⟩ := vc
      exact SW.iret dX9_ring_49 rfl rfl ⟨_, rfl, vc⟩
    · replace vc := vc.2 hbr
      refine SW.aload_n dX9_ring_34 rfl ?_
      refine SW.getS (f := 4) (r := 73) aw_cl9 kp_1 (by decide) (hW.le (by decide)) (by decide) ww_469 dX9_ring_35 rfl hW.t1_4 ?_
      refine SW.getI (f := 1) aw_cl6 kp_73 (by decide) (hW.le (by decide)) (by decide) ww_267 dX9_ring_38 rfl ?_
      refine SW.goto 46 dX9_ring_41 (by decide) ?_
      refine SW.cvi1 kV_X9_100 (by omega) aw_cl9 kp_1 (by decide) (hW.le (by decide)) rfl (Nat.le_of_ble_eq_true rfl) dX9_ring_46 (SMi.mono vc ?_)
      intro a5 n5 σ5 τ5 θ5 vc
      obtain ⟨hW, vc⟩ := vc
      exact SW.iret dX9_ring_49 rfl rfl ⟨_, rfl, vc⟩
  · replace vc := vc.2 hbr
    refine SW.aload_n dX9_ring_8 rfl ?_
    refine SW.iconst (v := (1 : Int32)) dX9_ring_9 (by decide) ?_
    refine SW.cvi1 kV_X9_82 (by omega) aw_cl9 kp_1 (by decide) (hW.le (by decide)) rfl (Nat.le_of_ble_eq_true rfl) dX9_ring_10 (SMi.mono vc ?_)
    intro a6 n6 σ6 τ6 θ6 vc
    obtain ⟨hW, vc⟩ := vc
    exact SW.iret dX9_ring_13 rfl rfl ⟨_, rfl, vc⟩
theorem ctX9_ring {G : GG} {q : Int32 → Nat → SG → TU → TH → Prop} {n : Nat} {σ : SG} {τ : TU} {θ : TH} (x1 : Int32) (h : SW G 5 mX9_ring (aw_qi q) 0 0 0 [some (.ref 1), some (.int x1)] [] (n, σ, τ, θ)) : SMi G 5 mX9_ring 0 0 [.ref 1, .int x1] n σ τ θ q := SM.of _ rfl rfl (Nat.le_of_ble_eq_true rfl) h
set_option maxHeartbeats 4000000 in
set_option maxRecDepth 20000 in
theorem sgX9_ringAt_0 {G : GG} {k : Nat} {q : Int32 → Nat → SG → TU → TH → Prop} {n : Nat} {σ : SG} {τ : TU} {θ : TH}  (x1 : Int32) (x2 : Int32) (hk : 5 ≤ k)  (hW : aw_WT n θ) (vc : SMi G 1 mX9_isMan 0 0 [.ref 1, .int x1] n σ τ θ (fun a1 n1 σ1 τ1 θ1 => aw_WT n1 θ1 ∧ (((a1 = 0) → (SMi G 1 mX9_refuse 0 0 [.ref 1, .int (1 : Int32)] n1 σ1 τ1 θ1 (fun a2 n2 σ2 τ2 θ2 => aw_WT n2 θ2 ∧ (q a2 n2 σ2 τ2 θ2)))) ∧ ((¬ a1 = 0) → (SMi G 4 mX6_find 0 0 [.ref 73, .ref (θ1 1 7), .ref 6, .int x1] n1 σ1 τ1 θ1 (fun a4 n4 σ4 τ4 θ4 => aw_WT n4 θ4 ∧ (((a4 = 0) → (SMi G 1 mX9_refuse 0 0 [.ref 1, .int (1 : Int32)] n4 σ4 τ4 θ4 (fun a5 n5 σ5 τ5 θ5 => aw_WT n5 θ5 ∧ (q a5 n5 σ5 τ5 θ5)))) ∧ ((¬ a4 = 0) → (((x2 < 0) → (SMi G 1 mX9_refuse 0 0 [.ref 1, .int (1 : Int32)] n4 σ4 τ4 θ4 (fun a6 n6 σ6 τ6 θ6 => aw_WT n6 θ6 ∧ (q a6 n6 σ6 τ6 θ6)))) ∧ ((¬ x2 < 0) → (((x2 < (σ4 73 1)) → (vp_in x2 5 ∧ (SMi G 1 mX9_grant 0 0 [.ref 1, .int (σ4 74 x2.toNatClampNeg)] n4 σ4 τ4 θ4 (fun a7 n7 σ7 τ7 θ7 => aw_WT n7 θ7 ∧ (q a7 n7 σ7 τ7 θ7))))) ∧ ((¬ x2 < (σ4 73 1)) → (SMi G 1 mX9_refuse 0 0 [.ref 1, .int (1 : Int32)] n4 σ4 τ4 θ4 (fun a8 n8 σ8 τ8 θ8 => aw_WT n8 θ8 ∧ (q a8 n8 σ8 τ8 θ8))))))))))))))) : SW G k mX9_ringAt (aw_qi q) 0 0 0 [some (.ref 1), some (.int x1), some (.int x2)] [] (n, σ, τ, θ) := by
  refine SW.aload_n dX9_ringAt_0 rfl ?_
  refine SW.iload_n dX9_ringAt_1 rfl ?_
  refine SW.cvi1 kV_X9_106 (by omega) aw_cl9 kp_1 (by decide) (hW.le (by decide)) rfl (Nat.le_of_ble_eq_true rfl) dX9_ringAt_2 (SMi.mono vc ?_)
  intro a1 n1 σ1 τ1 θ1 vc
  obtain ⟨hW, vc⟩ := vc
  refine SW.if_eq 42 dX9_ringAt_5 (by decide) (fun hbr => ?_) (fun hbr => ?_)
  · replace vc := vc.1 hbr
    refine SW.aload_n dX9_ringAt_42 rfl ?_
    refine SW.iconst (v := (1 : Int32)) dX9_ringAt_43 (by decide) ?_
    refine SW.cvi1 kV_X9_82 (by omega) aw_cl9 kp_1 (by decide) (hW.le (by decide)) rfl (Nat.le_of_ble_eq_true rfl) dX9_ringAt_44 (SMi.mono vc ?_)
    intro a2 n2 σ2 τ2 θ2 vc
    obtain ⟨hW, vc⟩ := vc
    exact SW.iret dX9_ringAt_47 rfl rfl ⟨_, rfl, vc⟩
  · replace vc := vc.2 hbr
    refine SW.aload_n dX9_ringAt_8 rfl ?_
    refine SW.getS (f := 4) (r := 73) aw_cl9 kp_1 (by decide) (hW.le (by decide)) (by decide) ww_469 dX9_ringAt_9 rfl hW.t1_4 ?_
    refine SW.aload_n dX9_ringAt_12 rfl ?_
    have hF3 := hW.f
    refine SW.getS (f := 7) (r := (θ1 1 7)) aw_cl9 kp_1 (by decide) (hW.le (by decide)) (by decide) ww_472 dX9_ringAt_13 rfl rfl ?_
    refine SW.aload_n dX9_ringAt_16 rfl ?_
    refine SW.getS (f := 1) (r := 6) aw_cl9 kp_1 (by decide) (hW.le (by decide)) (by decide) ww_466 dX9_ringAt_17 rfl hW.t1_1 ?_
    refine SW.iload_n dX9_ringAt_20 rfl ?_
    refine SW.cvi3 kV_X9_195 (by omega) aw_cl6 kp_73 (by decide) (hW.le (by decide)) rfl (Nat.le_of_ble_eq_true rfl) dX9_ringAt_21 (SMi.mono vc ?_)
    intro a4 n4 σ4 τ4 θ4 vc
    obtain ⟨hW, vc⟩ := vc
    refine SW.if_eq 42 dX9_ringAt_24 (by decide) (fun hbr => ?_) (fun hbr => ?_)
    · replace vc := vc.1 hbr
      refine SW.aload_n dX9_ringAt_42 rfl ?_
      refine SW.iconst (v := (1 : Int32)) dX9_ringAt_43 (by decide) ?_
      refine SW.cvi1 kV_X9_82 (by omega) aw_cl9 kp_1 (by decide) (hW.le (by decide)) rfl (Nat.le_of_ble_eq_true rfl) dX9_ringAt_44 (SMi.mono vc ?_)
      intro a5 n5 σ5 τ5 θ5 vc
      obtain ⟨hW, vc⟩ := vc
      exact SW.iret dX9_ringAt_47 rfl rfl ⟨_, rfl, vc⟩
    · replace vc := vc.2 hbr
      refine SW.iload_n dX9_ringAt_27 rfl ?_
      refine SW.if_lt 42 dX9_ringAt_28 (by decide) (fun hbr => ?_) (fun hbr => ?_)
      · replace vc := vc.1 hbr
        refine SW.aload_n dX9_ringAt_42 rfl ?_
        refine SW.iconst (v := (1 : Int32)) dX9_ringAt_43 (by decide) ?_
        refine SW.cvi1 kV_X9_82 (by omega) aw_cl9 kp_1 (by decide) (hW.le (by decide)) rfl (Nat.le_of_ble_eq_true rfl) dX9_ringAt_44 (SMi.mono vc ?_)
        intro a6 n6 σ6 τ6 θ6 vc
        obtain ⟨hW, vc⟩ := vc
        exact SW.iret dX9_ringAt_47 rfl rfl ⟨_, rfl, vc⟩
      · replace vc := vc.2 hbr
        refine SW.iload_n dX9_ringAt_31 rfl ?_
        refine SW.aload_n dX9_ringAt_32 rfl ?_
        refine SW.getS (f := 4) (r := 73) aw_cl9 kp_1 (by decide) (hW.le (by decide)) (by decide) ww_469 dX9_ringAt_33 rfl hW.t1_4 ?_
        refine SW.getI (f := 1) aw_cl6 kp_73 (by decide) (hW.le (by decide)) (by decide) ww_267 dX9_ringAt_36 rfl ?_
        refine SW.icmp_lt 48 dX9_ringAt_39 (by decide) (fun hbr => ?_) (fun hbr => ?_)
        · replace vc := vc.1 hbr
          refine SW.aload_n dX9_ringAt_48 rfl ?_
          refine SW.aload_n dX9_ringAt_49 rfl ?_
          refine SW.getS (f := 4) (r := 73) aw_cl9 kp_1 (by decide) (hW.le (by decide)) (by decide) ww_469 dX9_ringAt_50 rfl hW.t1_4 ?_
          refine SW.getS (f := 0) (r := 74) aw_cl6 kp_73 (by decide) (hW.le (by decide)) (by decide) ww_265 dX9_ringAt_53 rfl hW.t73_0 ?_
          refine SW.iload_n dX9_ringAt_56 rfl ?_
          refine SW.iald kp_74 (by decide) (hW.le (by decide)) vc.1 dX9_ringAt_57 ?_
          replace vc := vc.2
          refine SW.cvi1 kV_X9_100 (by omega) aw_cl9 kp_1 (by decide) (hW.le (by decide)) rfl (Nat.le_of_ble_eq_true rfl) dX9_ringAt_58 (SMi.mono vc ?_)
          intro a7 n7 σ7 τ7 θ7 vc
          obtain ⟨hW, vc⟩ := vc
          exact SW.iret dX9_ringAt_61 rfl rfl ⟨_, rfl, vc⟩
        · replace vc := vc.2 hbr
          refine SW.aload_n dX9_ringAt_42 rfl ?_
          refine SW.iconst (v := (1 : Int32)) dX9_ringAt_43 (by decide) ?_
          refine SW.cvi1 kV_X9_82 (by omega) aw_cl9 kp_1 (by decide) (hW.le (by decide)) rfl (Nat.le_of_ble_eq_true rfl) dX9_ringAt_44 (SMi.mono vc ?_)
          intro a8 n8 σ8 τ8 θ8 vc
          obtain ⟨hW, vc⟩ := vc
          exact SW.iret dX9_ringAt_47 rfl rfl ⟨_, rfl, vc⟩
theorem ctX9_ringAt {G : GG} {q : Int32 → Nat → SG → TU → TH → Prop} {n : Nat} {σ : SG} {τ : TU} {θ : TH} (x1 : Int32) (x2 : Int32) (h : SW G 5 mX9_ringAt (aw_qi q) 0 0 0 [some (.ref 1), some (.int x1), some (.int x2)] [] (n, σ, τ, θ)) : SMi G 5 mX9_ringAt 0 0 [.ref 1, .int x1, .int x2] n σ τ θ q := SM.of _ rfl rfl (Nat.le_of_ble_eq_true rfl) h
set_option maxHeartbeats 4000000 in
set_option maxRecDepth 20000 in
theorem sgX9_ringSum_0 {G : GG} {k : Nat} {q : Int32 → Nat → SG → TU → TH → Prop} {n : Nat} {σ : SG} {τ : TU} {θ : TH}  (x1 : Int32) (hk : 5 ≤ k)  (hW : aw_WT n θ) (vc : SMi G 1 mX9_isMan 0 0 [.ref 1, .int x1] n σ τ θ (fun a1 n1 σ1 τ1 θ1 => aw_WT n1 θ1 ∧ (((¬ a1 = 0) → (SMi G 4 mX6_find 0 0 [.ref 73, .ref (θ1 1 7), .ref 6, .int x1] n1 σ1 τ1 θ1 (fun a3 n3 σ3 τ3 θ3 => aw_WT n3 θ3 ∧ (((a3 = 0) → (SMi G 1 mX9_grant 0 0 [.ref 1, .int (-2 : Int32)] n3 σ3 τ3 θ3 (fun a4 n4 σ4 τ4 θ4 => aw_WT n4 θ4 ∧ (q a4 n4 σ4 τ4 θ4)))) ∧ ((¬ a3 = 0) → (SMi G 3 mX6_sum 0 0 [.ref 73, .ref (θ3 1 7), .ref 6] n3 σ3 τ3 θ3 (fun a6 n6 σ6 τ6 θ6 => aw_WT n6 θ6 ∧ (SMi G 1 mX9_grant 0 0 [.ref 1, .int a6] n6 σ6 τ6 θ6 (fun a7 n7 σ7 τ7 θ7 => aw_WT n7 θ7 ∧ (q a7 n7 σ7 τ7 θ7)))))))))) ∧ ((a1 = 0) → (SMi G 1 mX9_refuse 0 0 [.ref 1, .int (1 : Int32)] n1 σ1 τ1 θ1 (fun a8 n8 σ8 τ8 θ8 => aw_WT n8 θ8 ∧ (q a8 n8 σ8 τ8 θ8))))))) : SW G k mX9_ringSum (aw_qi q) 0 0 0 [some (.ref 1), some (.int x1)] [] (n, σ, τ, θ) := by
  refine SW.aload_n dX9_ringSum_0 rfl ?_
  refine SW.iload_n dX9_ringSum_1 rfl ?_
  refine SW.cvi1 kV_X9_106 (by omega) aw_cl9 kp_1 (by decide) (hW.le (by decide)) rfl (Nat.le_of_ble_eq_true rfl) dX9_ringSum_2 (SMi.mono vc ?_)
  intro a1 n1 σ1 τ1 θ1 vc
  obtain ⟨hW, vc⟩ := vc
  refine SW.if_ne 14 dX9_ringSum_5 (by decide) (fun hbr => ?_) (fun hbr => ?_)
  · replace vc := vc.1 hbr
    refine SW.aload_n dX9_ringSum_14 rfl ?_
    refine SW.aload_n dX9_ringSum_15 rfl ?_
    refine SW.getS (f := 4) (r := 73) aw_cl9 kp_1 (by decide) (hW.le (by decide)) (by decide) ww_469 dX9_ringSum_16 rfl hW.t1_4 ?_
    refine SW.aload_n dX9_ringSum_19 rfl ?_
    have hF2 := hW.f
    refine SW.getS (f := 7) (r := (θ1 1 7)) aw_cl9 kp_1 (by decide) (hW.le (by decide)) (by decide) ww_472 dX9_ringSum_20 rfl rfl ?_
    refine SW.aload_n dX9_ringSum_23 rfl ?_
    refine SW.getS (f := 1) (r := 6) aw_cl9 kp_1 (by decide) (hW.le (by decide)) (by decide) ww_466 dX9_ringSum_24 rfl hW.t1_1 ?_
    refine SW.iload_n dX9_ringSum_27 rfl ?_
    refine SW.cvi3 kV_X9_195 (by omega) aw_cl6 kp_73 (by decide) (hW.le (by decide)) rfl (Nat.le_of_ble_eq_true rfl) dX9_ringSum_28 (SMi.mono vc ?_)
    intro a3 n3 σ3 τ3 θ3 vc
    obtain ⟨hW, vc⟩ := vc
    refine SW.if_eq 52 dX9_ringSum_31 (by decide) (fun hbr => ?_) (fun hbr => ?_)
    · replace vc := vc.1 hbr
      refine SW.bipush (v := (-2 : Int32)) dX9_ringSum_52 (by decide) ?_
      refine SW.cvi1 kV_X9_100 (by omega) aw_cl9 kp_1 (by decide) (hW.le (by decide)) rfl (Nat.le_of_ble_eq_true rfl) dX9_ringSum_54 (SMi.mono vc ?_)
      intro a4 n4 σ4 τ4 θ4 vc
      obtain ⟨hW, vc⟩ := vc
      exact SW.iret dX9_ringSum_57 rfl rfl ⟨_, rfl, vc⟩
    · replace vc := vc.2 hbr
      refine SW.aload_n dX9_ringSum_34 rfl ?_
      refine SW.getS (f := 4) (r := 73) aw_cl9 kp_1 (by decide) (hW.le (by decide)) (by decide) ww_469 dX9_ringSum_35 rfl hW.t1_4 ?_
      refine SW.aload_n dX9_ringSum_38 rfl ?_
      have hF5 := hW.f
      refine SW.getS (f := 7) (r := (θ3 1 7)) aw_cl9 kp_1 (by decide) (hW.le (by decide)) (by decide) ww_472 dX9_ringSum_39 rfl rfl ?_
      refine SW.aload_n dX9_ringSum_42 rfl ?_
      refine SW.getS (f := 1) (r := 6) aw_cl9 kp_1 (by decide) (hW.le (by decide)) (by decide) ww_466 dX9_ringSum_43 rfl hW.t1_1 ?_
      refine SW.cvi2 kV_X9_205 (by omega) aw_cl6 kp_73 (by decide) (hW.le (by decide)) rfl (Nat.le_of_ble_eq_true rfl) dX9_ringSum_46 (SMi.mono vc ?_)
      intro a6 n6 σ6 τ6 θ6 vc
      obtain ⟨hW, vc⟩ := vc
      refine SW.goto 54 dX9_ringSum_49 (by decide) ?_
      refine SW.cvi1 kV_X9_100 (by omega) aw_cl9 kp_1 (by decide) (hW.le (by decide)) rfl (Nat.le_of_ble_eq_true rfl) dX9_ringSum_54 (SMi.mono vc ?_)
      intro a7 n7 σ7 τ7 θ7 vc
      obtain ⟨hW, vc⟩ := vc
      exact SW.iret dX9_ringSum_57 rfl rfl ⟨_, rfl, vc⟩
  · replace vc := vc.2 hbr
    refine SW.aload_n dX9_ringSum_8 rfl ?_
    refine SW.iconst (v := (1 : Int32)) dX9_ringSum_9 (by decide) ?_
    refine SW.cvi1 kV_X9_82 (by omega) aw_cl9 kp_1 (by decide) (hW.le (by decide)) rfl (Nat.le_of_ble_eq_true rfl) dX9_ringSum_10 (SMi.mono vc ?_)
    intro a8 n8 σ8 τ8 θ8 vc
    obtain ⟨hW, vc⟩ := vc
    exact SW.iret dX9_ringSum_13 rfl rfl ⟨_, rfl, vc⟩
theorem ctX9_ringSum {G : GG} {q : Int32 → Nat → SG → TU → TH → Prop} {n : Nat} {σ : SG} {τ : TU} {θ : TH} (x1 : Int32) (h : SW G 5 mX9_ringSum (aw_qi q) 0 0 0 [some (.ref 1), some (.int x1)] [] (n, σ, τ, θ)) : SMi G 5 mX9_ringSum 0 0 [.ref 1, .int x1] n σ τ θ q := SM.of _ rfl rfl (Nat.le_of_ble_eq_true rfl) h
set_option maxHeartbeats 4000000 in
set_option maxRecDepth 20000 in
theorem sgX9_shamed_0 {G : GG} {k : Nat} {q : Int32 → Nat → SG → TU → TH → Prop} {n : Nat} {σ : SG} {τ : TU} {θ : TH}   (hk : 5 ≤ k)  (hW : aw_WT n θ) (vc : SMi G 1 mX9_noDuchy 0 0 [.ref 1] n σ τ θ (fun a1 n1 σ1 τ1 θ1 => aw_WT n1 θ1 ∧ (((a1 = 0) → (SW G k mX9_shamed (aw_qi q) 0 0 17 [some (.ref 1), some (.int (0 : Int32)), some (.int (0 : Int32)), none] [] (n1, σ1, τ1, θ1))) ∧ ((¬ a1 = 0) → (SMi G 1 mX9_refuse 0 0 [.ref 1, .int (1 : Int32)] n1 σ1 τ1 θ1 (fun a2 n2 σ2 τ2 θ2 => aw_WT n2 θ2 ∧ (q a2 n2 σ2 τ2 θ2))))))) : SW G k mX9_shamed (aw_qi q) 0 0 0 [some (.ref 1), none, none, none] [] (n, σ, τ, θ) := by
  refine SW.aload_n dX9_shamed_0 rfl ?_
  refine SW.cvi0 kV_X9_134 (by omega) aw_cl9 kp_1 (by decide) (hW.le (by decide)) rfl (Nat.le_of_ble_eq_true rfl) dX9_shamed_1 (SMi.mono vc ?_)
  intro a1 n1 σ1 τ1 θ1 vc
  obtain ⟨hW, vc⟩ := vc
  refine SW.if_eq 13 dX9_shamed_4 (by decide) (fun hbr => ?_) (fun hbr => ?_)
  · replace vc := vc.1 hbr
    refine SW.iconst (v := (0 : Int32)) dX9_shamed_13 (by decide) ?_
    refine SW.istore_n dX9_shamed_14 (by decide) rfl rfl ?_
    refine SW.iconst (v := (0 : Int32)) dX9_shamed_15 (by decide) ?_
    refine SW.istore_n dX9_shamed_16 (by decide) rfl rfl ?_
    exact vc
  · replace vc := vc.2 hbr
    refine SW.aload_n dX9_shamed_7 rfl ?_
    refine SW.iconst (v := (1 : Int32)) dX9_shamed_8 (by decide) ?_
    refine SW.cvi1 kV_X9_82 (by omega) aw_cl9 kp_1 (by decide) (hW.le (by decide)) rfl (Nat.le_of_ble_eq_true rfl) dX9_shamed_9 (SMi.mono vc ?_)
    intro a2 n2 σ2 τ2 θ2 vc
    obtain ⟨hW, vc⟩ := vc
    exact SW.iret dX9_shamed_12 rfl rfl ⟨_, rfl, vc⟩
set_option maxHeartbeats 4000000 in
set_option maxRecDepth 20000 in
theorem sgX9_shamed_17 {G : GG} {k : Nat} {q : Int32 → Nat → SG → TU → TH → Prop} {n : Nat} {σ : SG} {τ : TU} {θ : TH}  (x1 : Int32) (x2 : Int32) (hk : 5 ≤ k)  (hW : aw_WT n θ) (vc : (((σ (θ 1 7) 13) ≤ x2) → (SMi G 1 mX9_grant 0 0 [.ref 1, .int x1] n σ τ θ (fun a2 n2 σ2 τ2 θ2 => aw_WT n2 θ2 ∧ (q a2 n2 σ2 τ2 θ2)))) ∧ ((¬ (σ (θ 1 7) 13) ≤ x2) → (vp_in x2 5 ∧ (SMi G 1 mX9_isDoor 0 0 [.ref 1, .int (σ ((θ 1 7) + 4) x2.toNatClampNeg)] n σ τ θ (fun a4 n4 σ4 τ4 θ4 => aw_WT n4 θ4 ∧ (((a4 = 0) → (SW G k mX9_shamed (aw_qi q) 0 0 17 [some (.ref 1), some (.int x1), some (.int (x2 + (1 : Int32))), none] [] (n4, σ4, τ4, θ4))) ∧ ((¬ a4 = 0) → (SMi G 4 mX9_affordableToll 0 0 [.ref 1, .int x2, .int (σ ((θ 1 7) + 4) x2.toNatClampNeg)] n4 σ4 τ4 θ4 (fun a5 n5 σ5 τ5 θ5 => aw_WT n5 θ5 ∧ (((¬ a5 = (-2 : Int32)) → (SW G k mX9_shamed (aw_qi q) 0 0 17 [some (.ref 1), some (.int x1), some (.int (x2 + (1 : Int32))), none] [] (n5, σ5, τ5, θ5))) ∧ ((a5 = (-2 : Int32)) → (SW G k mX9_shamed (aw_qi q) 0 0 17 [some (.ref 1), some (.int (x1 ||| ((1 : Int32) <<< (x2 &&& 31)))), some (.int (x2 + (1 : Int32))), none] [] (n5, σ5, τ5, θ5))))))))))))) : SW G k mX9_shamed (aw_qi q) 0 0 17 [some (.ref 1), some (.int x1), some (.int x2), none] [] (n, σ, τ, θ) := by
  refine SW.iload_n dX9_shamed_17 rfl ?_
  refine SW.aload_n dX9_shamed_18 rfl ?_
  have hF1 := hW.f
  refine SW.getS (f := 7) (r := (θ 1 7)) aw_cl9 kp_1 (by decide) (hW.le (by decide)) (by decide) ww_472 dX9_shamed_19 rfl rfl ?_
  refine SW.getI (f := 13) aw_cl1 (kpF_0 hF1) (leF_0 hF1).1 (hW.le (leF_0 hF1).2) (by decide) ww_423 dX9_shamed_22 rfl ?_
  refine SW.icmp_ge 69 dX9_shamed_25 (by decide) (fun hbr => ?_) (fun hbr => ?_)
  · replace vc := vc.1 hbr
    refine SW.aload_n dX9_shamed_69 rfl ?_
    refine SW.iload_n dX9_shamed_70 rfl ?_
    refine SW.cvi1 kV_X9_100 (by omega) aw_cl9 kp_1 (by decide) (hW.le (by decide)) rfl (Nat.le_of_ble_eq_true rfl) dX9_shamed_71 (SMi.mono vc ?_)
    intro a2 n2 σ2 τ2 θ2 vc
    obtain ⟨hW, vc⟩ := vc
    exact SW.iret dX9_shamed_74 rfl rfl ⟨_, rfl, vc⟩
  · replace vc := vc.2 hbr
    refine SW.aload_n dX9_shamed_28 rfl ?_
    have hF3 := hW.f
    refine SW.getS (f := 7) (r := (θ 1 7)) aw_cl9 kp_1 (by decide) (hW.le (by decide)) (by decide) ww_472 dX9_shamed_29 rfl rfl ?_
    refine SW.getS (f := 3) (r := (θ 1 7) + 4) aw_cl1 (kpF_0 hF3) (leF_0 hF3).1 (hW.le (leF_0 hF3).2) (by decide) ww_383 dX9_shamed_32 rfl (hW.f3 hF3) ?_
    refine SW.iload_n dX9_shamed_35 rfl ?_
    refine SW.iald (kpF_4 hF3) (leF_4 hF3).1 (hW.le (leF_4 hF3).2) vc.1 dX9_shamed_36 ?_
    replace vc := vc.2
    refine SW.istore_n dX9_shamed_37 (by decide) rfl rfl ?_
    refine SW.aload_n dX9_shamed_38 rfl ?_
    refine SW.iload_n dX9_shamed_39 rfl ?_
    refine SW.cvi1 kV_X9_120 (by omega) aw_cl9 kp_1 (by decide) (hW.le (by decide)) rfl (Nat.le_of_ble_eq_true rfl) dX9_shamed_40 (SMi.mono vc ?_)
    intro a4 n4 σ4 τ4 θ4 vc
    obtain ⟨hW, vc⟩ := vc
    refine SW.if_eq 63 dX9_shamed_43 (by decide) (fun hbr => ?_) (fun hbr => ?_)
    · replace vc := vc.1 hbr
      refine SW.iinc (v := (x2 + (1 : Int32))) dX9_shamed_63 rfl rfl (by decide) rfl rfl ?_
      refine SW.goto 17 dX9_shamed_66 (by decide) ?_
      refine SW.msk [true, true, true, false] rfl ?_
      exact vc
    · replace vc := vc.2 hbr
      refine SW.aload_n dX9_shamed_46 rfl ?_
      refine SW.iload_n dX9_shamed_47 rfl ?_
      refine SW.iload_n dX9_shamed_48 rfl ?_
      refine SW.cvi2 kV_X9_154 (by omega) aw_cl9 kp_1 (by decide) (hW.le (by decide)) rfl (Nat.le_of_ble_eq_true rfl) dX9_shamed_49 (SMi.mono vc ?_)
      intro a5 n5 σ5 τ5 θ5 vc
      obtain ⟨hW, vc⟩ := vc
      refine SW.bipush (v := (-2 : Int32)) dX9_shamed_52 (by decide) ?_
      refine SW.icmp_ne 63 dX9_shamed_54 (by decide) (fun hbr => ?_) (fun hbr => ?_)
      · replace vc := vc.1 hbr
        refine SW.iinc (v := (x2 + (1 : Int32))) dX9_shamed_63 rfl rfl (by decide) rfl rfl ?_
        refine SW.goto 17 dX9_shamed_66 (by decide) ?_
        refine SW.msk [true, true, true, false] rfl ?_
        exact vc
      · replace vc := vc.2 hbr
        refine SW.iload_n dX9_shamed_57 rfl ?_
        refine SW.iconst (v := (1 : Int32)) dX9_shamed_58 (by decide) ?_
        refine SW.iload_n dX9_shamed_59 rfl ?_
        refine SW.ishl dX9_shamed_60 ?_
        refine SW.ior dX9_shamed_61 ?_
        refine SW.istore_n dX9_shamed_62 (by decide) rfl rfl ?_
        refine SW.iinc (v := (x2 + (1 : Int32))) dX9_shamed_63 rfl rfl (by decide) rfl rfl ?_
        refine SW.goto 17 dX9_shamed_66 (by decide) ?_
        refine SW.msk [true, true, true, false] rfl ?_
        exact vc
theorem ctX9_shamed {G : GG} {q : Int32 → Nat → SG → TU → TH → Prop} {n : Nat} {σ : SG} {τ : TU} {θ : TH}  (h : SW G 5 mX9_shamed (aw_qi q) 0 0 0 [some (.ref 1), none, none, none] [] (n, σ, τ, θ)) : SMi G 5 mX9_shamed 0 0 [.ref 1] n σ τ θ q := SM.of _ rfl rfl (Nat.le_of_ble_eq_true rfl) h
set_option maxHeartbeats 4000000 in
set_option maxRecDepth 20000 in
theorem sgX9_share_0 {G : GG} {k : Nat} {q : Int32 → Nat → SG → TU → TH → Prop} {n : Nat} {σ : SG} {τ : TU} {θ : TH}  (x1 : Int32) (x2 : Int32) (x3 : Int32) (x4 : Int32) (x5 : Int32) (hk : 1 ≤ k)  (hW : aw_WT n θ) (vc : ((x4 = 0) → (((x4 = 0) → (((x5 = 0) → (q (x3 / (2 : Int32)) n σ τ θ)) ∧ ((¬ x5 = 0) → (q (0 : Int32) n σ τ θ)))) ∧ ((¬ x4 = 0) → (q x3 n σ τ θ)))) ∧ ((¬ x4 = 0) → (((x5 = 0) → (((x4 = 0) → (((x5 = 0) → (q (x3 / (2 : Int32)) n σ τ θ)) ∧ ((¬ x5 = 0) → (q (0 : Int32) n σ τ θ)))) ∧ ((¬ x4 = 0) → (q x3 n σ τ θ)))) ∧ ((¬ x5 = 0) → (vp_in x1 5 ∧ (vp_in x2 5 ∧ ((((σ ((θ 1 7) + 3) x1.toNatClampNeg) ≤ (σ ((θ 1 7) + 3) x2.toNatClampNeg)) → (q (-3 : Int32) n σ τ θ)) ∧ ((¬ (σ ((θ 1 7) + 3) x1.toNatClampNeg) ≤ (σ ((θ 1 7) + 3) x2.toNatClampNeg)) → (q (x3 - (3 : Int32)) n σ τ θ))))))))) : SW G k mX9_share (aw_qi q) 0 0 0 [some (.ref 1), some (.int x1), some (.int x2), some (.int x3), some (.int x4), some (.int x5)] [] (n, σ, τ, θ) := by
  refine SW.iload dX9_share_0 rfl ?_
  refine SW.if_eq 40 dX9_share_2 (by decide) (fun hbr => ?_) (fun hbr => ?_)
  · replace vc := vc.1 hbr
    refine SW.iload dX9_share_40 rfl ?_
    refine SW.if_eq 47 dX9_share_42 (by decide) (fun hbr => ?_) (fun hbr => ?_)
    · replace vc := vc.1 hbr
      refine SW.iload dX9_share_47 rfl ?_
      refine SW.if_eq 56 dX9_share_49 (by decide) (fun hbr => ?_) (fun hbr => ?_)
      · replace vc := vc.1 hbr
        refine SW.iload_n dX9_share_56 rfl ?_
        refine SW.iconst (v := (2 : Int32)) dX9_share_57 (by decide) ?_
        refine SW.idiv dX9_share_58 (by decide) ?_
        exact SW.iret dX9_share_59 rfl rfl ⟨_, rfl, vc⟩
      · replace vc := vc.2 hbr
        refine SW.iconst (v := (0 : Int32)) dX9_share_52 (by decide) ?_
        refine SW.goto 59 dX9_share_53 (by decide) ?_
        exact SW.iret dX9_share_59 rfl rfl ⟨_, rfl, vc⟩
    · replace vc := vc.2 hbr
      refine SW.iload_n dX9_share_45 rfl ?_
      exact SW.iret dX9_share_46 rfl rfl ⟨_, rfl, vc⟩
  · replace vc := vc.2 hbr
    refine SW.iload dX9_share_5 rfl ?_
    refine SW.if_eq 40 dX9_share_7 (by decide) (fun hbr => ?_) (fun hbr => ?_)
    · replace vc := vc.1 hbr
      refine SW.iload dX9_share_40 rfl ?_
      refine SW.if_eq 47 dX9_share_42 (by decide) (fun hbr => ?_) (fun hbr => ?_)
      · replace vc := vc.1 hbr
        refine SW.iload dX9_share_47 rfl ?_
        refine SW.if_eq 56 dX9_share_49 (by decide) (fun hbr => ?_) (fun hbr => ?_)
        · replace vc := vc.1 hbr
          refine SW.iload_n dX9_share_56 rfl ?_
          refine SW.iconst (v := (2 : Int32)) dX9_share_57 (by decide) ?_
          refine SW.idiv dX9_share_58 (by decide) ?_
          exact SW.iret dX9_share_59 rfl rfl ⟨_, rfl, vc⟩
        · replace vc := vc.2 hbr
          refine SW.iconst (v := (0 : Int32)) dX9_share_52 (by decide) ?_
          refine SW.goto 59 dX9_share_53 (by decide) ?_
          exact SW.iret dX9_share_59 rfl rfl ⟨_, rfl, vc⟩
      · replace vc := vc.2 hbr
        refine SW.iload_n dX9_share_45 rfl ?_
        exact SW.iret dX9_share_46 rfl rfl ⟨_, rfl, vc⟩
    · replace vc := vc.2 hbr
      refine SW.aload_n dX9_share_10 rfl ?_
      have hF1 := hW.f
      refine SW.getS (f := 7) (r := (θ 1 7)) aw_cl9 kp_1 (by decide) (hW.le (by decide)) (by decide) ww_472 dX9_share_11 rfl rfl ?_
      refine SW.getS (f := 2) (r := (θ 1 7) + 3) aw_cl1 (kpF_0 hF1) (leF_0 hF1).1 (hW.le (leF_0 hF1).2) (by decide) ww_380 dX9_share_14 rfl (hW.f2 hF1) ?_
      refine SW.iload_n dX9_share_17 rfl ?_
      refine SW.iald (kpF_3 hF1) (leF_3 hF1).1 (hW.le (leF_3 hF1).2) vc.1 dX9_share_18 ?_
      replace vc := vc.2
      refine SW.aload_n dX9_share_19 rfl ?_
      have hF2 := hW.f
      refine SW.getS (f := 7) (r := (θ 1 7)) aw_cl9 kp_1 (by decide) (hW.le (by decide)) (by decide) ww_472 dX9_share_20 rfl rfl ?_
      refine SW.getS (f := 2) (r := (θ 1 7) + 3) aw_cl1 (kpF_0 hF2) (leF_0 hF2).1 (hW.le (leF_0 hF2).2) (by decide) ww_380 dX9_share_23 rfl (hW.f2 hF2) ?_
      refine SW.iload_n dX9_share_26 rfl ?_
      refine SW.iald (kpF_3 hF2) (leF_3 hF2).1 (hW.le (leF_3 hF2).2) vc.1 dX9_share_27 ?_
      replace vc := vc.2
      refine SW.icmp_le 37 dX9_share_28 (by decide) (fun hbr => ?_) (fun hbr => ?_)
      · replace vc := vc.1 hbr
        refine SW.bipush (v := (-3 : Int32)) dX9_share_37 (by decide) ?_
        exact SW.iret dX9_share_39 rfl rfl ⟨_, rfl, vc⟩
      · replace vc := vc.2 hbr
        refine SW.iload_n dX9_share_31 rfl ?_
        refine SW.iconst (v := (3 : Int32)) dX9_share_32 (by decide) ?_
        refine SW.isub dX9_share_33 ?_
        refine SW.goto 39 dX9_share_34 (by decide) ?_
        exact SW.iret dX9_share_39 rfl rfl ⟨_, rfl, vc⟩
theorem ctX9_share {G : GG} {q : Int32 → Nat → SG → TU → TH → Prop} {n : Nat} {σ : SG} {τ : TU} {θ : TH} (x1 : Int32) (x2 : Int32) (x3 : Int32) (x4 : Int32) (x5 : Int32) (h : SW G 1 mX9_share (aw_qi q) 0 0 0 [some (.ref 1), some (.int x1), some (.int x2), some (.int x3), some (.int x4), some (.int x5)] [] (n, σ, τ, θ)) : SMi G 1 mX9_share 0 0 [.ref 1, .int x1, .int x2, .int x3, .int x4, .int x5] n σ τ θ q := SM.of _ rfl rfl (Nat.le_of_ble_eq_true rfl) h
set_option maxHeartbeats 4000000 in
set_option maxRecDepth 20000 in
theorem sgX9_shed_0 {G : GG} {k : Nat} {q : Int32 → Nat → SG → TU → TH → Prop} {n : Nat} {σ : SG} {τ : TU} {θ : TH}  (x1 : Int32) (hk : 3 ≤ k)  (hW : aw_WT n θ) (vc : SMi G 1 mX9_isMan 0 0 [.ref 1, .int x1] n σ τ θ (fun a1 n1 σ1 τ1 θ1 => aw_WT n1 θ1 ∧ (((¬ a1 = 0) → (SMi G 2 mX1_dueFrom 0 0 [.ref (θ1 1 7), .ref 6, .int x1] n1 σ1 τ1 θ1 (fun a3 n3 σ3 τ3 θ3 => aw_WT n3 θ3 ∧ (((¬ a3 = 0) → (SMv G 2 mX5_keep 0 0 [.ref 9, .ref 6] n3 σ3 τ3 θ3 (fun n4 σ4 τ4 θ4 => aw_WT n4 θ4 ∧ (SW G k mX9_shed (aw_qi q) 0 0 50 [some (.ref 1), some (.int x1), some (.int a3), some (.int (0 : Int32))] [] (n4, σ4, τ4, θ4))))) ∧ ((a3 = 0) → (SMi G 1 mX9_refuse 0 0 [.ref 1, .int (5 : Int32)] n3 σ3 τ3 θ3 (fun a5 n5 σ5 τ5 θ5 => aw_WT n5 θ5 ∧ (q a5 n5 σ5 τ5 θ5)))))))) ∧ ((a1 = 0) → (SMi G 1 mX9_refuse 0 0 [.ref 1, .int (1 : Int32)] n1 σ1 τ1 θ1 (fun a6 n6 σ6 τ6 θ6 => aw_WT n6 θ6 ∧ (q a6 n6 σ6 τ6 θ6))))))) : SW G k mX9_shed (aw_qi q) 0 0 0 [some (.ref 1), some (.int x1), none, none] [] (n, σ, τ, θ) := by
  refine SW.aload_n dX9_shed_0 rfl ?_
  refine SW.iload_n dX9_shed_1 rfl ?_
  refine SW.cvi1 kV_X9_106 (by omega) aw_cl9 kp_1 (by decide) (hW.le (by decide)) rfl (Nat.le_of_ble_eq_true rfl) dX9_shed_2 (SMi.mono vc ?_)
  intro a1 n1 σ1 τ1 θ1 vc
  obtain ⟨hW, vc⟩ := vc
  refine SW.if_ne 14 dX9_shed_5 (by decide) (fun hbr => ?_) (fun hbr => ?_)
  · replace vc := vc.1 hbr
    refine SW.aload_n dX9_shed_14 rfl ?_
    have hF2 := hW.f
    refine SW.getS (f := 7) (r := (θ1 1 7)) aw_cl9 kp_1 (by decide) (hW.le (by decide)) (by decide) ww_472 dX9_shed_15 rfl rfl ?_
    refine SW.aload_n dX9_shed_18 rfl ?_
    refine SW.getS (f := 1) (r := 6) aw_cl9 kp_1 (by decide) (hW.le (by decide)) (by decide) ww_466 dX9_shed_19 rfl hW.t1_1 ?_
    refine SW.iload_n dX9_shed_22 rfl ?_
    refine SW.cvi2 kV_X9_308 (by omega) aw_cl1 (kpF_0 hF2) (leF_0 hF2).1 (hW.le (leF_0 hF2).2) rfl (Nat.le_of_ble_eq_true rfl) dX9_shed_23 (SMi.mono vc ?_)
    intro a3 n3 σ3 τ3 θ3 vc
    obtain ⟨hW, vc⟩ := vc
    refine SW.istore_n dX9_shed_26 (by decide) rfl rfl ?_
    refine SW.iload_n dX9_shed_27 rfl ?_
    refine SW.if_ne 37 dX9_shed_28 (by decide) (fun hbr => ?_) (fun hbr => ?_)
    · replace vc := vc.1 hbr
      refine SW.aload_n dX9_shed_37 rfl ?_
      refine SW.getS (f := 2) (r := 9) aw_cl9 kp_1 (by decide) (hW.le (by decide)) (by decide) ww_467 dX9_shed_38 rfl hW.t1_2 ?_
      refine SW.aload_n dX9_shed_41 rfl ?_
      refine SW.getS (f := 1) (r := 6) aw_cl9 kp_1 (by decide) (hW.le (by decide)) (by decide) ww_466 dX9_shed_42 rfl hW.t1_1 ?_
      refine SW.cvv1 kV_X9_297 (by omega) aw_cl5 kp_9 (by decide) (hW.le (by decide)) rfl (Nat.le_of_ble_eq_true rfl) dX9_shed_45 (SMv.mono vc ?_)
      intro n4 σ4 τ4 θ4 vc
      obtain ⟨hW, vc⟩ := vc
      refine SW.iconst (v := (0 : Int32)) dX9_shed_48 (by decide) ?_
      refine SW.istore_n dX9_shed_49 (by decide) rfl rfl ?_
      exact vc
    · replace vc := vc.2 hbr
      refine SW.aload_n dX9_shed_31 rfl ?_
      refine SW.iconst (v := (5 : Int32)) dX9_shed_32 (by decide) ?_
      refine SW.cvi1 kV_X9_82 (by omega) aw_cl9 kp_1 (by decide) (hW.le (by decide)) rfl (Nat.le_of_ble_eq_true rfl) dX9_shed_33 (SMi.mono vc ?_)
      intro a5 n5 σ5 τ5 θ5 vc
      obtain ⟨hW, vc⟩ := vc
      exact SW.iret dX9_shed_36 rfl rfl ⟨_, rfl, vc⟩
  · replace vc := vc.2 hbr
    refine SW.aload_n dX9_shed_8 rfl ?_
    refine SW.iconst (v := (1 : Int32)) dX9_shed_9 (by decide) ?_
    refine SW.cvi1 kV_X9_82 (by omega) aw_cl9 kp_1 (by decide) (hW.le (by decide)) rfl (Nat.le_of_ble_eq_true rfl) dX9_shed_10 (SMi.mono vc ?_)
    intro a6 n6 σ6 τ6 θ6 vc
    obtain ⟨hW, vc⟩ := vc
    exact SW.iret dX9_shed_13 rfl rfl ⟨_, rfl, vc⟩
set_option maxHeartbeats 4000000 in
set_option maxRecDepth 20000 in
theorem sgX9_shed_50 {G : GG} {k : Nat} {q : Int32 → Nat → SG → TU → TH → Prop} {n : Nat} {σ : SG} {τ : TU} {θ : TH}  (x1 : Int32) (x2 : Int32) (x3 : Int32) (hk : 3 ≤ k)  (hW : aw_WT n θ) (vc : (((σ ((θ 1 7) + 8) 4) ≤ x3) → (SMi G 1 mX9_grant 0 0 [.ref 1, .int x2] n σ τ θ (fun a2 n2 σ2 τ2 θ2 => aw_WT n2 θ2 ∧ (q a2 n2 σ2 τ2 θ2)))) ∧ ((¬ (σ ((θ 1 7) + 8) 4) ≤ x3) → (vp_in x3 7 ∧ (((¬ (σ ((θ 1 7) + 9) x3.toNatClampNeg) = x1) → (SW G k mX9_shed (aw_qi q) 0 0 50 [some (.ref 1), some (.int x1), some (.int x2), some (.int (x3 + (1 : Int32)))] [] (n, σ, τ, θ))) ∧ (((σ ((θ 1 7) + 9) x3.toNatClampNeg) = x1) → (SMi G 1 mX1_isDue 0 0 [.ref (θ 1 7), .ref 6, .int x3, .int (σ 6 2)] n σ τ θ (fun a5 n5 σ5 τ5 θ5 => aw_WT n5 θ5 ∧ (((a5 = 0) → (SW G k mX9_shed (aw_qi q) 0 0 50 [some (.ref 1), some (.int x1), some (.int x2), some (.int (x3 + (1 : Int32)))] [] (n5, σ5, τ5, θ5))) ∧ ((¬ a5 = 0) → (vp_in x3 7 ∧ (SW G k mX9_shed (aw_qi q) 0 0 50 [some (.ref 1), some (.int x1), some (.int x2), some (.int (x3 + (1 : Int32)))] [] (n5, (aw_u σ5 8 x3.toNatClampNeg (0 : Int32)), τ5, θ5)))))))))))) : SW G k mX9_shed (aw_qi q) 0 0 50 [some (.ref 1), some (.int x1), some (.int x2), some (.int x3)] [] (n, σ, τ, θ) := by
  refine SW.iload_n dX9_shed_50 rfl ?_
  refine SW.aload_n dX9_shed_51 rfl ?_
  have hF1 := hW.f
  refine SW.getS (f := 7) (r := (θ 1 7)) aw_cl9 kp_1 (by decide) (hW.le (by decide)) (by decide) ww_472 dX9_shed_52 rfl rfl ?_
  refine SW.getS (f := 7) (r := (θ 1 7) + 8) aw_cl1 (kpF_0 hF1) (leF_0 hF1).1 (hW.le (leF_0 hF1).2) (by decide) ww_398 dX9_shed_55 rfl (hW.f7 hF1) ?_
  refine SW.getI (f := 4) aw_cl0 (kpF_8 hF1) (leF_8 hF1).1 (hW.le (leF_8 hF1).2) (by decide) ww_360 dX9_shed_58 rfl ?_
  refine SW.icmp_ge 118 dX9_shed_61 (by decide) (fun hbr => ?_) (fun hbr => ?_)
  · replace vc := vc.1 hbr
    refine SW.aload_n dX9_shed_118 rfl ?_
    refine SW.iload_n dX9_shed_119 rfl ?_
    refine SW.cvi1 kV_X9_100 (by omega) aw_cl9 kp_1 (by decide) (hW.le (by decide)) rfl (Nat.le_of_ble_eq_true rfl) dX9_shed_120 (SMi.mono vc ?_)
    intro a2 n2 σ2 τ2 θ2 vc
    obtain ⟨hW, vc⟩ := vc
    exact SW.iret dX9_shed_123 rfl rfl ⟨_, rfl, vc⟩
  · replace vc := vc.2 hbr
    refine SW.aload_n dX9_shed_64 rfl ?_
    have hF3 := hW.f
    refine SW.getS (f := 7) (r := (θ 1 7)) aw_cl9 kp_1 (by decide) (hW.le (by decide)) (by decide) ww_472 dX9_shed_65 rfl rfl ?_
    refine SW.getS (f := 7) (r := (θ 1 7) + 8) aw_cl1 (kpF_0 hF3) (leF_0 hF3).1 (hW.le (leF_0 hF3).2) (by decide) ww_398 dX9_shed_68 rfl (hW.f7 hF3) ?_
    refine SW.getS (f := 0) (r := (θ 1 7) + 9) aw_cl0 (kpF_8 hF3) (leF_8 hF3).1 (hW.le (leF_8 hF3).2) (by decide) ww_338 dX9_shed_71 rfl (hW.f8_0 hF3) ?_
    refine SW.iload_n dX9_shed_74 rfl ?_
    refine SW.iald (kpF_9 hF3) (leF_9 hF3).1 (hW.le (leF_9 hF3).2) vc.1 dX9_shed_75 ?_
    replace vc := vc.2
    refine SW.iload_n dX9_shed_76 rfl ?_
    refine SW.icmp_ne 112 dX9_shed_77 (by decide) (fun hbr => ?_) (fun hbr => ?_)
    · replace vc := vc.1 hbr
      refine SW.iinc (v := (x3 + (1 : Int32))) dX9_shed_112 rfl rfl (by decide) rfl rfl ?_
      refine SW.goto 50 dX9_shed_115 (by decide) ?_
      exact vc
    · replace vc := vc.2 hbr
      refine SW.aload_n dX9_shed_80 rfl ?_
      have hF4 := hW.f
      refine SW.getS (f := 7) (r := (θ 1 7)) aw_cl9 kp_1 (by decide) (hW.le (by decide)) (by decide) ww_472 dX9_shed_81 rfl rfl ?_
      refine SW.aload_n dX9_shed_84 rfl ?_
      refine SW.getS (f := 1) (r := 6) aw_cl9 kp_1 (by decide) (hW.le (by decide)) (by decide) ww_466 dX9_shed_85 rfl hW.t1_1 ?_
      refine SW.iload_n dX9_shed_88 rfl ?_
      refine SW.aload_n dX9_shed_89 rfl ?_
      refine SW.getS (f := 1) (r := 6) aw_cl9 kp_1 (by decide) (hW.le (by decide)) (by decide) ww_466 dX9_shed_90 rfl hW.t1_1 ?_
      refine SW.getI (f := 2) aw_cl2 kp_6 (by decide) (hW.le (by decide)) (by decide) ww_204 dX9_shed_93 rfl ?_
      refine SW.cvi3 kV_X9_176 (by omega) aw_cl1 (kpF_0 hF4) (leF_0 hF4).1 (hW.le (leF_0 hF4).2) rfl (Nat.le_of_ble_eq_true rfl) dX9_shed_96 (SMi.mono vc ?_)
      intro a5 n5 σ5 τ5 θ5 vc
      obtain ⟨hW, vc⟩ := vc
      refine SW.if_eq 112 dX9_shed_99 (by decide) (fun hbr => ?_) (fun hbr => ?_)
      · replace vc := vc.1 hbr
        refine SW.iinc (v := (x3 + (1 : Int32))) dX9_shed_112 rfl rfl (by decide) rfl rfl ?_
        refine SW.goto 50 dX9_shed_115 (by decide) ?_
        exact vc
      · replace vc := vc.2 hbr
        refine SW.aload_n dX9_shed_102 rfl ?_
        refine SW.getS (f := 1) (r := 6) aw_cl9 kp_1 (by decide) (hW.le (by decide)) (by decide) ww_466 dX9_shed_103 rfl hW.t1_1 ?_
        refine SW.getS (f := 1) (r := 8) aw_cl2 kp_6 (by decide) (hW.le (by decide)) (by decide) ww_199 dX9_shed_106 rfl hW.t6_1 ?_
        refine SW.iload_n dX9_shed_109 rfl ?_
        refine SW.iconst (v := (0 : Int32)) dX9_shed_110 (by decide) ?_
        refine SW.iast kp_8 (by decide) (hW.le (by decide)) vc.1 dX9_shed_111 ?_
        replace vc := vc.2
        refine SW.iinc (v := (x3 + (1 : Int32))) dX9_shed_112 rfl rfl (by decide) rfl rfl ?_
        refine SW.goto 50 dX9_shed_115 (by decide) ?_
        exact vc
theorem ctX9_shed {G : GG} {q : Int32 → Nat → SG → TU → TH → Prop} {n : Nat} {σ : SG} {τ : TU} {θ : TH} (x1 : Int32) (h : SW G 3 mX9_shed (aw_qi q) 0 0 0 [some (.ref 1), some (.int x1), none, none] [] (n, σ, τ, θ)) : SMi G 3 mX9_shed 0 0 [.ref 1, .int x1] n σ τ θ q := SM.of _ rfl rfl (Nat.le_of_ble_eq_true rfl) h
set_option maxHeartbeats 4000000 in
set_option maxRecDepth 20000 in
theorem sgX9_shutIn_0 {G : GG} {k : Nat} {q : Int32 → Nat → SG → TU → TH → Prop} {n : Nat} {σ : SG} {τ : TU} {θ : TH}  (x1 : Int32) (x2 : Int32) (hk : 5 ≤ k)  (hW : aw_WT n θ) (vc : SMi G 1 mX9_isMan 0 0 [.ref 1, .int x1] n σ τ θ (fun a1 n1 σ1 τ1 θ1 => aw_WT n1 θ1 ∧ (((a1 = 0) → (SMi G 1 mX9_refuse 0 0 [.ref 1, .int (1 : Int32)] n1 σ1 τ1 θ1 (fun a2 n2 σ2 τ2 θ2 => aw_WT n2 θ2 ∧ (q a2 n2 σ2 τ2 θ2)))) ∧ ((¬ a1 = 0) → (SMi G 1 mX9_isDoor 0 0 [.ref 1, .int x2] n1 σ1 τ1 θ1 (fun a3 n3 σ3 τ3 θ3 => aw_WT n3 θ3 ∧ (((¬ a3 = 0) → (vp_in x2 4 ∧ (SMi G 4 mX9_springsUntil 0 0 [.ref 1, .int x1, .int ((σ3 ((θ3 1 7) + 5) x2.toNatClampNeg) + (1 : Int32))] n3 σ3 τ3 θ3 (fun a5 n5 σ5 τ5 θ5 => aw_WT n5 θ5 ∧ (SMi G 1 mX9_grant 0 0 [.ref 1, .int a5] n5 σ5 τ5 θ5 (fun a6 n6 σ6 τ6 θ6 => aw_WT n6 θ6 ∧ (q a6 n6 σ6 τ6 θ6))))))) ∧ ((a3 = 0) → (SMi G 1 mX9_refuse 0 0 [.ref 1, .int (1 : Int32)] n3 σ3 τ3 θ3 (fun a7 n7 σ7 τ7 θ7 => aw_WT n7 θ7 ∧ (q a7 n7 σ7 τ7 θ7))))))))))) : SW G k mX9_shutIn (aw_qi q) 0 0 0 [some (.ref 1), some (.int x1), some (.int x2)] [] (n, σ, τ, θ) := by
  refine SW.aload_n dX9_shutIn_0 rfl ?_
  refine SW.iload_n dX9_shutIn_1 rfl ?_
  refine SW.cvi1 kV_X9_106 (by omega) aw_cl9 kp_1 (by decide) (hW.le (by decide)) rfl (Nat.le_of_ble_eq_true rfl) dX9_shutIn_2 (SMi.mono vc ?_)
  intro a1 n1 σ1 τ1 θ1 vc
  obtain ⟨hW, vc⟩ := vc
  refine SW.if_eq 16 dX9_shutIn_5 (by decide) (fun hbr => ?_) (fun hbr => ?_)
  · replace vc := vc.1 hbr
    refine SW.aload_n dX9_shutIn_16 rfl ?_
    refine SW.iconst (v := (1 : Int32)) dX9_shutIn_17 (by decide) ?_
    refine SW.cvi1 kV_X9_82 (by omega) aw_cl9 kp_1 (by decide) (hW.le (by decide)) rfl (Nat.le_of_ble_eq_true rfl) dX9_shutIn_18 (SMi.mono vc ?_)
    intro a2 n2 σ2 τ2 θ2 vc
    obtain ⟨hW, vc⟩ := vc
    exact SW.iret dX9_shutIn_21 rfl rfl ⟨_, rfl, vc⟩
  · replace vc := vc.2 hbr
    refine SW.aload_n dX9_shutIn_8 rfl ?_
    refine SW.iload_n dX9_shutIn_9 rfl ?_
    refine SW.cvi1 kV_X9_120 (by omega) aw_cl9 kp_1 (by decide) (hW.le (by decide)) rfl (Nat.le_of_ble_eq_true rfl) dX9_shutIn_10 (SMi.mono vc ?_)
    intro a3 n3 σ3 τ3 θ3 vc
    obtain ⟨hW, vc⟩ := vc
    refine SW.if_ne 22 dX9_shutIn_13 (by decide) (fun hbr => ?_) (fun hbr => ?_)
    · replace vc := vc.1 hbr
      refine SW.aload_n dX9_shutIn_22 rfl ?_
      refine SW.aload_n dX9_shutIn_23 rfl ?_
      refine SW.iload_n dX9_shutIn_24 rfl ?_
      refine SW.aload_n dX9_shutIn_25 rfl ?_
      have hF4 := hW.f
      refine SW.getS (f := 7) (r := (θ3 1 7)) aw_cl9 kp_1 (by decide) (hW.le (by decide)) (by decide) ww_472 dX9_shutIn_26 rfl rfl ?_
      refine SW.getS (f := 4) (r := (θ3 1 7) + 5) aw_cl1 (kpF_0 hF4) (leF_0 hF4).1 (hW.le (leF_0 hF4).2) (by decide) ww_385 dX9_shutIn_29 rfl (hW.f4 hF4) ?_
      refine SW.iload_n dX9_shutIn_32 rfl ?_
      refine SW.iald (kpF_5 hF4) (leF_5 hF4).1 (hW.le (leF_5 hF4).2) vc.1 dX9_shutIn_33 ?_
      replace vc := vc.2
      refine SW.iconst (v := (1 : Int32)) dX9_shutIn_34 (by decide) ?_
      refine SW.iadd dX9_shutIn_35 ?_
      refine SW.cvi2 kV_X9_151 (by omega) aw_cl9 kp_1 (by decide) (hW.le (by decide)) rfl (Nat.le_of_ble_eq_true rfl) dX9_shutIn_36 (SMi.mono vc ?_)
      intro a5 n5 σ5 τ5 θ5 vc
      obtain ⟨hW, vc⟩ := vc
      refine SW.cvi1 kV_X9_100 (by omega) aw_cl9 kp_1 (by decide) (hW.le (by decide)) rfl (Nat.le_of_ble_eq_true rfl) dX9_shutIn_39 (SMi.mono vc ?_)
      intro a6 n6 σ6 τ6 θ6 vc
      obtain ⟨hW, vc⟩ := vc
      exact SW.iret dX9_shutIn_42 rfl rfl ⟨_, rfl, vc⟩
    · replace vc := vc.2 hbr
      refine SW.aload_n dX9_shutIn_16 rfl ?_
      refine SW.iconst (v := (1 : Int32)) dX9_shutIn_17 (by decide) ?_
      refine SW.cvi1 kV_X9_82 (by omega) aw_cl9 kp_1 (by decide) (hW.le (by decide)) rfl (Nat.le_of_ble_eq_true rfl) dX9_shutIn_18 (SMi.mono vc ?_)
      intro a7 n7 σ7 τ7 θ7 vc
      obtain ⟨hW, vc⟩ := vc
      exact SW.iret dX9_shutIn_21 rfl rfl ⟨_, rfl, vc⟩
theorem ctX9_shutIn {G : GG} {q : Int32 → Nat → SG → TU → TH → Prop} {n : Nat} {σ : SG} {τ : TU} {θ : TH} (x1 : Int32) (x2 : Int32) (h : SW G 5 mX9_shutIn (aw_qi q) 0 0 0 [some (.ref 1), some (.int x1), some (.int x2)] [] (n, σ, τ, θ)) : SMi G 5 mX9_shutIn 0 0 [.ref 1, .int x1, .int x2] n σ τ θ q := SM.of _ rfl rfl (Nat.le_of_ble_eq_true rfl) h
set_option maxHeartbeats 4000000 in
set_option maxRecDepth 20000 in
theorem sgX9_size_0 {G : GG} {k : Nat} {q : Int32 → Nat → SG → TU → TH → Prop} {n : Nat} {σ : SG} {τ : TU} {θ : TH}  (x1 : Int32) (hk : 2 ≤ k)  (hW : aw_WT n θ) (vc : ((x1.toInt < (0 : Int) ∨ (13 : Int) < x1.toInt) → (q (-1 : Int32) n σ τ θ)) ∧ ((x1 = (0 : Int32)) → (q (σ (θ 1 7) 9) n σ τ θ)) ∧ ((x1 = (1 : Int32)) → (q (σ (θ 1 7) 10) n σ τ θ)) ∧ ((x1 = (2 : Int32)) → (q (σ (θ 1 7) 11) n σ τ θ)) ∧ ((x1 = (3 : Int32)) → (q (σ (θ 1 7) 12) n σ τ θ)) ∧ ((x1 = (4 : Int32)) → (q (σ (θ 1 7) 13) n σ τ θ)) ∧ ((x1 = (5 : Int32)) → (q (σ ((θ 1 7) + 8) 4) n σ τ θ)) ∧ ((x1 = (6 : Int32)) → (q (σ ((θ 1 7) + 13) 4) n σ τ θ)) ∧ ((x1 = (7 : Int32)) → (q (σ (θ 1 7) 14) n σ τ θ)) ∧ ((x1 = (8 : Int32)) → (SMi G 1 mX1_invitedCount 0 0 [.ref (θ 1 7)] n σ τ θ (fun a10 n10 σ10 τ10 θ10 => aw_WT n10 θ10 ∧ (q a10 n10 σ10 τ10 θ10)))) ∧ ((x1 = (9 : Int32)) → (q (σ (θ 1 7) 15) n σ τ θ)) ∧ ((x1 = (10 : Int32)) → (q (σ 6 2) n σ τ θ)) ∧ ((x1 = (11 : Int32)) → (q (σ 9 0) n σ τ θ)) ∧ ((x1 = (12 : Int32)) → (q (σ 9 1) n σ τ θ)) ∧ ((x1 = (13 : Int32)) → (q (σ 2 0) n σ τ θ))) : SW G k mX9_size (aw_qi q) 0 0 0 [some (.ref 1), some (.int x1)] [] (n, σ, τ, θ) := by
  refine SW.iload_n dX9_size_0 rfl ?_
  by_cases hsw : x1.toInt < (0 : Int) ∨ (13 : Int) < x1.toInt
  · replace vc := vc.1 hsw
    refine SW.tabOut 190 dX9_size_1 hsw (by decide) ?_
    refine SW.iconst (v := (-1 : Int32)) dX9_size_190 (by decide) ?_
    exact SW.iret dX9_size_191 rfl rfl ⟨_, rfl, vc⟩
  replace vc := vc.2
  have hsw2 := aw_sw_0_13 hsw
  rcases hsw2 with hsw2 | hsw2
  · replace vc := vc.1 hsw2
    refine SW.tabIn (off := 71) 72 dX9_size_1 (aw_si1 hsw2 (by decide)) (aw_si2 hsw2 (by decide)) (aw_si3 hsw2 (by decide)) (by decide) ?_
    refine SW.aload_n dX9_size_72 rfl ?_
    have hF1 := hW.f
    refine SW.getS (f := 7) (r := (θ 1 7)) aw_cl9 kp_1 (by decide) (hW.le (by decide)) (by decide) ww_472 dX9_size_73 rfl rfl ?_
    refine SW.getI (f := 9) aw_cl1 (kpF_0 hF1) (leF_0 hF1).1 (hW.le (leF_0 hF1).2) (by decide) ww_406 dX9_size_76 rfl ?_
    exact SW.iret dX9_size_79 rfl rfl ⟨_, rfl, vc⟩
  replace vc := vc.2
  rcases hsw2 with hsw2 | hsw2
  · replace vc := vc.1 hsw2
    refine SW.tabIn (off := 79) 80 dX9_size_1 (aw_si1 hsw2 (by decide)) (aw_si2 hsw2 (by decide)) (aw_si3 hsw2 (by decide)) (by decide) ?_
    refine SW.aload_n dX9_size_80 rfl ?_
    have hF2 := hW.f
    refine SW.getS (f := 7) (r := (θ 1 7)) aw_cl9 kp_1 (by decide) (hW.le (by decide)) (by decide) ww_472 dX9_size_81 rfl rfl ?_
    refine SW.getI (f := 10) aw_cl1 (kpF_0 hF2) (leF_0 hF2).1 (hW.le (leF_0 hF2).2) (by decide) ww_409 dX9_size_84 rfl ?_
    exact SW.iret dX9_size_87 rfl rfl ⟨_, rfl, vc⟩
  replace vc := vc.2
  rcases hsw2 with hsw2 | hsw2
  · replace vc := vc.1 hsw2
    refine SW.tabIn (off := 87) 88 dX9_size_1 (aw_si1 hsw2 (by decide)) (aw_si2 hsw2 (by decide)) (aw_si3 hsw2 (by decide)) (by decide) ?_
    refine SW.aload_n dX9_size_88 rfl ?_
    have hF3 := hW.f
    refine SW.getS (f := 7) (r := (θ 1 7)) aw_cl9 kp_1 (by decide) (hW.le (by decide)) (by decide) ww_472 dX9_size_89 rfl rfl ?_
    refine SW.getI (f := 11) aw_cl1 (kpF_0 hF3) (leF_0 hF3).1 (hW.le (leF_0 hF3).2) (by decide) ww_412 dX9_size_92 rfl ?_
    exact SW.iret dX9_size_95 rfl rfl ⟨_, rfl, vc⟩
  replace vc := vc.2
  rcases hsw2 with hsw2 | hsw2
  · replace vc := vc.1 hsw2
    refine SW.tabIn (off := 95) 96 dX9_size_1 (aw_si1 hsw2 (by decide)) (aw_si2 hsw2 (by decide)) (aw_si3 hsw2 (by decide)) (by decide) ?_
    refine SW.aload_n dX9_size_96 rfl ?_
    have hF4 := hW.f
    refine SW.getS (f := 7) (r := (θ 1 7)) aw_cl9 kp_1 (by decide) (hW.le (by decide)) (by decide) ww_472 dX9_size_97 rfl rfl ?_
    refine SW.getI (f := 12) aw_cl1 (kpF_0 hF4) (leF_0 hF4).1 (hW.le (leF_0 hF4).2) (by decide) ww_416 dX9_size_100 rfl ?_
    exact SW.iret dX9_size_103 rfl rfl ⟨_, rfl, vc⟩
  replace vc := vc.2
  rcases hsw2 with hsw2 | hsw2
  · replace vc := vc.1 hsw2
    refine SW.tabIn (off := 103) 104 dX9_size_1 (aw_si1 hsw2 (by decide)) (aw_si2 hsw2 (by decide)) (aw_si3 hsw2 (by decide)) (by decide) ?_
    refine SW.aload_n dX9_size_104 rfl ?_
    have hF5 := hW.f
    refine SW.getS (f := 7) (r := (θ 1 7)) aw_cl9 kp_1 (by decide) (hW.le (by decide)) (by decide) ww_472 dX9_size_105 rfl rfl ?_
    refine SW.getI (f := 13) aw_cl1 (kpF_0 hF5) (leF_0 hF5).1 (hW.le (leF_0 hF5).2) (by decide) ww_423 dX9_size_108 rfl ?_
    exact SW.iret dX9_size_111 rfl rfl ⟨_, rfl, vc⟩
  replace vc := vc.2
  rcases hsw2 with hsw2 | hsw2
  · replace vc := vc.1 hsw2
    refine SW.tabIn (off := 111) 112 dX9_size_1 (aw_si1 hsw2 (by decide)) (aw_si2 hsw2 (by decide)) (aw_si3 hsw2 (by decide)) (by decide) ?_
    refine SW.aload_n dX9_size_112 rfl ?_
    have hF6 := hW.f
    refine SW.getS (f := 7) (r := (θ 1 7)) aw_cl9 kp_1 (by decide) (hW.le (by decide)) (by decide) ww_472 dX9_size_113 rfl rfl ?_
    refine SW.getS (f := 7) (r := (θ 1 7) + 8) aw_cl1 (kpF_0 hF6) (leF_0 hF6).1 (hW.le (leF_0 hF6).2) (by decide) ww_398 dX9_size_116 rfl (hW.f7 hF6) ?_
    refine SW.getI (f := 4) aw_cl0 (kpF_8 hF6) (leF_8 hF6).1 (hW.le (leF_8 hF6).2) (by decide) ww_360 dX9_size_119 rfl ?_
    exact SW.iret dX9_size_122 rfl rfl ⟨_, rfl, vc⟩
  replace vc := vc.2
  rcases hsw2 with hsw2 | hsw2
  · replace vc := vc.1 hsw2
    refine SW.tabIn (off := 122) 123 dX9_size_1 (aw_si1 hsw2 (by decide)) (aw_si2 hsw2 (by decide)) (aw_si3 hsw2 (by decide)) (by decide) ?_
    refine SW.aload_n dX9_size_123 rfl ?_
    have hF7 := hW.f
    refine SW.getS (f := 7) (r := (θ 1 7)) aw_cl9 kp_1 (by decide) (hW.le (by decide)) (by decide) ww_472 dX9_size_124 rfl rfl ?_
    refine SW.getS (f := 8) (r := (θ 1 7) + 13) aw_cl1 (kpF_0 hF7) (leF_0 hF7).1 (hW.le (leF_0 hF7).2) (by decide) ww_402 dX9_size_127 rfl (hW.f8 hF7) ?_
    refine SW.getI (f := 4) aw_cl0 (kpF_13 hF7) (leF_13 hF7).1 (hW.le (leF_13 hF7).2) (by decide) ww_360 dX9_size_130 rfl ?_
    exact SW.iret dX9_size_133 rfl rfl ⟨_, rfl, vc⟩
  replace vc := vc.2
  rcases hsw2 with hsw2 | hsw2
  · replace vc := vc.1 hsw2
    refine SW.tabIn (off := 133) 134 dX9_size_1 (aw_si1 hsw2 (by decide)) (aw_si2 hsw2 (by decide)) (aw_si3 hsw2 (by decide)) (by decide) ?_
    refine SW.aload_n dX9_size_134 rfl ?_
    have hF8 := hW.f
    refine SW.getS (f := 7) (r := (θ 1 7)) aw_cl9 kp_1 (by decide) (hW.le (by decide)) (by decide) ww_472 dX9_size_135 rfl rfl ?_
    refine SW.getI (f := 14) aw_cl1 (kpF_0 hF8) (leF_0 hF8).1 (hW.le (leF_0 hF8).2) (by decide) ww_427 dX9_size_138 rfl ?_
    exact SW.iret dX9_size_141 rfl rfl ⟨_, rfl, vc⟩
  replace vc := vc.2
  rcases hsw2 with hsw2 | hsw2
  · replace vc := vc.1 hsw2
    refine SW.tabIn (off := 141) 142 dX9_size_1 (aw_si1 hsw2 (by decide)) (aw_si2 hsw2 (by decide)) (aw_si3 hsw2 (by decide)) (by decide) ?_
    refine SW.aload_n dX9_size_142 rfl ?_
    have hF9 := hW.f
    refine SW.getS (f := 7) (r := (θ 1 7)) aw_cl9 kp_1 (by decide) (hW.le (by decide)) (by decide) ww_472 dX9_size_143 rfl rfl ?_
    refine SW.cvi0 kV_X9_345 (by omega) aw_cl1 (kpF_0 hF9) (leF_0 hF9).1 (hW.le (leF_0 hF9).2) rfl (Nat.le_of_ble_eq_true rfl) dX9_size_146 (SMi.mono vc ?_)
    intro a10 n10 σ10 τ10 θ10 vc
    obtain ⟨hW, vc⟩ := vc
    exact SW.iret dX9_size_149 rfl rfl ⟨_, rfl, vc⟩
  replace vc := vc.2
  rcases hsw2 with hsw2 | hsw2
  · replace vc := vc.1 hsw2
    refine SW.tabIn (off := 149) 150 dX9_size_1 (aw_si1 hsw2 (by decide)) (aw_si2 hsw2 (by decide)) (aw_si3 hsw2 (by decide)) (by decide) ?_
    refine SW.aload_n dX9_size_150 rfl ?_
    have hF11 := hW.f
    refine SW.getS (f := 7) (r := (θ 1 7)) aw_cl9 kp_1 (by decide) (hW.le (by decide)) (by decide) ww_472 dX9_size_151 rfl rfl ?_
    refine SW.getI (f := 15) aw_cl1 (kpF_0 hF11) (leF_0 hF11).1 (hW.le (leF_0 hF11).2) (by decide) ww_431 dX9_size_154 rfl ?_
    exact SW.iret dX9_size_157 rfl rfl ⟨_, rfl, vc⟩
  replace vc := vc.2
  rcases hsw2 with hsw2 | hsw2
  · replace vc := vc.1 hsw2
    refine SW.tabIn (off := 157) 158 dX9_size_1 (aw_si1 hsw2 (by decide)) (aw_si2 hsw2 (by decide)) (aw_si3 hsw2 (by decide)) (by decide) ?_
    refine SW.aload_n dX9_size_158 rfl ?_
    refine SW.getS (f := 1) (r := 6) aw_cl9 kp_1 (by decide) (hW.le (by decide)) (by decide) ww_466 dX9_size_159 rfl hW.t1_1 ?_
    refine SW.getI (f := 2) aw_cl2 kp_6 (by decide) (hW.le (by decide)) (by decide) ww_204 dX9_size_162 rfl ?_
    exact SW.iret dX9_size_165 rfl rfl ⟨_, rfl, vc⟩
  replace vc := vc.2
  rcases hsw2 with hsw2 | hsw2
  · replace vc := vc.1 hsw2
    refine SW.tabIn (off := 165) 166 dX9_size_1 (aw_si1 hsw2 (by decide)) (aw_si2 hsw2 (by decide)) (aw_si3 hsw2 (by decide)) (by decide) ?_
    refine SW.aload_n dX9_size_166 rfl ?_
    refine SW.getS (f := 2) (r := 9) aw_cl9 kp_1 (by decide) (hW.le (by decide)) (by decide) ww_467 dX9_size_167 rfl hW.t1_2 ?_
    refine SW.getI (f := 0) aw_cl5 kp_9 (by decide) (hW.le (by decide)) (by decide) ww_224 dX9_size_170 rfl ?_
    exact SW.iret dX9_size_173 rfl rfl ⟨_, rfl, vc⟩
  replace vc := vc.2
  rcases hsw2 with hsw2 | hsw2
  · replace vc := vc.1 hsw2
    refine SW.tabIn (off := 173) 174 dX9_size_1 (aw_si1 hsw2 (by decide)) (aw_si2 hsw2 (by decide)) (aw_si3 hsw2 (by decide)) (by decide) ?_
    refine SW.aload_n dX9_size_174 rfl ?_
    refine SW.getS (f := 2) (r := 9) aw_cl9 kp_1 (by decide) (hW.le (by decide)) (by decide) ww_467 dX9_size_175 rfl hW.t1_2 ?_
    refine SW.getI (f := 1) aw_cl5 kp_9 (by decide) (hW.le (by decide)) (by decide) ww_226 dX9_size_178 rfl ?_
    exact SW.iret dX9_size_181 rfl rfl ⟨_, rfl, vc⟩
  replace vc := vc.2
  replace vc := vc hsw2
  refine SW.tabIn (off := 181) 182 dX9_size_1 (aw_si1 hsw2 (by decide)) (aw_si2 hsw2 (by decide)) (aw_si3 hsw2 (by decide)) (by decide) ?_
  refine SW.aload_n dX9_size_182 rfl ?_
  refine SW.getS (f := 0) (r := 2) aw_cl9 kp_1 (by decide) (hW.le (by decide)) (by decide) ww_465 dX9_size_183 rfl hW.t1_0 ?_
  refine SW.getI (f := 0) aw_cl8 kp_2 (by decide) (hW.le (by decide)) (by decide) ww_146 dX9_size_186 rfl ?_
  exact SW.iret dX9_size_189 rfl rfl ⟨_, rfl, vc⟩
theorem ctX9_size {G : GG} {q : Int32 → Nat → SG → TU → TH → Prop} {n : Nat} {σ : SG} {τ : TU} {θ : TH} (x1 : Int32) (h : SW G 2 mX9_size (aw_qi q) 0 0 0 [some (.ref 1), some (.int x1)] [] (n, σ, τ, θ)) : SMi G 2 mX9_size 0 0 [.ref 1, .int x1] n σ τ θ q := SM.of _ rfl rfl (Nat.le_of_ble_eq_true rfl) h
set_option maxHeartbeats 4000000 in
set_option maxRecDepth 20000 in
theorem sgX9_spring_0 {G : GG} {k : Nat} {q : Int32 → Nat → SG → TU → TH → Prop} {n : Nat} {σ : SG} {τ : TU} {θ : TH}   (hk : 5 ≤ k)  (hW : aw_WT n θ) (vc : SMi G 1 mX9_noDuchy 0 0 [.ref 1] n σ τ θ (fun a1 n1 σ1 τ1 θ1 => aw_WT n1 θ1 ∧ (((a1 = 0) → ((((σ1 6 2) < (999 : Int32)) → (SMv G 2 mX5_keep 0 0 [.ref 9, .ref 6] n1 σ1 τ1 θ1 (fun n2 σ2 τ2 θ2 => aw_WT n2 θ2 ∧ (SMi G 4 mX1_allHeads 0 0 [.ref (θ2 1 7), .ref 6, .int ((aw_u σ2 6 2 ((σ2 6 2) + (1 : Int32))) 6 2)] n2 (aw_u σ2 6 2 ((σ2 6 2) + (1 : Int32))) τ2 θ2 (fun a4 n4 σ4 τ4 θ4 => aw_WT n4 θ4 ∧ (SMi G 1 mX9_grant 0 0 [.ref 1, .int a4] n4 σ4 τ4 θ4 (fun a5 n5 σ5 τ5 θ5 => aw_WT n5 θ5 ∧ (q a5 n5 σ5 τ5 θ5)))))))) ∧ ((¬ (σ1 6 2) < (999 : Int32)) → (SMi G 1 mX9_refuse 0 0 [.ref 1, .int (3 : Int32)] n1 σ1 τ1 θ1 (fun a6 n6 σ6 τ6 θ6 => aw_WT n6 θ6 ∧ (q a6 n6 σ6 τ6 θ6)))))) ∧ ((¬ a1 = 0) → (SMi G 1 mX9_refuse 0 0 [.ref 1, .int (1 : Int32)] n1 σ1 τ1 θ1 (fun a7 n7 σ7 τ7 θ7 => aw_WT n7 θ7 ∧ (q a7 n7 σ7 τ7 θ7))))))) : SW G k mX9_spring (aw_qi q) 0 0 0 [some (.ref 1)] [] (n, σ, τ, θ) := by
  refine SW.aload_n dX9_spring_0 rfl ?_
  refine SW.cvi0 kV_X9_134 (by omega) aw_cl9 kp_1 (by decide) (hW.le (by decide)) rfl (Nat.le_of_ble_eq_true rfl) dX9_spring_1 (SMi.mono vc ?_)
  intro a1 n1 σ1 τ1 θ1 vc
  obtain ⟨hW, vc⟩ := vc
  refine SW.if_eq 13 dX9_spring_4 (by decide) (fun hbr => ?_) (fun hbr => ?_)
  · replace vc := vc.1 hbr
    refine SW.aload_n dX9_spring_13 rfl ?_
    refine SW.getS (f := 1) (r := 6) aw_cl9 kp_1 (by decide) (hW.le (by decide)) (by decide) ww_466 dX9_spring_14 rfl hW.t1_1 ?_
    refine SW.getI (f := 2) aw_cl2 kp_6 (by decide) (hW.le (by decide)) (by decide) ww_204 dX9_spring_17 rfl ?_
    refine SW.sipush (v := (999 : Int32)) dX9_spring_20 (by decide) ?_
    refine SW.icmp_lt 32 dX9_spring_23 (by decide) (fun hbr => ?_) (fun hbr => ?_)
    · replace vc := vc.1 hbr
      refine SW.aload_n dX9_spring_32 rfl ?_
      refine SW.getS (f := 2) (r := 9) aw_cl9 kp_1 (by decide) (hW.le (by decide)) (by decide) ww_467 dX9_spring_33 rfl hW.t1_2 ?_
      refine SW.aload_n dX9_spring_36 rfl ?_
      refine SW.getS (f := 1) (r := 6) aw_cl9 kp_1 (by decide) (hW.le (by decide)) (by decide) ww_466 dX9_spring_37 rfl hW.t1_1 ?_
      refine SW.cvv1 kV_X9_297 (by omega) aw_cl5 kp_9 (by decide) (hW.le (by decide)) rfl (Nat.le_of_ble_eq_true rfl) dX9_spring_40 (SMv.mono vc ?_)
      intro n2 σ2 τ2 θ2 vc
      obtain ⟨hW, vc⟩ := vc
      refine SW.aload_n dX9_spring_43 rfl ?_
      refine SW.getS (f := 1) (r := 6) aw_cl9 kp_1 (by decide) (hW.le (by decide)) (by decide) ww_466 dX9_spring_44 rfl hW.t1_1 ?_
      refine SW.dup dX9_spring_47 rfl ?_
      refine SW.getI (f := 2) aw_cl2 kp_6 (by decide) (hW.le (by decide)) (by decide) ww_204 dX9_spring_48 rfl ?_
      refine SW.iconst (v := (1 : Int32)) dX9_spring_51 (by decide) ?_
      refine SW.iadd dX9_spring_52 ?_
      refine SW.putI (f := 2) aw_cl2 kp_6 (by decide) (hW.le (by decide)) (by decide) ww_204 (Or.inl rfl) dX9_spring_53 rfl rfl rfl ?_
      refine SW.aload_n dX9_spring_56 rfl ?_
      refine SW.aload_n dX9_spring_57 rfl ?_
      have hF3 := hW.f
      refine SW.getS (f := 7) (r := (θ2 1 7)) aw_cl9 kp_1 (by decide) (hW.le (by decide)) (by decide) ww_472 dX9_spring_58 rfl rfl ?_
      refine SW.aload_n dX9_spring_61 rfl ?_
      refine SW.getS (f := 1) (r := 6) aw_cl9 kp_1 (by decide) (hW.le (by decide)) (by decide) ww_466 dX9_spring_62 rfl hW.t1_1 ?_
      refine SW.aload_n dX9_spring_65 rfl ?_
      refine SW.getS (f := 1) (r := 6) aw_cl9 kp_1 (by decide) (hW.le (by decide)) (by decide) ww_466 dX9_spring_66 rfl hW.t1_1 ?_
      refine SW.getI (f := 2) aw_cl2 kp_6 (by decide) (hW.le (by decide)) (by decide) ww_204 dX9_spring_69 rfl ?_
      refine SW.cvi2 kV_X9_141 (by omega) aw_cl1 (kpF_0 hF3) (leF_0 hF3).1 (hW.le (leF_0 hF3).2) rfl (Nat.le_of_ble_eq_true rfl) dX9_spring_72 (SMi.mono vc ?_)
      intro a4 n4 σ4 τ4 θ4 vc
      obtain ⟨hW, vc⟩ := vc
      refine SW.cvi1 kV_X9_100 (by omega) aw_cl9 kp_1 (by decide) (hW.le (by decide)) rfl (Nat.le_of_ble_eq_true rfl) dX9_spring_75 (SMi.mono vc ?_)
      intro a5 n5 σ5 τ5 θ5 vc
      obtain ⟨hW, vc⟩ := vc
      exact SW.iret dX9_spring_78 rfl rfl ⟨_, rfl, vc⟩
    · replace vc := vc.2 hbr
      refine SW.aload_n dX9_spring_26 rfl ?_
      refine SW.iconst (v := (3 : Int32)) dX9_spring_27 (by decide) ?_
      refine SW.cvi1 kV_X9_82 (by omega) aw_cl9 kp_1 (by decide) (hW.le (by decide)) rfl (Nat.le_of_ble_eq_true rfl) dX9_spring_28 (SMi.mono vc ?_)
      intro a6 n6 σ6 τ6 θ6 vc
      obtain ⟨hW, vc⟩ := vc
      exact SW.iret dX9_spring_31 rfl rfl ⟨_, rfl, vc⟩
  · replace vc := vc.2 hbr
    refine SW.aload_n dX9_spring_7 rfl ?_
    refine SW.iconst (v := (1 : Int32)) dX9_spring_8 (by decide) ?_
    refine SW.cvi1 kV_X9_82 (by omega) aw_cl9 kp_1 (by decide) (hW.le (by decide)) rfl (Nat.le_of_ble_eq_true rfl) dX9_spring_9 (SMi.mono vc ?_)
    intro a7 n7 σ7 τ7 θ7 vc
    obtain ⟨hW, vc⟩ := vc
    exact SW.iret dX9_spring_12 rfl rfl ⟨_, rfl, vc⟩
theorem ctX9_spring {G : GG} {q : Int32 → Nat → SG → TU → TH → Prop} {n : Nat} {σ : SG} {τ : TU} {θ : TH}  (h : SW G 5 mX9_spring (aw_qi q) 0 0 0 [some (.ref 1)] [] (n, σ, τ, θ)) : SMi G 5 mX9_spring 0 0 [.ref 1] n σ τ θ q := SM.of _ rfl rfl (Nat.le_of_ble_eq_true rfl) h
set_option maxHeartbeats 4000000 in
set_option maxRecDepth 20000 in
theorem sgX9_springsUntil_0 {G : GG} {k : Nat} {q : Int32 → Nat → SG → TU → TH → Prop} {n : Nat} {σ : SG} {τ : TU} {θ : TH}  (x1 : Int32) (x2 : Int32) (hk : 4 ≤ k)  (hW : aw_WT n θ) (vc : SW G k mX9_springsUntil (aw_qi q) 0 0 2 [some (.ref 1), some (.int x1), some (.int x2), some (.int (0 : Int32))] [] (n, σ, τ, θ)) : SW G k mX9_springsUntil (aw_qi q) 0 0 0 [some (.ref 1), some (.int x1), some (.int x2), none] [] (n, σ, τ, θ) := by
  refine SW.iconst (v := (0 : Int32)) dX9_springsUntil_0 (by decide) ?_
  refine SW.istore_n dX9_springsUntil_1 (by decide) rfl rfl ?_
  exact vc
set_option maxHeartbeats 4000000 in
set_option maxRecDepth 20000 in
theorem sgX9_springsUntil_2 {G : GG} {k : Nat} {q : Int32 → Nat → SG → TU → TH → Prop} {n : Nat} {σ : SG} {τ : TU} {θ : TH}  (x1 : Int32) (x2 : Int32) (x3 : Int32) (hk : 4 ≤ k)  (hW : aw_WT n θ) (vc : (((20 : Int32) < x3) → (q (-2 : Int32) n σ τ θ)) ∧ ((¬ (20 : Int32) < x3) → (SMi G 3 mX1_headOf 0 0 [.ref (θ 1 7), .ref 6, .int x1, .int ((σ 6 2) + x3)] n σ τ θ (fun a2 n2 σ2 τ2 θ2 => aw_WT n2 θ2 ∧ (((a2 < x2) → (SW G k mX9_springsUntil (aw_qi q) 0 0 2 [some (.ref 1), some (.int x1), some (.int x2), some (.int (x3 + (1 : Int32)))] [] (n2, σ2, τ2, θ2))) ∧ ((¬ a2 < x2) → (q x3 n2 σ2 τ2 θ2))))))) : SW G k mX9_springsUntil (aw_qi q) 0 0 2 [some (.ref 1), some (.int x1), some (.int x2), some (.int x3)] [] (n, σ, τ, θ) := by
  refine SW.iload_n dX9_springsUntil_2 rfl ?_
  refine SW.bipush (v := (20 : Int32)) dX9_springsUntil_3 (by decide) ?_
  refine SW.icmp_gt 41 dX9_springsUntil_5 (by decide) (fun hbr => ?_) (fun hbr => ?_)
  · replace vc := vc.1 hbr
    refine SW.bipush (v := (-2 : Int32)) dX9_springsUntil_41 (by decide) ?_
    exact SW.iret dX9_springsUntil_43 rfl rfl ⟨_, rfl, vc⟩
  · replace vc := vc.2 hbr
    refine SW.aload_n dX9_springsUntil_8 rfl ?_
    have hF1 := hW.f
    refine SW.getS (f := 7) (r := (θ 1 7)) aw_cl9 kp_1 (by decide) (hW.le (by decide)) (by decide) ww_472 dX9_springsUntil_9 rfl rfl ?_
    refine SW.aload_n dX9_springsUntil_12 rfl ?_
    refine SW.getS (f := 1) (r := 6) aw_cl9 kp_1 (by decide) (hW.le (by decide)) (by decide) ww_466 dX9_springsUntil_13 rfl hW.t1_1 ?_
    refine SW.iload_n dX9_springsUntil_16 rfl ?_
    refine SW.aload_n dX9_springsUntil_17 rfl ?_
    refine SW.getS (f := 1) (r := 6) aw_cl9 kp_1 (by decide) (hW.le (by decide)) (by decide) ww_466 dX9_springsUntil_18 rfl hW.t1_1 ?_
    refine SW.getI (f := 2) aw_cl2 kp_6 (by decide) (hW.le (by decide)) (by decide) ww_204 dX9_springsUntil_21 rfl ?_
    refine SW.iload_n dX9_springsUntil_24 rfl ?_
    refine SW.iadd dX9_springsUntil_25 ?_
    refine SW.cvi3 kV_X9_147 (by omega) aw_cl1 (kpF_0 hF1) (leF_0 hF1).1 (hW.le (leF_0 hF1).2) rfl (Nat.le_of_ble_eq_true rfl) dX9_springsUntil_26 (SMi.mono vc ?_)
    intro a2 n2 σ2 τ2 θ2 vc
    obtain ⟨hW, vc⟩ := vc
    refine SW.iload_n dX9_springsUntil_29 rfl ?_
    refine SW.icmp_lt 35 dX9_springsUntil_30 (by decide) (fun hbr => ?_) (fun hbr => ?_)
    · replace vc := vc.1 hbr
      refine SW.iinc (v := (x3 + (1 : Int32))) dX9_springsUntil_35 rfl rfl (by decide) rfl rfl ?_
      refine SW.goto 2 dX9_springsUntil_38 (by decide) ?_
      exact vc
    · replace vc := vc.2 hbr
      refine SW.iload_n dX9_springsUntil_33 rfl ?_
      exact SW.iret dX9_springsUntil_34 rfl rfl ⟨_, rfl, vc⟩
theorem ctX9_springsUntil {G : GG} {q : Int32 → Nat → SG → TU → TH → Prop} {n : Nat} {σ : SG} {τ : TU} {θ : TH} (x1 : Int32) (x2 : Int32) (h : SW G 4 mX9_springsUntil (aw_qi q) 0 0 0 [some (.ref 1), some (.int x1), some (.int x2), none] [] (n, σ, τ, θ)) : SMi G 4 mX9_springsUntil 0 0 [.ref 1, .int x1, .int x2] n σ τ θ q := SM.of _ rfl rfl (Nat.le_of_ble_eq_true rfl) h
set_option maxHeartbeats 4000000 in
set_option maxRecDepth 20000 in
theorem sgX9_trouble_0 {G : GG} {k : Nat} {q : Int32 → Nat → SG → TU → TH → Prop} {n : Nat} {σ : SG} {τ : TU} {θ : TH}   (hk : 1 ≤ k)  (hW : aw_WT n θ) (vc : q (σ 1 10) n σ τ θ) : SW G k mX9_trouble (aw_qi q) 0 0 0 [some (.ref 1)] [] (n, σ, τ, θ) := by
  refine SW.aload_n dX9_trouble_0 rfl ?_
  refine SW.getI (f := 10) aw_cl9 kp_1 (by decide) (hW.le (by decide)) (by decide) ww_475 dX9_trouble_1 rfl ?_
  exact SW.iret dX9_trouble_4 rfl rfl ⟨_, rfl, vc⟩
theorem ctX9_trouble {G : GG} {q : Int32 → Nat → SG → TU → TH → Prop} {n : Nat} {σ : SG} {τ : TU} {θ : TH}  (h : SW G 1 mX9_trouble (aw_qi q) 0 0 0 [some (.ref 1)] [] (n, σ, τ, θ)) : SMi G 1 mX9_trouble 0 0 [.ref 1] n σ τ θ q := SM.of _ rfl rfl (Nat.le_of_ble_eq_true rfl) h
set_option maxHeartbeats 4000000 in
set_option maxRecDepth 20000 in
theorem sgX9_troubleOfDispute_0 {G : GG} {k : Nat} {q : Int32 → Nat → SG → TU → TH → Prop} {n : Nat} {σ : SG} {τ : TU} {θ : TH}  (x1 : Int32) (x2 : Int32) (x3 : Int32) (hk : 2 ≤ k)  (hW : aw_WT n θ) (vc : SMi G 1 mX9_isMan 0 0 [.ref 1, .int x1] n σ τ θ (fun a1 n1 σ1 τ1 θ1 => aw_WT n1 θ1 ∧ (((a1 = 0) → (q (1 : Int32) n1 σ1 τ1 θ1)) ∧ ((¬ a1 = 0) → (SMi G 1 mX9_isMan 0 0 [.ref 1, .int x2] n1 σ1 τ1 θ1 (fun a2 n2 σ2 τ2 θ2 => aw_WT n2 θ2 ∧ (((a2 = 0) → (q (1 : Int32) n2 σ2 τ2 θ2)) ∧ ((¬ a2 = 0) → (((¬ x1 = x2) → (((x3 < 0) → (q (2 : Int32) n2 σ2 τ2 θ2)) ∧ ((¬ x3 < 0) → (((x3 ≤ (99 : Int32)) → (q (0 : Int32) n2 σ2 τ2 θ2)) ∧ ((¬ x3 ≤ (99 : Int32)) → (q (2 : Int32) n2 σ2 τ2 θ2)))))) ∧ ((x1 = x2) → (q (1 : Int32) n2 σ2 τ2 θ2))))))))))) : SW G k mX9_troubleOfDispute (aw_qi q) 0 0 0 [some (.ref 1), some (.int x1), some (.int x2), some (.int x3)] [] (n, σ, τ, θ) := by
  refine SW.aload_n dX9_troubleOfDispute_0 rfl ?_
  refine SW.iload_n dX9_troubleOfDispute_1 rfl ?_
  refine SW.cvi1 kV_X9_106 (by omega) aw_cl9 kp_1 (by decide) (hW.le (by decide)) rfl (Nat.le_of_ble_eq_true rfl) dX9_troubleOfDispute_2 (SMi.mono vc ?_)
  intro a1 n1 σ1 τ1 θ1 vc
  obtain ⟨hW, vc⟩ := vc
  refine SW.if_eq 21 dX9_troubleOfDispute_5 (by decide) (fun hbr => ?_) (fun hbr => ?_)
  · replace vc := vc.1 hbr
    refine SW.iconst (v := (1 : Int32)) dX9_troubleOfDispute_21 (by decide) ?_
    exact SW.iret dX9_troubleOfDispute_22 rfl rfl ⟨_, rfl, vc⟩
  · replace vc := vc.2 hbr
    refine SW.aload_n dX9_troubleOfDispute_8 rfl ?_
    refine SW.iload_n dX9_troubleOfDispute_9 rfl ?_
    refine SW.cvi1 kV_X9_106 (by omega) aw_cl9 kp_1 (by decide) (hW.le (by decide)) rfl (Nat.le_of_ble_eq_true rfl) dX9_troubleOfDispute_10 (SMi.mono vc ?_)
    intro a2 n2 σ2 τ2 θ2 vc
    obtain ⟨hW, vc⟩ := vc
    refine SW.if_eq 21 dX9_troubleOfDispute_13 (by decide) (fun hbr => ?_) (fun hbr => ?_)
    · replace vc := vc.1 hbr
      refine SW.iconst (v := (1 : Int32)) dX9_troubleOfDispute_21 (by decide) ?_
      exact SW.iret dX9_troubleOfDispute_22 rfl rfl ⟨_, rfl, vc⟩
    · replace vc := vc.2 hbr
      refine SW.iload_n dX9_troubleOfDispute_16 rfl ?_
      refine SW.iload_n dX9_troubleOfDispute_17 rfl ?_
      refine SW.icmp_ne 23 dX9_troubleOfDispute_18 (by decide) (fun hbr => ?_) (fun hbr => ?_)
      · replace vc := vc.1 hbr
        refine SW.iload_n dX9_troubleOfDispute_23 rfl ?_
        refine SW.if_lt 33 dX9_troubleOfDispute_24 (by decide) (fun hbr => ?_) (fun hbr => ?_)
        · replace vc := vc.1 hbr
          refine SW.iconst (v := (2 : Int32)) dX9_troubleOfDispute_33 (by decide) ?_
          refine SW.goto 38 dX9_troubleOfDispute_34 (by decide) ?_
          exact SW.iret dX9_troubleOfDispute_38 rfl rfl ⟨_, rfl, vc⟩
        · replace vc := vc.2 hbr
          refine SW.iload_n dX9_troubleOfDispute_27 rfl ?_
          refine SW.bipush (v := (99 : Int32)) dX9_troubleOfDispute_28 (by decide) ?_
          refine SW.icmp_le 37 dX9_troubleOfDispute_30 (by decide) (fun hbr => ?_) (fun hbr => ?_)
          · replace vc := vc.1 hbr
            refine SW.iconst (v := (0 : Int32)) dX9_troubleOfDispute_37 (by decide) ?_
            exact SW.iret dX9_troubleOfDispute_38 rfl rfl ⟨_, rfl, vc⟩
          · replace vc := vc.2 hbr
            refine SW.iconst (v := (2 : Int32)) dX9_troubleOfDispute_33 (by decide) ?_
            refine SW.goto 38 dX9_troubleOfDispute_34 (by decide) ?_
            exact SW.iret dX9_troubleOfDispute_38 rfl rfl ⟨_, rfl, vc⟩
      · replace vc := vc.2 hbr
        refine SW.iconst (v := (1 : Int32)) dX9_troubleOfDispute_21 (by decide) ?_
        exact SW.iret dX9_troubleOfDispute_22 rfl rfl ⟨_, rfl, vc⟩
theorem ctX9_troubleOfDispute {G : GG} {q : Int32 → Nat → SG → TU → TH → Prop} {n : Nat} {σ : SG} {τ : TU} {θ : TH} (x1 : Int32) (x2 : Int32) (x3 : Int32) (h : SW G 2 mX9_troubleOfDispute (aw_qi q) 0 0 0 [some (.ref 1), some (.int x1), some (.int x2), some (.int x3)] [] (n, σ, τ, θ)) : SMi G 2 mX9_troubleOfDispute 0 0 [.ref 1, .int x1, .int x2, .int x3] n σ τ θ q := SM.of _ rfl rfl (Nat.le_of_ble_eq_true rfl) h
set_option maxHeartbeats 4000000 in
set_option maxRecDepth 20000 in
theorem sgX9_troubleOfWeeks_0 {G : GG} {k : Nat} {q : Int32 → Nat → SG → TU → TH → Prop} {n : Nat} {σ : SG} {τ : TU} {θ : TH}  (x1 : Int32) (hk : 2 ≤ k)  (hW : aw_WT n θ) (vc : SMi G 1 mX9_noDuchy 0 0 [.ref 1] n σ τ θ (fun a1 n1 σ1 τ1 θ1 => aw_WT n1 θ1 ∧ (((a1 = 0) → (((x1 < 0) → (q (2 : Int32) n1 σ1 τ1 θ1)) ∧ ((¬ x1 < 0) → (((x1 ≤ (8 : Int32)) → (q (0 : Int32) n1 σ1 τ1 θ1)) ∧ ((¬ x1 ≤ (8 : Int32)) → (q (2 : Int32) n1 σ1 τ1 θ1)))))) ∧ ((¬ a1 = 0) → (q (1 : Int32) n1 σ1 τ1 θ1))))) : SW G k mX9_troubleOfWeeks (aw_qi q) 0 0 0 [some (.ref 1), some (.int x1)] [] (n, σ, τ, θ) := by
  refine SW.aload_n dX9_troubleOfWeeks_0 rfl ?_
  refine SW.cvi0 kV_X9_134 (by omega) aw_cl9 kp_1 (by decide) (hW.le (by decide)) rfl (Nat.le_of_ble_eq_true rfl) dX9_troubleOfWeeks_1 (SMi.mono vc ?_)
  intro a1 n1 σ1 τ1 θ1 vc
  obtain ⟨hW, vc⟩ := vc
  refine SW.if_eq 9 dX9_troubleOfWeeks_4 (by decide) (fun hbr => ?_) (fun hbr => ?_)
  · replace vc := vc.1 hbr
    refine SW.iload_n dX9_troubleOfWeeks_9 rfl ?_
    refine SW.if_lt 19 dX9_troubleOfWeeks_10 (by decide) (fun hbr => ?_) (fun hbr => ?_)
    · replace vc := vc.1 hbr
      refine SW.iconst (v := (2 : Int32)) dX9_troubleOfWeeks_19 (by decide) ?_
      refine SW.goto 24 dX9_troubleOfWeeks_20 (by decide) ?_
      exact SW.iret dX9_troubleOfWeeks_24 rfl rfl ⟨_, rfl, vc⟩
    · replace vc := vc.2 hbr
      refine SW.iload_n dX9_troubleOfWeeks_13 rfl ?_
      refine SW.bipush (v := (8 : Int32)) dX9_troubleOfWeeks_14 (by decide) ?_
      refine SW.icmp_le 23 dX9_troubleOfWeeks_16 (by decide) (fun hbr => ?_) (fun hbr => ?_)
      · replace vc := vc.1 hbr
        refine SW.iconst (v := (0 : Int32)) dX9_troubleOfWeeks_23 (by decide) ?_
        exact SW.iret dX9_troubleOfWeeks_24 rfl rfl ⟨_, rfl, vc⟩
      · replace vc := vc.2 hbr
        refine SW.iconst (v := (2 : Int32)) dX9_troubleOfWeeks_19 (by decide) ?_
        refine SW.goto 24 dX9_troubleOfWeeks_20 (by decide) ?_
        exact SW.iret dX9_troubleOfWeeks_24 rfl rfl ⟨_, rfl, vc⟩
  · replace vc := vc.2 hbr
    refine SW.iconst (v := (1 : Int32)) dX9_troubleOfWeeks_7 (by decide) ?_
    exact SW.iret dX9_troubleOfWeeks_8 rfl rfl ⟨_, rfl, vc⟩
theorem ctX9_troubleOfWeeks {G : GG} {q : Int32 → Nat → SG → TU → TH → Prop} {n : Nat} {σ : SG} {τ : TU} {θ : TH} (x1 : Int32) (h : SW G 2 mX9_troubleOfWeeks (aw_qi q) 0 0 0 [some (.ref 1), some (.int x1)] [] (n, σ, τ, θ)) : SMi G 2 mX9_troubleOfWeeks 0 0 [.ref 1, .int x1] n σ τ θ q := SM.of _ rfl rfl (Nat.le_of_ble_eq_true rfl) h
set_option maxHeartbeats 4000000 in
set_option maxRecDepth 20000 in
theorem sgX9_undo_0 {G : GG} {k : Nat} {q : Int32 → Nat → SG → TU → TH → Prop} {n : Nat} {σ : SG} {τ : TU} {θ : TH}   (hk : 3 ≤ k)  (hW : aw_WT n θ) (vc : SMi G 2 mX5_takeBack 0 0 [.ref 9, .ref 6] n σ τ θ (fun a1 n1 σ1 τ1 θ1 => aw_WT n1 θ1 ∧ (((a1 = 0) → ((a1 = 0 ∨ a1 = 1) ∧ q a1 n1 (aw_u σ1 1 10 (6 : Int32)) τ1 θ1)) ∧ ((¬ a1 = 0) → ((a1 = 0 ∨ a1 = 1) ∧ q a1 n1 (aw_u σ1 1 10 (0 : Int32)) τ1 θ1))))) : SW G k mX9_undo (aw_qi q) 0 0 0 [some (.ref 1), none] [] (n, σ, τ, θ) := by
  refine SW.aload_n dX9_undo_0 rfl ?_
  refine SW.getS (f := 2) (r := 9) aw_cl9 kp_1 (by decide) (hW.le (by decide)) (by decide) ww_467 dX9_undo_1 rfl hW.t1_2 ?_
  refine SW.aload_n dX9_undo_4 rfl ?_
  refine SW.getS (f := 1) (r := 6) aw_cl9 kp_1 (by decide) (hW.le (by decide)) (by decide) ww_466 dX9_undo_5 rfl hW.t1_1 ?_
  refine SW.cvi1 kV_X9_311 (by omega) aw_cl5 kp_9 (by decide) (hW.le (by decide)) rfl (Nat.le_of_ble_eq_true rfl) dX9_undo_8 (SMi.mono vc ?_)
  intro a1 n1 σ1 τ1 θ1 vc
  obtain ⟨hW, vc⟩ := vc
  refine SW.istore_n dX9_undo_11 (by decide) rfl rfl ?_
  refine SW.aload_n dX9_undo_12 rfl ?_
  refine SW.iload_n dX9_undo_13 rfl ?_
  refine SW.if_eq 21 dX9_undo_14 (by decide) (fun hbr => ?_) (fun hbr => ?_)
  · replace vc := vc.1 hbr
    refine SW.bipush (v := (6 : Int32)) dX9_undo_21 (by decide) ?_
    refine SW.putI (f := 10) aw_cl9 kp_1 (by decide) (hW.le (by decide)) (by decide) ww_475 (Or.inl rfl) dX9_undo_23 rfl rfl rfl ?_
    refine SW.iload_n dX9_undo_26 rfl ?_
    exact SW.iret dX9_undo_27 rfl (aw_nb vc.1) ⟨_, rfl, vc.2⟩
  · replace vc := vc.2 hbr
    refine SW.iconst (v := (0 : Int32)) dX9_undo_17 (by decide) ?_
    refine SW.goto 23 dX9_undo_18 (by decide) ?_
    refine SW.putI (f := 10) aw_cl9 kp_1 (by decide) (hW.le (by decide)) (by decide) ww_475 (Or.inl rfl) dX9_undo_23 rfl rfl rfl ?_
    refine SW.iload_n dX9_undo_26 rfl ?_
    exact SW.iret dX9_undo_27 rfl (aw_nb vc.1) ⟨_, rfl, vc.2⟩
theorem ctX9_undo {G : GG} {q : Int32 → Nat → SG → TU → TH → Prop} {n : Nat} {σ : SG} {τ : TU} {θ : TH}  (h : SW G 3 mX9_undo (aw_qi q) 0 0 0 [some (.ref 1), none] [] (n, σ, τ, θ)) : SMi G 3 mX9_undo 0 0 [.ref 1] n σ τ θ q := SM.of _ rfl rfl (Nat.le_of_ble_eq_true rfl) h
set_option maxHeartbeats 4000000 in
set_option maxRecDepth 20000 in
theorem sgX9_weeks_0 {G : GG} {k : Nat} {q : Int64 → Nat → SG → TU → TH → Prop} {n : Nat} {σ : SG} {τ : TU} {θ : TH}  (x1 : Int32) (x2 : Int32) (hk : 3 ≤ k)  (hW : aw_WT n θ) (vc : SMi G 2 mX9_troubleOfWeeks 0 0 [.ref 1, .int x1] n σ τ θ (fun a1 n1 σ1 τ1 θ1 => aw_WT n1 θ1 ∧ (((a1 = 0) → (SW G k mX9_weeks (aw_ql q) 0 0 29 [some (.ref 1), some (.int x1), some (.int x2), none, some (.long (1 : Int64)), none, some (.long (0 : Int64)), none, some (.long (1 : Int64)), none, some (.int (0 : Int32))] [] (n1, σ1, τ1, θ1))) ∧ ((¬ a1 = 0) → (SMi G 1 mX9_refuse 0 0 [.ref 1, .int a1] n1 σ1 τ1 θ1 (fun a2 n2 σ2 τ2 θ2 => aw_WT n2 θ2 ∧ (q (a2.toInt64) n2 σ2 τ2 θ2))))))) : SW G k mX9_weeks (aw_ql q) 0 0 0 [some (.ref 1), some (.int x1), some (.int x2), none, none, none, none, none, none, none, none] [] (n, σ, τ, θ) := by
  refine SW.aload_n dX9_weeks_0 rfl ?_
  refine SW.iload_n dX9_weeks_1 rfl ?_
  refine SW.cvi1 kV_X9_272 (by omega) aw_cl9 kp_1 (by decide) (hW.le (by decide)) rfl (Nat.le_of_ble_eq_true rfl) dX9_weeks_2 (SMi.mono vc ?_)
  intro a1 n1 σ1 τ1 θ1 vc
  obtain ⟨hW, vc⟩ := vc
  refine SW.istore_n dX9_weeks_5 (by decide) rfl rfl ?_
  refine SW.iload_n dX9_weeks_6 rfl ?_
  refine SW.if_eq 17 dX9_weeks_7 (by decide) (fun hbr => ?_) (fun hbr => ?_)
  · replace vc := vc.1 hbr
    refine SW.lconst (v := (1 : Int64)) dX9_weeks_17 (by decide) ?_
    refine SW.lstore dX9_weeks_18 (by decide) rfl rfl ?_
    refine SW.lconst (v := (0 : Int64)) dX9_weeks_20 (by decide) ?_
    refine SW.lstore dX9_weeks_21 (by decide) rfl rfl ?_
    refine SW.lconst (v := (1 : Int64)) dX9_weeks_23 (by decide) ?_
    refine SW.lstore dX9_weeks_24 (by decide) rfl rfl ?_
    refine SW.iconst (v := (0 : Int32)) dX9_weeks_26 (by decide) ?_
    refine SW.istore dX9_weeks_27 (by decide) rfl rfl ?_
    refine SW.msk [true, true, true, false, true, true, true, true, true, true, true] rfl ?_
    exact vc
  · replace vc := vc.2 hbr
    refine SW.aload_n dX9_weeks_10 rfl ?_
    refine SW.iload_n dX9_weeks_11 rfl ?_
    refine SW.cvi1 kV_X9_82 (by omega) aw_cl9 kp_1 (by decide) (hW.le (by decide)) rfl (Nat.le_of_ble_eq_true rfl) dX9_weeks_12 (SMi.mono vc ?_)
    intro a2 n2 σ2 τ2 θ2 vc
    obtain ⟨hW, vc⟩ := vc
    refine SW.i2l dX9_weeks_15 ?_
    exact SW.lret dX9_weeks_16 rfl ⟨_, rfl, vc⟩
set_option maxHeartbeats 4000000 in
set_option maxRecDepth 20000 in
theorem sgX9_weeks_29 {G : GG} {k : Nat} {q : Int64 → Nat → SG → TU → TH → Prop} {n : Nat} {σ : SG} {τ : TU} {θ : TH}  (x1 : Int32) (x2 : Int32) (x4 : Int64) (x6 : Int64) (x8 : Int64) (x10 : Int32) (hk : 3 ≤ k)  (hW : aw_WT n θ) (vc : ((x1 ≤ x10) → (SMl G 1 mX9_lowest 0 0 [.long x6, .long x8, .int x2] n (aw_u σ 1 10 (0 : Int32)) τ θ (fun a1 n1 σ1 τ1 θ1 => aw_WT n1 θ1 ∧ (q a1 n1 σ1 τ1 θ1)))) ∧ ((¬ x1 ≤ x10) → (SW G k mX9_weeks (aw_ql q) 0 0 29 [some (.ref 1), some (.int x1), some (.int x2), none, some (.long (x4 * ((σ (θ 1 7) 11).toInt64))), none, some (.long ((x6 * (100 : Int64)) + (x4 * ((σ (θ 1 7) 11).toInt64)))), none, some (.long (x8 * (100 : Int64))), none, some (.int (x10 + (1 : Int32)))] [] (n, σ, τ, θ)))) : SW G k mX9_weeks (aw_ql q) 0 0 29 [some (.ref 1), some (.int x1), some (.int x2), none, some (.long x4), none, some (.long x6), none, some (.long x8), none, some (.int x10)] [] (n, σ, τ, θ) := by
  refine SW.iload dX9_weeks_29 rfl ?_
  refine SW.iload_n dX9_weeks_31 rfl ?_
  refine SW.icmp_ge 73 dX9_weeks_32 (by decide) (fun hbr => ?_) (fun hbr => ?_)
  · replace vc := vc.1 hbr
    refine SW.aload_n dX9_weeks_73 rfl ?_
    refine SW.iconst (v := (0 : Int32)) dX9_weeks_74 (by decide) ?_
    refine SW.putI (f := 10) aw_cl9 kp_1 (by decide) (hW.le (by decide)) (by decide) ww_475 (Or.inl rfl) dX9_weeks_75 rfl rfl rfl ?_
    refine SW.lload dX9_weeks_78 rfl ?_
    refine SW.lload dX9_weeks_80 rfl ?_
    refine SW.iload_n dX9_weeks_82 rfl ?_
    refine SW.csl3 kS_X9_232 (by omega) (Nat.le_of_ble_eq_true rfl) dX9_weeks_83 (SMl.mono vc ?_)
    intro a1 n1 σ1 τ1 θ1 vc
    obtain ⟨hW, vc⟩ := vc
    exact SW.lret dX9_weeks_86 rfl ⟨_, rfl, vc⟩
  · replace vc := vc.2 hbr
    refine SW.lload dX9_weeks_35 rfl ?_
    refine SW.aload_n dX9_weeks_37 rfl ?_
    have hF2 := hW.f
    refine SW.getS (f := 7) (r := (θ 1 7)) aw_cl9 kp_1 (by decide) (hW.le (by decide)) (by decide) ww_472 dX9_weeks_38 rfl rfl ?_
    refine SW.getI (f := 11) aw_cl1 (kpF_0 hF2) (leF_0 hF2).1 (hW.le (leF_0 hF2).2) (by decide) ww_412 dX9_weeks_41 rfl ?_
    refine SW.i2l dX9_weeks_44 ?_
    refine SW.lmul dX9_weeks_45 ?_
    refine SW.lstore dX9_weeks_46 (by decide) rfl rfl ?_
    refine SW.lload dX9_weeks_48 rfl ?_
    refine SW.ldc2 (v := (100 : Int64)) ww_1066 dX9_weeks_50 ?_
    refine SW.lmul dX9_weeks_53 ?_
    refine SW.lload dX9_weeks_54 rfl ?_
    refine SW.ladd dX9_weeks_56 ?_
    refine SW.lstore dX9_weeks_57 (by decide) rfl rfl ?_
    refine SW.lload dX9_weeks_59 rfl ?_
    refine SW.ldc2 (v := (100 : Int64)) ww_1066 dX9_weeks_61 ?_
    refine SW.lmul dX9_weeks_64 ?_
    refine SW.lstore dX9_weeks_65 (by decide) rfl rfl ?_
    refine SW.iinc (v := (x10 + (1 : Int32))) dX9_weeks_67 rfl rfl (by decide) rfl rfl ?_
    refine SW.goto 29 dX9_weeks_70 (by decide) ?_
    exact vc
theorem ctX9_weeks {G : GG} {q : Int64 → Nat → SG → TU → TH → Prop} {n : Nat} {σ : SG} {τ : TU} {θ : TH} (x1 : Int32) (x2 : Int32) (h : SW G 3 mX9_weeks (aw_ql q) 0 0 0 [some (.ref 1), some (.int x1), some (.int x2), none, none, none, none, none, none, none, none] [] (n, σ, τ, θ)) : SMl G 3 mX9_weeks 0 0 [.ref 1, .int x1, .int x2] n σ τ θ q := SM.of _ rfl rfl (Nat.le_of_ble_eq_true rfl) h
set_option maxHeartbeats 4000000 in
set_option maxRecDepth 20000 in
theorem sgX9_when_0 {G : GG} {k : Nat} {q : Int32 → Nat → SG → TU → TH → Prop} {n : Nat} {σ : SG} {τ : TU} {θ : TH}  (x1 : Int32) (x2 : Int32) (hk : 5 ≤ k)  (hW : aw_WT n θ) (vc : SMi G 1 mX9_isMan 0 0 [.ref 1, .int x1] n σ τ θ (fun a1 n1 σ1 τ1 θ1 => aw_WT n1 θ1 ∧ (((¬ a1 = 0) → (((x2 < 0) → (SMi G 1 mX9_refuse 0 0 [.ref 1, .int (2 : Int32)] n1 σ1 τ1 θ1 (fun a2 n2 σ2 τ2 θ2 => aw_WT n2 θ2 ∧ (q a2 n2 σ2 τ2 θ2)))) ∧ ((¬ x2 < 0) → (((x2 ≤ (99 : Int32)) → (SMi G 4 mX9_springsUntil 0 0 [.ref 1, .int x1, .int x2] n1 σ1 τ1 θ1 (fun a3 n3 σ3 τ3 θ3 => aw_WT n3 θ3 ∧ (SMi G 1 mX9_grant 0 0 [.ref 1, .int a3] n3 σ3 τ3 θ3 (fun a4 n4 σ4 τ4 θ4 => aw_WT n4 θ4 ∧ (q a4 n4 σ4 τ4 θ4)))))) ∧ ((¬ x2 ≤ (99 : Int32)) → (SMi G 1 mX9_refuse 0 0 [.ref 1, .int (2 : Int32)] n1 σ1 τ1 θ1 (fun a5 n5 σ5 τ5 θ5 => aw_WT n5 θ5 ∧ (q a5 n5 σ5 τ5 θ5)))))))) ∧ ((a1 = 0) → (SMi G 1 mX9_refuse 0 0 [.ref 1, .int (1 : Int32)] n1 σ1 τ1 θ1 (fun a6 n6 σ6 τ6 θ6 => aw_WT n6 θ6 ∧ (q a6 n6 σ6 τ6 θ6))))))) : SW G k mX9_when (aw_qi q) 0 0 0 [some (.ref 1), some (.int x1), some (.int x2)] [] (n, σ, τ, θ) := by
  refine SW.aload_n dX9_when_0 rfl ?_
  refine SW.iload_n dX9_when_1 rfl ?_
  refine SW.cvi1 kV_X9_106 (by omega) aw_cl9 kp_1 (by decide) (hW.le (by decide)) rfl (Nat.le_of_ble_eq_true rfl) dX9_when_2 (SMi.mono vc ?_)
  intro a1 n1 σ1 τ1 θ1 vc
  obtain ⟨hW, vc⟩ := vc
  refine SW.if_ne 14 dX9_when_5 (by decide) (fun hbr => ?_) (fun hbr => ?_)
  · replace vc := vc.1 hbr
    refine SW.iload_n dX9_when_14 rfl ?_
    refine SW.if_lt 24 dX9_when_15 (by decide) (fun hbr => ?_) (fun hbr => ?_)
    · replace vc := vc.1 hbr
      refine SW.aload_n dX9_when_24 rfl ?_
      refine SW.iconst (v := (2 : Int32)) dX9_when_25 (by decide) ?_
      refine SW.cvi1 kV_X9_82 (by omega) aw_cl9 kp_1 (by decide) (hW.le (by decide)) rfl (Nat.le_of_ble_eq_true rfl) dX9_when_26 (SMi.mono vc ?_)
      intro a2 n2 σ2 τ2 θ2 vc
      obtain ⟨hW, vc⟩ := vc
      exact SW.iret dX9_when_29 rfl rfl ⟨_, rfl, vc⟩
    · replace vc := vc.2 hbr
      refine SW.iload_n dX9_when_18 rfl ?_
      refine SW.bipush (v := (99 : Int32)) dX9_when_19 (by decide) ?_
      refine SW.icmp_le 30 dX9_when_21 (by decide) (fun hbr => ?_) (fun hbr => ?_)
      · replace vc := vc.1 hbr
        refine SW.aload_n dX9_when_30 rfl ?_
        refine SW.aload_n dX9_when_31 rfl ?_
        refine SW.iload_n dX9_when_32 rfl ?_
        refine SW.iload_n dX9_when_33 rfl ?_
        refine SW.cvi2 kV_X9_151 (by omega) aw_cl9 kp_1 (by decide) (hW.le (by decide)) rfl (Nat.le_of_ble_eq_true rfl) dX9_when_34 (SMi.mono vc ?_)
        intro a3 n3 σ3 τ3 θ3 vc
        obtain ⟨hW, vc⟩ := vc
        refine SW.cvi1 kV_X9_100 (by omega) aw_cl9 kp_1 (by decide) (hW.le (by decide)) rfl (Nat.le_of_ble_eq_true rfl) dX9_when_37 (SMi.mono vc ?_)
        intro a4 n4 σ4 τ4 θ4 vc
        obtain ⟨hW, vc⟩ := vc
        exact SW.iret dX9_when_40 rfl rfl ⟨_, rfl, vc⟩
      · replace vc := vc.2 hbr
        refine SW.aload_n dX9_when_24 rfl ?_
        refine SW.iconst (v := (2 : Int32)) dX9_when_25 (by decide) ?_
        refine SW.cvi1 kV_X9_82 (by omega) aw_cl9 kp_1 (by decide) (hW.le (by decide)) rfl (Nat.le_of_ble_eq_true rfl) dX9_when_26 (SMi.mono vc ?_)
        intro a5 n5 σ5 τ5 θ5 vc
        obtain ⟨hW, vc⟩ := vc
        exact SW.iret dX9_when_29 rfl rfl ⟨_, rfl, vc⟩
  · replace vc := vc.2 hbr
    refine SW.aload_n dX9_when_8 rfl ?_
    refine SW.iconst (v := (1 : Int32)) dX9_when_9 (by decide) ?_
    refine SW.cvi1 kV_X9_82 (by omega) aw_cl9 kp_1 (by decide) (hW.le (by decide)) rfl (Nat.le_of_ble_eq_true rfl) dX9_when_10 (SMi.mono vc ?_)
    intro a6 n6 σ6 τ6 θ6 vc
    obtain ⟨hW, vc⟩ := vc
    exact SW.iret dX9_when_13 rfl rfl ⟨_, rfl, vc⟩
theorem ctX9_when {G : GG} {q : Int32 → Nat → SG → TU → TH → Prop} {n : Nat} {σ : SG} {τ : TU} {θ : TH} (x1 : Int32) (x2 : Int32) (h : SW G 5 mX9_when (aw_qi q) 0 0 0 [some (.ref 1), some (.int x1), some (.int x2)] [] (n, σ, τ, θ)) : SMi G 5 mX9_when 0 0 [.ref 1, .int x1, .int x2] n σ τ θ q := SM.of _ rfl rfl (Nat.le_of_ble_eq_true rfl) h
set_option maxHeartbeats 4000000 in
set_option maxRecDepth 20000 in
theorem sgX9_where_0 {G : GG} {k : Nat} {q : Int32 → Nat → SG → TU → TH → Prop} {n : Nat} {σ : SG} {τ : TU} {θ : TH}   (hk : 1 ≤ k)  (hW : aw_WT n θ) (vc : ((¬ (σ 1 10) = (4 : Int32)) → (q (-1 : Int32) n σ τ θ)) ∧ (((σ 1 10) = (4 : Int32)) → (q (σ 2 1) n σ τ θ))) : SW G k mX9_where (aw_qi q) 0 0 0 [some (.ref 1)] [] (n, σ, τ, θ) := by
  refine SW.aload_n dX9_where_0 rfl ?_
  refine SW.getI (f := 10) aw_cl9 kp_1 (by decide) (hW.le (by decide)) (by decide) ww_475 dX9_where_1 rfl ?_
  refine SW.iconst (v := (4 : Int32)) dX9_where_4 (by decide) ?_
  refine SW.icmp_ne 18 dX9_where_5 (by decide) (fun hbr => ?_) (fun hbr => ?_)
  · replace vc := vc.1 hbr
    refine SW.iconst (v := (-1 : Int32)) dX9_where_18 (by decide) ?_
    exact SW.iret dX9_where_19 rfl rfl ⟨_, rfl, vc⟩
  · replace vc := vc.2 hbr
    refine SW.aload_n dX9_where_8 rfl ?_
    refine SW.getS (f := 0) (r := 2) aw_cl9 kp_1 (by decide) (hW.le (by decide)) (by decide) ww_465 dX9_where_9 rfl hW.t1_0 ?_
    refine SW.getI (f := 1) aw_cl8 kp_2 (by decide) (hW.le (by decide)) (by decide) ww_149 dX9_where_12 rfl ?_
    refine SW.goto 19 dX9_where_15 (by decide) ?_
    exact SW.iret dX9_where_19 rfl rfl ⟨_, rfl, vc⟩
theorem ctX9_where {G : GG} {q : Int32 → Nat → SG → TU → TH → Prop} {n : Nat} {σ : SG} {τ : TU} {θ : TH}  (h : SW G 1 mX9_where (aw_qi q) 0 0 0 [some (.ref 1)] [] (n, σ, τ, θ)) : SMi G 1 mX9_where 0 0 [.ref 1] n σ τ θ q := SM.of _ rfl rfl (Nat.le_of_ble_eq_true rfl) h
set_option maxHeartbeats 4000000 in
set_option maxRecDepth 20000 in
theorem sgX9_widthFor_0 {G : GG} {k : Nat} {q : Int32 → Nat → SG → TU → TH → Prop} {n : Nat} {σ : SG} {τ : TU} {θ : TH}  (x1 : Int32) (hk : 6 ≤ k)  (hW : aw_WT n θ) (vc : SMi G 1 mX9_noDuchy 0 0 [.ref 1] n σ τ θ (fun a1 n1 σ1 τ1 θ1 => aw_WT n1 θ1 ∧ (((a1 = 0) → (((x1 < 0) → (SMi G 1 mX9_refuse 0 0 [.ref 1, .int (2 : Int32)] n1 σ1 τ1 θ1 (fun a2 n2 σ2 τ2 θ2 => aw_WT n2 θ2 ∧ (q a2 n2 σ2 τ2 θ2)))) ∧ ((¬ x1 < 0) → (((x1 ≤ (σ1 (θ1 1 7) 13)) → (SMi G 5 mX9_leastWidth 0 0 [.ref 1, .int x1] n1 σ1 τ1 θ1 (fun a4 n4 σ4 τ4 θ4 => aw_WT n4 θ4 ∧ (SMi G 1 mX9_grant 0 0 [.ref 1, .int a4] n4 σ4 τ4 θ4 (fun a5 n5 σ5 τ5 θ5 => aw_WT n5 θ5 ∧ (q a5 n5 σ5 τ5 θ5)))))) ∧ ((¬ x1 ≤ (σ1 (θ1 1 7) 13)) → (SMi G 1 mX9_refuse 0 0 [.ref 1, .int (2 : Int32)] n1 σ1 τ1 θ1 (fun a6 n6 σ6 τ6 θ6 => aw_WT n6 θ6 ∧ (q a6 n6 σ6 τ6 θ6)))))))) ∧ ((¬ a1 = 0) → (SMi G 1 mX9_refuse 0 0 [.ref 1, .int (1 : Int32)] n1 σ1 τ1 θ1 (fun a7 n7 σ7 τ7 θ7 => aw_WT n7 θ7 ∧ (q a7 n7 σ7 τ7 θ7))))))) : SW G k mX9_widthFor (aw_qi q) 0 0 0 [some (.ref 1), some (.int x1)] [] (n, σ, τ, θ) := by
  refine SW.aload_n dX9_widthFor_0 rfl ?_
  refine SW.cvi0 kV_X9_134 (by omega) aw_cl9 kp_1 (by decide) (hW.le (by decide)) rfl (Nat.le_of_ble_eq_true rfl) dX9_widthFor_1 (SMi.mono vc ?_)
  intro a1 n1 σ1 τ1 θ1 vc
  obtain ⟨hW, vc⟩ := vc
  refine SW.if_eq 13 dX9_widthFor_4 (by decide) (fun hbr => ?_) (fun hbr => ?_)
  · replace vc := vc.1 hbr
    refine SW.iload_n dX9_widthFor_13 rfl ?_
    refine SW.if_lt 28 dX9_widthFor_14 (by decide) (fun hbr => ?_) (fun hbr => ?_)
    · replace vc := vc.1 hbr
      refine SW.aload_n dX9_widthFor_28 rfl ?_
      refine SW.iconst (v := (2 : Int32)) dX9_widthFor_29 (by decide) ?_
      refine SW.cvi1 kV_X9_82 (by omega) aw_cl9 kp_1 (by decide) (hW.le (by decide)) rfl (Nat.le_of_ble_eq_true rfl) dX9_widthFor_30 (SMi.mono vc ?_)
      intro a2 n2 σ2 τ2 θ2 vc
      obtain ⟨hW, vc⟩ := vc
      exact SW.iret dX9_widthFor_33 rfl rfl ⟨_, rfl, vc⟩
    · replace vc := vc.2 hbr
      refine SW.iload_n dX9_widthFor_17 rfl ?_
      refine SW.aload_n dX9_widthFor_18 rfl ?_
      have hF3 := hW.f
      refine SW.getS (f := 7) (r := (θ1 1 7)) aw_cl9 kp_1 (by decide) (hW.le (by decide)) (by decide) ww_472 dX9_widthFor_19 rfl rfl ?_
      refine SW.getI (f := 13) aw_cl1 (kpF_0 hF3) (leF_0 hF3).1 (hW.le (leF_0 hF3).2) (by decide) ww_423 dX9_widthFor_22 rfl ?_
      refine SW.icmp_le 34 dX9_widthFor_25 (by decide) (fun hbr => ?_) (fun hbr => ?_)
      · replace vc := vc.1 hbr
        refine SW.aload_n dX9_widthFor_34 rfl ?_
        refine SW.aload_n dX9_widthFor_35 rfl ?_
        refine SW.iload_n dX9_widthFor_36 rfl ?_
        refine SW.cvi1 kV_X9_185 (by omega) aw_cl9 kp_1 (by decide) (hW.le (by decide)) rfl (Nat.le_of_ble_eq_true rfl) dX9_widthFor_37 (SMi.mono vc ?_)
        intro a4 n4 σ4 τ4 θ4 vc
        obtain ⟨hW, vc⟩ := vc
        refine SW.cvi1 kV_X9_100 (by omega) aw_cl9 kp_1 (by decide) (hW.le (by decide)) rfl (Nat.le_of_ble_eq_true rfl) dX9_widthFor_40 (SMi.mono vc ?_)
        intro a5 n5 σ5 τ5 θ5 vc
        obtain ⟨hW, vc⟩ := vc
        exact SW.iret dX9_widthFor_43 rfl rfl ⟨_, rfl, vc⟩
      · replace vc := vc.2 hbr
        refine SW.aload_n dX9_widthFor_28 rfl ?_
        refine SW.iconst (v := (2 : Int32)) dX9_widthFor_29 (by decide) ?_
        refine SW.cvi1 kV_X9_82 (by omega) aw_cl9 kp_1 (by decide) (hW.le (by decide)) rfl (Nat.le_of_ble_eq_true rfl) dX9_widthFor_30 (SMi.mono vc ?_)
        intro a6 n6 σ6 τ6 θ6 vc
        obtain ⟨hW, vc⟩ := vc
        exact SW.iret dX9_widthFor_33 rfl rfl ⟨_, rfl, vc⟩
  · replace vc := vc.2 hbr
    refine SW.aload_n dX9_widthFor_7 rfl ?_
    refine SW.iconst (v := (1 : Int32)) dX9_widthFor_8 (by decide) ?_
    refine SW.cvi1 kV_X9_82 (by omega) aw_cl9 kp_1 (by decide) (hW.le (by decide)) rfl (Nat.le_of_ble_eq_true rfl) dX9_widthFor_9 (SMi.mono vc ?_)
    intro a7 n7 σ7 τ7 θ7 vc
    obtain ⟨hW, vc⟩ := vc
    exact SW.iret dX9_widthFor_12 rfl rfl ⟨_, rfl, vc⟩
theorem ctX9_widthFor {G : GG} {q : Int32 → Nat → SG → TU → TH → Prop} {n : Nat} {σ : SG} {τ : TU} {θ : TH} (x1 : Int32) (h : SW G 6 mX9_widthFor (aw_qi q) 0 0 0 [some (.ref 1), some (.int x1)] [] (n, σ, τ, θ)) : SMi G 6 mX9_widthFor 0 0 [.ref 1, .int x1] n σ τ θ q := SM.of _ rfl rfl (Nat.le_of_ble_eq_true rfl) h
set_option maxHeartbeats 4000000 in
set_option maxRecDepth 20000 in
theorem sgX9_worstSpring_0 {G : GG} {k : Nat} {q : Int32 → Nat → SG → TU → TH → Prop} {n : Nat} {σ : SG} {τ : TU} {θ : TH}   (hk : 5 ≤ k)  (hW : aw_WT n θ) (vc : SMi G 1 mX9_noDuchy 0 0 [.ref 1] n σ τ θ (fun a1 n1 σ1 τ1 θ1 => aw_WT n1 θ1 ∧ (((a1 = 0) → (SMi G 4 mX1_allHeads 0 0 [.ref (θ1 1 7), .ref 6, .int (σ1 6 2)] n1 σ1 τ1 θ1 (fun a3 n3 σ3 τ3 θ3 => aw_WT n3 θ3 ∧ (SW G k mX9_worstSpring (aw_qi q) 0 0 36 [some (.ref 1), some (.int (0 : Int32)), some (.int a3), some (.int (1 : Int32)), none] [] (n3, σ3, τ3, θ3))))) ∧ ((¬ a1 = 0) → (SMi G 1 mX9_refuse 0 0 [.ref 1, .int (1 : Int32)] n1 σ1 τ1 θ1 (fun a4 n4 σ4 τ4 θ4 => aw_WT n4 θ4 ∧ (q a4 n4 σ4 τ4 θ4))))))) : SW G k mX9_worstSpring (aw_qi q) 0 0 0 [some (.ref 1), none, none, none, none] [] (n, σ, τ, θ) := by
  refine SW.aload_n dX9_worstSpring_0 rfl ?_
  refine SW.cvi0 kV_X9_134 (by omega) aw_cl9 kp_1 (by decide) (hW.le (by decide)) rfl (Nat.le_of_ble_eq_true rfl) dX9_worstSpring_1 (SMi.mono vc ?_)
  intro a1 n1 σ1 τ1 θ1 vc
  obtain ⟨hW, vc⟩ := vc
  refine SW.if_eq 13 dX9_worstSpring_4 (by decide) (fun hbr => ?_) (fun hbr => ?_)
  · replace vc := vc.1 hbr
    refine SW.iconst (v := (0 : Int32)) dX9_worstSpring_13 (by decide) ?_
    refine SW.istore_n dX9_worstSpring_14 (by decide) rfl rfl ?_
    refine SW.aload_n dX9_worstSpring_15 rfl ?_
    have hF2 := hW.f
    refine SW.getS (f := 7) (r := (θ1 1 7)) aw_cl9 kp_1 (by decide) (hW.le (by decide)) (by decide) ww_472 dX9_worstSpring_16 rfl rfl ?_
    refine SW.aload_n dX9_worstSpring_19 rfl ?_
    refine SW.getS (f := 1) (r := 6) aw_cl9 kp_1 (by decide) (hW.le (by decide)) (by decide) ww_466 dX9_worstSpring_20 rfl hW.t1_1 ?_
    refine SW.aload_n dX9_worstSpring_23 rfl ?_
    refine SW.getS (f := 1) (r := 6) aw_cl9 kp_1 (by decide) (hW.le (by decide)) (by decide) ww_466 dX9_worstSpring_24 rfl hW.t1_1 ?_
    refine SW.getI (f := 2) aw_cl2 kp_6 (by decide) (hW.le (by decide)) (by decide) ww_204 dX9_worstSpring_27 rfl ?_
    refine SW.cvi2 kV_X9_141 (by omega) aw_cl1 (kpF_0 hF2) (leF_0 hF2).1 (hW.le (leF_0 hF2).2) rfl (Nat.le_of_ble_eq_true rfl) dX9_worstSpring_30 (SMi.mono vc ?_)
    intro a3 n3 σ3 τ3 θ3 vc
    obtain ⟨hW, vc⟩ := vc
    refine SW.istore_n dX9_worstSpring_33 (by decide) rfl rfl ?_
    refine SW.iconst (v := (1 : Int32)) dX9_worstSpring_34 (by decide) ?_
    refine SW.istore_n dX9_worstSpring_35 (by decide) rfl rfl ?_
    exact vc
  · replace vc := vc.2 hbr
    refine SW.aload_n dX9_worstSpring_7 rfl ?_
    refine SW.iconst (v := (1 : Int32)) dX9_worstSpring_8 (by decide) ?_
    refine SW.cvi1 kV_X9_82 (by omega) aw_cl9 kp_1 (by decide) (hW.le (by decide)) rfl (Nat.le_of_ble_eq_true rfl) dX9_worstSpring_9 (SMi.mono vc ?_)
    intro a4 n4 σ4 τ4 θ4 vc
    obtain ⟨hW, vc⟩ := vc
    exact SW.iret dX9_worstSpring_12 rfl rfl ⟨_, rfl, vc⟩
set_option maxHeartbeats 4000000 in
set_option maxRecDepth 20000 in
theorem sgX9_worstSpring_36 {G : GG} {k : Nat} {q : Int32 → Nat → SG → TU → TH → Prop} {n : Nat} {σ : SG} {τ : TU} {θ : TH}  (x1 : Int32) (x2 : Int32) (x3 : Int32) (hk : 5 ≤ k)  (hW : aw_WT n θ) (vc : (((20 : Int32) < x3) → (SMi G 1 mX9_grant 0 0 [.ref 1, .int x1] n σ τ θ (fun a1 n1 σ1 τ1 θ1 => aw_WT n1 θ1 ∧ (q a1 n1 σ1 τ1 θ1)))) ∧ ((¬ (20 : Int32) < x3) → (SMi G 4 mX1_allHeads 0 0 [.ref (θ 1 7), .ref 6, .int ((σ 6 2) + x3)] n σ τ θ (fun a3 n3 σ3 τ3 θ3 => aw_WT n3 θ3 ∧ (((a3 ≤ x2) → (SW G k mX9_worstSpring (aw_qi q) 0 0 36 [some (.ref 1), some (.int x1), some (.int x2), some (.int (x3 + (1 : Int32))), none] [] (n3, σ3, τ3, θ3))) ∧ ((¬ a3 ≤ x2) → (SW G k mX9_worstSpring (aw_qi q) 0 0 36 [some (.ref 1), some (.int x3), some (.int a3), some (.int (x3 + (1 : Int32))), none] [] (n3, σ3, τ3, θ3)))))))) : SW G k mX9_worstSpring (aw_qi q) 0 0 36 [some (.ref 1), some (.int x1), some (.int x2), some (.int x3), none] [] (n, σ, τ, θ) := by
  refine SW.iload_n dX9_worstSpring_36 rfl ?_
  refine SW.bipush (v := (20 : Int32)) dX9_worstSpring_37 (by decide) ?_
  refine SW.icmp_gt 81 dX9_worstSpring_39 (by decide) (fun hbr => ?_) (fun hbr => ?_)
  · replace vc := vc.1 hbr
    refine SW.aload_n dX9_worstSpring_81 rfl ?_
    refine SW.iload_n dX9_worstSpring_82 rfl ?_
    refine SW.cvi1 kV_X9_100 (by omega) aw_cl9 kp_1 (by decide) (hW.le (by decide)) rfl (Nat.le_of_ble_eq_true rfl) dX9_worstSpring_83 (SMi.mono vc ?_)
    intro a1 n1 σ1 τ1 θ1 vc
    obtain ⟨hW, vc⟩ := vc
    exact SW.iret dX9_worstSpring_86 rfl rfl ⟨_, rfl, vc⟩
  · replace vc := vc.2 hbr
    refine SW.aload_n dX9_worstSpring_42 rfl ?_
    have hF2 := hW.f
    refine SW.getS (f := 7) (r := (θ 1 7)) aw_cl9 kp_1 (by decide) (hW.le (by decide)) (by decide) ww_472 dX9_worstSpring_43 rfl rfl ?_
    refine SW.aload_n dX9_worstSpring_46 rfl ?_
    refine SW.getS (f := 1) (r := 6) aw_cl9 kp_1 (by decide) (hW.le (by decide)) (by decide) ww_466 dX9_worstSpring_47 rfl hW.t1_1 ?_
    refine SW.aload_n dX9_worstSpring_50 rfl ?_
    refine SW.getS (f := 1) (r := 6) aw_cl9 kp_1 (by decide) (hW.le (by decide)) (by decide) ww_466 dX9_worstSpring_51 rfl hW.t1_1 ?_
    refine SW.getI (f := 2) aw_cl2 kp_6 (by decide) (hW.le (by decide)) (by decide) ww_204 dX9_worstSpring_54 rfl ?_
    refine SW.iload_n dX9_worstSpring_57 rfl ?_
    refine SW.iadd dX9_worstSpring_58 ?_
    refine SW.cvi2 kV_X9_141 (by omega) aw_cl1 (kpF_0 hF2) (leF_0 hF2).1 (hW.le (leF_0 hF2).2) rfl (Nat.le_of_ble_eq_true rfl) dX9_worstSpring_59 (SMi.mono vc ?_)
    intro a3 n3 σ3 τ3 θ3 vc
    obtain ⟨hW, vc⟩ := vc
    refine SW.istore dX9_worstSpring_62 (by decide) rfl rfl ?_
    refine SW.iload dX9_worstSpring_64 rfl ?_
    refine SW.iload_n dX9_worstSpring_66 rfl ?_
    refine SW.icmp_le 75 dX9_worstSpring_67 (by decide) (fun hbr => ?_) (fun hbr => ?_)
    · replace vc := vc.1 hbr
      refine SW.iinc (v := (x3 + (1 : Int32))) dX9_worstSpring_75 rfl rfl (by decide) rfl rfl ?_
      refine SW.goto 36 dX9_worstSpring_78 (by decide) ?_
      refine SW.msk [true, true, true, true, false] rfl ?_
      exact vc
    · replace vc := vc.2 hbr
      refine SW.iload dX9_worstSpring_70 rfl ?_
      refine SW.istore_n dX9_worstSpring_72 (by decide) rfl rfl ?_
      refine SW.iload_n dX9_worstSpring_73 rfl ?_
      refine SW.istore_n dX9_worstSpring_74 (by decide) rfl rfl ?_
      refine SW.iinc (v := (x3 + (1 : Int32))) dX9_worstSpring_75 rfl rfl (by decide) rfl rfl ?_
      refine SW.goto 36 dX9_worstSpring_78 (by decide) ?_
      refine SW.msk [true, true, true, true, false] rfl ?_
      exact vc
theorem ctX9_worstSpring {G : GG} {q : Int32 → Nat → SG → TU → TH → Prop} {n : Nat} {σ : SG} {τ : TU} {θ : TH}  (h : SW G 5 mX9_worstSpring (aw_qi q) 0 0 0 [some (.ref 1), none, none, none, none] [] (n, σ, τ, θ)) : SMi G 5 mX9_worstSpring 0 0 [.ref 1] n σ τ θ q := SM.of _ rfl rfl (Nat.le_of_ble_eq_true rfl) h
