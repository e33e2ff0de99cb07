set_option maxHeartbeats 4000000 in
set_option maxRecDepth 20000 in
theorem sgX9_affordableToll_0 {G : GG} {k : Nat} {q : Int32 → Nat → SG → TU → TH → Prop} {n : Nat} {σ : SG} {τ : TU} {θ : TH}  (x1 : Int32) (x2 : Int32) (hk : 4 ≤ k)  (hW : aw_WT n θ) (vc : vp_in x2 4 ∧ (SMi G 3 mX1_tollFor 0 0 [.ref (θ 1 7), .ref 6, .int x1, .int (σ ((θ 1 7) + 5) x2.toNatClampNeg)] n σ τ θ (fun a3 n3 σ3 τ3 θ3 => aw_WT n3 θ3 ∧ (vp_in x1 5 ∧ (((a3 ≤ (σ3 7 x1.toNatClampNeg)) → (q a3 n3 σ3 τ3 θ3)) ∧ ((¬ a3 ≤ (σ3 7 x1.toNatClampNeg)) → (q (-2 : Int32) n3 σ3 τ3 θ3))))))) : SW G k mX9_affordableToll (aw_qi q) 0 0 0 [some (.ref 1), some (.int x1), some (.int x2), none] [] (n, σ, τ, θ) := by
  refine SW.aload_n dX9_affordableToll_0 rfl ?_
  have hF1 := hW.f
  refine SW.getS (f := 7) (r := (θ 1 7)) aw_cl9 kp_1 (by decide) (hW.le (by decide)) (by decide) ww_472 dX9_affordableToll_1 rfl rfl ?_
  refine SW.aload_n dX9_affordableToll_4 rfl ?_
  refine SW.getS (f := 1) (r := 6) aw_cl9 kp_1 (by decide) (hW.le (by decide)) (by decide) ww_466 dX9_affordableToll_5 rfl hW.t1_1 ?_
  refine SW.iload_n dX9_affordableToll_8 rfl ?_
  refine SW.aload_n dX9_affordableToll_9 rfl ?_
  have hF2 := hW.f
  refine SW.getS (f := 7) (r := (θ 1 7)) aw_cl9 kp_1 (by decide) (hW.le (by decide)) (by decide) ww_472 dX9_affordableToll_10 rfl rfl ?_
  refine SW.getS (f := 4) (r := (θ 1 7) + 5) aw_cl1 (kpF_0 hF2) (leF_0 hF2).1 (hW.le (leF_0 hF2).2) (by decide) ww_385 dX9_affordableToll_13 rfl (hW.f4 hF2) ?_
  refine SW.iload_n dX9_affordableToll_16 rfl ?_
  refine SW.iald (kpF_5 hF2) (leF_5 hF2).1 (hW.le (leF_5 hF2).2) vc.1 dX9_affordableToll_17 ?_
  replace vc := vc.2
  refine SW.cvi3 kV_X9_369 (by omega) aw_cl1 (kpF_0 hF1) (leF_0 hF1).1 (hW.le (leF_0 hF1).2) rfl (Nat.le_of_ble_eq_true rfl) dX9_affordableToll_18 (SMi.mono vc ?_)
  intro a3 n3 σ3 τ3 θ3 vc
  obtain ⟨hW, vc⟩ := vc
  refine SW.istore_n dX9_affordableToll_21 (by decide) rfl rfl ?_
  refine SW.iload_n dX9_affordableToll_22 rfl ?_
  refine SW.aload_n dX9_affordableToll_23 rfl ?_
  refine SW.getS (f := 1) (r := 6) aw_cl9 kp_1 (by decide) (hW.le (by decide)) (by decide) ww_466 dX9_affordableToll_24 rfl hW.t1_1 ?_
  refine SW.getS (f := 0) (r := 7) aw_cl2 kp_6 (by decide) (hW.le (by decide)) (by decide) ww_194 dX9_affordableToll_27 rfl hW.t6_0 ?_
  refine SW.iload_n dX9_affordableToll_30 rfl ?_
  refine SW.iald kp_7 (by decide) (hW.le (by decide)) vc.1 dX9_affordableToll_31 ?_
  replace vc := vc.2
  refine SW.icmp_le 40 dX9_affordableToll_32 (by decide) (fun hbr => ?_) (fun hbr => ?_)
  · replace vc := vc.1 hbr
    refine SW.iload_n dX9_affordableToll_40 rfl ?_
    exact SW.iret dX9_affordableToll_41 rfl rfl ⟨_, rfl, vc⟩
  · replace vc := vc.2 hbr
    refine SW.bipush (v := (-2 : Int32)) dX9_affordableToll_35 (by decide) ?_
    refine SW.goto 41 dX9_affordableToll_37 (by decide) ?_
    exact SW.iret dX9_affordableToll_41 rfl rfl ⟨_, rfl, vc⟩
theorem ctX9_affordableToll {G : GG} {q : Int32 → Nat → SG → TU → TH → Prop} {n : Nat} {σ : SG} {τ : TU} {θ : TH} (x1 : Int32) (x2 : Int32) (h : SW G 4 mX9_affordableToll (aw_qi q) 0 0 0 [some (.ref 1), some (.int x1), some (.int x2), none] [] (n, σ, τ, θ)) : SMi G 4 mX9_affordableToll 0 0 [.ref 1, .int x1, .int x2] n σ τ θ q := SM.of _ rfl rfl (Nat.le_of_ble_eq_true rfl) h
set_option maxHeartbeats 4000000 in
set_option maxRecDepth 20000 in
theorem sgX9_back_0 {G : GG} {k : Nat} {q : Int32 → Nat → SG → TU → TH → Prop} {n : Nat} {σ : SG} {τ : TU} {θ : TH}  (x1 : Int32) (hk : 3 ≤ k)  (hW : aw_WT n θ) (vc : SMi G 2 mX5_goBack 0 0 [.ref 9, .int x1, .ref 6] n σ τ θ (fun a1 n1 σ1 τ1 θ1 => aw_WT n1 θ1 ∧ (((a1 = 0) → ((a1 = 0 ∨ a1 = 1) ∧ q a1 n1 (aw_u σ1 1 10 (1 : Int32)) τ1 θ1)) ∧ ((¬ a1 = 0) → ((a1 = 0 ∨ a1 = 1) ∧ q a1 n1 (aw_u σ1 1 10 (0 : Int32)) τ1 θ1))))) : SW G k mX9_back (aw_qi q) 0 0 0 [some (.ref 1), some (.int x1), none] [] (n, σ, τ, θ) := by
  refine SW.aload_n dX9_back_0 rfl ?_
  refine SW.getS (f := 2) (r := 9) aw_cl9 kp_1 (by decide) (hW.le (by decide)) (by decide) ww_467 dX9_back_1 rfl hW.t1_2 ?_
  refine SW.iload_n dX9_back_4 rfl ?_
  refine SW.aload_n dX9_back_5 rfl ?_
  refine SW.getS (f := 1) (r := 6) aw_cl9 kp_1 (by decide) (hW.le (by decide)) (by decide) ww_466 dX9_back_6 rfl hW.t1_1 ?_
  refine SW.cvi2 kV_X9_319 (by omega) aw_cl5 kp_9 (by decide) (hW.le (by decide)) rfl (Nat.le_of_ble_eq_true rfl) dX9_back_9 (SMi.mono vc ?_)
  intro a1 n1 σ1 τ1 θ1 vc
  obtain ⟨hW, vc⟩ := vc
  refine SW.istore_n dX9_back_12 (by decide) rfl rfl ?_
  refine SW.aload_n dX9_back_13 rfl ?_
  refine SW.iload_n dX9_back_14 rfl ?_
  refine SW.if_eq 22 dX9_back_15 (by decide) (fun hbr => ?_) (fun hbr => ?_)
  · replace vc := vc.1 hbr
    refine SW.iconst (v := (1 : Int32)) dX9_back_22 (by decide) ?_
    refine SW.putI (f := 10) aw_cl9 kp_1 (by decide) (hW.le (by decide)) (by decide) ww_475 (Or.inl rfl) dX9_back_23 rfl rfl rfl ?_
    refine SW.iload_n dX9_back_26 rfl ?_
    exact SW.iret dX9_back_27 rfl (aw_nb vc.1) ⟨_, rfl, vc.2⟩
  · replace vc := vc.2 hbr
    refine SW.iconst (v := (0 : Int32)) dX9_back_18 (by decide) ?_
    refine SW.goto 23 dX9_back_19 (by decide) ?_
    refine SW.putI (f := 10) aw_cl9 kp_1 (by decide) (hW.le (by decide)) (by decide) ww_475 (Or.inl rfl) dX9_back_23 rfl rfl rfl ?_
    refine SW.iload_n dX9_back_26 rfl ?_
    exact SW.iret dX9_back_27 rfl (aw_nb vc.1) ⟨_, rfl, vc.2⟩
theorem ctX9_back {G : GG} {q : Int32 → Nat → SG → TU → TH → Prop} {n : Nat} {σ : SG} {τ : TU} {θ : TH} (x1 : Int32) (h : SW G 3 mX9_back (aw_qi q) 0 0 0 [some (.ref 1), some (.int x1), none] [] (n, σ, τ, θ)) : SMi G 3 mX9_back 0 0 [.ref 1, .int x1] n σ τ θ q := SM.of _ rfl rfl (Nat.le_of_ble_eq_true rfl) h
set_option maxHeartbeats 4000000 in
set_option maxRecDepth 20000 in
theorem sgX9_bald_0 {G : GG} {k : Nat} {q : Int32 → Nat → SG → TU → TH → Prop} {n : Nat} {σ : SG} {τ : TU} {θ : TH}   (hk : 5 ≤ k)  (hW : aw_WT n θ) (vc : SMi G 1 mX9_noDuchy 0 0 [.ref 1] n σ τ θ (fun a1 n1 σ1 τ1 θ1 => aw_WT n1 θ1 ∧ (((a1 = 0) → (SW G k mX9_bald (aw_qi q) 0 0 17 [some (.ref 1), some (.int (0 : Int32)), some (.int (0 : Int32))] [] (n1, σ1, τ1, θ1))) ∧ ((¬ a1 = 0) → (SMi G 1 mX9_refuse 0 0 [.ref 1, .int (1 : Int32)] n1 σ1 τ1 θ1 (fun a2 n2 σ2 τ2 θ2 => aw_WT n2 θ2 ∧ (q a2 n2 σ2 τ2 θ2))))))) : SW G k mX9_bald (aw_qi q) 0 0 0 [some (.ref 1), none, none] [] (n, σ, τ, θ) := by
  refine SW.aload_n dX9_bald_0 rfl ?_
  refine SW.cvi0 kV_X9_134 (by omega) aw_cl9 kp_1 (by decide) (hW.le (by decide)) rfl (Nat.le_of_ble_eq_true rfl) dX9_bald_1 (SMi.mono vc ?_)
  intro a1 n1 σ1 τ1 θ1 vc
  obtain ⟨hW, vc⟩ := vc
  refine SW.if_eq 13 dX9_bald_4 (by decide) (fun hbr => ?_) (fun hbr => ?_)
  · replace vc := vc.1 hbr
    refine SW.iconst (v := (0 : Int32)) dX9_bald_13 (by decide) ?_
    refine SW.istore_n dX9_bald_14 (by decide) rfl rfl ?_
    refine SW.iconst (v := (0 : Int32)) dX9_bald_15 (by decide) ?_
    refine SW.istore_n dX9_bald_16 (by decide) rfl rfl ?_
    exact vc
  · replace vc := vc.2 hbr
    refine SW.aload_n dX9_bald_7 rfl ?_
    refine SW.iconst (v := (1 : Int32)) dX9_bald_8 (by decide) ?_
    refine SW.cvi1 kV_X9_82 (by omega) aw_cl9 kp_1 (by decide) (hW.le (by decide)) rfl (Nat.le_of_ble_eq_true rfl) dX9_bald_9 (SMi.mono vc ?_)
    intro a2 n2 σ2 τ2 θ2 vc
    obtain ⟨hW, vc⟩ := vc
    exact SW.iret dX9_bald_12 rfl rfl ⟨_, rfl, vc⟩
set_option maxHeartbeats 4000000 in
set_option maxRecDepth 20000 in
theorem sgX9_bald_17 {G : GG} {k : Nat} {q : Int32 → Nat → SG → TU → TH → Prop} {n : Nat} {σ : SG} {τ : TU} {θ : TH}  (x1 : Int32) (x2 : Int32) (hk : 5 ≤ k)  (hW : aw_WT n θ) (vc : (((σ (θ 1 7) 13) ≤ x2) → (SMi G 1 mX9_grant 0 0 [.ref 1, .int x1] n σ τ θ (fun a2 n2 σ2 τ2 θ2 => aw_WT n2 θ2 ∧ (q a2 n2 σ2 τ2 θ2)))) ∧ ((¬ (σ (θ 1 7) 13) ≤ x2) → (SMi G 4 mX9_headNow 0 0 [.ref 1, .int x2] n σ τ θ (fun a3 n3 σ3 τ3 θ3 => aw_WT n3 θ3 ∧ (((¬ a3 = 0) → (SW G k mX9_bald (aw_qi q) 0 0 17 [some (.ref 1), some (.int x1), some (.int (x2 + (1 : Int32)))] [] (n3, σ3, τ3, θ3))) ∧ ((a3 = 0) → (SW G k mX9_bald (aw_qi q) 0 0 17 [some (.ref 1), some (.int (x1 ||| ((1 : Int32) <<< (x2 &&& 31)))), some (.int (x2 + (1 : Int32)))] [] (n3, σ3, τ3, θ3)))))))) : SW G k mX9_bald (aw_qi q) 0 0 17 [some (.ref 1), some (.int x1), some (.int x2)] [] (n, σ, τ, θ) := by
  refine SW.iload_n dX9_bald_17 rfl ?_
  refine SW.aload_n dX9_bald_18 rfl ?_
  have hF1 := hW.f
  refine SW.getS (f := 7) (r := (θ 1 7)) aw_cl9 kp_1 (by decide) (hW.le (by decide)) (by decide) ww_472 dX9_bald_19 rfl rfl ?_
  refine SW.getI (f := 13) aw_cl1 (kpF_0 hF1) (leF_0 hF1).1 (hW.le (leF_0 hF1).2) (by decide) ww_423 dX9_bald_22 rfl ?_
  refine SW.icmp_ge 48 dX9_bald_25 (by decide) (fun hbr => ?_) (fun hbr => ?_)
  · replace vc := vc.1 hbr
    refine SW.aload_n dX9_bald_48 rfl ?_
    refine SW.iload_n dX9_bald_49 rfl ?_
    refine SW.cvi1 kV_X9_100 (by omega) aw_cl9 kp_1 (by decide) (hW.le (by decide)) rfl (Nat.le_of_ble_eq_true rfl) dX9_bald_50 (SMi.mono vc ?_)
    intro a2 n2 σ2 τ2 θ2 vc
    obtain ⟨hW, vc⟩ := vc
    exact SW.iret dX9_bald_53 rfl rfl ⟨_, rfl, vc⟩
  · replace vc := vc.2 hbr
    refine SW.aload_n dX9_bald_28 rfl ?_
    refine SW.iload_n dX9_bald_29 rfl ?_
    refine SW.cvi1 kV_X9_144 (by omega) aw_cl9 kp_1 (by decide) (hW.le (by decide)) rfl (Nat.le_of_ble_eq_true rfl) dX9_bald_30 (SMi.mono vc ?_)
    intro a3 n3 σ3 τ3 θ3 vc
    obtain ⟨hW, vc⟩ := vc
    refine SW.if_ne 42 dX9_bald_33 (by decide) (fun hbr => ?_) (fun hbr => ?_)
    · replace vc := vc.1 hbr
      refine SW.iinc (v := (x2 + (1 : Int32))) dX9_bald_42 rfl rfl (by decide) rfl rfl ?_
      refine SW.goto 17 dX9_bald_45 (by decide) ?_
      exact vc
    · replace vc := vc.2 hbr
      refine SW.iload_n dX9_bald_36 rfl ?_
      refine SW.iconst (v := (1 : Int32)) dX9_bald_37 (by decide) ?_
      refine SW.iload_n dX9_bald_38 rfl ?_
      refine SW.ishl dX9_bald_39 ?_
      refine SW.ior dX9_bald_40 ?_
      refine SW.istore_n dX9_bald_41 (by decide) rfl rfl ?_
      refine SW.iinc (v := (x2 + (1 : Int32))) dX9_bald_42 rfl rfl (by decide) rfl rfl ?_
      refine SW.goto 17 dX9_bald_45 (by decide) ?_
      exact vc
theorem ctX9_bald {G : GG} {q : Int32 → Nat → SG → TU → TH → Prop} {n : Nat} {σ : SG} {τ : TU} {θ : TH}  (h : SW G 5 mX9_bald (aw_qi q) 0 0 0 [some (.ref 1), none, none] [] (n, σ, τ, θ)) : SMi G 5 mX9_bald 0 0 [.ref 1] n σ τ θ q := SM.of _ rfl rfl (Nat.le_of_ble_eq_true rfl) h
set_option maxHeartbeats 4000000 in
set_option maxRecDepth 20000 in
theorem sgX9_bestRing_0 {G : GG} {k : Nat} {q : Int32 → Nat → SG → TU → TH → Prop} {n : Nat} {σ : SG} {τ : TU} {θ : TH}   (hk : 5 ≤ k)  (hW : aw_WT n θ) (vc : SMi G 1 mX9_noDuchy 0 0 [.ref 1] n σ τ θ (fun a1 n1 σ1 τ1 θ1 => aw_WT n1 θ1 ∧ (((a1 = 0) → (SW G k mX9_bestRing (aw_qi q) 0 0 20 [some (.ref 1), some (.int (-2 : Int32)), some (.int (0 : Int32)), some (.int (0 : Int32)), none] [] (n1, σ1, τ1, θ1))) ∧ ((¬ a1 = 0) → (SMi G 1 mX9_refuse 0 0 [.ref 1, .int (1 : Int32)] n1 σ1 τ1 θ1 (fun a2 n2 σ2 τ2 θ2 => aw_WT n2 θ2 ∧ (q a2 n2 σ2 τ2 θ2))))))) : SW G k mX9_bestRing (aw_qi q) 0 0 0 [some (.ref 1), none, none, none, none] [] (n, σ, τ, θ) := by
  refine SW.aload_n dX9_bestRing_0 rfl ?_
  refine SW.cvi0 kV_X9_134 (by omega) aw_cl9 kp_1 (by decide) (hW.le (by decide)) rfl (Nat.le_of_ble_eq_true rfl) dX9_bestRing_1 (SMi.mono vc ?_)
  intro a1 n1 σ1 τ1 θ1 vc
  obtain ⟨hW, vc⟩ := vc
  refine SW.if_eq 13 dX9_bestRing_4 (by decide) (fun hbr => ?_) (fun hbr => ?_)
  · replace vc := vc.1 hbr
    refine SW.bipush (v := (-2 : Int32)) dX9_bestRing_13 (by decide) ?_
    refine SW.istore_n dX9_bestRing_15 (by decide) rfl rfl ?_
    refine SW.iconst (v := (0 : Int32)) dX9_bestRing_16 (by decide) ?_
    refine SW.istore_n dX9_bestRing_17 (by decide) rfl rfl ?_
    refine SW.iconst (v := (0 : Int32)) dX9_bestRing_18 (by decide) ?_
    refine SW.istore_n dX9_bestRing_19 (by decide) rfl rfl ?_
    exact vc
  · replace vc := vc.2 hbr
    refine SW.aload_n dX9_bestRing_7 rfl ?_
    refine SW.iconst (v := (1 : Int32)) dX9_bestRing_8 (by decide) ?_
    refine SW.cvi1 kV_X9_82 (by omega) aw_cl9 kp_1 (by decide) (hW.le (by decide)) rfl (Nat.le_of_ble_eq_true rfl) dX9_bestRing_9 (SMi.mono vc ?_)
    intro a2 n2 σ2 τ2 θ2 vc
    obtain ⟨hW, vc⟩ := vc
    exact SW.iret dX9_bestRing_12 rfl rfl ⟨_, rfl, vc⟩
set_option maxHeartbeats 4000000 in
set_option maxRecDepth 20000 in
theorem sgX9_bestRing_20 {G : GG} {k : Nat} {q : Int32 → Nat → SG → TU → TH → Prop} {n : Nat} {σ : SG} {τ : TU} {θ : TH}  (x1 : Int32) (x2 : Int32) (x3 : Int32) (hk : 5 ≤ k)  (hW : aw_WT n θ) (vc : (((σ (θ 1 7) 13) ≤ x3) → (SMi G 1 mX9_grant 0 0 [.ref 1, .int x1] n σ τ θ (fun a2 n2 σ2 τ2 θ2 => aw_WT n2 θ2 ∧ (q a2 n2 σ2 τ2 θ2)))) ∧ ((¬ (σ (θ 1 7) 13) ≤ x3) → (SMi G 4 mX6_find 0 0 [.ref 73, .ref (θ 1 7), .ref 6, .int x3] n σ τ θ (fun a4 n4 σ4 τ4 θ4 => aw_WT n4 θ4 ∧ (((a4 = 0) → (SW G k mX9_bestRing (aw_qi q) 0 0 20 [some (.ref 1), some (.int x1), some (.int x2), some (.int (x3 + (1 : Int32))), none] [] (n4, σ4, τ4, θ4))) ∧ ((¬ a4 = 0) → (SMi G 3 mX6_sum 0 0 [.ref 73, .ref (θ4 1 7), .ref 6] n4 σ4 τ4 θ4 (fun a6 n6 σ6 τ6 θ6 => aw_WT n6 θ6 ∧ (((x1 = (-2 : Int32)) → (SW G k mX9_bestRing (aw_qi q) 0 0 20 [some (.ref 1), some (.int x3), some (.int (a6 * (σ6 73 1))), some (.int (x3 + (1 : Int32))), none] [] (n6, σ6, τ6, θ6))) ∧ ((¬ x1 = (-2 : Int32)) → ((((a6 * (σ6 73 1)) ≤ x2) → (SW G k mX9_bestRing (aw_qi q) 0 0 20 [some (.ref 1), some (.int x1), some (.int x2), some (.int (x3 + (1 : Int32))), none] [] (n6, σ6, τ6, θ6))) ∧ ((¬ (a6 * (σ6 73 1)) ≤ x2) → (SW G k mX9_bestRing (aw_qi q) 0 0 20 [some (.ref 1), some (.int x3), some (.int (a6 * (σ6 73 1))), some (.int (x3 + (1 : Int32))), none] [] (n6, σ6, τ6, θ6)))))))))))))) : SW G k mX9_bestRing (aw_qi q) 0 0 20 [some (.ref 1), some (.int x1), some (.int x2), some (.int x3), none] [] (n, σ, τ, θ) := by
  refine SW.iload_n dX9_bestRing_20 rfl ?_
  refine SW.aload_n dX9_bestRing_21 rfl ?_
  have hF1 := hW.f
  refine SW.getS (f := 7) (r := (θ 1 7)) aw_cl9 kp_1 (by decide) (hW.le (by decide)) (by decide) ww_472 dX9_bestRing_22 rfl rfl ?_
  refine SW.getI (f := 13) aw_cl1 (kpF_0 hF1) (leF_0 hF1).1 (hW.le (leF_0 hF1).2) (by decide) ww_423 dX9_bestRing_25 rfl ?_
  refine SW.icmp_ge 98 dX9_bestRing_28 (by decide) (fun hbr => ?_) (fun hbr => ?_)
  · replace vc := vc.1 hbr
    refine SW.aload_n dX9_bestRing_98 rfl ?_
    refine SW.iload_n dX9_bestRing_99 rfl ?_
    refine SW.cvi1 kV_X9_100 (by omega) aw_cl9 kp_1 (by decide) (hW.le (by decide)) rfl (Nat.le_of_ble_eq_true rfl) dX9_bestRing_100 (SMi.mono vc ?_)
    intro a2 n2 σ2 τ2 θ2 vc
    obtain ⟨hW, vc⟩ := vc
    exact SW.iret dX9_bestRing_103 rfl rfl ⟨_, rfl, vc⟩
  · replace vc := vc.2 hbr
    refine SW.aload_n dX9_bestRing_31 rfl ?_
    refine SW.getS (f := 4) (r := 73) aw_cl9 kp_1 (by decide) (hW.le (by decide)) (by decide) ww_469 dX9_bestRing_32 rfl hW.t1_4 ?_
    refine SW.aload_n dX9_bestRing_35 rfl ?_
    have hF3 := hW.f
    refine SW.getS (f := 7) (r := (θ 1 7)) aw_cl9 kp_1 (by decide) (hW.le (by decide)) (by decide) ww_472 dX9_bestRing_36 rfl rfl ?_
    refine SW.aload_n dX9_bestRing_39 rfl ?_
    refine SW.getS (f := 1) (r := 6) aw_cl9 kp_1 (by decide) (hW.le (by decide)) (by decide) ww_466 dX9_bestRing_40 rfl hW.t1_1 ?_
    refine SW.iload_n dX9_bestRing_43 rfl ?_
    refine SW.cvi3 kV_X9_195 (by omega) aw_cl6 kp_73 (by decide) (hW.le (by decide)) rfl (Nat.le_of_ble_eq_true rfl) dX9_bestRing_44 (SMi.mono vc ?_)
    intro a4 n4 σ4 τ4 θ4 vc
    obtain ⟨hW, vc⟩ := vc
    refine SW.if_eq 92 dX9_bestRing_47 (by decide) (fun hbr => ?_) (fun hbr => ?_)
    · replace vc := vc.1 hbr
      refine SW.iinc (v := (x3 + (1 : Int32))) dX9_bestRing_92 rfl rfl (by decide) rfl rfl ?_
      refine SW.goto 20 dX9_bestRing_95 (by decide) ?_
      exact vc
    · replace vc := vc.2 hbr
      refine SW.aload_n dX9_bestRing_50 rfl ?_
      refine SW.getS (f := 4) (r := 73) aw_cl9 kp_1 (by decide) (hW.le (by decide)) (by decide) ww_469 dX9_bestRing_51 rfl hW.t1_4 ?_
      refine SW.aload_n dX9_bestRing_54 rfl ?_
      have hF5 := hW.f
      refine SW.getS (f := 7) (r := (θ4 1 7)) aw_cl9 kp_1 (by decide) (hW.le (by decide)) (by decide) ww_472 dX9_bestRing_55 rfl rfl ?_
      refine SW.aload_n dX9_bestRing_58 rfl ?_
      refine SW.getS (f := 1) (r := 6) aw_cl9 kp_1 (by decide) (hW.le (by decide)) (by decide) ww_466 dX9_bestRing_59 rfl hW.t1_1 ?_
      refine SW.cvi2 kV_X9_205 (by omega) aw_cl6 kp_73 (by decide) (hW.le (by decide)) rfl (Nat.le_of_ble_eq_true rfl) dX9_bestRing_62 (SMi.mono vc ?_)
      intro a6 n6 σ6 τ6 θ6 vc
      obtain ⟨hW, vc⟩ := vc
      refine SW.aload_n dX9_bestRing_65 rfl ?_
      refine SW.getS (f := 4) (r := 73) aw_cl9 kp_1 (by decide) (hW.le (by decide)) (by decide) ww_469 dX9_bestRing_66 rfl hW.t1_4 ?_
      refine SW.getI (f := 1) aw_cl6 kp_73 (by decide) (hW.le (by decide)) (by decide) ww_267 dX9_bestRing_69 rfl ?_
      refine SW.imul dX9_bestRing_72 ?_
      refine SW.istore dX9_bestRing_73 (by decide) rfl rfl ?_
      refine SW.iload_n dX9_bestRing_75 rfl ?_
      refine SW.bipush (v := (-2 : Int32)) dX9_bestRing_76 (by decide) ?_
      refine SW.icmp_eq 87 dX9_bestRing_78 (by decide) (fun hbr => ?_) (fun hbr => ?_)
      · replace vc := vc.1 hbr
        refine SW.iload_n dX9_bestRing_87 rfl ?_
        refine SW.istore_n dX9_bestRing_88 (by decide) rfl rfl ?_
        refine SW.iload dX9_bestRing_89 rfl ?_
        refine SW.istore_n dX9_bestRing_91 (by decide) rfl rfl ?_
        refine SW.iinc (v := (x3 + (1 : Int32))) dX9_bestRing_92 rfl rfl (by decide) rfl rfl ?_
        refine SW.goto 20 dX9_bestRing_95 (by decide) ?_
        refine SW.msk [true, true, true, true, false] rfl ?_
        exact vc
      · replace vc := vc.2 hbr
        refine SW.iload dX9_bestRing_81 rfl ?_
        refine SW.iload_n dX9_bestRing_83 rfl ?_
        refine SW.icmp_le 92 dX9_bestRing_84 (by decide) (fun hbr => ?_) (fun hbr => ?_)
        · replace vc := vc.1 hbr
          refine SW.iinc (v := (x3 + (1 : Int32))) dX9_bestRing_92 rfl rfl (by decide) rfl rfl ?_
          refine SW.goto 20 dX9_bestRing_95 (by decide) ?_
          refine SW.msk [true, true, true, true, false] rfl ?_
          exact vc
        · replace vc := vc.2 hbr
          refine SW.iload_n dX9_bestRing_87 rfl ?_
          refine SW.istore_n dX9_bestRing_88 (by decide) rfl rfl ?_
          refine SW.iload dX9_bestRing_89 rfl ?_
          refine SW.istore_n dX9_bestRing_91 (by decide) rfl rfl ?_
          refine SW.iinc (v := (x3 + (1 : Int32))) dX9_bestRing_92 rfl rfl (by decide) rfl rfl ?_
          refine SW.goto 20 dX9_bestRing_95 (by decide) ?_
          refine SW.msk [true, true, true, true, false] rfl ?_
          exact vc
theorem ctX9_bestRing {G : GG} {q : Int32 → Nat → SG → TU → TH → Prop} {n : Nat} {σ : SG} {τ : TU} {θ : TH}  (h : SW G 5 mX9_bestRing (aw_qi q) 0 0 0 [some (.ref 1), none, none, none, none] [] (n, σ, τ, θ)) : SMi G 5 mX9_bestRing 0 0 [.ref 1] n σ τ θ q := SM.of _ rfl rfl (Nat.le_of_ble_eq_true rfl) h
set_option maxHeartbeats 4000000 in
set_option maxRecDepth 20000 in
theorem sgX9_cheapest_0 {G : GG} {k : Nat} {q : Int32 → Nat → SG → TU → TH → Prop} {n : Nat} {σ : SG} {τ : TU} {θ : TH}  (x1 : Int32) (hk : 2 ≤ k)  (hW : aw_WT n θ) (vc : SMi G 1 mX9_isMan 0 0 [.ref 1, .int x1] n σ τ θ (fun a1 n1 σ1 τ1 θ1 => aw_WT n1 θ1 ∧ (((¬ a1 = 0) → (SW G k mX9_cheapest (aw_qi q) 0 0 22 [some (.ref 1), some (.int x1), some (.int (-2 : Int32)), some (.int (0 : Int32)), some (.int (0 : Int32)), none] [] (n1, σ1, τ1, θ1))) ∧ ((a1 = 0) → (SMi G 1 mX9_refuse 0 0 [.ref 1, .int (1 : Int32)] n1 σ1 τ1 θ1 (fun a2 n2 σ2 τ2 θ2 => aw_WT n2 θ2 ∧ (q a2 n2 σ2 τ2 θ2))))))) : SW G k mX9_cheapest (aw_qi q) 0 0 0 [some (.ref 1), some (.int x1), none, none, none, none] [] (n, σ, τ, θ) := by
  refine SW.aload_n dX9_cheapest_0 rfl ?_
  refine SW.iload_n dX9_cheapest_1 rfl ?_
  refine SW.cvi1 kV_X9_106 (by omega) aw_cl9 kp_1 (by decide) (hW.le (by decide)) rfl (Nat.le_of_ble_eq_true rfl) dX9_cheapest_2 (SMi.mono vc ?_)
  intro a1 n1 σ1 τ1 θ1 vc
  obtain ⟨hW, vc⟩ := vc
  refine SW.if_ne 14 dX9_cheapest_5 (by decide) (fun hbr => ?_) (fun hbr => ?_)
  · replace vc := vc.1 hbr
    refine SW.bipush (v := (-2 : Int32)) dX9_cheapest_14 (by decide) ?_
    refine SW.istore_n dX9_cheapest_16 (by decide) rfl rfl ?_
    refine SW.iconst (v := (0 : Int32)) dX9_cheapest_17 (by decide) ?_
    refine SW.istore_n dX9_cheapest_18 (by decide) rfl rfl ?_
    refine SW.iconst (v := (0 : Int32)) dX9_cheapest_19 (by decide) ?_
    refine SW.istore dX9_cheapest_20 (by decide) rfl rfl ?_
    exact vc
  · replace vc := vc.2 hbr
    refine SW.aload_n dX9_cheapest_8 rfl ?_
    refine SW.iconst (v := (1 : Int32)) dX9_cheapest_9 (by decide) ?_
    refine SW.cvi1 kV_X9_82 (by omega) aw_cl9 kp_1 (by decide) (hW.le (by decide)) rfl (Nat.le_of_ble_eq_true rfl) dX9_cheapest_10 (SMi.mono vc ?_)
    intro a2 n2 σ2 τ2 θ2 vc
    obtain ⟨hW, vc⟩ := vc
    exact SW.iret dX9_cheapest_13 rfl rfl ⟨_, rfl, vc⟩
set_option maxHeartbeats 4000000 in
set_option maxRecDepth 20000 in
theorem sgX9_cheapest_22 {G : GG} {k : Nat} {q : Int32 → Nat → SG → TU → TH → Prop} {n : Nat} {σ : SG} {τ : TU} {θ : TH}  (x1 : Int32) (x2 : Int32) (x3 : Int32) (x4 : Int32) (hk : 2 ≤ k)  (hW : aw_WT n θ) (vc : (((σ ((θ 1 7) + 8) 4) ≤ x4) → (SMi G 1 mX9_grant 0 0 [.ref 1, .int x2] n σ τ θ (fun a2 n2 σ2 τ2 θ2 => aw_WT n2 θ2 ∧ (q a2 n2 σ2 τ2 θ2)))) ∧ ((¬ (σ ((θ 1 7) + 8) 4) ≤ x4) → (vp_in x4 7 ∧ (((¬ (σ ((θ 1 7) + 9) x4.toNatClampNeg) = x1) → (SW G k mX9_cheapest (aw_qi q) 0 0 22 [some (.ref 1), some (.int x1), some (.int x2), some (.int x3), some (.int (x4 + (1 : Int32))), none] [] (n, σ, τ, θ))) ∧ (((σ ((θ 1 7) + 9) x4.toNatClampNeg) = x1) → (SMi G 1 mX1_isDue 0 0 [.ref (θ 1 7), .ref 6, .int x4, .int (σ 6 2)] n σ τ θ (fun a5 n5 σ5 τ5 θ5 => aw_WT n5 θ5 ∧ (((a5 = 0) → (SW G k mX9_cheapest (aw_qi q) 0 0 22 [some (.ref 1), some (.int x1), some (.int x2), some (.int x3), some (.int (x4 + (1 : Int32))), none] [] (n5, σ5, τ5, θ5))) ∧ ((¬ a5 = 0) → (vp_in x4 7 ∧ (SMi G 1 mX1_nextTineCosts 0 0 [.ref (θ5 1 7), .int (σ5 8 x4.toNatClampNeg)] n5 σ5 τ5 θ5 (fun a7 n7 σ7 τ7 θ7 => aw_WT n7 θ7 ∧ (((x2 = (-2 : Int32)) → (SW G k mX9_cheapest (aw_qi q) 0 0 22 [some (.ref 1), some (.int x1), some (.int x4), some (.int a7), some (.int (x4 + (1 : Int32))), none] [] (n7, σ7, τ7, θ7))) ∧ ((¬ x2 = (-2 : Int32)) → (((x3 ≤ a7) → (SW G k mX9_cheapest (aw_qi q) 0 0 22 [some (.ref 1), some (.int x1), some (.int x2), some (.int x3), some (.int (x4 + (1 : Int32))), none] [] (n7, σ7, τ7, θ7))) ∧ ((¬ x3 ≤ a7) → (SW G k mX9_cheapest (aw_qi q) 0 0 22 [some (.ref 1), some (.int x1), some (.int x4), some (.int a7), some (.int (x4 + (1 : Int32))), none] [] (n7, σ7, τ7, θ7)))))))))))))))))) : SW G k mX9_cheapest (aw_qi q) 0 0 22 [some (.ref 1), some (.int x1), some (.int x2), some (.int x3), some (.int x4), none] [] (n, σ, τ, θ) := by
  refine SW.iload dX9_cheapest_22 rfl ?_
  refine SW.aload_n dX9_cheapest_24 rfl ?_
  have hF1 := hW.f
  refine SW.getS (f := 7) (r := (θ 1 7)) aw_cl9 kp_1 (by decide) (hW.le (by decide)) (by decide) ww_472 dX9_cheapest_25 rfl rfl ?_
  refine SW.getS (f := 7) (r := (θ 1 7) + 8) aw_cl1 (kpF_0 hF1) (leF_0 hF1).1 (hW.le (leF_0 hF1).2) (by decide) ww_398 dX9_cheapest_28 rfl (hW.f7 hF1) ?_
  refine SW.getI (f := 4) aw_cl0 (kpF_8 hF1) (leF_8 hF1).1 (hW.le (leF_8 hF1).2) (by decide) ww_360 dX9_cheapest_31 rfl ?_
  refine SW.icmp_ge 120 dX9_cheapest_34 (by decide) (fun hbr => ?_) (fun hbr => ?_)
  · replace vc := vc.1 hbr
    refine SW.aload_n dX9_cheapest_120 rfl ?_
    refine SW.iload_n dX9_cheapest_121 rfl ?_
    refine SW.cvi1 kV_X9_100 (by omega) aw_cl9 kp_1 (by decide) (hW.le (by decide)) rfl (Nat.le_of_ble_eq_true rfl) dX9_cheapest_122 (SMi.mono vc ?_)
    intro a2 n2 σ2 τ2 θ2 vc
    obtain ⟨hW, vc⟩ := vc
    exact SW.iret dX9_cheapest_125 rfl rfl ⟨_, rfl, vc⟩
  · replace vc := vc.2 hbr
    refine SW.aload_n dX9_cheapest_37 rfl ?_
    have hF3 := hW.f
    refine SW.getS (f := 7) (r := (θ 1 7)) aw_cl9 kp_1 (by decide) (hW.le (by decide)) (by decide) ww_472 dX9_cheapest_38 rfl rfl ?_
    refine SW.getS (f := 7) (r := (θ 1 7) + 8) aw_cl1 (kpF_0 hF3) (leF_0 hF3).1 (hW.le (leF_0 hF3).2) (by decide) ww_398 dX9_cheapest_41 rfl (hW.f7 hF3) ?_
    refine SW.getS (f := 0) (r := (θ 1 7) + 9) aw_cl0 (kpF_8 hF3) (leF_8 hF3).1 (hW.le (leF_8 hF3).2) (by decide) ww_338 dX9_cheapest_44 rfl (hW.f8_0 hF3) ?_
    refine SW.iload dX9_cheapest_47 rfl ?_
    refine SW.iald (kpF_9 hF3) (leF_9 hF3).1 (hW.le (leF_9 hF3).2) vc.1 dX9_cheapest_49 ?_
    replace vc := vc.2
    refine SW.iload_n dX9_cheapest_50 rfl ?_
    refine SW.icmp_ne 114 dX9_cheapest_51 (by decide) (fun hbr => ?_) (fun hbr => ?_)
    · replace vc := vc.1 hbr
      refine SW.iinc (v := (x4 + (1 : Int32))) dX9_cheapest_114 rfl rfl (by decide) rfl rfl ?_
      refine SW.goto 22 dX9_cheapest_117 (by decide) ?_
      exact vc
    · replace vc := vc.2 hbr
      refine SW.aload_n dX9_cheapest_54 rfl ?_
      have hF4 := hW.f
      refine SW.getS (f := 7) (r := (θ 1 7)) aw_cl9 kp_1 (by decide) (hW.le (by decide)) (by decide) ww_472 dX9_cheapest_55 rfl rfl ?_
      refine SW.aload_n dX9_cheapest_58 rfl ?_
      refine SW.getS (f := 1) (r := 6) aw_cl9 kp_1 (by decide) (hW.le (by decide)) (by decide) ww_466 dX9_cheapest_59 rfl hW.t1_1 ?_
      refine SW.iload dX9_cheapest_62 rfl ?_
      refine SW.aload_n dX9_cheapest_64 rfl ?_
      refine SW.getS (f := 1) (r := 6) aw_cl9 kp_1 (by decide) (hW.le (by decide)) (by decide) ww_466 dX9_cheapest_65 rfl hW.t1_1 ?_
      refine SW.getI (f := 2) aw_cl2 kp_6 (by decide) (hW.le (by decide)) (by decide) ww_204 dX9_cheapest_68 rfl ?_
      refine SW.cvi3 kV_X9_176 (by omega) aw_cl1 (kpF_0 hF4) (leF_0 hF4).1 (hW.le (leF_0 hF4).2) rfl (Nat.le_of_ble_eq_true rfl) dX9_cheapest_71 (SMi.mono vc ?_)
      intro a5 n5 σ5 τ5 θ5 vc
      obtain ⟨hW, vc⟩ := vc
      refine SW.if_eq 114 dX9_cheapest_74 (by decide) (fun hbr => ?_) (fun hbr => ?_)
      · replace vc := vc.1 hbr
        refine SW.iinc (v := (x4 + (1 : Int32))) dX9_cheapest_114 rfl rfl (by decide) rfl rfl ?_
        refine SW.goto 22 dX9_cheapest_117 (by decide) ?_
        exact vc
      · replace vc := vc.2 hbr
        refine SW.aload_n dX9_cheapest_77 rfl ?_
        have hF6 := hW.f
        refine SW.getS (f := 7) (r := (θ5 1 7)) aw_cl9 kp_1 (by decide) (hW.le (by decide)) (by decide) ww_472 dX9_cheapest_78 rfl rfl ?_
        refine SW.aload_n dX9_cheapest_81 rfl ?_
        refine SW.getS (f := 1) (r := 6) aw_cl9 kp_1 (by decide) (hW.le (by decide)) (by decide) ww_466 dX9_cheapest_82 rfl hW.t1_1 ?_
        refine SW.getS (f := 1) (r := 8) aw_cl2 kp_6 (by decide) (hW.le (by decide)) (by decide) ww_199 dX9_cheapest_85 rfl hW.t6_1 ?_
        refine SW.iload dX9_cheapest_88 rfl ?_
        refine SW.iald kp_8 (by decide) (hW.le (by decide)) vc.1 dX9_cheapest_90 ?_
        replace vc := vc.2
        refine SW.cvi1 kV_X9_182 (by omega) aw_cl1 (kpF_0 hF6) (leF_0 hF6).1 (hW.le (leF_0 hF6).2) rfl (Nat.le_of_ble_eq_true rfl) dX9_cheapest_91 (SMi.mono vc ?_)
        intro a7 n7 σ7 τ7 θ7 vc
        obtain ⟨hW, vc⟩ := vc
        refine SW.istore dX9_cheapest_94 (by decide) rfl rfl ?_
        refine SW.iload_n dX9_cheapest_96 rfl ?_
        refine SW.bipush (v := (-2 : Int32)) dX9_cheapest_97 (by decide) ?_
        refine SW.icmp_eq 108 dX9_cheapest_99 (by decide) (fun hbr => ?_) (fun hbr => ?_)
        · replace vc := vc.1 hbr
          refine SW.iload dX9_cheapest_108 rfl ?_
          refine SW.istore_n dX9_cheapest_110 (by decide) rfl rfl ?_
          refine SW.iload dX9_cheapest_111 rfl ?_
          refine SW.istore_n dX9_cheapest_113 (by decide) rfl rfl ?_
          refine SW.iinc (v := (x4 + (1 : Int32))) dX9_cheapest_114 rfl rfl (by decide) rfl rfl ?_
          refine SW.goto 22 dX9_cheapest_117 (by decide) ?_
          refine SW.msk [true, true, true, true, true, false] rfl ?_
          exact vc
        · replace vc := vc.2 hbr
          refine SW.iload dX9_cheapest_102 rfl ?_
          refine SW.iload_n dX9_cheapest_104 rfl ?_
          refine SW.icmp_ge 114 dX9_cheapest_105 (by decide) (fun hbr => ?_) (fun hbr => ?_)
          · replace vc := vc.1 hbr
            refine SW.iinc (v := (x4 + (1 : Int32))) dX9_cheapest_114 rfl rfl (by decide) rfl rfl ?_
            refine SW.goto 22 dX9_cheapest_117 (by decide) ?_
            refine SW.msk [true, true, true, true, true, false] rfl ?_
            exact vc
          · replace vc := vc.2 hbr
            refine SW.iload dX9_cheapest_108 rfl ?_
            refine SW.istore_n dX9_cheapest_110 (by decide) rfl rfl ?_
            refine SW.iload dX9_cheapest_111 rfl ?_
            refine SW.istore_n dX9_cheapest_113 (by decide) rfl rfl ?_
            refine SW.iinc (v := (x4 + (1 : Int32))) dX9_cheapest_114 rfl rfl (by decide) rfl rfl ?_
            refine SW.goto 22 dX9_cheapest_117 (by decide) ?_
            refine SW.msk [true, true, true, true, true, false] rfl ?_
            exact vc
theorem ctX9_cheapest {G : GG} {q : Int32 → Nat → SG → TU → TH → Prop} {n : Nat} {σ : SG} {τ : TU} {θ : TH} (x1 : Int32) (h : SW G 2 mX9_cheapest (aw_qi q) 0 0 0 [some (.ref 1), some (.int x1), none, none, none, none] [] (n, σ, τ, θ)) : SMi G 2 mX9_cheapest 0 0 [.ref 1, .int x1] n σ τ θ q := SM.of _ rfl rfl (Nat.le_of_ble_eq_true rfl) h
set_option maxHeartbeats 4000000 in
set_option maxRecDepth 20000 in
theorem sgX9_debt_0 {G : GG} {k : Nat} {q : Int32 → Nat → SG → TU → TH → Prop} {n : Nat} {σ : SG} {τ : TU} {θ : TH}  (x1 : Int32) (x2 : Int32) (hk : 4 ≤ k)  (hW : aw_WT n θ) (vc : SMi G 1 mX9_isDebt 0 0 [.ref 1, .int x1] n σ τ θ (fun a1 n1 σ1 τ1 θ1 => aw_WT n1 θ1 ∧ (((a1 = 0) → (SMi G 1 mX9_refuse 0 0 [.ref 1, .int (1 : Int32)] n1 σ1 τ1 θ1 (fun a2 n2 σ2 τ2 θ2 => aw_WT n2 θ2 ∧ (q a2 n2 σ2 τ2 θ2)))) ∧ ((¬ a1 = 0) → (((x2 < 0) → (SMi G 1 mX9_refuse 0 0 [.ref 1, .int (1 : Int32)] n1 σ1 τ1 θ1 (fun a3 n3 σ3 τ3 θ3 => aw_WT n3 θ3 ∧ (q a3 n3 σ3 τ3 θ3)))) ∧ ((¬ x2 < 0) → (((x2 ≤ (5 : Int32)) → (SMi G 3 mX9_factOfDebt 0 0 [.ref 1, .int x1, .int x2] n1 σ1 τ1 θ1 (fun a4 n4 σ4 τ4 θ4 => aw_WT n4 θ4 ∧ (SMi G 1 mX9_grant 0 0 [.ref 1, .int a4] n4 σ4 τ4 θ4 (fun a5 n5 σ5 τ5 θ5 => aw_WT n5 θ5 ∧ (q a5 n5 σ5 τ5 θ5)))))) ∧ ((¬ x2 ≤ (5 : Int32)) → (SMi G 1 mX9_refuse 0 0 [.ref 1, .int (1 : Int32)] n1 σ1 τ1 θ1 (fun a6 n6 σ6 τ6 θ6 => aw_WT n6 θ6 ∧ (q a6 n6 σ6 τ6 θ6))))))))))) : SW G k mX9_debt (aw_qi q) 0 0 0 [some (.ref 1), some (.int x1), some (.int x2)] [] (n, σ, τ, θ) := by
  refine SW.aload_n dX9_debt_0 rfl ?_
  refine SW.iload_n dX9_debt_1 rfl ?_
  refine SW.cvi1 kV_X9_114 (by omega) aw_cl9 kp_1 (by decide) (hW.le (by decide)) rfl (Nat.le_of_ble_eq_true rfl) dX9_debt_2 (SMi.mono vc ?_)
  intro a1 n1 σ1 τ1 θ1 vc
  obtain ⟨hW, vc⟩ := vc
  refine SW.if_eq 17 dX9_debt_5 (by decide) (fun hbr => ?_) (fun hbr => ?_)
  · replace vc := vc.1 hbr
    refine SW.aload_n dX9_debt_17 rfl ?_
    refine SW.iconst (v := (1 : Int32)) dX9_debt_18 (by decide) ?_
    refine SW.cvi1 kV_X9_82 (by omega) aw_cl9 kp_1 (by decide) (hW.le (by decide)) rfl (Nat.le_of_ble_eq_true rfl) dX9_debt_19 (SMi.mono vc ?_)
    intro a2 n2 σ2 τ2 θ2 vc
    obtain ⟨hW, vc⟩ := vc
    exact SW.iret dX9_debt_22 rfl rfl ⟨_, rfl, vc⟩
  · replace vc := vc.2 hbr
    refine SW.iload_n dX9_debt_8 rfl ?_
    refine SW.if_lt 17 dX9_debt_9 (by decide) (fun hbr => ?_) (fun hbr => ?_)
    · replace vc := vc.1 hbr
      refine SW.aload_n dX9_debt_17 rfl ?_
      refine SW.iconst (v := (1 : Int32)) dX9_debt_18 (by decide) ?_
      refine SW.cvi1 kV_X9_82 (by omega) aw_cl9 kp_1 (by decide) (hW.le (by decide)) rfl (Nat.le_of_ble_eq_true rfl) dX9_debt_19 (SMi.mono vc ?_)
      intro a3 n3 σ3 τ3 θ3 vc
      obtain ⟨hW, vc⟩ := vc
      exact SW.iret dX9_debt_22 rfl rfl ⟨_, rfl, vc⟩
    · replace vc := vc.2 hbr
      refine SW.iload_n dX9_debt_12 rfl ?_
      refine SW.iconst (v := (5 : Int32)) dX9_debt_13 (by decide) ?_
      refine SW.icmp_le 23 dX9_debt_14 (by decide) (fun hbr => ?_) (fun hbr => ?_)
      · replace vc := vc.1 hbr
        refine SW.aload_n dX9_debt_23 rfl ?_
        refine SW.aload_n dX9_debt_24 rfl ?_
        refine SW.iload_n dX9_debt_25 rfl ?_
        refine SW.iload_n dX9_debt_26 rfl ?_
        refine SW.cvi2 kV_X9_117 (by omega) aw_cl9 kp_1 (by decide) (hW.le (by decide)) rfl (Nat.le_of_ble_eq_true rfl) dX9_debt_27 (SMi.mono vc ?_)
        intro a4 n4 σ4 τ4 θ4 vc
        obtain ⟨hW, vc⟩ := vc
        refine SW.cvi1 kV_X9_100 (by omega) aw_cl9 kp_1 (by decide) (hW.le (by decide)) rfl (Nat.le_of_ble_eq_true rfl) dX9_debt_30 (SMi.mono vc ?_)
        intro a5 n5 σ5 τ5 θ5 vc
        obtain ⟨hW, vc⟩ := vc
        exact SW.iret dX9_debt_33 rfl rfl ⟨_, rfl, vc⟩
      · replace vc := vc.2 hbr
        refine SW.aload_n dX9_debt_17 rfl ?_
        refine SW.iconst (v := (1 : Int32)) dX9_debt_18 (by decide) ?_
        refine SW.cvi1 kV_X9_82 (by omega) aw_cl9 kp_1 (by decide) (hW.le (by decide)) rfl (Nat.le_of_ble_eq_true rfl) dX9_debt_19 (SMi.mono vc ?_)
        intro a6 n6 σ6 τ6 θ6 vc
        obtain ⟨hW, vc⟩ := vc
        exact SW.iret dX9_debt_22 rfl rfl ⟨_, rfl, vc⟩
theorem ctX9_debt {G : GG} {q : Int32 → Nat → SG → TU → TH → Prop} {n : Nat} {σ : SG} {τ : TU} {θ : TH} (x1 : Int32) (x2 : Int32) (h : SW G 4 mX9_debt (aw_qi q) 0 0 0 [some (.ref 1), some (.int x1), some (.int x2)] [] (n, σ, τ, θ)) : SMi G 4 mX9_debt 0 0 [.ref 1, .int x1, .int x2] n σ τ θ q := SM.of _ rfl rfl (Nat.le_of_ble_eq_true rfl) h
set_option maxHeartbeats 4000000 in
set_option maxRecDepth 20000 in
theorem sgX9_door_0 {G : GG} {k : Nat} {q : Int32 → Nat → SG → TU → TH → Prop} {n : Nat} {σ : SG} {τ : TU} {θ : TH}  (x1 : Int32) (x2 : Int32) (hk : 6 ≤ k)  (hW : aw_WT n θ) (vc : SMi G 1 mX9_isDoor 0 0 [.ref 1, .int x1] n σ τ θ (fun a1 n1 σ1 τ1 θ1 => aw_WT n1 θ1 ∧ (((a1 = 0) → (SMi G 1 mX9_refuse 0 0 [.ref 1, .int (1 : Int32)] n1 σ1 τ1 θ1 (fun a2 n2 σ2 τ2 θ2 => aw_WT n2 θ2 ∧ (q a2 n2 σ2 τ2 θ2)))) ∧ ((¬ a1 = 0) → (((x2 < 0) → (SMi G 1 mX9_refuse 0 0 [.ref 1, .int (1 : Int32)] n1 σ1 τ1 θ1 (fun a3 n3 σ3 τ3 θ3 => aw_WT n3 θ3 ∧ (q a3 n3 σ3 τ3 θ3)))) ∧ ((¬ x2 < 0) → (((x2 ≤ (2 : Int32)) → (((¬ x2 = 0) → (((¬ x2 = (1 : Int32)) → (SMi G 1 mX1_invitedBits 0 0 [.ref (θ1 1 7), .int x1] n1 σ1 τ1 θ1 (fun a5 n5 σ5 τ5 θ5 => aw_WT n5 θ5 ∧ (SMi G 1 mX9_grant 0 0 [.ref 1, .int a5] n5 σ5 τ5 θ5 (fun a6 n6 σ6 τ6 θ6 => aw_WT n6 θ6 ∧ (q a6 n6 σ6 τ6 θ6)))))) ∧ ((x2 = (1 : Int32)) → (SMi G 5 mX1_passingBits 0 0 [.ref (θ1 1 7), .ref 6, .int x1] n1 σ1 τ1 θ1 (fun a8 n8 σ8 τ8 θ8 => aw_WT n8 θ8 ∧ (SMi G 1 mX9_grant 0 0 [.ref 1, .int a8] n8 σ8 τ8 θ8 (fun a9 n9 σ9 τ9 θ9 => aw_WT n9 θ9 ∧ (q a9 n9 σ9 τ9 θ9)))))))) ∧ ((x2 = 0) → (vp_in x1 4 ∧ (SMi G 1 mX9_grant 0 0 [.ref 1, .int (σ1 ((θ1 1 7) + 5) x1.toNatClampNeg)] n1 σ1 τ1 θ1 (fun a11 n11 σ11 τ11 θ11 => aw_WT n11 θ11 ∧ (q a11 n11 σ11 τ11 θ11))))))) ∧ ((¬ x2 ≤ (2 : Int32)) → (SMi G 1 mX9_refuse 0 0 [.ref 1, .int (1 : Int32)] n1 σ1 τ1 θ1 (fun a12 n12 σ12 τ12 θ12 => aw_WT n12 θ12 ∧ (q a12 n12 σ12 τ12 θ12))))))))))) : SW G k mX9_door (aw_qi q) 0 0 0 [some (.ref 1), some (.int x1), some (.int x2)] [] (n, σ, τ, θ) := by
  refine SW.aload_n dX9_door_0 rfl ?_
  refine SW.iload_n dX9_door_1 rfl ?_
  refine SW.cvi1 kV_X9_120 (by omega) aw_cl9 kp_1 (by decide) (hW.le (by decide)) rfl (Nat.le_of_ble_eq_true rfl) dX9_door_2 (SMi.mono vc ?_)
  intro a1 n1 σ1 τ1 θ1 vc
  obtain ⟨hW, vc⟩ := vc
  refine SW.if_eq 17 dX9_door_5 (by decide) (fun hbr => ?_) (fun hbr => ?_)
  · replace vc := vc.1 hbr
    refine SW.aload_n dX9_door_17 rfl ?_
    refine SW.iconst (v := (1 : Int32)) dX9_door_18 (by decide) ?_
    refine SW.cvi1 kV_X9_82 (by omega) aw_cl9 kp_1 (by decide) (hW.le (by decide)) rfl (Nat.le_of_ble_eq_true rfl) dX9_door_19 (SMi.mono vc ?_)
    intro a2 n2 σ2 τ2 θ2 vc
    obtain ⟨hW, vc⟩ := vc
    exact SW.iret dX9_door_22 rfl rfl ⟨_, rfl, vc⟩
  · replace vc := vc.2 hbr
    refine SW.iload_n dX9_door_8 rfl ?_
    refine SW.if_lt 17 dX9_door_9 (by decide) (fun hbr => ?_) (fun hbr => ?_)
    · replace vc := vc.1 hbr
      refine SW.aload_n dX9_door_17 rfl ?_
      refine SW.iconst (v := (1 : Int32)) dX9_door_18 (by decide) ?_
      refine SW.cvi1 kV_X9_82 (by omega) aw_cl9 kp_1 (by decide) (hW.le (by decide)) rfl (Nat.le_of_ble_eq_true rfl) dX9_door_19 (SMi.mono vc ?_)
      intro a3 n3 σ3 τ3 θ3 vc
      obtain ⟨hW, vc⟩ := vc
      exact SW.iret dX9_door_22 rfl rfl ⟨_, rfl, vc⟩
    · replace vc := vc.2 hbr
      refine SW.iload_n dX9_door_12 rfl ?_
      refine SW.iconst (v := (2 : Int32)) dX9_door_13 (by decide) ?_
      refine SW.icmp_le 23 dX9_door_14 (by decide) (fun hbr => ?_) (fun hbr => ?_)
      · replace vc := vc.1 hbr
        refine SW.iload_n dX9_door_23 rfl ?_
        refine SW.if_ne 41 dX9_door_24 (by decide) (fun hbr => ?_) (fun hbr => ?_)
        · replace vc := vc.1 hbr
          refine SW.aload_n dX9_door_41 rfl ?_
          refine SW.iload_n dX9_door_42 rfl ?_
          refine SW.iconst (v := (1 : Int32)) dX9_door_43 (by decide) ?_
          refine SW.icmp_ne 62 dX9_door_44 (by decide) (fun hbr => ?_) (fun hbr => ?_)
          · replace vc := vc.1 hbr
            refine SW.aload_n dX9_door_62 rfl ?_
            have hF4 := hW.f
            refine SW.getS (f := 7) (r := (θ1 1 7)) aw_cl9 kp_1 (by decide) (hW.le (by decide)) (by decide) ww_472 dX9_door_63 rfl rfl ?_
            refine SW.iload_n dX9_door_66 rfl ?_
            refine SW.cvi1 kV_X9_131 (by omega) aw_cl1 (kpF_0 hF4) (leF_0 hF4).1 (hW.le (leF_0 hF4).2) rfl (Nat.le_of_ble_eq_true rfl) dX9_door_67 (SMi.mono vc ?_)
            intro a5 n5 σ5 τ5 θ5 vc
            obtain ⟨hW, vc⟩ := vc
            refine SW.cvi1 kV_X9_100 (by omega) aw_cl9 kp_1 (by decide) (hW.le (by decide)) rfl (Nat.le_of_ble_eq_true rfl) dX9_door_70 (SMi.mono vc ?_)
            intro a6 n6 σ6 τ6 θ6 vc
            obtain ⟨hW, vc⟩ := vc
            exact SW.iret dX9_door_73 rfl rfl ⟨_, rfl, vc⟩
          · replace vc := vc.2 hbr
            refine SW.aload_n dX9_door_47 rfl ?_
            have hF7 := hW.f
            refine SW.getS (f := 7) (r := (θ1 1 7)) aw_cl9 kp_1 (by decide) (hW.le (by decide)) (by decide) ww_472 dX9_door_48 rfl rfl ?_
            refine SW.aload_n dX9_door_51 rfl ?_
            refine SW.getS (f := 1) (r := 6) aw_cl9 kp_1 (by decide) (hW.le (by decide)) (by decide) ww_466 dX9_door_52 rfl hW.t1_1 ?_
            refine SW.iload_n dX9_door_55 rfl ?_
            refine SW.cvi2 kV_X9_127 (by omega) aw_cl1 (kpF_0 hF7) (leF_0 hF7).1 (hW.le (leF_0 hF7).2) rfl (Nat.le_of_ble_eq_true rfl) dX9_door_56 (SMi.mono vc ?_)
            intro a8 n8 σ8 τ8 θ8 vc
            obtain ⟨hW, vc⟩ := vc
            refine SW.goto 70 dX9_door_59 (by decide) ?_
            refine SW.cvi1 kV_X9_100 (by omega) aw_cl9 kp_1 (by decide) (hW.le (by decide)) rfl (Nat.le_of_ble_eq_true rfl) dX9_door_70 (SMi.mono vc ?_)
            intro a9 n9 σ9 τ9 θ9 vc
            obtain ⟨hW, vc⟩ := vc
            exact SW.iret dX9_door_73 rfl rfl ⟨_, rfl, vc⟩
        · replace vc := vc.2 hbr
          refine SW.aload_n dX9_door_27 rfl ?_
          refine SW.aload_n dX9_door_28 rfl ?_
          have hF10 := hW.f
          refine SW.getS (f := 7) (r := (θ1 1 7)) aw_cl9 kp_1 (by decide) (hW.le (by decide)) (by decide) ww_472 dX9_door_29 rfl rfl ?_
          refine SW.getS (f := 4) (r := (θ1 1 7) + 5) aw_cl1 (kpF_0 hF10) (leF_0 hF10).1 (hW.le (leF_0 hF10).2) (by decide) ww_385 dX9_door_32 rfl (hW.f4 hF10) ?_
          refine SW.iload_n dX9_door_35 rfl ?_
          refine SW.iald (kpF_5 hF10) (leF_5 hF10).1 (hW.le (leF_5 hF10).2) vc.1 dX9_door_36 ?_
          replace vc := vc.2
          refine SW.cvi1 kV_X9_100 (by omega) aw_cl9 kp_1 (by decide) (hW.le (by decide)) rfl (Nat.le_of_ble_eq_true rfl) dX9_door_37 (SMi.mono vc ?_)
          intro a11 n11 σ11 τ11 θ11 vc
          obtain ⟨hW, vc⟩ := vc
          exact SW.iret dX9_door_40 rfl rfl ⟨_, rfl, vc⟩
      · replace vc := vc.2 hbr
        refine SW.aload_n dX9_door_17 rfl ?_
        refine SW.iconst (v := (1 : Int32)) dX9_door_18 (by decide) ?_
        refine SW.cvi1 kV_X9_82 (by omega) aw_cl9 kp_1 (by decide) (hW.le (by decide)) rfl (Nat.le_of_ble_eq_true rfl) dX9_door_19 (SMi.mono vc ?_)
        intro a12 n12 σ12 τ12 θ12 vc
        obtain ⟨hW, vc⟩ := vc
        exact SW.iret dX9_door_22 rfl rfl ⟨_, rfl, vc⟩
theorem ctX9_door {G : GG} {q : Int32 → Nat → SG → TU → TH → Prop} {n : Nat} {σ : SG} {τ : TU} {θ : TH} (x1 : Int32) (x2 : Int32) (h : SW G 6 mX9_door (aw_qi q) 0 0 0 [some (.ref 1), some (.int x1), some (.int x2)] [] (n, σ, τ, θ)) : SMi G 6 mX9_door 0 0 [.ref 1, .int x1, .int x2] n σ τ θ q := SM.of _ rfl rfl (Nat.le_of_ble_eq_true rfl) h
set_option maxHeartbeats 4000000 in
set_option maxRecDepth 20000 in
theorem sgX9_doorOf_0 {G : GG} {k : Nat} {q : Int32 → Nat → SG → TU → TH → Prop} {n : Nat} {σ : SG} {τ : TU} {θ : TH}  (x1 : Int32) (hk : 7 ≤ k)  (hW : aw_WT n θ) (vc : SMi G 1 mX9_isMan 0 0 [.ref 1, .int x1] n σ τ θ (fun a1 n1 σ1 τ1 θ1 => aw_WT n1 θ1 ∧ (((¬ a1 = 0) → (SMi G 6 mX7_assign 0 0 [.ref 69, .ref (θ1 1 7), .ref 6] n1 σ1 τ1 θ1 (fun a3 n3 σ3 τ3 θ3 => aw_WT n3 θ3 ∧ (vp_in x1 5 ∧ (SMi G 1 mX9_grant 0 0 [.ref 1, .int (σ3 70 x1.toNatClampNeg)] n3 σ3 τ3 θ3 (fun a4 n4 σ4 τ4 θ4 => aw_WT n4 θ4 ∧ (q a4 n4 σ4 τ4 θ4))))))) ∧ ((a1 = 0) → (SMi G 1 mX9_refuse 0 0 [.ref 1, .int (1 : Int32)] n1 σ1 τ1 θ1 (fun a5 n5 σ5 τ5 θ5 => aw_WT n5 θ5 ∧ (q a5 n5 σ5 τ5 θ5))))))) : SW G k mX9_doorOf (aw_qi q) 0 0 0 [some (.ref 1), some (.int x1)] [] (n, σ, τ, θ) := by
  refine SW.aload_n dX9_doorOf_0 rfl ?_
  refine SW.iload_n dX9_doorOf_1 rfl ?_
  refine SW.cvi1 kV_X9_106 (by omega) aw_cl9 kp_1 (by decide) (hW.le (by decide)) rfl (Nat.le_of_ble_eq_true rfl) dX9_doorOf_2 (SMi.mono vc ?_)
  intro a1 n1 σ1 τ1 θ1 vc
  obtain ⟨hW, vc⟩ := vc
  refine SW.if_ne 14 dX9_doorOf_5 (by decide) (fun hbr => ?_) (fun hbr => ?_)
  · replace vc := vc.1 hbr
    refine SW.aload_n dX9_doorOf_14 rfl ?_
    refine SW.getS (f := 3) (r := 69) aw_cl9 kp_1 (by decide) (hW.le (by decide)) (by decide) ww_468 dX9_doorOf_15 rfl hW.t1_3 ?_
    refine SW.aload_n dX9_doorOf_18 rfl ?_
    have hF2 := hW.f
    refine SW.getS (f := 7) (r := (θ1 1 7)) aw_cl9 kp_1 (by decide) (hW.le (by decide)) (by decide) ww_472 dX9_doorOf_19 rfl rfl ?_
    refine SW.aload_n dX9_doorOf_22 rfl ?_
    refine SW.getS (f := 1) (r := 6) aw_cl9 kp_1 (by decide) (hW.le (by decide)) (by decide) ww_466 dX9_doorOf_23 rfl hW.t1_1 ?_
    refine SW.cvi2 kV_X9_188 (by omega) aw_cl7 kp_69 (by decide) (hW.le (by decide)) rfl (Nat.le_of_ble_eq_true rfl) dX9_doorOf_26 (SMi.mono vc ?_)
    intro a3 n3 σ3 τ3 θ3 vc
    obtain ⟨hW, vc⟩ := vc
    refine SW.pop dX9_doorOf_29 rfl ?_
    refine SW.aload_n dX9_doorOf_30 rfl ?_
    refine SW.aload_n dX9_doorOf_31 rfl ?_
    refine SW.getS (f := 3) (r := 69) aw_cl9 kp_1 (by decide) (hW.le (by decide)) (by decide) ww_468 dX9_doorOf_32 rfl hW.t1_3 ?_
    refine SW.getS (f := 0) (r := 70) aw_cl7 kp_69 (by decide) (hW.le (by decide)) (by decide) ww_248 dX9_doorOf_35 rfl hW.t69_0 ?_
    refine SW.iload_n dX9_doorOf_38 rfl ?_
    refine SW.iald kp_70 (by decide) (hW.le (by decide)) vc.1 dX9_doorOf_39 ?_
    replace vc := vc.2
    refine SW.cvi1 kV_X9_100 (by omega) aw_cl9 kp_1 (by decide) (hW.le (by decide)) rfl (Nat.le_of_ble_eq_true rfl) dX9_doorOf_40 (SMi.mono vc ?_)
    intro a4 n4 σ4 τ4 θ4 vc
    obtain ⟨hW, vc⟩ := vc
    exact SW.iret dX9_doorOf_43 rfl rfl ⟨_, rfl, vc⟩
  · replace vc := vc.2 hbr
    refine SW.aload_n dX9_doorOf_8 rfl ?_
    refine SW.iconst (v := (1 : Int32)) dX9_doorOf_9 (by decide) ?_
    refine SW.cvi1 kV_X9_82 (by omega) aw_cl9 kp_1 (by decide) (hW.le (by decide)) rfl (Nat.le_of_ble_eq_true rfl) dX9_doorOf_10 (SMi.mono vc ?_)
    intro a5 n5 σ5 τ5 θ5 vc
    obtain ⟨hW, vc⟩ := vc
    exact SW.iret dX9_doorOf_13 rfl rfl ⟨_, rfl, vc⟩
theorem ctX9_doorOf {G : GG} {q : Int32 → Nat → SG → TU → TH → Prop} {n : Nat} {σ : SG} {τ : TU} {θ : TH} (x1 : Int32) (h : SW G 7 mX9_doorOf (aw_qi q) 0 0 0 [some (.ref 1), some (.int x1)] [] (n, σ, τ, θ)) : SMi G 7 mX9_doorOf 0 0 [.ref 1, .int x1] n σ τ θ q := SM.of _ rfl rfl (Nat.le_of_ble_eq_true rfl) h
set_option maxHeartbeats 4000000 in
set_option maxRecDepth 20000 in
theorem sgX9_duchy_0 {G : GG} {k : Nat} {q : Int32 → Nat → SG → TU → TH → Prop} {n : Nat} {σ : SG} {τ : TU} {θ : TH}  (x1 : Int32) (hk : 11 ≤ k)  (hW : aw_WT n θ) (vc : ((x1 < 0) → (SMi G 1 mX9_refuse 0 0 [.ref 1, .int (2 : Int32)] n σ τ θ (fun a1 n1 σ1 τ1 θ1 => aw_WT n1 θ1 ∧ (q a1 n1 σ1 τ1 θ1)))) ∧ ((¬ x1 < 0) → (((x1 ≤ (σ 2 0)) → (SMi G 10 mX8_readInto 0 0 [.ref 2, .ref (θ 1 8), .int x1] n σ τ θ (fun a3 n3 σ3 τ3 θ3 => aw_WT n3 θ3 ∧ (((((aw_u (aw_u σ3 1 9 a3) 2 0 (0 : Int32)) 1 9) = 0) → (aw_WT n3 (aw_u (aw_u θ3 1 7 (θ3 1 8)) 1 8 (θ3 1 7)) ∧ (SMv G 1 mX2_beginWith 0 0 [.ref 6, .ref ((aw_u (aw_u θ3 1 7 (θ3 1 8)) 1 8 (θ3 1 7)) 1 7)] n3 (aw_u (aw_u σ3 1 9 a3) 2 0 (0 : Int32)) τ3 (aw_u (aw_u θ3 1 7 (θ3 1 8)) 1 8 (θ3 1 7)) (fun n7 σ7 τ7 θ7 => aw_WT n7 θ7 ∧ (SMv G 1 mX5_forgetAll 0 0 [.ref 9] n7 σ7 τ7 θ7 (fun n8 σ8 τ8 θ8 => aw_WT n8 θ8 ∧ (SMi G 1 mX9_grant 0 0 [.ref 1, .int (σ8 (θ8 1 7) 13)] n8 σ8 τ8 θ8 (fun a10 n10 σ10 τ10 θ10 => aw_WT n10 θ10 ∧ (q a10 n10 σ10 τ10 θ10))))))))) ∧ ((¬ ((aw_u (aw_u σ3 1 9 a3) 2 0 (0 : Int32)) 1 9) = 0) → (SMi G 1 mX9_refuse 0 0 [.ref 1, .int (4 : Int32)] n3 (aw_u (aw_u σ3 1 9 a3) 2 0 (0 : Int32)) τ3 θ3 (fun a11 n11 σ11 τ11 θ11 => aw_WT n11 θ11 ∧ (q a11 n11 σ11 τ11 θ11)))))))) ∧ ((¬ x1 ≤ (σ 2 0)) → (SMi G 1 mX9_refuse 0 0 [.ref 1, .int (2 : Int32)] n σ τ θ (fun a12 n12 σ12 τ12 θ12 => aw_WT n12 θ12 ∧ (q a12 n12 σ12 τ12 θ12))))))) : SW G k mX9_duchy (aw_qi q) 0 0 0 [some (.ref 1), some (.int x1), none] [] (n, σ, τ, θ) := by
  refine SW.iload_n dX9_duchy_0 rfl ?_
  refine SW.if_lt 15 dX9_duchy_1 (by decide) (fun hbr => ?_) (fun hbr => ?_)
  · replace vc := vc.1 hbr
    refine SW.aload_n dX9_duchy_15 rfl ?_
    refine SW.iconst (v := (2 : Int32)) dX9_duchy_16 (by decide) ?_
    refine SW.cvi1 kV_X9_82 (by omega) aw_cl9 kp_1 (by decide) (hW.le (by decide)) rfl (Nat.le_of_ble_eq_true rfl) dX9_duchy_17 (SMi.mono vc ?_)
    intro a1 n1 σ1 τ1 θ1 vc
    obtain ⟨hW, vc⟩ := vc
    exact SW.iret dX9_duchy_20 rfl rfl ⟨_, rfl, vc⟩
  · replace vc := vc.2 hbr
    refine SW.iload_n dX9_duchy_4 rfl ?_
    refine SW.aload_n dX9_duchy_5 rfl ?_
    refine SW.getS (f := 0) (r := 2) aw_cl9 kp_1 (by decide) (hW.le (by decide)) (by decide) ww_465 dX9_duchy_6 rfl hW.t1_0 ?_
    refine SW.getI (f := 0) aw_cl8 kp_2 (by decide) (hW.le (by decide)) (by decide) ww_146 dX9_duchy_9 rfl ?_
    refine SW.icmp_le 21 dX9_duchy_12 (by decide) (fun hbr => ?_) (fun hbr => ?_)
    · replace vc := vc.1 hbr
      refine SW.aload_n dX9_duchy_21 rfl ?_
      refine SW.aload_n dX9_duchy_22 rfl ?_
      refine SW.getS (f := 0) (r := 2) aw_cl9 kp_1 (by decide) (hW.le (by decide)) (by decide) ww_465 dX9_duchy_23 rfl hW.t1_0 ?_
      refine SW.aload_n dX9_duchy_26 rfl ?_
      have hF2 := hW.g
      refine SW.getS (f := 8) (r := (θ 1 8)) aw_cl9 kp_1 (by decide) (hW.le (by decide)) (by decide) ww_473 dX9_duchy_27 rfl rfl ?_
      refine SW.iload_n dX9_duchy_30 rfl ?_
      refine SW.cvi2 kV_X9_86 (by omega) aw_cl8 kp_2 (by decide) (hW.le (by decide)) rfl (Nat.le_of_ble_eq_true rfl) dX9_duchy_31 (SMi.mono vc ?_)
      intro a3 n3 σ3 τ3 θ3 vc
      obtain ⟨hW, vc⟩ := vc
      refine SW.putI (f := 9) aw_cl9 kp_1 (by decide) (hW.le (by decide)) (by decide) ww_474 (Or.inl rfl) dX9_duchy_34 rfl rfl rfl ?_
      refine SW.aload_n dX9_duchy_37 rfl ?_
      refine SW.getS (f := 0) (r := 2) aw_cl9 kp_1 (by decide) (hW.le (by decide)) (by decide) ww_465 dX9_duchy_38 rfl hW.t1_0 ?_
      refine SW.iconst (v := (0 : Int32)) dX9_duchy_41 (by decide) ?_
      refine SW.putI (f := 0) aw_cl8 kp_2 (by decide) (hW.le (by decide)) (by decide) ww_146 (Or.inl rfl) dX9_duchy_42 rfl rfl rfl ?_
      refine SW.aload_n dX9_duchy_45 rfl ?_
      refine SW.getI (f := 9) aw_cl9 kp_1 (by decide) (hW.le (by decide)) (by decide) ww_474 dX9_duchy_46 rfl ?_
      refine SW.if_eq 58 dX9_duchy_49 (by decide) (fun hbr => ?_) (fun hbr => ?_)
      · replace vc := vc.1 hbr
        refine SW.aload_n dX9_duchy_58 rfl ?_
        have hF4 := hW.f
        refine SW.getS (f := 7) (r := (θ3 1 7)) aw_cl9 kp_1 (by decide) (hW.le (by decide)) (by decide) ww_472 dX9_duchy_59 rfl rfl ?_
        refine SW.astore_n dX9_duchy_62 (by decide) rfl rfl ?_
        refine SW.aload_n dX9_duchy_63 rfl ?_
        refine SW.aload_n dX9_duchy_64 rfl ?_
        have hF5 := hW.g
        refine SW.getS (f := 8) (r := (θ3 1 8)) aw_cl9 kp_1 (by decide) (hW.le (by decide)) (by decide) ww_473 dX9_duchy_65 rfl rfl ?_
        refine SW.putR (f := 7) aw_cl9 kp_1 (by decide) (hW.le (by decide)) (by decide) ww_472 (Or.inl rfl) dX9_duchy_68 rfl (fun _ => rfl) (fun _ => rfl) (by have := (leF_0 hF5).1; omega) ?_
        refine SW.aload_n dX9_duchy_71 rfl ?_
        refine SW.aload_n dX9_duchy_72 rfl ?_
        refine SW.putR (f := 8) aw_cl9 kp_1 (by decide) (hW.le (by decide)) (by decide) ww_473 (Or.inl rfl) dX9_duchy_73 rfl (fun _ => rfl) (fun _ => rfl) (by have := (leF_0 hF4).1; omega) ?_
        have hW := vc.1
        replace vc := vc.2
        refine SW.aload_n dX9_duchy_76 rfl ?_
        refine SW.getS (f := 1) (r := 6) aw_cl9 kp_1 (by decide) (hW.le (by decide)) (by decide) ww_466 dX9_duchy_77 rfl hW.t1_1 ?_
        refine SW.aload_n dX9_duchy_80 rfl ?_
        have hF6 := hW.f
        refine SW.getS (f := 7) (r := ((aw_u (aw_u θ3 1 7 (θ3 1 8)) 1 8 (θ3 1 7)) 1 7)) aw_cl9 kp_1 (by decide) (hW.le (by decide)) (by decide) ww_472 dX9_duchy_81 rfl rfl ?_
        refine SW.cvv1 kV_X9_90 (by omega) aw_cl2 kp_6 (by decide) (hW.le (by decide)) rfl (Nat.le_of_ble_eq_true rfl) dX9_duchy_84 (SMv.mono vc ?_)
        intro n7 σ7 τ7 θ7 vc
        obtain ⟨hW, vc⟩ := vc
        refine SW.aload_n dX9_duchy_87 rfl ?_
        refine SW.getS (f := 2) (r := 9) aw_cl9 kp_1 (by decide) (hW.le (by decide)) (by decide) ww_467 dX9_duchy_88 rfl hW.t1_2 ?_
        refine SW.cvv0 kV_X9_94 (by omega) aw_cl5 kp_9 (by decide) (hW.le (by decide)) rfl (Nat.le_of_ble_eq_true rfl) dX9_duchy_91 (SMv.mono vc ?_)
        intro n8 σ8 τ8 θ8 vc
        obtain ⟨hW, vc⟩ := vc
        refine SW.aload_n dX9_duchy_94 rfl ?_
        refine SW.aload_n dX9_duchy_95 rfl ?_
        have hF9 := hW.f
        refine SW.getS (f := 7) (r := (θ8 1 7)) aw_cl9 kp_1 (by decide) (hW.le (by decide)) (by decide) ww_472 dX9_duchy_96 rfl rfl ?_
        refine SW.getI (f := 13) aw_cl1 (kpF_0 hF9) (leF_0 hF9).1 (hW.le (leF_0 hF9).2) (by decide) ww_423 dX9_duchy_99 rfl ?_
        refine SW.cvi1 kV_X9_100 (by omega) aw_cl9 kp_1 (by decide) (hW.le (by decide)) rfl (Nat.le_of_ble_eq_true rfl) dX9_duchy_102 (SMi.mono vc ?_)
        intro a10 n10 σ10 τ10 θ10 vc
        obtain ⟨hW, vc⟩ := vc
        exact SW.iret dX9_duchy_105 rfl rfl ⟨_, rfl, vc⟩
      · replace vc := vc.2 hbr
        refine SW.aload_n dX9_duchy_52 rfl ?_
        refine SW.iconst (v := (4 : Int32)) dX9_duchy_53 (by decide) ?_
        refine SW.cvi1 kV_X9_82 (by omega) aw_cl9 kp_1 (by decide) (hW.le (by decide)) rfl (Nat.le_of_ble_eq_true rfl) dX9_duchy_54 (SMi.mono vc ?_)
        intro a11 n11 σ11 τ11 θ11 vc
        obtain ⟨hW, vc⟩ := vc
        exact SW.iret dX9_duchy_57 rfl rfl ⟨_, rfl, vc⟩
    · replace vc := vc.2 hbr
      refine SW.aload_n dX9_duchy_15 rfl ?_
      refine SW.iconst (v := (2 : Int32)) dX9_duchy_16 (by decide) ?_
      refine SW.cvi1 kV_X9_82 (by omega) aw_cl9 kp_1 (by decide) (hW.le (by decide)) rfl (Nat.le_of_ble_eq_true rfl) dX9_duchy_17 (SMi.mono vc ?_)
      intro a12 n12 σ12 τ12 θ12 vc
      obtain ⟨hW, vc⟩ := vc
      exact SW.iret dX9_duchy_20 rfl rfl ⟨_, rfl, vc⟩
theorem ctX9_duchy {G : GG} {q : Int32 → Nat → SG → TU → TH → Prop} {n : Nat} {σ : SG} {τ : TU} {θ : TH} (x1 : Int32) (h : SW G 11 mX9_duchy (aw_qi q) 0 0 0 [some (.ref 1), some (.int x1), none] [] (n, σ, τ, θ)) : SMi G 11 mX9_duchy 0 0 [.ref 1, .int x1] n σ τ θ q := SM.of _ rfl rfl (Nat.le_of_ble_eq_true rfl) h
set_option maxHeartbeats 4000000 in
set_option maxRecDepth 20000 in
theorem sgX9_duel_0 {G : GG} {k : Nat} {q : Int32 → Nat → SG → TU → TH → Prop} {n : Nat} {σ : SG} {τ : TU} {θ : TH}  (x1 : Int32) (x2 : Int32) (x3 : Int32) (x4 : Int32) (x5 : Int32) (x6 : Int32) (hk : 3 ≤ k)  (hW : aw_WT n θ) (vc : SMi G 2 mX9_troubleOfDispute 0 0 [.ref 1, .int x1, .int x2, .int x3] n σ τ θ (fun a1 n1 σ1 τ1 θ1 => aw_WT n1 θ1 ∧ (((a1 = 0) → (((x6 = 0) → (SMi G 1 mX9_share 0 0 [.ref 1, .int x1, .int x2, .int x3, .int x4, .int x5] n1 σ1 τ1 θ1 (fun a2 n2 σ2 τ2 θ2 => aw_WT n2 θ2 ∧ (SMi G 1 mX9_grant 0 0 [.ref 1, .int a2] n2 σ2 τ2 θ2 (fun a3 n3 σ3 τ3 θ3 => aw_WT n3 θ3 ∧ (q a3 n3 σ3 τ3 θ3)))))) ∧ ((¬ x6 = 0) → (SMi G 1 mX9_share 0 0 [.ref 1, .int x2, .int x1, .int x3, .int x5, .int x4] n1 σ1 τ1 θ1 (fun a4 n4 σ4 τ4 θ4 => aw_WT n4 θ4 ∧ (SMi G 1 mX9_grant 0 0 [.ref 1, .int a4] n4 σ4 τ4 θ4 (fun a5 n5 σ5 τ5 θ5 => aw_WT n5 θ5 ∧ (q a5 n5 σ5 τ5 θ5)))))))) ∧ ((¬ a1 = 0) → (SMi G 1 mX9_refuse 0 0 [.ref 1, .int a1] n1 σ1 τ1 θ1 (fun a6 n6 σ6 τ6 θ6 => aw_WT n6 θ6 ∧ (q (-100 : Int32) n6 σ6 τ6 θ6))))))) : SW G k mX9_duel (aw_qi q) 0 0 0 [some (.ref 1), some (.int x1), some (.int x2), some (.int x3), some (.int x4), some (.int x5), some (.int x6), none] [] (n, σ, τ, θ) := by
  refine SW.aload_n dX9_duel_0 rfl ?_
  refine SW.iload_n dX9_duel_1 rfl ?_
  refine SW.iload_n dX9_duel_2 rfl ?_
  refine SW.iload_n dX9_duel_3 rfl ?_
  refine SW.cvi3 kV_X9_260 (by omega) aw_cl9 kp_1 (by decide) (hW.le (by decide)) rfl (Nat.le_of_ble_eq_true rfl) dX9_duel_4 (SMi.mono vc ?_)
  intro a1 n1 σ1 τ1 θ1 vc
  obtain ⟨hW, vc⟩ := vc
  refine SW.istore dX9_duel_7 (by decide) rfl rfl ?_
  refine SW.iload dX9_duel_9 rfl ?_
  refine SW.if_eq 24 dX9_duel_11 (by decide) (fun hbr => ?_) (fun hbr => ?_)
  · replace vc := vc.1 hbr
    refine SW.aload_n dX9_duel_24 rfl ?_
    refine SW.iload dX9_duel_25 rfl ?_
    refine SW.if_eq 44 dX9_duel_27 (by decide) (fun hbr => ?_) (fun hbr => ?_)
    · replace vc := vc.1 hbr
      refine SW.aload_n dX9_duel_44 rfl ?_
      refine SW.iload_n dX9_duel_45 rfl ?_
      refine SW.iload_n dX9_duel_46 rfl ?_
      refine SW.iload_n dX9_duel_47 rfl ?_
      refine SW.iload dX9_duel_48 rfl ?_
      refine SW.iload dX9_duel_50 rfl ?_
      refine SW.cvi5 kV_X9_264 (by omega) aw_cl9 kp_1 (by decide) (hW.le (by decide)) rfl (Nat.le_of_ble_eq_true rfl) dX9_duel_52 (SMi.mono vc ?_)
      intro a2 n2 σ2 τ2 θ2 vc
      obtain ⟨hW, vc⟩ := vc
      refine SW.cvi1 kV_X9_100 (by omega) aw_cl9 kp_1 (by decide) (hW.le (by decide)) rfl (Nat.le_of_ble_eq_true rfl) dX9_duel_55 (SMi.mono vc ?_)
      intro a3 n3 σ3 τ3 θ3 vc
      obtain ⟨hW, vc⟩ := vc
      exact SW.iret dX9_duel_58 rfl rfl ⟨_, rfl, vc⟩
    · replace vc := vc.2 hbr
      refine SW.aload_n dX9_duel_30 rfl ?_
      refine SW.iload_n dX9_duel_31 rfl ?_
      refine SW.iload_n dX9_duel_32 rfl ?_
      refine SW.iload_n dX9_duel_33 rfl ?_
      refine SW.iload dX9_duel_34 rfl ?_
      refine SW.iload dX9_duel_36 rfl ?_
      refine SW.cvi5 kV_X9_264 (by omega) aw_cl9 kp_1 (by decide) (hW.le (by decide)) rfl (Nat.le_of_ble_eq_true rfl) dX9_duel_38 (SMi.mono vc ?_)
      intro a4 n4 σ4 τ4 θ4 vc
      obtain ⟨hW, vc⟩ := vc
      refine SW.goto 55 dX9_duel_41 (by decide) ?_
      refine SW.cvi1 kV_X9_100 (by omega) aw_cl9 kp_1 (by decide) (hW.le (by decide)) rfl (Nat.le_of_ble_eq_true rfl) dX9_duel_55 (SMi.mono vc ?_)
      intro a5 n5 σ5 τ5 θ5 vc
      obtain ⟨hW, vc⟩ := vc
      exact SW.iret dX9_duel_58 rfl rfl ⟨_, rfl, vc⟩
  · replace vc := vc.2 hbr
    refine SW.aload_n dX9_duel_14 rfl ?_
    refine SW.iload dX9_duel_15 rfl ?_
    refine SW.cvi1 kV_X9_82 (by omega) aw_cl9 kp_1 (by decide) (hW.le (by decide)) rfl (Nat.le_of_ble_eq_true rfl) dX9_duel_17 (SMi.mono vc ?_)
    intro a6 n6 σ6 τ6 θ6 vc
    obtain ⟨hW, vc⟩ := vc
    refine SW.pop dX9_duel_20 rfl ?_
    refine SW.bipush (v := (-100 : Int32)) dX9_duel_21 (by decide) ?_
    exact SW.iret dX9_duel_23 rfl rfl ⟨_, rfl, vc⟩
theorem ctX9_duel {G : GG} {q : Int32 → Nat → SG → TU → TH → Prop} {n : Nat} {σ : SG} {τ : TU} {θ : TH} (x1 : Int32) (x2 : Int32) (x3 : Int32) (x4 : Int32) (x5 : Int32) (x6 : Int32) (h : SW G 3 mX9_duel (aw_qi q) 0 0 0 [some (.ref 1), some (.int x1), some (.int x2), some (.int x3), some (.int x4), some (.int x5), some (.int x6), none] [] (n, σ, τ, θ)) : SMi G 3 mX9_duel 0 0 [.ref 1, .int x1, .int x2, .int x3, .int x4, .int x5, .int x6] n σ τ θ q := SM.of _ rfl rfl (Nat.le_of_ble_eq_true rfl) h
set_option maxHeartbeats 4000000 in
set_option maxRecDepth 20000 in
theorem sgX9_eaten_0 {G : GG} {k : Nat} {q : Int32 → Nat → SG → TU → TH → Prop} {n : Nat} {σ : SG} {τ : TU} {θ : TH}  (x1 : Int32) (x2 : Int32) (hk : 5 ≤ k)  (hW : aw_WT n θ) (vc : SMi G 1 mX9_noDuchy 0 0 [.ref 1] n σ τ θ (fun a1 n1 σ1 τ1 θ1 => aw_WT n1 θ1 ∧ (((a1 = 0) → (SMi G 1 mX9_isFlight 0 0 [.ref 1, .int x1, .int x2] n1 σ1 τ1 θ1 (fun a2 n2 σ2 τ2 θ2 => aw_WT n2 θ2 ∧ (((¬ a2 = 0) → (SMv G 4 mX3_fly 0 0 [.ref 80, .ref (θ2 1 7), .ref 6, .int x1, .int x2] n2 σ2 τ2 θ2 (fun n4 σ4 τ4 θ4 => aw_WT n4 θ4 ∧ (SMi G 1 mX9_grant 0 0 [.ref 1, .int (σ4 80 1)] n4 σ4 τ4 θ4 (fun a5 n5 σ5 τ5 θ5 => aw_WT n5 θ5 ∧ (q a5 n5 σ5 τ5 θ5)))))) ∧ ((a2 = 0) → (SMi G 1 mX9_refuse 0 0 [.ref 1, .int (2 : Int32)] n2 σ2 τ2 θ2 (fun a6 n6 σ6 τ6 θ6 => aw_WT n6 θ6 ∧ (q a6 n6 σ6 τ6 θ6)))))))) ∧ ((¬ a1 = 0) → (SMi G 1 mX9_refuse 0 0 [.ref 1, .int (1 : Int32)] n1 σ1 τ1 θ1 (fun a7 n7 σ7 τ7 θ7 => aw_WT n7 θ7 ∧ (q a7 n7 σ7 τ7 θ7))))))) : SW G k mX9_eaten (aw_qi q) 0 0 0 [some (.ref 1), some (.int x1), some (.int x2)] [] (n, σ, τ, θ) := by
  refine SW.aload_n dX9_eaten_0 rfl ?_
  refine SW.cvi0 kV_X9_134 (by omega) aw_cl9 kp_1 (by decide) (hW.le (by decide)) rfl (Nat.le_of_ble_eq_true rfl) dX9_eaten_1 (SMi.mono vc ?_)
  intro a1 n1 σ1 τ1 θ1 vc
  obtain ⟨hW, vc⟩ := vc
  refine SW.if_eq 13 dX9_eaten_4 (by decide) (fun hbr => ?_) (fun hbr => ?_)
  · replace vc := vc.1 hbr
    refine SW.aload_n dX9_eaten_13 rfl ?_
    refine SW.iload_n dX9_eaten_14 rfl ?_
    refine SW.iload_n dX9_eaten_15 rfl ?_
    refine SW.cvi2 kV_X9_280 (by omega) aw_cl9 kp_1 (by decide) (hW.le (by decide)) rfl (Nat.le_of_ble_eq_true rfl) dX9_eaten_16 (SMi.mono vc ?_)
    intro a2 n2 σ2 τ2 θ2 vc
    obtain ⟨hW, vc⟩ := vc
    refine SW.if_ne 28 dX9_eaten_19 (by decide) (fun hbr => ?_) (fun hbr => ?_)
    · replace vc := vc.1 hbr
      refine SW.aload_n dX9_eaten_28 rfl ?_
      refine SW.getS (f := 6) (r := 80) aw_cl9 kp_1 (by decide) (hW.le (by decide)) (by decide) ww_471 dX9_eaten_29 rfl hW.t1_6 ?_
      refine SW.aload_n dX9_eaten_32 rfl ?_
      have hF3 := hW.f
      refine SW.getS (f := 7) (r := (θ2 1 7)) aw_cl9 kp_1 (by decide) (hW.le (by decide)) (by decide) ww_472 dX9_eaten_33 rfl rfl ?_
      refine SW.aload_n dX9_eaten_36 rfl ?_
      refine SW.getS (f := 1) (r := 6) aw_cl9 kp_1 (by decide) (hW.le (by decide)) (by decide) ww_466 dX9_eaten_37 rfl hW.t1_1 ?_
      refine SW.iload_n dX9_eaten_40 rfl ?_
      refine SW.iload_n dX9_eaten_41 rfl ?_
      refine SW.cvv4 kV_X9_284 (by omega) aw_cl3 kp_80 (by decide) (hW.le (by decide)) rfl (Nat.le_of_ble_eq_true rfl) dX9_eaten_42 (SMv.mono vc ?_)
      intro n4 σ4 τ4 θ4 vc
      obtain ⟨hW, vc⟩ := vc
      refine SW.aload_n dX9_eaten_45 rfl ?_
      refine SW.aload_n dX9_eaten_46 rfl ?_
      refine SW.getS (f := 6) (r := 80) aw_cl9 kp_1 (by decide) (hW.le (by decide)) (by decide) ww_471 dX9_eaten_47 rfl hW.t1_6 ?_
      refine SW.getI (f := 1) aw_cl3 kp_80 (by decide) (hW.le (by decide)) (by decide) ww_314 dX9_eaten_50 rfl ?_
      refine SW.cvi1 kV_X9_100 (by omega) aw_cl9 kp_1 (by decide) (hW.le (by decide)) rfl (Nat.le_of_ble_eq_true rfl) dX9_eaten_53 (SMi.mono vc ?_)
      intro a5 n5 σ5 τ5 θ5 vc
      obtain ⟨hW, vc⟩ := vc
      exact SW.iret dX9_eaten_56 rfl rfl ⟨_, rfl, vc⟩
    · replace vc := vc.2 hbr
      refine SW.aload_n dX9_eaten_22 rfl ?_
      refine SW.iconst (v := (2 : Int32)) dX9_eaten_23 (by decide) ?_
      refine SW.cvi1 kV_X9_82 (by omega) aw_cl9 kp_1 (by decide) (hW.le (by decide)) rfl (Nat.le_of_ble_eq_true rfl) dX9_eaten_24 (SMi.mono vc ?_)
      intro a6 n6 σ6 τ6 θ6 vc
      obtain ⟨hW, vc⟩ := vc
      exact SW.iret dX9_eaten_27 rfl rfl ⟨_, rfl, vc⟩
  · replace vc := vc.2 hbr
    refine SW.aload_n dX9_eaten_7 rfl ?_
    refine SW.iconst (v := (1 : Int32)) dX9_eaten_8 (by decide) ?_
    refine SW.cvi1 kV_X9_82 (by omega) aw_cl9 kp_1 (by decide) (hW.le (by decide)) rfl (Nat.le_of_ble_eq_true rfl) dX9_eaten_9 (SMi.mono vc ?_)
    intro a7 n7 σ7 τ7 θ7 vc
    obtain ⟨hW, vc⟩ := vc
    exact SW.iret dX9_eaten_12 rfl rfl ⟨_, rfl, vc⟩
theorem ctX9_eaten {G : GG} {q : Int32 → Nat → SG → TU → TH → Prop} {n : Nat} {σ : SG} {τ : TU} {θ : TH} (x1 : Int32) (x2 : Int32) (h : SW G 5 mX9_eaten (aw_qi q) 0 0 0 [some (.ref 1), some (.int x1), some (.int x2)] [] (n, σ, τ, θ)) : SMi G 5 mX9_eaten 0 0 [.ref 1, .int x1, .int x2] n σ τ θ q := SM.of _ rfl rfl (Nat.le_of_ble_eq_true rfl) h
set_option maxHeartbeats 4000000 in
set_option maxRecDepth 20000 in
theorem sgX9_factOfDebt_0 {G : GG} {k : Nat} {q : Int32 → Nat → SG → TU → TH → Prop} {n : Nat} {σ : SG} {τ : TU} {θ : TH}  (x1 : Int32) (x2 : Int32) (hk : 3 ≤ k)  (hW : aw_WT n θ) (vc : ((x2.toInt < (0 : Int) ∨ (4 : Int) < x2.toInt) → (SMi G 2 mX1_tinesOf 0 0 [.ref (θ 1 7), .ref 6, .int x1, .int (σ 6 2)] n σ τ θ (fun a2 n2 σ2 τ2 θ2 => aw_WT n2 θ2 ∧ (q a2 n2 σ2 τ2 θ2)))) ∧ ((x2 = (0 : Int32)) → (vp_in x1 7 ∧ (q (σ ((θ 1 7) + 9) x1.toNatClampNeg) n σ τ θ))) ∧ ((x2 = (1 : Int32)) → (vp_in x1 7 ∧ (q (σ ((θ 1 7) + 10) x1.toNatClampNeg) n σ τ θ))) ∧ ((x2 = (2 : Int32)) → (vp_in x1 7 ∧ (q (σ 8 x1.toNatClampNeg) n σ τ θ))) ∧ ((x2 = (3 : Int32)) → (vp_in x1 7 ∧ (q (σ ((θ 1 7) + 12) x1.toNatClampNeg) n σ τ θ))) ∧ ((x2 = (4 : Int32)) → (SMi G 1 mX1_isDue 0 0 [.ref (θ 1 7), .ref 6, .int x1, .int (σ 6 2)] n σ τ θ (fun a7 n7 σ7 τ7 θ7 => aw_WT n7 θ7 ∧ (((a7 = 0) → (q (0 : Int32) n7 σ7 τ7 θ7)) ∧ ((¬ a7 = 0) → (q (1 : Int32) n7 σ7 τ7 θ7))))))) : SW G k mX9_factOfDebt (aw_qi q) 0 0 0 [some (.ref 1), some (.int x1), some (.int x2)] [] (n, σ, τ, θ) := by
  refine SW.iload_n dX9_factOfDebt_0 rfl ?_
  by_cases hsw : x2.toInt < (0 : Int) ∨ (4 : Int) < x2.toInt
  · replace vc := vc.1 hsw
    refine SW.tabOut 113 dX9_factOfDebt_1 hsw (by decide) ?_
    refine SW.aload_n dX9_factOfDebt_113 rfl ?_
    have hF1 := hW.f
    refine SW.getS (f := 7) (r := (θ 1 7)) aw_cl9 kp_1 (by decide) (hW.le (by decide)) (by decide) ww_472 dX9_factOfDebt_114 rfl rfl ?_
    refine SW.aload_n dX9_factOfDebt_117 rfl ?_
    refine SW.getS (f := 1) (r := 6) aw_cl9 kp_1 (by decide) (hW.le (by decide)) (by decide) ww_466 dX9_factOfDebt_118 rfl hW.t1_1 ?_
    refine SW.iload_n dX9_factOfDebt_121 rfl ?_
    refine SW.aload_n dX9_factOfDebt_122 rfl ?_
    refine SW.getS (f := 1) (r := 6) aw_cl9 kp_1 (by decide) (hW.le (by decide)) (by decide) ww_466 dX9_factOfDebt_123 rfl hW.t1_1 ?_
    refine SW.getI (f := 2) aw_cl2 kp_6 (by decide) (hW.le (by decide)) (by decide) ww_204 dX9_factOfDebt_126 rfl ?_
    refine SW.cvi3 kV_X9_366 (by omega) aw_cl1 (kpF_0 hF1) (leF_0 hF1).1 (hW.le (leF_0 hF1).2) rfl (Nat.le_of_ble_eq_true rfl) dX9_factOfDebt_129 (SMi.mono vc ?_)
    intro a2 n2 σ2 τ2 θ2 vc
    obtain ⟨hW, vc⟩ := vc
    exact SW.iret dX9_factOfDebt_132 rfl rfl ⟨_, rfl, vc⟩
  replace vc := vc.2
  have hsw2 := aw_sw_0_4 hsw
  rcases hsw2 with hsw2 | hsw2
  · replace vc := vc.1 hsw2
    refine SW.tabIn (off := 35) 36 dX9_factOfDebt_1 (aw_si1 hsw2 (by decide)) (aw_si2 hsw2 (by decide)) (aw_si3 hsw2 (by decide)) (by decide) ?_
    refine SW.aload_n dX9_factOfDebt_36 rfl ?_
    have hF3 := hW.f
    refine SW.getS (f := 7) (r := (θ 1 7)) aw_cl9 kp_1 (by decide) (hW.le (by decide)) (by decide) ww_472 dX9_factOfDebt_37 rfl rfl ?_
    refine SW.getS (f := 7) (r := (θ 1 7) + 8) aw_cl1 (kpF_0 hF3) (leF_0 hF3).1 (hW.le (leF_0 hF3).2) (by decide) ww_398 dX9_factOfDebt_40 rfl (hW.f7 hF3) ?_
    refine SW.getS (f := 0) (r := (θ 1 7) + 9) aw_cl0 (kpF_8 hF3) (leF_8 hF3).1 (hW.le (leF_8 hF3).2) (by decide) ww_338 dX9_factOfDebt_43 rfl (hW.f8_0 hF3) ?_
    refine SW.iload_n dX9_factOfDebt_46 rfl ?_
    refine SW.iald (kpF_9 hF3) (leF_9 hF3).1 (hW.le (leF_9 hF3).2) vc.1 dX9_factOfDebt_47 ?_
    replace vc := vc.2
    exact SW.iret dX9_factOfDebt_48 rfl rfl ⟨_, rfl, vc⟩
  replace vc := vc.2
  rcases hsw2 with hsw2 | hsw2
  · replace vc := vc.1 hsw2
    refine SW.tabIn (off := 48) 49 dX9_factOfDebt_1 (aw_si1 hsw2 (by decide)) (aw_si2 hsw2 (by decide)) (aw_si3 hsw2 (by decide)) (by decide) ?_
    refine SW.aload_n dX9_factOfDebt_49 rfl ?_
    have hF4 := hW.f
    refine SW.getS (f := 7) (r := (θ 1 7)) aw_cl9 kp_1 (by decide) (hW.le (by decide)) (by decide) ww_472 dX9_factOfDebt_50 rfl rfl ?_
    refine SW.getS (f := 7) (r := (θ 1 7) + 8) aw_cl1 (kpF_0 hF4) (leF_0 hF4).1 (hW.le (leF_0 hF4).2) (by decide) ww_398 dX9_factOfDebt_53 rfl (hW.f7 hF4) ?_
    refine SW.getS (f := 1) (r := (θ 1 7) + 10) aw_cl0 (kpF_8 hF4) (leF_8 hF4).1 (hW.le (leF_8 hF4).2) (by decide) ww_343 dX9_factOfDebt_56 rfl (hW.f8_1 hF4) ?_
    refine SW.iload_n dX9_factOfDebt_59 rfl ?_
    refine SW.iald (kpF_10 hF4) (leF_10 hF4).1 (hW.le (leF_10 hF4).2) vc.1 dX9_factOfDebt_60 ?_
    replace vc := vc.2
    exact SW.iret dX9_factOfDebt_61 rfl rfl ⟨_, rfl, vc⟩
  replace vc := vc.2
  rcases hsw2 with hsw2 | hsw2
  · replace vc := vc.1 hsw2
    refine SW.tabIn (off := 61) 62 dX9_factOfDebt_1 (aw_si1 hsw2 (by decide)) (aw_si2 hsw2 (by decide)) (aw_si3 hsw2 (by decide)) (by decide) ?_
    refine SW.aload_n dX9_factOfDebt_62 rfl ?_
    refine SW.getS (f := 1) (r := 6) aw_cl9 kp_1 (by decide) (hW.le (by decide)) (by decide) ww_466 dX9_factOfDebt_63 rfl hW.t1_1 ?_
    refine SW.getS (f := 1) (r := 8) aw_cl2 kp_6 (by decide) (hW.le (by decide)) (by decide) ww_199 dX9_factOfDebt_66 rfl hW.t6_1 ?_
    refine SW.iload_n dX9_factOfDebt_69 rfl ?_
    refine SW.iald kp_8 (by decide) (hW.le (by decide)) vc.1 dX9_factOfDebt_70 ?_
    replace vc := vc.2
    exact SW.iret dX9_factOfDebt_71 rfl rfl ⟨_, rfl, vc⟩
  replace vc := vc.2
  rcases hsw2 with hsw2 | hsw2
  · replace vc := vc.1 hsw2
    refine SW.tabIn (off := 71) 72 dX9_factOfDebt_1 (aw_si1 hsw2 (by decide)) (aw_si2 hsw2 (by decide)) (aw_si3 hsw2 (by decide)) (by decide) ?_
    refine SW.aload_n dX9_factOfDebt_72 rfl ?_
    have hF5 := hW.f
    refine SW.getS (f := 7) (r := (θ 1 7)) aw_cl9 kp_1 (by decide) (hW.le (by decide)) (by decide) ww_472 dX9_factOfDebt_73 rfl rfl ?_
    refine SW.getS (f := 7) (r := (θ 1 7) + 8) aw_cl1 (kpF_0 hF5) (leF_0 hF5).1 (hW.le (leF_0 hF5).2) (by decide) ww_398 dX9_factOfDebt_76 rfl (hW.f7 hF5) ?_
    refine SW.getS (f := 3) (r := (θ 1 7) + 12) aw_cl0 (kpF_8 hF5) (leF_8 hF5).1 (hW.le (leF_8 hF5).2) (by decide) ww_352 dX9_factOfDebt_79 rfl (hW.f8_3 hF5) ?_
    refine SW.iload_n dX9_factOfDebt_82 rfl ?_
    refine SW.iald (kpF_12 hF5) (leF_12 hF5).1 (hW.le (leF_12 hF5).2) vc.1 dX9_factOfDebt_83 ?_
    replace vc := vc.2
    exact SW.iret dX9_factOfDebt_84 rfl rfl ⟨_, rfl, vc⟩
  replace vc := vc.2
  replace vc := vc hsw2
  refine SW.tabIn (off := 84) 85 dX9_factOfDebt_1 (aw_si1 hsw2 (by decide)) (aw_si2 hsw2 (by decide)) (aw_si3 hsw2 (by decide)) (by decide) ?_
  refine SW.aload_n dX9_factOfDebt_85 rfl ?_
  have hF6 := hW.f
  refine SW.getS (f := 7) (r := (θ 1 7)) aw_cl9 kp_1 (by decide) (hW.le (by decide)) (by decide) ww_472 dX9_factOfDebt_86 rfl rfl ?_
  refine SW.aload_n dX9_factOfDebt_89 rfl ?_
  refine SW.getS (f := 1) (r := 6) aw_cl9 kp_1 (by decide) (hW.le (by decide)) (by decide) ww_466 dX9_factOfDebt_90 rfl hW.t1_1 ?_
  refine SW.iload_n dX9_factOfDebt_93 rfl ?_
  refine SW.aload_n dX9_factOfDebt_94 rfl ?_
  refine SW.getS (f := 1) (r := 6) aw_cl9 kp_1 (by decide) (hW.le (by decide)) (by decide) ww_466 dX9_factOfDebt_95 rfl hW.t1_1 ?_
  refine SW.getI (f := 2) aw_cl2 kp_6 (by decide) (hW.le (by decide)) (by decide) ww_204 dX9_factOfDebt_98 rfl ?_
  refine SW.cvi3 kV_X9_176 (by omega) aw_cl1 (kpF_0 hF6) (leF_0 hF6).1 (hW.le (leF_0 hF6).2) rfl (Nat.le_of_ble_eq_true rfl) dX9_factOfDebt_101 (SMi.mono vc ?_)
  intro a7 n7 σ7 τ7 θ7 vc
  obtain ⟨hW, vc⟩ := vc
  refine SW.if_eq 111 dX9_factOfDebt_104 (by decide) (fun hbr => ?_) (fun hbr => ?_)
  · replace vc := vc.1 hbr
    refine SW.iconst (v := (0 : Int32)) dX9_factOfDebt_111 (by decide) ?_
    exact SW.iret dX9_factOfDebt_112 rfl rfl ⟨_, rfl, vc⟩
  · replace vc := vc.2 hbr
    refine SW.iconst (v := (1 : Int32)) dX9_factOfDebt_107 (by decide) ?_
    refine SW.goto 112 dX9_factOfDebt_108 (by decide) ?_
    exact SW.iret dX9_factOfDebt_112 rfl rfl ⟨_, rfl, vc⟩
theorem ctX9_factOfDebt {G : GG} {q : Int32 → Nat → SG → TU → TH → Prop} {n : Nat} {σ : SG} {τ : TU} {θ : TH} (x1 : Int32) (x2 : Int32) (h : SW G 3 mX9_factOfDebt (aw_qi q) 0 0 0 [some (.ref 1), some (.int x1), some (.int x2)] [] (n, σ, τ, θ)) : SMi G 3 mX9_factOfDebt 0 0 [.ref 1, .int x1, .int x2] n σ τ θ q := SM.of _ rfl rfl (Nat.le_of_ble_eq_true rfl) h
set_option maxHeartbeats 4000000 in
set_option maxRecDepth 20000 in
theorem sgX9_factOfMan_0 {G : GG} {k : Nat} {q : Int32 → Nat → SG → TU → TH → Prop} {n : Nat} {σ : SG} {τ : TU} {θ : TH}  (x1 : Int32) (x2 : Int32) (hk : 5 ≤ k)  (hW : aw_WT n θ) (vc : ((x2.toInt < (0 : Int) ∨ (6 : Int) < x2.toInt) → (SMi G 2 mX1_owedBits 0 0 [.ref (θ 1 7), .ref 6, .int x1] n σ τ θ (fun a2 n2 σ2 τ2 θ2 => aw_WT n2 θ2 ∧ (q a2 n2 σ2 τ2 θ2)))) ∧ ((x2 = (0 : Int32)) → (vp_in x1 5 ∧ (q (σ ((θ 1 7) + 1) x1.toNatClampNeg) n σ τ θ))) ∧ ((x2 = (1 : Int32)) → (vp_in x1 5 ∧ (q (σ 7 x1.toNatClampNeg) n σ τ θ))) ∧ ((x2 = (2 : Int32)) → (vp_in x1 5 ∧ (q (σ ((θ 1 7) + 3) x1.toNatClampNeg) n σ τ θ))) ∧ ((x2 = (3 : Int32)) → (SMi G 4 mX9_headNow 0 0 [.ref 1, .int x1] n σ τ θ (fun a5 n5 σ5 τ5 θ5 => aw_WT n5 θ5 ∧ (q a5 n5 σ5 τ5 θ5)))) ∧ ((x2 = (4 : Int32)) → (SMi G 2 mX1_burdenOf 0 0 [.ref (θ 1 7), .ref 6, .int x1, .int (σ 6 2)] n σ τ θ (fun a7 n7 σ7 τ7 θ7 => aw_WT n7 θ7 ∧ (q a7 n7 σ7 τ7 θ7)))) ∧ ((x2 = (5 : Int32)) → (SMi G 2 mX1_dueFrom 0 0 [.ref (θ 1 7), .ref 6, .int x1] n σ τ θ (fun a9 n9 σ9 τ9 θ9 => aw_WT n9 θ9 ∧ (q a9 n9 σ9 τ9 θ9)))) ∧ ((x2 = (6 : Int32)) → (SMi G 2 mX1_dueTo 0 0 [.ref (θ 1 7), .ref 6, .int x1] n σ τ θ (fun a11 n11 σ11 τ11 θ11 => aw_WT n11 θ11 ∧ (q a11 n11 σ11 τ11 θ11))))) : SW G k mX9_factOfMan (aw_qi q) 0 0 0 [some (.ref 1), some (.int x1), some (.int x2)] [] (n, σ, τ, θ) := by
  refine SW.iload_n dX9_factOfMan_0 rfl ?_
  by_cases hsw : x2.toInt < (0 : Int) ∨ (6 : Int) < x2.toInt
  · replace vc := vc.1 hsw
    refine SW.tabOut 126 dX9_factOfMan_1 hsw (by decide) ?_
    refine SW.aload_n dX9_factOfMan_126 rfl ?_
    have hF1 := hW.f
    refine SW.getS (f := 7) (r := (θ 1 7)) aw_cl9 kp_1 (by decide) (hW.le (by decide)) (by decide) ww_472 dX9_factOfMan_127 rfl rfl ?_
    refine SW.aload_n dX9_factOfMan_130 rfl ?_
    refine SW.getS (f := 1) (r := 6) aw_cl9 kp_1 (by decide) (hW.le (by decide)) (by decide) ww_466 dX9_factOfMan_131 rfl hW.t1_1 ?_
    refine SW.iload_n dX9_factOfMan_134 rfl ?_
    refine SW.cvi2 kV_X9_208 (by omega) aw_cl1 (kpF_0 hF1) (leF_0 hF1).1 (hW.le (leF_0 hF1).2) rfl (Nat.le_of_ble_eq_true rfl) dX9_factOfMan_135 (SMi.mono vc ?_)
    intro a2 n2 σ2 τ2 θ2 vc
    obtain ⟨hW, vc⟩ := vc
    exact SW.iret dX9_factOfMan_138 rfl rfl ⟨_, rfl, vc⟩
  replace vc := vc.2
  have hsw2 := aw_sw_0_6 hsw
  rcases hsw2 with hsw2 | hsw2
  · replace vc := vc.1 hsw2
    refine SW.tabIn (off := 43) 44 dX9_factOfMan_1 (aw_si1 hsw2 (by decide)) (aw_si2 hsw2 (by decide)) (aw_si3 hsw2 (by decide)) (by decide) ?_
    refine SW.aload_n dX9_factOfMan_44 rfl ?_
    have hF3 := hW.f
    refine SW.getS (f := 7) (r := (θ 1 7)) aw_cl9 kp_1 (by decide) (hW.le (by decide)) (by decide) ww_472 dX9_factOfMan_45 rfl rfl ?_
    refine SW.getS (f := 0) (r := (θ 1 7) + 1) aw_cl1 (kpF_0 hF3) (leF_0 hF3).1 (hW.le (leF_0 hF3).2) (by decide) ww_374 dX9_factOfMan_48 rfl (hW.f0 hF3) ?_
    refine SW.iload_n dX9_factOfMan_51 rfl ?_
    refine SW.iald (kpF_1 hF3) (leF_1 hF3).1 (hW.le (leF_1 hF3).2) vc.1 dX9_factOfMan_52 ?_
    replace vc := vc.2
    exact SW.iret dX9_factOfMan_53 rfl rfl ⟨_, rfl, vc⟩
  replace vc := vc.2
  rcases hsw2 with hsw2 | hsw2
  · replace vc := vc.1 hsw2
    refine SW.tabIn (off := 53) 54 dX9_factOfMan_1 (aw_si1 hsw2 (by decide)) (aw_si2 hsw2 (by decide)) (aw_si3 hsw2 (by decide)) (by decide) ?_
    refine SW.aload_n dX9_factOfMan_54 rfl ?_
    refine SW.getS (f := 1) (r := 6) aw_cl9 kp_1 (by decide) (hW.le (by decide)) (by decide) ww_466 dX9_factOfMan_55 rfl hW.t1_1 ?_
    refine SW.getS (f := 0) (r := 7) aw_cl2 kp_6 (by decide) (hW.le (by decide)) (by decide) ww_194 dX9_factOfMan_58 rfl hW.t6_0 ?_
    refine SW.iload_n dX9_factOfMan_61 rfl ?_
    refine SW.iald kp_7 (by decide) (hW.le (by decide)) vc.1 dX9_factOfMan_62 ?_
    replace vc := vc.2
    exact SW.iret dX9_factOfMan_63 rfl rfl ⟨_, rfl, vc⟩
  replace vc := vc.2
  rcases hsw2 with hsw2 | hsw2
  · replace vc := vc.1 hsw2
    refine SW.tabIn (off := 63) 64 dX9_factOfMan_1 (aw_si1 hsw2 (by decide)) (aw_si2 hsw2 (by decide)) (aw_si3 hsw2 (by decide)) (by decide) ?_
    refine SW.aload_n dX9_factOfMan_64 rfl ?_
    have hF4 := hW.f
    refine SW.getS (f := 7) (r := (θ 1 7)) aw_cl9 kp_1 (by decide) (hW.le (by decide)) (by decide) ww_472 dX9_factOfMan_65 rfl rfl ?_
    refine SW.getS (f := 2) (r := (θ 1 7) + 3) aw_cl1 (kpF_0 hF4) (leF_0 hF4).1 (hW.le (leF_0 hF4).2) (by decide) ww_380 dX9_factOfMan_68 rfl (hW.f2 hF4) ?_
    refine SW.iload_n dX9_factOfMan_71 rfl ?_
    refine SW.iald (kpF_3 hF4) (leF_3 hF4).1 (hW.le (leF_3 hF4).2) vc.1 dX9_factOfMan_72 ?_
    replace vc := vc.2
    exact SW.iret dX9_factOfMan_73 rfl rfl ⟨_, rfl, vc⟩
  replace vc := vc.2
  rcases hsw2 with hsw2 | hsw2
  · replace vc := vc.1 hsw2
    refine SW.tabIn (off := 73) 74 dX9_factOfMan_1 (aw_si1 hsw2 (by decide)) (aw_si2 hsw2 (by decide)) (aw_si3 hsw2 (by decide)) (by decide) ?_
    refine SW.aload_n dX9_factOfMan_74 rfl ?_
    refine SW.iload_n dX9_factOfMan_75 rfl ?_
    refine SW.cvi1 kV_X9_144 (by omega) aw_cl9 kp_1 (by decide) (hW.le (by decide)) rfl (Nat.le_of_ble_eq_true rfl) dX9_factOfMan_76 (SMi.mono vc ?_)
    intro a5 n5 σ5 τ5 θ5 vc
    obtain ⟨hW, vc⟩ := vc
    exact SW.iret dX9_factOfMan_79 rfl rfl ⟨_, rfl, vc⟩
  replace vc := vc.2
  rcases hsw2 with hsw2 | hsw2
  · replace vc := vc.1 hsw2
    refine SW.tabIn (off := 79) 80 dX9_factOfMan_1 (aw_si1 hsw2 (by decide)) (aw_si2 hsw2 (by decide)) (aw_si3 hsw2 (by decide)) (by decide) ?_
    refine SW.aload_n dX9_factOfMan_80 rfl ?_
    have hF6 := hW.f
    refine SW.getS (f := 7) (r := (θ 1 7)) aw_cl9 kp_1 (by decide) (hW.le (by decide)) (by decide) ww_472 dX9_factOfMan_81 rfl rfl ?_
    refine SW.aload_n dX9_factOfMan_84 rfl ?_
    refine SW.getS (f := 1) (r := 6) aw_cl9 kp_1 (by decide) (hW.le (by decide)) (by decide) ww_466 dX9_factOfMan_85 rfl hW.t1_1 ?_
    refine SW.iload_n dX9_factOfMan_88 rfl ?_
    refine SW.aload_n dX9_factOfMan_89 rfl ?_
    refine SW.getS (f := 1) (r := 6) aw_cl9 kp_1 (by decide) (hW.le (by decide)) (by decide) ww_466 dX9_factOfMan_90 rfl hW.t1_1 ?_
    refine SW.getI (f := 2) aw_cl2 kp_6 (by decide) (hW.le (by decide)) (by decide) ww_204 dX9_factOfMan_93 rfl ?_
    refine SW.cvi3 kV_X9_358 (by omega) aw_cl1 (kpF_0 hF6) (leF_0 hF6).1 (hW.le (leF_0 hF6).2) rfl (Nat.le_of_ble_eq_true rfl) dX9_factOfMan_96 (SMi.mono vc ?_)
    intro a7 n7 σ7 τ7 θ7 vc
    obtain ⟨hW, vc⟩ := vc
    exact SW.iret dX9_factOfMan_99 rfl rfl ⟨_, rfl, vc⟩
  replace vc := vc.2
  rcases hsw2 with hsw2 | hsw2
  · replace vc := vc.1 hsw2
    refine SW.tabIn (off := 99) 100 dX9_factOfMan_1 (aw_si1 hsw2 (by decide)) (aw_si2 hsw2 (by decide)) (aw_si3 hsw2 (by decide)) (by decide) ?_
    refine SW.aload_n dX9_factOfMan_100 rfl ?_
    have hF8 := hW.f
    refine SW.getS (f := 7) (r := (θ 1 7)) aw_cl9 kp_1 (by decide) (hW.le (by decide)) (by decide) ww_472 dX9_factOfMan_101 rfl rfl ?_
    refine SW.aload_n dX9_factOfMan_104 rfl ?_
    refine SW.getS (f := 1) (r := 6) aw_cl9 kp_1 (by decide) (hW.le (by decide)) (by decide) ww_466 dX9_factOfMan_105 rfl hW.t1_1 ?_
    refine SW.iload_n dX9_factOfMan_108 rfl ?_
    refine SW.cvi2 kV_X9_308 (by omega) aw_cl1 (kpF_0 hF8) (leF_0 hF8).1 (hW.le (leF_0 hF8).2) rfl (Nat.le_of_ble_eq_true rfl) dX9_factOfMan_109 (SMi.mono vc ?_)
    intro a9 n9 σ9 τ9 θ9 vc
    obtain ⟨hW, vc⟩ := vc
    exact SW.iret dX9_factOfMan_112 rfl rfl ⟨_, rfl, vc⟩
  replace vc := vc.2
  replace vc := vc hsw2
  refine SW.tabIn (off := 112) 113 dX9_factOfMan_1 (aw_si1 hsw2 (by decide)) (aw_si2 hsw2 (by decide)) (aw_si3 hsw2 (by decide)) (by decide) ?_
  refine SW.aload_n dX9_factOfMan_113 rfl ?_
  have hF10 := hW.f
  refine SW.getS (f := 7) (r := (θ 1 7)) aw_cl9 kp_1 (by decide) (hW.le (by decide)) (by decide) ww_472 dX9_factOfMan_114 rfl rfl ?_
  refine SW.aload_n dX9_factOfMan_117 rfl ?_
  refine SW.getS (f := 1) (r := 6) aw_cl9 kp_1 (by decide) (hW.le (by decide)) (by decide) ww_466 dX9_factOfMan_118 rfl hW.t1_1 ?_
  refine SW.iload_n dX9_factOfMan_121 rfl ?_
  refine SW.cvi2 kV_X9_361 (by omega) aw_cl1 (kpF_0 hF10) (leF_0 hF10).1 (hW.le (leF_0 hF10).2) rfl (Nat.le_of_ble_eq_true rfl) dX9_factOfMan_122 (SMi.mono vc ?_)
  intro a11 n11 σ11 τ11 θ11 vc
  obtain ⟨hW, vc⟩ := vc
  exact SW.iret dX9_factOfMan_125 rfl rfl ⟨_, rfl, vc⟩
theorem ctX9_factOfMan {G : GG} {q : Int32 → Nat → SG → TU → TH → Prop} {n : Nat} {σ : SG} {τ : TU} {θ : TH} (x1 : Int32) (x2 : Int32) (h : SW G 5 mX9_factOfMan (aw_qi q) 0 0 0 [some (.ref 1), some (.int x1), some (.int x2)] [] (n, σ, τ, θ)) : SMi G 5 mX9_factOfMan 0 0 [.ref 1, .int x1, .int x2] n σ τ θ q := SM.of _ rfl rfl (Nat.le_of_ble_eq_true rfl) h
set_option maxHeartbeats 4000000 in
set_option maxRecDepth 20000 in
theorem sgX9_fault_0 {G : GG} {k : Nat} {q : Int32 → Nat → SG → TU → TH → Prop} {n : Nat} {σ : SG} {τ : TU} {θ : TH}   (hk : 1 ≤ k)  (hW : aw_WT n θ) (vc : q (σ 1 9) n σ τ θ) : SW G k mX9_fault (aw_qi q) 0 0 0 [some (.ref 1)] [] (n, σ, τ, θ) := by
  refine SW.aload_n dX9_fault_0 rfl ?_
  refine SW.getI (f := 9) aw_cl9 kp_1 (by decide) (hW.le (by decide)) (by decide) ww_474 dX9_fault_1 rfl ?_
  exact SW.iret dX9_fault_4 rfl rfl ⟨_, rfl, vc⟩
theorem ctX9_fault {G : GG} {q : Int32 → Nat → SG → TU → TH → Prop} {n : Nat} {σ : SG} {τ : TU} {θ : TH}  (h : SW G 1 mX9_fault (aw_qi q) 0 0 0 [some (.ref 1)] [] (n, σ, τ, θ)) : SMi G 1 mX9_fault 0 0 [.ref 1] n σ τ θ q := SM.of _ rfl rfl (Nat.le_of_ble_eq_true rfl) h
set_option maxHeartbeats 4000000 in
set_option maxRecDepth 20000 in
theorem sgX9_feed_0 {G : GG} {k : Nat} {q : Int32 → Nat → SG → TU → TH → Prop} {n : Nat} {σ : SG} {τ : TU} {θ : TH}  (x1 : Int32) (x2 : Int32) (x3 : Int32) (x4 : Int32) (x5 : Int32) (hk : 2 ≤ k)  (hW : aw_WT n θ) (vc : ((((σ 2 0) + (20 : Int32)) ≤ (900 : Int32)) → (SMv G 1 mX8_append 0 0 [.ref 2, .int x1] n σ τ θ (fun n1 σ1 τ1 θ1 => aw_WT n1 θ1 ∧ (SMv G 1 mX8_append 0 0 [.ref 2, .int x2] n1 σ1 τ1 θ1 (fun n2 σ2 τ2 θ2 => aw_WT n2 θ2 ∧ (SMv G 1 mX8_append 0 0 [.ref 2, .int x3] n2 σ2 τ2 θ2 (fun n3 σ3 τ3 θ3 => aw_WT n3 θ3 ∧ (SMv G 1 mX8_append 0 0 [.ref 2, .int x4] n3 σ3 τ3 θ3 (fun n4 σ4 τ4 θ4 => aw_WT n4 θ4 ∧ (SMv G 1 mX8_append 0 0 [.ref 2, .int x5] n4 σ4 τ4 θ4 (fun n5 σ5 τ5 θ5 => aw_WT n5 θ5 ∧ (q (σ5 2 0) n5 σ5 τ5 θ5)))))))))))) ∧ ((¬ ((σ 2 0) + (20 : Int32)) ≤ (900 : Int32)) → (q (-1 : Int32) n σ τ θ))) : SW G k mX9_feed (aw_qi q) 0 0 0 [some (.ref 1), some (.int x1), some (.int x2), some (.int x3), some (.int x4), some (.int x5)] [] (n, σ, τ, θ) := by
  refine SW.aload_n dX9_feed_0 rfl ?_
  refine SW.getS (f := 0) (r := 2) aw_cl9 kp_1 (by decide) (hW.le (by decide)) (by decide) ww_465 dX9_feed_1 rfl hW.t1_0 ?_
  refine SW.getI (f := 0) aw_cl8 kp_2 (by decide) (hW.le (by decide)) (by decide) ww_146 dX9_feed_4 rfl ?_
  refine SW.bipush (v := (20 : Int32)) dX9_feed_7 (by decide) ?_
  refine SW.iadd dX9_feed_9 ?_
  refine SW.sipush (v := (900 : Int32)) dX9_feed_10 (by decide) ?_
  refine SW.icmp_le 18 dX9_feed_13 (by decide) (fun hbr => ?_) (fun hbr => ?_)
  · replace vc := vc.1 hbr
    refine SW.aload_n dX9_feed_18 rfl ?_
    refine SW.getS (f := 0) (r := 2) aw_cl9 kp_1 (by decide) (hW.le (by decide)) (by decide) ww_465 dX9_feed_19 rfl hW.t1_0 ?_
    refine SW.iload_n dX9_feed_22 rfl ?_
    refine SW.cvv1 kV_X9_78 (by omega) aw_cl8 kp_2 (by decide) (hW.le (by decide)) rfl (Nat.le_of_ble_eq_true rfl) dX9_feed_23 (SMv.mono vc ?_)
    intro n1 σ1 τ1 θ1 vc
    obtain ⟨hW, vc⟩ := vc
    refine SW.aload_n dX9_feed_26 rfl ?_
    refine SW.getS (f := 0) (r := 2) aw_cl9 kp_1 (by decide) (hW.le (by decide)) (by decide) ww_465 dX9_feed_27 rfl hW.t1_0 ?_
    refine SW.iload_n dX9_feed_30 rfl ?_
    refine SW.cvv1 kV_X9_78 (by omega) aw_cl8 kp_2 (by decide) (hW.le (by decide)) rfl (Nat.le_of_ble_eq_true rfl) dX9_feed_31 (SMv.mono vc ?_)
    intro n2 σ2 τ2 θ2 vc
    obtain ⟨hW, vc⟩ := vc
    refine SW.aload_n dX9_feed_34 rfl ?_
    refine SW.getS (f := 0) (r := 2) aw_cl9 kp_1 (by decide) (hW.le (by decide)) (by decide) ww_465 dX9_feed_35 rfl hW.t1_0 ?_
    refine SW.iload_n dX9_feed_38 rfl ?_
    refine SW.cvv1 kV_X9_78 (by omega) aw_cl8 kp_2 (by decide) (hW.le (by decide)) rfl (Nat.le_of_ble_eq_true rfl) dX9_feed_39 (SMv.mono vc ?_)
    intro n3 σ3 τ3 θ3 vc
    obtain ⟨hW, vc⟩ := vc
    refine SW.aload_n dX9_feed_42 rfl ?_
    refine SW.getS (f := 0) (r := 2) aw_cl9 kp_1 (by decide) (hW.le (by decide)) (by decide) ww_465 dX9_feed_43 rfl hW.t1_0 ?_
    refine SW.iload dX9_feed_46 rfl ?_
    refine SW.cvv1 kV_X9_78 (by omega) aw_cl8 kp_2 (by decide) (hW.le (by decide)) rfl (Nat.le_of_ble_eq_true rfl) dX9_feed_48 (SMv.mono vc ?_)
    intro n4 σ4 τ4 θ4 vc
    obtain ⟨hW, vc⟩ := vc
    refine SW.aload_n dX9_feed_51 rfl ?_
    refine SW.getS (f := 0) (r := 2) aw_cl9 kp_1 (by decide) (hW.le (by decide)) (by decide) ww_465 dX9_feed_52 rfl hW.t1_0 ?_
    refine SW.iload dX9_feed_55 rfl ?_
    refine SW.cvv1 kV_X9_78 (by omega) aw_cl8 kp_2 (by decide) (hW.le (by decide)) rfl (Nat.le_of_ble_eq_true rfl) dX9_feed_57 (SMv.mono vc ?_)
    intro n5 σ5 τ5 θ5 vc
    obtain ⟨hW, vc⟩ := vc
    refine SW.aload_n dX9_feed_60 rfl ?_
    refine SW.getS (f := 0) (r := 2) aw_cl9 kp_1 (by decide) (hW.le (by decide)) (by decide) ww_465 dX9_feed_61 rfl hW.t1_0 ?_
    refine SW.getI (f := 0) aw_cl8 kp_2 (by decide) (hW.le (by decide)) (by decide) ww_146 dX9_feed_64 rfl ?_
    exact SW.iret dX9_feed_67 rfl rfl ⟨_, rfl, vc⟩
  · replace vc := vc.2 hbr
    refine SW.iconst (v := (-1 : Int32)) dX9_feed_16 (by decide) ?_
    exact SW.iret dX9_feed_17 rfl rfl ⟨_, rfl, vc⟩
theorem ctX9_feed {G : GG} {q : Int32 → Nat → SG → TU → TH → Prop} {n : Nat} {σ : SG} {τ : TU} {θ : TH} (x1 : Int32) (x2 : Int32) (x3 : Int32) (x4 : Int32) (x5 : Int32) (h : SW G 2 mX9_feed (aw_qi q) 0 0 0 [some (.ref 1), some (.int x1), some (.int x2), some (.int x3), some (.int x4), some (.int x5)] [] (n, σ, τ, θ)) : SMi G 2 mX9_feed 0 0 [.ref 1, .int x1, .int x2, .int x3, .int x4, .int x5] n σ τ θ q := SM.of _ rfl rfl (Nat.le_of_ble_eq_true rfl) h
set_option maxHeartbeats 4000000 in
set_option maxRecDepth 20000 in
theorem sgX9_fitAt_0 {G : GG} {k : Nat} {q : Int32 → Nat → SG → TU → TH → Prop} {n : Nat} {σ : SG} {τ : TU} {θ : TH}  (x1 : Int32) (hk : 5 ≤ k)  (hW : aw_WT n θ) (vc : SMi G 1 mX9_noDuchy 0 0 [.ref 1] n σ τ θ (fun a1 n1 σ1 τ1 θ1 => aw_WT n1 θ1 ∧ (((¬ a1 = 0) → (SMi G 1 mX9_refuse 0 0 [.ref 1, .int (1 : Int32)] n1 σ1 τ1 θ1 (fun a2 n2 σ2 τ2 θ2 => aw_WT n2 θ2 ∧ (q a2 n2 σ2 τ2 θ2)))) ∧ ((a1 = 0) → (((0 ≤ x1) → (SMv G 4 mX4_weigh 0 0 [.ref 77, .ref (θ1 1 7), .ref 6] n1 σ1 τ1 θ1 (fun n4 σ4 τ4 θ4 => aw_WT n4 θ4 ∧ (SMi G 1 mX4_fitNumber 0 0 [.ref 77, .int x1] n4 σ4 τ4 θ4 (fun a5 n5 σ5 τ5 θ5 => aw_WT n5 θ5 ∧ (((¬ a5 = (-1 : Int32)) → (SMi G 1 mX9_grant 0 0 [.ref 1, .int a5] n5 σ5 τ5 θ5 (fun a6 n6 σ6 τ6 θ6 => aw_WT n6 θ6 ∧ (q a6 n6 σ6 τ6 θ6)))) ∧ ((a5 = (-1 : Int32)) → (SMi G 1 mX9_refuse 0 0 [.ref 1, .int (1 : Int32)] n5 σ5 τ5 θ5 (fun a7 n7 σ7 τ7 θ7 => aw_WT n7 θ7 ∧ (q a7 n7 σ7 τ7 θ7)))))))))) ∧ ((¬ 0 ≤ x1) → (SMi G 1 mX9_refuse 0 0 [.ref 1, .int (1 : Int32)] n1 σ1 τ1 θ1 (fun a8 n8 σ8 τ8 θ8 => aw_WT n8 θ8 ∧ (q a8 n8 σ8 τ8 θ8))))))))) : SW G k mX9_fitAt (aw_qi q) 0 0 0 [some (.ref 1), some (.int x1), none] [] (n, σ, τ, θ) := by
  refine SW.aload_n dX9_fitAt_0 rfl ?_
  refine SW.cvi0 kV_X9_134 (by omega) aw_cl9 kp_1 (by decide) (hW.le (by decide)) rfl (Nat.le_of_ble_eq_true rfl) dX9_fitAt_1 (SMi.mono vc ?_)
  intro a1 n1 σ1 τ1 θ1 vc
  obtain ⟨hW, vc⟩ := vc
  refine SW.if_ne 11 dX9_fitAt_4 (by decide) (fun hbr => ?_) (fun hbr => ?_)
  · replace vc := vc.1 hbr
    refine SW.aload_n dX9_fitAt_11 rfl ?_
    refine SW.iconst (v := (1 : Int32)) dX9_fitAt_12 (by decide) ?_
    refine SW.cvi1 kV_X9_82 (by omega) aw_cl9 kp_1 (by decide) (hW.le (by decide)) rfl (Nat.le_of_ble_eq_true rfl) dX9_fitAt_13 (SMi.mono vc ?_)
    intro a2 n2 σ2 τ2 θ2 vc
    obtain ⟨hW, vc⟩ := vc
    exact SW.iret dX9_fitAt_16 rfl rfl ⟨_, rfl, vc⟩
  · replace vc := vc.2 hbr
    refine SW.iload_n dX9_fitAt_7 rfl ?_
    refine SW.if_ge 17 dX9_fitAt_8 (by decide) (fun hbr => ?_) (fun hbr => ?_)
    · replace vc := vc.1 hbr
      refine SW.aload_n dX9_fitAt_17 rfl ?_
      refine SW.getS (f := 5) (r := 77) aw_cl9 kp_1 (by decide) (hW.le (by decide)) (by decide) ww_470 dX9_fitAt_18 rfl hW.t1_5 ?_
      refine SW.aload_n dX9_fitAt_21 rfl ?_
      have hF3 := hW.f
      refine SW.getS (f := 7) (r := (θ1 1 7)) aw_cl9 kp_1 (by decide) (hW.le (by decide)) (by decide) ww_472 dX9_fitAt_22 rfl rfl ?_
      refine SW.aload_n dX9_fitAt_25 rfl ?_
      refine SW.getS (f := 1) (r := 6) aw_cl9 kp_1 (by decide) (hW.le (by decide)) (by decide) ww_466 dX9_fitAt_26 rfl hW.t1_1 ?_
      refine SW.cvv2 kV_X9_211 (by omega) aw_cl4 kp_77 (by decide) (hW.le (by decide)) rfl (Nat.le_of_ble_eq_true rfl) dX9_fitAt_29 (SMv.mono vc ?_)
      intro n4 σ4 τ4 θ4 vc
      obtain ⟨hW, vc⟩ := vc
      refine SW.aload_n dX9_fitAt_32 rfl ?_
      refine SW.getS (f := 5) (r := 77) aw_cl9 kp_1 (by decide) (hW.le (by decide)) (by decide) ww_470 dX9_fitAt_33 rfl hW.t1_5 ?_
      refine SW.iload_n dX9_fitAt_36 rfl ?_
      refine SW.cvi1 kV_X9_218 (by omega) aw_cl4 kp_77 (by decide) (hW.le (by decide)) rfl (Nat.le_of_ble_eq_true rfl) dX9_fitAt_37 (SMi.mono vc ?_)
      intro a5 n5 σ5 τ5 θ5 vc
      obtain ⟨hW, vc⟩ := vc
      refine SW.istore_n dX9_fitAt_40 (by decide) rfl rfl ?_
      refine SW.iload_n dX9_fitAt_41 rfl ?_
      refine SW.iconst (v := (-1 : Int32)) dX9_fitAt_42 (by decide) ?_
      refine SW.icmp_ne 54 dX9_fitAt_43 (by decide) (fun hbr => ?_) (fun hbr => ?_)
      · replace vc := vc.1 hbr
        refine SW.aload_n dX9_fitAt_54 rfl ?_
        refine SW.iload_n dX9_fitAt_55 rfl ?_
        refine SW.cvi1 kV_X9_100 (by omega) aw_cl9 kp_1 (by decide) (hW.le (by decide)) rfl (Nat.le_of_ble_eq_true rfl) dX9_fitAt_56 (SMi.mono vc ?_)
        intro a6 n6 σ6 τ6 θ6 vc
        obtain ⟨hW, vc⟩ := vc
        exact SW.iret dX9_fitAt_59 rfl rfl ⟨_, rfl, vc⟩
      · replace vc := vc.2 hbr
        refine SW.aload_n dX9_fitAt_46 rfl ?_
        refine SW.iconst (v := (1 : Int32)) dX9_fitAt_47 (by decide) ?_
        refine SW.cvi1 kV_X9_82 (by omega) aw_cl9 kp_1 (by decide) (hW.le (by decide)) rfl (Nat.le_of_ble_eq_true rfl) dX9_fitAt_48 (SMi.mono vc ?_)
        intro a7 n7 σ7 τ7 θ7 vc
        obtain ⟨hW, vc⟩ := vc
        refine SW.goto 59 dX9_fitAt_51 (by decide) ?_
        exact SW.iret dX9_fitAt_59 rfl rfl ⟨_, rfl, vc⟩
    · replace vc := vc.2 hbr
      refine SW.aload_n dX9_fitAt_11 rfl ?_
      refine SW.iconst (v := (1 : Int32)) dX9_fitAt_12 (by decide) ?_
      refine SW.cvi1 kV_X9_82 (by omega) aw_cl9 kp_1 (by decide) (hW.le (by decide)) rfl (Nat.le_of_ble_eq_true rfl) dX9_fitAt_13 (SMi.mono vc ?_)
      intro a8 n8 σ8 τ8 θ8 vc
      obtain ⟨hW, vc⟩ := vc
      exact SW.iret dX9_fitAt_16 rfl rfl ⟨_, rfl, vc⟩
theorem ctX9_fitAt {G : GG} {q : Int32 → Nat → SG → TU → TH → Prop} {n : Nat} {σ : SG} {τ : TU} {θ : TH} (x1 : Int32) (h : SW G 5 mX9_fitAt (aw_qi q) 0 0 0 [some (.ref 1), some (.int x1), none] [] (n, σ, τ, θ)) : SMi G 5 mX9_fitAt 0 0 [.ref 1, .int x1] n σ τ θ q := SM.of _ rfl rfl (Nat.le_of_ble_eq_true rfl) h
set_option maxHeartbeats 4000000 in
set_option maxRecDepth 20000 in
theorem sgX9_fits_0 {G : GG} {k : Nat} {q : Int32 → Nat → SG → TU → TH → Prop} {n : Nat} {σ : SG} {τ : TU} {θ : TH}   (hk : 5 ≤ k)  (hW : aw_WT n θ) (vc : SMi G 1 mX9_noDuchy 0 0 [.ref 1] n σ τ θ (fun a1 n1 σ1 τ1 θ1 => aw_WT n1 θ1 ∧ (((a1 = 0) → (SMv G 4 mX4_weigh 0 0 [.ref 77, .ref (θ1 1 7), .ref 6] n1 σ1 τ1 θ1 (fun n3 σ3 τ3 θ3 => aw_WT n3 θ3 ∧ (SMi G 1 mX9_grant 0 0 [.ref 1, .int (σ3 77 0)] n3 σ3 τ3 θ3 (fun a4 n4 σ4 τ4 θ4 => aw_WT n4 θ4 ∧ (q a4 n4 σ4 τ4 θ4)))))) ∧ ((¬ a1 = 0) → (SMi G 1 mX9_refuse 0 0 [.ref 1, .int (1 : Int32)] n1 σ1 τ1 θ1 (fun a5 n5 σ5 τ5 θ5 => aw_WT n5 θ5 ∧ (q a5 n5 σ5 τ5 θ5))))))) : SW G k mX9_fits (aw_qi q) 0 0 0 [some (.ref 1)] [] (n, σ, τ, θ) := by
  refine SW.aload_n dX9_fits_0 rfl ?_
  refine SW.cvi0 kV_X9_134 (by omega) aw_cl9 kp_1 (by decide) (hW.le (by decide)) rfl (Nat.le_of_ble_eq_true rfl) dX9_fits_1 (SMi.mono vc ?_)
  intro a1 n1 σ1 τ1 θ1 vc
  obtain ⟨hW, vc⟩ := vc
  refine SW.if_eq 13 dX9_fits_4 (by decide) (fun hbr => ?_) (fun hbr => ?_)
  · replace vc := vc.1 hbr
    refine SW.aload_n dX9_fits_13 rfl ?_
    refine SW.getS (f := 5) (r := 77) aw_cl9 kp_1 (by decide) (hW.le (by decide)) (by decide) ww_470 dX9_fits_14 rfl hW.t1_5 ?_
    refine SW.aload_n dX9_fits_17 rfl ?_
    have hF2 := hW.f
    refine SW.getS (f := 7) (r := (θ1 1 7)) aw_cl9 kp_1 (by decide) (hW.le (by decide)) (by decide) ww_472 dX9_fits_18 rfl rfl ?_
    refine SW.aload_n dX9_fits_21 rfl ?_
    refine SW.getS (f := 1) (r := 6) aw_cl9 kp_1 (by decide) (hW.le (by decide)) (by decide) ww_466 dX9_fits_22 rfl hW.t1_1 ?_
    refine SW.cvv2 kV_X9_211 (by omega) aw_cl4 kp_77 (by decide) (hW.le (by decide)) rfl (Nat.le_of_ble_eq_true rfl) dX9_fits_25 (SMv.mono vc ?_)
    intro n3 σ3 τ3 θ3 vc
    obtain ⟨hW, vc⟩ := vc
    refine SW.aload_n dX9_fits_28 rfl ?_
    refine SW.aload_n dX9_fits_29 rfl ?_
    refine SW.getS (f := 5) (r := 77) aw_cl9 kp_1 (by decide) (hW.le (by decide)) (by decide) ww_470 dX9_fits_30 rfl hW.t1_5 ?_
    refine SW.getI (f := 0) aw_cl4 kp_77 (by decide) (hW.le (by decide)) (by decide) ww_286 dX9_fits_33 rfl ?_
    refine SW.cvi1 kV_X9_100 (by omega) aw_cl9 kp_1 (by decide) (hW.le (by decide)) rfl (Nat.le_of_ble_eq_true rfl) dX9_fits_36 (SMi.mono vc ?_)
    intro a4 n4 σ4 τ4 θ4 vc
    obtain ⟨hW, vc⟩ := vc
    exact SW.iret dX9_fits_39 rfl rfl ⟨_, rfl, vc⟩
  · replace vc := vc.2 hbr
    refine SW.aload_n dX9_fits_7 rfl ?_
    refine SW.iconst (v := (1 : Int32)) dX9_fits_8 (by decide) ?_
    refine SW.cvi1 kV_X9_82 (by omega) aw_cl9 kp_1 (by decide) (hW.le (by decide)) rfl (Nat.le_of_ble_eq_true rfl) dX9_fits_9 (SMi.mono vc ?_)
    intro a5 n5 σ5 τ5 θ5 vc
    obtain ⟨hW, vc⟩ := vc
    exact SW.iret dX9_fits_12 rfl rfl ⟨_, rfl, vc⟩
theorem ctX9_fits {G : GG} {q : Int32 → Nat → SG → TU → TH → Prop} {n : Nat} {σ : SG} {τ : TU} {θ : TH}  (h : SW G 5 mX9_fits (aw_qi q) 0 0 0 [some (.ref 1)] [] (n, σ, τ, θ)) : SMi G 5 mX9_fits 0 0 [.ref 1] n σ τ θ q := SM.of _ rfl rfl (Nat.le_of_ble_eq_true rfl) h
set_option maxHeartbeats 4000000 in
set_option maxRecDepth 20000 in
theorem sgX9_grant_0 {G : GG} {k : Nat} {q : Int32 → Nat → SG → TU → TH → Prop} {n : Nat} {σ : SG} {τ : TU} {θ : TH}  (x1 : Int32) (hk : 1 ≤ k)  (hW : aw_WT n θ) (vc : q x1 n (aw_u σ 1 10 (0 : Int32)) τ θ) : SW G k mX9_grant (aw_qi q) 0 0 0 [some (.ref 1), some (.int x1)] [] (n, σ, τ, θ) := by
  refine SW.aload_n dX9_grant_0 rfl ?_
  refine SW.iconst (v := (0 : Int32)) dX9_grant_1 (by decide) ?_
  refine SW.putI (f := 10) aw_cl9 kp_1 (by decide) (hW.le (by decide)) (by decide) ww_475 (Or.inl rfl) dX9_grant_2 rfl rfl rfl ?_
  refine SW.iload_n dX9_grant_5 rfl ?_
  exact SW.iret dX9_grant_6 rfl rfl ⟨_, rfl, vc⟩
theorem ctX9_grant {G : GG} {q : Int32 → Nat → SG → TU → TH → Prop} {n : Nat} {σ : SG} {τ : TU} {θ : TH} (x1 : Int32) (h : SW G 1 mX9_grant (aw_qi q) 0 0 0 [some (.ref 1), some (.int x1)] [] (n, σ, τ, θ)) : SMi G 1 mX9_grant 0 0 [.ref 1, .int x1] n σ τ θ q := SM.of _ rfl rfl (Nat.le_of_ble_eq_true rfl) h
set_option maxHeartbeats 4000000 in
set_option maxRecDepth 20000 in
theorem sgX9_greatest_0 {G : GG} {k : Nat} {q : Int32 → Nat → SG → TU → TH → Prop} {n : Nat} {σ : SG} {τ : TU} {θ : TH}   (hk : 5 ≤ k)  (hW : aw_WT n θ) (vc : SMi G 1 mX9_noDuchy 0 0 [.ref 1] n σ τ θ (fun a1 n1 σ1 τ1 θ1 => aw_WT n1 θ1 ∧ (((a1 = 0) → (SW G k mX9_greatest (aw_qi q) 0 0 17 [some (.ref 1), some (.int (0 : Int32)), some (.int (1 : Int32))] [] (n1, σ1, τ1, θ1))) ∧ ((¬ a1 = 0) → (SMi G 1 mX9_refuse 0 0 [.ref 1, .int (1 : Int32)] n1 σ1 τ1 θ1 (fun a2 n2 σ2 τ2 θ2 => aw_WT n2 θ2 ∧ (q a2 n2 σ2 τ2 θ2))))))) : SW G k mX9_greatest (aw_qi q) 0 0 0 [some (.ref 1), none, none] [] (n, σ, τ, θ) := by
  refine SW.aload_n dX9_greatest_0 rfl ?_
  refine SW.cvi0 kV_X9_134 (by omega) aw_cl9 kp_1 (by decide) (hW.le (by decide)) rfl (Nat.le_of_ble_eq_true rfl) dX9_greatest_1 (SMi.mono vc ?_)
  intro a1 n1 σ1 τ1 θ1 vc
  obtain ⟨hW, vc⟩ := vc
  refine SW.if_eq 13 dX9_greatest_4 (by decide) (fun hbr => ?_) (fun hbr => ?_)
  · replace vc := vc.1 hbr
    refine SW.iconst (v := (0 : Int32)) dX9_greatest_13 (by decide) ?_
    refine SW.istore_n dX9_greatest_14 (by decide) rfl rfl ?_
    refine SW.iconst (v := (1 : Int32)) dX9_greatest_15 (by decide) ?_
    refine SW.istore_n dX9_greatest_16 (by decide) rfl rfl ?_
    exact vc
  · replace vc := vc.2 hbr
    refine SW.aload_n dX9_greatest_7 rfl ?_
    refine SW.iconst (v := (1 : Int32)) dX9_greatest_8 (by decide) ?_
    refine SW.cvi1 kV_X9_82 (by omega) aw_cl9 kp_1 (by decide) (hW.le (by decide)) rfl (Nat.le_of_ble_eq_true rfl) dX9_greatest_9 (SMi.mono vc ?_)
    intro a2 n2 σ2 τ2 θ2 vc
    obtain ⟨hW, vc⟩ := vc
    exact SW.iret dX9_greatest_12 rfl rfl ⟨_, rfl, vc⟩
set_option maxHeartbeats 4000000 in
set_option maxRecDepth 20000 in
theorem sgX9_greatest_17 {G : GG} {k : Nat} {q : Int32 → Nat → SG → TU → TH → Prop} {n : Nat} {σ : SG} {τ : TU} {θ : TH}  (x1 : Int32) (x2 : Int32) (hk : 5 ≤ k)  (hW : aw_WT n θ) (vc : (((σ (θ 1 7) 13) ≤ x2) → (SMi G 1 mX9_grant 0 0 [.ref 1, .int x1] n σ τ θ (fun a2 n2 σ2 τ2 θ2 => aw_WT n2 θ2 ∧ (q a2 n2 σ2 τ2 θ2)))) ∧ ((¬ (σ (θ 1 7) 13) ≤ x2) → (SMi G 4 mX9_headNow 0 0 [.ref 1, .int x2] n σ τ θ (fun a3 n3 σ3 τ3 θ3 => aw_WT n3 θ3 ∧ (SMi G 4 mX9_headNow 0 0 [.ref 1, .int x1] n3 σ3 τ3 θ3 (fun a4 n4 σ4 τ4 θ4 => aw_WT n4 θ4 ∧ (((a3 ≤ a4) → (SW G k mX9_greatest (aw_qi q) 0 0 17 [some (.ref 1), some (.int x1), some (.int (x2 + (1 : Int32)))] [] (n4, σ4, τ4, θ4))) ∧ ((¬ a3 ≤ a4) → (SW G k mX9_greatest (aw_qi q) 0 0 17 [some (.ref 1), some (.int x2), some (.int (x2 + (1 : Int32)))] [] (n4, σ4, τ4, θ4)))))))))) : SW G k mX9_greatest (aw_qi q) 0 0 17 [some (.ref 1), some (.int x1), some (.int x2)] [] (n, σ, τ, θ) := by
  refine SW.iload_n dX9_greatest_17 rfl ?_
  refine SW.aload_n dX9_greatest_18 rfl ?_
  have hF1 := hW.f
  refine SW.getS (f := 7) (r := (θ 1 7)) aw_cl9 kp_1 (by decide) (hW.le (by decide)) (by decide) ww_472 dX9_greatest_19 rfl rfl ?_
  refine SW.getI (f := 13) aw_cl1 (kpF_0 hF1) (leF_0 hF1).1 (hW.le (leF_0 hF1).2) (by decide) ww_423 dX9_greatest_22 rfl ?_
  refine SW.icmp_ge 49 dX9_greatest_25 (by decide) (fun hbr => ?_) (fun hbr => ?_)
  · replace vc := vc.1 hbr
    refine SW.aload_n dX9_greatest_49 rfl ?_
    refine SW.iload_n dX9_greatest_50 rfl ?_
    refine SW.cvi1 kV_X9_100 (by omega) aw_cl9 kp_1 (by decide) (hW.le (by decide)) rfl (Nat.le_of_ble_eq_true rfl) dX9_greatest_51 (SMi.mono vc ?_)
    intro a2 n2 σ2 τ2 θ2 vc
    obtain ⟨hW, vc⟩ := vc
    exact SW.iret dX9_greatest_54 rfl rfl ⟨_, rfl, vc⟩
  · replace vc := vc.2 hbr
    refine SW.aload_n dX9_greatest_28 rfl ?_
    refine SW.iload_n dX9_greatest_29 rfl ?_
    refine SW.cvi1 kV_X9_144 (by omega) aw_cl9 kp_1 (by decide) (hW.le (by decide)) rfl (Nat.le_of_ble_eq_true rfl) dX9_greatest_30 (SMi.mono vc ?_)
    intro a3 n3 σ3 τ3 θ3 vc
    obtain ⟨hW, vc⟩ := vc
    refine SW.aload_n dX9_greatest_33 rfl ?_
    refine SW.iload_n dX9_greatest_34 rfl ?_
    refine SW.cvi1 kV_X9_144 (by omega) aw_cl9 kp_1 (by decide) (hW.le (by decide)) rfl (Nat.le_of_ble_eq_true rfl) dX9_greatest_35 (SMi.mono vc ?_)
    intro a4 n4 σ4 τ4 θ4 vc
    obtain ⟨hW, vc⟩ := vc
    refine SW.icmp_le 43 dX9_greatest_38 (by decide) (fun hbr => ?_) (fun hbr => ?_)
    · replace vc := vc.1 hbr
      refine SW.iinc (v := (x2 + (1 : Int32))) dX9_greatest_43 rfl rfl (by decide) rfl rfl ?_
      refine SW.goto 17 dX9_greatest_46 (by decide) ?_
      exact vc
    · replace vc := vc.2 hbr
      refine SW.iload_n dX9_greatest_41 rfl ?_
      refine SW.istore_n dX9_greatest_42 (by decide) rfl rfl ?_
      refine SW.iinc (v := (x2 + (1 : Int32))) dX9_greatest_43 rfl rfl (by decide) rfl rfl ?_
      refine SW.goto 17 dX9_greatest_46 (by decide) ?_
      exact vc
theorem ctX9_greatest {G : GG} {q : Int32 → Nat → SG → TU → TH → Prop} {n : Nat} {σ : SG} {τ : TU} {θ : TH}  (h : SW G 5 mX9_greatest (aw_qi q) 0 0 0 [some (.ref 1), none, none] [] (n, σ, τ, θ)) : SMi G 5 mX9_greatest 0 0 [.ref 1] n σ τ θ q := SM.of _ rfl rfl (Nat.le_of_ble_eq_true rfl) h
set_option maxHeartbeats 4000000 in
set_option maxRecDepth 20000 in
theorem sgX9_guests_0 {G : GG} {k : Nat} {q : Int32 → Nat → SG → TU → TH → Prop} {n : Nat} {σ : SG} {τ : TU} {θ : TH}   (hk : 7 ≤ k)  (hW : aw_WT n θ) (vc : SMi G 1 mX9_noDuchy 0 0 [.ref 1] n σ τ θ (fun a1 n1 σ1 τ1 θ1 => aw_WT n1 θ1 ∧ (((a1 = 0) → (SMi G 6 mX7_assign 0 0 [.ref 69, .ref (θ1 1 7), .ref 6] n1 σ1 τ1 θ1 (fun a3 n3 σ3 τ3 θ3 => aw_WT n3 θ3 ∧ (SMi G 1 mX9_grant 0 0 [.ref 1, .int a3] n3 σ3 τ3 θ3 (fun a4 n4 σ4 τ4 θ4 => aw_WT n4 θ4 ∧ (q a4 n4 σ4 τ4 θ4)))))) ∧ ((¬ a1 = 0) → (SMi G 1 mX9_refuse 0 0 [.ref 1, .int (1 : Int32)] n1 σ1 τ1 θ1 (fun a5 n5 σ5 τ5 θ5 => aw_WT n5 θ5 ∧ (q a5 n5 σ5 τ5 θ5))))))) : SW G k mX9_guests (aw_qi q) 0 0 0 [some (.ref 1)] [] (n, σ, τ, θ) := by
  refine SW.aload_n dX9_guests_0 rfl ?_
  refine SW.cvi0 kV_X9_134 (by omega) aw_cl9 kp_1 (by decide) (hW.le (by decide)) rfl (Nat.le_of_ble_eq_true rfl) dX9_guests_1 (SMi.mono vc ?_)
  intro a1 n1 σ1 τ1 θ1 vc
  obtain ⟨hW, vc⟩ := vc
  refine SW.if_eq 13 dX9_guests_4 (by decide) (fun hbr => ?_) (fun hbr => ?_)
  · replace vc := vc.1 hbr
    refine SW.aload_n dX9_guests_13 rfl ?_
    refine SW.aload_n dX9_guests_14 rfl ?_
    refine SW.getS (f := 3) (r := 69) aw_cl9 kp_1 (by decide) (hW.le (by decide)) (by decide) ww_468 dX9_guests_15 rfl hW.t1_3 ?_
    refine SW.aload_n dX9_guests_18 rfl ?_
    have hF2 := hW.f
    refine SW.getS (f := 7) (r := (θ1 1 7)) aw_cl9 kp_1 (by decide) (hW.le (by decide)) (by decide) ww_472 dX9_guests_19 rfl rfl ?_
    refine SW.aload_n dX9_guests_22 rfl ?_
    refine SW.getS (f := 1) (r := 6) aw_cl9 kp_1 (by decide) (hW.le (by decide)) (by decide) ww_466 dX9_guests_23 rfl hW.t1_1 ?_
    refine SW.cvi2 kV_X9_188 (by omega) aw_cl7 kp_69 (by decide) (hW.le (by decide)) rfl (Nat.le_of_ble_eq_true rfl) dX9_guests_26 (SMi.mono vc ?_)
    intro a3 n3 σ3 τ3 θ3 vc
    obtain ⟨hW, vc⟩ := vc
    refine SW.cvi1 kV_X9_100 (by omega) aw_cl9 kp_1 (by decide) (hW.le (by decide)) rfl (Nat.le_of_ble_eq_true rfl) dX9_guests_29 (SMi.mono vc ?_)
    intro a4 n4 σ4 τ4 θ4 vc
    obtain ⟨hW, vc⟩ := vc
    exact SW.iret dX9_guests_32 rfl rfl ⟨_, rfl, vc⟩
  · replace vc := vc.2 hbr
    refine SW.aload_n dX9_guests_7 rfl ?_
    refine SW.iconst (v := (1 : Int32)) dX9_guests_8 (by decide) ?_
    refine SW.cvi1 kV_X9_82 (by omega) aw_cl9 kp_1 (by decide) (hW.le (by decide)) rfl (Nat.le_of_ble_eq_true rfl) dX9_guests_9 (SMi.mono vc ?_)
    intro a5 n5 σ5 τ5 θ5 vc
    obtain ⟨hW, vc⟩ := vc
    exact SW.iret dX9_guests_12 rfl rfl ⟨_, rfl, vc⟩
theorem ctX9_guests {G : GG} {q : Int32 → Nat → SG → TU → TH → Prop} {n : Nat} {σ : SG} {τ : TU} {θ : TH}  (h : SW G 7 mX9_guests (aw_qi q) 0 0 0 [some (.ref 1)] [] (n, σ, τ, θ)) : SMi G 7 mX9_guests 0 0 [.ref 1] n σ τ θ q := SM.of _ rfl rfl (Nat.le_of_ble_eq_true rfl) h
set_option maxHeartbeats 4000000 in
set_option maxRecDepth 20000 in
theorem sgX9_headIn_0 {G : GG} {k : Nat} {q : Int32 → Nat → SG → TU → TH → Prop} {n : Nat} {σ : SG} {τ : TU} {θ : TH}  (x1 : Int32) (x2 : Int32) (hk : 4 ≤ k)  (hW : aw_WT n θ) (vc : SMi G 1 mX9_isMan 0 0 [.ref 1, .int x1] n σ τ θ (fun a1 n1 σ1 τ1 θ1 => aw_WT n1 θ1 ∧ (((¬ a1 = 0) → (((x2 < 0) → (SMi G 1 mX9_refuse 0 0 [.ref 1, .int (2 : Int32)] n1 σ1 τ1 θ1 (fun a2 n2 σ2 τ2 θ2 => aw_WT n2 θ2 ∧ (q a2 n2 σ2 τ2 θ2)))) ∧ ((¬ x2 < 0) → (((x2 ≤ (20 : Int32)) → (SMi G 3 mX1_headOf 0 0 [.ref (θ1 1 7), .ref 6, .int x1, .int ((σ1 6 2) + x2)] n1 σ1 τ1 θ1 (fun a4 n4 σ4 τ4 θ4 => aw_WT n4 θ4 ∧ (SMi G 1 mX9_grant 0 0 [.ref 1, .int a4] n4 σ4 τ4 θ4 (fun a5 n5 σ5 τ5 θ5 => aw_WT n5 θ5 ∧ (q a5 n5 σ5 τ5 θ5)))))) ∧ ((¬ x2 ≤ (20 : Int32)) → (SMi G 1 mX9_refuse 0 0 [.ref 1, .int (2 : Int32)] n1 σ1 τ1 θ1 (fun a6 n6 σ6 τ6 θ6 => aw_WT n6 θ6 ∧ (q a6 n6 σ6 τ6 θ6)))))))) ∧ ((a1 = 0) → (SMi G 1 mX9_refuse 0 0 [.ref 1, .int (1 : Int32)] n1 σ1 τ1 θ1 (fun a7 n7 σ7 τ7 θ7 => aw_WT n7 θ7 ∧ (q a7 n7 σ7 τ7 θ7))))))) : SW G k mX9_headIn (aw_qi q) 0 0 0 [some (.ref 1), some (.int x1), some (.int x2)] [] (n, σ, τ, θ) := by
  refine SW.aload_n dX9_headIn_0 rfl ?_
  refine SW.iload_n dX9_headIn_1 rfl ?_
  refine SW.cvi1 kV_X9_106 (by omega) aw_cl9 kp_1 (by decide) (hW.le (by decide)) rfl (Nat.le_of_ble_eq_true rfl) dX9_headIn_2 (SMi.mono vc ?_)
  intro a1 n1 σ1 τ1 θ1 vc
  obtain ⟨hW, vc⟩ := vc
  refine SW.if_ne 14 dX9_headIn_5 (by decide) (fun hbr => ?_) (fun hbr => ?_)
  · replace vc := vc.1 hbr
    refine SW.iload_n dX9_headIn_14 rfl ?_
    refine SW.if_lt 24 dX9_headIn_15 (by decide) (fun hbr => ?_) (fun hbr => ?_)
    · replace vc := vc.1 hbr
      refine SW.aload_n dX9_headIn_24 rfl ?_
      refine SW.iconst (v := (2 : Int32)) dX9_headIn_25 (by decide) ?_
      refine SW.cvi1 kV_X9_82 (by omega) aw_cl9 kp_1 (by decide) (hW.le (by decide)) rfl (Nat.le_of_ble_eq_true rfl) dX9_headIn_26 (SMi.mono vc ?_)
      intro a2 n2 σ2 τ2 θ2 vc
      obtain ⟨hW, vc⟩ := vc
      exact SW.iret dX9_headIn_29 rfl rfl ⟨_, rfl, vc⟩
    · replace vc := vc.2 hbr
      refine SW.iload_n dX9_headIn_18 rfl ?_
      refine SW.bipush (v := (20 : Int32)) dX9_headIn_19 (by decide) ?_
      refine SW.icmp_le 30 dX9_headIn_21 (by decide) (fun hbr => ?_) (fun hbr => ?_)
      · replace vc := vc.1 hbr
        refine SW.aload_n dX9_headIn_30 rfl ?_
        refine SW.aload_n dX9_headIn_31 rfl ?_
        have hF3 := hW.f
        refine SW.getS (f := 7) (r := (θ1 1 7)) aw_cl9 kp_1 (by decide) (hW.le (by decide)) (by decide) ww_472 dX9_headIn_32 rfl rfl ?_
        refine SW.aload_n dX9_headIn_35 rfl ?_
        refine SW.getS (f := 1) (r := 6) aw_cl9 kp_1 (by decide) (hW.le (by decide)) (by decide) ww_466 dX9_headIn_36 rfl hW.t1_1 ?_
        refine SW.iload_n dX9_headIn_39 rfl ?_
        refine SW.aload_n dX9_headIn_40 rfl ?_
        refine SW.getS (f := 1) (r := 6) aw_cl9 kp_1 (by decide) (hW.le (by decide)) (by decide) ww_466 dX9_headIn_41 rfl hW.t1_1 ?_
        refine SW.getI (f := 2) aw_cl2 kp_6 (by decide) (hW.le (by decide)) (by decide) ww_204 dX9_headIn_44 rfl ?_
        refine SW.iload_n dX9_headIn_47 rfl ?_
        refine SW.iadd dX9_headIn_48 ?_
        refine SW.cvi3 kV_X9_147 (by omega) aw_cl1 (kpF_0 hF3) (leF_0 hF3).1 (hW.le (leF_0 hF3).2) rfl (Nat.le_of_ble_eq_true rfl) dX9_headIn_49 (SMi.mono vc ?_)
        intro a4 n4 σ4 τ4 θ4 vc
        obtain ⟨hW, vc⟩ := vc
        refine SW.cvi1 kV_X9_100 (by omega) aw_cl9 kp_1 (by decide) (hW.le (by decide)) rfl (Nat.le_of_ble_eq_true rfl) dX9_headIn_52 (SMi.mono vc ?_)
        intro a5 n5 σ5 τ5 θ5 vc
        obtain ⟨hW, vc⟩ := vc
        exact SW.iret dX9_headIn_55 rfl rfl ⟨_, rfl, vc⟩
      · replace vc := vc.2 hbr
        refine SW.aload_n dX9_headIn_24 rfl ?_
        refine SW.iconst (v := (2 : Int32)) dX9_headIn_25 (by decide) ?_
        refine SW.cvi1 kV_X9_82 (by omega) aw_cl9 kp_1 (by decide) (hW.le (by decide)) rfl (Nat.le_of_ble_eq_true rfl) dX9_headIn_26 (SMi.mono vc ?_)
        intro a6 n6 σ6 τ6 θ6 vc
        obtain ⟨hW, vc⟩ := vc
        exact SW.iret dX9_headIn_29 rfl rfl ⟨_, rfl, vc⟩
  · replace vc := vc.2 hbr
    refine SW.aload_n dX9_headIn_8 rfl ?_
    refine SW.iconst (v := (1 : Int32)) dX9_headIn_9 (by decide) ?_
    refine SW.cvi1 kV_X9_82 (by omega) aw_cl9 kp_1 (by decide) (hW.le (by decide)) rfl (Nat.le_of_ble_eq_true rfl) dX9_headIn_10 (SMi.mono vc ?_)
    intro a7 n7 σ7 τ7 θ7 vc
    obtain ⟨hW, vc⟩ := vc
    exact SW.iret dX9_headIn_13 rfl rfl ⟨_, rfl, vc⟩
theorem ctX9_headIn {G : GG} {q : Int32 → Nat → SG → TU → TH → Prop} {n : Nat} {σ : SG} {τ : TU} {θ : TH} (x1 : Int32) (x2 : Int32) (h : SW G 4 mX9_headIn (aw_qi q) 0 0 0 [some (.ref 1), some (.int x1), some (.int x2)] [] (n, σ, τ, θ)) : SMi G 4 mX9_headIn 0 0 [.ref 1, .int x1, .int x2] n σ τ θ q := SM.of _ rfl rfl (Nat.le_of_ble_eq_true rfl) h
set_option maxHeartbeats 4000000 in
set_option maxRecDepth 20000 in
theorem sgX9_headIs_0 {G : GG} {k : Nat} {q : Int64 → Nat → SG → TU → TH → Prop} {n : Nat} {σ : SG} {τ : TU} {θ : TH}  (x1 : Int32) (x2 : Int32) (x3 : Int32) (hk : 5 ≤ k)  (hW : aw_WT n θ) (vc : SMi G 1 mX9_isMan 0 0 [.ref 1, .int x1] n σ τ θ (fun a1 n1 σ1 τ1 θ1 => aw_WT n1 θ1 ∧ (((¬ a1 = 0) → (((x2 < 0) → (SMi G 1 mX9_refuse 0 0 [.ref 1, .int (2 : Int32)] n1 σ1 τ1 θ1 (fun a2 n2 σ2 τ2 θ2 => aw_WT n2 θ2 ∧ (q (a2.toInt64) n2 σ2 τ2 θ2)))) ∧ ((¬ x2 < 0) → (((x2 ≤ (99 : Int32)) → (SMv G 4 mX4_weigh 0 0 [.ref 77, .ref (θ1 1 7), .ref 6] n1 σ1 τ1 θ1 (fun n4 σ4 τ4 θ4 => aw_WT n4 θ4 ∧ (SMl G 4 mX4_weightOfHead 0 0 [.ref 77, .ref (θ4 1 7), .ref 6, .int x1, .int x2] n4 (aw_u σ4 1 10 (0 : Int32)) τ4 θ4 (fun a6 n6 σ6 τ6 θ6 => aw_WT n6 θ6 ∧ (SMl G 1 mX9_lowest 0 0 [.long a6, .long (τ6 77 1), .int x3] n6 σ6 τ6 θ6 (fun a7 n7 σ7 τ7 θ7 => aw_WT n7 θ7 ∧ (q a7 n7 σ7 τ7 θ7)))))))) ∧ ((¬ x2 ≤ (99 : Int32)) → (SMi G 1 mX9_refuse 0 0 [.ref 1, .int (2 : Int32)] n1 σ1 τ1 θ1 (fun a8 n8 σ8 τ8 θ8 => aw_WT n8 θ8 ∧ (q (a8.toInt64) n8 σ8 τ8 θ8)))))))) ∧ ((a1 = 0) → (SMi G 1 mX9_refuse 0 0 [.ref 1, .int (1 : Int32)] n1 σ1 τ1 θ1 (fun a9 n9 σ9 τ9 θ9 => aw_WT n9 θ9 ∧ (q (a9.toInt64) n9 σ9 τ9 θ9))))))) : SW G k mX9_headIs (aw_ql q) 0 0 0 [some (.ref 1), some (.int x1), some (.int x2), some (.int x3)] [] (n, σ, τ, θ) := by
  refine SW.aload_n dX9_headIs_0 rfl ?_
  refine SW.iload_n dX9_headIs_1 rfl ?_
  refine SW.cvi1 kV_X9_106 (by omega) aw_cl9 kp_1 (by decide) (hW.le (by decide)) rfl (Nat.le_of_ble_eq_true rfl) dX9_headIs_2 (SMi.mono vc ?_)
  intro a1 n1 σ1 τ1 θ1 vc
  obtain ⟨hW, vc⟩ := vc
  refine SW.if_ne 15 dX9_headIs_5 (by decide) (fun hbr => ?_) (fun hbr => ?_)
  · replace vc := vc.1 hbr
    refine SW.iload_n dX9_headIs_15 rfl ?_
    refine SW.if_lt 25 dX9_headIs_16 (by decide) (fun hbr => ?_) (fun hbr => ?_)
    · replace vc := vc.1 hbr
      refine SW.aload_n dX9_headIs_25 rfl ?_
      refine SW.iconst (v := (2 : Int32)) dX9_headIs_26 (by decide) ?_
      refine SW.cvi1 kV_X9_82 (by omega) aw_cl9 kp_1 (by decide) (hW.le (by decide)) rfl (Nat.le_of_ble_eq_true rfl) dX9_headIs_27 (SMi.mono vc ?_)
      intro a2 n2 σ2 τ2 θ2 vc
      obtain ⟨hW, vc⟩ := vc
      refine SW.i2l dX9_headIs_30 ?_
      exact SW.lret dX9_headIs_31 rfl ⟨_, rfl, vc⟩
    · replace vc := vc.2 hbr
      refine SW.iload_n dX9_headIs_19 rfl ?_
      refine SW.bipush (v := (99 : Int32)) dX9_headIs_20 (by decide) ?_
      refine SW.icmp_le 32 dX9_headIs_22 (by decide) (fun hbr => ?_) (fun hbr => ?_)
      · replace vc := vc.1 hbr
        refine SW.aload_n dX9_headIs_32 rfl ?_
        refine SW.getS (f := 5) (r := 77) aw_cl9 kp_1 (by decide) (hW.le (by decide)) (by decide) ww_470 dX9_headIs_33 rfl hW.t1_5 ?_
        refine SW.aload_n dX9_headIs_36 rfl ?_
        have hF3 := hW.f
        refine SW.getS (f := 7) (r := (θ1 1 7)) aw_cl9 kp_1 (by decide) (hW.le (by decide)) (by decide) ww_472 dX9_headIs_37 rfl rfl ?_
        refine SW.aload_n dX9_headIs_40 rfl ?_
        refine SW.getS (f := 1) (r := 6) aw_cl9 kp_1 (by decide) (hW.le (by decide)) (by decide) ww_466 dX9_headIs_41 rfl hW.t1_1 ?_
        refine SW.cvv2 kV_X9_211 (by omega) aw_cl4 kp_77 (by decide) (hW.le (by decide)) rfl (Nat.le_of_ble_eq_true rfl) dX9_headIs_44 (SMv.mono vc ?_)
        intro n4 σ4 τ4 θ4 vc
        obtain ⟨hW, vc⟩ := vc
        refine SW.aload_n dX9_headIs_47 rfl ?_
        refine SW.iconst (v := (0 : Int32)) dX9_headIs_48 (by decide) ?_
        refine SW.putI (f := 10) aw_cl9 kp_1 (by decide) (hW.le (by decide)) (by decide) ww_475 (Or.inl rfl) dX9_headIs_49 rfl rfl rfl ?_
        refine SW.aload_n dX9_headIs_52 rfl ?_
        refine SW.getS (f := 5) (r := 77) aw_cl9 kp_1 (by decide) (hW.le (by decide)) (by decide) ww_470 dX9_headIs_53 rfl hW.t1_5 ?_
        refine SW.aload_n dX9_headIs_56 rfl ?_
        have hF5 := hW.f
        refine SW.getS (f := 7) (r := (θ4 1 7)) aw_cl9 kp_1 (by decide) (hW.le (by decide)) (by decide) ww_472 dX9_headIs_57 rfl rfl ?_
        refine SW.aload_n dX9_headIs_60 rfl ?_
        refine SW.getS (f := 1) (r := 6) aw_cl9 kp_1 (by decide) (hW.le (by decide)) (by decide) ww_466 dX9_headIs_61 rfl hW.t1_1 ?_
        refine SW.iload_n dX9_headIs_64 rfl ?_
        refine SW.iload_n dX9_headIs_65 rfl ?_
        refine SW.cvl4 kV_X9_236 (by omega) aw_cl4 kp_77 (by decide) (hW.le (by decide)) rfl (Nat.le_of_ble_eq_true rfl) dX9_headIs_66 (SMl.mono vc ?_)
        intro a6 n6 σ6 τ6 θ6 vc
        obtain ⟨hW, vc⟩ := vc
        refine SW.aload_n dX9_headIs_69 rfl ?_
        refine SW.getS (f := 5) (r := 77) aw_cl9 kp_1 (by decide) (hW.le (by decide)) (by decide) ww_470 dX9_headIs_70 rfl hW.t1_5 ?_
        refine SW.getL (f := 1) aw_cl4 kp_77 (by decide) (hW.le (by decide)) (by decide) ww_288 dX9_headIs_73 rfl ?_
        refine SW.iload_n dX9_headIs_76 rfl ?_
        refine SW.csl3 kS_X9_232 (by omega) (Nat.le_of_ble_eq_true rfl) dX9_headIs_77 (SMl.mono vc ?_)
        intro a7 n7 σ7 τ7 θ7 vc
        obtain ⟨hW, vc⟩ := vc
        exact SW.lret dX9_headIs_80 rfl ⟨_, rfl, vc⟩
      · replace vc := vc.2 hbr
        refine SW.aload_n dX9_headIs_25 rfl ?_
        refine SW.iconst (v := (2 : Int32)) dX9_headIs_26 (by decide) ?_
        refine SW.cvi1 kV_X9_82 (by omega) aw_cl9 kp_1 (by decide) (hW.le (by decide)) rfl (Nat.le_of_ble_eq_true rfl) dX9_headIs_27 (SMi.mono vc ?_)
        intro a8 n8 σ8 τ8 θ8 vc
        obtain ⟨hW, vc⟩ := vc
        refine SW.i2l dX9_headIs_30 ?_
        exact SW.lret dX9_headIs_31 rfl ⟨_, rfl, vc⟩
  · replace vc := vc.2 hbr
    refine SW.aload_n dX9_headIs_8 rfl ?_
    refine SW.iconst (v := (1 : Int32)) dX9_headIs_9 (by decide) ?_
    refine SW.cvi1 kV_X9_82 (by omega) aw_cl9 kp_1 (by decide) (hW.le (by decide)) rfl (Nat.le_of_ble_eq_true rfl) dX9_headIs_10 (SMi.mono vc ?_)
    intro a9 n9 σ9 τ9 θ9 vc
    obtain ⟨hW, vc⟩ := vc
    refine SW.i2l dX9_headIs_13 ?_
    exact SW.lret dX9_headIs_14 rfl ⟨_, rfl, vc⟩
theorem ctX9_headIs {G : GG} {q : Int64 → Nat → SG → TU → TH → Prop} {n : Nat} {σ : SG} {τ : TU} {θ : TH} (x1 : Int32) (x2 : Int32) (x3 : Int32) (h : SW G 5 mX9_headIs (aw_ql q) 0 0 0 [some (.ref 1), some (.int x1), some (.int x2), some (.int x3)] [] (n, σ, τ, θ)) : SMl G 5 mX9_headIs 0 0 [.ref 1, .int x1, .int x2, .int x3] n σ τ θ q := SM.of _ rfl rfl (Nat.le_of_ble_eq_true rfl) h
set_option maxHeartbeats 4000000 in
set_option maxRecDepth 20000 in
theorem sgX9_headNow_0 {G : GG} {k : Nat} {q : Int32 → Nat → SG → TU → TH → Prop} {n : Nat} {σ : SG} {τ : TU} {θ : TH}  (x1 : Int32) (hk : 4 ≤ k)  (hW : aw_WT n θ) (vc : SMi G 3 mX1_headOf 0 0 [.ref (θ 1 7), .ref 6, .int x1, .int (σ 6 2)] n σ τ θ (fun a2 n2 σ2 τ2 θ2 => aw_WT n2 θ2 ∧ (q a2 n2 σ2 τ2 θ2))) : SW G k mX9_headNow (aw_qi q) 0 0 0 [some (.ref 1), some (.int x1)] [] (n, σ, τ, θ) := by
  refine SW.aload_n dX9_headNow_0 rfl ?_
  have hF1 := hW.f
  refine SW.getS (f := 7) (r := (θ 1 7)) aw_cl9 kp_1 (by decide) (hW.le (by decide)) (by decide) ww_472 dX9_headNow_1 rfl rfl ?_
  refine SW.aload_n dX9_headNow_4 rfl ?_
  refine SW.getS (f := 1) (r := 6) aw_cl9 kp_1 (by decide) (hW.le (by decide)) (by decide) ww_466 dX9_headNow_5 rfl hW.t1_1 ?_
  refine SW.iload_n dX9_headNow_8 rfl ?_
  refine SW.aload_n dX9_headNow_9 rfl ?_
  refine SW.getS (f := 1) (r := 6) aw_cl9 kp_1 (by decide) (hW.le (by decide)) (by decide) ww_466 dX9_headNow_10 rfl hW.t1_1 ?_
  refine SW.getI (f := 2) aw_cl2 kp_6 (by decide) (hW.le (by decide)) (by decide) ww_204 dX9_headNow_13 rfl ?_
  refine SW.cvi3 kV_X9_147 (by omega) aw_cl1 (kpF_0 hF1) (leF_0 hF1).1 (hW.le (leF_0 hF1).2) rfl (Nat.le_of_ble_eq_true rfl) dX9_headNow_16 (SMi.mono vc ?_)
  intro a2 n2 σ2 τ2 θ2 vc
  obtain ⟨hW, vc⟩ := vc
  exact SW.iret dX9_headNow_19 rfl rfl ⟨_, rfl, vc⟩
theorem ctX9_headNow {G : GG} {q : Int32 → Nat → SG → TU → TH → Prop} {n : Nat} {σ : SG} {τ : TU} {θ : TH} (x1 : Int32) (h : SW G 4 mX9_headNow (aw_qi q) 0 0 0 [some (.ref 1), some (.int x1)] [] (n, σ, τ, θ)) : SMi G 4 mX9_headNow 0 0 [.ref 1, .int x1] n σ τ θ q := SM.of _ rfl rfl (Nat.le_of_ble_eq_true rfl) h
set_option maxHeartbeats 4000000 in
set_option maxRecDepth 20000 in
theorem sgX9_heads_0 {G : GG} {k : Nat} {q : Int32 → Nat → SG → TU → TH → Prop} {n : Nat} {σ : SG} {τ : TU} {θ : TH}   (hk : 5 ≤ k)  (hW : aw_WT n θ) (vc : SMi G 1 mX9_noDuchy 0 0 [.ref 1] n σ τ θ (fun a1 n1 σ1 τ1 θ1 => aw_WT n1 θ1 ∧ (((a1 = 0) → (SMi G 4 mX1_allHeads 0 0 [.ref (θ1 1 7), .ref 6, .int (σ1 6 2)] n1 σ1 τ1 θ1 (fun a3 n3 σ3 τ3 θ3 => aw_WT n3 θ3 ∧ (SMi G 1 mX9_grant 0 0 [.ref 1, .int a3] n3 σ3 τ3 θ3 (fun a4 n4 σ4 τ4 θ4 => aw_WT n4 θ4 ∧ (q a4 n4 σ4 τ4 θ4)))))) ∧ ((¬ a1 = 0) → (SMi G 1 mX9_refuse 0 0 [.ref 1, .int (1 : Int32)] n1 σ1 τ1 θ1 (fun a5 n5 σ5 τ5 θ5 => aw_WT n5 θ5 ∧ (q a5 n5 σ5 τ5 θ5))))))) : SW G k mX9_heads (aw_qi q) 0 0 0 [some (.ref 1)] [] (n, σ, τ, θ) := by
  refine SW.aload_n dX9_heads_0 rfl ?_
  refine SW.cvi0 kV_X9_134 (by omega) aw_cl9 kp_1 (by decide) (hW.le (by decide)) rfl (Nat.le_of_ble_eq_true rfl) dX9_heads_1 (SMi.mono vc ?_)
  intro a1 n1 σ1 τ1 θ1 vc
  obtain ⟨hW, vc⟩ := vc
  refine SW.if_eq 15 dX9_heads_4 (by decide) (fun hbr => ?_) (fun hbr => ?_)
  · replace vc := vc.1 hbr
    refine SW.aload_n dX9_heads_15 rfl ?_
    refine SW.aload_n dX9_heads_16 rfl ?_
    have hF2 := hW.f
    refine SW.getS (f := 7) (r := (θ1 1 7)) aw_cl9 kp_1 (by decide) (hW.le (by decide)) (by decide) ww_472 dX9_heads_17 rfl rfl ?_
    refine SW.aload_n dX9_heads_20 rfl ?_
    refine SW.getS (f := 1) (r := 6) aw_cl9 kp_1 (by decide) (hW.le (by decide)) (by decide) ww_466 dX9_heads_21 rfl hW.t1_1 ?_
    refine SW.aload_n dX9_heads_24 rfl ?_
    refine SW.getS (f := 1) (r := 6) aw_cl9 kp_1 (by decide) (hW.le (by decide)) (by decide) ww_466 dX9_heads_25 rfl hW.t1_1 ?_
    refine SW.getI (f := 2) aw_cl2 kp_6 (by decide) (hW.le (by decide)) (by decide) ww_204 dX9_heads_28 rfl ?_
    refine SW.cvi2 kV_X9_141 (by omega) aw_cl1 (kpF_0 hF2) (leF_0 hF2).1 (hW.le (leF_0 hF2).2) rfl (Nat.le_of_ble_eq_true rfl) dX9_heads_31 (SMi.mono vc ?_)
    intro a3 n3 σ3 τ3 θ3 vc
    obtain ⟨hW, vc⟩ := vc
    refine SW.cvi1 kV_X9_100 (by omega) aw_cl9 kp_1 (by decide) (hW.le (by decide)) rfl (Nat.le_of_ble_eq_true rfl) dX9_heads_34 (SMi.mono vc ?_)
    intro a4 n4 σ4 τ4 θ4 vc
    obtain ⟨hW, vc⟩ := vc
    exact SW.iret dX9_heads_37 rfl rfl ⟨_, rfl, vc⟩
  · replace vc := vc.2 hbr
    refine SW.aload_n dX9_heads_7 rfl ?_
    refine SW.iconst (v := (1 : Int32)) dX9_heads_8 (by decide) ?_
    refine SW.cvi1 kV_X9_82 (by omega) aw_cl9 kp_1 (by decide) (hW.le (by decide)) rfl (Nat.le_of_ble_eq_true rfl) dX9_heads_9 (SMi.mono vc ?_)
    intro a5 n5 σ5 τ5 θ5 vc
    obtain ⟨hW, vc⟩ := vc
    refine SW.goto 37 dX9_heads_12 (by decide) ?_
    exact SW.iret dX9_heads_37 rfl rfl ⟨_, rfl, vc⟩
theorem ctX9_heads {G : GG} {q : Int32 → Nat → SG → TU → TH → Prop} {n : Nat} {σ : SG} {τ : TU} {θ : TH}  (h : SW G 5 mX9_heads (aw_qi q) 0 0 0 [some (.ref 1)] [] (n, σ, τ, θ)) : SMi G 5 mX9_heads 0 0 [.ref 1] n σ τ θ q := SM.of _ rfl rfl (Nat.le_of_ble_eq_true rfl) h
set_option maxHeartbeats 4000000 in
set_option maxRecDepth 20000 in
theorem sgX9_image_0 {G : GG} {k : Nat} {q : Int32 → Nat → SG → TU → TH → Prop} {n : Nat} {σ : SG} {τ : TU} {θ : TH}   (hk : 3 ≤ k)  (hW : aw_WT n θ) (vc : SMi G 1 mX9_noDuchy 0 0 [.ref 1] n σ τ θ (fun a1 n1 σ1 τ1 θ1 => aw_WT n1 θ1 ∧ (((a1 = 0) → (SMi G 2 mX5_draw 0 0 [.ref 9, .ref 6] n1 σ1 τ1 θ1 (fun a2 n2 σ2 τ2 θ2 => aw_WT n2 θ2 ∧ (((¬ a2 = (-1 : Int32)) → (SMi G 1 mX9_grant 0 0 [.ref 1, .int a2] n2 σ2 τ2 θ2 (fun a3 n3 σ3 τ3 θ3 => aw_WT n3 θ3 ∧ (q a3 n3 σ3 τ3 θ3)))) ∧ ((a2 = (-1 : Int32)) → (SMi G 1 mX9_refuse 0 0 [.ref 1, .int (3 : Int32)] n2 σ2 τ2 θ2 (fun a4 n4 σ4 τ4 θ4 => aw_WT n4 θ4 ∧ (q a4 n4 σ4 τ4 θ4)))))))) ∧ ((¬ a1 = 0) → (SMi G 1 mX9_refuse 0 0 [.ref 1, .int (1 : Int32)] n1 σ1 τ1 θ1 (fun a5 n5 σ5 τ5 θ5 => aw_WT n5 θ5 ∧ (q a5 n5 σ5 τ5 θ5))))))) : SW G k mX9_image (aw_qi q) 0 0 0 [some (.ref 1), none] [] (n, σ, τ, θ) := by
  refine SW.aload_n dX9_image_0 rfl ?_
  refine SW.cvi0 kV_X9_134 (by omega) aw_cl9 kp_1 (by decide) (hW.le (by decide)) rfl (Nat.le_of_ble_eq_true rfl) dX9_image_1 (SMi.mono vc ?_)
  intro a1 n1 σ1 τ1 θ1 vc
  obtain ⟨hW, vc⟩ := vc
  refine SW.if_eq 13 dX9_image_4 (by decide) (fun hbr => ?_) (fun hbr => ?_)
  · replace vc := vc.1 hbr
    refine SW.aload_n dX9_image_13 rfl ?_
    refine SW.getS (f := 2) (r := 9) aw_cl9 kp_1 (by decide) (hW.le (by decide)) (by decide) ww_467 dX9_image_14 rfl hW.t1_2 ?_
    refine SW.aload_n dX9_image_17 rfl ?_
    refine SW.getS (f := 1) (r := 6) aw_cl9 kp_1 (by decide) (hW.le (by decide)) (by decide) ww_466 dX9_image_18 rfl hW.t1_1 ?_
    refine SW.cvi1 kV_X9_315 (by omega) aw_cl5 kp_9 (by decide) (hW.le (by decide)) rfl (Nat.le_of_ble_eq_true rfl) dX9_image_21 (SMi.mono vc ?_)
    intro a2 n2 σ2 τ2 θ2 vc
    obtain ⟨hW, vc⟩ := vc
    refine SW.istore_n dX9_image_24 (by decide) rfl rfl ?_
    refine SW.iload_n dX9_image_25 rfl ?_
    refine SW.iconst (v := (-1 : Int32)) dX9_image_26 (by decide) ?_
    refine SW.icmp_ne 38 dX9_image_27 (by decide) (fun hbr => ?_) (fun hbr => ?_)
    · replace vc := vc.1 hbr
      refine SW.aload_n dX9_image_38 rfl ?_
      refine SW.iload_n dX9_image_39 rfl ?_
      refine SW.cvi1 kV_X9_100 (by omega) aw_cl9 kp_1 (by decide) (hW.le (by decide)) rfl (Nat.le_of_ble_eq_true rfl) dX9_image_40 (SMi.mono vc ?_)
      intro a3 n3 σ3 τ3 θ3 vc
      obtain ⟨hW, vc⟩ := vc
      exact SW.iret dX9_image_43 rfl rfl ⟨_, rfl, vc⟩
    · replace vc := vc.2 hbr
      refine SW.aload_n dX9_image_30 rfl ?_
      refine SW.iconst (v := (3 : Int32)) dX9_image_31 (by decide) ?_
      refine SW.cvi1 kV_X9_82 (by omega) aw_cl9 kp_1 (by decide) (hW.le (by decide)) rfl (Nat.le_of_ble_eq_true rfl) dX9_image_32 (SMi.mono vc ?_)
      intro a4 n4 σ4 τ4 θ4 vc
      obtain ⟨hW, vc⟩ := vc
      refine SW.goto 43 dX9_image_35 (by decide) ?_
      exact SW.iret dX9_image_43 rfl rfl ⟨_, rfl, vc⟩
  · replace vc := vc.2 hbr
    refine SW.aload_n dX9_image_7 rfl ?_
    refine SW.iconst (v := (1 : Int32)) dX9_image_8 (by decide) ?_
    refine SW.cvi1 kV_X9_82 (by omega) aw_cl9 kp_1 (by decide) (hW.le (by decide)) rfl (Nat.le_of_ble_eq_true rfl) dX9_image_9 (SMi.mono vc ?_)
    intro a5 n5 σ5 τ5 θ5 vc
    obtain ⟨hW, vc⟩ := vc
    exact SW.iret dX9_image_12 rfl rfl ⟨_, rfl, vc⟩
theorem ctX9_image {G : GG} {q : Int32 → Nat → SG → TU → TH → Prop} {n : Nat} {σ : SG} {τ : TU} {θ : TH}  (h : SW G 3 mX9_image (aw_qi q) 0 0 0 [some (.ref 1), none] [] (n, σ, τ, θ)) : SMi G 3 mX9_image 0 0 [.ref 1] n σ τ θ q := SM.of _ rfl rfl (Nat.le_of_ble_eq_true rfl) h
set_option maxHeartbeats 4000000 in
set_option maxRecDepth 20000 in
theorem sgX9_isDebt_0 {G : GG} {k : Nat} {q : Int32 → Nat → SG → TU → TH → Prop} {n : Nat} {σ : SG} {τ : TU} {θ : TH}  (x1 : Int32) (hk : 1 ≤ k)  (hW : aw_WT n θ) (vc : ((x1 < 0) → (q (0 : Int32) n σ τ θ)) ∧ ((¬ x1 < 0) → ((((σ ((θ 1 7) + 8) 4) ≤ x1) → (q (0 : Int32) n σ τ θ)) ∧ ((¬ (σ ((θ 1 7) + 8) 4) ≤ x1) → (q (1 : Int32) n σ τ θ))))) : SW G k mX9_isDebt (aw_qi q) 0 0 0 [some (.ref 1), some (.int x1)] [] (n, σ, τ, θ) := by
  refine SW.iload_n dX9_isDebt_0 rfl ?_
  refine SW.if_lt 22 dX9_isDebt_1 (by decide) (fun hbr => ?_) (fun hbr => ?_)
  · replace vc := vc.1 hbr
    refine SW.iconst (v := (0 : Int32)) dX9_isDebt_22 (by decide) ?_
    exact SW.iret dX9_isDebt_23 rfl rfl ⟨_, rfl, vc⟩
  · replace vc := vc.2 hbr
    refine SW.iload_n dX9_isDebt_4 rfl ?_
    refine SW.aload_n dX9_isDebt_5 rfl ?_
    have hF1 := hW.f
    refine SW.getS (f := 7) (r := (θ 1 7)) aw_cl9 kp_1 (by decide) (hW.le (by decide)) (by decide) ww_472 dX9_isDebt_6 rfl rfl ?_
    refine SW.getS (f := 7) (r := (θ 1 7) + 8) aw_cl1 (kpF_0 hF1) (leF_0 hF1).1 (hW.le (leF_0 hF1).2) (by decide) ww_398 dX9_isDebt_9 rfl (hW.f7 hF1) ?_
    refine SW.getI (f := 4) aw_cl0 (kpF_8 hF1) (leF_8 hF1).1 (hW.le (leF_8 hF1).2) (by decide) ww_360 dX9_isDebt_12 rfl ?_
    refine SW.icmp_ge 22 dX9_isDebt_15 (by decide) (fun hbr => ?_) (fun hbr => ?_)
    · replace vc := vc.1 hbr
      refine SW.iconst (v := (0 : Int32)) dX9_isDebt_22 (by decide) ?_
      exact SW.iret dX9_isDebt_23 rfl rfl ⟨_, rfl, vc⟩
    · replace vc := vc.2 hbr
      refine SW.iconst (v := (1 : Int32)) dX9_isDebt_18 (by decide) ?_
      refine SW.goto 23 dX9_isDebt_19 (by decide) ?_
      exact SW.iret dX9_isDebt_23 rfl rfl ⟨_, rfl, vc⟩
theorem ctX9_isDebt {G : GG} {q : Int32 → Nat → SG → TU → TH → Prop} {n : Nat} {σ : SG} {τ : TU} {θ : TH} (x1 : Int32) (h : SW G 1 mX9_isDebt (aw_qi q) 0 0 0 [some (.ref 1), some (.int x1)] [] (n, σ, τ, θ)) : SMi G 1 mX9_isDebt 0 0 [.ref 1, .int x1] n σ τ θ q := SM.of _ rfl rfl (Nat.le_of_ble_eq_true rfl) h
set_option maxHeartbeats 4000000 in
set_option maxRecDepth 20000 in
theorem sgX9_isDoor_0 {G : GG} {k : Nat} {q : Int32 → Nat → SG → TU → TH → Prop} {n : Nat} {σ : SG} {τ : TU} {θ : TH}  (x1 : Int32) (hk : 1 ≤ k)  (hW : aw_WT n θ) (vc : ((x1 < 0) → (q (0 : Int32) n σ τ θ)) ∧ ((¬ x1 < 0) → ((((σ (θ 1 7) 14) ≤ x1) → (q (0 : Int32) n σ τ θ)) ∧ ((¬ (σ (θ 1 7) 14) ≤ x1) → (q (1 : Int32) n σ τ θ))))) : SW G k mX9_isDoor (aw_qi q) 0 0 0 [some (.ref 1), some (.int x1)] [] (n, σ, τ, θ) := by
  refine SW.iload_n dX9_isDoor_0 rfl ?_
  refine SW.if_lt 19 dX9_isDoor_1 (by decide) (fun hbr => ?_) (fun hbr => ?_)
  · replace vc := vc.1 hbr
    refine SW.iconst (v := (0 : Int32)) dX9_isDoor_19 (by decide) ?_
    exact SW.iret dX9_isDoor_20 rfl rfl ⟨_, rfl, vc⟩
  · replace vc := vc.2 hbr
    refine SW.iload_n dX9_isDoor_4 rfl ?_
    refine SW.aload_n dX9_isDoor_5 rfl ?_
    have hF1 := hW.f
    refine SW.getS (f := 7) (r := (θ 1 7)) aw_cl9 kp_1 (by decide) (hW.le (by decide)) (by decide) ww_472 dX9_isDoor_6 rfl rfl ?_
    refine SW.getI (f := 14) aw_cl1 (kpF_0 hF1) (leF_0 hF1).1 (hW.le (leF_0 hF1).2) (by decide) ww_427 dX9_isDoor_9 rfl ?_
    refine SW.icmp_ge 19 dX9_isDoor_12 (by decide) (fun hbr => ?_) (fun hbr => ?_)
    · replace vc := vc.1 hbr
      refine SW.iconst (v := (0 : Int32)) dX9_isDoor_19 (by decide) ?_
      exact SW.iret dX9_isDoor_20 rfl rfl ⟨_, rfl, vc⟩
    · replace vc := vc.2 hbr
      refine SW.iconst (v := (1 : Int32)) dX9_isDoor_15 (by decide) ?_
      refine SW.goto 20 dX9_isDoor_16 (by decide) ?_
      exact SW.iret dX9_isDoor_20 rfl rfl ⟨_, rfl, vc⟩
theorem ctX9_isDoor {G : GG} {q : Int32 → Nat → SG → TU → TH → Prop} {n : Nat} {σ : SG} {τ : TU} {θ : TH} (x1 : Int32) (h : SW G 1 mX9_isDoor (aw_qi q) 0 0 0 [some (.ref 1), some (.int x1)] [] (n, σ, τ, θ)) : SMi G 1 mX9_isDoor 0 0 [.ref 1, .int x1] n σ τ θ q := SM.of _ rfl rfl (Nat.le_of_ble_eq_true rfl) h
set_option maxHeartbeats 4000000 in
set_option maxRecDepth 20000 in
theorem sgX9_isFlight_0 {G : GG} {k : Nat} {q : Int32 → Nat → SG → TU → TH → Prop} {n : Nat} {σ : SG} {τ : TU} {θ : TH}  (x1 : Int32) (x2 : Int32) (hk : 1 ≤ k)  (hW : aw_WT n θ) (vc : ((x1 < 0) → (q (0 : Int32) n σ τ θ)) ∧ ((¬ x1 < 0) → ((((65536 : Int32) < x1) → (q (0 : Int32) n σ τ θ)) ∧ ((¬ (65536 : Int32) < x1) → (((x2 < 0) → (q (0 : Int32) n σ τ θ)) ∧ ((¬ x2 < 0) → ((((20 : Int32) < x2) → (q (0 : Int32) n σ τ θ)) ∧ ((¬ (20 : Int32) < x2) → (q (1 : Int32) n σ τ θ))))))))) : SW G k mX9_isFlight (aw_qi q) 0 0 0 [some (.ref 1), some (.int x1), some (.int x2)] [] (n, σ, τ, θ) := by
  refine SW.iload_n dX9_isFlight_0 rfl ?_
  refine SW.if_lt 25 dX9_isFlight_1 (by decide) (fun hbr => ?_) (fun hbr => ?_)
  · replace vc := vc.1 hbr
    refine SW.iconst (v := (0 : Int32)) dX9_isFlight_25 (by decide) ?_
    exact SW.iret dX9_isFlight_26 rfl rfl ⟨_, rfl, vc⟩
  · replace vc := vc.2 hbr
    refine SW.iload_n dX9_isFlight_4 rfl ?_
    refine SW.ldcw (v := (65536 : Int32)) ww_1079 dX9_isFlight_5 ?_
    refine SW.icmp_gt 25 dX9_isFlight_8 (by decide) (fun hbr => ?_) (fun hbr => ?_)
    · replace vc := vc.1 hbr
      refine SW.iconst (v := (0 : Int32)) dX9_isFlight_25 (by decide) ?_
      exact SW.iret dX9_isFlight_26 rfl rfl ⟨_, rfl, vc⟩
    · replace vc := vc.2 hbr
      refine SW.iload_n dX9_isFlight_11 rfl ?_
      refine SW.if_lt 25 dX9_isFlight_12 (by decide) (fun hbr => ?_) (fun hbr => ?_)
      · replace vc := vc.1 hbr
        refine SW.iconst (v := (0 : Int32)) dX9_isFlight_25 (by decide) ?_
        exact SW.iret dX9_isFlight_26 rfl rfl ⟨_, rfl, vc⟩
      · replace vc := vc.2 hbr
        refine SW.iload_n dX9_isFlight_15 rfl ?_
        refine SW.bipush (v := (20 : Int32)) dX9_isFlight_16 (by decide) ?_
        refine SW.icmp_gt 25 dX9_isFlight_18 (by decide) (fun hbr => ?_) (fun hbr => ?_)
        · replace vc := vc.1 hbr
          refine SW.iconst (v := (0 : Int32)) dX9_isFlight_25 (by decide) ?_
          exact SW.iret dX9_isFlight_26 rfl rfl ⟨_, rfl, vc⟩
        · replace vc := vc.2 hbr
          refine SW.iconst (v := (1 : Int32)) dX9_isFlight_21 (by decide) ?_
          refine SW.goto 26 dX9_isFlight_22 (by decide) ?_
          exact SW.iret dX9_isFlight_26 rfl rfl ⟨_, rfl, vc⟩
theorem ctX9_isFlight {G : GG} {q : Int32 → Nat → SG → TU → TH → Prop} {n : Nat} {σ : SG} {τ : TU} {θ : TH} (x1 : Int32) (x2 : Int32) (h : SW G 1 mX9_isFlight (aw_qi q) 0 0 0 [some (.ref 1), some (.int x1), some (.int x2)] [] (n, σ, τ, θ)) : SMi G 1 mX9_isFlight 0 0 [.ref 1, .int x1, .int x2] n σ τ θ q := SM.of _ rfl rfl (Nat.le_of_ble_eq_true rfl) h
set_option maxHeartbeats 4000000 in
set_option maxRecDepth 20000 in
theorem sgX9_isMan_0 {G : GG} {k : Nat} {q : Int32 → Nat → SG → TU → TH → Prop} {n : Nat} {σ : SG} {τ : TU} {θ : TH}  (x1 : Int32) (hk : 1 ≤ k)  (hW : aw_WT n θ) (vc : ((x1 < 0) → (q (0 : Int32) n σ τ θ)) ∧ ((¬ x1 < 0) → ((((σ (θ 1 7) 13) ≤ x1) → (q (0 : Int32) n σ τ θ)) ∧ ((¬ (σ (θ 1 7) 13) ≤ x1) → (q (1 : Int32) n σ τ θ))))) : SW G k mX9_isMan (aw_qi q) 0 0 0 [some (.ref 1), some (.int x1)] [] (n, σ, τ, θ) := by
  refine SW.iload_n dX9_isMan_0 rfl ?_
  refine SW.if_lt 19 dX9_isMan_1 (by decide) (fun hbr => ?_) (fun hbr => ?_)
  · replace vc := vc.1 hbr
    refine SW.iconst (v := (0 : Int32)) dX9_isMan_19 (by decide) ?_
    exact SW.iret dX9_isMan_20 rfl rfl ⟨_, rfl, vc⟩
  · replace vc := vc.2 hbr
    refine SW.iload_n dX9_isMan_4 rfl ?_
    refine SW.aload_n dX9_isMan_5 rfl ?_
    have hF1 := hW.f
    refine SW.getS (f := 7) (r := (θ 1 7)) aw_cl9 kp_1 (by decide) (hW.le (by decide)) (by decide) ww_472 dX9_isMan_6 rfl rfl ?_
    refine SW.getI (f := 13) aw_cl1 (kpF_0 hF1) (leF_0 hF1).1 (hW.le (leF_0 hF1).2) (by decide) ww_423 dX9_isMan_9 rfl ?_
    refine SW.icmp_ge 19 dX9_isMan_12 (by decide) (fun hbr => ?_) (fun hbr => ?_)
    · replace vc := vc.1 hbr
      refine SW.iconst (v := (0 : Int32)) dX9_isMan_19 (by decide) ?_
      exact SW.iret dX9_isMan_20 rfl rfl ⟨_, rfl, vc⟩
    · replace vc := vc.2 hbr
      refine SW.iconst (v := (1 : Int32)) dX9_isMan_15 (by decide) ?_
      refine SW.goto 20 dX9_isMan_16 (by decide) ?_
      exact SW.iret dX9_isMan_20 rfl rfl ⟨_, rfl, vc⟩
theorem ctX9_isMan {G : GG} {q : Int32 → Nat → SG → TU → TH → Prop} {n : Nat} {σ : SG} {τ : TU} {θ : TH} (x1 : Int32) (h : SW G 1 mX9_isMan (aw_qi q) 0 0 0 [some (.ref 1), some (.int x1)] [] (n, σ, τ, θ)) : SMi G 1 mX9_isMan 0 0 [.ref 1, .int x1] n σ τ θ q := SM.of _ rfl rfl (Nat.le_of_ble_eq_true rfl) h
set_option maxHeartbeats 4000000 in
set_option maxRecDepth 20000 in
theorem sgX9_isRest_0 {G : GG} {k : Nat} {q : Int32 → Nat → SG → TU → TH → Prop} {n : Nat} {σ : SG} {τ : TU} {θ : TH}  (x1 : Int32) (x2 : Int32) (x3 : Int32) (x4 : Int32) (hk : 2 ≤ k)  (hW : aw_WT n θ) (vc : (((x4 >>> ((1 : Int32) &&& 31)) = 0) → ((((x4 &&& (1 : Int32)) = 0) → (SMi G 1 mX9_share 0 0 [.ref 1, .int x1, .int x2, .int x3, .int (0 : Int32), .int (0 : Int32)] n σ τ θ (fun a1 n1 σ1 τ1 θ1 => aw_WT n1 θ1 ∧ (((¬ (0 : Int32) = 0) → (SMi G 1 mX9_share 0 0 [.ref 1, .int x1, .int x2, .int x3, .int (0 : Int32), .int (0 : Int32)] n1 σ1 τ1 θ1 (fun a2 n2 σ2 τ2 θ2 => aw_WT n2 θ2 ∧ (((a1 < a2) → (q (0 : Int32) n2 σ2 τ2 θ2)) ∧ ((¬ a1 < a2) → (SMi G 1 mX9_share 0 0 [.ref 1, .int x2, .int x1, .int x3, .int (0 : Int32), .int (0 : Int32)] n2 σ2 τ2 θ2 (fun a3 n3 σ3 τ3 θ3 => aw_WT n3 θ3 ∧ (((¬ (0 : Int32) = 0) → (SMi G 1 mX9_share 0 0 [.ref 1, .int x2, .int x1, .int x3, .int (0 : Int32), .int (0 : Int32)] n3 σ3 τ3 θ3 (fun a4 n4 σ4 τ4 θ4 => aw_WT n4 θ4 ∧ (((a3 < a4) → (q (0 : Int32) n4 σ4 τ4 θ4)) ∧ ((¬ a3 < a4) → (q (1 : Int32) n4 σ4 τ4 θ4)))))) ∧ (((0 : Int32) = 0) → (SMi G 1 mX9_share 0 0 [.ref 1, .int x2, .int x1, .int x3, .int (1 : Int32), .int (0 : Int32)] n3 σ3 τ3 θ3 (fun a5 n5 σ5 τ5 θ5 => aw_WT n5 θ5 ∧ (((a3 < a5) → (q (0 : Int32) n5 σ5 τ5 θ5)) ∧ ((¬ a3 < a5) → (q (1 : Int32) n5 σ5 τ5 θ5)))))))))))))) ∧ (((0 : Int32) = 0) → (SMi G 1 mX9_share 0 0 [.ref 1, .int x1, .int x2, .int x3, .int (1 : Int32), .int (0 : Int32)] n1 σ1 τ1 θ1 (fun a6 n6 σ6 τ6 θ6 => aw_WT n6 θ6 ∧ (((a1 < a6) → (q (0 : Int32) n6 σ6 τ6 θ6)) ∧ ((¬ a1 < a6) → (SMi G 1 mX9_share 0 0 [.ref 1, .int x2, .int x1, .int x3, .int (0 : Int32), .int (0 : Int32)] n6 σ6 τ6 θ6 (fun a7 n7 σ7 τ7 θ7 => aw_WT n7 θ7 ∧ (((¬ (0 : Int32) = 0) → (SMi G 1 mX9_share 0 0 [.ref 1, .int x2, .int x1, .int x3, .int (0 : Int32), .int (0 : Int32)] n7 σ7 τ7 θ7 (fun a8 n8 σ8 τ8 θ8 => aw_WT n8 θ8 ∧ (((a7 < a8) → (q (0 : Int32) n8 σ8 τ8 θ8)) ∧ ((¬ a7 < a8) → (q (1 : Int32) n8 σ8 τ8 θ8)))))) ∧ (((0 : Int32) = 0) → (SMi G 1 mX9_share 0 0 [.ref 1, .int x2, .int x1, .int x3, .int (1 : Int32), .int (0 : Int32)] n7 σ7 τ7 θ7 (fun a9 n9 σ9 τ9 θ9 => aw_WT n9 θ9 ∧ (((a7 < a9) → (q (0 : Int32) n9 σ9 τ9 θ9)) ∧ ((¬ a7 < a9) → (q (1 : Int32) n9 σ9 τ9 θ9)))))))))))))))))) ∧ ((¬ (x4 &&& (1 : Int32)) = 0) → (SMi G 1 mX9_share 0 0 [.ref 1, .int x1, .int x2, .int x3, .int (0 : Int32), .int (1 : Int32)] n σ τ θ (fun a10 n10 σ10 τ10 θ10 => aw_WT n10 θ10 ∧ (((¬ (0 : Int32) = 0) → (SMi G 1 mX9_share 0 0 [.ref 1, .int x1, .int x2, .int x3, .int (0 : Int32), .int (1 : Int32)] n10 σ10 τ10 θ10 (fun a11 n11 σ11 τ11 θ11 => aw_WT n11 θ11 ∧ (((a10 < a11) → (q (0 : Int32) n11 σ11 τ11 θ11)) ∧ ((¬ a10 < a11) → (SMi G 1 mX9_share 0 0 [.ref 1, .int x2, .int x1, .int x3, .int (1 : Int32), .int (0 : Int32)] n11 σ11 τ11 θ11 (fun a12 n12 σ12 τ12 θ12 => aw_WT n12 θ12 ∧ (((¬ (1 : Int32) = 0) → (SMi G 1 mX9_share 0 0 [.ref 1, .int x2, .int x1, .int x3, .int (0 : Int32), .int (0 : Int32)] n12 σ12 τ12 θ12 (fun a13 n13 σ13 τ13 θ13 => aw_WT n13 θ13 ∧ (((a12 < a13) → (q (0 : Int32) n13 σ13 τ13 θ13)) ∧ ((¬ a12 < a13) → (q (1 : Int32) n13 σ13 τ13 θ13)))))) ∧ (((1 : Int32) = 0) → (SMi G 1 mX9_share 0 0 [.ref 1, .int x2, .int x1, .int x3, .int (1 : Int32), .int (0 : Int32)] n12 σ12 τ12 θ12 (fun a14 n14 σ14 τ14 θ14 => aw_WT n14 θ14 ∧ (((a12 < a14) → (q (0 : Int32) n14 σ14 τ14 θ14)) ∧ ((¬ a12 < a14) → (q (1 : Int32) n14 σ14 τ14 θ14)))))))))))))) ∧ (((0 : Int32) = 0) → (SMi G 1 mX9_share 0 0 [.ref 1, .int x1, .int x2, .int x3, .int (1 : Int32), .int (1 : Int32)] n10 σ10 τ10 θ10 (fun a15 n15 σ15 τ15 θ15 => aw_WT n15 θ15 ∧ (((a10 < a15) → (q (0 : Int32) n15 σ15 τ15 θ15)) ∧ ((¬ a10 < a15) → (SMi G 1 mX9_share 0 0 [.ref 1, .int x2, .int x1, .int x3, .int (1 : Int32), .int (0 : Int32)] n15 σ15 τ15 θ15 (fun a16 n16 σ16 τ16 θ16 => aw_WT n16 θ16 ∧ (((¬ (1 : Int32) = 0) → (SMi G 1 mX9_share 0 0 [.ref 1, .int x2, .int x1, .int x3, .int (0 : Int32), .int (0 : Int32)] n16 σ16 τ16 θ16 (fun a17 n17 σ17 τ17 θ17 => aw_WT n17 θ17 ∧ (((a16 < a17) → (q (0 : Int32) n17 σ17 τ17 θ17)) ∧ ((¬ a16 < a17) → (q (1 : Int32) n17 σ17 τ17 θ17)))))) ∧ (((1 : Int32) = 0) → (SMi G 1 mX9_share 0 0 [.ref 1, .int x2, .int x1, .int x3, .int (1 : Int32), .int (0 : Int32)] n16 σ16 τ16 θ16 (fun a18 n18 σ18 τ18 θ18 => aw_WT n18 θ18 ∧ (((a16 < a18) → (q (0 : Int32) n18 σ18 τ18 θ18)) ∧ ((¬ a16 < a18) → (q (1 : Int32) n18 σ18 τ18 θ18)))))))))))))))))))) ∧ ((¬ (x4 >>> ((1 : Int32) &&& 31)) = 0) → ((((x4 &&& (1 : Int32)) = 0) → (SMi G 1 mX9_share 0 0 [.ref 1, .int x1, .int x2, .int x3, .int (1 : Int32), .int (0 : Int32)] n σ τ θ (fun a19 n19 σ19 τ19 θ19 => aw_WT n19 θ19 ∧ (((¬ (1 : Int32) = 0) → (SMi G 1 mX9_share 0 0 [.ref 1, .int x1, .int x2, .int x3, .int (0 : Int32), .int (0 : Int32)] n19 σ19 τ19 θ19 (fun a20 n20 σ20 τ20 θ20 => aw_WT n20 θ20 ∧ (((a19 < a20) → (q (0 : Int32) n20 σ20 τ20 θ20)) ∧ ((¬ a19 < a20) → (SMi G 1 mX9_share 0 0 [.ref 1, .int x2, .int x1, .int x3, .int (0 : Int32), .int (1 : Int32)] n20 σ20 τ20 θ20 (fun a21 n21 σ21 τ21 θ21 => aw_WT n21 θ21 ∧ (((¬ (0 : Int32) = 0) → (SMi G 1 mX9_share 0 0 [.ref 1, .int x2, .int x1, .int x3, .int (0 : Int32), .int (1 : Int32)] n21 σ21 τ21 θ21 (fun a22 n22 σ22 τ22 θ22 => aw_WT n22 θ22 ∧ (((a21 < a22) → (q (0 : Int32) n22 σ22 τ22 θ22)) ∧ ((¬ a21 < a22) → (q (1 : Int32) n22 σ22 τ22 θ22)))))) ∧ (((0 : Int32) = 0) → (SMi G 1 mX9_share 0 0 [.ref 1, .int x2, .int x1, .int x3, .int (1 : Int32), .int (1 : Int32)] n21 σ21 τ21 θ21 (fun a23 n23 σ23 τ23 θ23 => aw_WT n23 θ23 ∧ (((a21 < a23) → (q (0 : Int32) n23 σ23 τ23 θ23)) ∧ ((¬ a21 < a23) → (q (1 : Int32) n23 σ23 τ23 θ23)))))))))))))) ∧ (((1 : Int32) = 0) → (SMi G 1 mX9_share 0 0 [.ref 1, .int x1, .int x2, .int x3, .int (1 : Int32), .int (0 : Int32)] n19 σ19 τ19 θ19 (fun a24 n24 σ24 τ24 θ24 => aw_WT n24 θ24 ∧ (((a19 < a24) → (q (0 : Int32) n24 σ24 τ24 θ24)) ∧ ((¬ a19 < a24) → (SMi G 1 mX9_share 0 0 [.ref 1, .int x2, .int x1, .int x3, .int (0 : Int32), .int (1 : Int32)] n24 σ24 τ24 θ24 (fun a25 n25 σ25 τ25 θ25 => aw_WT n25 θ25 ∧ (((¬ (0 : Int32) = 0) → (SMi G 1 mX9_share 0 0 [.ref 1, .int x2, .int x1, .int x3, .int (0 : Int32), .int (1 : Int32)] n25 σ25 τ25 θ25 (fun a26 n26 σ26 τ26 θ26 => aw_WT n26 θ26 ∧ (((a25 < a26) → (q (0 : Int32) n26 σ26 τ26 θ26)) ∧ ((¬ a25 < a26) → (q (1 : Int32) n26 σ26 τ26 θ26)))))) ∧ (((0 : Int32) = 0) → (SMi G 1 mX9_share 0 0 [.ref 1, .int x2, .int x1, .int x3, .int (1 : Int32), .int (1 : Int32)] n25 σ25 τ25 θ25 (fun a27 n27 σ27 τ27 θ27 => aw_WT n27 θ27 ∧ (((a25 < a27) → (q (0 : Int32) n27 σ27 τ27 θ27)) ∧ ((¬ a25 < a27) → (q (1 : Int32) n27 σ27 τ27 θ27)))))))))))))))))) ∧ ((¬ (x4 &&& (1 : Int32)) = 0) → (SMi G 1 mX9_share 0 0 [.ref 1, .int x1, .int x2, .int x3, .int (1 : Int32), .int (1 : Int32)] n σ τ θ (fun a28 n28 σ28 τ28 θ28 => aw_WT n28 θ28 ∧ (((¬ (1 : Int32) = 0) → (SMi G 1 mX9_share 0 0 [.ref 1, .int x1, .int x2, .int x3, .int (0 : Int32), .int (1 : Int32)] n28 σ28 τ28 θ28 (fun a29 n29 σ29 τ29 θ29 => aw_WT n29 θ29 ∧ (((a28 < a29) → (q (0 : Int32) n29 σ29 τ29 θ29)) ∧ ((¬ a28 < a29) → (SMi G 1 mX9_share 0 0 [.ref 1, .int x2, .int x1, .int x3, .int (1 : Int32), .int (1 : Int32)] n29 σ29 τ29 θ29 (fun a30 n30 σ30 τ30 θ30 => aw_WT n30 θ30 ∧ (((¬ (1 : Int32) = 0) → (SMi G 1 mX9_share 0 0 [.ref 1, .int x2, .int x1, .int x3, .int (0 : Int32), .int (1 : Int32)] n30 σ30 τ30 θ30 (fun a31 n31 σ31 τ31 θ31 => aw_WT n31 θ31 ∧ (((a30 < a31) → (q (0 : Int32) n31 σ31 τ31 θ31)) ∧ ((¬ a30 < a31) → (q (1 : Int32) n31 σ31 τ31 θ31)))))) ∧ (((1 : Int32) = 0) → (SMi G 1 mX9_share 0 0 [.ref 1, .int x2, .int x1, .int x3, .int (1 : Int32), .int (1 : Int32)] n30 σ30 τ30 θ30 (fun a32 n32 σ32 τ32 θ32 => aw_WT n32 θ32 ∧ (((a30 < a32) → (q (0 : Int32) n32 σ32 τ32 θ32)) ∧ ((¬ a30 < a32) → (q (1 : Int32) n32 σ32 τ32 θ32)))))))))))))) ∧ (((1 : Int32) = 0) → (SMi G 1 mX9_share 0 0 [.ref 1, .int x1, .int x2, .int x3, .int (1 : Int32), .int (1 : Int32)] n28 σ28 τ28 θ28 (fun a33 n33 σ33 τ33 θ33 => aw_WT n33 θ33 ∧ (((a28 < a33) → (q (0 : Int32) n33 σ33 τ33 θ33)) ∧ ((¬ a28 < a33) → (SMi G 1 mX9_share 0 0 [.ref 1, .int x2, .int x1, .int x3, .int (1 : Int32), .int (1 : Int32)] n33 σ33 τ33 θ33 (fun a34 n34 σ34 τ34 θ34 => aw_WT n34 θ34 ∧ (((¬ (1 : Int32) = 0) → (SMi G 1 mX9_share 0 0 [.ref 1, .int x2, .int x1, .int x3, .int (0 : Int32), .int (1 : Int32)] n34 σ34 τ34 θ34 (fun a35 n35 σ35 τ35 θ35 => aw_WT n35 θ35 ∧ (((a34 < a35) → (q (0 : Int32) n35 σ35 τ35 θ35)) ∧ ((¬ a34 < a35) → (q (1 : Int32) n35 σ35 τ35 θ35)))))) ∧ (((1 : Int32) = 0) → (SMi G 1 mX9_share 0 0 [.ref 1, .int x2, .int x1, .int x3, .int (1 : Int32), .int (1 : Int32)] n34 σ34 τ34 θ34 (fun a36 n36 σ36 τ36 θ36 => aw_WT n36 θ36 ∧ (((a34 < a36) → (q (0 : Int32) n36 σ36 τ36 θ36)) ∧ ((¬ a34 < a36) → (q (1 : Int32) n36 σ36 τ36 θ36))))))))))))))))))))) : SW G k mX9_isRest (aw_qi q) 0 0 0 [some (.ref 1), some (.int x1), some (.int x2), some (.int x3), some (.int x4), none, none] [] (n, σ, τ, θ) := by
  refine SW.iload dX9_isRest_0 rfl ?_
  refine SW.iconst (v := (1 : Int32)) dX9_isRest_2 (by decide) ?_
  refine SW.ishr dX9_isRest_3 ?_
  refine SW.if_eq 11 dX9_isRest_4 (by decide) (fun hbr => ?_) (fun hbr => ?_)
  · replace vc := vc.1 hbr
    refine SW.iconst (v := (0 : Int32)) dX9_isRest_11 (by decide) ?_
    refine SW.istore dX9_isRest_12 (by decide) rfl rfl ?_
    refine SW.iload dX9_isRest_14 rfl ?_
    refine SW.iconst (v := (1 : Int32)) dX9_isRest_16 (by decide) ?_
    refine SW.iand dX9_isRest_17 ?_
    refine SW.if_eq 25 dX9_isRest_18 (by decide) (fun hbr => ?_) (fun hbr => ?_)
    · replace vc := vc.1 hbr
      refine SW.iconst (v := (0 : Int32)) dX9_isRest_25 (by decide) ?_
      refine SW.istore dX9_isRest_26 (by decide) rfl rfl ?_
      refine SW.aload_n dX9_isRest_28 rfl ?_
      refine SW.iload_n dX9_isRest_29 rfl ?_
      refine SW.iload_n dX9_isRest_30 rfl ?_
      refine SW.iload_n dX9_isRest_31 rfl ?_
      refine SW.iload dX9_isRest_32 rfl ?_
      refine SW.iload dX9_isRest_34 rfl ?_
      refine SW.cvi5 kV_X9_264 (by omega) aw_cl9 kp_1 (by decide) (hW.le (by decide)) rfl (Nat.le_of_ble_eq_true rfl) dX9_isRest_36 (SMi.mono vc ?_)
      intro a1 n1 σ1 τ1 θ1 vc
      obtain ⟨hW, vc⟩ := vc
      refine SW.aload_n dX9_isRest_39 rfl ?_
      refine SW.iload_n dX9_isRest_40 rfl ?_
      refine SW.iload_n dX9_isRest_41 rfl ?_
      refine SW.iload_n dX9_isRest_42 rfl ?_
      refine SW.iload dX9_isRest_43 rfl ?_
      refine SW.if_ne 52 dX9_isRest_45 (by decide) (fun hbr => ?_) (fun hbr => ?_)
      · replace vc := vc.1 hbr
        refine SW.iconst (v := (0 : Int32)) dX9_isRest_52 (by decide) ?_
        refine SW.iload dX9_isRest_53 rfl ?_
        refine SW.cvi5 kV_X9_264 (by omega) aw_cl9 kp_1 (by decide) (hW.le (by decide)) rfl (Nat.le_of_ble_eq_true rfl) dX9_isRest_55 (SMi.mono vc ?_)
        intro a2 n2 σ2 τ2 θ2 vc
        obtain ⟨hW, vc⟩ := vc
        refine SW.icmp_lt 98 dX9_isRest_58 (by decide) (fun hbr => ?_) (fun hbr => ?_)
        · replace vc := vc.1 hbr
          refine SW.iconst (v := (0 : Int32)) dX9_isRest_98 (by decide) ?_
          exact SW.iret dX9_isRest_99 rfl rfl ⟨_, rfl, vc⟩
        · replace vc := vc.2 hbr
          refine SW.aload_n dX9_isRest_61 rfl ?_
          refine SW.iload_n dX9_isRest_62 rfl ?_
          refine SW.iload_n dX9_isRest_63 rfl ?_
          refine SW.iload_n dX9_isRest_64 rfl ?_
          refine SW.iload dX9_isRest_65 rfl ?_
          refine SW.iload dX9_isRest_67 rfl ?_
          refine SW.cvi5 kV_X9_264 (by omega) aw_cl9 kp_1 (by decide) (hW.le (by decide)) rfl (Nat.le_of_ble_eq_true rfl) dX9_isRest_69 (SMi.mono vc ?_)
          intro a3 n3 σ3 τ3 θ3 vc
          obtain ⟨hW, vc⟩ := vc
          refine SW.aload_n dX9_isRest_72 rfl ?_
          refine SW.iload_n dX9_isRest_73 rfl ?_
          refine SW.iload_n dX9_isRest_74 rfl ?_
          refine SW.iload_n dX9_isRest_75 rfl ?_
          refine SW.iload dX9_isRest_76 rfl ?_
          refine SW.if_ne 85 dX9_isRest_78 (by decide) (fun hbr => ?_) (fun hbr => ?_)
          · replace vc := vc.1 hbr
            refine SW.iconst (v := (0 : Int32)) dX9_isRest_85 (by decide) ?_
            refine SW.iload dX9_isRest_86 rfl ?_
            refine SW.cvi5 kV_X9_264 (by omega) aw_cl9 kp_1 (by decide) (hW.le (by decide)) rfl (Nat.le_of_ble_eq_true rfl) dX9_isRest_88 (SMi.mono vc ?_)
            intro a4 n4 σ4 τ4 θ4 vc
            obtain ⟨hW, vc⟩ := vc
            refine SW.icmp_lt 98 dX9_isRest_91 (by decide) (fun hbr => ?_) (fun hbr => ?_)
            · replace vc := vc.1 hbr
              refine SW.iconst (v := (0 : Int32)) dX9_isRest_98 (by decide) ?_
              exact SW.iret dX9_isRest_99 rfl rfl ⟨_, rfl, vc⟩
            · replace vc := vc.2 hbr
              refine SW.iconst (v := (1 : Int32)) dX9_isRest_94 (by decide) ?_
              refine SW.goto 99 dX9_isRest_95 (by decide) ?_
              exact SW.iret dX9_isRest_99 rfl rfl ⟨_, rfl, vc⟩
          · replace vc := vc.2 hbr
            refine SW.iconst (v := (1 : Int32)) dX9_isRest_81 (by decide) ?_
            refine SW.goto 86 dX9_isRest_82 (by decide) ?_
            refine SW.iload dX9_isRest_86 rfl ?_
            refine SW.cvi5 kV_X9_264 (by omega) aw_cl9 kp_1 (by decide) (hW.le (by decide)) rfl (Nat.le_of_ble_eq_true rfl) dX9_isRest_88 (SMi.mono vc ?_)
            intro a5 n5 σ5 τ5 θ5 vc
            obtain ⟨hW, vc⟩ := vc
            refine SW.icmp_lt 98 dX9_isRest_91 (by decide) (fun hbr => ?_) (fun hbr => ?_)
            · replace vc := vc.1 hbr
              refine SW.iconst (v := (0 : Int32)) dX9_isRest_98 (by decide) ?_
              exact SW.iret dX9_isRest_99 rfl rfl ⟨_, rfl, vc⟩
            · replace vc := vc.2 hbr
              refine SW.iconst (v := (1 : Int32)) dX9_isRest_94 (by decide) ?_
              refine SW.goto 99 dX9_isRest_95 (by decide) ?_
              exact SW.iret dX9_isRest_99 rfl rfl ⟨_, rfl, vc⟩
      · replace vc := vc.2 hbr
        refine SW.iconst (v := (1 : Int32)) dX9_isRest_48 (by decide) ?_
        refine SW.goto 53 dX9_isRest_49 (by decide) ?_
        refine SW.iload dX9_isRest_53 rfl ?_
        refine SW.cvi5 kV_X9_264 (by omega) aw_cl9 kp_1 (by decide) (hW.le (by decide)) rfl (Nat.le_of_ble_eq_true rfl) dX9_isRest_55 (SMi.mono vc ?_)
        intro a6 n6 σ6 τ6 θ6 vc
        obtain ⟨hW, vc⟩ := vc
        refine SW.icmp_lt 98 dX9_isRest_58 (by decide) (fun hbr => ?_) (fun hbr => ?_)
        · replace vc := vc.1 hbr
          refine SW.iconst (v := (0 : Int32)) dX9_isRest_98 (by decide) ?_
          exact SW.iret dX9_isRest_99 rfl rfl ⟨_, rfl, vc⟩
        · replace vc := vc.2 hbr
          refine SW.aload_n dX9_isRest_61 rfl ?_
          refine SW.iload_n dX9_isRest_62 rfl ?_
          refine SW.iload_n dX9_isRest_63 rfl ?_
          refine SW.iload_n dX9_isRest_64 rfl ?_
          refine SW.iload dX9_isRest_65 rfl ?_
          refine SW.iload dX9_isRest_67 rfl ?_
          refine SW.cvi5 kV_X9_264 (by omega) aw_cl9 kp_1 (by decide) (hW.le (by decide)) rfl (Nat.le_of_ble_eq_true rfl) dX9_isRest_69 (SMi.mono vc ?_)
          intro a7 n7 σ7 τ7 θ7 vc
          obtain ⟨hW, vc⟩ := vc
          refine SW.aload_n dX9_isRest_72 rfl ?_
          refine SW.iload_n dX9_isRest_73 rfl ?_
          refine SW.iload_n dX9_isRest_74 rfl ?_
          refine SW.iload_n dX9_isRest_75 rfl ?_
          refine SW.iload dX9_isRest_76 rfl ?_
          refine SW.if_ne 85 dX9_isRest_78 (by decide) (fun hbr => ?_) (fun hbr => ?_)
          · replace vc := vc.1 hbr
            refine SW.iconst (v := (0 : Int32)) dX9_isRest_85 (by decide) ?_
            refine SW.iload dX9_isRest_86 rfl ?_
            refine SW.cvi5 kV_X9_264 (by omega) aw_cl9 kp_1 (by decide) (hW.le (by decide)) rfl (Nat.le_of_ble_eq_true rfl) dX9_isRest_88 (SMi.mono vc ?_)
            intro a8 n8 σ8 τ8 θ8 vc
            obtain ⟨hW, vc⟩ := vc
            refine SW.icmp_lt 98 dX9_isRest_91 (by decide) (fun hbr => ?_) (fun hbr => ?_)
            · replace vc := vc.1 hbr
              refine SW.iconst (v := (0 : Int32)) dX9_isRest_98 (by decide) ?_
              exact SW.iret dX9_isRest_99 rfl rfl ⟨_, rfl, vc⟩
            · replace vc := vc.2 hbr
              refine SW.iconst (v := (1 : Int32)) dX9_isRest_94 (by decide) ?_
              refine SW.goto 99 dX9_isRest_95 (by decide) ?_
              exact SW.iret dX9_isRest_99 rfl rfl ⟨_, rfl, vc⟩
          · replace vc := vc.2 hbr
            refine SW.iconst (v := (1 : Int32)) dX9_isRest_81 (by decide) ?_
            refine SW.goto 86 dX9_isRest_82 (by decide) ?_
            refine SW.iload dX9_isRest_86 rfl ?_
            refine SW.cvi5 kV_X9_264 (by omega) aw_cl9 kp_1 (by decide) (hW.le (by decide)) rfl (Nat.le_of_ble_eq_true rfl) dX9_isRest_88 (SMi.mono vc ?_)
            intro a9 n9 σ9 τ9 θ9 vc
            obtain ⟨hW, vc⟩ := vc
            refine SW.icmp_lt 98 dX9_isRest_91 (by decide) (fun hbr => ?_) (fun hbr => ?_)
            · replace vc := vc.1 hbr
              refine SW.iconst (v := (0 : Int32)) dX9_isRest_98 (by decide) ?_
              exact SW.iret dX9_isRest_99 rfl rfl ⟨_, rfl, vc⟩
            · replace vc := vc.2 hbr
              refine SW.iconst (v := (1 : Int32)) dX9_isRest_94 (by decide) ?_
              refine SW.goto 99 dX9_isRest_95 (by decide) ?_
              exact SW.iret dX9_isRest_99 rfl rfl ⟨_, rfl, vc⟩
    · replace vc := vc.2 hbr
      refine SW.iconst (v := (1 : Int32)) dX9_isRest_21 (by decide) ?_
      refine SW.goto 26 dX9_isRest_22 (by decide) ?_
      refine SW.istore dX9_isRest_26 (by decide) rfl rfl ?_
      refine SW.aload_n dX9_isRest_28 rfl ?_
      refine SW.iload_n dX9_isRest_29 rfl ?_
      refine SW.iload_n dX9_isRest_30 rfl ?_
      refine SW.iload_n dX9_isRest_31 rfl ?_
      refine SW.iload dX9_isRest_32 rfl ?_
      refine SW.iload dX9_isRest_34 rfl ?_
      refine SW.cvi5 kV_X9_264 (by omega) aw_cl9 kp_1 (by decide) (hW.le (by decide)) rfl (Nat.le_of_ble_eq_true rfl) dX9_isRest_36 (SMi.mono vc ?_)
      intro a10 n10 σ10 τ10 θ10 vc
      obtain ⟨hW, vc⟩ := vc
      refine SW.aload_n dX9_isRest_39 rfl ?_
      refine SW.iload_n dX9_isRest_40 rfl ?_
      refine SW.iload_n dX9_isRest_41 rfl ?_
      refine SW.iload_n dX9_isRest_42 rfl ?_
      refine SW.iload dX9_isRest_43 rfl ?_
      refine SW.if_ne 52 dX9_isRest_45 (by decide) (fun hbr => ?_) (fun hbr => ?_)
      · replace vc := vc.1 hbr
        refine SW.iconst (v := (0 : Int32)) dX9_isRest_52 (by decide) ?_
        refine SW.iload dX9_isRest_53 rfl ?_
        refine SW.cvi5 kV_X9_264 (by omega) aw_cl9 kp_1 (by decide) (hW.le (by decide)) rfl (Nat.le_of_ble_eq_true rfl) dX9_isRest_55 (SMi.mono vc ?_)
        intro a11 n11 σ11 τ11 θ11 vc
        obtain ⟨hW, vc⟩ := vc
        refine SW.icmp_lt 98 dX9_isRest_58 (by decide) (fun hbr => ?_) (fun hbr => ?_)
        · replace vc := vc.1 hbr
          refine SW.iconst (v := (0 : Int32)) dX9_isRest_98 (by decide) ?_
          exact SW.iret dX9_isRest_99 rfl rfl ⟨_, rfl, vc⟩
        · replace vc := vc.2 hbr
          refine SW.aload_n dX9_isRest_61 rfl ?_
          refine SW.iload_n dX9_isRest_62 rfl ?_
          refine SW.iload_n dX9_isRest_63 rfl ?_
          refine SW.iload_n dX9_isRest_64 rfl ?_
          refine SW.iload dX9_isRest_65 rfl ?_
          refine SW.iload dX9_isRest_67 rfl ?_
          refine SW.cvi5 kV_X9_264 (by omega) aw_cl9 kp_1 (by decide) (hW.le (by decide)) rfl (Nat.le_of_ble_eq_true rfl) dX9_isRest_69 (SMi.mono vc ?_)
          intro a12 n12 σ12 τ12 θ12 vc
          obtain ⟨hW, vc⟩ := vc
          refine SW.aload_n dX9_isRest_72 rfl ?_
          refine SW.iload_n dX9_isRest_73 rfl ?_
          refine SW.iload_n dX9_isRest_74 rfl ?_
          refine SW.iload_n dX9_isRest_75 rfl ?_
          refine SW.iload dX9_isRest_76 rfl ?_
          refine SW.if_ne 85 dX9_isRest_78 (by decide) (fun hbr => ?_) (fun hbr => ?_)
          · replace vc := vc.1 hbr
            refine SW.iconst (v := (0 : Int32)) dX9_isRest_85 (by decide) ?_
            refine SW.iload dX9_isRest_86 rfl ?_
            refine SW.cvi5 kV_X9_264 (by omega) aw_cl9 kp_1 (by decide) (hW.le (by decide)) rfl (Nat.le_of_ble_eq_true rfl) dX9_isRest_88 (SMi.mono vc ?_)
            intro a13 n13 σ13 τ13 θ13 vc
            obtain ⟨hW, vc⟩ := vc
            refine SW.icmp_lt 98 dX9_isRest_91 (by decide) (fun hbr => ?_) (fun hbr => ?_)
            · replace vc := vc.1 hbr
              refine SW.iconst (v := (0 : Int32)) dX9_isRest_98 (by decide) ?_
              exact SW.iret dX9_isRest_99 rfl rfl ⟨_, rfl, vc⟩
            · replace vc := vc.2 hbr
              refine SW.iconst (v := (1 : Int32)) dX9_isRest_94 (by decide) ?_
              refine SW.goto 99 dX9_isRest_95 (by decide) ?_
              exact SW.iret dX9_isRest_99 rfl rfl ⟨_, rfl, vc⟩
          · replace vc := vc.2 hbr
            refine SW.iconst (v := (1 : Int32)) dX9_isRest_81 (by decide) ?_
            refine SW.goto 86 dX9_isRest_82 (by decide) ?_
            refine SW.iload dX9_isRest_86 rfl ?_
            refine SW.cvi5 kV_X9_264 (by omega) aw_cl9 kp_1 (by decide) (hW.le (by decide)) rfl (Nat.le_of_ble_eq_true rfl) dX9_isRest_88 (SMi.mono vc ?_)
            intro a14 n14 σ14 τ14 θ14 vc
            obtain ⟨hW, vc⟩ := vc
            refine SW.icmp_lt 98 dX9_isRest_91 (by decide) (fun hbr => ?_) (fun hbr => ?_)
            · replace vc := vc.1 hbr
              refine SW.iconst (v := (0 : Int32)) dX9_isRest_98 (by decide) ?_
              exact SW.iret dX9_isRest_99 rfl rfl ⟨_, rfl, vc⟩
            · replace vc := vc.2 hbr
              refine SW.iconst (v := (1 : Int32)) dX9_isRest_94 (by decide) ?_
              refine SW.goto 99 dX9_isRest_95 (by decide) ?_
              exact SW.iret dX9_isRest_99 rfl rfl ⟨_, rfl, vc⟩
      · replace vc := vc.2 hbr
        refine SW.iconst (v := (1 : Int32)) dX9_isRest_48 (by decide) ?_
        refine SW.goto 53 dX9_isRest_49 (by decide) ?_
        refine SW.iload dX9_isRest_53 rfl ?_
        refine SW.cvi5 kV_X9_264 (by omega) aw_cl9 kp_1 (by decide) (hW.le (by decide)) rfl (Nat.le_of_ble_eq_true rfl) dX9_isRest_55 (SMi.mono vc ?_)
        intro a15 n15 σ15 τ15 θ15 vc
        obtain ⟨hW, vc⟩ := vc
        refine SW.icmp_lt 98 dX9_isRest_58 (by decide) (fun hbr => ?_) (fun hbr => ?_)
        · replace vc := vc.1 hbr
          refine SW.iconst (v := (0 : Int32)) dX9_isRest_98 (by decide) ?_
          exact SW.iret dX9_isRest_99 rfl rfl ⟨_, rfl, vc⟩
        · replace vc := vc.2 hbr
          refine SW.aload_n dX9_isRest_61 rfl ?_
          refine SW.iload_n dX9_isRest_62 rfl ?_
          refine SW.iload_n dX9_isRest_63 rfl ?_
          refine SW.iload_n dX9_isRest_64 rfl ?_
          refine SW.iload dX9_isRest_65 rfl ?_
          refine SW.iload dX9_isRest_67 rfl ?_
          refine SW.cvi5 kV_X9_264 (by omega) aw_cl9 kp_1 (by decide) (hW.le (by decide)) rfl (Nat.le_of_ble_eq_true rfl) dX9_isRest_69 (SMi.mono vc ?_)
          intro a16 n16 σ16 τ16 θ16 vc
          obtain ⟨hW, vc⟩ := vc
          refine SW.aload_n dX9_isRest_72 rfl ?_
          refine SW.iload_n dX9_isRest_73 rfl ?_
          refine SW.iload_n dX9_isRest_74 rfl ?_
          refine SW.iload_n dX9_isRest_75 rfl ?_
          refine SW.iload dX9_isRest_76 rfl ?_
          refine SW.if_ne 85 dX9_isRest_78 (by decide) (fun hbr => ?_) (fun hbr => ?_)
          · replace vc := vc.1 hbr
            refine SW.iconst (v := (0 : Int32)) dX9_isRest_85 (by decide) ?_
            refine SW.iload dX9_isRest_86 rfl ?_
            refine SW.cvi5 kV_X9_264 (by omega) aw_cl9 kp_1 (by decide) (hW.le (by decide)) rfl (Nat.le_of_ble_eq_true rfl) dX9_isRest_88 (SMi.mono vc ?_)
            intro a17 n17 σ17 τ17 θ17 vc
            obtain ⟨hW, vc⟩ := vc
            refine SW.icmp_lt 98 dX9_isRest_91 (by decide) (fun hbr => ?_) (fun hbr => ?_)
            · replace vc := vc.1 hbr
              refine SW.iconst (v := (0 : Int32)) dX9_isRest_98 (by decide) ?_
              exact SW.iret dX9_isRest_99 rfl rfl ⟨_, rfl, vc⟩
            · replace vc := vc.2 hbr
              refine SW.iconst (v := (1 : Int32)) dX9_isRest_94 (by decide) ?_
              refine SW.goto 99 dX9_isRest_95 (by decide) ?_
              exact SW.iret dX9_isRest_99 rfl rfl ⟨_, rfl, vc⟩
          · replace vc := vc.2 hbr
            refine SW.iconst (v := (1 : Int32)) dX9_isRest_81 (by decide) ?_
            refine SW.goto 86 dX9_isRest_82 (by decide) ?_
            refine SW.iload dX9_isRest_86 rfl ?_
            refine SW.cvi5 kV_X9_264 (by omega) aw_cl9 kp_1 (by decide) (hW.le (by decide)) rfl (Nat.le_of_ble_eq_true rfl) dX9_isRest_88 (SMi.mono vc ?_)
            intro a18 n18 σ18 τ18 θ18 vc
            obtain ⟨hW, vc⟩ := vc
            refine SW.icmp_lt 98 dX9_isRest_91 (by decide) (fun hbr => ?_) (fun hbr => ?_)
            · replace vc := vc.1 hbr
              refine SW.iconst (v := (0 : Int32)) dX9_isRest_98 (by decide) ?_
              exact SW.iret dX9_isRest_99 rfl rfl ⟨_, rfl, vc⟩
            · replace vc := vc.2 hbr
              refine SW.iconst (v := (1 : Int32)) dX9_isRest_94 (by decide) ?_
              refine SW.goto 99 dX9_isRest_95 (by decide) ?_
              exact SW.iret dX9_isRest_99 rfl rfl ⟨_, rfl, vc⟩
  · replace vc := vc.2 hbr
    refine SW.iconst (v := (1 : Int32)) dX9_isRest_7 (by decide) ?_
    refine SW.goto 12 dX9_isRest_8 (by decide) ?_
    refine SW.istore dX9_isRest_12 (by decide) rfl rfl ?_
    refine SW.iload dX9_isRest_14 rfl ?_
    refine SW.iconst (v := (1 : Int32)) dX9_isRest_16 (by decide) ?_
    refine SW.iand dX9_isRest_17 ?_
    refine SW.if_eq 25 dX9_isRest_18 (by decide) (fun hbr => ?_) (fun hbr => ?_)
    · replace vc := vc.1 hbr
      refine SW.iconst (v := (0 : Int32)) dX9_isRest_25 (by decide) ?_
      refine SW.istore dX9_isRest_26 (by decide) rfl rfl ?_
      refine SW.aload_n dX9_isRest_28 rfl ?_
      refine SW.iload_n dX9_isRest_29 rfl ?_
      refine SW.iload_n dX9_isRest_30 rfl ?_
      refine SW.iload_n dX9_isRest_31 rfl ?_
      refine SW.iload dX9_isRest_32 rfl ?_
      refine SW.iload dX9_isRest_34 rfl ?_
      refine SW.cvi5 kV_X9_264 (by omega) aw_cl9 kp_1 (by decide) (hW.le (by decide)) rfl (Nat.le_of_ble_eq_true rfl) dX9_isRest_36 (SMi.mono vc ?_)
      intro a19 n19 σ19 τ19 θ19 vc
      obtain ⟨hW, vc⟩ := vc
      refine SW.aload_n dX9_isRest_39 rfl ?_
      refine SW.iload_n dX9_isRest_40 rfl ?_
      refine SW.iload_n dX9_isRest_41 rfl ?_
      refine SW.iload_n dX9_isRest_42 rfl ?_
      refine SW.iload dX9_isRest_43 rfl ?_
      refine SW.if_ne 52 dX9_isRest_45 (by decide) (fun hbr => ?_) (fun hbr => ?_)
      · replace vc := vc.1 hbr
        refine SW.iconst (v := (0 : Int32)) dX9_isRest_52 (by decide) ?_
        refine SW.iload dX9_isRest_53 rfl ?_
        refine SW.cvi5 kV_X9_264 (by omega) aw_cl9 kp_1 (by decide) (hW.le (by decide)) rfl (Nat.le_of_ble_eq_true rfl) dX9_isRest_55 (SMi.mono vc ?_)
        intro a20 n20 σ20 τ20 θ20 vc
        obtain ⟨hW, vc⟩ := vc
        refine SW.icmp_lt 98 dX9_isRest_58 (by decide) (fun hbr => ?_) (fun hbr => ?_)
        · replace vc := vc.1 hbr
          refine SW.iconst (v := (0 : Int32)) dX9_isRest_98 (by decide) ?_
          exact SW.iret dX9_isRest_99 rfl rfl ⟨_, rfl, vc⟩
        · replace vc := vc.2 hbr
          refine SW.aload_n dX9_isRest_61 rfl ?_
          refine SW.iload_n dX9_isRest_62 rfl ?_
          refine SW.iload_n dX9_isRest_63 rfl ?_
          refine SW.iload_n dX9_isRest_64 rfl ?_
          refine SW.iload dX9_isRest_65 rfl ?_
          refine SW.iload dX9_isRest_67 rfl ?_
          refine SW.cvi5 kV_X9_264 (by omega) aw_cl9 kp_1 (by decide) (hW.le (by decide)) rfl (Nat.le_of_ble_eq_true rfl) dX9_isRest_69 (SMi.mono vc ?_)
          intro a21 n21 σ21 τ21 θ21 vc
          obtain ⟨hW, vc⟩ := vc
          refine SW.aload_n dX9_isRest_72 rfl ?_
          refine SW.iload_n dX9_isRest_73 rfl ?_
          refine SW.iload_n dX9_isRest_74 rfl ?_
          refine SW.iload_n dX9_isRest_75 rfl ?_
          refine SW.iload dX9_isRest_76 rfl ?_
          refine SW.if_ne 85 dX9_isRest_78 (by decide) (fun hbr => ?_) (fun hbr => ?_)
          · replace vc := vc.1 hbr
            refine SW.iconst (v := (0 : Int32)) dX9_isRest_85 (by decide) ?_
            refine SW.iload dX9_isRest_86 rfl ?_
            refine SW.cvi5 kV_X9_264 (by omega) aw_cl9 kp_1 (by decide) (hW.le (by decide)) rfl (Nat.le_of_ble_eq_true rfl) dX9_isRest_88 (SMi.mono vc ?_)
            intro a22 n22 σ22 τ22 θ22 vc
            obtain ⟨hW, vc⟩ := vc
            refine SW.icmp_lt 98 dX9_isRest_91 (by decide) (fun hbr => ?_) (fun hbr => ?_)
            · replace vc := vc.1 hbr
              refine SW.iconst (v := (0 : Int32)) dX9_isRest_98 (by decide) ?_
              exact SW.iret dX9_isRest_99 rfl rfl ⟨_, rfl, vc⟩
            · replace vc := vc.2 hbr
              refine SW.iconst (v := (1 : Int32)) dX9_isRest_94 (by decide) ?_
              refine SW.goto 99 dX9_isRest_95 (by decide) ?_
              exact SW.iret dX9_isRest_99 rfl rfl ⟨_, rfl, vc⟩
          · replace vc := vc.2 hbr
            refine SW.iconst (v := (1 : Int32)) dX9_isRest_81 (by decide) ?_
            refine SW.goto 86 dX9_isRest_82 (by decide) ?_
            refine SW.iload dX9_isRest_86 rfl ?_
            refine SW.cvi5 kV_X9_264 (by omega) aw_cl9 kp_1 (by decide) (hW.le (by decide)) rfl (Nat.le_of_ble_eq_true rfl) dX9_isRest_88 (SMi.mono vc ?_)
            intro a23 n23 σ23 τ23 θ23 vc
            obtain ⟨hW, vc⟩ := vc
            refine SW.icmp_lt 98 dX9_isRest_91 (by decide) (fun hbr => ?_) (fun hbr => ?_)
            · replace vc := vc.1 hbr
              refine SW.iconst (v := (0 : Int32)) dX9_isRest_98 (by decide) ?_
              exact SW.iret dX9_isRest_99 rfl rfl ⟨_, rfl, vc⟩
            · replace vc := vc.2 hbr
              refine SW.iconst (v := (1 : Int32)) dX9_isRest_94 (by decide) ?_
              refine SW.goto 99 dX9_isRest_95 (by decide) ?_
              exact SW.iret dX9_isRest_99 rfl rfl ⟨_, rfl, vc⟩
      · replace vc := vc.2 hbr
        refine SW.iconst (v := (1 : Int32)) dX9_isRest_48 (by decide) ?_
        refine SW.goto 53 dX9_isRest_49 (by decide) ?_
        refine SW.iload dX9_isRest_53 rfl ?_
        refine SW.cvi5 kV_X9_264 (by omega) aw_cl9 kp_1 (by decide) (hW.le (by decide)) rfl (Nat.le_of_ble_eq_true rfl) dX9_isRest_55 (SMi.mono vc ?_)
        intro a24 n24 σ24 τ24 θ24 vc
        obtain ⟨hW, vc⟩ := vc
        refine SW.icmp_lt 98 dX9_isRest_58 (by decide) (fun hbr => ?_) (fun hbr => ?_)
        · replace vc := vc.1 hbr
          refine SW.iconst (v := (0 : Int32)) dX9_isRest_98 (by decide) ?_
          exact SW.iret dX9_isRest_99 rfl rfl ⟨_, rfl, vc⟩
        · replace vc := vc.2 hbr
          refine SW.aload_n dX9_isRest_61 rfl ?_
          refine SW.iload_n dX9_isRest_62 rfl ?_
          refine SW.iload_n dX9_isRest_63 rfl ?_
          refine SW.iload_n dX9_isRest_64 rfl ?_
          refine SW.iload dX9_isRest_65 rfl ?_
          refine SW.iload dX9_isRest_67 rfl ?_
          refine SW.cvi5 kV_X9_264 (by omega) aw_cl9 kp_1 (by decide) (hW.le (by decide)) rfl (Nat.le_of_ble_eq_true rfl) dX9_isRest_69 (SMi.mono vc ?_)
          intro a25 n25 σ25 τ25 θ25 vc
          obtain ⟨hW, vc⟩ := vc
          refine SW.aload_n dX9_isRest_72 rfl ?_
          refine SW.iload_n dX9_isRest_73 rfl ?_
          refine SW.iload_n dX9_isRest_74 rfl ?_
          refine SW.iload_n dX9_isRest_75 rfl ?_
          refine SW.iload dX9_isRest_76 rfl ?_
          refine SW.if_ne 85 dX9_isRest_78 (by decide) (fun hbr => ?_) (fun hbr => ?_)
          · replace vc := vc.1 hbr
            refine SW.iconst (v := (0 : Int32)) dX9_isRest_85 (by decide) ?_
            refine SW.iload dX9_isRest_86 rfl ?_
            refine SW.cvi5 kV_X9_264 (by omega) aw_cl9 kp_1 (by decide) (hW.le (by decide)) rfl (Nat.le_of_ble_eq_true rfl) dX9_isRest_88 (SMi.mono vc ?_)
            intro a26 n26 σ26 τ26 θ26 vc
            obtain ⟨hW, vc⟩ := vc
            refine SW.icmp_lt 98 dX9_isRest_91 (by decide) (fun hbr => ?_) (fun hbr => ?_)
            · replace vc := vc.1 hbr
              refine SW.iconst (v := (0 : Int32)) dX9_isRest_98 (by decide) ?_
              exact SW.iret dX9_isRest_99 rfl rfl ⟨_, rfl, vc⟩
            · replace vc := vc.2 hbr
              refine SW.iconst (v := (1 : Int32)) dX9_isRest_94 (by decide) ?_
              refine SW.goto 99 dX9_isRest_95 (by decide) ?_
              exact SW.iret dX9_isRest_99 rfl rfl ⟨_, rfl, vc⟩
          · replace vc := vc.2 hbr
            refine SW.iconst (v := (1 : Int32)) dX9_isRest_81 (by decide) ?_
            refine SW.goto 86 dX9_isRest_82 (by decide) ?_
            refine SW.iload dX9_isRest_86 rfl ?_
            refine SW.cvi5 kV_X9_264 (by omega) aw_cl9 kp_1 (by decide) (hW.le (by decide)) rfl (Nat.le_of_ble_eq_true rfl) dX9_isRest_88 (SMi.mono vc ?_)
            intro a27 n27 σ27 τ27 θ27 vc
            obtain ⟨hW, vc⟩ := vc
            refine SW.icmp_lt 98 dX9_isRest_91 (by decide) (fun hbr => ?_) (fun hbr => ?_)
            · replace vc := vc.1 hbr
              refine SW.iconst (v := (0 : Int32)) dX9_isRest_98 (by decide) ?_
              exact SW.iret dX9_isRest_99 rfl rfl ⟨_, rfl, vc⟩
            · replace vc := vc.2 hbr
              refine SW.iconst (v := (1 : Int32)) dX9_isRest_94 (by decide) ?_
              refine SW.goto 99 dX9_isRest_95 (by decide) ?_
              exact SW.iret dX9_isRest_99 rfl rfl ⟨_, rfl, vc⟩
    · replace vc := vc.2 hbr
      refine SW.iconst (v := (1 : Int32)) dX9_isRest_21 (by decide) ?_
      refine SW.goto 26 dX9_isRest_22 (by decide) ?_
      refine SW.istore dX9_isRest_26 (by decide) rfl rfl ?_
      refine SW.aload_n dX9_isRest_28 rfl ?_
      refine SW.iload_n dX9_isRest_29 rfl ?_
      refine SW.iload_n dX9_isRest_30 rfl ?_
      refine SW.iload_n dX9_isRest_31 rfl ?_
      refine SW.iload dX9_isRest_32 rfl ?_
      refine SW.iload dX9_isRest_34 rfl ?_
      refine SW.cvi5 kV_X9_264 (by omega) aw_cl9 kp_1 (by decide) (hW.le (by decide)) rfl (Nat.le_of_ble_eq_true rfl) dX9_isRest_36 (SMi.mono vc ?_)
      intro a28 n28 σ28 τ28 θ28 vc
      obtain ⟨hW, vc⟩ := vc
      refine SW.aload_n dX9_isRest_39 rfl ?_
      refine SW.iload_n dX9_isRest_40 rfl ?_
      refine SW.iload_n dX9_isRest_41 rfl ?_
      refine SW.iload_n dX9_isRest_42 rfl ?_
      refine SW.iload dX9_isRest_43 rfl ?_
      refine SW.if_ne 52 dX9_isRest_45 (by decide) (fun hbr => ?_) (fun hbr => ?_)
      · replace vc := vc.1 hbr
        refine SW.iconst (v := (0 : Int32)) dX9_isRest_52 (by decide) ?_
        refine SW.iload dX9_isRest_53 rfl ?_
        refine SW.cvi5 kV_X9_264 (by omega) aw_cl9 kp_1 (by decide) (hW.le (by decide)) rfl (Nat.le_of_ble_eq_true rfl) dX9_isRest_55 (SMi.mono vc ?_)
        intro a29 n29 σ29 τ29 θ29 vc
        obtain ⟨hW, vc⟩ := vc
        refine SW.icmp_lt 98 dX9_isRest_58 (by decide) (fun hbr => ?_) (fun hbr => ?_)
        · replace vc := vc.1 hbr
          refine SW.iconst (v := (0 : Int32)) dX9_isRest_98 (by decide) ?_
          exact SW.iret dX9_isRest_99 rfl rfl ⟨_, rfl, vc⟩
        · replace vc := vc.2 hbr
          refine SW.aload_n dX9_isRest_61 rfl ?_
          refine SW.iload_n dX9_isRest_62 rfl ?_
          refine SW.iload_n dX9_isRest_63 rfl ?_
          refine SW.iload_n dX9_isRest_64 rfl ?_
          refine SW.iload dX9_isRest_65 rfl ?_
          refine SW.iload dX9_isRest_67 rfl ?_
          refine SW.cvi5 kV_X9_264 (by omega) aw_cl9 kp_1 (by decide) (hW.le (by decide)) rfl (Nat.le_of_ble_eq_true rfl) dX9_isRest_69 (SMi.mono vc ?_)
          intro a30 n30 σ30 τ30 θ30 vc
          obtain ⟨hW, vc⟩ := vc
          refine SW.aload_n dX9_isRest_72 rfl ?_
          refine SW.iload_n dX9_isRest_73 rfl ?_
          refine SW.iload_n dX9_isRest_74 rfl ?_
          refine SW.iload_n dX9_isRest_75 rfl ?_
          refine SW.iload dX9_isRest_76 rfl ?_
          refine SW.if_ne 85 dX9_isRest_78 (by decide) (fun hbr => ?_) (fun hbr => ?_)
          · replace vc := vc.1 hbr
            refine SW.iconst (v := (0 : Int32)) dX9_isRest_85 (by decide) ?_
            refine SW.iload dX9_isRest_86 rfl ?_
            refine SW.cvi5 kV_X9_264 (by omega) aw_cl9 kp_1 (by decide) (hW.le (by decide)) rfl (Nat.le_of_ble_eq_true rfl) dX9_isRest_88 (SMi.mono vc ?_)
            intro a31 n31 σ31 τ31 θ31 vc
            obtain ⟨hW, vc⟩ := vc
            refine SW.icmp_lt 98 dX9_isRest_91 (by decide) (fun hbr => ?_) (fun hbr => ?_)
            · replace vc := vc.1 hbr
              refine SW.iconst (v := (0 : Int32)) dX9_isRest_98 (by decide) ?_
              exact SW.iret dX9_isRest_99 rfl rfl ⟨_, rfl, vc⟩
            · replace vc := vc.2 hbr
              refine SW.iconst (v := (1 : Int32)) dX9_isRest_94 (by decide) ?_
              refine SW.goto 99 dX9_isRest_95 (by decide) ?_
              exact SW.iret dX9_isRest_99 rfl rfl ⟨_, rfl, vc⟩
          · replace vc := vc.2 hbr
            refine SW.iconst (v := (1 : Int32)) dX9_isRest_81 (by decide) ?_
            refine SW.goto 86 dX9_isRest_82 (by decide) ?_
            refine SW.iload dX9_isRest_86 rfl ?_
            refine SW.cvi5 kV_X9_264 (by omega) aw_cl9 kp_1 (by decide) (hW.le (by decide)) rfl (Nat.le_of_ble_eq_true rfl) dX9_isRest_88 (SMi.mono vc ?_)
            intro a32 n32 σ32 τ32 θ32 vc
            obtain ⟨hW, vc⟩ := vc
            refine SW.icmp_lt 98 dX9_isRest_91 (by decide) (fun hbr => ?_) (fun hbr => ?_)
            · replace vc := vc.1 hbr
              refine SW.iconst (v := (0 : Int32)) dX9_isRest_98 (by decide) ?_
              exact SW.iret dX9_isRest_99 rfl rfl ⟨_, rfl, vc⟩
            · replace vc := vc.2 hbr
              refine SW.iconst (v := (1 : Int32)) dX9_isRest_94 (by decide) ?_
              refine SW.goto 99 dX9_isRest_95 (by decide) ?_
              exact SW.iret dX9_isRest_99 rfl rfl ⟨_, rfl, vc⟩
      · replace vc := vc.2 hbr
        refine SW.iconst (v := (1 : Int32)) dX9_isRest_48 (by decide) ?_
        refine SW.goto 53 dX9_isRest_49 (by decide) ?_
        refine SW.iload dX9_isRest_53 rfl ?_
        refine SW.cvi5 kV_X9_264 (by omega) aw_cl9 kp_1 (by decide) (hW.le (by decide)) rfl (Nat.le_of_ble_eq_true rfl) dX9_isRest_55 (SMi.mono vc ?_)
        intro a33 n33 σ33 τ33 θ33 vc
        obtain ⟨hW, vc⟩ := vc
        refine SW.icmp_lt 98 dX9_isRest_58 (by decide) (fun hbr => ?_) (fun hbr => ?_)
        · replace vc := vc.1 hbr
          refine SW.iconst (v := (0 : Int32)) dX9_isRest_98 (by decide) ?_
          exact SW.iret dX9_isRest_99 rfl rfl ⟨_, rfl, vc⟩
        · replace vc := vc.2 hbr
          refine SW.aload_n dX9_isRest_61 rfl ?_
          refine SW.iload_n dX9_isRest_62 rfl ?_
          refine SW.iload_n dX9_isRest_63 rfl ?_
          refine SW.iload_n dX9_isRest_64 rfl ?_
          refine SW.iload dX9_isRest_65 rfl ?_
          refine SW.iload dX9_isRest_67 rfl ?_
          refine SW.cvi5 kV_X9_264 (by omega) aw_cl9 kp_1 (by decide) (hW.le (by decide)) rfl (Nat.le_of_ble_eq_true rfl) dX9_isRest_69 (SMi.mono vc ?_)
          intro a34 n34 σ34 τ34 θ34 vc
          obtain ⟨hW, vc⟩ := vc
          refine SW.aload_n dX9_isRest_72 rfl ?_
          refine SW.iload_n dX9_isRest_73 rfl ?_
          refine SW.iload_n dX9_isRest_74 rfl ?_
          refine SW.iload_n dX9_isRest_75 rfl ?_
          refine SW.iload dX9_isRest_76 rfl ?_
          refine SW.if_ne 85 dX9_isRest_78 (by decide) (fun hbr => ?_) (fun hbr => ?_)
          · replace vc := vc.1 hbr
            refine SW.iconst (v := (0 : Int32)) dX9_isRest_85 (by decide) ?_
            refine SW.iload dX9_isRest_86 rfl ?_
            refine SW.cvi5 kV_X9_264 (by omega) aw_cl9 kp_1 (by decide) (hW.le (by decide)) rfl (Nat.le_of_ble_eq_true rfl) dX9_isRest_88 (SMi.mono vc ?_)
            intro a35 n35 σ35 τ35 θ35 vc
            obtain ⟨hW, vc⟩ := vc
            refine SW.icmp_lt 98 dX9_isRest_91 (by decide) (fun hbr => ?_) (fun hbr => ?_)
            · replace vc := vc.1 hbr
              refine SW.iconst (v := (0 : Int32)) dX9_isRest_98 (by decide) ?_
              exact SW.iret dX9_isRest_99 rfl rfl ⟨_, rfl, vc⟩
            · replace vc := vc.2 hbr
              refine SW.iconst (v := (1 : Int32)) dX9_isRest_94 (by decide) ?_
              refine SW.goto 99 dX9_isRest_95 (by decide) ?_
              exact SW.iret dX9_isRest_99 rfl rfl ⟨_, rfl, vc⟩
          · replace vc := vc.2 hbr
            refine SW.iconst (v := (1 : Int32)) dX9_isRest_81 (by decide) ?_
            refine SW.goto 86 dX9_isRest_82 (by decide) ?_
            refine SW.iload dX9_isRest_86 rfl ?_
            refine SW.cvi5 kV_X9_264 (by omega) aw_cl9 kp_1 (by decide) (hW.le (by decide)) rfl (Nat.le_of_ble_eq_true rfl) dX9_isRest_88 (SMi.mono vc ?_)
            intro a36 n36 σ36 τ36 θ36 vc
            obtain ⟨hW, vc⟩ := vc
            refine SW.icmp_lt 98 dX9_isRest_91 (by decide) (fun hbr => ?_) (fun hbr => ?_)
            · replace vc := vc.1 hbr
              refine SW.iconst (v := (0 : Int32)) dX9_isRest_98 (by decide) ?_
              exact SW.iret dX9_isRest_99 rfl rfl ⟨_, rfl, vc⟩
            · replace vc := vc.2 hbr
              refine SW.iconst (v := (1 : Int32)) dX9_isRest_94 (by decide) ?_
              refine SW.goto 99 dX9_isRest_95 (by decide) ?_
              exact SW.iret dX9_isRest_99 rfl rfl ⟨_, rfl, vc⟩
theorem ctX9_isRest {G : GG} {q : Int32 → Nat → SG → TU → TH → Prop} {n : Nat} {σ : SG} {τ : TU} {θ : TH} (x1 : Int32) (x2 : Int32) (x3 : Int32) (x4 : Int32) (h : SW G 2 mX9_isRest (aw_qi q) 0 0 0 [some (.ref 1), some (.int x1), some (.int x2), some (.int x3), some (.int x4), none, none] [] (n, σ, τ, θ)) : SMi G 2 mX9_isRest 0 0 [.ref 1, .int x1, .int x2, .int x3, .int x4] n σ τ θ q := SM.of _ rfl rfl (Nat.le_of_ble_eq_true rfl) h
set_option maxHeartbeats 4000000 in
set_option maxRecDepth 20000 in
theorem sgX9_judge_0 {G : GG} {k : Nat} {q : Int32 → Nat → SG → TU → TH → Prop} {n : Nat} {σ : SG} {τ : TU} {θ : TH}   (hk : 5 ≤ k)  (hW : aw_WT n θ) (vc : SMi G 1 mX9_noDuchy 0 0 [.ref 1] n σ τ θ (fun a1 n1 σ1 τ1 θ1 => aw_WT n1 θ1 ∧ (((a1 = 0) → (SW G k mX9_judge (aw_qi q) 0 0 15 [some (.ref 1), some (.int (0 : Int32))] [] (n1, σ1, τ1, θ1))) ∧ ((¬ a1 = 0) → (SMi G 1 mX9_refuse 0 0 [.ref 1, .int (1 : Int32)] n1 σ1 τ1 θ1 (fun a2 n2 σ2 τ2 θ2 => aw_WT n2 θ2 ∧ (q a2 n2 σ2 τ2 θ2))))))) : SW G k mX9_judge (aw_qi q) 0 0 0 [some (.ref 1), none] [] (n, σ, τ, θ) := by
  refine SW.aload_n dX9_judge_0 rfl ?_
  refine SW.cvi0 kV_X9_134 (by omega) aw_cl9 kp_1 (by decide) (hW.le (by decide)) rfl (Nat.le_of_ble_eq_true rfl) dX9_judge_1 (SMi.mono vc ?_)
  intro a1 n1 σ1 τ1 θ1 vc
  obtain ⟨hW, vc⟩ := vc
  refine SW.if_eq 13 dX9_judge_4 (by decide) (fun hbr => ?_) (fun hbr => ?_)
  · replace vc := vc.1 hbr
    refine SW.iconst (v := (0 : Int32)) dX9_judge_13 (by decide) ?_
    refine SW.istore_n dX9_judge_14 (by decide) rfl rfl ?_
    exact vc
  · replace vc := vc.2 hbr
    refine SW.aload_n dX9_judge_7 rfl ?_
    refine SW.iconst (v := (1 : Int32)) dX9_judge_8 (by decide) ?_
    refine SW.cvi1 kV_X9_82 (by omega) aw_cl9 kp_1 (by decide) (hW.le (by decide)) rfl (Nat.le_of_ble_eq_true rfl) dX9_judge_9 (SMi.mono vc ?_)
    intro a2 n2 σ2 τ2 θ2 vc
    obtain ⟨hW, vc⟩ := vc
    exact SW.iret dX9_judge_12 rfl rfl ⟨_, rfl, vc⟩
set_option maxHeartbeats 4000000 in
set_option maxRecDepth 20000 in
theorem sgX9_judge_15 {G : GG} {k : Nat} {q : Int32 → Nat → SG → TU → TH → Prop} {n : Nat} {σ : SG} {τ : TU} {θ : TH}  (x1 : Int32) (hk : 5 ≤ k)  (hW : aw_WT n θ) (vc : (((σ (θ 1 7) 15) ≤ x1) → (SMi G 1 mX9_grant 0 0 [.ref 1, .int (-2 : Int32)] n σ τ θ (fun a2 n2 σ2 τ2 θ2 => aw_WT n2 θ2 ∧ (q a2 n2 σ2 τ2 θ2)))) ∧ ((¬ (σ (θ 1 7) 15) ≤ x1) → (vp_in x1 4 ∧ (SMi G 4 mX9_headNow 0 0 [.ref 1, .int (σ ((θ 1 7) + 6) x1.toNatClampNeg)] n σ τ θ (fun a5 n5 σ5 τ5 θ5 => aw_WT n5 θ5 ∧ (SMi G 1 mX1_readingWeight 0 0 [.ref (θ 1 7), .int x1, .int a5] n5 σ5 τ5 θ5 (fun a6 n6 σ6 τ6 θ6 => aw_WT n6 θ6 ∧ (((¬ a6 = 0) → (SW G k mX9_judge (aw_qi q) 0 0 15 [some (.ref 1), some (.int (x1 + (1 : Int32)))] [] (n6, σ6, τ6, θ6))) ∧ ((a6 = 0) → (SMi G 1 mX9_grant 0 0 [.ref 1, .int x1] n6 σ6 τ6 θ6 (fun a7 n7 σ7 τ7 θ7 => aw_WT n7 θ7 ∧ (q a7 n7 σ7 τ7 θ7)))))))))))) : SW G k mX9_judge (aw_qi q) 0 0 15 [some (.ref 1), some (.int x1)] [] (n, σ, τ, θ) := by
  refine SW.iload_n dX9_judge_15 rfl ?_
  refine SW.aload_n dX9_judge_16 rfl ?_
  have hF1 := hW.f
  refine SW.getS (f := 7) (r := (θ 1 7)) aw_cl9 kp_1 (by decide) (hW.le (by decide)) (by decide) ww_472 dX9_judge_17 rfl rfl ?_
  refine SW.getI (f := 15) aw_cl1 (kpF_0 hF1) (leF_0 hF1).1 (hW.le (leF_0 hF1).2) (by decide) ww_431 dX9_judge_20 rfl ?_
  refine SW.icmp_ge 62 dX9_judge_23 (by decide) (fun hbr => ?_) (fun hbr => ?_)
  · replace vc := vc.1 hbr
    refine SW.aload_n dX9_judge_62 rfl ?_
    refine SW.bipush (v := (-2 : Int32)) dX9_judge_63 (by decide) ?_
    refine SW.cvi1 kV_X9_100 (by omega) aw_cl9 kp_1 (by decide) (hW.le (by decide)) rfl (Nat.le_of_ble_eq_true rfl) dX9_judge_65 (SMi.mono vc ?_)
    intro a2 n2 σ2 τ2 θ2 vc
    obtain ⟨hW, vc⟩ := vc
    exact SW.iret dX9_judge_68 rfl rfl ⟨_, rfl, vc⟩
  · replace vc := vc.2 hbr
    refine SW.aload_n dX9_judge_26 rfl ?_
    have hF3 := hW.f
    refine SW.getS (f := 7) (r := (θ 1 7)) aw_cl9 kp_1 (by decide) (hW.le (by decide)) (by decide) ww_472 dX9_judge_27 rfl rfl ?_
    refine SW.iload_n dX9_judge_30 rfl ?_
    refine SW.aload_n dX9_judge_31 rfl ?_
    refine SW.aload_n dX9_judge_32 rfl ?_
    have hF4 := hW.f
    refine SW.getS (f := 7) (r := (θ 1 7)) aw_cl9 kp_1 (by decide) (hW.le (by decide)) (by decide) ww_472 dX9_judge_33 rfl rfl ?_
    refine SW.getS (f := 5) (r := (θ 1 7) + 6) aw_cl1 (kpF_0 hF4) (leF_0 hF4).1 (hW.le (leF_0 hF4).2) (by decide) ww_390 dX9_judge_36 rfl (hW.f5 hF4) ?_
    refine SW.iload_n dX9_judge_39 rfl ?_
    refine SW.iald (kpF_6 hF4) (leF_6 hF4).1 (hW.le (leF_6 hF4).2) vc.1 dX9_judge_40 ?_
    replace vc := vc.2
    refine SW.cvi1 kV_X9_144 (by omega) aw_cl9 kp_1 (by decide) (hW.le (by decide)) rfl (Nat.le_of_ble_eq_true rfl) dX9_judge_41 (SMi.mono vc ?_)
    intro a5 n5 σ5 τ5 θ5 vc
    obtain ⟨hW, vc⟩ := vc
    refine SW.cvi2 kV_X9_257 (by omega) aw_cl1 (kpF_0 hF3) (leF_0 hF3).1 (hW.le (leF_0 hF3).2) rfl (Nat.le_of_ble_eq_true rfl) dX9_judge_44 (SMi.mono vc ?_)
    intro a6 n6 σ6 τ6 θ6 vc
    obtain ⟨hW, vc⟩ := vc
    refine SW.if_ne 56 dX9_judge_47 (by decide) (fun hbr => ?_) (fun hbr => ?_)
    · replace vc := vc.1 hbr
      refine SW.iinc (v := (x1 + (1 : Int32))) dX9_judge_56 rfl rfl (by decide) rfl rfl ?_
      refine SW.goto 15 dX9_judge_59 (by decide) ?_
      exact vc
    · replace vc := vc.2 hbr
      refine SW.aload_n dX9_judge_50 rfl ?_
      refine SW.iload_n dX9_judge_51 rfl ?_
      refine SW.cvi1 kV_X9_100 (by omega) aw_cl9 kp_1 (by decide) (hW.le (by decide)) rfl (Nat.le_of_ble_eq_true rfl) dX9_judge_52 (SMi.mono vc ?_)
      intro a7 n7 σ7 τ7 θ7 vc
      obtain ⟨hW, vc⟩ := vc
      exact SW.iret dX9_judge_55 rfl rfl ⟨_, rfl, vc⟩
theorem ctX9_judge {G : GG} {q : Int32 → Nat → SG → TU → TH → Prop} {n : Nat} {σ : SG} {τ : TU} {θ : TH}  (h : SW G 5 mX9_judge (aw_qi q) 0 0 0 [some (.ref 1), none] [] (n, σ, τ, θ)) : SMi G 5 mX9_judge 0 0 [.ref 1] n σ τ θ q := SM.of _ rfl rfl (Nat.le_of_ble_eq_true rfl) h
set_option maxHeartbeats 4000000 in
set_option maxRecDepth 20000 in
theorem sgX9_leastWidth_0 {G : GG} {k : Nat} {q : Int32 → Nat → SG → TU → TH → Prop} {n : Nat} {σ : SG} {τ : TU} {θ : TH}  (x1 : Int32) (hk : 5 ≤ k)  (hW : aw_WT n θ) (vc : SMi G 4 mX1_menWithin 0 0 [.ref (θ 1 7), .ref 6, .int (0 : Int32)] n σ τ θ (fun a2 n2 σ2 τ2 θ2 => aw_WT n2 θ2 ∧ (((a2 < x1) → (SW G k mX9_leastWidth (aw_qi q) 0 0 22 [some (.ref 1), some (.int x1), some (.int (-1 : Int32)), some (.int (0 : Int32)), none] [] (n2, σ2, τ2, θ2))) ∧ ((¬ a2 < x1) → (q (0 : Int32) n2 σ2 τ2 θ2))))) : SW G k mX9_leastWidth (aw_qi q) 0 0 0 [some (.ref 1), some (.int x1), none, none, none] [] (n, σ, τ, θ) := by
  refine SW.aload_n dX9_leastWidth_0 rfl ?_
  have hF1 := hW.f
  refine SW.getS (f := 7) (r := (θ 1 7)) aw_cl9 kp_1 (by decide) (hW.le (by decide)) (by decide) ww_472 dX9_leastWidth_1 rfl rfl ?_
  refine SW.aload_n dX9_leastWidth_4 rfl ?_
  refine SW.getS (f := 1) (r := 6) aw_cl9 kp_1 (by decide) (hW.le (by decide)) (by decide) ww_466 dX9_leastWidth_5 rfl hW.t1_1 ?_
  refine SW.iconst (v := (0 : Int32)) dX9_leastWidth_8 (by decide) ?_
  refine SW.cvi2 kV_X9_372 (by omega) aw_cl1 (kpF_0 hF1) (leF_0 hF1).1 (hW.le (leF_0 hF1).2) rfl (Nat.le_of_ble_eq_true rfl) dX9_leastWidth_9 (SMi.mono vc ?_)
  intro a2 n2 σ2 τ2 θ2 vc
  obtain ⟨hW, vc⟩ := vc
  refine SW.iload_n dX9_leastWidth_12 rfl ?_
  refine SW.icmp_lt 18 dX9_leastWidth_13 (by decide) (fun hbr => ?_) (fun hbr => ?_)
  · replace vc := vc.1 hbr
    refine SW.iconst (v := (-1 : Int32)) dX9_leastWidth_18 (by decide) ?_
    refine SW.istore_n dX9_leastWidth_19 (by decide) rfl rfl ?_
    refine SW.iconst (v := (0 : Int32)) dX9_leastWidth_20 (by decide) ?_
    refine SW.istore_n dX9_leastWidth_21 (by decide) rfl rfl ?_
    exact vc
  · replace vc := vc.2 hbr
    refine SW.iconst (v := (0 : Int32)) dX9_leastWidth_16 (by decide) ?_
    exact SW.iret dX9_leastWidth_17 rfl rfl ⟨_, rfl, vc⟩
set_option maxHeartbeats 4000000 in
set_option maxRecDepth 20000 in
theorem sgX9_leastWidth_22 {G : GG} {k : Nat} {q : Int32 → Nat → SG → TU → TH → Prop} {n : Nat} {σ : SG} {τ : TU} {θ : TH}  (x1 : Int32) (x2 : Int32) (x3 : Int32) (hk : 5 ≤ k)  (hW : aw_WT n θ) (vc : (((σ (θ 1 7) 13) ≤ x3) → (q x2 n σ τ θ)) ∧ ((¬ (σ (θ 1 7) 13) ≤ x3) → (SMi G 4 mX9_headNow 0 0 [.ref 1, .int x3] n σ τ θ (fun a2 n2 σ2 τ2 θ2 => aw_WT n2 θ2 ∧ (SMi G 4 mX1_menWithin 0 0 [.ref (θ2 1 7), .ref 6, .int a2] n2 σ2 τ2 θ2 (fun a4 n4 σ4 τ4 θ4 => aw_WT n4 θ4 ∧ (((a4 < x1) → (SW G k mX9_leastWidth (aw_qi q) 0 0 22 [some (.ref 1), some (.int x1), some (.int x2), some (.int (x3 + (1 : Int32))), none] [] (n4, σ4, τ4, θ4))) ∧ ((¬ a4 < x1) → (((x2 = (-1 : Int32)) → (SW G k mX9_leastWidth (aw_qi q) 0 0 22 [some (.ref 1), some (.int x1), some (.int a2), some (.int (x3 + (1 : Int32))), none] [] (n4, σ4, τ4, θ4))) ∧ ((¬ x2 = (-1 : Int32)) → (((x2 ≤ a2) → (SW G k mX9_leastWidth (aw_qi q) 0 0 22 [some (.ref 1), some (.int x1), some (.int x2), some (.int (x3 + (1 : Int32))), none] [] (n4, σ4, τ4, θ4))) ∧ ((¬ x2 ≤ a2) → (SW G k mX9_leastWidth (aw_qi q) 0 0 22 [some (.ref 1), some (.int x1), some (.int a2), some (.int (x3 + (1 : Int32))), none] [] (n4, σ4, τ4, θ4)))))))))))))) : SW G k mX9_leastWidth (aw_qi q) 0 0 22 [some (.ref 1), some (.int x1), some (.int x2), some (.int x3), none] [] (n, σ, τ, θ) := by
  refine SW.iload_n dX9_leastWidth_22 rfl ?_
  refine SW.aload_n dX9_leastWidth_23 rfl ?_
  have hF1 := hW.f
  refine SW.getS (f := 7) (r := (θ 1 7)) aw_cl9 kp_1 (by decide) (hW.le (by decide)) (by decide) ww_472 dX9_leastWidth_24 rfl rfl ?_
  refine SW.getI (f := 13) aw_cl1 (kpF_0 hF1) (leF_0 hF1).1 (hW.le (leF_0 hF1).2) (by decide) ww_423 dX9_leastWidth_27 rfl ?_
  refine SW.icmp_ge 77 dX9_leastWidth_30 (by decide) (fun hbr => ?_) (fun hbr => ?_)
  · replace vc := vc.1 hbr
    refine SW.iload_n dX9_leastWidth_77 rfl ?_
    exact SW.iret dX9_leastWidth_78 rfl rfl ⟨_, rfl, vc⟩
  · replace vc := vc.2 hbr
    refine SW.aload_n dX9_leastWidth_33 rfl ?_
    refine SW.iload_n dX9_leastWidth_34 rfl ?_
    refine SW.cvi1 kV_X9_144 (by omega) aw_cl9 kp_1 (by decide) (hW.le (by decide)) rfl (Nat.le_of_ble_eq_true rfl) dX9_leastWidth_35 (SMi.mono vc ?_)
    intro a2 n2 σ2 τ2 θ2 vc
    obtain ⟨hW, vc⟩ := vc
    refine SW.istore dX9_leastWidth_38 (by decide) rfl rfl ?_
    refine SW.aload_n dX9_leastWidth_40 rfl ?_
    have hF3 := hW.f
    refine SW.getS (f := 7) (r := (θ2 1 7)) aw_cl9 kp_1 (by decide) (hW.le (by decide)) (by decide) ww_472 dX9_leastWidth_41 rfl rfl ?_
    refine SW.aload_n dX9_leastWidth_44 rfl ?_
    refine SW.getS (f := 1) (r := 6) aw_cl9 kp_1 (by decide) (hW.le (by decide)) (by decide) ww_466 dX9_leastWidth_45 rfl hW.t1_1 ?_
    refine SW.iload dX9_leastWidth_48 rfl ?_
    refine SW.cvi2 kV_X9_372 (by omega) aw_cl1 (kpF_0 hF3) (leF_0 hF3).1 (hW.le (leF_0 hF3).2) rfl (Nat.le_of_ble_eq_true rfl) dX9_leastWidth_50 (SMi.mono vc ?_)
    intro a4 n4 σ4 τ4 θ4 vc
    obtain ⟨hW, vc⟩ := vc
    refine SW.iload_n dX9_leastWidth_53 rfl ?_
    refine SW.icmp_lt 71 dX9_leastWidth_54 (by decide) (fun hbr => ?_) (fun hbr => ?_)
    · replace vc := vc.1 hbr
      refine SW.iinc (v := (x3 + (1 : Int32))) dX9_leastWidth_71 rfl rfl (by decide) rfl rfl ?_
      refine SW.goto 22 dX9_leastWidth_74 (by decide) ?_
      refine SW.msk [true, true, true, true, false] rfl ?_
      exact vc
    · replace vc := vc.2 hbr
      refine SW.iload_n dX9_leastWidth_57 rfl ?_
      refine SW.iconst (v := (-1 : Int32)) dX9_leastWidth_58 (by decide) ?_
      refine SW.icmp_eq 68 dX9_leastWidth_59 (by decide) (fun hbr => ?_) (fun hbr => ?_)
      · replace vc := vc.1 hbr
        refine SW.iload dX9_leastWidth_68 rfl ?_
        refine SW.istore_n dX9_leastWidth_70 (by decide) rfl rfl ?_
        refine SW.iinc (v := (x3 + (1 : Int32))) dX9_leastWidth_71 rfl rfl (by decide) rfl rfl ?_
        refine SW.goto 22 dX9_leastWidth_74 (by decide) ?_
        refine SW.msk [true, true, true, true, false] rfl ?_
        exact vc
      · replace vc := vc.2 hbr
        refine SW.iload dX9_leastWidth_62 rfl ?_
        refine SW.iload_n dX9_leastWidth_64 rfl ?_
        refine SW.icmp_ge 71 dX9_leastWidth_65 (by decide) (fun hbr => ?_) (fun hbr => ?_)
        · replace vc := vc.1 hbr
          refine SW.iinc (v := (x3 + (1 : Int32))) dX9_leastWidth_71 rfl rfl (by decide) rfl rfl ?_
          refine SW.goto 22 dX9_leastWidth_74 (by decide) ?_
          refine SW.msk [true, true, true, true, false] rfl ?_
          exact vc
        · replace vc := vc.2 hbr
          refine SW.iload dX9_leastWidth_68 rfl ?_
          refine SW.istore_n dX9_leastWidth_70 (by decide) rfl rfl ?_
          refine SW.iinc (v := (x3 + (1 : Int32))) dX9_leastWidth_71 rfl rfl (by decide) rfl rfl ?_
          refine SW.goto 22 dX9_leastWidth_74 (by decide) ?_
          refine SW.msk [true, true, true, true, false] rfl ?_
          exact vc
theorem ctX9_leastWidth {G : GG} {q : Int32 → Nat → SG → TU → TH → Prop} {n : Nat} {σ : SG} {τ : TU} {θ : TH} (x1 : Int32) (h : SW G 5 mX9_leastWidth (aw_qi q) 0 0 0 [some (.ref 1), some (.int x1), none, none, none] [] (n, σ, τ, θ)) : SMi G 5 mX9_leastWidth 0 0 [.ref 1, .int x1] n σ τ θ q := SM.of _ rfl rfl (Nat.le_of_ble_eq_true rfl) h
set_option maxHeartbeats 4000000 in
set_option maxRecDepth 20000 in
theorem sgX9_letOff_0 {G : GG} {k : Nat} {q : Int32 → Nat → SG → TU → TH → Prop} {n : Nat} {σ : SG} {τ : TU} {θ : TH}  (x1 : Int32) (hk : 5 ≤ k)  (hW : aw_WT n θ) (vc : SMi G 1 mX9_isMan 0 0 [.ref 1, .int x1] n σ τ θ (fun a1 n1 σ1 τ1 θ1 => aw_WT n1 θ1 ∧ (((¬ a1 = 0) → (SMi G 4 mX6_find 0 0 [.ref 73, .ref (θ1 1 7), .ref 6, .int x1] n1 σ1 τ1 θ1 (fun a3 n3 σ3 τ3 θ3 => aw_WT n3 θ3 ∧ (((¬ a3 = 0) → (SMv G 2 mX5_keep 0 0 [.ref 9, .ref 6] n3 σ3 τ3 θ3 (fun n4 σ4 τ4 θ4 => aw_WT n4 θ4 ∧ (SMi G 3 mX6_sum 0 0 [.ref 73, .ref (θ4 1 7), .ref 6] n4 σ4 τ4 θ4 (fun a6 n6 σ6 τ6 θ6 => aw_WT n6 θ6 ∧ (SMv G 2 mX6_cancel 0 0 [.ref 73, .ref (θ6 1 7), .ref 6, .int a6] n6 σ6 τ6 θ6 (fun n8 σ8 τ8 θ8 => aw_WT n8 θ8 ∧ (SMi G 1 mX9_grant 0 0 [.ref 1, .int a6] n8 σ8 τ8 θ8 (fun a9 n9 σ9 τ9 θ9 => aw_WT n9 θ9 ∧ (q a9 n9 σ9 τ9 θ9)))))))))) ∧ ((a3 = 0) → (SMi G 1 mX9_refuse 0 0 [.ref 1, .int (6 : Int32)] n3 σ3 τ3 θ3 (fun a10 n10 σ10 τ10 θ10 => aw_WT n10 θ10 ∧ (q a10 n10 σ10 τ10 θ10)))))))) ∧ ((a1 = 0) → (SMi G 1 mX9_refuse 0 0 [.ref 1, .int (1 : Int32)] n1 σ1 τ1 θ1 (fun a11 n11 σ11 τ11 θ11 => aw_WT n11 θ11 ∧ (q a11 n11 σ11 τ11 θ11))))))) : SW G k mX9_letOff (aw_qi q) 0 0 0 [some (.ref 1), some (.int x1), none] [] (n, σ, τ, θ) := by
  refine SW.aload_n dX9_letOff_0 rfl ?_
  refine SW.iload_n dX9_letOff_1 rfl ?_
  refine SW.cvi1 kV_X9_106 (by omega) aw_cl9 kp_1 (by decide) (hW.le (by decide)) rfl (Nat.le_of_ble_eq_true rfl) dX9_letOff_2 (SMi.mono vc ?_)
  intro a1 n1 σ1 τ1 θ1 vc
  obtain ⟨hW, vc⟩ := vc
  refine SW.if_ne 14 dX9_letOff_5 (by decide) (fun hbr => ?_) (fun hbr => ?_)
  · replace vc := vc.1 hbr
    refine SW.aload_n dX9_letOff_14 rfl ?_
    refine SW.getS (f := 4) (r := 73) aw_cl9 kp_1 (by decide) (hW.le (by decide)) (by decide) ww_469 dX9_letOff_15 rfl hW.t1_4 ?_
    refine SW.aload_n dX9_letOff_18 rfl ?_
    have hF2 := hW.f
    refine SW.getS (f := 7) (r := (θ1 1 7)) aw_cl9 kp_1 (by decide) (hW.le (by decide)) (by decide) ww_472 dX9_letOff_19 rfl rfl ?_
    refine SW.aload_n dX9_letOff_22 rfl ?_
    refine SW.getS (f := 1) (r := 6) aw_cl9 kp_1 (by decide) (hW.le (by decide)) (by decide) ww_466 dX9_letOff_23 rfl hW.t1_1 ?_
    refine SW.iload_n dX9_letOff_26 rfl ?_
    refine SW.cvi3 kV_X9_195 (by omega) aw_cl6 kp_73 (by decide) (hW.le (by decide)) rfl (Nat.le_of_ble_eq_true rfl) dX9_letOff_27 (SMi.mono vc ?_)
    intro a3 n3 σ3 τ3 θ3 vc
    obtain ⟨hW, vc⟩ := vc
    refine SW.if_ne 40 dX9_letOff_30 (by decide) (fun hbr => ?_) (fun hbr => ?_)
    · replace vc := vc.1 hbr
      refine SW.aload_n dX9_letOff_40 rfl ?_
      refine SW.getS (f := 2) (r := 9) aw_cl9 kp_1 (by decide) (hW.le (by decide)) (by decide) ww_467 dX9_letOff_41 rfl hW.t1_2 ?_
      refine SW.aload_n dX9_letOff_44 rfl ?_
      refine SW.getS (f := 1) (r := 6) aw_cl9 kp_1 (by decide) (hW.le (by decide)) (by decide) ww_466 dX9_letOff_45 rfl hW.t1_1 ?_
      refine SW.cvv1 kV_X9_297 (by omega) aw_cl5 kp_9 (by decide) (hW.le (by decide)) rfl (Nat.le_of_ble_eq_true rfl) dX9_letOff_48 (SMv.mono vc ?_)
      intro n4 σ4 τ4 θ4 vc
      obtain ⟨hW, vc⟩ := vc
      refine SW.aload_n dX9_letOff_51 rfl ?_
      refine SW.getS (f := 4) (r := 73) aw_cl9 kp_1 (by decide) (hW.le (by decide)) (by decide) ww_469 dX9_letOff_52 rfl hW.t1_4 ?_
      refine SW.aload_n dX9_letOff_55 rfl ?_
      have hF5 := hW.f
      refine SW.getS (f := 7) (r := (θ4 1 7)) aw_cl9 kp_1 (by decide) (hW.le (by decide)) (by decide) ww_472 dX9_letOff_56 rfl rfl ?_
      refine SW.aload_n dX9_letOff_59 rfl ?_
      refine SW.getS (f := 1) (r := 6) aw_cl9 kp_1 (by decide) (hW.le (by decide)) (by decide) ww_466 dX9_letOff_60 rfl hW.t1_1 ?_
      refine SW.cvi2 kV_X9_205 (by omega) aw_cl6 kp_73 (by decide) (hW.le (by decide)) rfl (Nat.le_of_ble_eq_true rfl) dX9_letOff_63 (SMi.mono vc ?_)
      intro a6 n6 σ6 τ6 θ6 vc
      obtain ⟨hW, vc⟩ := vc
      refine SW.istore_n dX9_letOff_66 (by decide) rfl rfl ?_
      refine SW.aload_n dX9_letOff_67 rfl ?_
      refine SW.getS (f := 4) (r := 73) aw_cl9 kp_1 (by decide) (hW.le (by decide)) (by decide) ww_469 dX9_letOff_68 rfl hW.t1_4 ?_
      refine SW.aload_n dX9_letOff_71 rfl ?_
      have hF7 := hW.f
      refine SW.getS (f := 7) (r := (θ6 1 7)) aw_cl9 kp_1 (by decide) (hW.le (by decide)) (by decide) ww_472 dX9_letOff_72 rfl rfl ?_
      refine SW.aload_n dX9_letOff_75 rfl ?_
      refine SW.getS (f := 1) (r := 6) aw_cl9 kp_1 (by decide) (hW.le (by decide)) (by decide) ww_466 dX9_letOff_76 rfl hW.t1_1 ?_
      refine SW.iload_n dX9_letOff_79 rfl ?_
      refine SW.cvv3 kV_X9_304 (by omega) aw_cl6 kp_73 (by decide) (hW.le (by decide)) rfl (Nat.le_of_ble_eq_true rfl) dX9_letOff_80 (SMv.mono vc ?_)
      intro n8 σ8 τ8 θ8 vc
      obtain ⟨hW, vc⟩ := vc
      refine SW.aload_n dX9_letOff_83 rfl ?_
      refine SW.iload_n dX9_letOff_84 rfl ?_
      refine SW.cvi1 kV_X9_100 (by omega) aw_cl9 kp_1 (by decide) (hW.le (by decide)) rfl (Nat.le_of_ble_eq_true rfl) dX9_letOff_85 (SMi.mono vc ?_)
      intro a9 n9 σ9 τ9 θ9 vc
      obtain ⟨hW, vc⟩ := vc
      exact SW.iret dX9_letOff_88 rfl rfl ⟨_, rfl, vc⟩
    · replace vc := vc.2 hbr
      refine SW.aload_n dX9_letOff_33 rfl ?_
      refine SW.bipush (v := (6 : Int32)) dX9_letOff_34 (by decide) ?_
      refine SW.cvi1 kV_X9_82 (by omega) aw_cl9 kp_1 (by decide) (hW.le (by decide)) rfl (Nat.le_of_ble_eq_true rfl) dX9_letOff_36 (SMi.mono vc ?_)
      intro a10 n10 σ10 τ10 θ10 vc
      obtain ⟨hW, vc⟩ := vc
      exact SW.iret dX9_letOff_39 rfl rfl ⟨_, rfl, vc⟩
  · replace vc := vc.2 hbr
    refine SW.aload_n dX9_letOff_8 rfl ?_
    refine SW.iconst (v := (1 : Int32)) dX9_letOff_9 (by decide) ?_
    refine SW.cvi1 kV_X9_82 (by omega) aw_cl9 kp_1 (by decide) (hW.le (by decide)) rfl (Nat.le_of_ble_eq_true rfl) dX9_letOff_10 (SMi.mono vc ?_)
    intro a11 n11 σ11 τ11 θ11 vc
    obtain ⟨hW, vc⟩ := vc
    exact SW.iret dX9_letOff_13 rfl rfl ⟨_, rfl, vc⟩
theorem ctX9_letOff {G : GG} {q : Int32 → Nat → SG → TU → TH → Prop} {n : Nat} {σ : SG} {τ : TU} {θ : TH} (x1 : Int32) (h : SW G 5 mX9_letOff (aw_qi q) 0 0 0 [some (.ref 1), some (.int x1), none] [] (n, σ, τ, θ)) : SMi G 5 mX9_letOff 0 0 [.ref 1, .int x1] n σ τ θ q := SM.of _ rfl rfl (Nat.le_of_ble_eq_true rfl) h
set_option maxHeartbeats 4000000 in
set_option maxRecDepth 20000 in
theorem sgX9_likeliest_0 {G : GG} {k : Nat} {q : Int32 → Nat → SG → TU → TH → Prop} {n : Nat} {σ : SG} {τ : TU} {θ : TH}   (hk : 5 ≤ k)  (hW : aw_WT n θ) (vc : SMi G 1 mX9_noDuchy 0 0 [.ref 1] n σ τ θ (fun a1 n1 σ1 τ1 θ1 => aw_WT n1 θ1 ∧ (((a1 = 0) → (SMv G 4 mX4_weigh 0 0 [.ref 77, .ref (θ1 1 7), .ref 6] n1 σ1 τ1 θ1 (fun n3 σ3 τ3 θ3 => aw_WT n3 θ3 ∧ (SMi G 1 mX4_heaviest 0 0 [.ref 77] n3 σ3 τ3 θ3 (fun a4 n4 σ4 τ4 θ4 => aw_WT n4 θ4 ∧ (SMi G 1 mX9_grant 0 0 [.ref 1, .int a4] n4 σ4 τ4 θ4 (fun a5 n5 σ5 τ5 θ5 => aw_WT n5 θ5 ∧ (q a5 n5 σ5 τ5 θ5)))))))) ∧ ((¬ a1 = 0) → (SMi G 1 mX9_refuse 0 0 [.ref 1, .int (1 : Int32)] n1 σ1 τ1 θ1 (fun a6 n6 σ6 τ6 θ6 => aw_WT n6 θ6 ∧ (q a6 n6 σ6 τ6 θ6))))))) : SW G k mX9_likeliest (aw_qi q) 0 0 0 [some (.ref 1)] [] (n, σ, τ, θ) := by
  refine SW.aload_n dX9_likeliest_0 rfl ?_
  refine SW.cvi0 kV_X9_134 (by omega) aw_cl9 kp_1 (by decide) (hW.le (by decide)) rfl (Nat.le_of_ble_eq_true rfl) dX9_likeliest_1 (SMi.mono vc ?_)
  intro a1 n1 σ1 τ1 θ1 vc
  obtain ⟨hW, vc⟩ := vc
  refine SW.if_eq 13 dX9_likeliest_4 (by decide) (fun hbr => ?_) (fun hbr => ?_)
  · replace vc := vc.1 hbr
    refine SW.aload_n dX9_likeliest_13 rfl ?_
    refine SW.getS (f := 5) (r := 77) aw_cl9 kp_1 (by decide) (hW.le (by decide)) (by decide) ww_470 dX9_likeliest_14 rfl hW.t1_5 ?_
    refine SW.aload_n dX9_likeliest_17 rfl ?_
    have hF2 := hW.f
    refine SW.getS (f := 7) (r := (θ1 1 7)) aw_cl9 kp_1 (by decide) (hW.le (by decide)) (by decide) ww_472 dX9_likeliest_18 rfl rfl ?_
    refine SW.aload_n dX9_likeliest_21 rfl ?_
    refine SW.getS (f := 1) (r := 6) aw_cl9 kp_1 (by decide) (hW.le (by decide)) (by decide) ww_466 dX9_likeliest_22 rfl hW.t1_1 ?_
    refine SW.cvv2 kV_X9_211 (by omega) aw_cl4 kp_77 (by decide) (hW.le (by decide)) rfl (Nat.le_of_ble_eq_true rfl) dX9_likeliest_25 (SMv.mono vc ?_)
    intro n3 σ3 τ3 θ3 vc
    obtain ⟨hW, vc⟩ := vc
    refine SW.aload_n dX9_likeliest_28 rfl ?_
    refine SW.aload_n dX9_likeliest_29 rfl ?_
    refine SW.getS (f := 5) (r := 77) aw_cl9 kp_1 (by decide) (hW.le (by decide)) (by decide) ww_470 dX9_likeliest_30 rfl hW.t1_5 ?_
    refine SW.cvi0 kV_X9_240 (by omega) aw_cl4 kp_77 (by decide) (hW.le (by decide)) rfl (Nat.le_of_ble_eq_true rfl) dX9_likeliest_33 (SMi.mono vc ?_)
    intro a4 n4 σ4 τ4 θ4 vc
    obtain ⟨hW, vc⟩ := vc
    refine SW.cvi1 kV_X9_100 (by omega) aw_cl9 kp_1 (by decide) (hW.le (by decide)) rfl (Nat.le_of_ble_eq_true rfl) dX9_likeliest_36 (SMi.mono vc ?_)
    intro a5 n5 σ5 τ5 θ5 vc
    obtain ⟨hW, vc⟩ := vc
    exact SW.iret dX9_likeliest_39 rfl rfl ⟨_, rfl, vc⟩
  · replace vc := vc.2 hbr
    refine SW.aload_n dX9_likeliest_7 rfl ?_
    refine SW.iconst (v := (1 : Int32)) dX9_likeliest_8 (by decide) ?_
    refine SW.cvi1 kV_X9_82 (by omega) aw_cl9 kp_1 (by decide) (hW.le (by decide)) rfl (Nat.le_of_ble_eq_true rfl) dX9_likeliest_9 (SMi.mono vc ?_)
    intro a6 n6 σ6 τ6 θ6 vc
    obtain ⟨hW, vc⟩ := vc
    exact SW.iret dX9_likeliest_12 rfl rfl ⟨_, rfl, vc⟩
theorem ctX9_likeliest {G : GG} {q : Int32 → Nat → SG → TU → TH → Prop} {n : Nat} {σ : SG} {τ : TU} {θ : TH}  (h : SW G 5 mX9_likeliest (aw_qi q) 0 0 0 [some (.ref 1)] [] (n, σ, τ, θ)) : SMi G 5 mX9_likeliest 0 0 [.ref 1] n σ τ θ q := SM.of _ rfl rfl (Nat.le_of_ble_eq_true rfl) h
set_option maxHeartbeats 4000000 in
set_option maxRecDepth 20000 in
theorem sgX9_likely_0 {G : GG} {k : Nat} {q : Int64 → Nat → SG → TU → TH → Prop} {n : Nat} {σ : SG} {τ : TU} {θ : TH}  (x1 : Int32) (x2 : Int32) (hk : 5 ≤ k)  (hW : aw_WT n θ) (vc : ((x1 < 0) → (SMi G 1 mX9_refuse 0 0 [.ref 1, .int (1 : Int32)] n σ τ θ (fun a1 n1 σ1 τ1 θ1 => aw_WT n1 θ1 ∧ (q (a1.toInt64) n1 σ1 τ1 θ1)))) ∧ ((¬ x1 < 0) → (((x1 < (σ ((θ 1 7) + 13) 4)) → (SMv G 4 mX4_weigh 0 0 [.ref 77, .ref (θ 1 7), .ref 6] n σ τ θ (fun n4 σ4 τ4 θ4 => aw_WT n4 θ4 ∧ (SMl G 1 mX4_weightOfRumour 0 0 [.ref 77, .int x1] n4 (aw_u σ4 1 10 (0 : Int32)) τ4 θ4 (fun a5 n5 σ5 τ5 θ5 => aw_WT n5 θ5 ∧ (SMl G 1 mX9_lowest 0 0 [.long a5, .long (τ5 77 1), .int x2] n5 σ5 τ5 θ5 (fun a6 n6 σ6 τ6 θ6 => aw_WT n6 θ6 ∧ (q a6 n6 σ6 τ6 θ6)))))))) ∧ ((¬ x1 < (σ ((θ 1 7) + 13) 4)) → (SMi G 1 mX9_refuse 0 0 [.ref 1, .int (1 : Int32)] n σ τ θ (fun a7 n7 σ7 τ7 θ7 => aw_WT n7 θ7 ∧ (q (a7.toInt64) n7 σ7 τ7 θ7))))))) : SW G k mX9_likely (aw_ql q) 0 0 0 [some (.ref 1), some (.int x1), some (.int x2)] [] (n, σ, τ, θ) := by
  refine SW.iload_n dX9_likely_0 rfl ?_
  refine SW.if_lt 18 dX9_likely_1 (by decide) (fun hbr => ?_) (fun hbr => ?_)
  · replace vc := vc.1 hbr
    refine SW.aload_n dX9_likely_18 rfl ?_
    refine SW.iconst (v := (1 : Int32)) dX9_likely_19 (by decide) ?_
    refine SW.cvi1 kV_X9_82 (by omega) aw_cl9 kp_1 (by decide) (hW.le (by decide)) rfl (Nat.le_of_ble_eq_true rfl) dX9_likely_20 (SMi.mono vc ?_)
    intro a1 n1 σ1 τ1 θ1 vc
    obtain ⟨hW, vc⟩ := vc
    refine SW.i2l dX9_likely_23 ?_
    exact SW.lret dX9_likely_24 rfl ⟨_, rfl, vc⟩
  · replace vc := vc.2 hbr
    refine SW.iload_n dX9_likely_4 rfl ?_
    refine SW.aload_n dX9_likely_5 rfl ?_
    have hF2 := hW.f
    refine SW.getS (f := 7) (r := (θ 1 7)) aw_cl9 kp_1 (by decide) (hW.le (by decide)) (by decide) ww_472 dX9_likely_6 rfl rfl ?_
    refine SW.getS (f := 8) (r := (θ 1 7) + 13) aw_cl1 (kpF_0 hF2) (leF_0 hF2).1 (hW.le (leF_0 hF2).2) (by decide) ww_402 dX9_likely_9 rfl (hW.f8 hF2) ?_
    refine SW.getI (f := 4) aw_cl0 (kpF_13 hF2) (leF_13 hF2).1 (hW.le (leF_13 hF2).2) (by decide) ww_360 dX9_likely_12 rfl ?_
    refine SW.icmp_lt 25 dX9_likely_15 (by decide) (fun hbr => ?_) (fun hbr => ?_)
    · replace vc := vc.1 hbr
      refine SW.aload_n dX9_likely_25 rfl ?_
      refine SW.getS (f := 5) (r := 77) aw_cl9 kp_1 (by decide) (hW.le (by decide)) (by decide) ww_470 dX9_likely_26 rfl hW.t1_5 ?_
      refine SW.aload_n dX9_likely_29 rfl ?_
      have hF3 := hW.f
      refine SW.getS (f := 7) (r := (θ 1 7)) aw_cl9 kp_1 (by decide) (hW.le (by decide)) (by decide) ww_472 dX9_likely_30 rfl rfl ?_
      refine SW.aload_n dX9_likely_33 rfl ?_
      refine SW.getS (f := 1) (r := 6) aw_cl9 kp_1 (by decide) (hW.le (by decide)) (by decide) ww_466 dX9_likely_34 rfl hW.t1_1 ?_
      refine SW.cvv2 kV_X9_211 (by omega) aw_cl4 kp_77 (by decide) (hW.le (by decide)) rfl (Nat.le_of_ble_eq_true rfl) dX9_likely_37 (SMv.mono vc ?_)
      intro n4 σ4 τ4 θ4 vc
      obtain ⟨hW, vc⟩ := vc
      refine SW.aload_n dX9_likely_40 rfl ?_
      refine SW.iconst (v := (0 : Int32)) dX9_likely_41 (by decide) ?_
      refine SW.putI (f := 10) aw_cl9 kp_1 (by decide) (hW.le (by decide)) (by decide) ww_475 (Or.inl rfl) dX9_likely_42 rfl rfl rfl ?_
      refine SW.aload_n dX9_likely_45 rfl ?_
      refine SW.getS (f := 5) (r := 77) aw_cl9 kp_1 (by decide) (hW.le (by decide)) (by decide) ww_470 dX9_likely_46 rfl hW.t1_5 ?_
      refine SW.iload_n dX9_likely_49 rfl ?_
      refine SW.cvl1 kV_X9_224 (by omega) aw_cl4 kp_77 (by decide) (hW.le (by decide)) rfl (Nat.le_of_ble_eq_true rfl) dX9_likely_50 (SMl.mono vc ?_)
      intro a5 n5 σ5 τ5 θ5 vc
      obtain ⟨hW, vc⟩ := vc
      refine SW.aload_n dX9_likely_53 rfl ?_
      refine SW.getS (f := 5) (r := 77) aw_cl9 kp_1 (by decide) (hW.le (by decide)) (by decide) ww_470 dX9_likely_54 rfl hW.t1_5 ?_
      refine SW.getL (f := 1) aw_cl4 kp_77 (by decide) (hW.le (by decide)) (by decide) ww_288 dX9_likely_57 rfl ?_
      refine SW.iload_n dX9_likely_60 rfl ?_
      refine SW.csl3 kS_X9_232 (by omega) (Nat.le_of_ble_eq_true rfl) dX9_likely_61 (SMl.mono vc ?_)
      intro a6 n6 σ6 τ6 θ6 vc
      obtain ⟨hW, vc⟩ := vc
      exact SW.lret dX9_likely_64 rfl ⟨_, rfl, vc⟩
    · replace vc := vc.2 hbr
      refine SW.aload_n dX9_likely_18 rfl ?_
      refine SW.iconst (v := (1 : Int32)) dX9_likely_19 (by decide) ?_
      refine SW.cvi1 kV_X9_82 (by omega) aw_cl9 kp_1 (by decide) (hW.le (by decide)) rfl (Nat.le_of_ble_eq_true rfl) dX9_likely_20 (SMi.mono vc ?_)
      intro a7 n7 σ7 τ7 θ7 vc
      obtain ⟨hW, vc⟩ := vc
      refine SW.i2l dX9_likely_23 ?_
      exact SW.lret dX9_likely_24 rfl ⟨_, rfl, vc⟩
theorem ctX9_likely {G : GG} {q : Int64 → Nat → SG → TU → TH → Prop} {n : Nat} {σ : SG} {τ : TU} {θ : TH} (x1 : Int32) (x2 : Int32) (h : SW G 5 mX9_likely (aw_ql q) 0 0 0 [some (.ref 1), some (.int x1), some (.int x2)] [] (n, σ, τ, θ)) : SMl G 5 mX9_likely 0 0 [.ref 1, .int x1, .int x2] n σ τ θ q := SM.of _ rfl rfl (Nat.le_of_ble_eq_true rfl) h
set_option maxHeartbeats 4000000 in
set_option maxRecDepth 20000 in
theorem sgX9_locked_0 {G : GG} {k : Nat} {q : Int64 → Nat → SG → TU → TH → Prop} {n : Nat} {σ : SG} {τ : TU} {θ : TH}  (x1 : Int32) (x2 : Int32) (hk : 3 ≤ k)  (hW : aw_WT n θ) (vc : SMi G 2 mX9_troubleOfWeeks 0 0 [.ref 1, .int x1] n σ τ θ (fun a1 n1 σ1 τ1 θ1 => aw_WT n1 θ1 ∧ (((a1 = 0) → (SW G k mX9_locked (aw_ql q) 0 0 26 [some (.ref 1), some (.int x1), some (.int x2), none, some (.long (1 : Int64)), none, some (.long (1 : Int64)), none, some (.int (0 : Int32))] [] (n1, σ1, τ1, θ1))) ∧ ((¬ a1 = 0) → (SMi G 1 mX9_refuse 0 0 [.ref 1, .int a1] n1 σ1 τ1 θ1 (fun a2 n2 σ2 τ2 θ2 => aw_WT n2 θ2 ∧ (q (a2.toInt64) n2 σ2 τ2 θ2))))))) : SW G k mX9_locked (aw_ql q) 0 0 0 [some (.ref 1), some (.int x1), some (.int x2), none, none, none, none, none, none] [] (n, σ, τ, θ) := by
  refine SW.aload_n dX9_locked_0 rfl ?_
  refine SW.iload_n dX9_locked_1 rfl ?_
  refine SW.cvi1 kV_X9_272 (by omega) aw_cl9 kp_1 (by decide) (hW.le (by decide)) rfl (Nat.le_of_ble_eq_true rfl) dX9_locked_2 (SMi.mono vc ?_)
  intro a1 n1 σ1 τ1 θ1 vc
  obtain ⟨hW, vc⟩ := vc
  refine SW.istore_n dX9_locked_5 (by decide) rfl rfl ?_
  refine SW.iload_n dX9_locked_6 rfl ?_
  refine SW.if_eq 17 dX9_locked_7 (by decide) (fun hbr => ?_) (fun hbr => ?_)
  · replace vc := vc.1 hbr
    refine SW.lconst (v := (1 : Int64)) dX9_locked_17 (by decide) ?_
    refine SW.lstore dX9_locked_18 (by decide) rfl rfl ?_
    refine SW.lconst (v := (1 : Int64)) dX9_locked_20 (by decide) ?_
    refine SW.lstore dX9_locked_21 (by decide) rfl rfl ?_
    refine SW.iconst (v := (0 : Int32)) dX9_locked_23 (by decide) ?_
    refine SW.istore dX9_locked_24 (by decide) rfl rfl ?_
    refine SW.msk [true, true, true, false, true, true, true, true, true] rfl ?_
    exact vc
  · replace vc := vc.2 hbr
    refine SW.aload_n dX9_locked_10 rfl ?_
    refine SW.iload_n dX9_locked_11 rfl ?_
    refine SW.cvi1 kV_X9_82 (by omega) aw_cl9 kp_1 (by decide) (hW.le (by decide)) rfl (Nat.le_of_ble_eq_true rfl) dX9_locked_12 (SMi.mono vc ?_)
    intro a2 n2 σ2 τ2 θ2 vc
    obtain ⟨hW, vc⟩ := vc
    refine SW.i2l dX9_locked_15 ?_
    exact SW.lret dX9_locked_16 rfl ⟨_, rfl, vc⟩
set_option maxHeartbeats 4000000 in
set_option maxRecDepth 20000 in
theorem sgX9_locked_26 {G : GG} {k : Nat} {q : Int64 → Nat → SG → TU → TH → Prop} {n : Nat} {σ : SG} {τ : TU} {θ : TH}  (x1 : Int32) (x2 : Int32) (x4 : Int64) (x6 : Int64) (x8 : Int32) (hk : 3 ≤ k)  (hW : aw_WT n θ) (vc : ((x1 ≤ x8) → (SMl G 1 mX9_lowest 0 0 [.long x4, .long x6, .int x2] n (aw_u σ 1 10 (0 : Int32)) τ θ (fun a1 n1 σ1 τ1 θ1 => aw_WT n1 θ1 ∧ (q a1 n1 σ1 τ1 θ1)))) ∧ ((¬ x1 ≤ x8) → (SW G k mX9_locked (aw_ql q) 0 0 26 [some (.ref 1), some (.int x1), some (.int x2), none, some (.long (x4 * ((σ (θ 1 7) 11).toInt64))), none, some (.long (x6 * (100 : Int64))), none, some (.int (x8 + (1 : Int32)))] [] (n, σ, τ, θ)))) : SW G k mX9_locked (aw_ql q) 0 0 26 [some (.ref 1), some (.int x1), some (.int x2), none, some (.long x4), none, some (.long x6), none, some (.int x8)] [] (n, σ, τ, θ) := by
  refine SW.iload dX9_locked_26 rfl ?_
  refine SW.iload_n dX9_locked_28 rfl ?_
  refine SW.icmp_ge 59 dX9_locked_29 (by decide) (fun hbr => ?_) (fun hbr => ?_)
  · replace vc := vc.1 hbr
    refine SW.aload_n dX9_locked_59 rfl ?_
    refine SW.iconst (v := (0 : Int32)) dX9_locked_60 (by decide) ?_
    refine SW.putI (f := 10) aw_cl9 kp_1 (by decide) (hW.le (by decide)) (by decide) ww_475 (Or.inl rfl) dX9_locked_61 rfl rfl rfl ?_
    refine SW.lload dX9_locked_64 rfl ?_
    refine SW.lload dX9_locked_66 rfl ?_
    refine SW.iload_n dX9_locked_68 rfl ?_
    refine SW.csl3 kS_X9_232 (by omega) (Nat.le_of_ble_eq_true rfl) dX9_locked_69 (SMl.mono vc ?_)
    intro a1 n1 σ1 τ1 θ1 vc
    obtain ⟨hW, vc⟩ := vc
    exact SW.lret dX9_locked_72 rfl ⟨_, rfl, vc⟩
  · replace vc := vc.2 hbr
    refine SW.lload dX9_locked_32 rfl ?_
    refine SW.aload_n dX9_locked_34 rfl ?_
    have hF2 := hW.f
    refine SW.getS (f := 7) (r := (θ 1 7)) aw_cl9 kp_1 (by decide) (hW.le (by decide)) (by decide) ww_472 dX9_locked_35 rfl rfl ?_
    refine SW.getI (f := 11) aw_cl1 (kpF_0 hF2) (leF_0 hF2).1 (hW.le (leF_0 hF2).2) (by decide) ww_412 dX9_locked_38 rfl ?_
    refine SW.i2l dX9_locked_41 ?_
    refine SW.lmul dX9_locked_42 ?_
    refine SW.lstore dX9_locked_43 (by decide) rfl rfl ?_
    refine SW.lload dX9_locked_45 rfl ?_
    refine SW.ldc2 (v := (100 : Int64)) ww_1066 dX9_locked_47 ?_
    refine SW.lmul dX9_locked_50 ?_
    refine SW.lstore dX9_locked_51 (by decide) rfl rfl ?_
    refine SW.iinc (v := (x8 + (1 : Int32))) dX9_locked_53 rfl rfl (by decide) rfl rfl ?_
    refine SW.goto 26 dX9_locked_56 (by decide) ?_
    exact vc
theorem ctX9_locked {G : GG} {q : Int64 → Nat → SG → TU → TH → Prop} {n : Nat} {σ : SG} {τ : TU} {θ : TH} (x1 : Int32) (x2 : Int32) (h : SW G 3 mX9_locked (aw_ql q) 0 0 0 [some (.ref 1), some (.int x1), some (.int x2), none, none, none, none, none, none] [] (n, σ, τ, θ)) : SMl G 3 mX9_locked 0 0 [.ref 1, .int x1, .int x2] n σ τ θ q := SM.of _ rfl rfl (Nat.le_of_ble_eq_true rfl) h
