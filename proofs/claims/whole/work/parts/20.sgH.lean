set_option maxHeartbeats 4000000 in
set_option maxRecDepth 20000 in
theorem sgX10_pass_0 {G : GG} {k : Nat} {q : Nat → SG → TU → TH → Prop} {n : Nat} {σ : SG} {τ : TU} {θ : TH}   (hk : 3 ≤ k)  (hW : aw_WT n θ) (vc : ((¬ (σ 120 13) = 0) → (q n σ τ θ)) ∧ (((σ 120 13) = 0) → (SMv G 2 mX10_next 0 0 [.ref 120] n σ τ θ (fun n1 σ1 τ1 θ1 => aw_WT n1 θ1 ∧ (q n1 σ1 τ1 θ1))))) : SW G k mX10_pass (aw_qv q) 0 0 0 [some (.ref 120)] [] (n, σ, τ, θ) := by
  refine SW.aload_n dX10_pass_0 rfl ?_
  refine SW.getI (f := 13) aw_cl10 kp_120 (by decide) (hW.le (by decide)) (by decide) ww_1255 dX10_pass_1 rfl ?_
  refine SW.if_ne 11 dX10_pass_4 (by decide) (fun hbr => ?_) (fun hbr => ?_)
  · replace vc := vc.1 hbr
    exact SW.vret dX10_pass_11 rfl ⟨rfl, vc⟩
  · replace vc := vc.2 hbr
    refine SW.aload_n dX10_pass_7 rfl ?_
    refine SW.cvv0 kV_X10_109 (by omega) aw_cl10 kp_120 (by decide) (hW.le (by decide)) rfl (Nat.le_of_ble_eq_true rfl) dX10_pass_8 (SMv.mono vc ?_)
    intro n1 σ1 τ1 θ1 vc
    obtain ⟨hW, vc⟩ := vc
    exact SW.vret dX10_pass_11 rfl ⟨rfl, vc⟩
theorem ctX10_pass {G : GG} {q : Nat → SG → TU → TH → Prop} {n : Nat} {σ : SG} {τ : TU} {θ : TH}  (h : SW G 3 mX10_pass (aw_qv q) 0 0 0 [some (.ref 120)] [] (n, σ, τ, θ)) : SMv G 3 mX10_pass 0 0 [.ref 120] n σ τ θ q := SM.of _ rfl rfl (Nat.le_of_ble_eq_true rfl) h
set_option maxHeartbeats 4000000 in
set_option maxRecDepth 20000 in
theorem sgX10_passers_0 {G : GG} {k : Nat} {q : Int32 → Nat → SG → TU → TH → Prop} {n : Nat} {σ : SG} {τ : TU} {θ : TH}   (hk : 6 ≤ k)  (hW : aw_WT n θ) (vc : SMv G 1 mX10_good 0 0 [.ref 120] n σ τ θ (fun n1 σ1 τ1 θ1 => aw_WT n1 θ1 ∧ (((¬ ((aw_u σ1 120 22 (0 : Int32)) 120 14) = 0) → (SW G k mX10_passers (aw_qi q) 0 0 26 [some (.ref 120), some (.int (0 : Int32)), some (.int (0 : Int32))] [] (n1, (aw_u σ1 120 22 (0 : Int32)), τ1, θ1))) ∧ ((((aw_u σ1 120 22 (0 : Int32)) 120 14) = 0) → (SMi G 1 mX10_no 0 0 [.ref 120, .int (1 : Int32)] n1 (aw_u σ1 120 22 (0 : Int32)) τ1 θ1 (fun a2 n2 σ2 τ2 θ2 => aw_WT n2 θ2 ∧ (q a2 n2 σ2 τ2 θ2))))))) : SW G k mX10_passers (aw_qi q) 0 0 0 [some (.ref 120), none, none] [] (n, σ, τ, θ) := by
  refine SW.aload_n dX10_passers_0 rfl ?_
  refine SW.cvv0 kV_X10_154 (by omega) aw_cl10 kp_120 (by decide) (hW.le (by decide)) rfl (Nat.le_of_ble_eq_true rfl) dX10_passers_1 (SMv.mono vc ?_)
  intro n1 σ1 τ1 θ1 vc
  obtain ⟨hW, vc⟩ := vc
  refine SW.aload_n dX10_passers_4 rfl ?_
  refine SW.iconst (v := (0 : Int32)) dX10_passers_5 (by decide) ?_
  refine SW.putI (f := 22) aw_cl10 kp_120 (by decide) (hW.le (by decide)) (by decide) ww_1264 (Or.inl rfl) dX10_passers_6 rfl rfl rfl ?_
  refine SW.aload_n dX10_passers_9 rfl ?_
  refine SW.getI (f := 14) aw_cl10 kp_120 (by decide) (hW.le (by decide)) (by decide) ww_1256 dX10_passers_10 rfl ?_
  refine SW.if_ne 22 dX10_passers_13 (by decide) (fun hbr => ?_) (fun hbr => ?_)
  · replace vc := vc.1 hbr
    refine SW.iconst (v := (0 : Int32)) dX10_passers_22 (by decide) ?_
    refine SW.istore_n dX10_passers_23 (by decide) rfl rfl ?_
    refine SW.iconst (v := (0 : Int32)) dX10_passers_24 (by decide) ?_
    refine SW.istore_n dX10_passers_25 (by decide) rfl rfl ?_
    exact vc
  · replace vc := vc.2 hbr
    refine SW.aload_n dX10_passers_16 rfl ?_
    refine SW.iconst (v := (1 : Int32)) dX10_passers_17 (by decide) ?_
    refine SW.cvi1 kV_X10_157 (by omega) aw_cl10 kp_120 (by decide) (hW.le (by decide)) rfl (Nat.le_of_ble_eq_true rfl) dX10_passers_18 (SMi.mono vc ?_)
    intro a2 n2 σ2 τ2 θ2 vc
    obtain ⟨hW, vc⟩ := vc
    exact SW.iret dX10_passers_21 rfl rfl ⟨_, rfl, vc⟩
set_option maxHeartbeats 4000000 in
set_option maxRecDepth 20000 in
theorem sgX10_passers_26 {G : GG} {k : Nat} {q : Int32 → Nat → SG → TU → TH → Prop} {n : Nat} {σ : SG} {τ : TU} {θ : TH}  (x1 : Int32) (x2 : Int32) (hk : 6 ≤ k)  (hW : aw_WT n θ) (vc : (((σ 123 4) ≤ x2) → (q x1 n σ τ θ)) ∧ ((¬ (σ 123 4) ≤ x2) → (vp_in ((73 : Int32) + x2) 167 ∧ ((((σ 123 ((73 : Int32) + x2).toNatClampNeg) ≤ 0) → (SW G k mX10_passers (aw_qi q) 0 0 26 [some (.ref 120), some (.int (x1 ||| (0 : Int32))), some (.int (x2 + (1 : Int32)))] [] (n, σ, τ, θ))) ∧ ((¬ (σ 123 ((73 : Int32) + x2).toNatClampNeg) ≤ 0) → (vp_in ((73 : Int32) + x2) 167 ∧ (SMi G 5 mX10_doesPass 0 0 [.ref 120, .ref 125, .int x2, .int ((σ 123 ((73 : Int32) + x2).toNatClampNeg) - (1 : Int32))] n σ τ θ (fun a1 n1 σ1 τ1 θ1 => aw_WT n1 θ1 ∧ (((a1 = 0) → (SW G k mX10_passers (aw_qi q) 0 0 26 [some (.ref 120), some (.int (x1 ||| (0 : Int32))), some (.int (x2 + (1 : Int32)))] [] (n1, σ1, τ1, θ1))) ∧ ((¬ a1 = 0) → (SW G k mX10_passers (aw_qi q) 0 0 26 [some (.ref 120), some (.int (x1 ||| ((1 : Int32) <<< (x2 &&& 31)))), some (.int (x2 + (1 : Int32)))] [] (n1, σ1, τ1, θ1)))))))))))) : SW G k mX10_passers (aw_qi q) 0 0 26 [some (.ref 120), some (.int x1), some (.int x2)] [] (n, σ, τ, θ) := by
  refine SW.iload_n dX10_passers_26 rfl ?_
  refine SW.aload_n dX10_passers_27 rfl ?_
  refine SW.getS (f := 15) (r := 123) aw_cl10 kp_120 (by decide) (hW.le (by decide)) (by decide) ww_1257 dX10_passers_28 rfl hW.t120_15 ?_
  refine SW.iconst (v := (4 : Int32)) dX10_passers_31 (by decide) ?_
  refine SW.iald kp_123 (by decide) (hW.le (by decide)) (vp_in_nI (n := 4) (by decide) (by decide)) dX10_passers_32 ?_
  refine SW.icmp_ge 87 dX10_passers_33 (by decide) (fun hbr => ?_) (fun hbr => ?_)
  · replace vc := vc.1 hbr
    refine SW.iload_n dX10_passers_87 rfl ?_
    exact SW.iret dX10_passers_88 rfl rfl ⟨_, rfl, vc⟩
  · replace vc := vc.2 hbr
    refine SW.iload_n dX10_passers_36 rfl ?_
    refine SW.aload_n dX10_passers_37 rfl ?_
    refine SW.getS (f := 15) (r := 123) aw_cl10 kp_120 (by decide) (hW.le (by decide)) (by decide) ww_1257 dX10_passers_38 rfl hW.t120_15 ?_
    refine SW.bipush (v := (73 : Int32)) dX10_passers_41 (by decide) ?_
    refine SW.iload_n dX10_passers_43 rfl ?_
    refine SW.iadd dX10_passers_44 ?_
    refine SW.iald kp_123 (by decide) (hW.le (by decide)) vc.1 dX10_passers_45 ?_
    replace vc := vc.2
    refine SW.if_le 78 dX10_passers_46 (by decide) (fun hbr => ?_) (fun hbr => ?_)
    · replace vc := vc.1 hbr
      refine SW.iconst (v := (0 : Int32)) dX10_passers_78 (by decide) ?_
      refine SW.ior dX10_passers_79 ?_
      refine SW.istore_n dX10_passers_80 (by decide) rfl rfl ?_
      refine SW.iinc (v := (x2 + (1 : Int32))) dX10_passers_81 rfl rfl (by decide) rfl rfl ?_
      refine SW.goto 26 dX10_passers_84 (by decide) ?_
      exact vc
    · replace vc := vc.2 hbr
      refine SW.aload_n dX10_passers_49 rfl ?_
      refine SW.aload_n dX10_passers_50 rfl ?_
      refine SW.getS (f := 17) (r := 125) aw_cl10 kp_120 (by decide) (hW.le (by decide)) (by decide) ww_1259 dX10_passers_51 rfl hW.t120_17 ?_
      refine SW.iload_n dX10_passers_54 rfl ?_
      refine SW.aload_n dX10_passers_55 rfl ?_
      refine SW.getS (f := 15) (r := 123) aw_cl10 kp_120 (by decide) (hW.le (by decide)) (by decide) ww_1257 dX10_passers_56 rfl hW.t120_15 ?_
      refine SW.bipush (v := (73 : Int32)) dX10_passers_59 (by decide) ?_
      refine SW.iload_n dX10_passers_61 rfl ?_
      refine SW.iadd dX10_passers_62 ?_
      refine SW.iald kp_123 (by decide) (hW.le (by decide)) vc.1 dX10_passers_63 ?_
      replace vc := vc.2
      refine SW.iconst (v := (1 : Int32)) dX10_passers_64 (by decide) ?_
      refine SW.isub dX10_passers_65 ?_
      refine SW.cvi3 kV_X10_282 (by omega) aw_cl10 kp_120 (by decide) (hW.le (by decide)) rfl (Nat.le_of_ble_eq_true rfl) dX10_passers_66 (SMi.mono vc ?_)
      intro a1 n1 σ1 τ1 θ1 vc
      obtain ⟨hW, vc⟩ := vc
      refine SW.if_eq 78 dX10_passers_69 (by decide) (fun hbr => ?_) (fun hbr => ?_)
      · replace vc := vc.1 hbr
        refine SW.iconst (v := (0 : Int32)) dX10_passers_78 (by decide) ?_
        refine SW.ior dX10_passers_79 ?_
        refine SW.istore_n dX10_passers_80 (by decide) rfl rfl ?_
        refine SW.iinc (v := (x2 + (1 : Int32))) dX10_passers_81 rfl rfl (by decide) rfl rfl ?_
        refine SW.goto 26 dX10_passers_84 (by decide) ?_
        exact vc
      · replace vc := vc.2 hbr
        refine SW.iconst (v := (1 : Int32)) dX10_passers_72 (by decide) ?_
        refine SW.iload_n dX10_passers_73 rfl ?_
        refine SW.ishl dX10_passers_74 ?_
        refine SW.goto 79 dX10_passers_75 (by decide) ?_
        refine SW.ior dX10_passers_79 ?_
        refine SW.istore_n dX10_passers_80 (by decide) rfl rfl ?_
        refine SW.iinc (v := (x2 + (1 : Int32))) dX10_passers_81 rfl rfl (by decide) rfl rfl ?_
        refine SW.goto 26 dX10_passers_84 (by decide) ?_
        exact vc
theorem ctX10_passers {G : GG} {q : Int32 → Nat → SG → TU → TH → Prop} {n : Nat} {σ : SG} {τ : TU} {θ : TH}  (h : SW G 6 mX10_passers (aw_qi q) 0 0 0 [some (.ref 120), none, none] [] (n, σ, τ, θ)) : SMi G 6 mX10_passers 0 0 [.ref 120] n σ τ θ q := SM.of _ rfl rfl (Nat.le_of_ble_eq_true rfl) h
set_option maxHeartbeats 4000000 in
set_option maxRecDepth 20000 in
theorem sgX10_pay_0 {G : GG} {k : Nat} {q : Int32 → Nat → SG → TU → TH → Prop} {n : Nat} {σ : SG} {τ : TU} {θ : TH}  (x1 : Int32) (x2 : Int32) (hk : 3 ≤ k)  (hW : aw_WT n θ) (vc : SMv G 1 mX10_good 0 0 [.ref 120] n σ τ θ (fun n1 σ1 τ1 θ1 => aw_WT n1 θ1 ∧ (SMi G 2 mX10_isDebt 0 0 [.ref 120, .int x1] n1 σ1 τ1 θ1 (fun a2 n2 σ2 τ2 θ2 => aw_WT n2 θ2 ∧ (((¬ a2 = 0) → (SMi G 1 mX10_in 0 0 [.int x2, .int (1 : Int32), .int (99 : Int32)] n2 σ2 τ2 θ2 (fun a3 n3 σ3 τ3 θ3 => aw_WT n3 θ3 ∧ (((¬ a3 = 0) → (SMi G 1 mX10_isDue 0 0 [.ref 120, .ref 125, .int x1] n3 σ3 τ3 θ3 (fun a4 n4 σ4 τ4 θ4 => aw_WT n4 θ4 ∧ (((a4 = 0) → (SMi G 1 mX10_no 0 0 [.ref 120, .int (5 : Int32)] n4 σ4 τ4 θ4 (fun a5 n5 σ5 τ5 θ5 => aw_WT n5 θ5 ∧ (q a5 n5 σ5 τ5 θ5)))) ∧ ((¬ a4 = 0) → (vp_in x1 13 ∧ (((x2 ≤ (σ4 125 x1.toNatClampNeg)) → (vp_in ((25 : Int32) + ((4 : Int32) * x1)) 167 ∧ (vp_in ((7 : Int32) + (σ4 123 ((25 : Int32) + ((4 : Int32) * x1)).toNatClampNeg)) 13 ∧ (((x2 ≤ (σ4 125 ((7 : Int32) + (σ4 123 ((25 : Int32) + ((4 : Int32) * x1)).toNatClampNeg)).toNatClampNeg)) → (SMv G 2 mX10_note 0 0 [.ref 120] n4 σ4 τ4 θ4 (fun n6 σ6 τ6 θ6 => aw_WT n6 θ6 ∧ (vp_in ((25 : Int32) + ((4 : Int32) * x1)) 167 ∧ (vp_in ((7 : Int32) + (σ6 123 ((25 : Int32) + ((4 : Int32) * x1)).toNatClampNeg)) 13 ∧ (vp_in ((7 : Int32) + (σ6 123 ((25 : Int32) + ((4 : Int32) * x1)).toNatClampNeg)) 13 ∧ (vp_in (((25 : Int32) + ((4 : Int32) * x1)) + (1 : Int32)) 167 ∧ (vp_in ((7 : Int32) + ((aw_u σ6 125 ((7 : Int32) + (σ6 123 ((25 : Int32) + ((4 : Int32) * x1)).toNatClampNeg)).toNatClampNeg ((σ6 125 ((7 : Int32) + (σ6 123 ((25 : Int32) + ((4 : Int32) * x1)).toNatClampNeg)).toNatClampNeg) - x2)) 123 (((25 : Int32) + ((4 : Int32) * x1)) + (1 : Int32)).toNatClampNeg)) 13 ∧ (vp_in ((7 : Int32) + ((aw_u σ6 125 ((7 : Int32) + (σ6 123 ((25 : Int32) + ((4 : Int32) * x1)).toNatClampNeg)).toNatClampNeg ((σ6 125 ((7 : Int32) + (σ6 123 ((25 : Int32) + ((4 : Int32) * x1)).toNatClampNeg)).toNatClampNeg) - x2)) 123 (((25 : Int32) + ((4 : Int32) * x1)) + (1 : Int32)).toNatClampNeg)) 13 ∧ (vp_in x1 13 ∧ (vp_in x1 13 ∧ (vp_in x1 13 ∧ (q ((aw_u (aw_u (aw_u σ6 125 ((7 : Int32) + (σ6 123 ((25 : Int32) + ((4 : Int32) * x1)).toNatClampNeg)).toNatClampNeg ((σ6 125 ((7 : Int32) + (σ6 123 ((25 : Int32) + ((4 : Int32) * x1)).toNatClampNeg)).toNatClampNeg) - x2)) 125 ((7 : Int32) + ((aw_u σ6 125 ((7 : Int32) + (σ6 123 ((25 : Int32) + ((4 : Int32) * x1)).toNatClampNeg)).toNatClampNeg ((σ6 125 ((7 : Int32) + (σ6 123 ((25 : Int32) + ((4 : Int32) * x1)).toNatClampNeg)).toNatClampNeg) - x2)) 123 (((25 : Int32) + ((4 : Int32) * x1)) + (1 : Int32)).toNatClampNeg)).toNatClampNeg (((aw_u σ6 125 ((7 : Int32) + (σ6 123 ((25 : Int32) + ((4 : Int32) * x1)).toNatClampNeg)).toNatClampNeg ((σ6 125 ((7 : Int32) + (σ6 123 ((25 : Int32) + ((4 : Int32) * x1)).toNatClampNeg)).toNatClampNeg) - x2)) 125 ((7 : Int32) + ((aw_u σ6 125 ((7 : Int32) + (σ6 123 ((25 : Int32) + ((4 : Int32) * x1)).toNatClampNeg)).toNatClampNeg ((σ6 125 ((7 : Int32) + (σ6 123 ((25 : Int32) + ((4 : Int32) * x1)).toNatClampNeg)).toNatClampNeg) - x2)) 123 (((25 : Int32) + ((4 : Int32) * x1)) + (1 : Int32)).toNatClampNeg)).toNatClampNeg) + x2)) 125 x1.toNatClampNeg (((aw_u (aw_u σ6 125 ((7 : Int32) + (σ6 123 ((25 : Int32) + ((4 : Int32) * x1)).toNatClampNeg)).toNatClampNeg ((σ6 125 ((7 : Int32) + (σ6 123 ((25 : Int32) + ((4 : Int32) * x1)).toNatClampNeg)).toNatClampNeg) - x2)) 125 ((7 : Int32) + ((aw_u σ6 125 ((7 : Int32) + (σ6 123 ((25 : Int32) + ((4 : Int32) * x1)).toNatClampNeg)).toNatClampNeg ((σ6 125 ((7 : Int32) + (σ6 123 ((25 : Int32) + ((4 : Int32) * x1)).toNatClampNeg)).toNatClampNeg) - x2)) 123 (((25 : Int32) + ((4 : Int32) * x1)) + (1 : Int32)).toNatClampNeg)).toNatClampNeg (((aw_u σ6 125 ((7 : Int32) + (σ6 123 ((25 : Int32) + ((4 : Int32) * x1)).toNatClampNeg)).toNatClampNeg ((σ6 125 ((7 : Int32) + (σ6 123 ((25 : Int32) + ((4 : Int32) * x1)).toNatClampNeg)).toNatClampNeg) - x2)) 125 ((7 : Int32) + ((aw_u σ6 125 ((7 : Int32) + (σ6 123 ((25 : Int32) + ((4 : Int32) * x1)).toNatClampNeg)).toNatClampNeg ((σ6 125 ((7 : Int32) + (σ6 123 ((25 : Int32) + ((4 : Int32) * x1)).toNatClampNeg)).toNatClampNeg) - x2)) 123 (((25 : Int32) + ((4 : Int32) * x1)) + (1 : Int32)).toNatClampNeg)).toNatClampNeg) + x2)) 125 x1.toNatClampNeg) - x2)) 125 x1.toNatClampNeg) n6 (aw_u (aw_u (aw_u σ6 125 ((7 : Int32) + (σ6 123 ((25 : Int32) + ((4 : Int32) * x1)).toNatClampNeg)).toNatClampNeg ((σ6 125 ((7 : Int32) + (σ6 123 ((25 : Int32) + ((4 : Int32) * x1)).toNatClampNeg)).toNatClampNeg) - x2)) 125 ((7 : Int32) + ((aw_u σ6 125 ((7 : Int32) + (σ6 123 ((25 : Int32) + ((4 : Int32) * x1)).toNatClampNeg)).toNatClampNeg ((σ6 125 ((7 : Int32) + (σ6 123 ((25 : Int32) + ((4 : Int32) * x1)).toNatClampNeg)).toNatClampNeg) - x2)) 123 (((25 : Int32) + ((4 : Int32) * x1)) + (1 : Int32)).toNatClampNeg)).toNatClampNeg (((aw_u σ6 125 ((7 : Int32) + (σ6 123 ((25 : Int32) + ((4 : Int32) * x1)).toNatClampNeg)).toNatClampNeg ((σ6 125 ((7 : Int32) + (σ6 123 ((25 : Int32) + ((4 : Int32) * x1)).toNatClampNeg)).toNatClampNeg) - x2)) 125 ((7 : Int32) + ((aw_u σ6 125 ((7 : Int32) + (σ6 123 ((25 : Int32) + ((4 : Int32) * x1)).toNatClampNeg)).toNatClampNeg ((σ6 125 ((7 : Int32) + (σ6 123 ((25 : Int32) + ((4 : Int32) * x1)).toNatClampNeg)).toNatClampNeg) - x2)) 123 (((25 : Int32) + ((4 : Int32) * x1)) + (1 : Int32)).toNatClampNeg)).toNatClampNeg) + x2)) 125 x1.toNatClampNeg (((aw_u (aw_u σ6 125 ((7 : Int32) + (σ6 123 ((25 : Int32) + ((4 : Int32) * x1)).toNatClampNeg)).toNatClampNeg ((σ6 125 ((7 : Int32) + (σ6 123 ((25 : Int32) + ((4 : Int32) * x1)).toNatClampNeg)).toNatClampNeg) - x2)) 125 ((7 : Int32) + ((aw_u σ6 125 ((7 : Int32) + (σ6 123 ((25 : Int32) + ((4 : Int32) * x1)).toNatClampNeg)).toNatClampNeg ((σ6 125 ((7 : Int32) + (σ6 123 ((25 : Int32) + ((4 : Int32) * x1)).toNatClampNeg)).toNatClampNeg) - x2)) 123 (((25 : Int32) + ((4 : Int32) * x1)) + (1 : Int32)).toNatClampNeg)).toNatClampNeg (((aw_u σ6 125 ((7 : Int32) + (σ6 123 ((25 : Int32) + ((4 : Int32) * x1)).toNatClampNeg)).toNatClampNeg ((σ6 125 ((7 : Int32) + (σ6 123 ((25 : Int32) + ((4 : Int32) * x1)).toNatClampNeg)).toNatClampNeg) - x2)) 125 ((7 : Int32) + ((aw_u σ6 125 ((7 : Int32) + (σ6 123 ((25 : Int32) + ((4 : Int32) * x1)).toNatClampNeg)).toNatClampNeg ((σ6 125 ((7 : Int32) + (σ6 123 ((25 : Int32) + ((4 : Int32) * x1)).toNatClampNeg)).toNatClampNeg) - x2)) 123 (((25 : Int32) + ((4 : Int32) * x1)) + (1 : Int32)).toNatClampNeg)).toNatClampNeg) + x2)) 125 x1.toNatClampNeg) - x2)) τ6 θ6))))))))))))) ∧ ((¬ x2 ≤ (σ4 125 ((7 : Int32) + (σ4 123 ((25 : Int32) + ((4 : Int32) * x1)).toNatClampNeg)).toNatClampNeg)) → (SMi G 1 mX10_no 0 0 [.ref 120, .int (6 : Int32)] n4 σ4 τ4 θ4 (fun a7 n7 σ7 τ7 θ7 => aw_WT n7 θ7 ∧ (q a7 n7 σ7 τ7 θ7)))))))) ∧ ((¬ x2 ≤ (σ4 125 x1.toNatClampNeg)) → (SMi G 1 mX10_no 0 0 [.ref 120, .int (5 : Int32)] n4 σ4 τ4 θ4 (fun a8 n8 σ8 τ8 θ8 => aw_WT n8 θ8 ∧ (q a8 n8 σ8 τ8 θ8))))))))))) ∧ ((a3 = 0) → (SMi G 1 mX10_no 0 0 [.ref 120, .int (2 : Int32)] n3 σ3 τ3 θ3 (fun a9 n9 σ9 τ9 θ9 => aw_WT n9 θ9 ∧ (q a9 n9 σ9 τ9 θ9)))))))) ∧ ((a2 = 0) → (SMi G 1 mX10_no 0 0 [.ref 120, .int (1 : Int32)] n2 σ2 τ2 θ2 (fun a10 n10 σ10 τ10 θ10 => aw_WT n10 θ10 ∧ (q a10 n10 σ10 τ10 θ10))))))))) : SW G k mX10_pay (aw_qi q) 0 0 0 [some (.ref 120), some (.int x1), some (.int x2)] [] (n, σ, τ, θ) := by
  refine SW.aload_n dX10_pay_0 rfl ?_
  refine SW.cvv0 kV_X10_154 (by omega) aw_cl10 kp_120 (by decide) (hW.le (by decide)) rfl (Nat.le_of_ble_eq_true rfl) dX10_pay_1 (SMv.mono vc ?_)
  intro n1 σ1 τ1 θ1 vc
  obtain ⟨hW, vc⟩ := vc
  refine SW.aload_n dX10_pay_4 rfl ?_
  refine SW.iload_n dX10_pay_5 rfl ?_
  refine SW.cvi1 kV_X10_276 (by omega) aw_cl10 kp_120 (by decide) (hW.le (by decide)) rfl (Nat.le_of_ble_eq_true rfl) dX10_pay_6 (SMi.mono vc ?_)
  intro a2 n2 σ2 τ2 θ2 vc
  obtain ⟨hW, vc⟩ := vc
  refine SW.if_ne 18 dX10_pay_9 (by decide) (fun hbr => ?_) (fun hbr => ?_)
  · replace vc := vc.1 hbr
    refine SW.iload_n dX10_pay_18 rfl ?_
    refine SW.iconst (v := (1 : Int32)) dX10_pay_19 (by decide) ?_
    refine SW.bipush (v := (99 : Int32)) dX10_pay_20 (by decide) ?_
    refine SW.csi3 kS_X10_139 (by omega) (Nat.le_of_ble_eq_true rfl) dX10_pay_22 (SMi.mono vc ?_)
    intro a3 n3 σ3 τ3 θ3 vc
    obtain ⟨hW, vc⟩ := vc
    refine SW.if_ne 34 dX10_pay_25 (by decide) (fun hbr => ?_) (fun hbr => ?_)
    · replace vc := vc.1 hbr
      refine SW.aload_n dX10_pay_34 rfl ?_
      refine SW.aload_n dX10_pay_35 rfl ?_
      refine SW.getS (f := 17) (r := 125) aw_cl10 kp_120 (by decide) (hW.le (by decide)) (by decide) ww_1259 dX10_pay_36 rfl hW.t120_17 ?_
      refine SW.iload_n dX10_pay_39 rfl ?_
      refine SW.cvi2 kV_X10_236 (by omega) aw_cl10 kp_120 (by decide) (hW.le (by decide)) rfl (Nat.le_of_ble_eq_true rfl) dX10_pay_40 (SMi.mono vc ?_)
      intro a4 n4 σ4 τ4 θ4 vc
      obtain ⟨hW, vc⟩ := vc
      refine SW.if_eq 56 dX10_pay_43 (by decide) (fun hbr => ?_) (fun hbr => ?_)
      · replace vc := vc.1 hbr
        refine SW.aload_n dX10_pay_56 rfl ?_
        refine SW.iconst (v := (5 : Int32)) dX10_pay_57 (by decide) ?_
        refine SW.cvi1 kV_X10_157 (by omega) aw_cl10 kp_120 (by decide) (hW.le (by decide)) rfl (Nat.le_of_ble_eq_true rfl) dX10_pay_58 (SMi.mono vc ?_)
        intro a5 n5 σ5 τ5 θ5 vc
        obtain ⟨hW, vc⟩ := vc
        exact SW.iret dX10_pay_61 rfl rfl ⟨_, rfl, vc⟩
      · replace vc := vc.2 hbr
        refine SW.aload_n dX10_pay_46 rfl ?_
        refine SW.getS (f := 17) (r := 125) aw_cl10 kp_120 (by decide) (hW.le (by decide)) (by decide) ww_1259 dX10_pay_47 rfl hW.t120_17 ?_
        refine SW.iload_n dX10_pay_50 rfl ?_
        refine SW.iald kp_125 (by decide) (hW.le (by decide)) vc.1 dX10_pay_51 ?_
        replace vc := vc.2
        refine SW.iload_n dX10_pay_52 rfl ?_
        refine SW.icmp_ge 62 dX10_pay_53 (by decide) (fun hbr => ?_) (fun hbr => ?_)
        · replace vc := vc.1 hbr
          refine SW.aload_n dX10_pay_62 rfl ?_
          refine SW.getS (f := 17) (r := 125) aw_cl10 kp_120 (by decide) (hW.le (by decide)) (by decide) ww_1259 dX10_pay_63 rfl hW.t120_17 ?_
          refine SW.bipush (v := (7 : Int32)) dX10_pay_66 (by decide) ?_
          refine SW.aload_n dX10_pay_68 rfl ?_
          refine SW.getS (f := 15) (r := 123) aw_cl10 kp_120 (by decide) (hW.le (by decide)) (by decide) ww_1257 dX10_pay_69 rfl hW.t120_15 ?_
          refine SW.bipush (v := (25 : Int32)) dX10_pay_72 (by decide) ?_
          refine SW.iconst (v := (4 : Int32)) dX10_pay_74 (by decide) ?_
          refine SW.iload_n dX10_pay_75 rfl ?_
          refine SW.imul dX10_pay_76 ?_
          refine SW.iadd dX10_pay_77 ?_
          refine SW.iald kp_123 (by decide) (hW.le (by decide)) vc.1 dX10_pay_78 ?_
          replace vc := vc.2
          refine SW.iadd dX10_pay_79 ?_
          refine SW.iald kp_125 (by decide) (hW.le (by decide)) vc.1 dX10_pay_80 ?_
          replace vc := vc.2
          refine SW.iload_n dX10_pay_81 rfl ?_
          refine SW.icmp_ge 92 dX10_pay_82 (by decide) (fun hbr => ?_) (fun hbr => ?_)
          · replace vc := vc.1 hbr
            refine SW.aload_n dX10_pay_92 rfl ?_
            refine SW.cvv0 kV_X10_406 (by omega) aw_cl10 kp_120 (by decide) (hW.le (by decide)) rfl (Nat.le_of_ble_eq_true rfl) dX10_pay_93 (SMv.mono vc ?_)
            intro n6 σ6 τ6 θ6 vc
            obtain ⟨hW, vc⟩ := vc
            refine SW.aload_n dX10_pay_96 rfl ?_
            refine SW.getS (f := 17) (r := 125) aw_cl10 kp_120 (by decide) (hW.le (by decide)) (by decide) ww_1259 dX10_pay_97 rfl hW.t120_17 ?_
            refine SW.bipush (v := (7 : Int32)) dX10_pay_100 (by decide) ?_
            refine SW.aload_n dX10_pay_102 rfl ?_
            refine SW.getS (f := 15) (r := 123) aw_cl10 kp_120 (by decide) (hW.le (by decide)) (by decide) ww_1257 dX10_pay_103 rfl hW.t120_15 ?_
            refine SW.bipush (v := (25 : Int32)) dX10_pay_106 (by decide) ?_
            refine SW.iconst (v := (4 : Int32)) dX10_pay_108 (by decide) ?_
            refine SW.iload_n dX10_pay_109 rfl ?_
            refine SW.imul dX10_pay_110 ?_
            refine SW.iadd dX10_pay_111 ?_
            refine SW.iald kp_123 (by decide) (hW.le (by decide)) vc.1 dX10_pay_112 ?_
            replace vc := vc.2
            refine SW.iadd dX10_pay_113 ?_
            refine SW.dup2 dX10_pay_114 rfl rfl ?_
            refine SW.iald kp_125 (by decide) (hW.le (by decide)) vc.1 dX10_pay_115 ?_
            replace vc := vc.2
            refine SW.iload_n dX10_pay_116 rfl ?_
            refine SW.isub dX10_pay_117 ?_
            refine SW.iast kp_125 (by decide) (hW.le (by decide)) vc.1 dX10_pay_118 ?_
            replace vc := vc.2
            refine SW.aload_n dX10_pay_119 rfl ?_
            refine SW.getS (f := 17) (r := 125) aw_cl10 kp_120 (by decide) (hW.le (by decide)) (by decide) ww_1259 dX10_pay_120 rfl hW.t120_17 ?_
            refine SW.bipush (v := (7 : Int32)) dX10_pay_123 (by decide) ?_
            refine SW.aload_n dX10_pay_125 rfl ?_
            refine SW.getS (f := 15) (r := 123) aw_cl10 kp_120 (by decide) (hW.le (by decide)) (by decide) ww_1257 dX10_pay_126 rfl hW.t120_15 ?_
            refine SW.bipush (v := (25 : Int32)) dX10_pay_129 (by decide) ?_
            refine SW.iconst (v := (4 : Int32)) dX10_pay_131 (by decide) ?_
            refine SW.iload_n dX10_pay_132 rfl ?_
            refine SW.imul dX10_pay_133 ?_
            refine SW.iadd dX10_pay_134 ?_
            refine SW.iconst (v := (1 : Int32)) dX10_pay_135 (by decide) ?_
            refine SW.iadd dX10_pay_136 ?_
            refine SW.iald kp_123 (by decide) (hW.le (by decide)) vc.1 dX10_pay_137 ?_
            replace vc := vc.2
            refine SW.iadd dX10_pay_138 ?_
            refine SW.dup2 dX10_pay_139 rfl rfl ?_
            refine SW.iald kp_125 (by decide) (hW.le (by decide)) vc.1 dX10_pay_140 ?_
            replace vc := vc.2
            refine SW.iload_n dX10_pay_141 rfl ?_
            refine SW.iadd dX10_pay_142 ?_
            refine SW.iast kp_125 (by decide) (hW.le (by decide)) vc.1 dX10_pay_143 ?_
            replace vc := vc.2
            refine SW.aload_n dX10_pay_144 rfl ?_
            refine SW.getS (f := 17) (r := 125) aw_cl10 kp_120 (by decide) (hW.le (by decide)) (by decide) ww_1259 dX10_pay_145 rfl hW.t120_17 ?_
            refine SW.iload_n dX10_pay_148 rfl ?_
            refine SW.dup2 dX10_pay_149 rfl rfl ?_
            refine SW.iald kp_125 (by decide) (hW.le (by decide)) vc.1 dX10_pay_150 ?_
            replace vc := vc.2
            refine SW.iload_n dX10_pay_151 rfl ?_
            refine SW.isub dX10_pay_152 ?_
            refine SW.iast kp_125 (by decide) (hW.le (by decide)) vc.1 dX10_pay_153 ?_
            replace vc := vc.2
            refine SW.aload_n dX10_pay_154 rfl ?_
            refine SW.getS (f := 17) (r := 125) aw_cl10 kp_120 (by decide) (hW.le (by decide)) (by decide) ww_1259 dX10_pay_155 rfl hW.t120_17 ?_
            refine SW.iload_n dX10_pay_158 rfl ?_
            refine SW.iald kp_125 (by decide) (hW.le (by decide)) vc.1 dX10_pay_159 ?_
            replace vc := vc.2
            exact SW.iret dX10_pay_160 rfl rfl ⟨_, rfl, vc⟩
          · replace vc := vc.2 hbr
            refine SW.aload_n dX10_pay_85 rfl ?_
            refine SW.bipush (v := (6 : Int32)) dX10_pay_86 (by decide) ?_
            refine SW.cvi1 kV_X10_157 (by omega) aw_cl10 kp_120 (by decide) (hW.le (by decide)) rfl (Nat.le_of_ble_eq_true rfl) dX10_pay_88 (SMi.mono vc ?_)
            intro a7 n7 σ7 τ7 θ7 vc
            obtain ⟨hW, vc⟩ := vc
            exact SW.iret dX10_pay_91 rfl rfl ⟨_, rfl, vc⟩
        · replace vc := vc.2 hbr
          refine SW.aload_n dX10_pay_56 rfl ?_
          refine SW.iconst (v := (5 : Int32)) dX10_pay_57 (by decide) ?_
          refine SW.cvi1 kV_X10_157 (by omega) aw_cl10 kp_120 (by decide) (hW.le (by decide)) rfl (Nat.le_of_ble_eq_true rfl) dX10_pay_58 (SMi.mono vc ?_)
          intro a8 n8 σ8 τ8 θ8 vc
          obtain ⟨hW, vc⟩ := vc
          exact SW.iret dX10_pay_61 rfl rfl ⟨_, rfl, vc⟩
    · replace vc := vc.2 hbr
      refine SW.aload_n dX10_pay_28 rfl ?_
      refine SW.iconst (v := (2 : Int32)) dX10_pay_29 (by decide) ?_
      refine SW.cvi1 kV_X10_157 (by omega) aw_cl10 kp_120 (by decide) (hW.le (by decide)) rfl (Nat.le_of_ble_eq_true rfl) dX10_pay_30 (SMi.mono vc ?_)
      intro a9 n9 σ9 τ9 θ9 vc
      obtain ⟨hW, vc⟩ := vc
      exact SW.iret dX10_pay_33 rfl rfl ⟨_, rfl, vc⟩
  · replace vc := vc.2 hbr
    refine SW.aload_n dX10_pay_12 rfl ?_
    refine SW.iconst (v := (1 : Int32)) dX10_pay_13 (by decide) ?_
    refine SW.cvi1 kV_X10_157 (by omega) aw_cl10 kp_120 (by decide) (hW.le (by decide)) rfl (Nat.le_of_ble_eq_true rfl) dX10_pay_14 (SMi.mono vc ?_)
    intro a10 n10 σ10 τ10 θ10 vc
    obtain ⟨hW, vc⟩ := vc
    exact SW.iret dX10_pay_17 rfl rfl ⟨_, rfl, vc⟩
theorem ctX10_pay {G : GG} {q : Int32 → Nat → SG → TU → TH → Prop} {n : Nat} {σ : SG} {τ : TU} {θ : TH} (x1 : Int32) (x2 : Int32) (h : SW G 3 mX10_pay (aw_qi q) 0 0 0 [some (.ref 120), some (.int x1), some (.int x2)] [] (n, σ, τ, θ)) : SMi G 3 mX10_pay 0 0 [.ref 120, .int x1, .int x2] n σ τ θ q := SM.of _ rfl rfl (Nat.le_of_ble_eq_true rfl) h
set_option maxHeartbeats 4000000 in
set_option maxRecDepth 20000 in
theorem sgX10_payAll_0 {G : GG} {k : Nat} {q : Int32 → Nat → SG → TU → TH → Prop} {n : Nat} {σ : SG} {τ : TU} {θ : TH}   (hk : 7 ≤ k)  (hW : aw_WT n θ) (vc : SMv G 1 mX10_good 0 0 [.ref 120] n σ τ θ (fun n1 σ1 τ1 θ1 => aw_WT n1 θ1 ∧ (((¬ (σ1 120 14) = 0) → (SW G k mX10_payAll (aw_qi q) 0 0 21 [some (.ref 120), some (.int (0 : Int32)), some (.int (0 : Int32)), none] [] (n1, σ1, τ1, θ1))) ∧ (((σ1 120 14) = 0) → (SMi G 1 mX10_no 0 0 [.ref 120, .int (1 : Int32)] n1 σ1 τ1 θ1 (fun a2 n2 σ2 τ2 θ2 => aw_WT n2 θ2 ∧ (q a2 n2 σ2 τ2 θ2))))))) : SW G k mX10_payAll (aw_qi q) 0 0 0 [some (.ref 120), none, none, none] [] (n, σ, τ, θ) := by
  refine SW.aload_n dX10_payAll_0 rfl ?_
  refine SW.cvv0 kV_X10_154 (by omega) aw_cl10 kp_120 (by decide) (hW.le (by decide)) rfl (Nat.le_of_ble_eq_true rfl) dX10_payAll_1 (SMv.mono vc ?_)
  intro n1 σ1 τ1 θ1 vc
  obtain ⟨hW, vc⟩ := vc
  refine SW.aload_n dX10_payAll_4 rfl ?_
  refine SW.getI (f := 14) aw_cl10 kp_120 (by decide) (hW.le (by decide)) (by decide) ww_1256 dX10_payAll_5 rfl ?_
  refine SW.if_ne 17 dX10_payAll_8 (by decide) (fun hbr => ?_) (fun hbr => ?_)
  · replace vc := vc.1 hbr
    refine SW.iconst (v := (0 : Int32)) dX10_payAll_17 (by decide) ?_
    refine SW.istore_n dX10_payAll_18 (by decide) rfl rfl ?_
    refine SW.iconst (v := (0 : Int32)) dX10_payAll_19 (by decide) ?_
    refine SW.istore_n dX10_payAll_20 (by decide) rfl rfl ?_
    exact vc
  · replace vc := vc.2 hbr
    refine SW.aload_n dX10_payAll_11 rfl ?_
    refine SW.iconst (v := (1 : Int32)) dX10_payAll_12 (by decide) ?_
    refine SW.cvi1 kV_X10_157 (by omega) aw_cl10 kp_120 (by decide) (hW.le (by decide)) rfl (Nat.le_of_ble_eq_true rfl) dX10_payAll_13 (SMi.mono vc ?_)
    intro a2 n2 σ2 τ2 θ2 vc
    obtain ⟨hW, vc⟩ := vc
    exact SW.iret dX10_payAll_16 rfl rfl ⟨_, rfl, vc⟩
set_option maxHeartbeats 4000000 in
set_option maxRecDepth 20000 in
theorem sgX10_payAll_21 {G : GG} {k : Nat} {q : Int32 → Nat → SG → TU → TH → Prop} {n : Nat} {σ : SG} {τ : TU} {θ : TH}  (x1 : Int32) (x2 : Int32) (hk : 7 ≤ k)  (hW : aw_WT n θ) (vc : (((σ 123 4) ≤ x2) → (q x1 n σ τ θ)) ∧ ((¬ (σ 123 4) ≤ x2) → (vp_in ((73 : Int32) + x2) 167 ∧ (((¬ (σ 123 ((73 : Int32) + x2).toNatClampNeg) = 0) → (vp_in ((73 : Int32) + x2) 167 ∧ (SMi G 6 mX10_payOf 0 0 [.ref 120, .int x2, .int ((σ 123 ((73 : Int32) + x2).toNatClampNeg) - (1 : Int32))] n σ τ θ (fun a1 n1 σ1 τ1 θ1 => aw_WT n1 θ1 ∧ (((0 ≤ a1) → (SW G k mX10_payAll (aw_qi q) 0 0 21 [some (.ref 120), some (.int (x1 + a1)), some (.int (x2 + (1 : Int32))), none] [] (n1, σ1, τ1, θ1))) ∧ ((¬ 0 ≤ a1) → (q (-2 : Int32) n1 σ1 τ1 θ1))))))) ∧ (((σ 123 ((73 : Int32) + x2).toNatClampNeg) = 0) → (((0 ≤ (0 : Int32)) → (SW G k mX10_payAll (aw_qi q) 0 0 21 [some (.ref 120), some (.int (x1 + (0 : Int32))), some (.int (x2 + (1 : Int32))), none] [] (n, σ, τ, θ))) ∧ ((¬ 0 ≤ (0 : Int32)) → (q (-2 : Int32) n σ τ θ)))))))) : SW G k mX10_payAll (aw_qi q) 0 0 21 [some (.ref 120), some (.int x1), some (.int x2), none] [] (n, σ, τ, θ) := by
  refine SW.iload_n dX10_payAll_21 rfl ?_
  refine SW.aload_n dX10_payAll_22 rfl ?_
  refine SW.getS (f := 15) (r := 123) aw_cl10 kp_120 (by decide) (hW.le (by decide)) (by decide) ww_1257 dX10_payAll_23 rfl hW.t120_15 ?_
  refine SW.iconst (v := (4 : Int32)) dX10_payAll_26 (by decide) ?_
  refine SW.iald kp_123 (by decide) (hW.le (by decide)) (vp_in_nI (n := 4) (by decide) (by decide)) dX10_payAll_27 ?_
  refine SW.icmp_ge 81 dX10_payAll_28 (by decide) (fun hbr => ?_) (fun hbr => ?_)
  · replace vc := vc.1 hbr
    refine SW.iload_n dX10_payAll_81 rfl ?_
    exact SW.iret dX10_payAll_82 rfl rfl ⟨_, rfl, vc⟩
  · replace vc := vc.2 hbr
    refine SW.aload_n dX10_payAll_31 rfl ?_
    refine SW.getS (f := 15) (r := 123) aw_cl10 kp_120 (by decide) (hW.le (by decide)) (by decide) ww_1257 dX10_payAll_32 rfl hW.t120_15 ?_
    refine SW.bipush (v := (73 : Int32)) dX10_payAll_35 (by decide) ?_
    refine SW.iload_n dX10_payAll_37 rfl ?_
    refine SW.iadd dX10_payAll_38 ?_
    refine SW.iald kp_123 (by decide) (hW.le (by decide)) vc.1 dX10_payAll_39 ?_
    replace vc := vc.2
    refine SW.if_ne 47 dX10_payAll_40 (by decide) (fun hbr => ?_) (fun hbr => ?_)
    · replace vc := vc.1 hbr
      refine SW.aload_n dX10_payAll_47 rfl ?_
      refine SW.iload_n dX10_payAll_48 rfl ?_
      refine SW.aload_n dX10_payAll_49 rfl ?_
      refine SW.getS (f := 15) (r := 123) aw_cl10 kp_120 (by decide) (hW.le (by decide)) (by decide) ww_1257 dX10_payAll_50 rfl hW.t120_15 ?_
      refine SW.bipush (v := (73 : Int32)) dX10_payAll_53 (by decide) ?_
      refine SW.iload_n dX10_payAll_55 rfl ?_
      refine SW.iadd dX10_payAll_56 ?_
      refine SW.iald kp_123 (by decide) (hW.le (by decide)) vc.1 dX10_payAll_57 ?_
      replace vc := vc.2
      refine SW.iconst (v := (1 : Int32)) dX10_payAll_58 (by decide) ?_
      refine SW.isub dX10_payAll_59 ?_
      refine SW.cvi2 kV_X10_302 (by omega) aw_cl10 kp_120 (by decide) (hW.le (by decide)) rfl (Nat.le_of_ble_eq_true rfl) dX10_payAll_60 (SMi.mono vc ?_)
      intro a1 n1 σ1 τ1 θ1 vc
      obtain ⟨hW, vc⟩ := vc
      refine SW.istore_n dX10_payAll_63 (by decide) rfl rfl ?_
      refine SW.iload_n dX10_payAll_64 rfl ?_
      refine SW.if_ge 71 dX10_payAll_65 (by decide) (fun hbr => ?_) (fun hbr => ?_)
      · replace vc := vc.1 hbr
        refine SW.iload_n dX10_payAll_71 rfl ?_
        refine SW.iload_n dX10_payAll_72 rfl ?_
        refine SW.iadd dX10_payAll_73 ?_
        refine SW.istore_n dX10_payAll_74 (by decide) rfl rfl ?_
        refine SW.iinc (v := (x2 + (1 : Int32))) dX10_payAll_75 rfl rfl (by decide) rfl rfl ?_
        refine SW.goto 21 dX10_payAll_78 (by decide) ?_
        refine SW.msk [true, true, true, false] rfl ?_
        exact vc
      · replace vc := vc.2 hbr
        refine SW.bipush (v := (-2 : Int32)) dX10_payAll_68 (by decide) ?_
        exact SW.iret dX10_payAll_70 rfl rfl ⟨_, rfl, vc⟩
    · replace vc := vc.2 hbr
      refine SW.iconst (v := (0 : Int32)) dX10_payAll_43 (by decide) ?_
      refine SW.goto 63 dX10_payAll_44 (by decide) ?_
      refine SW.istore_n dX10_payAll_63 (by decide) rfl rfl ?_
      refine SW.iload_n dX10_payAll_64 rfl ?_
      refine SW.if_ge 71 dX10_payAll_65 (by decide) (fun hbr => ?_) (fun hbr => ?_)
      · replace vc := vc.1 hbr
        refine SW.iload_n dX10_payAll_71 rfl ?_
        refine SW.iload_n dX10_payAll_72 rfl ?_
        refine SW.iadd dX10_payAll_73 ?_
        refine SW.istore_n dX10_payAll_74 (by decide) rfl rfl ?_
        refine SW.iinc (v := (x2 + (1 : Int32))) dX10_payAll_75 rfl rfl (by decide) rfl rfl ?_
        refine SW.goto 21 dX10_payAll_78 (by decide) ?_
        refine SW.msk [true, true, true, false] rfl ?_
        exact vc
      · replace vc := vc.2 hbr
        refine SW.bipush (v := (-2 : Int32)) dX10_payAll_68 (by decide) ?_
        exact SW.iret dX10_payAll_70 rfl rfl ⟨_, rfl, vc⟩
theorem ctX10_payAll {G : GG} {q : Int32 → Nat → SG → TU → TH → Prop} {n : Nat} {σ : SG} {τ : TU} {θ : TH}  (h : SW G 7 mX10_payAll (aw_qi q) 0 0 0 [some (.ref 120), none, none, none] [] (n, σ, τ, θ)) : SMi G 7 mX10_payAll 0 0 [.ref 120] n σ τ θ q := SM.of _ rfl rfl (Nat.le_of_ble_eq_true rfl) h
set_option maxHeartbeats 4000000 in
set_option maxRecDepth 20000 in
theorem sgX10_payFor_0 {G : GG} {k : Nat} {q : Int32 → Nat → SG → TU → TH → Prop} {n : Nat} {σ : SG} {τ : TU} {θ : TH}  (x1 : Int32) (x2 : Int32) (hk : 7 ≤ k)  (hW : aw_WT n θ) (vc : SMv G 1 mX10_good 0 0 [.ref 120] n σ τ θ (fun n1 σ1 τ1 θ1 => aw_WT n1 θ1 ∧ (SMi G 2 mX10_isMan 0 0 [.ref 120, .int x1] n1 σ1 τ1 θ1 (fun a2 n2 σ2 τ2 θ2 => aw_WT n2 θ2 ∧ (((a2 = 0) → (SMi G 1 mX10_no 0 0 [.ref 120, .int (1 : Int32)] n2 σ2 τ2 θ2 (fun a3 n3 σ3 τ3 θ3 => aw_WT n3 θ3 ∧ (q a3 n3 σ3 τ3 θ3)))) ∧ ((¬ a2 = 0) → (SMi G 2 mX10_isDoor 0 0 [.ref 120, .int x2] n2 σ2 τ2 θ2 (fun a4 n4 σ4 τ4 θ4 => aw_WT n4 θ4 ∧ (((a4 = 0) → (SMi G 1 mX10_no 0 0 [.ref 120, .int (1 : Int32)] n4 σ4 τ4 θ4 (fun a5 n5 σ5 τ5 θ5 => aw_WT n5 θ5 ∧ (q a5 n5 σ5 τ5 θ5)))) ∧ ((¬ a4 = 0) → (SMi G 6 mX10_payOf 0 0 [.ref 120, .int x1, .int x2] n4 σ4 τ4 θ4 (fun a6 n6 σ6 τ6 θ6 => aw_WT n6 θ6 ∧ (q a6 n6 σ6 τ6 θ6))))))))))))) : SW G k mX10_payFor (aw_qi q) 0 0 0 [some (.ref 120), some (.int x1), some (.int x2)] [] (n, σ, τ, θ) := by
  refine SW.aload_n dX10_payFor_0 rfl ?_
  refine SW.cvv0 kV_X10_154 (by omega) aw_cl10 kp_120 (by decide) (hW.le (by decide)) rfl (Nat.le_of_ble_eq_true rfl) dX10_payFor_1 (SMv.mono vc ?_)
  intro n1 σ1 τ1 θ1 vc
  obtain ⟨hW, vc⟩ := vc
  refine SW.aload_n dX10_payFor_4 rfl ?_
  refine SW.iload_n dX10_payFor_5 rfl ?_
  refine SW.cvi1 kV_X10_264 (by omega) aw_cl10 kp_120 (by decide) (hW.le (by decide)) rfl (Nat.le_of_ble_eq_true rfl) dX10_payFor_6 (SMi.mono vc ?_)
  intro a2 n2 σ2 τ2 θ2 vc
  obtain ⟨hW, vc⟩ := vc
  refine SW.if_eq 29 dX10_payFor_9 (by decide) (fun hbr => ?_) (fun hbr => ?_)
  · replace vc := vc.1 hbr
    refine SW.aload_n dX10_payFor_29 rfl ?_
    refine SW.iconst (v := (1 : Int32)) dX10_payFor_30 (by decide) ?_
    refine SW.cvi1 kV_X10_157 (by omega) aw_cl10 kp_120 (by decide) (hW.le (by decide)) rfl (Nat.le_of_ble_eq_true rfl) dX10_payFor_31 (SMi.mono vc ?_)
    intro a3 n3 σ3 τ3 θ3 vc
    obtain ⟨hW, vc⟩ := vc
    exact SW.iret dX10_payFor_34 rfl rfl ⟨_, rfl, vc⟩
  · replace vc := vc.2 hbr
    refine SW.aload_n dX10_payFor_12 rfl ?_
    refine SW.iload_n dX10_payFor_13 rfl ?_
    refine SW.cvi1 kV_X10_279 (by omega) aw_cl10 kp_120 (by decide) (hW.le (by decide)) rfl (Nat.le_of_ble_eq_true rfl) dX10_payFor_14 (SMi.mono vc ?_)
    intro a4 n4 σ4 τ4 θ4 vc
    obtain ⟨hW, vc⟩ := vc
    refine SW.if_eq 29 dX10_payFor_17 (by decide) (fun hbr => ?_) (fun hbr => ?_)
    · replace vc := vc.1 hbr
      refine SW.aload_n dX10_payFor_29 rfl ?_
      refine SW.iconst (v := (1 : Int32)) dX10_payFor_30 (by decide) ?_
      refine SW.cvi1 kV_X10_157 (by omega) aw_cl10 kp_120 (by decide) (hW.le (by decide)) rfl (Nat.le_of_ble_eq_true rfl) dX10_payFor_31 (SMi.mono vc ?_)
      intro a5 n5 σ5 τ5 θ5 vc
      obtain ⟨hW, vc⟩ := vc
      exact SW.iret dX10_payFor_34 rfl rfl ⟨_, rfl, vc⟩
    · replace vc := vc.2 hbr
      refine SW.aload_n dX10_payFor_20 rfl ?_
      refine SW.iload_n dX10_payFor_21 rfl ?_
      refine SW.iload_n dX10_payFor_22 rfl ?_
      refine SW.cvi2 kV_X10_302 (by omega) aw_cl10 kp_120 (by decide) (hW.le (by decide)) rfl (Nat.le_of_ble_eq_true rfl) dX10_payFor_23 (SMi.mono vc ?_)
      intro a6 n6 σ6 τ6 θ6 vc
      obtain ⟨hW, vc⟩ := vc
      refine SW.goto 34 dX10_payFor_26 (by decide) ?_
      exact SW.iret dX10_payFor_34 rfl rfl ⟨_, rfl, vc⟩
theorem ctX10_payFor {G : GG} {q : Int32 → Nat → SG → TU → TH → Prop} {n : Nat} {σ : SG} {τ : TU} {θ : TH} (x1 : Int32) (x2 : Int32) (h : SW G 7 mX10_payFor (aw_qi q) 0 0 0 [some (.ref 120), some (.int x1), some (.int x2)] [] (n, σ, τ, θ)) : SMi G 7 mX10_payFor 0 0 [.ref 120, .int x1, .int x2] n σ τ θ q := SM.of _ rfl rfl (Nat.le_of_ble_eq_true rfl) h
set_option maxHeartbeats 4000000 in
set_option maxRecDepth 20000 in
theorem sgX10_payOf_0 {G : GG} {k : Nat} {q : Int32 → Nat → SG → TU → TH → Prop} {n : Nat} {σ : SG} {τ : TU} {θ : TH}  (x1 : Int32) (x2 : Int32) (hk : 6 ≤ k)  (hW : aw_WT n θ) (vc : SMv G 2 mX10_goOver 0 0 [.ref 120, .int (0 : Int32)] n σ τ θ (fun n1 σ1 τ1 θ1 => aw_WT n1 θ1 ∧ (SW G k mX10_payOf (aw_qi q) 0 0 7 [some (.ref 120), some (.int x1), some (.int x2), some (.int (0 : Int32)), none, none] [] (n1, σ1, τ1, θ1)))) : SW G k mX10_payOf (aw_qi q) 0 0 0 [some (.ref 120), some (.int x1), some (.int x2), none, none, none] [] (n, σ, τ, θ) := by
  refine SW.aload_n dX10_payOf_0 rfl ?_
  refine SW.iconst (v := (0 : Int32)) dX10_payOf_1 (by decide) ?_
  refine SW.cvv1 kV_X10_293 (by omega) aw_cl10 kp_120 (by decide) (hW.le (by decide)) rfl (Nat.le_of_ble_eq_true rfl) dX10_payOf_2 (SMv.mono vc ?_)
  intro n1 σ1 τ1 θ1 vc
  obtain ⟨hW, vc⟩ := vc
  refine SW.iconst (v := (0 : Int32)) dX10_payOf_5 (by decide) ?_
  refine SW.istore_n dX10_payOf_6 (by decide) rfl rfl ?_
  exact vc
set_option maxHeartbeats 4000000 in
set_option maxRecDepth 20000 in
theorem sgX10_payOf_7 {G : GG} {k : Nat} {q : Int32 → Nat → SG → TU → TH → Prop} {n : Nat} {σ : SG} {τ : TU} {θ : TH}  (x1 : Int32) (x2 : Int32) (x3 : Int32) (hk : 6 ≤ k)  (hW : aw_WT n θ) (vc : SMi G 5 mX10_doesPass 0 0 [.ref 120, .ref 128, .int x1, .int x2] n σ τ θ (fun a1 n1 σ1 τ1 θ1 => aw_WT n1 θ1 ∧ (((¬ a1 = 0) → (vp_in ((7 : Int32) + x1) 13 ∧ (((x3 ≤ (σ1 125 ((7 : Int32) + x1).toNatClampNeg)) → (q x3 n1 σ1 τ1 θ1)) ∧ ((¬ x3 ≤ (σ1 125 ((7 : Int32) + x1).toNatClampNeg)) → (q (-2 : Int32) n1 σ1 τ1 θ1))))) ∧ ((a1 = 0) → (SMi G 3 mX10_cheapestOf 0 0 [.ref 120, .ref 128, .int x1] n1 σ1 τ1 θ1 (fun a2 n2 σ2 τ2 θ2 => aw_WT n2 θ2 ∧ (SMi G 2 mX10_nextTine 0 0 [.ref 120, .ref 128, .int a2] n2 σ2 τ2 θ2 (fun a3 n3 σ3 τ3 θ3 => aw_WT n3 θ3 ∧ (vp_in a2 13 ∧ (vp_in a2 13 ∧ (SW G k mX10_payOf (aw_qi q) 0 0 7 [some (.ref 120), some (.int x1), some (.int x2), some (.int (x3 + a3)), none, none] [] (n3, (aw_u σ3 128 a2.toNatClampNeg ((σ3 128 a2.toNatClampNeg) - a3)), τ3, θ3)))))))))))) : SW G k mX10_payOf (aw_qi q) 0 0 7 [some (.ref 120), some (.int x1), some (.int x2), some (.int x3), none, none] [] (n, σ, τ, θ) := by
  refine SW.aload_n dX10_payOf_7 rfl ?_
  refine SW.aload_n dX10_payOf_8 rfl ?_
  refine SW.getS (f := 23) (r := 128) aw_cl10 kp_120 (by decide) (hW.le (by decide)) (by decide) ww_1265 dX10_payOf_9 rfl hW.t120_23 ?_
  refine SW.iload_n dX10_payOf_12 rfl ?_
  refine SW.iload_n dX10_payOf_13 rfl ?_
  refine SW.cvi3 kV_X10_282 (by omega) aw_cl10 kp_120 (by decide) (hW.le (by decide)) rfl (Nat.le_of_ble_eq_true rfl) dX10_payOf_14 (SMi.mono vc ?_)
  intro a1 n1 σ1 τ1 θ1 vc
  obtain ⟨hW, vc⟩ := vc
  refine SW.if_ne 63 dX10_payOf_17 (by decide) (fun hbr => ?_) (fun hbr => ?_)
  · replace vc := vc.1 hbr
    refine SW.iload_n dX10_payOf_63 rfl ?_
    refine SW.aload_n dX10_payOf_64 rfl ?_
    refine SW.getS (f := 17) (r := 125) aw_cl10 kp_120 (by decide) (hW.le (by decide)) (by decide) ww_1259 dX10_payOf_65 rfl hW.t120_17 ?_
    refine SW.bipush (v := (7 : Int32)) dX10_payOf_68 (by decide) ?_
    refine SW.iload_n dX10_payOf_70 rfl ?_
    refine SW.iadd dX10_payOf_71 ?_
    refine SW.iald kp_125 (by decide) (hW.le (by decide)) vc.1 dX10_payOf_72 ?_
    replace vc := vc.2
    refine SW.icmp_le 81 dX10_payOf_73 (by decide) (fun hbr => ?_) (fun hbr => ?_)
    · replace vc := vc.1 hbr
      refine SW.iload_n dX10_payOf_81 rfl ?_
      exact SW.iret dX10_payOf_82 rfl rfl ⟨_, rfl, vc⟩
    · replace vc := vc.2 hbr
      refine SW.bipush (v := (-2 : Int32)) dX10_payOf_76 (by decide) ?_
      refine SW.goto 82 dX10_payOf_78 (by decide) ?_
      exact SW.iret dX10_payOf_82 rfl rfl ⟨_, rfl, vc⟩
  · replace vc := vc.2 hbr
    refine SW.aload_n dX10_payOf_20 rfl ?_
    refine SW.aload_n dX10_payOf_21 rfl ?_
    refine SW.getS (f := 23) (r := 128) aw_cl10 kp_120 (by decide) (hW.le (by decide)) (by decide) ww_1265 dX10_payOf_22 rfl hW.t120_23 ?_
    refine SW.iload_n dX10_payOf_25 rfl ?_
    refine SW.cvi2 kV_X10_299 (by omega) aw_cl10 kp_120 (by decide) (hW.le (by decide)) rfl (Nat.le_of_ble_eq_true rfl) dX10_payOf_26 (SMi.mono vc ?_)
    intro a2 n2 σ2 τ2 θ2 vc
    obtain ⟨hW, vc⟩ := vc
    refine SW.istore dX10_payOf_29 (by decide) rfl rfl ?_
    refine SW.aload_n dX10_payOf_31 rfl ?_
    refine SW.aload_n dX10_payOf_32 rfl ?_
    refine SW.getS (f := 23) (r := 128) aw_cl10 kp_120 (by decide) (hW.le (by decide)) (by decide) ww_1265 dX10_payOf_33 rfl hW.t120_23 ?_
    refine SW.iload dX10_payOf_36 rfl ?_
    refine SW.cvi2 kV_X10_296 (by omega) aw_cl10 kp_120 (by decide) (hW.le (by decide)) rfl (Nat.le_of_ble_eq_true rfl) dX10_payOf_38 (SMi.mono vc ?_)
    intro a3 n3 σ3 τ3 θ3 vc
    obtain ⟨hW, vc⟩ := vc
    refine SW.istore dX10_payOf_41 (by decide) rfl rfl ?_
    refine SW.iload_n dX10_payOf_43 rfl ?_
    refine SW.iload dX10_payOf_44 rfl ?_
    refine SW.iadd dX10_payOf_46 ?_
    refine SW.istore_n dX10_payOf_47 (by decide) rfl rfl ?_
    refine SW.aload_n dX10_payOf_48 rfl ?_
    refine SW.getS (f := 23) (r := 128) aw_cl10 kp_120 (by decide) (hW.le (by decide)) (by decide) ww_1265 dX10_payOf_49 rfl hW.t120_23 ?_
    refine SW.iload dX10_payOf_52 rfl ?_
    refine SW.dup2 dX10_payOf_54 rfl rfl ?_
    refine SW.iald kp_128 (by decide) (hW.le (by decide)) vc.1 dX10_payOf_55 ?_
    replace vc := vc.2
    refine SW.iload dX10_payOf_56 rfl ?_
    refine SW.isub dX10_payOf_58 ?_
    refine SW.iast kp_128 (by decide) (hW.le (by decide)) vc.1 dX10_payOf_59 ?_
    replace vc := vc.2
    refine SW.goto 7 dX10_payOf_60 (by decide) ?_
    refine SW.msk [true, true, true, true, false, false] rfl ?_
    exact vc
theorem ctX10_payOf {G : GG} {q : Int32 → Nat → SG → TU → TH → Prop} {n : Nat} {σ : SG} {τ : TU} {θ : TH} (x1 : Int32) (x2 : Int32) (h : SW G 6 mX10_payOf (aw_qi q) 0 0 0 [some (.ref 120), some (.int x1), some (.int x2), none, none, none] [] (n, σ, τ, θ)) : SMi G 6 mX10_payOf 0 0 [.ref 120, .int x1, .int x2] n σ τ θ q := SM.of _ rfl rfl (Nat.le_of_ble_eq_true rfl) h
set_option maxHeartbeats 4000000 in
set_option maxRecDepth 20000 in
theorem sgX10_power_0 {G : GG} {k : Nat} {q : Int64 → Nat → SG → TU → TH → Prop} {n : Nat} {σ : SG} {τ : TU} {θ : TH}  (x0 : Int64) (x2 : Int32) (hk : 1 ≤ k)  (hW : aw_WT n θ) (vc : SW G k mX10_power (aw_ql q) 0 0 5 [some (.long x0), none, some (.int x2), some (.long (1 : Int64)), none, some (.int (0 : Int32))] [] (n, σ, τ, θ)) : SW G k mX10_power (aw_ql q) 0 0 0 [some (.long x0), none, some (.int x2), none, none, none] [] (n, σ, τ, θ) := by
  refine SW.lconst (v := (1 : Int64)) dX10_power_0 (by decide) ?_
  refine SW.lstore_n dX10_power_1 (by decide) rfl rfl ?_
  refine SW.iconst (v := (0 : Int32)) dX10_power_2 (by decide) ?_
  refine SW.istore dX10_power_3 (by decide) rfl rfl ?_
  exact vc
set_option maxHeartbeats 4000000 in
set_option maxRecDepth 20000 in
theorem sgX10_power_5 {G : GG} {k : Nat} {q : Int64 → Nat → SG → TU → TH → Prop} {n : Nat} {σ : SG} {τ : TU} {θ : TH}  (x0 : Int64) (x2 : Int32) (x3 : Int64) (x5 : Int32) (hk : 1 ≤ k)  (hW : aw_WT n θ) (vc : ((x2 ≤ x5) → (q x3 n σ τ θ)) ∧ ((¬ x2 ≤ x5) → (SW G k mX10_power (aw_ql q) 0 0 5 [some (.long x0), none, some (.int x2), some (.long (x3 * x0)), none, some (.int (x5 + (1 : Int32)))] [] (n, σ, τ, θ)))) : SW G k mX10_power (aw_ql q) 0 0 5 [some (.long x0), none, some (.int x2), some (.long x3), none, some (.int x5)] [] (n, σ, τ, θ) := by
  refine SW.iload dX10_power_5 rfl ?_
  refine SW.iload_n dX10_power_7 rfl ?_
  refine SW.icmp_ge 21 dX10_power_8 (by decide) (fun hbr => ?_) (fun hbr => ?_)
  · replace vc := vc.1 hbr
    refine SW.lload_n dX10_power_21 rfl ?_
    exact SW.lret dX10_power_22 rfl ⟨_, rfl, vc⟩
  · replace vc := vc.2 hbr
    refine SW.lload_n dX10_power_11 rfl ?_
    refine SW.lload_n dX10_power_12 rfl ?_
    refine SW.lmul dX10_power_13 ?_
    refine SW.lstore_n dX10_power_14 (by decide) rfl rfl ?_
    refine SW.iinc (v := (x5 + (1 : Int32))) dX10_power_15 rfl rfl (by decide) rfl rfl ?_
    refine SW.goto 5 dX10_power_18 (by decide) ?_
    exact vc
theorem ctX10_power {G : GG} {q : Int64 → Nat → SG → TU → TH → Prop} {n : Nat} {σ : SG} {τ : TU} {θ : TH} (x0 : Int64) (x2 : Int32) (h : SW G 1 mX10_power (aw_ql q) 0 0 0 [some (.long x0), none, some (.int x2), none, none, none] [] (n, σ, τ, θ)) : SMl G 1 mX10_power 0 0 [.long x0, .int x2] n σ τ θ q := SM.of _ rfl rfl (Nat.le_of_ble_eq_true rfl) h
set_option maxHeartbeats 4000000 in
set_option maxRecDepth 20000 in
theorem sgX10_reach_0 {G : GG} {k : Nat} {q : Int32 → Nat → SG → TU → TH → Prop} {n : Nat} {σ : SG} {τ : TU} {θ : TH}  (x1 : Int32) (hk : 4 ≤ k)  (hW : aw_WT n θ) (vc : SMv G 1 mX10_good 0 0 [.ref 120] n σ τ θ (fun n1 σ1 τ1 θ1 => aw_WT n1 θ1 ∧ (SMi G 2 mX10_isMan 0 0 [.ref 120, .int x1] n1 σ1 τ1 θ1 (fun a2 n2 σ2 τ2 θ2 => aw_WT n2 θ2 ∧ (((¬ a2 = 0) → (SMi G 3 mX10_creditors 0 0 [.ref 120, .int x1] n2 σ2 τ2 θ2 (fun a3 n3 σ3 τ3 θ3 => aw_WT n3 θ3 ∧ (SW G k mX10_reach (aw_qi q) 0 0 26 [some (.ref 120), none, some (.int a3), some (.int (0 : Int32)), none] [] (n3, σ3, τ3, θ3))))) ∧ ((a2 = 0) → (SMi G 1 mX10_no 0 0 [.ref 120, .int (1 : Int32)] n2 σ2 τ2 θ2 (fun a4 n4 σ4 τ4 θ4 => aw_WT n4 θ4 ∧ (q a4 n4 σ4 τ4 θ4))))))))) : SW G k mX10_reach (aw_qi q) 0 0 0 [some (.ref 120), some (.int x1), none, none, none] [] (n, σ, τ, θ) := by
  refine SW.aload_n dX10_reach_0 rfl ?_
  refine SW.cvv0 kV_X10_154 (by omega) aw_cl10 kp_120 (by decide) (hW.le (by decide)) rfl (Nat.le_of_ble_eq_true rfl) dX10_reach_1 (SMv.mono vc ?_)
  intro n1 σ1 τ1 θ1 vc
  obtain ⟨hW, vc⟩ := vc
  refine SW.aload_n dX10_reach_4 rfl ?_
  refine SW.iload_n dX10_reach_5 rfl ?_
  refine SW.cvi1 kV_X10_264 (by omega) aw_cl10 kp_120 (by decide) (hW.le (by decide)) rfl (Nat.le_of_ble_eq_true rfl) dX10_reach_6 (SMi.mono vc ?_)
  intro a2 n2 σ2 τ2 θ2 vc
  obtain ⟨hW, vc⟩ := vc
  refine SW.if_ne 18 dX10_reach_9 (by decide) (fun hbr => ?_) (fun hbr => ?_)
  · replace vc := vc.1 hbr
    refine SW.aload_n dX10_reach_18 rfl ?_
    refine SW.iload_n dX10_reach_19 rfl ?_
    refine SW.cvi1 kV_X10_273 (by omega) aw_cl10 kp_120 (by decide) (hW.le (by decide)) rfl (Nat.le_of_ble_eq_true rfl) dX10_reach_20 (SMi.mono vc ?_)
    intro a3 n3 σ3 τ3 θ3 vc
    obtain ⟨hW, vc⟩ := vc
    refine SW.istore_n dX10_reach_23 (by decide) rfl rfl ?_
    refine SW.iconst (v := (0 : Int32)) dX10_reach_24 (by decide) ?_
    refine SW.istore_n dX10_reach_25 (by decide) rfl rfl ?_
    refine SW.msk [true, false, true, true, true] rfl ?_
    exact vc
  · replace vc := vc.2 hbr
    refine SW.aload_n dX10_reach_12 rfl ?_
    refine SW.iconst (v := (1 : Int32)) dX10_reach_13 (by decide) ?_
    refine SW.cvi1 kV_X10_157 (by omega) aw_cl10 kp_120 (by decide) (hW.le (by decide)) rfl (Nat.le_of_ble_eq_true rfl) dX10_reach_14 (SMi.mono vc ?_)
    intro a4 n4 σ4 τ4 θ4 vc
    obtain ⟨hW, vc⟩ := vc
    exact SW.iret dX10_reach_17 rfl rfl ⟨_, rfl, vc⟩
set_option maxHeartbeats 4000000 in
set_option maxRecDepth 20000 in
theorem sgX10_reach_26 {G : GG} {k : Nat} {q : Int32 → Nat → SG → TU → TH → Prop} {n : Nat} {σ : SG} {τ : TU} {θ : TH}  (x2 : Int32) (x3 : Int32) (hk : 4 ≤ k)  (hW : aw_WT n θ) (vc : (((5 : Int32) ≤ x3) → (q x2 n σ τ θ)) ∧ ((¬ (5 : Int32) ≤ x3) → (SW G k mX10_reach (aw_qi q) 0 0 34 [some (.ref 120), none, some (.int x2), some (.int x3), some (.int (0 : Int32))] [] (n, σ, τ, θ)))) : SW G k mX10_reach (aw_qi q) 0 0 26 [some (.ref 120), none, some (.int x2), some (.int x3), none] [] (n, σ, τ, θ) := by
  refine SW.iload_n dX10_reach_26 rfl ?_
  refine SW.iconst (v := (5 : Int32)) dX10_reach_27 (by decide) ?_
  refine SW.icmp_ge 79 dX10_reach_28 (by decide) (fun hbr => ?_) (fun hbr => ?_)
  · replace vc := vc.1 hbr
    refine SW.iload_n dX10_reach_79 rfl ?_
    exact SW.iret dX10_reach_80 rfl rfl ⟨_, rfl, vc⟩
  · replace vc := vc.2 hbr
    refine SW.iconst (v := (0 : Int32)) dX10_reach_31 (by decide) ?_
    refine SW.istore dX10_reach_32 (by decide) rfl rfl ?_
    exact vc
set_option maxHeartbeats 4000000 in
set_option maxRecDepth 20000 in
theorem sgX10_reach_34 {G : GG} {k : Nat} {q : Int32 → Nat → SG → TU → TH → Prop} {n : Nat} {σ : SG} {τ : TU} {θ : TH}  (x2 : Int32) (x3 : Int32) (x4 : Int32) (hk : 4 ≤ k)  (hW : aw_WT n θ) (vc : (((σ 123 4) ≤ x4) → (SW G k mX10_reach (aw_qi q) 0 0 26 [some (.ref 120), none, some (.int x2), some (.int (x3 + (1 : Int32))), none] [] (n, σ, τ, θ))) ∧ ((¬ (σ 123 4) ≤ x4) → (SMi G 1 mX10_hasBit 0 0 [.int x2, .int x4] n σ τ θ (fun a1 n1 σ1 τ1 θ1 => aw_WT n1 θ1 ∧ (((a1 = 0) → (SW G k mX10_reach (aw_qi q) 0 0 34 [some (.ref 120), none, some (.int (x2 ||| (0 : Int32))), some (.int x3), some (.int (x4 + (1 : Int32)))] [] (n1, σ1, τ1, θ1))) ∧ ((¬ a1 = 0) → (SMi G 3 mX10_creditors 0 0 [.ref 120, .int x4] n1 σ1 τ1 θ1 (fun a2 n2 σ2 τ2 θ2 => aw_WT n2 θ2 ∧ (SW G k mX10_reach (aw_qi q) 0 0 34 [some (.ref 120), none, some (.int (x2 ||| a2)), some (.int x3), some (.int (x4 + (1 : Int32)))] [] (n2, σ2, τ2, θ2)))))))))) : SW G k mX10_reach (aw_qi q) 0 0 34 [some (.ref 120), none, some (.int x2), some (.int x3), some (.int x4)] [] (n, σ, τ, θ) := by
  refine SW.iload dX10_reach_34 rfl ?_
  refine SW.aload_n dX10_reach_36 rfl ?_
  refine SW.getS (f := 15) (r := 123) aw_cl10 kp_120 (by decide) (hW.le (by decide)) (by decide) ww_1257 dX10_reach_37 rfl hW.t120_15 ?_
  refine SW.iconst (v := (4 : Int32)) dX10_reach_40 (by decide) ?_
  refine SW.iald kp_123 (by decide) (hW.le (by decide)) (vp_in_nI (n := 4) (by decide) (by decide)) dX10_reach_41 ?_
  refine SW.icmp_ge 73 dX10_reach_42 (by decide) (fun hbr => ?_) (fun hbr => ?_)
  · replace vc := vc.1 hbr
    refine SW.iinc (v := (x3 + (1 : Int32))) dX10_reach_73 rfl rfl (by decide) rfl rfl ?_
    refine SW.goto 26 dX10_reach_76 (by decide) ?_
    refine SW.msk [true, true, true, true, false] rfl ?_
    exact vc
  · replace vc := vc.2 hbr
    refine SW.iload_n dX10_reach_45 rfl ?_
    refine SW.iload_n dX10_reach_46 rfl ?_
    refine SW.iload dX10_reach_47 rfl ?_
    refine SW.csi2 kS_X10_250 (by omega) (Nat.le_of_ble_eq_true rfl) dX10_reach_49 (SMi.mono vc ?_)
    intro a1 n1 σ1 τ1 θ1 vc
    obtain ⟨hW, vc⟩ := vc
    refine SW.if_eq 64 dX10_reach_52 (by decide) (fun hbr => ?_) (fun hbr => ?_)
    · replace vc := vc.1 hbr
      refine SW.iconst (v := (0 : Int32)) dX10_reach_64 (by decide) ?_
      refine SW.ior dX10_reach_65 ?_
      refine SW.istore_n dX10_reach_66 (by decide) rfl rfl ?_
      refine SW.iinc (v := (x4 + (1 : Int32))) dX10_reach_67 rfl rfl (by decide) rfl rfl ?_
      refine SW.goto 34 dX10_reach_70 (by decide) ?_
      exact vc
    · replace vc := vc.2 hbr
      refine SW.aload_n dX10_reach_55 rfl ?_
      refine SW.iload dX10_reach_56 rfl ?_
      refine SW.cvi1 kV_X10_273 (by omega) aw_cl10 kp_120 (by decide) (hW.le (by decide)) rfl (Nat.le_of_ble_eq_true rfl) dX10_reach_58 (SMi.mono vc ?_)
      intro a2 n2 σ2 τ2 θ2 vc
      obtain ⟨hW, vc⟩ := vc
      refine SW.goto 65 dX10_reach_61 (by decide) ?_
      refine SW.ior dX10_reach_65 ?_
      refine SW.istore_n dX10_reach_66 (by decide) rfl rfl ?_
      refine SW.iinc (v := (x4 + (1 : Int32))) dX10_reach_67 rfl rfl (by decide) rfl rfl ?_
      refine SW.goto 34 dX10_reach_70 (by decide) ?_
      exact vc
theorem ctX10_reach {G : GG} {q : Int32 → Nat → SG → TU → TH → Prop} {n : Nat} {σ : SG} {τ : TU} {θ : TH} (x1 : Int32) (h : SW G 4 mX10_reach (aw_qi q) 0 0 0 [some (.ref 120), some (.int x1), none, none, none] [] (n, σ, τ, θ)) : SMi G 4 mX10_reach 0 0 [.ref 120, .int x1] n σ τ θ q := SM.of _ rfl rfl (Nat.le_of_ble_eq_true rfl) h
set_option maxHeartbeats 4000000 in
set_option maxRecDepth 20000 in
theorem sgX10_readAs_0 {G : GG} {k : Nat} {q : Int64 → Nat → SG → TU → TH → Prop} {n : Nat} {σ : SG} {τ : TU} {θ : TH}  (x1 : Int32) (x2 : Int32) (hk : 1 ≤ k)  (hW : aw_WT n θ) (vc : ((¬ x2 = x1) → (((¬ x1 = 0) → (((x2 = (x1 + (1 : Int32))) → (q ((σ 123 1).toInt64) n σ τ θ)) ∧ ((¬ x2 = (x1 + (1 : Int32))) → (((¬ x2 = (x1 - (1 : Int32))) → (q (0 : Int64) n σ τ θ)) ∧ ((x2 = (x1 - (1 : Int32))) → (q ((σ 123 1).toInt64) n σ τ θ)))))) ∧ ((x1 = 0) → (((¬ x2 = (1 : Int32)) → (q (0 : Int64) n σ τ θ)) ∧ ((x2 = (1 : Int32)) → (q ((2 : Int64) * ((σ 123 1).toInt64)) n σ τ θ)))))) ∧ ((x2 = x1) → (q ((2 : Int64) * (((100 : Int32) - (σ 123 1)).toInt64)) n σ τ θ))) : SW G k mX10_readAs (aw_ql q) 0 0 0 [some (.ref 120), some (.int x1), some (.int x2)] [] (n, σ, τ, θ) := by
  refine SW.iload_n dX10_readAs_0 rfl ?_
  refine SW.iload_n dX10_readAs_1 rfl ?_
  refine SW.icmp_ne 20 dX10_readAs_2 (by decide) (fun hbr => ?_) (fun hbr => ?_)
  · replace vc := vc.1 hbr
    refine SW.iload_n dX10_readAs_20 rfl ?_
    refine SW.if_ne 45 dX10_readAs_21 (by decide) (fun hbr => ?_) (fun hbr => ?_)
    · replace vc := vc.1 hbr
      refine SW.iload_n dX10_readAs_45 rfl ?_
      refine SW.iload_n dX10_readAs_46 rfl ?_
      refine SW.iconst (v := (1 : Int32)) dX10_readAs_47 (by decide) ?_
      refine SW.iadd dX10_readAs_48 ?_
      refine SW.icmp_eq 59 dX10_readAs_49 (by decide) (fun hbr => ?_) (fun hbr => ?_)
      · replace vc := vc.1 hbr
        refine SW.aload_n dX10_readAs_59 rfl ?_
        refine SW.getS (f := 15) (r := 123) aw_cl10 kp_120 (by decide) (hW.le (by decide)) (by decide) ww_1257 dX10_readAs_60 rfl hW.t120_15 ?_
        refine SW.iconst (v := (1 : Int32)) dX10_readAs_63 (by decide) ?_
        refine SW.iald kp_123 (by decide) (hW.le (by decide)) (vp_in_nI (n := 1) (by decide) (by decide)) dX10_readAs_64 ?_
        refine SW.i2l dX10_readAs_65 ?_
        refine SW.goto 70 dX10_readAs_66 (by decide) ?_
        exact SW.lret dX10_readAs_70 rfl ⟨_, rfl, vc⟩
      · replace vc := vc.2 hbr
        refine SW.iload_n dX10_readAs_52 rfl ?_
        refine SW.iload_n dX10_readAs_53 rfl ?_
        refine SW.iconst (v := (1 : Int32)) dX10_readAs_54 (by decide) ?_
        refine SW.isub dX10_readAs_55 ?_
        refine SW.icmp_ne 69 dX10_readAs_56 (by decide) (fun hbr => ?_) (fun hbr => ?_)
        · replace vc := vc.1 hbr
          refine SW.lconst (v := (0 : Int64)) dX10_readAs_69 (by decide) ?_
          exact SW.lret dX10_readAs_70 rfl ⟨_, rfl, vc⟩
        · replace vc := vc.2 hbr
          refine SW.aload_n dX10_readAs_59 rfl ?_
          refine SW.getS (f := 15) (r := 123) aw_cl10 kp_120 (by decide) (hW.le (by decide)) (by decide) ww_1257 dX10_readAs_60 rfl hW.t120_15 ?_
          refine SW.iconst (v := (1 : Int32)) dX10_readAs_63 (by decide) ?_
          refine SW.iald kp_123 (by decide) (hW.le (by decide)) (vp_in_nI (n := 1) (by decide) (by decide)) dX10_readAs_64 ?_
          refine SW.i2l dX10_readAs_65 ?_
          refine SW.goto 70 dX10_readAs_66 (by decide) ?_
          exact SW.lret dX10_readAs_70 rfl ⟨_, rfl, vc⟩
    · replace vc := vc.2 hbr
      refine SW.iload_n dX10_readAs_24 rfl ?_
      refine SW.iconst (v := (1 : Int32)) dX10_readAs_25 (by decide) ?_
      refine SW.icmp_ne 43 dX10_readAs_26 (by decide) (fun hbr => ?_) (fun hbr => ?_)
      · replace vc := vc.1 hbr
        refine SW.lconst (v := (0 : Int64)) dX10_readAs_43 (by decide) ?_
        exact SW.lret dX10_readAs_44 rfl ⟨_, rfl, vc⟩
      · replace vc := vc.2 hbr
        refine SW.ldc2 (v := (2 : Int64)) ww_1706 dX10_readAs_29 ?_
        refine SW.aload_n dX10_readAs_32 rfl ?_
        refine SW.getS (f := 15) (r := 123) aw_cl10 kp_120 (by decide) (hW.le (by decide)) (by decide) ww_1257 dX10_readAs_33 rfl hW.t120_15 ?_
        refine SW.iconst (v := (1 : Int32)) dX10_readAs_36 (by decide) ?_
        refine SW.iald kp_123 (by decide) (hW.le (by decide)) (vp_in_nI (n := 1) (by decide) (by decide)) dX10_readAs_37 ?_
        refine SW.i2l dX10_readAs_38 ?_
        refine SW.lmul dX10_readAs_39 ?_
        refine SW.goto 44 dX10_readAs_40 (by decide) ?_
        exact SW.lret dX10_readAs_44 rfl ⟨_, rfl, vc⟩
  · replace vc := vc.2 hbr
    refine SW.ldc2 (v := (2 : Int64)) ww_1706 dX10_readAs_5 ?_
    refine SW.bipush (v := (100 : Int32)) dX10_readAs_8 (by decide) ?_
    refine SW.aload_n dX10_readAs_10 rfl ?_
    refine SW.getS (f := 15) (r := 123) aw_cl10 kp_120 (by decide) (hW.le (by decide)) (by decide) ww_1257 dX10_readAs_11 rfl hW.t120_15 ?_
    refine SW.iconst (v := (1 : Int32)) dX10_readAs_14 (by decide) ?_
    refine SW.iald kp_123 (by decide) (hW.le (by decide)) (vp_in_nI (n := 1) (by decide) (by decide)) dX10_readAs_15 ?_
    refine SW.isub dX10_readAs_16 ?_
    refine SW.i2l dX10_readAs_17 ?_
    refine SW.lmul dX10_readAs_18 ?_
    exact SW.lret dX10_readAs_19 rfl ⟨_, rfl, vc⟩
theorem ctX10_readAs {G : GG} {q : Int64 → Nat → SG → TU → TH → Prop} {n : Nat} {σ : SG} {τ : TU} {θ : TH} (x1 : Int32) (x2 : Int32) (h : SW G 1 mX10_readAs (aw_ql q) 0 0 0 [some (.ref 120), some (.int x1), some (.int x2)] [] (n, σ, τ, θ)) : SMl G 1 mX10_readAs 0 0 [.ref 120, .int x1, .int x2] n σ τ θ q := SM.of _ rfl rfl (Nat.le_of_ble_eq_true rfl) h
set_option maxHeartbeats 4000000 in
set_option maxRecDepth 20000 in
theorem sgX10_readLine_0 {G : GG} {k : Nat} {q : Nat → SG → TU → TH → Prop} {n : Nat} {σ : SG} {τ : TU} {θ : TH}   (hk : 10 ≤ k)  (hW : aw_WT n θ) (vc : SMi G 5 mX10_isWord 0 0 [.ref 120, .ref (1000 + 20)] n σ τ θ (fun a1 n1 σ1 τ1 θ1 => aw_WT n1 θ1 ∧ (((a1 = 0) → ((((5 : Int32) ≤ (σ1 124 4)) → (SW G k mX10_readLine (aw_qv q) 0 0 34 [some (.ref 120)] [.int (0 : Int32), .ref (1000 + 25), .ref 120] (n1, σ1, τ1, θ1))) ∧ ((¬ (5 : Int32) ≤ (σ1 124 4)) → (SW G k mX10_readLine (aw_qv q) 0 0 34 [some (.ref 120)] [.int (1 : Int32), .ref (1000 + 25), .ref 120] (n1, σ1, τ1, θ1))))) ∧ ((¬ a1 = 0) → (SMv G 9 mX10_duchyLine 0 0 [.ref 120] n1 σ1 τ1 θ1 (fun n2 σ2 τ2 θ2 => aw_WT n2 θ2 ∧ (q n2 σ2 τ2 θ2))))))) : SW G k mX10_readLine (aw_qv q) 0 0 0 [some (.ref 120)] [] (n, σ, τ, θ) := by
  refine SW.aload_n dX10_readLine_0 rfl ?_
  refine SW.ldcS (j := 20) rfl dX10_readLine_1 ?_
  refine SW.cvi1 kV_X10_105 (by omega) aw_cl10 kp_120 (by decide) (hW.le (by decide)) rfl (Nat.le_of_ble_eq_true rfl) dX10_readLine_3 (SMi.mono vc ?_)
  intro a1 n1 σ1 τ1 θ1 vc
  obtain ⟨hW, vc⟩ := vc
  refine SW.if_eq 16 dX10_readLine_6 (by decide) (fun hbr => ?_) (fun hbr => ?_)
  · replace vc := vc.1 hbr
    refine SW.aload_n dX10_readLine_16 rfl ?_
    refine SW.ldcS (j := 25) rfl dX10_readLine_17 ?_
    refine SW.aload_n dX10_readLine_19 rfl ?_
    refine SW.getS (f := 16) (r := 124) aw_cl10 kp_120 (by decide) (hW.le (by decide)) (by decide) ww_1258 dX10_readLine_20 rfl hW.t120_16 ?_
    refine SW.iconst (v := (4 : Int32)) dX10_readLine_23 (by decide) ?_
    refine SW.iald kp_124 (by decide) (hW.le (by decide)) (vp_in_nI (n := 4) (by decide) (by decide)) dX10_readLine_24 ?_
    refine SW.iconst (v := (5 : Int32)) dX10_readLine_25 (by decide) ?_
    refine SW.icmp_ge 33 dX10_readLine_26 (by decide) (fun hbr => ?_) (fun hbr => ?_)
    · replace vc := vc.1 hbr
      refine SW.iconst (v := (0 : Int32)) dX10_readLine_33 (by decide) ?_
      exact vc
    · replace vc := vc.2 hbr
      refine SW.iconst (v := (1 : Int32)) dX10_readLine_29 (by decide) ?_
      refine SW.goto 34 dX10_readLine_30 (by decide) ?_
      exact vc
  · replace vc := vc.2 hbr
    refine SW.aload_n dX10_readLine_9 rfl ?_
    refine SW.cvv0 kV_X10_179 (by omega) aw_cl10 kp_120 (by decide) (hW.le (by decide)) rfl (Nat.le_of_ble_eq_true rfl) dX10_readLine_10 (SMv.mono vc ?_)
    intro n2 σ2 τ2 θ2 vc
    obtain ⟨hW, vc⟩ := vc
    refine SW.goto 227 dX10_readLine_13 (by decide) ?_
    exact SW.vret dX10_readLine_227 rfl ⟨rfl, vc⟩
set_option maxHeartbeats 4000000 in
set_option maxRecDepth 20000 in
theorem sgX10_readLine_34 {G : GG} {k : Nat} {q : Nat → SG → TU → TH → Prop} {n : Nat} {σ : SG} {τ : TU} {θ : TH}  (s0 : Int32) (hk : 10 ≤ k)  (hW : aw_WT n θ) (vc : SMi G 6 mX10_begins 0 0 [.ref 120, .ref (1000 + 25), .int s0] n σ τ θ (fun a1 n1 σ1 τ1 θ1 => aw_WT n1 θ1 ∧ (((a1 = 0) → ((((7 : Int32) ≤ (σ1 124 5)) → (SW G k mX10_readLine (aw_qv q) 0 0 66 [some (.ref 120)] [.int (0 : Int32), .ref (1000 + 26), .ref 120] (n1, σ1, τ1, θ1))) ∧ ((¬ (7 : Int32) ≤ (σ1 124 5)) → (SW G k mX10_readLine (aw_qv q) 0 0 66 [some (.ref 120)] [.int (1 : Int32), .ref (1000 + 26), .ref 120] (n1, σ1, τ1, θ1))))) ∧ ((¬ a1 = 0) → (SMv G 9 mX10_manLine 0 0 [.ref 120] n1 σ1 τ1 θ1 (fun n2 σ2 τ2 θ2 => aw_WT n2 θ2 ∧ (q n2 σ2 τ2 θ2))))))) : SW G k mX10_readLine (aw_qv q) 0 0 34 [some (.ref 120)] [.int s0, .ref (1000 + 25), .ref 120] (n, σ, τ, θ) := by
  refine SW.cvi2 kV_X10_182 (by omega) aw_cl10 kp_120 (by decide) (hW.le (by decide)) rfl (Nat.le_of_ble_eq_true rfl) dX10_readLine_34 (SMi.mono vc ?_)
  intro a1 n1 σ1 τ1 θ1 vc
  obtain ⟨hW, vc⟩ := vc
  refine SW.if_eq 47 dX10_readLine_37 (by decide) (fun hbr => ?_) (fun hbr => ?_)
  · replace vc := vc.1 hbr
    refine SW.aload_n dX10_readLine_47 rfl ?_
    refine SW.ldcS (j := 26) rfl dX10_readLine_48 ?_
    refine SW.aload_n dX10_readLine_50 rfl ?_
    refine SW.getS (f := 16) (r := 124) aw_cl10 kp_120 (by decide) (hW.le (by decide)) (by decide) ww_1258 dX10_readLine_51 rfl hW.t120_16 ?_
    refine SW.iconst (v := (5 : Int32)) dX10_readLine_54 (by decide) ?_
    refine SW.iald kp_124 (by decide) (hW.le (by decide)) (vp_in_nI (n := 5) (by decide) (by decide)) dX10_readLine_55 ?_
    refine SW.bipush (v := (7 : Int32)) dX10_readLine_56 (by decide) ?_
    refine SW.icmp_ge 65 dX10_readLine_58 (by decide) (fun hbr => ?_) (fun hbr => ?_)
    · replace vc := vc.1 hbr
      refine SW.iconst (v := (0 : Int32)) dX10_readLine_65 (by decide) ?_
      exact vc
    · replace vc := vc.2 hbr
      refine SW.iconst (v := (1 : Int32)) dX10_readLine_61 (by decide) ?_
      refine SW.goto 66 dX10_readLine_62 (by decide) ?_
      exact vc
  · replace vc := vc.2 hbr
    refine SW.aload_n dX10_readLine_40 rfl ?_
    refine SW.cvv0 kV_X10_186 (by omega) aw_cl10 kp_120 (by decide) (hW.le (by decide)) rfl (Nat.le_of_ble_eq_true rfl) dX10_readLine_41 (SMv.mono vc ?_)
    intro n2 σ2 τ2 θ2 vc
    obtain ⟨hW, vc⟩ := vc
    refine SW.goto 227 dX10_readLine_44 (by decide) ?_
    exact SW.vret dX10_readLine_227 rfl ⟨rfl, vc⟩
set_option maxHeartbeats 4000000 in
set_option maxRecDepth 20000 in
theorem sgX10_readLine_66 {G : GG} {k : Nat} {q : Nat → SG → TU → TH → Prop} {n : Nat} {σ : SG} {τ : TU} {θ : TH}  (s0 : Int32) (hk : 10 ≤ k)  (hW : aw_WT n θ) (vc : SMi G 6 mX10_begins 0 0 [.ref 120, .ref (1000 + 26), .int s0] n σ τ θ (fun a1 n1 σ1 τ1 θ1 => aw_WT n1 θ1 ∧ (((a1 = 0) → ((((4 : Int32) ≤ (σ1 124 6)) → (SW G k mX10_readLine (aw_qv q) 0 0 110 [some (.ref 120)] [.int (0 : Int32), .ref (1000 + 27), .ref 120] (n1, σ1, τ1, θ1))) ∧ ((¬ (4 : Int32) ≤ (σ1 124 6)) → (SW G k mX10_readLine (aw_qv q) 0 0 110 [some (.ref 120)] [.int (1 : Int32), .ref (1000 + 27), .ref 120] (n1, σ1, τ1, θ1))))) ∧ ((¬ a1 = 0) → (SMv G 9 mX10_owesLine 0 0 [.ref 120, .int ((25 : Int32) + ((4 : Int32) * (σ1 124 5))), .int (5 : Int32)] n1 σ1 τ1 θ1 (fun n2 σ2 τ2 θ2 => aw_WT n2 θ2 ∧ (q n2 σ2 τ2 θ2))))))) : SW G k mX10_readLine (aw_qv q) 0 0 66 [some (.ref 120)] [.int s0, .ref (1000 + 26), .ref 120] (n, σ, τ, θ) := by
  refine SW.cvi2 kV_X10_182 (by omega) aw_cl10 kp_120 (by decide) (hW.le (by decide)) rfl (Nat.le_of_ble_eq_true rfl) dX10_readLine_66 (SMi.mono vc ?_)
  intro a1 n1 σ1 τ1 θ1 vc
  obtain ⟨hW, vc⟩ := vc
  refine SW.if_eq 91 dX10_readLine_69 (by decide) (fun hbr => ?_) (fun hbr => ?_)
  · replace vc := vc.1 hbr
    refine SW.aload_n dX10_readLine_91 rfl ?_
    refine SW.ldcS (j := 27) rfl dX10_readLine_92 ?_
    refine SW.aload_n dX10_readLine_94 rfl ?_
    refine SW.getS (f := 16) (r := 124) aw_cl10 kp_120 (by decide) (hW.le (by decide)) (by decide) ww_1258 dX10_readLine_95 rfl hW.t120_16 ?_
    refine SW.bipush (v := (6 : Int32)) dX10_readLine_98 (by decide) ?_
    refine SW.iald kp_124 (by decide) (hW.le (by decide)) (vp_in_nI (n := 6) (by decide) (by decide)) dX10_readLine_100 ?_
    refine SW.iconst (v := (4 : Int32)) dX10_readLine_101 (by decide) ?_
    refine SW.icmp_ge 109 dX10_readLine_102 (by decide) (fun hbr => ?_) (fun hbr => ?_)
    · replace vc := vc.1 hbr
      refine SW.iconst (v := (0 : Int32)) dX10_readLine_109 (by decide) ?_
      exact vc
    · replace vc := vc.2 hbr
      refine SW.iconst (v := (1 : Int32)) dX10_readLine_105 (by decide) ?_
      refine SW.goto 110 dX10_readLine_106 (by decide) ?_
      exact vc
  · replace vc := vc.2 hbr
    refine SW.aload_n dX10_readLine_72 rfl ?_
    refine SW.bipush (v := (25 : Int32)) dX10_readLine_73 (by decide) ?_
    refine SW.iconst (v := (4 : Int32)) dX10_readLine_75 (by decide) ?_
    refine SW.aload_n dX10_readLine_76 rfl ?_
    refine SW.getS (f := 16) (r := 124) aw_cl10 kp_120 (by decide) (hW.le (by decide)) (by decide) ww_1258 dX10_readLine_77 rfl hW.t120_16 ?_
    refine SW.iconst (v := (5 : Int32)) dX10_readLine_80 (by decide) ?_
    refine SW.iald kp_124 (by decide) (hW.le (by decide)) (vp_in_nI (n := 5) (by decide) (by decide)) dX10_readLine_81 ?_
    refine SW.imul dX10_readLine_82 ?_
    refine SW.iadd dX10_readLine_83 ?_
    refine SW.iconst (v := (5 : Int32)) dX10_readLine_84 (by decide) ?_
    refine SW.cvv2 kV_X10_189 (by omega) aw_cl10 kp_120 (by decide) (hW.le (by decide)) rfl (Nat.le_of_ble_eq_true rfl) dX10_readLine_85 (SMv.mono vc ?_)
    intro n2 σ2 τ2 θ2 vc
    obtain ⟨hW, vc⟩ := vc
    refine SW.goto 227 dX10_readLine_88 (by decide) ?_
    exact SW.vret dX10_readLine_227 rfl ⟨rfl, vc⟩
set_option maxHeartbeats 4000000 in
set_option maxRecDepth 20000 in
theorem sgX10_readLine_110 {G : GG} {k : Nat} {q : Nat → SG → TU → TH → Prop} {n : Nat} {σ : SG} {τ : TU} {θ : TH}  (s0 : Int32) (hk : 10 ≤ k)  (hW : aw_WT n θ) (vc : SMi G 6 mX10_begins 0 0 [.ref 120, .ref (1000 + 27), .int s0] n σ τ θ (fun a1 n1 σ1 τ1 θ1 => aw_WT n1 θ1 ∧ (((a1 = 0) → ((((4 : Int32) ≤ (σ1 124 7)) → (SW G k mX10_readLine (aw_qv q) 0 0 156 [some (.ref 120)] [.int (0 : Int32), .ref (1000 + 28), .ref 120] (n1, σ1, τ1, θ1))) ∧ ((¬ (4 : Int32) ≤ (σ1 124 7)) → (SW G k mX10_readLine (aw_qv q) 0 0 156 [some (.ref 120)] [.int (1 : Int32), .ref (1000 + 28), .ref 120] (n1, σ1, τ1, θ1))))) ∧ ((¬ a1 = 0) → (SMv G 9 mX10_owesLine 0 0 [.ref 120, .int ((53 : Int32) + ((4 : Int32) * (σ1 124 6))), .int (6 : Int32)] n1 σ1 τ1 θ1 (fun n2 σ2 τ2 θ2 => aw_WT n2 θ2 ∧ (q n2 σ2 τ2 θ2))))))) : SW G k mX10_readLine (aw_qv q) 0 0 110 [some (.ref 120)] [.int s0, .ref (1000 + 27), .ref 120] (n, σ, τ, θ) := by
  refine SW.cvi2 kV_X10_182 (by omega) aw_cl10 kp_120 (by decide) (hW.le (by decide)) rfl (Nat.le_of_ble_eq_true rfl) dX10_readLine_110 (SMi.mono vc ?_)
  intro a1 n1 σ1 τ1 θ1 vc
  obtain ⟨hW, vc⟩ := vc
  refine SW.if_eq 137 dX10_readLine_113 (by decide) (fun hbr => ?_) (fun hbr => ?_)
  · replace vc := vc.1 hbr
    refine SW.aload_n dX10_readLine_137 rfl ?_
    refine SW.ldcS (j := 28) rfl dX10_readLine_138 ?_
    refine SW.aload_n dX10_readLine_140 rfl ?_
    refine SW.getS (f := 16) (r := 124) aw_cl10 kp_120 (by decide) (hW.le (by decide)) (by decide) ww_1258 dX10_readLine_141 rfl hW.t120_16 ?_
    refine SW.bipush (v := (7 : Int32)) dX10_readLine_144 (by decide) ?_
    refine SW.iald kp_124 (by decide) (hW.le (by decide)) (vp_in_nI (n := 7) (by decide) (by decide)) dX10_readLine_146 ?_
    refine SW.iconst (v := (4 : Int32)) dX10_readLine_147 (by decide) ?_
    refine SW.icmp_ge 155 dX10_readLine_148 (by decide) (fun hbr => ?_) (fun hbr => ?_)
    · replace vc := vc.1 hbr
      refine SW.iconst (v := (0 : Int32)) dX10_readLine_155 (by decide) ?_
      exact vc
    · replace vc := vc.2 hbr
      refine SW.iconst (v := (1 : Int32)) dX10_readLine_151 (by decide) ?_
      refine SW.goto 156 dX10_readLine_152 (by decide) ?_
      exact vc
  · replace vc := vc.2 hbr
    refine SW.aload_n dX10_readLine_116 rfl ?_
    refine SW.bipush (v := (53 : Int32)) dX10_readLine_117 (by decide) ?_
    refine SW.iconst (v := (4 : Int32)) dX10_readLine_119 (by decide) ?_
    refine SW.aload_n dX10_readLine_120 rfl ?_
    refine SW.getS (f := 16) (r := 124) aw_cl10 kp_120 (by decide) (hW.le (by decide)) (by decide) ww_1258 dX10_readLine_121 rfl hW.t120_16 ?_
    refine SW.bipush (v := (6 : Int32)) dX10_readLine_124 (by decide) ?_
    refine SW.iald kp_124 (by decide) (hW.le (by decide)) (vp_in_nI (n := 6) (by decide) (by decide)) dX10_readLine_126 ?_
    refine SW.imul dX10_readLine_127 ?_
    refine SW.iadd dX10_readLine_128 ?_
    refine SW.bipush (v := (6 : Int32)) dX10_readLine_129 (by decide) ?_
    refine SW.cvv2 kV_X10_189 (by omega) aw_cl10 kp_120 (by decide) (hW.le (by decide)) rfl (Nat.le_of_ble_eq_true rfl) dX10_readLine_131 (SMv.mono vc ?_)
    intro n2 σ2 τ2 θ2 vc
    obtain ⟨hW, vc⟩ := vc
    refine SW.goto 227 dX10_readLine_134 (by decide) ?_
    exact SW.vret dX10_readLine_227 rfl ⟨rfl, vc⟩
set_option maxHeartbeats 4000000 in
set_option maxRecDepth 20000 in
theorem sgX10_readLine_156 {G : GG} {k : Nat} {q : Nat → SG → TU → TH → Prop} {n : Nat} {σ : SG} {τ : TU} {θ : TH}  (s0 : Int32) (hk : 10 ≤ k)  (hW : aw_WT n θ) (vc : SMi G 6 mX10_begins 0 0 [.ref 120, .ref (1000 + 28), .int s0] n σ τ θ (fun a1 n1 σ1 τ1 θ1 => aw_WT n1 θ1 ∧ (((a1 = 0) → (SMi G 6 mX10_begins 0 0 [.ref 120, .ref (1000 + 29), .int (1 : Int32)] n1 σ1 τ1 θ1 (fun a2 n2 σ2 τ2 θ2 => aw_WT n2 θ2 ∧ (((a2 = 0) → ((((4 : Int32) ≤ (σ2 124 9)) → (SW G k mX10_readLine (aw_qv q) 0 0 205 [some (.ref 120)] [.int (0 : Int32), .ref (1000 + 30), .ref 120] (n2, σ2, τ2, θ2))) ∧ ((¬ (4 : Int32) ≤ (σ2 124 9)) → (SW G k mX10_readLine (aw_qv q) 0 0 205 [some (.ref 120)] [.int (1 : Int32), .ref (1000 + 30), .ref 120] (n2, σ2, τ2, θ2))))) ∧ ((¬ a2 = 0) → (SMv G 9 mX10_invitedLine 0 0 [.ref 120] n2 σ2 τ2 θ2 (fun n3 σ3 τ3 θ3 => aw_WT n3 θ3 ∧ (q n3 σ3 τ3 θ3)))))))) ∧ ((¬ a1 = 0) → (SMv G 9 mX10_doorLine 0 0 [.ref 120] n1 σ1 τ1 θ1 (fun n4 σ4 τ4 θ4 => aw_WT n4 θ4 ∧ (q n4 σ4 τ4 θ4))))))) : SW G k mX10_readLine (aw_qv q) 0 0 156 [some (.ref 120)] [.int s0, .ref (1000 + 28), .ref 120] (n, σ, τ, θ) := by
  refine SW.cvi2 kV_X10_182 (by omega) aw_cl10 kp_120 (by decide) (hW.le (by decide)) rfl (Nat.le_of_ble_eq_true rfl) dX10_readLine_156 (SMi.mono vc ?_)
  intro a1 n1 σ1 τ1 θ1 vc
  obtain ⟨hW, vc⟩ := vc
  refine SW.if_eq 169 dX10_readLine_159 (by decide) (fun hbr => ?_) (fun hbr => ?_)
  · replace vc := vc.1 hbr
    refine SW.aload_n dX10_readLine_169 rfl ?_
    refine SW.ldcS (j := 29) rfl dX10_readLine_170 ?_
    refine SW.iconst (v := (1 : Int32)) dX10_readLine_172 (by decide) ?_
    refine SW.cvi2 kV_X10_182 (by omega) aw_cl10 kp_120 (by decide) (hW.le (by decide)) rfl (Nat.le_of_ble_eq_true rfl) dX10_readLine_173 (SMi.mono vc ?_)
    intro a2 n2 σ2 τ2 θ2 vc
    obtain ⟨hW, vc⟩ := vc
    refine SW.if_eq 186 dX10_readLine_176 (by decide) (fun hbr => ?_) (fun hbr => ?_)
    · replace vc := vc.1 hbr
      refine SW.aload_n dX10_readLine_186 rfl ?_
      refine SW.ldcS (j := 30) rfl dX10_readLine_187 ?_
      refine SW.aload_n dX10_readLine_189 rfl ?_
      refine SW.getS (f := 16) (r := 124) aw_cl10 kp_120 (by decide) (hW.le (by decide)) (by decide) ww_1258 dX10_readLine_190 rfl hW.t120_16 ?_
      refine SW.bipush (v := (9 : Int32)) dX10_readLine_193 (by decide) ?_
      refine SW.iald kp_124 (by decide) (hW.le (by decide)) (vp_in_nI (n := 9) (by decide) (by decide)) dX10_readLine_195 ?_
      refine SW.iconst (v := (4 : Int32)) dX10_readLine_196 (by decide) ?_
      refine SW.icmp_ge 204 dX10_readLine_197 (by decide) (fun hbr => ?_) (fun hbr => ?_)
      · replace vc := vc.1 hbr
        refine SW.iconst (v := (0 : Int32)) dX10_readLine_204 (by decide) ?_
        exact vc
      · replace vc := vc.2 hbr
        refine SW.iconst (v := (1 : Int32)) dX10_readLine_200 (by decide) ?_
        refine SW.goto 205 dX10_readLine_201 (by decide) ?_
        exact vc
    · replace vc := vc.2 hbr
      refine SW.aload_n dX10_readLine_179 rfl ?_
      refine SW.cvv0 kV_X10_195 (by omega) aw_cl10 kp_120 (by decide) (hW.le (by decide)) rfl (Nat.le_of_ble_eq_true rfl) dX10_readLine_180 (SMv.mono vc ?_)
      intro n3 σ3 τ3 θ3 vc
      obtain ⟨hW, vc⟩ := vc
      refine SW.goto 227 dX10_readLine_183 (by decide) ?_
      exact SW.vret dX10_readLine_227 rfl ⟨rfl, vc⟩
  · replace vc := vc.2 hbr
    refine SW.aload_n dX10_readLine_162 rfl ?_
    refine SW.cvv0 kV_X10_192 (by omega) aw_cl10 kp_120 (by decide) (hW.le (by decide)) rfl (Nat.le_of_ble_eq_true rfl) dX10_readLine_163 (SMv.mono vc ?_)
    intro n4 σ4 τ4 θ4 vc
    obtain ⟨hW, vc⟩ := vc
    refine SW.goto 227 dX10_readLine_166 (by decide) ?_
    exact SW.vret dX10_readLine_227 rfl ⟨rfl, vc⟩
set_option maxHeartbeats 4000000 in
set_option maxRecDepth 20000 in
theorem sgX10_readLine_205 {G : GG} {k : Nat} {q : Nat → SG → TU → TH → Prop} {n : Nat} {σ : SG} {τ : TU} {θ : TH}  (s0 : Int32) (hk : 10 ≤ k)  (hW : aw_WT n θ) (vc : SMi G 6 mX10_begins 0 0 [.ref 120, .ref (1000 + 30), .int s0] n σ τ θ (fun a1 n1 σ1 τ1 θ1 => aw_WT n1 θ1 ∧ (((a1 = 0) → (SMv G 1 mX10_wrong 0 0 [.ref 120, .int (1 : Int32), .int (σ1 120 4)] n1 σ1 τ1 θ1 (fun n2 σ2 τ2 θ2 => aw_WT n2 θ2 ∧ (q n2 σ2 τ2 θ2)))) ∧ ((¬ a1 = 0) → (SMv G 9 mX10_readingLine 0 0 [.ref 120] n1 σ1 τ1 θ1 (fun n3 σ3 τ3 θ3 => aw_WT n3 θ3 ∧ (q n3 σ3 τ3 θ3))))))) : SW G k mX10_readLine (aw_qv q) 0 0 205 [some (.ref 120)] [.int s0, .ref (1000 + 30), .ref 120] (n, σ, τ, θ) := by
  refine SW.cvi2 kV_X10_182 (by omega) aw_cl10 kp_120 (by decide) (hW.le (by decide)) rfl (Nat.le_of_ble_eq_true rfl) dX10_readLine_205 (SMi.mono vc ?_)
  intro a1 n1 σ1 τ1 θ1 vc
  obtain ⟨hW, vc⟩ := vc
  refine SW.if_eq 218 dX10_readLine_208 (by decide) (fun hbr => ?_) (fun hbr => ?_)
  · replace vc := vc.1 hbr
    refine SW.aload_n dX10_readLine_218 rfl ?_
    refine SW.iconst (v := (1 : Int32)) dX10_readLine_219 (by decide) ?_
    refine SW.aload_n dX10_readLine_220 rfl ?_
    refine SW.getI (f := 4) aw_cl10 kp_120 (by decide) (hW.le (by decide)) (by decide) ww_1246 dX10_readLine_221 rfl ?_
    refine SW.cvv2 kV_X10_115 (by omega) aw_cl10 kp_120 (by decide) (hW.le (by decide)) rfl (Nat.le_of_ble_eq_true rfl) dX10_readLine_224 (SMv.mono vc ?_)
    intro n2 σ2 τ2 θ2 vc
    obtain ⟨hW, vc⟩ := vc
    exact SW.vret dX10_readLine_227 rfl ⟨rfl, vc⟩
  · replace vc := vc.2 hbr
    refine SW.aload_n dX10_readLine_211 rfl ?_
    refine SW.cvv0 kV_X10_198 (by omega) aw_cl10 kp_120 (by decide) (hW.le (by decide)) rfl (Nat.le_of_ble_eq_true rfl) dX10_readLine_212 (SMv.mono vc ?_)
    intro n3 σ3 τ3 θ3 vc
    obtain ⟨hW, vc⟩ := vc
    refine SW.goto 227 dX10_readLine_215 (by decide) ?_
    exact SW.vret dX10_readLine_227 rfl ⟨rfl, vc⟩
theorem ctX10_readLine {G : GG} {q : Nat → SG → TU → TH → Prop} {n : Nat} {σ : SG} {τ : TU} {θ : TH}  (h : SW G 10 mX10_readLine (aw_qv q) 0 0 0 [some (.ref 120)] [] (n, σ, τ, θ)) : SMv G 10 mX10_readLine 0 0 [.ref 120] n σ τ θ q := SM.of _ rfl rfl (Nat.le_of_ble_eq_true rfl) h
set_option maxHeartbeats 4000000 in
set_option maxRecDepth 20000 in
theorem sgX10_readingLine_0 {G : GG} {k : Nat} {q : Nat → SG → TU → TH → Prop} {n : Nat} {σ : SG} {τ : TU} {θ : TH}   (hk : 9 ≤ k)  (hW : aw_WT n θ) (vc : (((σ 120 13) = 0) → (SMi G 8 mX10_manHere 0 0 [.ref 120] n σ τ θ (fun a1 n1 σ1 τ1 θ1 => aw_WT n1 θ1 ∧ (vp_in ((78 : Int32) + ((2 : Int32) * (σ 124 9))) 167 ∧ (SMv G 3 mX10_pass 0 0 [.ref 120] n1 (aw_u σ1 124 ((78 : Int32) + ((2 : Int32) * (σ 124 9))).toNatClampNeg a1) τ1 θ1 (fun n2 σ2 τ2 θ2 => aw_WT n2 θ2 ∧ (SMi G 3 mX10_number 0 0 [.ref 120, .int (0 : Int32), .int (40 : Int32)] n2 σ2 τ2 θ2 (fun a3 n3 σ3 τ3 θ3 => aw_WT n3 θ3 ∧ (vp_in (((78 : Int32) + ((2 : Int32) * (σ 124 9))) + (1 : Int32)) 167 ∧ (((¬ ((aw_u σ3 124 (((78 : Int32) + ((2 : Int32) * (σ 124 9))) + (1 : Int32)).toNatClampNeg a3) 120 13) = 0) → (q n3 (aw_u σ3 124 (((78 : Int32) + ((2 : Int32) * (σ 124 9))) + (1 : Int32)).toNatClampNeg a3) τ3 θ3)) ∧ ((((aw_u σ3 124 (((78 : Int32) + ((2 : Int32) * (σ 124 9))) + (1 : Int32)).toNatClampNeg a3) 120 13) = 0) → (q n3 (aw_u (aw_u σ3 124 (((78 : Int32) + ((2 : Int32) * (σ 124 9))) + (1 : Int32)).toNatClampNeg a3) 124 9 (((aw_u σ3 124 (((78 : Int32) + ((2 : Int32) * (σ 124 9))) + (1 : Int32)).toNatClampNeg a3) 124 9) + (1 : Int32))) τ3 θ3)))))))))))) ∧ ((¬ (σ 120 13) = 0) → (q n σ τ θ))) : SW G k mX10_readingLine (aw_qv q) 0 0 0 [some (.ref 120), none] [] (n, σ, τ, θ) := by
  refine SW.aload_n dX10_readingLine_0 rfl ?_
  refine SW.getI (f := 13) aw_cl10 kp_120 (by decide) (hW.le (by decide)) (by decide) ww_1255 dX10_readingLine_1 rfl ?_
  refine SW.if_eq 8 dX10_readingLine_4 (by decide) (fun hbr => ?_) (fun hbr => ?_)
  · replace vc := vc.1 hbr
    refine SW.bipush (v := (78 : Int32)) dX10_readingLine_8 (by decide) ?_
    refine SW.iconst (v := (2 : Int32)) dX10_readingLine_10 (by decide) ?_
    refine SW.aload_n dX10_readingLine_11 rfl ?_
    refine SW.getS (f := 16) (r := 124) aw_cl10 kp_120 (by decide) (hW.le (by decide)) (by decide) ww_1258 dX10_readingLine_12 rfl hW.t120_16 ?_
    refine SW.bipush (v := (9 : Int32)) dX10_readingLine_15 (by decide) ?_
    refine SW.iald kp_124 (by decide) (hW.le (by decide)) (vp_in_nI (n := 9) (by decide) (by decide)) dX10_readingLine_17 ?_
    refine SW.imul dX10_readingLine_18 ?_
    refine SW.iadd dX10_readingLine_19 ?_
    refine SW.istore_n dX10_readingLine_20 (by decide) rfl rfl ?_
    refine SW.aload_n dX10_readingLine_21 rfl ?_
    refine SW.getS (f := 16) (r := 124) aw_cl10 kp_120 (by decide) (hW.le (by decide)) (by decide) ww_1258 dX10_readingLine_22 rfl hW.t120_16 ?_
    refine SW.iload_n dX10_readingLine_25 rfl ?_
    refine SW.aload_n dX10_readingLine_26 rfl ?_
    refine SW.cvi0 kV_X10_229 (by omega) aw_cl10 kp_120 (by decide) (hW.le (by decide)) rfl (Nat.le_of_ble_eq_true rfl) dX10_readingLine_27 (SMi.mono vc ?_)
    intro a1 n1 σ1 τ1 θ1 vc
    obtain ⟨hW, vc⟩ := vc
    refine SW.iast kp_124 (by decide) (hW.le (by decide)) vc.1 dX10_readingLine_30 ?_
    replace vc := vc.2
    refine SW.aload_n dX10_readingLine_31 rfl ?_
    refine SW.cvv0 kV_X10_176 (by omega) aw_cl10 kp_120 (by decide) (hW.le (by decide)) rfl (Nat.le_of_ble_eq_true rfl) dX10_readingLine_32 (SMv.mono vc ?_)
    intro n2 σ2 τ2 θ2 vc
    obtain ⟨hW, vc⟩ := vc
    refine SW.aload_n dX10_readingLine_35 rfl ?_
    refine SW.getS (f := 16) (r := 124) aw_cl10 kp_120 (by decide) (hW.le (by decide)) (by decide) ww_1258 dX10_readingLine_36 rfl hW.t120_16 ?_
    refine SW.iload_n dX10_readingLine_39 rfl ?_
    refine SW.iconst (v := (1 : Int32)) dX10_readingLine_40 (by decide) ?_
    refine SW.iadd dX10_readingLine_41 ?_
    refine SW.aload_n dX10_readingLine_42 rfl ?_
    refine SW.iconst (v := (0 : Int32)) dX10_readingLine_43 (by decide) ?_
    refine SW.bipush (v := (40 : Int32)) dX10_readingLine_44 (by decide) ?_
    refine SW.cvi2 kV_X10_151 (by omega) aw_cl10 kp_120 (by decide) (hW.le (by decide)) rfl (Nat.le_of_ble_eq_true rfl) dX10_readingLine_46 (SMi.mono vc ?_)
    intro a3 n3 σ3 τ3 θ3 vc
    obtain ⟨hW, vc⟩ := vc
    refine SW.iast kp_124 (by decide) (hW.le (by decide)) vc.1 dX10_readingLine_49 ?_
    replace vc := vc.2
    refine SW.aload_n dX10_readingLine_50 rfl ?_
    refine SW.getI (f := 13) aw_cl10 kp_120 (by decide) (hW.le (by decide)) (by decide) ww_1255 dX10_readingLine_51 rfl ?_
    refine SW.if_ne 68 dX10_readingLine_54 (by decide) (fun hbr => ?_) (fun hbr => ?_)
    · replace vc := vc.1 hbr
      exact SW.vret dX10_readingLine_68 rfl ⟨rfl, vc⟩
    · replace vc := vc.2 hbr
      refine SW.aload_n dX10_readingLine_57 rfl ?_
      refine SW.getS (f := 16) (r := 124) aw_cl10 kp_120 (by decide) (hW.le (by decide)) (by decide) ww_1258 dX10_readingLine_58 rfl hW.t120_16 ?_
      refine SW.bipush (v := (9 : Int32)) dX10_readingLine_61 (by decide) ?_
      refine SW.dup2 dX10_readingLine_63 rfl rfl ?_
      refine SW.iald kp_124 (by decide) (hW.le (by decide)) (vp_in_nI (n := 9) (by decide) (by decide)) dX10_readingLine_64 ?_
      refine SW.iconst (v := (1 : Int32)) dX10_readingLine_65 (by decide) ?_
      refine SW.iadd dX10_readingLine_66 ?_
      refine SW.iast kp_124 (by decide) (hW.le (by decide)) (vp_in_nI (n := 9) (by decide) (by decide)) dX10_readingLine_67 ?_
      exact SW.vret dX10_readingLine_68 rfl ⟨rfl, vc⟩
  · replace vc := vc.2 hbr
    exact SW.vret dX10_readingLine_7 rfl ⟨rfl, vc⟩
theorem ctX10_readingLine {G : GG} {q : Nat → SG → TU → TH → Prop} {n : Nat} {σ : SG} {τ : TU} {θ : TH}  (h : SW G 9 mX10_readingLine (aw_qv q) 0 0 0 [some (.ref 120), none] [] (n, σ, τ, θ)) : SMv G 9 mX10_readingLine 0 0 [.ref 120] n σ τ θ q := SM.of _ rfl rfl (Nat.le_of_ble_eq_true rfl) h
set_option maxHeartbeats 4000000 in
set_option maxRecDepth 20000 in
theorem sgX10_rest_0 {G : GG} {k : Nat} {q : Int32 → Nat → SG → TU → TH → Prop} {n : Nat} {σ : SG} {τ : TU} {θ : TH}  (x1 : Int32) (x2 : Int32) (x3 : Int32) (hk : 4 ≤ k)  (hW : aw_WT n θ) (vc : SMv G 1 mX10_good 0 0 [.ref 120] n σ τ θ (fun n1 σ1 τ1 θ1 => aw_WT n1 θ1 ∧ (SMi G 3 mX10_duelWhy 0 0 [.ref 120, .int x1, .int x2, .int x3] n1 σ1 τ1 θ1 (fun a2 n2 σ2 τ2 θ2 => aw_WT n2 θ2 ∧ (((a2 = 0) → (SMi G 3 mX10_seekRests 0 0 [.ref 120, .int x1, .int x2, .int x3] n2 σ2 τ2 θ2 (fun a3 n3 σ3 τ3 θ3 => aw_WT n3 θ3 ∧ (q (σ3 120 31) n3 σ3 τ3 θ3)))) ∧ ((¬ a2 = 0) → (SMi G 1 mX10_no 0 0 [.ref 120, .int a2] n2 σ2 τ2 θ2 (fun a4 n4 σ4 τ4 θ4 => aw_WT n4 θ4 ∧ (q a4 n4 σ4 τ4 θ4))))))))) : SW G k mX10_rest (aw_qi q) 0 0 0 [some (.ref 120), some (.int x1), some (.int x2), some (.int x3), none] [] (n, σ, τ, θ) := by
  refine SW.aload_n dX10_rest_0 rfl ?_
  refine SW.cvv0 kV_X10_154 (by omega) aw_cl10 kp_120 (by decide) (hW.le (by decide)) rfl (Nat.le_of_ble_eq_true rfl) dX10_rest_1 (SMv.mono vc ?_)
  intro n1 σ1 τ1 θ1 vc
  obtain ⟨hW, vc⟩ := vc
  refine SW.aload_n dX10_rest_4 rfl ?_
  refine SW.iload_n dX10_rest_5 rfl ?_
  refine SW.iload_n dX10_rest_6 rfl ?_
  refine SW.iload_n dX10_rest_7 rfl ?_
  refine SW.cvi3 kV_X10_375 (by omega) aw_cl10 kp_120 (by decide) (hW.le (by decide)) rfl (Nat.le_of_ble_eq_true rfl) dX10_rest_8 (SMi.mono vc ?_)
  intro a2 n2 σ2 τ2 θ2 vc
  obtain ⟨hW, vc⟩ := vc
  refine SW.istore dX10_rest_11 (by decide) rfl rfl ?_
  refine SW.iload dX10_rest_13 rfl ?_
  refine SW.if_eq 25 dX10_rest_15 (by decide) (fun hbr => ?_) (fun hbr => ?_)
  · replace vc := vc.1 hbr
    refine SW.aload_n dX10_rest_25 rfl ?_
    refine SW.iload_n dX10_rest_26 rfl ?_
    refine SW.iload_n dX10_rest_27 rfl ?_
    refine SW.iload_n dX10_rest_28 rfl ?_
    refine SW.cvi3 kV_X10_385 (by omega) aw_cl10 kp_120 (by decide) (hW.le (by decide)) rfl (Nat.le_of_ble_eq_true rfl) dX10_rest_29 (SMi.mono vc ?_)
    intro a3 n3 σ3 τ3 θ3 vc
    obtain ⟨hW, vc⟩ := vc
    refine SW.pop dX10_rest_32 rfl ?_
    refine SW.aload_n dX10_rest_33 rfl ?_
    refine SW.getI (f := 31) aw_cl10 kp_120 (by decide) (hW.le (by decide)) (by decide) ww_1273 dX10_rest_34 rfl ?_
    exact SW.iret dX10_rest_37 rfl rfl ⟨_, rfl, vc⟩
  · replace vc := vc.2 hbr
    refine SW.aload_n dX10_rest_18 rfl ?_
    refine SW.iload dX10_rest_19 rfl ?_
    refine SW.cvi1 kV_X10_157 (by omega) aw_cl10 kp_120 (by decide) (hW.le (by decide)) rfl (Nat.le_of_ble_eq_true rfl) dX10_rest_21 (SMi.mono vc ?_)
    intro a4 n4 σ4 τ4 θ4 vc
    obtain ⟨hW, vc⟩ := vc
    exact SW.iret dX10_rest_24 rfl rfl ⟨_, rfl, vc⟩
theorem ctX10_rest {G : GG} {q : Int32 → Nat → SG → TU → TH → Prop} {n : Nat} {σ : SG} {τ : TU} {θ : TH} (x1 : Int32) (x2 : Int32) (x3 : Int32) (h : SW G 4 mX10_rest (aw_qi q) 0 0 0 [some (.ref 120), some (.int x1), some (.int x2), some (.int x3), none] [] (n, σ, τ, θ)) : SMi G 4 mX10_rest 0 0 [.ref 120, .int x1, .int x2, .int x3] n σ τ θ q := SM.of _ rfl rfl (Nat.le_of_ble_eq_true rfl) h
set_option maxHeartbeats 4000000 in
set_option maxRecDepth 20000 in
theorem sgX10_rests_0 {G : GG} {k : Nat} {q : Int32 → Nat → SG → TU → TH → Prop} {n : Nat} {σ : SG} {τ : TU} {θ : TH}  (x1 : Int32) (x2 : Int32) (x3 : Int32) (hk : 4 ≤ k)  (hW : aw_WT n θ) (vc : SMv G 1 mX10_good 0 0 [.ref 120] n σ τ θ (fun n1 σ1 τ1 θ1 => aw_WT n1 θ1 ∧ (SMi G 3 mX10_duelWhy 0 0 [.ref 120, .int x1, .int x2, .int x3] n1 σ1 τ1 θ1 (fun a2 n2 σ2 τ2 θ2 => aw_WT n2 θ2 ∧ (((a2 = 0) → (SMi G 3 mX10_seekRests 0 0 [.ref 120, .int x1, .int x2, .int x3] n2 σ2 τ2 θ2 (fun a3 n3 σ3 τ3 θ3 => aw_WT n3 θ3 ∧ (q a3 n3 σ3 τ3 θ3)))) ∧ ((¬ a2 = 0) → (SMi G 1 mX10_no 0 0 [.ref 120, .int a2] n2 σ2 τ2 θ2 (fun a4 n4 σ4 τ4 θ4 => aw_WT n4 θ4 ∧ (q a4 n4 σ4 τ4 θ4))))))))) : SW G k mX10_rests (aw_qi q) 0 0 0 [some (.ref 120), some (.int x1), some (.int x2), some (.int x3), none] [] (n, σ, τ, θ) := by
  refine SW.aload_n dX10_rests_0 rfl ?_
  refine SW.cvv0 kV_X10_154 (by omega) aw_cl10 kp_120 (by decide) (hW.le (by decide)) rfl (Nat.le_of_ble_eq_true rfl) dX10_rests_1 (SMv.mono vc ?_)
  intro n1 σ1 τ1 θ1 vc
  obtain ⟨hW, vc⟩ := vc
  refine SW.aload_n dX10_rests_4 rfl ?_
  refine SW.iload_n dX10_rests_5 rfl ?_
  refine SW.iload_n dX10_rests_6 rfl ?_
  refine SW.iload_n dX10_rests_7 rfl ?_
  refine SW.cvi3 kV_X10_375 (by omega) aw_cl10 kp_120 (by decide) (hW.le (by decide)) rfl (Nat.le_of_ble_eq_true rfl) dX10_rests_8 (SMi.mono vc ?_)
  intro a2 n2 σ2 τ2 θ2 vc
  obtain ⟨hW, vc⟩ := vc
  refine SW.istore dX10_rests_11 (by decide) rfl rfl ?_
  refine SW.iload dX10_rests_13 rfl ?_
  refine SW.if_eq 27 dX10_rests_15 (by decide) (fun hbr => ?_) (fun hbr => ?_)
  · replace vc := vc.1 hbr
    refine SW.aload_n dX10_rests_27 rfl ?_
    refine SW.iload_n dX10_rests_28 rfl ?_
    refine SW.iload_n dX10_rests_29 rfl ?_
    refine SW.iload_n dX10_rests_30 rfl ?_
    refine SW.cvi3 kV_X10_385 (by omega) aw_cl10 kp_120 (by decide) (hW.le (by decide)) rfl (Nat.le_of_ble_eq_true rfl) dX10_rests_31 (SMi.mono vc ?_)
    intro a3 n3 σ3 τ3 θ3 vc
    obtain ⟨hW, vc⟩ := vc
    exact SW.iret dX10_rests_34 rfl rfl ⟨_, rfl, vc⟩
  · replace vc := vc.2 hbr
    refine SW.aload_n dX10_rests_18 rfl ?_
    refine SW.iload dX10_rests_19 rfl ?_
    refine SW.cvi1 kV_X10_157 (by omega) aw_cl10 kp_120 (by decide) (hW.le (by decide)) rfl (Nat.le_of_ble_eq_true rfl) dX10_rests_21 (SMi.mono vc ?_)
    intro a4 n4 σ4 τ4 θ4 vc
    obtain ⟨hW, vc⟩ := vc
    refine SW.goto 34 dX10_rests_24 (by decide) ?_
    exact SW.iret dX10_rests_34 rfl rfl ⟨_, rfl, vc⟩
theorem ctX10_rests {G : GG} {q : Int32 → Nat → SG → TU → TH → Prop} {n : Nat} {σ : SG} {τ : TU} {θ : TH} (x1 : Int32) (x2 : Int32) (x3 : Int32) (h : SW G 4 mX10_rests (aw_qi q) 0 0 0 [some (.ref 120), some (.int x1), some (.int x2), some (.int x3), none] [] (n, σ, τ, θ)) : SMi G 4 mX10_rests 0 0 [.ref 120, .int x1, .int x2, .int x3] n σ τ θ q := SM.of _ rfl rfl (Nat.le_of_ble_eq_true rfl) h
set_option maxHeartbeats 4000000 in
set_option maxRecDepth 20000 in
theorem sgX10_ring_0 {G : GG} {k : Nat} {q : Int32 → Nat → SG → TU → TH → Prop} {n : Nat} {σ : SG} {τ : TU} {θ : TH}  (x1 : Int32) (hk : 13 ≤ k)  (hW : aw_WT n θ) (vc : SMv G 1 mX10_good 0 0 [.ref 120] n σ τ θ (fun n1 σ1 τ1 θ1 => aw_WT n1 θ1 ∧ (SMi G 2 mX10_isMan 0 0 [.ref 120, .int x1] n1 σ1 τ1 θ1 (fun a2 n2 σ2 τ2 θ2 => aw_WT n2 θ2 ∧ (((¬ a2 = 0) → (SMi G 12 mX10_seekRing 0 0 [.ref 120, .int x1] n2 σ2 τ2 θ2 (fun a3 n3 σ3 τ3 θ3 => aw_WT n3 θ3 ∧ (((a3 = 0) → (q (-2 : Int32) n3 σ3 τ3 θ3)) ∧ ((¬ a3 = 0) → (q (σ3 120 29) n3 σ3 τ3 θ3)))))) ∧ ((a2 = 0) → (SMi G 1 mX10_no 0 0 [.ref 120, .int (1 : Int32)] n2 σ2 τ2 θ2 (fun a4 n4 σ4 τ4 θ4 => aw_WT n4 θ4 ∧ (q a4 n4 σ4 τ4 θ4))))))))) : SW G k mX10_ring (aw_qi q) 0 0 0 [some (.ref 120), some (.int x1)] [] (n, σ, τ, θ) := by
  refine SW.aload_n dX10_ring_0 rfl ?_
  refine SW.cvv0 kV_X10_154 (by omega) aw_cl10 kp_120 (by decide) (hW.le (by decide)) rfl (Nat.le_of_ble_eq_true rfl) dX10_ring_1 (SMv.mono vc ?_)
  intro n1 σ1 τ1 θ1 vc
  obtain ⟨hW, vc⟩ := vc
  refine SW.aload_n dX10_ring_4 rfl ?_
  refine SW.iload_n dX10_ring_5 rfl ?_
  refine SW.cvi1 kV_X10_264 (by omega) aw_cl10 kp_120 (by decide) (hW.le (by decide)) rfl (Nat.le_of_ble_eq_true rfl) dX10_ring_6 (SMi.mono vc ?_)
  intro a2 n2 σ2 τ2 θ2 vc
  obtain ⟨hW, vc⟩ := vc
  refine SW.if_ne 18 dX10_ring_9 (by decide) (fun hbr => ?_) (fun hbr => ?_)
  · replace vc := vc.1 hbr
    refine SW.aload_n dX10_ring_18 rfl ?_
    refine SW.iload_n dX10_ring_19 rfl ?_
    refine SW.cvi1 kV_X10_325 (by omega) aw_cl10 kp_120 (by decide) (hW.le (by decide)) rfl (Nat.le_of_ble_eq_true rfl) dX10_ring_20 (SMi.mono vc ?_)
    intro a3 n3 σ3 τ3 θ3 vc
    obtain ⟨hW, vc⟩ := vc
    refine SW.if_eq 33 dX10_ring_23 (by decide) (fun hbr => ?_) (fun hbr => ?_)
    · replace vc := vc.1 hbr
      refine SW.bipush (v := (-2 : Int32)) dX10_ring_33 (by decide) ?_
      exact SW.iret dX10_ring_35 rfl rfl ⟨_, rfl, vc⟩
    · replace vc := vc.2 hbr
      refine SW.aload_n dX10_ring_26 rfl ?_
      refine SW.getI (f := 29) aw_cl10 kp_120 (by decide) (hW.le (by decide)) (by decide) ww_1271 dX10_ring_27 rfl ?_
      refine SW.goto 35 dX10_ring_30 (by decide) ?_
      exact SW.iret dX10_ring_35 rfl rfl ⟨_, rfl, vc⟩
  · replace vc := vc.2 hbr
    refine SW.aload_n dX10_ring_12 rfl ?_
    refine SW.iconst (v := (1 : Int32)) dX10_ring_13 (by decide) ?_
    refine SW.cvi1 kV_X10_157 (by omega) aw_cl10 kp_120 (by decide) (hW.le (by decide)) rfl (Nat.le_of_ble_eq_true rfl) dX10_ring_14 (SMi.mono vc ?_)
    intro a4 n4 σ4 τ4 θ4 vc
    obtain ⟨hW, vc⟩ := vc
    exact SW.iret dX10_ring_17 rfl rfl ⟨_, rfl, vc⟩
theorem ctX10_ring {G : GG} {q : Int32 → Nat → SG → TU → TH → Prop} {n : Nat} {σ : SG} {τ : TU} {θ : TH} (x1 : Int32) (h : SW G 13 mX10_ring (aw_qi q) 0 0 0 [some (.ref 120), some (.int x1)] [] (n, σ, τ, θ)) : SMi G 13 mX10_ring 0 0 [.ref 120, .int x1] n σ τ θ q := SM.of _ rfl rfl (Nat.le_of_ble_eq_true rfl) h
set_option maxHeartbeats 4000000 in
set_option maxRecDepth 20000 in
theorem sgX10_ringAt_0 {G : GG} {k : Nat} {q : Int32 → Nat → SG → TU → TH → Prop} {n : Nat} {σ : SG} {τ : TU} {θ : TH}  (x1 : Int32) (x2 : Int32) (hk : 13 ≤ k)  (hW : aw_WT n θ) (vc : SMv G 1 mX10_good 0 0 [.ref 120] n σ τ θ (fun n1 σ1 τ1 θ1 => aw_WT n1 θ1 ∧ (SMi G 2 mX10_isMan 0 0 [.ref 120, .int x1] n1 σ1 τ1 θ1 (fun a2 n2 σ2 τ2 θ2 => aw_WT n2 θ2 ∧ (((a2 = 0) → (SMi G 1 mX10_no 0 0 [.ref 120, .int (1 : Int32)] n2 σ2 τ2 θ2 (fun a3 n3 σ3 τ3 θ3 => aw_WT n3 θ3 ∧ (q a3 n3 σ3 τ3 θ3)))) ∧ ((¬ a2 = 0) → (SMi G 12 mX10_seekRing 0 0 [.ref 120, .int x1] n2 σ2 τ2 θ2 (fun a4 n4 σ4 τ4 θ4 => aw_WT n4 θ4 ∧ (((a4 = 0) → (SMi G 1 mX10_no 0 0 [.ref 120, .int (1 : Int32)] n4 σ4 τ4 θ4 (fun a5 n5 σ5 τ5 θ5 => aw_WT n5 θ5 ∧ (q a5 n5 σ5 τ5 θ5)))) ∧ ((¬ a4 = 0) → (SMi G 1 mX10_in 0 0 [.int x2, .int (0 : Int32), .int ((σ4 120 29) - (1 : Int32))] n4 σ4 τ4 θ4 (fun a6 n6 σ6 τ6 θ6 => aw_WT n6 θ6 ∧ (((¬ a6 = 0) → (vp_in x2 5 ∧ (q (σ6 132 x2.toNatClampNeg) n6 σ6 τ6 θ6))) ∧ ((a6 = 0) → (SMi G 1 mX10_no 0 0 [.ref 120, .int (1 : Int32)] n6 σ6 τ6 θ6 (fun a7 n7 σ7 τ7 θ7 => aw_WT n7 θ7 ∧ (q a7 n7 σ7 τ7 θ7))))))))))))))))) : SW G k mX10_ringAt (aw_qi q) 0 0 0 [some (.ref 120), some (.int x1), some (.int x2)] [] (n, σ, τ, θ) := by
  refine SW.aload_n dX10_ringAt_0 rfl ?_
  refine SW.cvv0 kV_X10_154 (by omega) aw_cl10 kp_120 (by decide) (hW.le (by decide)) rfl (Nat.le_of_ble_eq_true rfl) dX10_ringAt_1 (SMv.mono vc ?_)
  intro n1 σ1 τ1 θ1 vc
  obtain ⟨hW, vc⟩ := vc
  refine SW.aload_n dX10_ringAt_4 rfl ?_
  refine SW.iload_n dX10_ringAt_5 rfl ?_
  refine SW.cvi1 kV_X10_264 (by omega) aw_cl10 kp_120 (by decide) (hW.le (by decide)) rfl (Nat.le_of_ble_eq_true rfl) dX10_ringAt_6 (SMi.mono vc ?_)
  intro a2 n2 σ2 τ2 θ2 vc
  obtain ⟨hW, vc⟩ := vc
  refine SW.if_eq 34 dX10_ringAt_9 (by decide) (fun hbr => ?_) (fun hbr => ?_)
  · replace vc := vc.1 hbr
    refine SW.aload_n dX10_ringAt_34 rfl ?_
    refine SW.iconst (v := (1 : Int32)) dX10_ringAt_35 (by decide) ?_
    refine SW.cvi1 kV_X10_157 (by omega) aw_cl10 kp_120 (by decide) (hW.le (by decide)) rfl (Nat.le_of_ble_eq_true rfl) dX10_ringAt_36 (SMi.mono vc ?_)
    intro a3 n3 σ3 τ3 θ3 vc
    obtain ⟨hW, vc⟩ := vc
    exact SW.iret dX10_ringAt_39 rfl rfl ⟨_, rfl, vc⟩
  · replace vc := vc.2 hbr
    refine SW.aload_n dX10_ringAt_12 rfl ?_
    refine SW.iload_n dX10_ringAt_13 rfl ?_
    refine SW.cvi1 kV_X10_325 (by omega) aw_cl10 kp_120 (by decide) (hW.le (by decide)) rfl (Nat.le_of_ble_eq_true rfl) dX10_ringAt_14 (SMi.mono vc ?_)
    intro a4 n4 σ4 τ4 θ4 vc
    obtain ⟨hW, vc⟩ := vc
    refine SW.if_eq 34 dX10_ringAt_17 (by decide) (fun hbr => ?_) (fun hbr => ?_)
    · replace vc := vc.1 hbr
      refine SW.aload_n dX10_ringAt_34 rfl ?_
      refine SW.iconst (v := (1 : Int32)) dX10_ringAt_35 (by decide) ?_
      refine SW.cvi1 kV_X10_157 (by omega) aw_cl10 kp_120 (by decide) (hW.le (by decide)) rfl (Nat.le_of_ble_eq_true rfl) dX10_ringAt_36 (SMi.mono vc ?_)
      intro a5 n5 σ5 τ5 θ5 vc
      obtain ⟨hW, vc⟩ := vc
      exact SW.iret dX10_ringAt_39 rfl rfl ⟨_, rfl, vc⟩
    · replace vc := vc.2 hbr
      refine SW.iload_n dX10_ringAt_20 rfl ?_
      refine SW.iconst (v := (0 : Int32)) dX10_ringAt_21 (by decide) ?_
      refine SW.aload_n dX10_ringAt_22 rfl ?_
      refine SW.getI (f := 29) aw_cl10 kp_120 (by decide) (hW.le (by decide)) (by decide) ww_1271 dX10_ringAt_23 rfl ?_
      refine SW.iconst (v := (1 : Int32)) dX10_ringAt_26 (by decide) ?_
      refine SW.isub dX10_ringAt_27 ?_
      refine SW.csi3 kS_X10_139 (by omega) (Nat.le_of_ble_eq_true rfl) dX10_ringAt_28 (SMi.mono vc ?_)
      intro a6 n6 σ6 τ6 θ6 vc
      obtain ⟨hW, vc⟩ := vc
      refine SW.if_ne 40 dX10_ringAt_31 (by decide) (fun hbr => ?_) (fun hbr => ?_)
      · replace vc := vc.1 hbr
        refine SW.aload_n dX10_ringAt_40 rfl ?_
        refine SW.getS (f := 28) (r := 132) aw_cl10 kp_120 (by decide) (hW.le (by decide)) (by decide) ww_1270 dX10_ringAt_41 rfl hW.t120_28 ?_
        refine SW.iload_n dX10_ringAt_44 rfl ?_
        refine SW.iald kp_132 (by decide) (hW.le (by decide)) vc.1 dX10_ringAt_45 ?_
        replace vc := vc.2
        exact SW.iret dX10_ringAt_46 rfl rfl ⟨_, rfl, vc⟩
      · replace vc := vc.2 hbr
        refine SW.aload_n dX10_ringAt_34 rfl ?_
        refine SW.iconst (v := (1 : Int32)) dX10_ringAt_35 (by decide) ?_
        refine SW.cvi1 kV_X10_157 (by omega) aw_cl10 kp_120 (by decide) (hW.le (by decide)) rfl (Nat.le_of_ble_eq_true rfl) dX10_ringAt_36 (SMi.mono vc ?_)
        intro a7 n7 σ7 τ7 θ7 vc
        obtain ⟨hW, vc⟩ := vc
        exact SW.iret dX10_ringAt_39 rfl rfl ⟨_, rfl, vc⟩
theorem ctX10_ringAt {G : GG} {q : Int32 → Nat → SG → TU → TH → Prop} {n : Nat} {σ : SG} {τ : TU} {θ : TH} (x1 : Int32) (x2 : Int32) (h : SW G 13 mX10_ringAt (aw_qi q) 0 0 0 [some (.ref 120), some (.int x1), some (.int x2)] [] (n, σ, τ, θ)) : SMi G 13 mX10_ringAt 0 0 [.ref 120, .int x1, .int x2] n σ τ θ q := SM.of _ rfl rfl (Nat.le_of_ble_eq_true rfl) h
set_option maxHeartbeats 4000000 in
set_option maxRecDepth 20000 in
theorem sgX10_ringSum_0 {G : GG} {k : Nat} {q : Int32 → Nat → SG → TU → TH → Prop} {n : Nat} {σ : SG} {τ : TU} {θ : TH}  (x1 : Int32) (hk : 13 ≤ k)  (hW : aw_WT n θ) (vc : SMv G 1 mX10_good 0 0 [.ref 120] n σ τ θ (fun n1 σ1 τ1 θ1 => aw_WT n1 θ1 ∧ (SMi G 2 mX10_isMan 0 0 [.ref 120, .int x1] n1 σ1 τ1 θ1 (fun a2 n2 σ2 τ2 θ2 => aw_WT n2 θ2 ∧ (((¬ a2 = 0) → (SMi G 12 mX10_seekRing 0 0 [.ref 120, .int x1] n2 σ2 τ2 θ2 (fun a3 n3 σ3 τ3 θ3 => aw_WT n3 θ3 ∧ (((a3 = 0) → (q (-2 : Int32) n3 σ3 τ3 θ3)) ∧ ((¬ a3 = 0) → (SMi G 4 mX10_sumOf 0 0 [.ref 120] n3 σ3 τ3 θ3 (fun a4 n4 σ4 τ4 θ4 => aw_WT n4 θ4 ∧ (q a4 n4 σ4 τ4 θ4)))))))) ∧ ((a2 = 0) → (SMi G 1 mX10_no 0 0 [.ref 120, .int (1 : Int32)] n2 σ2 τ2 θ2 (fun a5 n5 σ5 τ5 θ5 => aw_WT n5 θ5 ∧ (q a5 n5 σ5 τ5 θ5))))))))) : SW G k mX10_ringSum (aw_qi q) 0 0 0 [some (.ref 120), some (.int x1)] [] (n, σ, τ, θ) := by
  refine SW.aload_n dX10_ringSum_0 rfl ?_
  refine SW.cvv0 kV_X10_154 (by omega) aw_cl10 kp_120 (by decide) (hW.le (by decide)) rfl (Nat.le_of_ble_eq_true rfl) dX10_ringSum_1 (SMv.mono vc ?_)
  intro n1 σ1 τ1 θ1 vc
  obtain ⟨hW, vc⟩ := vc
  refine SW.aload_n dX10_ringSum_4 rfl ?_
  refine SW.iload_n dX10_ringSum_5 rfl ?_
  refine SW.cvi1 kV_X10_264 (by omega) aw_cl10 kp_120 (by decide) (hW.le (by decide)) rfl (Nat.le_of_ble_eq_true rfl) dX10_ringSum_6 (SMi.mono vc ?_)
  intro a2 n2 σ2 τ2 θ2 vc
  obtain ⟨hW, vc⟩ := vc
  refine SW.if_ne 18 dX10_ringSum_9 (by decide) (fun hbr => ?_) (fun hbr => ?_)
  · replace vc := vc.1 hbr
    refine SW.aload_n dX10_ringSum_18 rfl ?_
    refine SW.iload_n dX10_ringSum_19 rfl ?_
    refine SW.cvi1 kV_X10_325 (by omega) aw_cl10 kp_120 (by decide) (hW.le (by decide)) rfl (Nat.le_of_ble_eq_true rfl) dX10_ringSum_20 (SMi.mono vc ?_)
    intro a3 n3 σ3 τ3 θ3 vc
    obtain ⟨hW, vc⟩ := vc
    refine SW.if_eq 33 dX10_ringSum_23 (by decide) (fun hbr => ?_) (fun hbr => ?_)
    · replace vc := vc.1 hbr
      refine SW.bipush (v := (-2 : Int32)) dX10_ringSum_33 (by decide) ?_
      exact SW.iret dX10_ringSum_35 rfl rfl ⟨_, rfl, vc⟩
    · replace vc := vc.2 hbr
      refine SW.aload_n dX10_ringSum_26 rfl ?_
      refine SW.cvi0 kV_X10_328 (by omega) aw_cl10 kp_120 (by decide) (hW.le (by decide)) rfl (Nat.le_of_ble_eq_true rfl) dX10_ringSum_27 (SMi.mono vc ?_)
      intro a4 n4 σ4 τ4 θ4 vc
      obtain ⟨hW, vc⟩ := vc
      refine SW.goto 35 dX10_ringSum_30 (by decide) ?_
      exact SW.iret dX10_ringSum_35 rfl rfl ⟨_, rfl, vc⟩
  · replace vc := vc.2 hbr
    refine SW.aload_n dX10_ringSum_12 rfl ?_
    refine SW.iconst (v := (1 : Int32)) dX10_ringSum_13 (by decide) ?_
    refine SW.cvi1 kV_X10_157 (by omega) aw_cl10 kp_120 (by decide) (hW.le (by decide)) rfl (Nat.le_of_ble_eq_true rfl) dX10_ringSum_14 (SMi.mono vc ?_)
    intro a5 n5 σ5 τ5 θ5 vc
    obtain ⟨hW, vc⟩ := vc
    exact SW.iret dX10_ringSum_17 rfl rfl ⟨_, rfl, vc⟩
theorem ctX10_ringSum {G : GG} {q : Int32 → Nat → SG → TU → TH → Prop} {n : Nat} {σ : SG} {τ : TU} {θ : TH} (x1 : Int32) (h : SW G 13 mX10_ringSum (aw_qi q) 0 0 0 [some (.ref 120), some (.int x1)] [] (n, σ, τ, θ)) : SMi G 13 mX10_ringSum 0 0 [.ref 120, .int x1] n σ τ θ q := SM.of _ rfl rfl (Nat.le_of_ble_eq_true rfl) h
set_option maxHeartbeats 4000000 in
set_option maxRecDepth 20000 in
theorem sgX10_see_0 {G : GG} {k : Nat} {q : Int32 → Nat → SG → TU → TH → Prop} {n : Nat} {σ : SG} {τ : TU} {θ : TH}  (x1 : Int32) (hk : 1 ≤ k)  (hW : aw_WT n θ) (vc : (((σ 120 3) ≤ x1) → (q (-1 : Int32) n σ τ θ)) ∧ ((¬ (σ 120 3) ≤ x1) → (vp_in x1 900 ∧ (q (σ 121 x1.toNatClampNeg) n σ τ θ)))) : SW G k mX10_see (aw_qi q) 0 0 0 [some (.ref 120), some (.int x1)] [] (n, σ, τ, θ) := by
  refine SW.iload_n dX10_see_0 rfl ?_
  refine SW.aload_n dX10_see_1 rfl ?_
  refine SW.getI (f := 3) aw_cl10 kp_120 (by decide) (hW.le (by decide)) (by decide) ww_1245 dX10_see_2 rfl ?_
  refine SW.icmp_ge 17 dX10_see_5 (by decide) (fun hbr => ?_) (fun hbr => ?_)
  · replace vc := vc.1 hbr
    refine SW.iconst (v := (-1 : Int32)) dX10_see_17 (by decide) ?_
    exact SW.iret dX10_see_18 rfl rfl ⟨_, rfl, vc⟩
  · replace vc := vc.2 hbr
    refine SW.aload_n dX10_see_8 rfl ?_
    refine SW.getS (f := 1) (r := 121) aw_cl10 kp_120 (by decide) (hW.le (by decide)) (by decide) ww_1243 dX10_see_9 rfl hW.t120_1 ?_
    refine SW.iload_n dX10_see_12 rfl ?_
    refine SW.iald kp_121 (by decide) (hW.le (by decide)) vc.1 dX10_see_13 ?_
    replace vc := vc.2
    refine SW.goto 18 dX10_see_14 (by decide) ?_
    exact SW.iret dX10_see_18 rfl rfl ⟨_, rfl, vc⟩
theorem ctX10_see {G : GG} {q : Int32 → Nat → SG → TU → TH → Prop} {n : Nat} {σ : SG} {τ : TU} {θ : TH} (x1 : Int32) (h : SW G 1 mX10_see (aw_qi q) 0 0 0 [some (.ref 120), some (.int x1)] [] (n, σ, τ, θ)) : SMi G 1 mX10_see 0 0 [.ref 120, .int x1] n σ τ θ q := SM.of _ rfl rfl (Nat.le_of_ble_eq_true rfl) h
set_option maxHeartbeats 4000000 in
set_option maxRecDepth 20000 in
theorem sgX10_seekFits_0 {G : GG} {k : Nat} {q : Int32 → Nat → SG → TU → TH → Prop} {n : Nat} {σ : SG} {τ : TU} {θ : TH}  (x1 : Int32) (hk : 6 ≤ k)  (hW : aw_WT n θ) (vc : SW G k mX10_seekFits (aw_qi q) 0 0 9 [some (.ref 120), some (.int x1), some (.int (-1 : Int32)), some (.int (0 : Int32))] [] (n, (aw_u σ 120 30 (0 : Int32)), τ, θ)) : SW G k mX10_seekFits (aw_qi q) 0 0 0 [some (.ref 120), some (.int x1), none, none] [] (n, σ, τ, θ) := by
  refine SW.iconst (v := (-1 : Int32)) dX10_seekFits_0 (by decide) ?_
  refine SW.istore_n dX10_seekFits_1 (by decide) rfl rfl ?_
  refine SW.aload_n dX10_seekFits_2 rfl ?_
  refine SW.iconst (v := (0 : Int32)) dX10_seekFits_3 (by decide) ?_
  refine SW.putI (f := 30) aw_cl10 kp_120 (by decide) (hW.le (by decide)) (by decide) ww_1272 (Or.inl rfl) dX10_seekFits_4 rfl rfl rfl ?_
  refine SW.iconst (v := (0 : Int32)) dX10_seekFits_7 (by decide) ?_
  refine SW.istore_n dX10_seekFits_8 (by decide) rfl rfl ?_
  exact vc
set_option maxHeartbeats 4000000 in
set_option maxRecDepth 20000 in
theorem sgX10_seekFits_9 {G : GG} {k : Nat} {q : Int32 → Nat → SG → TU → TH → Prop} {n : Nat} {σ : SG} {τ : TU} {θ : TH}  (x1 : Int32) (x2 : Int32) (x3 : Int32) (hk : 6 ≤ k)  (hW : aw_WT n θ) (vc : SMi G 1 mX10_allSets 0 0 [.ref 120] n σ τ θ (fun a1 n1 σ1 τ1 θ1 => aw_WT n1 θ1 ∧ (((a1 ≤ x3) → (q x2 n1 σ1 τ1 θ1)) ∧ ((¬ a1 ≤ x3) → (SMl G 5 mX10_weightOf 0 0 [.ref 120, .int x3] n1 σ1 τ1 θ1 (fun a2 n2 σ2 τ2 θ2 => aw_WT n2 θ2 ∧ (((¬ (lg_cmp a2 (0 : Int64)) = 0) → (((¬ (σ2 120 30) = x1) → (SW G k mX10_seekFits (aw_qi q) 0 0 9 [some (.ref 120), some (.int x1), some (.int x2), some (.int (x3 + (1 : Int32)))] [] (n2, (aw_u σ2 120 30 ((σ2 120 30) + (1 : Int32))), τ2, θ2))) ∧ (((σ2 120 30) = x1) → (SW G k mX10_seekFits (aw_qi q) 0 0 9 [some (.ref 120), some (.int x1), some (.int x3), some (.int (x3 + (1 : Int32)))] [] (n2, (aw_u σ2 120 30 ((σ2 120 30) + (1 : Int32))), τ2, θ2))))) ∧ (((lg_cmp a2 (0 : Int64)) = 0) → (SW G k mX10_seekFits (aw_qi q) 0 0 9 [some (.ref 120), some (.int x1), some (.int x2), some (.int (x3 + (1 : Int32)))] [] (n2, σ2, τ2, θ2)))))))))) : SW G k mX10_seekFits (aw_qi q) 0 0 9 [some (.ref 120), some (.int x1), some (.int x2), some (.int x3)] [] (n, σ, τ, θ) := by
  refine SW.iload_n dX10_seekFits_9 rfl ?_
  refine SW.aload_n dX10_seekFits_10 rfl ?_
  refine SW.cvi0 kV_X10_337 (by omega) aw_cl10 kp_120 (by decide) (hW.le (by decide)) rfl (Nat.le_of_ble_eq_true rfl) dX10_seekFits_11 (SMi.mono vc ?_)
  intro a1 n1 σ1 τ1 θ1 vc
  obtain ⟨hW, vc⟩ := vc
  refine SW.icmp_ge 56 dX10_seekFits_14 (by decide) (fun hbr => ?_) (fun hbr => ?_)
  · replace vc := vc.1 hbr
    refine SW.iload_n dX10_seekFits_56 rfl ?_
    exact SW.iret dX10_seekFits_57 rfl rfl ⟨_, rfl, vc⟩
  · replace vc := vc.2 hbr
    refine SW.aload_n dX10_seekFits_17 rfl ?_
    refine SW.iload_n dX10_seekFits_18 rfl ?_
    refine SW.cvl1 kV_X10_340 (by omega) aw_cl10 kp_120 (by decide) (hW.le (by decide)) rfl (Nat.le_of_ble_eq_true rfl) dX10_seekFits_19 (SMl.mono vc ?_)
    intro a2 n2 σ2 τ2 θ2 vc
    obtain ⟨hW, vc⟩ := vc
    refine SW.lconst (v := (0 : Int64)) dX10_seekFits_22 (by decide) ?_
    refine SW.lcmp dX10_seekFits_23 ?_
    refine SW.if_ne 30 dX10_seekFits_24 (by decide) (fun hbr => ?_) (fun hbr => ?_)
    · replace vc := vc.1 hbr
      refine SW.aload_n dX10_seekFits_30 rfl ?_
      refine SW.getI (f := 30) aw_cl10 kp_120 (by decide) (hW.le (by decide)) (by decide) ww_1272 dX10_seekFits_31 rfl ?_
      refine SW.iload_n dX10_seekFits_34 rfl ?_
      refine SW.icmp_ne 40 dX10_seekFits_35 (by decide) (fun hbr => ?_) (fun hbr => ?_)
      · replace vc := vc.1 hbr
        refine SW.aload_n dX10_seekFits_40 rfl ?_
        refine SW.dup dX10_seekFits_41 rfl ?_
        refine SW.getI (f := 30) aw_cl10 kp_120 (by decide) (hW.le (by decide)) (by decide) ww_1272 dX10_seekFits_42 rfl ?_
        refine SW.iconst (v := (1 : Int32)) dX10_seekFits_45 (by decide) ?_
        refine SW.iadd dX10_seekFits_46 ?_
        refine SW.putI (f := 30) aw_cl10 kp_120 (by decide) (hW.le (by decide)) (by decide) ww_1272 (Or.inl rfl) dX10_seekFits_47 rfl rfl rfl ?_
        refine SW.iinc (v := (x3 + (1 : Int32))) dX10_seekFits_50 rfl rfl (by decide) rfl rfl ?_
        refine SW.goto 9 dX10_seekFits_53 (by decide) ?_
        exact vc
      · replace vc := vc.2 hbr
        refine SW.iload_n dX10_seekFits_38 rfl ?_
        refine SW.istore_n dX10_seekFits_39 (by decide) rfl rfl ?_
        refine SW.aload_n dX10_seekFits_40 rfl ?_
        refine SW.dup dX10_seekFits_41 rfl ?_
        refine SW.getI (f := 30) aw_cl10 kp_120 (by decide) (hW.le (by decide)) (by decide) ww_1272 dX10_seekFits_42 rfl ?_
        refine SW.iconst (v := (1 : Int32)) dX10_seekFits_45 (by decide) ?_
        refine SW.iadd dX10_seekFits_46 ?_
        refine SW.putI (f := 30) aw_cl10 kp_120 (by decide) (hW.le (by decide)) (by decide) ww_1272 (Or.inl rfl) dX10_seekFits_47 rfl rfl rfl ?_
        refine SW.iinc (v := (x3 + (1 : Int32))) dX10_seekFits_50 rfl rfl (by decide) rfl rfl ?_
        refine SW.goto 9 dX10_seekFits_53 (by decide) ?_
        exact vc
    · replace vc := vc.2 hbr
      refine SW.goto 50 dX10_seekFits_27 (by decide) ?_
      refine SW.iinc (v := (x3 + (1 : Int32))) dX10_seekFits_50 rfl rfl (by decide) rfl rfl ?_
      refine SW.goto 9 dX10_seekFits_53 (by decide) ?_
      exact vc
theorem ctX10_seekFits {G : GG} {q : Int32 → Nat → SG → TU → TH → Prop} {n : Nat} {σ : SG} {τ : TU} {θ : TH} (x1 : Int32) (h : SW G 6 mX10_seekFits (aw_qi q) 0 0 0 [some (.ref 120), some (.int x1), none, none] [] (n, σ, τ, θ)) : SMi G 6 mX10_seekFits 0 0 [.ref 120, .int x1] n σ τ θ q := SM.of _ rfl rfl (Nat.le_of_ble_eq_true rfl) h
set_option maxHeartbeats 4000000 in
set_option maxRecDepth 20000 in
theorem sgX10_seekGuests_0 {G : GG} {k : Nat} {q : Nat → SG → TU → TH → Prop} {n : Nat} {σ : SG} {τ : TU} {θ : TH}   (hk : 13 ≤ k)  (hW : aw_WT n θ) (vc : SMv G 12 mX10_tryGuests 0 0 [.ref 120, .int (0 : Int32), .int (0 : Int32), .int (0 : Int32)] n (aw_u (aw_u σ 120 22 (0 : Int32)) 120 26 (-1 : Int32)) τ θ (fun n1 σ1 τ1 θ1 => aw_WT n1 θ1 ∧ (q n1 σ1 τ1 θ1))) : SW G k mX10_seekGuests (aw_qv q) 0 0 0 [some (.ref 120)] [] (n, σ, τ, θ) := by
  refine SW.aload_n dX10_seekGuests_0 rfl ?_
  refine SW.iconst (v := (0 : Int32)) dX10_seekGuests_1 (by decide) ?_
  refine SW.putI (f := 22) aw_cl10 kp_120 (by decide) (hW.le (by decide)) (by decide) ww_1264 (Or.inl rfl) dX10_seekGuests_2 rfl rfl rfl ?_
  refine SW.aload_n dX10_seekGuests_5 rfl ?_
  refine SW.iconst (v := (-1 : Int32)) dX10_seekGuests_6 (by decide) ?_
  refine SW.putI (f := 26) aw_cl10 kp_120 (by decide) (hW.le (by decide)) (by decide) ww_1268 (Or.inl rfl) dX10_seekGuests_7 rfl rfl rfl ?_
  refine SW.aload_n dX10_seekGuests_10 rfl ?_
  refine SW.iconst (v := (0 : Int32)) dX10_seekGuests_11 (by decide) ?_
  refine SW.iconst (v := (0 : Int32)) dX10_seekGuests_12 (by decide) ?_
  refine SW.iconst (v := (0 : Int32)) dX10_seekGuests_13 (by decide) ?_
  refine SW.cvv3 kV_X10_308 (by omega) aw_cl10 kp_120 (by decide) (hW.le (by decide)) rfl (Nat.le_of_ble_eq_true rfl) dX10_seekGuests_14 (SMv.mono vc ?_)
  intro n1 σ1 τ1 θ1 vc
  obtain ⟨hW, vc⟩ := vc
  exact SW.vret dX10_seekGuests_17 rfl ⟨rfl, vc⟩
theorem ctX10_seekGuests {G : GG} {q : Nat → SG → TU → TH → Prop} {n : Nat} {σ : SG} {τ : TU} {θ : TH}  (h : SW G 13 mX10_seekGuests (aw_qv q) 0 0 0 [some (.ref 120)] [] (n, σ, τ, θ)) : SMv G 13 mX10_seekGuests 0 0 [.ref 120] n σ τ θ q := SM.of _ rfl rfl (Nat.le_of_ble_eq_true rfl) h
set_option maxHeartbeats 4000000 in
set_option maxRecDepth 20000 in
theorem sgX10_seekRests_0 {G : GG} {k : Nat} {q : Int32 → Nat → SG → TU → TH → Prop} {n : Nat} {σ : SG} {τ : TU} {θ : TH}  (x1 : Int32) (x2 : Int32) (x3 : Int32) (hk : 3 ≤ k)  (hW : aw_WT n θ) (vc : SW G k mX10_seekRests (aw_qi q) 0 0 12 [some (.ref 120), some (.int x1), some (.int x2), some (.int x3), some (.int (0 : Int32)), some (.int (0 : Int32)), none, none] [] (n, (aw_u σ 120 31 (-2 : Int32)), τ, θ)) : SW G k mX10_seekRests (aw_qi q) 0 0 0 [some (.ref 120), some (.int x1), some (.int x2), some (.int x3), none, none, none, none] [] (n, σ, τ, θ) := by
  refine SW.iconst (v := (0 : Int32)) dX10_seekRests_0 (by decide) ?_
  refine SW.istore dX10_seekRests_1 (by decide) rfl rfl ?_
  refine SW.aload_n dX10_seekRests_3 rfl ?_
  refine SW.bipush (v := (-2 : Int32)) dX10_seekRests_4 (by decide) ?_
  refine SW.putI (f := 31) aw_cl10 kp_120 (by decide) (hW.le (by decide)) (by decide) ww_1273 (Or.inl rfl) dX10_seekRests_6 rfl rfl rfl ?_
  refine SW.iconst (v := (0 : Int32)) dX10_seekRests_9 (by decide) ?_
  refine SW.istore dX10_seekRests_10 (by decide) rfl rfl ?_
  exact vc
set_option maxHeartbeats 4000000 in
set_option maxRecDepth 20000 in
theorem sgX10_seekRests_12 {G : GG} {k : Nat} {q : Int32 → Nat → SG → TU → TH → Prop} {n : Nat} {σ : SG} {τ : TU} {θ : TH}  (x1 : Int32) (x2 : Int32) (x3 : Int32) (x4 : Int32) (x5 : Int32) (hk : 3 ≤ k)  (hW : aw_WT n θ) (vc : (((4 : Int32) ≤ x5) → (q x4 n σ τ θ)) ∧ ((¬ (4 : Int32) ≤ x5) → (((x5 ≤ (1 : Int32)) → (SW G k mX10_seekRests (aw_qi q) 0 0 29 [some (.ref 120), some (.int x1), some (.int x2), some (.int x3), some (.int x4), some (.int x5), none, none] [.int (0 : Int32)] (n, σ, τ, θ))) ∧ ((¬ x5 ≤ (1 : Int32)) → (SW G k mX10_seekRests (aw_qi q) 0 0 29 [some (.ref 120), some (.int x1), some (.int x2), some (.int x3), some (.int x4), some (.int x5), none, none] [.int (1 : Int32)] (n, σ, τ, θ)))))) : SW G k mX10_seekRests (aw_qi q) 0 0 12 [some (.ref 120), some (.int x1), some (.int x2), some (.int x3), some (.int x4), some (.int x5), none, none] [] (n, σ, τ, θ) := by
  refine SW.iload dX10_seekRests_12 rfl ?_
  refine SW.iconst (v := (4 : Int32)) dX10_seekRests_14 (by decide) ?_
  refine SW.icmp_ge 145 dX10_seekRests_15 (by decide) (fun hbr => ?_) (fun hbr => ?_)
  · replace vc := vc.1 hbr
    refine SW.iload dX10_seekRests_145 rfl ?_
    exact SW.iret dX10_seekRests_147 rfl rfl ⟨_, rfl, vc⟩
  · replace vc := vc.2 hbr
    refine SW.iload dX10_seekRests_18 rfl ?_
    refine SW.iconst (v := (1 : Int32)) dX10_seekRests_20 (by decide) ?_
    refine SW.icmp_le 28 dX10_seekRests_21 (by decide) (fun hbr => ?_) (fun hbr => ?_)
    · replace vc := vc.1 hbr
      refine SW.iconst (v := (0 : Int32)) dX10_seekRests_28 (by decide) ?_
      exact vc
    · replace vc := vc.2 hbr
      refine SW.iconst (v := (1 : Int32)) dX10_seekRests_24 (by decide) ?_
      refine SW.goto 29 dX10_seekRests_25 (by decide) ?_
      exact vc
set_option maxHeartbeats 4000000 in
set_option maxRecDepth 20000 in
theorem sgX10_seekRests_29 {G : GG} {k : Nat} {q : Int32 → Nat → SG → TU → TH → Prop} {n : Nat} {σ : SG} {τ : TU} {θ : TH}  (x1 : Int32) (x2 : Int32) (x3 : Int32) (x4 : Int32) (x5 : Int32) (s0 : Int32) (hk : 3 ≤ k)  (hW : aw_WT n θ) (vc : ((¬ (x5 - x5 / (2 : Int32) * (2 : Int32)) = (1 : Int32)) → (SW G k mX10_seekRests (aw_qi q) 0 0 44 [some (.ref 120), some (.int x1), some (.int x2), some (.int x3), some (.int x4), some (.int x5), some (.int s0), none] [.int (0 : Int32)] (n, σ, τ, θ))) ∧ (((x5 - x5 / (2 : Int32) * (2 : Int32)) = (1 : Int32)) → (SW G k mX10_seekRests (aw_qi q) 0 0 44 [some (.ref 120), some (.int x1), some (.int x2), some (.int x3), some (.int x4), some (.int x5), some (.int s0), none] [.int (1 : Int32)] (n, σ, τ, θ)))) : SW G k mX10_seekRests (aw_qi q) 0 0 29 [some (.ref 120), some (.int x1), some (.int x2), some (.int x3), some (.int x4), some (.int x5), none, none] [.int s0] (n, σ, τ, θ) := by
  refine SW.istore dX10_seekRests_29 (by decide) rfl rfl ?_
  refine SW.iload dX10_seekRests_31 rfl ?_
  refine SW.iconst (v := (2 : Int32)) dX10_seekRests_33 (by decide) ?_
  refine SW.irem dX10_seekRests_34 (by decide) ?_
  refine SW.iconst (v := (1 : Int32)) dX10_seekRests_35 (by decide) ?_
  refine SW.icmp_ne 43 dX10_seekRests_36 (by decide) (fun hbr => ?_) (fun hbr => ?_)
  · replace vc := vc.1 hbr
    refine SW.iconst (v := (0 : Int32)) dX10_seekRests_43 (by decide) ?_
    exact vc
  · replace vc := vc.2 hbr
    refine SW.iconst (v := (1 : Int32)) dX10_seekRests_39 (by decide) ?_
    refine SW.goto 44 dX10_seekRests_40 (by decide) ?_
    exact vc
set_option maxHeartbeats 4000000 in
set_option maxRecDepth 20000 in
theorem sgX10_seekRests_44 {G : GG} {k : Nat} {q : Int32 → Nat → SG → TU → TH → Prop} {n : Nat} {σ : SG} {τ : TU} {θ : TH}  (x1 : Int32) (x2 : Int32) (x3 : Int32) (x4 : Int32) (x5 : Int32) (x6 : Int32) (s0 : Int32) (hk : 3 ≤ k)  (hW : aw_WT n θ) (vc : ((¬ x6 = 0) → (SW G k mX10_seekRests (aw_qi q) 0 0 60 [some (.ref 120), some (.int x1), some (.int x2), some (.int x3), some (.int x4), some (.int x5), some (.int x6), some (.int s0)] [.int (0 : Int32), .int x3, .int x2, .int x1, .ref 120] (n, σ, τ, θ))) ∧ ((x6 = 0) → (SW G k mX10_seekRests (aw_qi q) 0 0 60 [some (.ref 120), some (.int x1), some (.int x2), some (.int x3), some (.int x4), some (.int x5), some (.int x6), some (.int s0)] [.int (1 : Int32), .int x3, .int x2, .int x1, .ref 120] (n, σ, τ, θ)))) : SW G k mX10_seekRests (aw_qi q) 0 0 44 [some (.ref 120), some (.int x1), some (.int x2), some (.int x3), some (.int x4), some (.int x5), some (.int x6), none] [.int s0] (n, σ, τ, θ) := by
  refine SW.istore dX10_seekRests_44 (by decide) rfl rfl ?_
  refine SW.aload_n dX10_seekRests_46 rfl ?_
  refine SW.iload_n dX10_seekRests_47 rfl ?_
  refine SW.iload_n dX10_seekRests_48 rfl ?_
  refine SW.iload_n dX10_seekRests_49 rfl ?_
  refine SW.iload dX10_seekRests_50 rfl ?_
  refine SW.if_ne 59 dX10_seekRests_52 (by decide) (fun hbr => ?_) (fun hbr => ?_)
  · replace vc := vc.1 hbr
    refine SW.iconst (v := (0 : Int32)) dX10_seekRests_59 (by decide) ?_
    exact vc
  · replace vc := vc.2 hbr
    refine SW.iconst (v := (1 : Int32)) dX10_seekRests_55 (by decide) ?_
    refine SW.goto 60 dX10_seekRests_56 (by decide) ?_
    exact vc
set_option maxHeartbeats 4000000 in
set_option maxRecDepth 20000 in
theorem sgX10_seekRests_60 {G : GG} {k : Nat} {q : Int32 → Nat → SG → TU → TH → Prop} {n : Nat} {σ : SG} {τ : TU} {θ : TH}  (x1 : Int32) (x2 : Int32) (x3 : Int32) (x4 : Int32) (x5 : Int32) (x6 : Int32) (x7 : Int32) (s0 : Int32) (s1 : Int32) (s2 : Int32) (s3 : Int32) (hk : 3 ≤ k)  (hW : aw_WT n θ) (vc : SMi G 2 mX10_hasBy 0 0 [.ref 120, .int s3, .int s2, .int s1, .int s0, .int x7] n σ τ θ (fun a1 n1 σ1 τ1 θ1 => aw_WT n1 θ1 ∧ (SMi G 2 mX10_hasBy 0 0 [.ref 120, .int x1, .int x2, .int x3, .int x6, .int x7] n1 σ1 τ1 θ1 (fun a2 n2 σ2 τ2 θ2 => aw_WT n2 θ2 ∧ (((a2 < a1) → (SW G k mX10_seekRests (aw_qi q) 0 0 12 [some (.ref 120), some (.int x1), some (.int x2), some (.int x3), some (.int x4), some (.int (x5 + (1 : Int32))), none, none] [] (n2, σ2, τ2, θ2))) ∧ ((¬ a2 < a1) → (((¬ x7 = 0) → (SW G k mX10_seekRests (aw_qi q) 0 0 93 [some (.ref 120), some (.int x1), some (.int x2), some (.int x3), some (.int x4), some (.int x5), some (.int x6), some (.int x7)] [.int (0 : Int32), .int x3, .int x1, .int x2, .ref 120] (n2, σ2, τ2, θ2))) ∧ ((x7 = 0) → (SW G k mX10_seekRests (aw_qi q) 0 0 93 [some (.ref 120), some (.int x1), some (.int x2), some (.int x3), some (.int x4), some (.int x5), some (.int x6), some (.int x7)] [.int (1 : Int32), .int x3, .int x1, .int x2, .ref 120] (n2, σ2, τ2, θ2)))))))))) : SW G k mX10_seekRests (aw_qi q) 0 0 60 [some (.ref 120), some (.int x1), some (.int x2), some (.int x3), some (.int x4), some (.int x5), some (.int x6), some (.int x7)] [.int s0, .int s1, .int s2, .int s3, .ref 120] (n, σ, τ, θ) := by
  refine SW.iload dX10_seekRests_60 rfl ?_
  refine SW.cvi5 kV_X10_379 (by omega) aw_cl10 kp_120 (by decide) (hW.le (by decide)) rfl (Nat.le_of_ble_eq_true rfl) dX10_seekRests_62 (SMi.mono vc ?_)
  intro a1 n1 σ1 τ1 θ1 vc
  obtain ⟨hW, vc⟩ := vc
  refine SW.aload_n dX10_seekRests_65 rfl ?_
  refine SW.iload_n dX10_seekRests_66 rfl ?_
  refine SW.iload_n dX10_seekRests_67 rfl ?_
  refine SW.iload_n dX10_seekRests_68 rfl ?_
  refine SW.iload dX10_seekRests_69 rfl ?_
  refine SW.iload dX10_seekRests_71 rfl ?_
  refine SW.cvi5 kV_X10_379 (by omega) aw_cl10 kp_120 (by decide) (hW.le (by decide)) rfl (Nat.le_of_ble_eq_true rfl) dX10_seekRests_73 (SMi.mono vc ?_)
  intro a2 n2 σ2 τ2 θ2 vc
  obtain ⟨hW, vc⟩ := vc
  refine SW.icmp_gt 139 dX10_seekRests_76 (by decide) (fun hbr => ?_) (fun hbr => ?_)
  · replace vc := vc.1 hbr
    refine SW.iinc (v := (x5 + (1 : Int32))) dX10_seekRests_139 rfl rfl (by decide) rfl rfl ?_
    refine SW.goto 12 dX10_seekRests_142 (by decide) ?_
    refine SW.msk [true, true, true, true, true, true, false, false] rfl ?_
    exact vc
  · replace vc := vc.2 hbr
    refine SW.aload_n dX10_seekRests_79 rfl ?_
    refine SW.iload_n dX10_seekRests_80 rfl ?_
    refine SW.iload_n dX10_seekRests_81 rfl ?_
    refine SW.iload_n dX10_seekRests_82 rfl ?_
    refine SW.iload dX10_seekRests_83 rfl ?_
    refine SW.if_ne 92 dX10_seekRests_85 (by decide) (fun hbr => ?_) (fun hbr => ?_)
    · replace vc := vc.1 hbr
      refine SW.iconst (v := (0 : Int32)) dX10_seekRests_92 (by decide) ?_
      exact vc
    · replace vc := vc.2 hbr
      refine SW.iconst (v := (1 : Int32)) dX10_seekRests_88 (by decide) ?_
      refine SW.goto 93 dX10_seekRests_89 (by decide) ?_
      exact vc
set_option maxHeartbeats 4000000 in
set_option maxRecDepth 20000 in
theorem sgX10_seekRests_93 {G : GG} {k : Nat} {q : Int32 → Nat → SG → TU → TH → Prop} {n : Nat} {σ : SG} {τ : TU} {θ : TH}  (x1 : Int32) (x2 : Int32) (x3 : Int32) (x4 : Int32) (x5 : Int32) (x6 : Int32) (x7 : Int32) (s0 : Int32) (s1 : Int32) (s2 : Int32) (s3 : Int32) (hk : 3 ≤ k)  (hW : aw_WT n θ) (vc : SMi G 2 mX10_hasBy 0 0 [.ref 120, .int s3, .int s2, .int s1, .int s0, .int x6] n σ τ θ (fun a1 n1 σ1 τ1 θ1 => aw_WT n1 θ1 ∧ (SMi G 2 mX10_hasBy 0 0 [.ref 120, .int x2, .int x1, .int x3, .int x7, .int x6] n1 σ1 τ1 θ1 (fun a2 n2 σ2 τ2 θ2 => aw_WT n2 θ2 ∧ (((a1 ≤ a2) → (((¬ x4 = 0) → (SW G k mX10_seekRests (aw_qi q) 0 0 12 [some (.ref 120), some (.int x1), some (.int x2), some (.int x3), some (.int (x4 + (1 : Int32))), some (.int (x5 + (1 : Int32))), none, none] [] (n2, σ2, τ2, θ2))) ∧ ((x4 = 0) → (SW G k mX10_seekRests (aw_qi q) 0 0 12 [some (.ref 120), some (.int x1), some (.int x2), some (.int x3), some (.int (x4 + (1 : Int32))), some (.int (x5 + (1 : Int32))), none, none] [] (n2, (aw_u σ2 120 31 (((10 : Int32) * (x5 / (2 : Int32))) + (x5 - x5 / (2 : Int32) * (2 : Int32)))), τ2, θ2))))) ∧ ((¬ a1 ≤ a2) → (SW G k mX10_seekRests (aw_qi q) 0 0 12 [some (.ref 120), some (.int x1), some (.int x2), some (.int x3), some (.int x4), some (.int (x5 + (1 : Int32))), none, none] [] (n2, σ2, τ2, θ2)))))))) : SW G k mX10_seekRests (aw_qi q) 0 0 93 [some (.ref 120), some (.int x1), some (.int x2), some (.int x3), some (.int x4), some (.int x5), some (.int x6), some (.int x7)] [.int s0, .int s1, .int s2, .int s3, .ref 120] (n, σ, τ, θ) := by
  refine SW.iload dX10_seekRests_93 rfl ?_
  refine SW.cvi5 kV_X10_379 (by omega) aw_cl10 kp_120 (by decide) (hW.le (by decide)) rfl (Nat.le_of_ble_eq_true rfl) dX10_seekRests_95 (SMi.mono vc ?_)
  intro a1 n1 σ1 τ1 θ1 vc
  obtain ⟨hW, vc⟩ := vc
  refine SW.aload_n dX10_seekRests_98 rfl ?_
  refine SW.iload_n dX10_seekRests_99 rfl ?_
  refine SW.iload_n dX10_seekRests_100 rfl ?_
  refine SW.iload_n dX10_seekRests_101 rfl ?_
  refine SW.iload dX10_seekRests_102 rfl ?_
  refine SW.iload dX10_seekRests_104 rfl ?_
  refine SW.cvi5 kV_X10_379 (by omega) aw_cl10 kp_120 (by decide) (hW.le (by decide)) rfl (Nat.le_of_ble_eq_true rfl) dX10_seekRests_106 (SMi.mono vc ?_)
  intro a2 n2 σ2 τ2 θ2 vc
  obtain ⟨hW, vc⟩ := vc
  refine SW.icmp_le 115 dX10_seekRests_109 (by decide) (fun hbr => ?_) (fun hbr => ?_)
  · replace vc := vc.1 hbr
    refine SW.iload dX10_seekRests_115 rfl ?_
    refine SW.if_ne 136 dX10_seekRests_117 (by decide) (fun hbr => ?_) (fun hbr => ?_)
    · replace vc := vc.1 hbr
      refine SW.iinc (v := (x4 + (1 : Int32))) dX10_seekRests_136 rfl rfl (by decide) rfl rfl ?_
      refine SW.iinc (v := (x5 + (1 : Int32))) dX10_seekRests_139 rfl rfl (by decide) rfl rfl ?_
      refine SW.goto 12 dX10_seekRests_142 (by decide) ?_
      refine SW.msk [true, true, true, true, true, true, false, false] rfl ?_
      exact vc
    · replace vc := vc.2 hbr
      refine SW.aload_n dX10_seekRests_120 rfl ?_
      refine SW.bipush (v := (10 : Int32)) dX10_seekRests_121 (by decide) ?_
      refine SW.iload dX10_seekRests_123 rfl ?_
      refine SW.iconst (v := (2 : Int32)) dX10_seekRests_125 (by decide) ?_
      refine SW.idiv dX10_seekRests_126 (by decide) ?_
      refine SW.imul dX10_seekRests_127 ?_
      refine SW.iload dX10_seekRests_128 rfl ?_
      refine SW.iconst (v := (2 : Int32)) dX10_seekRests_130 (by decide) ?_
      refine SW.irem dX10_seekRests_131 (by decide) ?_
      refine SW.iadd dX10_seekRests_132 ?_
      refine SW.putI (f := 31) aw_cl10 kp_120 (by decide) (hW.le (by decide)) (by decide) ww_1273 (Or.inl rfl) dX10_seekRests_133 rfl rfl rfl ?_
      refine SW.iinc (v := (x4 + (1 : Int32))) dX10_seekRests_136 rfl rfl (by decide) rfl rfl ?_
      refine SW.iinc (v := (x5 + (1 : Int32))) dX10_seekRests_139 rfl rfl (by decide) rfl rfl ?_
      refine SW.goto 12 dX10_seekRests_142 (by decide) ?_
      refine SW.msk [true, true, true, true, true, true, false, false] rfl ?_
      exact vc
  · replace vc := vc.2 hbr
    refine SW.goto 139 dX10_seekRests_112 (by decide) ?_
    refine SW.iinc (v := (x5 + (1 : Int32))) dX10_seekRests_139 rfl rfl (by decide) rfl rfl ?_
    refine SW.goto 12 dX10_seekRests_142 (by decide) ?_
    refine SW.msk [true, true, true, true, true, true, false, false] rfl ?_
    exact vc
theorem ctX10_seekRests {G : GG} {q : Int32 → Nat → SG → TU → TH → Prop} {n : Nat} {σ : SG} {τ : TU} {θ : TH} (x1 : Int32) (x2 : Int32) (x3 : Int32) (h : SW G 3 mX10_seekRests (aw_qi q) 0 0 0 [some (.ref 120), some (.int x1), some (.int x2), some (.int x3), none, none, none, none] [] (n, σ, τ, θ)) : SMi G 3 mX10_seekRests 0 0 [.ref 120, .int x1, .int x2, .int x3] n σ τ θ q := SM.of _ rfl rfl (Nat.le_of_ble_eq_true rfl) h
set_option maxHeartbeats 4000000 in
set_option maxRecDepth 20000 in
theorem sgX10_seekRing_0 {G : GG} {k : Nat} {q : Int32 → Nat → SG → TU → TH → Prop} {n : Nat} {σ : SG} {τ : TU} {θ : TH}  (x1 : Int32) (hk : 12 ≤ k)  (hW : aw_WT n θ) (vc : SMv G 11 mX10_tryRing 0 0 [.ref 120, .int (1 : Int32), .int ((1 : Int32) <<< (x1 &&& 31))] n (aw_u (aw_u σ 120 29 (1000000 : Int32)) 131 0 x1) τ θ (fun n1 σ1 τ1 θ1 => aw_WT n1 θ1 ∧ ((((1000000 : Int32) ≤ (σ1 120 29)) → (q (0 : Int32) n1 σ1 τ1 θ1)) ∧ ((¬ (1000000 : Int32) ≤ (σ1 120 29)) → (q (1 : Int32) n1 σ1 τ1 θ1))))) : SW G k mX10_seekRing (aw_qi q) 0 0 0 [some (.ref 120), some (.int x1)] [] (n, σ, τ, θ) := by
  refine SW.aload_n dX10_seekRing_0 rfl ?_
  refine SW.ldcw (v := (1000000 : Int32)) ww_1657 dX10_seekRing_1 ?_
  refine SW.putI (f := 29) aw_cl10 kp_120 (by decide) (hW.le (by decide)) (by decide) ww_1271 (Or.inl rfl) dX10_seekRing_4 rfl rfl rfl ?_
  refine SW.aload_n dX10_seekRing_7 rfl ?_
  refine SW.getS (f := 27) (r := 131) aw_cl10 kp_120 (by decide) (hW.le (by decide)) (by decide) ww_1269 dX10_seekRing_8 rfl hW.t120_27 ?_
  refine SW.iconst (v := (0 : Int32)) dX10_seekRing_11 (by decide) ?_
  refine SW.iload_n dX10_seekRing_12 rfl ?_
  refine SW.iast kp_131 (by decide) (hW.le (by decide)) (vp_in_nI (n := 0) (by decide) (by decide)) dX10_seekRing_13 ?_
  refine SW.aload_n dX10_seekRing_14 rfl ?_
  refine SW.iconst (v := (1 : Int32)) dX10_seekRing_15 (by decide) ?_
  refine SW.iconst (v := (1 : Int32)) dX10_seekRing_16 (by decide) ?_
  refine SW.iload_n dX10_seekRing_17 rfl ?_
  refine SW.ishl dX10_seekRing_18 ?_
  refine SW.cvv2 kV_X10_321 (by omega) aw_cl10 kp_120 (by decide) (hW.le (by decide)) rfl (Nat.le_of_ble_eq_true rfl) dX10_seekRing_19 (SMv.mono vc ?_)
  intro n1 σ1 τ1 θ1 vc
  obtain ⟨hW, vc⟩ := vc
  refine SW.aload_n dX10_seekRing_22 rfl ?_
  refine SW.getI (f := 29) aw_cl10 kp_120 (by decide) (hW.le (by decide)) (by decide) ww_1271 dX10_seekRing_23 rfl ?_
  refine SW.ldcw (v := (1000000 : Int32)) ww_1657 dX10_seekRing_26 ?_
  refine SW.icmp_ge 36 dX10_seekRing_29 (by decide) (fun hbr => ?_) (fun hbr => ?_)
  · replace vc := vc.1 hbr
    refine SW.iconst (v := (0 : Int32)) dX10_seekRing_36 (by decide) ?_
    exact SW.iret dX10_seekRing_37 rfl rfl ⟨_, rfl, vc⟩
  · replace vc := vc.2 hbr
    refine SW.iconst (v := (1 : Int32)) dX10_seekRing_32 (by decide) ?_
    refine SW.goto 37 dX10_seekRing_33 (by decide) ?_
    exact SW.iret dX10_seekRing_37 rfl rfl ⟨_, rfl, vc⟩
theorem ctX10_seekRing {G : GG} {q : Int32 → Nat → SG → TU → TH → Prop} {n : Nat} {σ : SG} {τ : TU} {θ : TH} (x1 : Int32) (h : SW G 12 mX10_seekRing (aw_qi q) 0 0 0 [some (.ref 120), some (.int x1)] [] (n, σ, τ, θ)) : SMi G 12 mX10_seekRing 0 0 [.ref 120, .int x1] n σ τ θ q := SM.of _ rfl rfl (Nat.le_of_ble_eq_true rfl) h
set_option maxHeartbeats 4000000 in
set_option maxRecDepth 20000 in
theorem sgX10_shamed_0 {G : GG} {k : Nat} {q : Int32 → Nat → SG → TU → TH → Prop} {n : Nat} {σ : SG} {τ : TU} {θ : TH}   (hk : 7 ≤ k)  (hW : aw_WT n θ) (vc : SMv G 1 mX10_good 0 0 [.ref 120] n σ τ θ (fun n1 σ1 τ1 θ1 => aw_WT n1 θ1 ∧ (((¬ (σ1 120 14) = 0) → (SW G k mX10_shamed (aw_qi q) 0 0 21 [some (.ref 120), some (.int (0 : Int32)), some (.int (0 : Int32))] [] (n1, σ1, τ1, θ1))) ∧ (((σ1 120 14) = 0) → (SMi G 1 mX10_no 0 0 [.ref 120, .int (1 : Int32)] n1 σ1 τ1 θ1 (fun a2 n2 σ2 τ2 θ2 => aw_WT n2 θ2 ∧ (q a2 n2 σ2 τ2 θ2))))))) : SW G k mX10_shamed (aw_qi q) 0 0 0 [some (.ref 120), none, none] [] (n, σ, τ, θ) := by
  refine SW.aload_n dX10_shamed_0 rfl ?_
  refine SW.cvv0 kV_X10_154 (by omega) aw_cl10 kp_120 (by decide) (hW.le (by decide)) rfl (Nat.le_of_ble_eq_true rfl) dX10_shamed_1 (SMv.mono vc ?_)
  intro n1 σ1 τ1 θ1 vc
  obtain ⟨hW, vc⟩ := vc
  refine SW.aload_n dX10_shamed_4 rfl ?_
  refine SW.getI (f := 14) aw_cl10 kp_120 (by decide) (hW.le (by decide)) (by decide) ww_1256 dX10_shamed_5 rfl ?_
  refine SW.if_ne 17 dX10_shamed_8 (by decide) (fun hbr => ?_) (fun hbr => ?_)
  · replace vc := vc.1 hbr
    refine SW.iconst (v := (0 : Int32)) dX10_shamed_17 (by decide) ?_
    refine SW.istore_n dX10_shamed_18 (by decide) rfl rfl ?_
    refine SW.iconst (v := (0 : Int32)) dX10_shamed_19 (by decide) ?_
    refine SW.istore_n dX10_shamed_20 (by decide) rfl rfl ?_
    exact vc
  · replace vc := vc.2 hbr
    refine SW.aload_n dX10_shamed_11 rfl ?_
    refine SW.iconst (v := (1 : Int32)) dX10_shamed_12 (by decide) ?_
    refine SW.cvi1 kV_X10_157 (by omega) aw_cl10 kp_120 (by decide) (hW.le (by decide)) rfl (Nat.le_of_ble_eq_true rfl) dX10_shamed_13 (SMi.mono vc ?_)
    intro a2 n2 σ2 τ2 θ2 vc
    obtain ⟨hW, vc⟩ := vc
    exact SW.iret dX10_shamed_16 rfl rfl ⟨_, rfl, vc⟩
set_option maxHeartbeats 4000000 in
set_option maxRecDepth 20000 in
theorem sgX10_shamed_21 {G : GG} {k : Nat} {q : Int32 → Nat → SG → TU → TH → Prop} {n : Nat} {σ : SG} {τ : TU} {θ : TH}  (x1 : Int32) (x2 : Int32) (hk : 7 ≤ k)  (hW : aw_WT n θ) (vc : (((σ 123 4) ≤ x2) → (q x1 n σ τ θ)) ∧ ((¬ (σ 123 4) ≤ x2) → (vp_in ((73 : Int32) + x2) 167 ∧ ((((σ 123 ((73 : Int32) + x2).toNatClampNeg) ≤ 0) → (SW G k mX10_shamed (aw_qi q) 0 0 21 [some (.ref 120), some (.int (x1 ||| (0 : Int32))), some (.int (x2 + (1 : Int32)))] [] (n, σ, τ, θ))) ∧ ((¬ (σ 123 ((73 : Int32) + x2).toNatClampNeg) ≤ 0) → (vp_in ((73 : Int32) + x2) 167 ∧ (SMi G 6 mX10_payOf 0 0 [.ref 120, .int x2, .int ((σ 123 ((73 : Int32) + x2).toNatClampNeg) - (1 : Int32))] n σ τ θ (fun a1 n1 σ1 τ1 θ1 => aw_WT n1 θ1 ∧ (((0 ≤ a1) → (SW G k mX10_shamed (aw_qi q) 0 0 21 [some (.ref 120), some (.int (x1 ||| (0 : Int32))), some (.int (x2 + (1 : Int32)))] [] (n1, σ1, τ1, θ1))) ∧ ((¬ 0 ≤ a1) → (SW G k mX10_shamed (aw_qi q) 0 0 21 [some (.ref 120), some (.int (x1 ||| ((1 : Int32) <<< (x2 &&& 31)))), some (.int (x2 + (1 : Int32)))] [] (n1, σ1, τ1, θ1)))))))))))) : SW G k mX10_shamed (aw_qi q) 0 0 21 [some (.ref 120), some (.int x1), some (.int x2)] [] (n, σ, τ, θ) := by
  refine SW.iload_n dX10_shamed_21 rfl ?_
  refine SW.aload_n dX10_shamed_22 rfl ?_
  refine SW.getS (f := 15) (r := 123) aw_cl10 kp_120 (by decide) (hW.le (by decide)) (by decide) ww_1257 dX10_shamed_23 rfl hW.t120_15 ?_
  refine SW.iconst (v := (4 : Int32)) dX10_shamed_26 (by decide) ?_
  refine SW.iald kp_123 (by decide) (hW.le (by decide)) (vp_in_nI (n := 4) (by decide) (by decide)) dX10_shamed_27 ?_
  refine SW.icmp_ge 78 dX10_shamed_28 (by decide) (fun hbr => ?_) (fun hbr => ?_)
  · replace vc := vc.1 hbr
    refine SW.iload_n dX10_shamed_78 rfl ?_
    exact SW.iret dX10_shamed_79 rfl rfl ⟨_, rfl, vc⟩
  · replace vc := vc.2 hbr
    refine SW.iload_n dX10_shamed_31 rfl ?_
    refine SW.aload_n dX10_shamed_32 rfl ?_
    refine SW.getS (f := 15) (r := 123) aw_cl10 kp_120 (by decide) (hW.le (by decide)) (by decide) ww_1257 dX10_shamed_33 rfl hW.t120_15 ?_
    refine SW.bipush (v := (73 : Int32)) dX10_shamed_36 (by decide) ?_
    refine SW.iload_n dX10_shamed_38 rfl ?_
    refine SW.iadd dX10_shamed_39 ?_
    refine SW.iald kp_123 (by decide) (hW.le (by decide)) vc.1 dX10_shamed_40 ?_
    replace vc := vc.2
    refine SW.if_le 69 dX10_shamed_41 (by decide) (fun hbr => ?_) (fun hbr => ?_)
    · replace vc := vc.1 hbr
      refine SW.iconst (v := (0 : Int32)) dX10_shamed_69 (by decide) ?_
      refine SW.ior dX10_shamed_70 ?_
      refine SW.istore_n dX10_shamed_71 (by decide) rfl rfl ?_
      refine SW.iinc (v := (x2 + (1 : Int32))) dX10_shamed_72 rfl rfl (by decide) rfl rfl ?_
      refine SW.goto 21 dX10_shamed_75 (by decide) ?_
      exact vc
    · replace vc := vc.2 hbr
      refine SW.aload_n dX10_shamed_44 rfl ?_
      refine SW.iload_n dX10_shamed_45 rfl ?_
      refine SW.aload_n dX10_shamed_46 rfl ?_
      refine SW.getS (f := 15) (r := 123) aw_cl10 kp_120 (by decide) (hW.le (by decide)) (by decide) ww_1257 dX10_shamed_47 rfl hW.t120_15 ?_
      refine SW.bipush (v := (73 : Int32)) dX10_shamed_50 (by decide) ?_
      refine SW.iload_n dX10_shamed_52 rfl ?_
      refine SW.iadd dX10_shamed_53 ?_
      refine SW.iald kp_123 (by decide) (hW.le (by decide)) vc.1 dX10_shamed_54 ?_
      replace vc := vc.2
      refine SW.iconst (v := (1 : Int32)) dX10_shamed_55 (by decide) ?_
      refine SW.isub dX10_shamed_56 ?_
      refine SW.cvi2 kV_X10_302 (by omega) aw_cl10 kp_120 (by decide) (hW.le (by decide)) rfl (Nat.le_of_ble_eq_true rfl) dX10_shamed_57 (SMi.mono vc ?_)
      intro a1 n1 σ1 τ1 θ1 vc
      obtain ⟨hW, vc⟩ := vc
      refine SW.if_ge 69 dX10_shamed_60 (by decide) (fun hbr => ?_) (fun hbr => ?_)
      · replace vc := vc.1 hbr
        refine SW.iconst (v := (0 : Int32)) dX10_shamed_69 (by decide) ?_
        refine SW.ior dX10_shamed_70 ?_
        refine SW.istore_n dX10_shamed_71 (by decide) rfl rfl ?_
        refine SW.iinc (v := (x2 + (1 : Int32))) dX10_shamed_72 rfl rfl (by decide) rfl rfl ?_
        refine SW.goto 21 dX10_shamed_75 (by decide) ?_
        exact vc
      · replace vc := vc.2 hbr
        refine SW.iconst (v := (1 : Int32)) dX10_shamed_63 (by decide) ?_
        refine SW.iload_n dX10_shamed_64 rfl ?_
        refine SW.ishl dX10_shamed_65 ?_
        refine SW.goto 70 dX10_shamed_66 (by decide) ?_
        refine SW.ior dX10_shamed_70 ?_
        refine SW.istore_n dX10_shamed_71 (by decide) rfl rfl ?_
        refine SW.iinc (v := (x2 + (1 : Int32))) dX10_shamed_72 rfl rfl (by decide) rfl rfl ?_
        refine SW.goto 21 dX10_shamed_75 (by decide) ?_
        exact vc
theorem ctX10_shamed {G : GG} {q : Int32 → Nat → SG → TU → TH → Prop} {n : Nat} {σ : SG} {τ : TU} {θ : TH}  (h : SW G 7 mX10_shamed (aw_qi q) 0 0 0 [some (.ref 120), none, none] [] (n, σ, τ, θ)) : SMi G 7 mX10_shamed 0 0 [.ref 120] n σ τ θ q := SM.of _ rfl rfl (Nat.le_of_ble_eq_true rfl) h
set_option maxHeartbeats 4000000 in
set_option maxRecDepth 20000 in
theorem sgX10_shed_0 {G : GG} {k : Nat} {q : Int32 → Nat → SG → TU → TH → Prop} {n : Nat} {σ : SG} {τ : TU} {θ : TH}  (x1 : Int32) (hk : 4 ≤ k)  (hW : aw_WT n θ) (vc : SMv G 1 mX10_good 0 0 [.ref 120] n σ τ θ (fun n1 σ1 τ1 θ1 => aw_WT n1 θ1 ∧ (SMi G 2 mX10_isMan 0 0 [.ref 120, .int x1] n1 σ1 τ1 θ1 (fun a2 n2 σ2 τ2 θ2 => aw_WT n2 θ2 ∧ (((¬ a2 = 0) → (SMi G 3 mX10_leftFrom 0 0 [.ref 120, .int x1, .int (-1 : Int32)] n2 σ2 τ2 θ2 (fun a3 n3 σ3 τ3 θ3 => aw_WT n3 θ3 ∧ (((¬ a3 = 0) → (SMv G 2 mX10_note 0 0 [.ref 120] n3 σ3 τ3 θ3 (fun n4 σ4 τ4 θ4 => aw_WT n4 θ4 ∧ (SW G k mX10_shed (aw_qi q) 0 0 41 [some (.ref 120), some (.int x1), some (.int a3), some (.int (0 : Int32))] [] (n4, σ4, τ4, θ4))))) ∧ ((a3 = 0) → (SMi G 1 mX10_no 0 0 [.ref 120, .int (5 : Int32)] n3 σ3 τ3 θ3 (fun a5 n5 σ5 τ5 θ5 => aw_WT n5 θ5 ∧ (q a5 n5 σ5 τ5 θ5)))))))) ∧ ((a2 = 0) → (SMi G 1 mX10_no 0 0 [.ref 120, .int (1 : Int32)] n2 σ2 τ2 θ2 (fun a6 n6 σ6 τ6 θ6 => aw_WT n6 θ6 ∧ (q a6 n6 σ6 τ6 θ6))))))))) : SW G k mX10_shed (aw_qi q) 0 0 0 [some (.ref 120), some (.int x1), none, none] [] (n, σ, τ, θ) := by
  refine SW.aload_n dX10_shed_0 rfl ?_
  refine SW.cvv0 kV_X10_154 (by omega) aw_cl10 kp_120 (by decide) (hW.le (by decide)) rfl (Nat.le_of_ble_eq_true rfl) dX10_shed_1 (SMv.mono vc ?_)
  intro n1 σ1 τ1 θ1 vc
  obtain ⟨hW, vc⟩ := vc
  refine SW.aload_n dX10_shed_4 rfl ?_
  refine SW.iload_n dX10_shed_5 rfl ?_
  refine SW.cvi1 kV_X10_264 (by omega) aw_cl10 kp_120 (by decide) (hW.le (by decide)) rfl (Nat.le_of_ble_eq_true rfl) dX10_shed_6 (SMi.mono vc ?_)
  intro a2 n2 σ2 τ2 θ2 vc
  obtain ⟨hW, vc⟩ := vc
  refine SW.if_ne 18 dX10_shed_9 (by decide) (fun hbr => ?_) (fun hbr => ?_)
  · replace vc := vc.1 hbr
    refine SW.aload_n dX10_shed_18 rfl ?_
    refine SW.iload_n dX10_shed_19 rfl ?_
    refine SW.iconst (v := (-1 : Int32)) dX10_shed_20 (by decide) ?_
    refine SW.cvi2 kV_X10_267 (by omega) aw_cl10 kp_120 (by decide) (hW.le (by decide)) rfl (Nat.le_of_ble_eq_true rfl) dX10_shed_21 (SMi.mono vc ?_)
    intro a3 n3 σ3 τ3 θ3 vc
    obtain ⟨hW, vc⟩ := vc
    refine SW.istore_n dX10_shed_24 (by decide) rfl rfl ?_
    refine SW.iload_n dX10_shed_25 rfl ?_
    refine SW.if_ne 35 dX10_shed_26 (by decide) (fun hbr => ?_) (fun hbr => ?_)
    · replace vc := vc.1 hbr
      refine SW.aload_n dX10_shed_35 rfl ?_
      refine SW.cvv0 kV_X10_406 (by omega) aw_cl10 kp_120 (by decide) (hW.le (by decide)) rfl (Nat.le_of_ble_eq_true rfl) dX10_shed_36 (SMv.mono vc ?_)
      intro n4 σ4 τ4 θ4 vc
      obtain ⟨hW, vc⟩ := vc
      refine SW.iconst (v := (0 : Int32)) dX10_shed_39 (by decide) ?_
      refine SW.istore_n dX10_shed_40 (by decide) rfl rfl ?_
      exact vc
    · replace vc := vc.2 hbr
      refine SW.aload_n dX10_shed_29 rfl ?_
      refine SW.iconst (v := (5 : Int32)) dX10_shed_30 (by decide) ?_
      refine SW.cvi1 kV_X10_157 (by omega) aw_cl10 kp_120 (by decide) (hW.le (by decide)) rfl (Nat.le_of_ble_eq_true rfl) dX10_shed_31 (SMi.mono vc ?_)
      intro a5 n5 σ5 τ5 θ5 vc
      obtain ⟨hW, vc⟩ := vc
      exact SW.iret dX10_shed_34 rfl rfl ⟨_, rfl, vc⟩
  · replace vc := vc.2 hbr
    refine SW.aload_n dX10_shed_12 rfl ?_
    refine SW.iconst (v := (1 : Int32)) dX10_shed_13 (by decide) ?_
    refine SW.cvi1 kV_X10_157 (by omega) aw_cl10 kp_120 (by decide) (hW.le (by decide)) rfl (Nat.le_of_ble_eq_true rfl) dX10_shed_14 (SMi.mono vc ?_)
    intro a6 n6 σ6 τ6 θ6 vc
    obtain ⟨hW, vc⟩ := vc
    exact SW.iret dX10_shed_17 rfl rfl ⟨_, rfl, vc⟩
set_option maxHeartbeats 4000000 in
set_option maxRecDepth 20000 in
theorem sgX10_shed_41 {G : GG} {k : Nat} {q : Int32 → Nat → SG → TU → TH → Prop} {n : Nat} {σ : SG} {τ : TU} {θ : TH}  (x1 : Int32) (x2 : Int32) (x3 : Int32) (hk : 4 ≤ k)  (hW : aw_WT n θ) (vc : (((σ 123 5) ≤ x3) → (q x2 n σ τ θ)) ∧ ((¬ (σ 123 5) ≤ x3) → (SMi G 2 mX10_isOf 0 0 [.ref 120, .ref 125, .int x3, .int x1] n σ τ θ (fun a1 n1 σ1 τ1 θ1 => aw_WT n1 θ1 ∧ (((a1 = 0) → (SW G k mX10_shed (aw_qi q) 0 0 41 [some (.ref 120), some (.int x1), some (.int x2), some (.int (x3 + (1 : Int32)))] [] (n1, σ1, τ1, θ1))) ∧ ((¬ a1 = 0) → (vp_in x3 13 ∧ (SW G k mX10_shed (aw_qi q) 0 0 41 [some (.ref 120), some (.int x1), some (.int x2), some (.int (x3 + (1 : Int32)))] [] (n1, (aw_u σ1 125 x3.toNatClampNeg (0 : Int32)), τ1, θ1))))))))) : SW G k mX10_shed (aw_qi q) 0 0 41 [some (.ref 120), some (.int x1), some (.int x2), some (.int x3)] [] (n, σ, τ, θ) := by
  refine SW.iload_n dX10_shed_41 rfl ?_
  refine SW.aload_n dX10_shed_42 rfl ?_
  refine SW.getS (f := 15) (r := 123) aw_cl10 kp_120 (by decide) (hW.le (by decide)) (by decide) ww_1257 dX10_shed_43 rfl hW.t120_15 ?_
  refine SW.iconst (v := (5 : Int32)) dX10_shed_46 (by decide) ?_
  refine SW.iald kp_123 (by decide) (hW.le (by decide)) (vp_in_nI (n := 5) (by decide) (by decide)) dX10_shed_47 ?_
  refine SW.icmp_ge 77 dX10_shed_48 (by decide) (fun hbr => ?_) (fun hbr => ?_)
  · replace vc := vc.1 hbr
    refine SW.iload_n dX10_shed_77 rfl ?_
    exact SW.iret dX10_shed_78 rfl rfl ⟨_, rfl, vc⟩
  · replace vc := vc.2 hbr
    refine SW.aload_n dX10_shed_51 rfl ?_
    refine SW.aload_n dX10_shed_52 rfl ?_
    refine SW.getS (f := 17) (r := 125) aw_cl10 kp_120 (by decide) (hW.le (by decide)) (by decide) ww_1259 dX10_shed_53 rfl hW.t120_17 ?_
    refine SW.iload_n dX10_shed_56 rfl ?_
    refine SW.iload_n dX10_shed_57 rfl ?_
    refine SW.cvi3 kV_X10_240 (by omega) aw_cl10 kp_120 (by decide) (hW.le (by decide)) rfl (Nat.le_of_ble_eq_true rfl) dX10_shed_58 (SMi.mono vc ?_)
    intro a1 n1 σ1 τ1 θ1 vc
    obtain ⟨hW, vc⟩ := vc
    refine SW.if_eq 71 dX10_shed_61 (by decide) (fun hbr => ?_) (fun hbr => ?_)
    · replace vc := vc.1 hbr
      refine SW.iinc (v := (x3 + (1 : Int32))) dX10_shed_71 rfl rfl (by decide) rfl rfl ?_
      refine SW.goto 41 dX10_shed_74 (by decide) ?_
      exact vc
    · replace vc := vc.2 hbr
      refine SW.aload_n dX10_shed_64 rfl ?_
      refine SW.getS (f := 17) (r := 125) aw_cl10 kp_120 (by decide) (hW.le (by decide)) (by decide) ww_1259 dX10_shed_65 rfl hW.t120_17 ?_
      refine SW.iload_n dX10_shed_68 rfl ?_
      refine SW.iconst (v := (0 : Int32)) dX10_shed_69 (by decide) ?_
      refine SW.iast kp_125 (by decide) (hW.le (by decide)) vc.1 dX10_shed_70 ?_
      replace vc := vc.2
      refine SW.iinc (v := (x3 + (1 : Int32))) dX10_shed_71 rfl rfl (by decide) rfl rfl ?_
      refine SW.goto 41 dX10_shed_74 (by decide) ?_
      exact vc
theorem ctX10_shed {G : GG} {q : Int32 → Nat → SG → TU → TH → Prop} {n : Nat} {σ : SG} {τ : TU} {θ : TH} (x1 : Int32) (h : SW G 4 mX10_shed (aw_qi q) 0 0 0 [some (.ref 120), some (.int x1), none, none] [] (n, σ, τ, θ)) : SMi G 4 mX10_shed 0 0 [.ref 120, .int x1] n σ τ θ q := SM.of _ rfl rfl (Nat.le_of_ble_eq_true rfl) h
set_option maxHeartbeats 4000000 in
set_option maxRecDepth 20000 in
theorem sgX10_shutIn_0 {G : GG} {k : Nat} {q : Int32 → Nat → SG → TU → TH → Prop} {n : Nat} {σ : SG} {τ : TU} {θ : TH}  (x1 : Int32) (x2 : Int32) (hk : 6 ≤ k)  (hW : aw_WT n θ) (vc : SMv G 1 mX10_good 0 0 [.ref 120] n σ τ θ (fun n1 σ1 τ1 θ1 => aw_WT n1 θ1 ∧ (SMi G 2 mX10_isMan 0 0 [.ref 120, .int x1] n1 σ1 τ1 θ1 (fun a2 n2 σ2 τ2 θ2 => aw_WT n2 θ2 ∧ (((a2 = 0) → (SMi G 1 mX10_no 0 0 [.ref 120, .int (1 : Int32)] n2 σ2 τ2 θ2 (fun a3 n3 σ3 τ3 θ3 => aw_WT n3 θ3 ∧ (q a3 n3 σ3 τ3 θ3)))) ∧ ((¬ a2 = 0) → (SMi G 2 mX10_isDoor 0 0 [.ref 120, .int x2] n2 σ2 τ2 θ2 (fun a4 n4 σ4 τ4 θ4 => aw_WT n4 θ4 ∧ (((¬ a4 = 0) → (SW G k mX10_shutIn (aw_qi q) 0 0 28 [some (.ref 120), some (.int x1), some (.int x2), some (.int (0 : Int32))] [] (n4, σ4, τ4, θ4))) ∧ ((a4 = 0) → (SMi G 1 mX10_no 0 0 [.ref 120, .int (1 : Int32)] n4 σ4 τ4 θ4 (fun a5 n5 σ5 τ5 θ5 => aw_WT n5 θ5 ∧ (q a5 n5 σ5 τ5 θ5))))))))))))) : SW G k mX10_shutIn (aw_qi q) 0 0 0 [some (.ref 120), some (.int x1), some (.int x2), none] [] (n, σ, τ, θ) := by
  refine SW.aload_n dX10_shutIn_0 rfl ?_
  refine SW.cvv0 kV_X10_154 (by omega) aw_cl10 kp_120 (by decide) (hW.le (by decide)) rfl (Nat.le_of_ble_eq_true rfl) dX10_shutIn_1 (SMv.mono vc ?_)
  intro n1 σ1 τ1 θ1 vc
  obtain ⟨hW, vc⟩ := vc
  refine SW.aload_n dX10_shutIn_4 rfl ?_
  refine SW.iload_n dX10_shutIn_5 rfl ?_
  refine SW.cvi1 kV_X10_264 (by omega) aw_cl10 kp_120 (by decide) (hW.le (by decide)) rfl (Nat.le_of_ble_eq_true rfl) dX10_shutIn_6 (SMi.mono vc ?_)
  intro a2 n2 σ2 τ2 θ2 vc
  obtain ⟨hW, vc⟩ := vc
  refine SW.if_eq 20 dX10_shutIn_9 (by decide) (fun hbr => ?_) (fun hbr => ?_)
  · replace vc := vc.1 hbr
    refine SW.aload_n dX10_shutIn_20 rfl ?_
    refine SW.iconst (v := (1 : Int32)) dX10_shutIn_21 (by decide) ?_
    refine SW.cvi1 kV_X10_157 (by omega) aw_cl10 kp_120 (by decide) (hW.le (by decide)) rfl (Nat.le_of_ble_eq_true rfl) dX10_shutIn_22 (SMi.mono vc ?_)
    intro a3 n3 σ3 τ3 θ3 vc
    obtain ⟨hW, vc⟩ := vc
    exact SW.iret dX10_shutIn_25 rfl rfl ⟨_, rfl, vc⟩
  · replace vc := vc.2 hbr
    refine SW.aload_n dX10_shutIn_12 rfl ?_
    refine SW.iload_n dX10_shutIn_13 rfl ?_
    refine SW.cvi1 kV_X10_279 (by omega) aw_cl10 kp_120 (by decide) (hW.le (by decide)) rfl (Nat.le_of_ble_eq_true rfl) dX10_shutIn_14 (SMi.mono vc ?_)
    intro a4 n4 σ4 τ4 θ4 vc
    obtain ⟨hW, vc⟩ := vc
    refine SW.if_ne 26 dX10_shutIn_17 (by decide) (fun hbr => ?_) (fun hbr => ?_)
    · replace vc := vc.1 hbr
      refine SW.iconst (v := (0 : Int32)) dX10_shutIn_26 (by decide) ?_
      refine SW.istore_n dX10_shutIn_27 (by decide) rfl rfl ?_
      exact vc
    · replace vc := vc.2 hbr
      refine SW.aload_n dX10_shutIn_20 rfl ?_
      refine SW.iconst (v := (1 : Int32)) dX10_shutIn_21 (by decide) ?_
      refine SW.cvi1 kV_X10_157 (by omega) aw_cl10 kp_120 (by decide) (hW.le (by decide)) rfl (Nat.le_of_ble_eq_true rfl) dX10_shutIn_22 (SMi.mono vc ?_)
      intro a5 n5 σ5 τ5 θ5 vc
      obtain ⟨hW, vc⟩ := vc
      exact SW.iret dX10_shutIn_25 rfl rfl ⟨_, rfl, vc⟩
set_option maxHeartbeats 4000000 in
set_option maxRecDepth 20000 in
theorem sgX10_shutIn_28 {G : GG} {k : Nat} {q : Int32 → Nat → SG → TU → TH → Prop} {n : Nat} {σ : SG} {τ : TU} {θ : TH}  (x1 : Int32) (x2 : Int32) (x3 : Int32) (hk : 6 ≤ k)  (hW : aw_WT n θ) (vc : (((20 : Int32) < x3) → (q (-2 : Int32) n σ τ θ)) ∧ ((¬ (20 : Int32) < x3) → (SMv G 2 mX10_goOver 0 0 [.ref 120, .int x3] n σ τ θ (fun n1 σ1 τ1 θ1 => aw_WT n1 θ1 ∧ (SMi G 5 mX10_doesPass 0 0 [.ref 120, .ref 128, .int x1, .int x2] n1 σ1 τ1 θ1 (fun a2 n2 σ2 τ2 θ2 => aw_WT n2 θ2 ∧ (((¬ a2 = 0) → (SW G k mX10_shutIn (aw_qi q) 0 0 28 [some (.ref 120), some (.int x1), some (.int x2), some (.int (x3 + (1 : Int32)))] [] (n2, σ2, τ2, θ2))) ∧ ((a2 = 0) → (q x3 n2 σ2 τ2 θ2))))))))) : SW G k mX10_shutIn (aw_qi q) 0 0 28 [some (.ref 120), some (.int x1), some (.int x2), some (.int x3)] [] (n, σ, τ, θ) := by
  refine SW.iload_n dX10_shutIn_28 rfl ?_
  refine SW.bipush (v := (20 : Int32)) dX10_shutIn_29 (by decide) ?_
  refine SW.icmp_gt 60 dX10_shutIn_31 (by decide) (fun hbr => ?_) (fun hbr => ?_)
  · replace vc := vc.1 hbr
    refine SW.bipush (v := (-2 : Int32)) dX10_shutIn_60 (by decide) ?_
    exact SW.iret dX10_shutIn_62 rfl rfl ⟨_, rfl, vc⟩
  · replace vc := vc.2 hbr
    refine SW.aload_n dX10_shutIn_34 rfl ?_
    refine SW.iload_n dX10_shutIn_35 rfl ?_
    refine SW.cvv1 kV_X10_293 (by omega) aw_cl10 kp_120 (by decide) (hW.le (by decide)) rfl (Nat.le_of_ble_eq_true rfl) dX10_shutIn_36 (SMv.mono vc ?_)
    intro n1 σ1 τ1 θ1 vc
    obtain ⟨hW, vc⟩ := vc
    refine SW.aload_n dX10_shutIn_39 rfl ?_
    refine SW.aload_n dX10_shutIn_40 rfl ?_
    refine SW.getS (f := 23) (r := 128) aw_cl10 kp_120 (by decide) (hW.le (by decide)) (by decide) ww_1265 dX10_shutIn_41 rfl hW.t120_23 ?_
    refine SW.iload_n dX10_shutIn_44 rfl ?_
    refine SW.iload_n dX10_shutIn_45 rfl ?_
    refine SW.cvi3 kV_X10_282 (by omega) aw_cl10 kp_120 (by decide) (hW.le (by decide)) rfl (Nat.le_of_ble_eq_true rfl) dX10_shutIn_46 (SMi.mono vc ?_)
    intro a2 n2 σ2 τ2 θ2 vc
    obtain ⟨hW, vc⟩ := vc
    refine SW.if_ne 54 dX10_shutIn_49 (by decide) (fun hbr => ?_) (fun hbr => ?_)
    · replace vc := vc.1 hbr
      refine SW.iinc (v := (x3 + (1 : Int32))) dX10_shutIn_54 rfl rfl (by decide) rfl rfl ?_
      refine SW.goto 28 dX10_shutIn_57 (by decide) ?_
      exact vc
    · replace vc := vc.2 hbr
      refine SW.iload_n dX10_shutIn_52 rfl ?_
      exact SW.iret dX10_shutIn_53 rfl rfl ⟨_, rfl, vc⟩
theorem ctX10_shutIn {G : GG} {q : Int32 → Nat → SG → TU → TH → Prop} {n : Nat} {σ : SG} {τ : TU} {θ : TH} (x1 : Int32) (x2 : Int32) (h : SW G 6 mX10_shutIn (aw_qi q) 0 0 0 [some (.ref 120), some (.int x1), some (.int x2), none] [] (n, σ, τ, θ)) : SMi G 6 mX10_shutIn 0 0 [.ref 120, .int x1, .int x2] n σ τ θ q := SM.of _ rfl rfl (Nat.le_of_ble_eq_true rfl) h
set_option maxHeartbeats 4000000 in
set_option maxRecDepth 20000 in
theorem sgX10_size_0 {G : GG} {k : Nat} {q : Int32 → Nat → SG → TU → TH → Prop} {n : Nat} {σ : SG} {τ : TU} {θ : TH}  (x1 : Int32) (hk : 2 ≤ k)  (hW : aw_WT n θ) (vc : ((¬ x1 = (13 : Int32)) → (((¬ ((aw_u σ 120 0 (0 : Int32)) 120 14) = 0) → (SMi G 1 mX10_in 0 0 [.int x1, .int (0 : Int32), .int (9 : Int32)] n (aw_u σ 120 0 (0 : Int32)) τ θ (fun a1 n1 σ1 τ1 θ1 => aw_WT n1 θ1 ∧ (((a1 = 0) → (((¬ x1 = (10 : Int32)) → (((¬ x1 = (11 : Int32)) → (((¬ x1 = (12 : Int32)) → (q (-1 : Int32) n1 σ1 τ1 θ1)) ∧ ((x1 = (12 : Int32)) → (q (σ1 120 21) n1 σ1 τ1 θ1)))) ∧ ((x1 = (11 : Int32)) → (q (σ1 120 20) n1 σ1 τ1 θ1)))) ∧ ((x1 = (10 : Int32)) → (q (σ1 125 12) n1 σ1 τ1 θ1)))) ∧ ((¬ a1 = 0) → (vp_in x1 167 ∧ (q (σ1 123 x1.toNatClampNeg) n1 σ1 τ1 θ1))))))) ∧ ((((aw_u σ 120 0 (0 : Int32)) 120 14) = 0) → (SMi G 1 mX10_in 0 0 [.int x1, .int (0 : Int32), .int (12 : Int32)] n (aw_u σ 120 0 (0 : Int32)) τ θ (fun a2 n2 σ2 τ2 θ2 => aw_WT n2 θ2 ∧ (((a2 = 0) → (q (-1 : Int32) n2 σ2 τ2 θ2)) ∧ ((¬ a2 = 0) → (q (0 : Int32) n2 σ2 τ2 θ2)))))))) ∧ ((x1 = (13 : Int32)) → (q ((aw_u σ 120 0 (0 : Int32)) 120 2) n (aw_u σ 120 0 (0 : Int32)) τ θ))) : SW G k mX10_size (aw_qi q) 0 0 0 [some (.ref 120), some (.int x1)] [] (n, σ, τ, θ) := by
  refine SW.aload_n dX10_size_0 rfl ?_
  refine SW.iconst (v := (0 : Int32)) dX10_size_1 (by decide) ?_
  refine SW.putI (f := 0) aw_cl10 kp_120 (by decide) (hW.le (by decide)) (by decide) ww_1242 (Or.inl rfl) dX10_size_2 rfl rfl rfl ?_
  refine SW.iload_n dX10_size_5 rfl ?_
  refine SW.bipush (v := (13 : Int32)) dX10_size_6 (by decide) ?_
  refine SW.icmp_ne 16 dX10_size_8 (by decide) (fun hbr => ?_) (fun hbr => ?_)
  · replace vc := vc.1 hbr
    refine SW.aload_n dX10_size_16 rfl ?_
    refine SW.getI (f := 14) aw_cl10 kp_120 (by decide) (hW.le (by decide)) (by decide) ww_1256 dX10_size_17 rfl ?_
    refine SW.if_ne 39 dX10_size_20 (by decide) (fun hbr => ?_) (fun hbr => ?_)
    · replace vc := vc.1 hbr
      refine SW.iload_n dX10_size_39 rfl ?_
      refine SW.iconst (v := (0 : Int32)) dX10_size_40 (by decide) ?_
      refine SW.bipush (v := (9 : Int32)) dX10_size_41 (by decide) ?_
      refine SW.csi3 kS_X10_139 (by omega) (Nat.le_of_ble_eq_true rfl) dX10_size_43 (SMi.mono vc ?_)
      intro a1 n1 σ1 τ1 θ1 vc
      obtain ⟨hW, vc⟩ := vc
      refine SW.if_eq 56 dX10_size_46 (by decide) (fun hbr => ?_) (fun hbr => ?_)
      · replace vc := vc.1 hbr
        refine SW.iload_n dX10_size_56 rfl ?_
        refine SW.bipush (v := (10 : Int32)) dX10_size_57 (by decide) ?_
        refine SW.icmp_ne 72 dX10_size_59 (by decide) (fun hbr => ?_) (fun hbr => ?_)
        · replace vc := vc.1 hbr
          refine SW.iload_n dX10_size_72 rfl ?_
          refine SW.bipush (v := (11 : Int32)) dX10_size_73 (by decide) ?_
          refine SW.icmp_ne 85 dX10_size_75 (by decide) (fun hbr => ?_) (fun hbr => ?_)
          · replace vc := vc.1 hbr
            refine SW.iload_n dX10_size_85 rfl ?_
            refine SW.bipush (v := (12 : Int32)) dX10_size_86 (by decide) ?_
            refine SW.icmp_ne 98 dX10_size_88 (by decide) (fun hbr => ?_) (fun hbr => ?_)
            · replace vc := vc.1 hbr
              refine SW.iconst (v := (-1 : Int32)) dX10_size_98 (by decide) ?_
              exact SW.iret dX10_size_99 rfl rfl ⟨_, rfl, vc⟩
            · replace vc := vc.2 hbr
              refine SW.aload_n dX10_size_91 rfl ?_
              refine SW.getI (f := 21) aw_cl10 kp_120 (by decide) (hW.le (by decide)) (by decide) ww_1263 dX10_size_92 rfl ?_
              refine SW.goto 99 dX10_size_95 (by decide) ?_
              exact SW.iret dX10_size_99 rfl rfl ⟨_, rfl, vc⟩
          · replace vc := vc.2 hbr
            refine SW.aload_n dX10_size_78 rfl ?_
            refine SW.getI (f := 20) aw_cl10 kp_120 (by decide) (hW.le (by decide)) (by decide) ww_1262 dX10_size_79 rfl ?_
            refine SW.goto 99 dX10_size_82 (by decide) ?_
            exact SW.iret dX10_size_99 rfl rfl ⟨_, rfl, vc⟩
        · replace vc := vc.2 hbr
          refine SW.aload_n dX10_size_62 rfl ?_
          refine SW.getS (f := 17) (r := 125) aw_cl10 kp_120 (by decide) (hW.le (by decide)) (by decide) ww_1259 dX10_size_63 rfl hW.t120_17 ?_
          refine SW.bipush (v := (12 : Int32)) dX10_size_66 (by decide) ?_
          refine SW.iald kp_125 (by decide) (hW.le (by decide)) (vp_in_nI (n := 12) (by decide) (by decide)) dX10_size_68 ?_
          refine SW.goto 99 dX10_size_69 (by decide) ?_
          exact SW.iret dX10_size_99 rfl rfl ⟨_, rfl, vc⟩
      · replace vc := vc.2 hbr
        refine SW.aload_n dX10_size_49 rfl ?_
        refine SW.getS (f := 15) (r := 123) aw_cl10 kp_120 (by decide) (hW.le (by decide)) (by decide) ww_1257 dX10_size_50 rfl hW.t120_15 ?_
        refine SW.iload_n dX10_size_53 rfl ?_
        refine SW.iald kp_123 (by decide) (hW.le (by decide)) vc.1 dX10_size_54 ?_
        replace vc := vc.2
        exact SW.iret dX10_size_55 rfl rfl ⟨_, rfl, vc⟩
    · replace vc := vc.2 hbr
      refine SW.iload_n dX10_size_23 rfl ?_
      refine SW.iconst (v := (0 : Int32)) dX10_size_24 (by decide) ?_
      refine SW.bipush (v := (12 : Int32)) dX10_size_25 (by decide) ?_
      refine SW.csi3 kS_X10_139 (by omega) (Nat.le_of_ble_eq_true rfl) dX10_size_27 (SMi.mono vc ?_)
      intro a2 n2 σ2 τ2 θ2 vc
      obtain ⟨hW, vc⟩ := vc
      refine SW.if_eq 37 dX10_size_30 (by decide) (fun hbr => ?_) (fun hbr => ?_)
      · replace vc := vc.1 hbr
        refine SW.iconst (v := (-1 : Int32)) dX10_size_37 (by decide) ?_
        exact SW.iret dX10_size_38 rfl rfl ⟨_, rfl, vc⟩
      · replace vc := vc.2 hbr
        refine SW.iconst (v := (0 : Int32)) dX10_size_33 (by decide) ?_
        refine SW.goto 38 dX10_size_34 (by decide) ?_
        exact SW.iret dX10_size_38 rfl rfl ⟨_, rfl, vc⟩
  · replace vc := vc.2 hbr
    refine SW.aload_n dX10_size_11 rfl ?_
    refine SW.getI (f := 2) aw_cl10 kp_120 (by decide) (hW.le (by decide)) (by decide) ww_1244 dX10_size_12 rfl ?_
    exact SW.iret dX10_size_15 rfl rfl ⟨_, rfl, vc⟩
theorem ctX10_size {G : GG} {q : Int32 → Nat → SG → TU → TH → Prop} {n : Nat} {σ : SG} {τ : TU} {θ : TH} (x1 : Int32) (h : SW G 2 mX10_size (aw_qi q) 0 0 0 [some (.ref 120), some (.int x1)] [] (n, σ, τ, θ)) : SMi G 2 mX10_size 0 0 [.ref 120, .int x1] n σ τ θ q := SM.of _ rfl rfl (Nat.le_of_ble_eq_true rfl) h
set_option maxHeartbeats 4000000 in
set_option maxRecDepth 20000 in
theorem sgX10_spring_0 {G : GG} {k : Nat} {q : Int32 → Nat → SG → TU → TH → Prop} {n : Nat} {σ : SG} {τ : TU} {θ : TH}   (hk : 6 ≤ k)  (hW : aw_WT n θ) (vc : SMv G 1 mX10_good 0 0 [.ref 120] n σ τ θ (fun n1 σ1 τ1 θ1 => aw_WT n1 θ1 ∧ (((¬ ((aw_u σ1 120 22 (0 : Int32)) 120 14) = 0) → (((¬ ((aw_u σ1 120 22 (0 : Int32)) 125 12) = (999 : Int32)) → (SMv G 2 mX10_note 0 0 [.ref 120] n1 (aw_u σ1 120 22 (0 : Int32)) τ1 θ1 (fun n2 σ2 τ2 θ2 => aw_WT n2 θ2 ∧ (SMi G 5 mX10_headsOf 0 0 [.ref 120, .ref 125] n2 (aw_u σ2 125 12 ((σ2 125 12) + (1 : Int32))) τ2 θ2 (fun a3 n3 σ3 τ3 θ3 => aw_WT n3 θ3 ∧ (q a3 n3 σ3 τ3 θ3)))))) ∧ ((((aw_u σ1 120 22 (0 : Int32)) 125 12) = (999 : Int32)) → (SMi G 1 mX10_no 0 0 [.ref 120, .int (3 : Int32)] n1 (aw_u σ1 120 22 (0 : Int32)) τ1 θ1 (fun a4 n4 σ4 τ4 θ4 => aw_WT n4 θ4 ∧ (q a4 n4 σ4 τ4 θ4)))))) ∧ ((((aw_u σ1 120 22 (0 : Int32)) 120 14) = 0) → (SMi G 1 mX10_no 0 0 [.ref 120, .int (1 : Int32)] n1 (aw_u σ1 120 22 (0 : Int32)) τ1 θ1 (fun a5 n5 σ5 τ5 θ5 => aw_WT n5 θ5 ∧ (q a5 n5 σ5 τ5 θ5))))))) : SW G k mX10_spring (aw_qi q) 0 0 0 [some (.ref 120)] [] (n, σ, τ, θ) := by
  refine SW.aload_n dX10_spring_0 rfl ?_
  refine SW.cvv0 kV_X10_154 (by omega) aw_cl10 kp_120 (by decide) (hW.le (by decide)) rfl (Nat.le_of_ble_eq_true rfl) dX10_spring_1 (SMv.mono vc ?_)
  intro n1 σ1 τ1 θ1 vc
  obtain ⟨hW, vc⟩ := vc
  refine SW.aload_n dX10_spring_4 rfl ?_
  refine SW.iconst (v := (0 : Int32)) dX10_spring_5 (by decide) ?_
  refine SW.putI (f := 22) aw_cl10 kp_120 (by decide) (hW.le (by decide)) (by decide) ww_1264 (Or.inl rfl) dX10_spring_6 rfl rfl rfl ?_
  refine SW.aload_n dX10_spring_9 rfl ?_
  refine SW.getI (f := 14) aw_cl10 kp_120 (by decide) (hW.le (by decide)) (by decide) ww_1256 dX10_spring_10 rfl ?_
  refine SW.if_ne 22 dX10_spring_13 (by decide) (fun hbr => ?_) (fun hbr => ?_)
  · replace vc := vc.1 hbr
    refine SW.aload_n dX10_spring_22 rfl ?_
    refine SW.getS (f := 17) (r := 125) aw_cl10 kp_120 (by decide) (hW.le (by decide)) (by decide) ww_1259 dX10_spring_23 rfl hW.t120_17 ?_
    refine SW.bipush (v := (12 : Int32)) dX10_spring_26 (by decide) ?_
    refine SW.iald kp_125 (by decide) (hW.le (by decide)) (vp_in_nI (n := 12) (by decide) (by decide)) dX10_spring_28 ?_
    refine SW.sipush (v := (999 : Int32)) dX10_spring_29 (by decide) ?_
    refine SW.icmp_ne 41 dX10_spring_32 (by decide) (fun hbr => ?_) (fun hbr => ?_)
    · replace vc := vc.1 hbr
      refine SW.aload_n dX10_spring_41 rfl ?_
      refine SW.cvv0 kV_X10_406 (by omega) aw_cl10 kp_120 (by decide) (hW.le (by decide)) rfl (Nat.le_of_ble_eq_true rfl) dX10_spring_42 (SMv.mono vc ?_)
      intro n2 σ2 τ2 θ2 vc
      obtain ⟨hW, vc⟩ := vc
      refine SW.aload_n dX10_spring_45 rfl ?_
      refine SW.getS (f := 17) (r := 125) aw_cl10 kp_120 (by decide) (hW.le (by decide)) (by decide) ww_1259 dX10_spring_46 rfl hW.t120_17 ?_
      refine SW.bipush (v := (12 : Int32)) dX10_spring_49 (by decide) ?_
      refine SW.dup2 dX10_spring_51 rfl rfl ?_
      refine SW.iald kp_125 (by decide) (hW.le (by decide)) (vp_in_nI (n := 12) (by decide) (by decide)) dX10_spring_52 ?_
      refine SW.iconst (v := (1 : Int32)) dX10_spring_53 (by decide) ?_
      refine SW.iadd dX10_spring_54 ?_
      refine SW.iast kp_125 (by decide) (hW.le (by decide)) (vp_in_nI (n := 12) (by decide) (by decide)) dX10_spring_55 ?_
      refine SW.aload_n dX10_spring_56 rfl ?_
      refine SW.aload_n dX10_spring_57 rfl ?_
      refine SW.getS (f := 17) (r := 125) aw_cl10 kp_120 (by decide) (hW.le (by decide)) (by decide) ww_1259 dX10_spring_58 rfl hW.t120_17 ?_
      refine SW.cvi1 kV_X10_285 (by omega) aw_cl10 kp_120 (by decide) (hW.le (by decide)) rfl (Nat.le_of_ble_eq_true rfl) dX10_spring_61 (SMi.mono vc ?_)
      intro a3 n3 σ3 τ3 θ3 vc
      obtain ⟨hW, vc⟩ := vc
      exact SW.iret dX10_spring_64 rfl rfl ⟨_, rfl, vc⟩
    · replace vc := vc.2 hbr
      refine SW.aload_n dX10_spring_35 rfl ?_
      refine SW.iconst (v := (3 : Int32)) dX10_spring_36 (by decide) ?_
      refine SW.cvi1 kV_X10_157 (by omega) aw_cl10 kp_120 (by decide) (hW.le (by decide)) rfl (Nat.le_of_ble_eq_true rfl) dX10_spring_37 (SMi.mono vc ?_)
      intro a4 n4 σ4 τ4 θ4 vc
      obtain ⟨hW, vc⟩ := vc
      exact SW.iret dX10_spring_40 rfl rfl ⟨_, rfl, vc⟩
  · replace vc := vc.2 hbr
    refine SW.aload_n dX10_spring_16 rfl ?_
    refine SW.iconst (v := (1 : Int32)) dX10_spring_17 (by decide) ?_
    refine SW.cvi1 kV_X10_157 (by omega) aw_cl10 kp_120 (by decide) (hW.le (by decide)) rfl (Nat.le_of_ble_eq_true rfl) dX10_spring_18 (SMi.mono vc ?_)
    intro a5 n5 σ5 τ5 θ5 vc
    obtain ⟨hW, vc⟩ := vc
    exact SW.iret dX10_spring_21 rfl rfl ⟨_, rfl, vc⟩
theorem ctX10_spring {G : GG} {q : Int32 → Nat → SG → TU → TH → Prop} {n : Nat} {σ : SG} {τ : TU} {θ : TH}  (h : SW G 6 mX10_spring (aw_qi q) 0 0 0 [some (.ref 120)] [] (n, σ, τ, θ)) : SMi G 6 mX10_spring 0 0 [.ref 120] n σ τ θ q := SM.of _ rfl rfl (Nat.le_of_ble_eq_true rfl) h
set_option maxHeartbeats 4000000 in
set_option maxRecDepth 20000 in
theorem sgX10_strongOf_0 {G : GG} {k : Nat} {q : Int32 → Nat → SG → TU → TH → Prop} {n : Nat} {σ : SG} {τ : TU} {θ : TH}  (x1 : Int32) (hk : 1 ≤ k)  (hW : aw_WT n θ) (vc : vp_in (((10 : Int32) + ((3 : Int32) * x1)) + (2 : Int32)) 167 ∧ (q (σ 123 (((10 : Int32) + ((3 : Int32) * x1)) + (2 : Int32)).toNatClampNeg) n σ τ θ)) : SW G k mX10_strongOf (aw_qi q) 0 0 0 [some (.ref 120), some (.int x1)] [] (n, σ, τ, θ) := by
  refine SW.aload_n dX10_strongOf_0 rfl ?_
  refine SW.getS (f := 15) (r := 123) aw_cl10 kp_120 (by decide) (hW.le (by decide)) (by decide) ww_1257 dX10_strongOf_1 rfl hW.t120_15 ?_
  refine SW.bipush (v := (10 : Int32)) dX10_strongOf_4 (by decide) ?_
  refine SW.iconst (v := (3 : Int32)) dX10_strongOf_6 (by decide) ?_
  refine SW.iload_n dX10_strongOf_7 rfl ?_
  refine SW.imul dX10_strongOf_8 ?_
  refine SW.iadd dX10_strongOf_9 ?_
  refine SW.iconst (v := (2 : Int32)) dX10_strongOf_10 (by decide) ?_
  refine SW.iadd dX10_strongOf_11 ?_
  refine SW.iald kp_123 (by decide) (hW.le (by decide)) vc.1 dX10_strongOf_12 ?_
  replace vc := vc.2
  exact SW.iret dX10_strongOf_13 rfl rfl ⟨_, rfl, vc⟩
theorem ctX10_strongOf {G : GG} {q : Int32 → Nat → SG → TU → TH → Prop} {n : Nat} {σ : SG} {τ : TU} {θ : TH} (x1 : Int32) (h : SW G 1 mX10_strongOf (aw_qi q) 0 0 0 [some (.ref 120), some (.int x1)] [] (n, σ, τ, θ)) : SMi G 1 mX10_strongOf 0 0 [.ref 120, .int x1] n σ τ θ q := SM.of _ rfl rfl (Nat.le_of_ble_eq_true rfl) h
set_option maxHeartbeats 4000000 in
set_option maxRecDepth 20000 in
theorem sgX10_sumOf_0 {G : GG} {k : Nat} {q : Int32 → Nat → SG → TU → TH → Prop} {n : Nat} {σ : SG} {τ : TU} {θ : TH}   (hk : 4 ≤ k)  (hW : aw_WT n θ) (vc : SW G k mX10_sumOf (aw_qi q) 0 0 6 [some (.ref 120), some (.int (1000000 : Int32)), some (.int (0 : Int32)), none] [] (n, σ, τ, θ)) : SW G k mX10_sumOf (aw_qi q) 0 0 0 [some (.ref 120), none, none, none] [] (n, σ, τ, θ) := by
  refine SW.ldcw (v := (1000000 : Int32)) ww_1657 dX10_sumOf_0 ?_
  refine SW.istore_n dX10_sumOf_3 (by decide) rfl rfl ?_
  refine SW.iconst (v := (0 : Int32)) dX10_sumOf_4 (by decide) ?_
  refine SW.istore_n dX10_sumOf_5 (by decide) rfl rfl ?_
  exact vc
set_option maxHeartbeats 4000000 in
set_option maxRecDepth 20000 in
theorem sgX10_sumOf_6 {G : GG} {k : Nat} {q : Int32 → Nat → SG → TU → TH → Prop} {n : Nat} {σ : SG} {τ : TU} {θ : TH}  (x1 : Int32) (x2 : Int32) (hk : 4 ≤ k)  (hW : aw_WT n θ) (vc : (((σ 120 29) ≤ x2) → (q x1 n σ τ θ)) ∧ ((¬ (σ 120 29) ≤ x2) → (vp_in x2 5 ∧ ((¬ (σ 120 29) = 0) ∧ (vp_in ((x2 + (1 : Int32)) - (x2 + (1 : Int32)) / (σ 120 29) * (σ 120 29)) 5 ∧ (SMi G 3 mX10_leftFrom 0 0 [.ref 120, .int (σ 132 x2.toNatClampNeg), .int (σ 132 ((x2 + (1 : Int32)) - (x2 + (1 : Int32)) / (σ 120 29) * (σ 120 29)).toNatClampNeg)] n σ τ θ (fun a1 n1 σ1 τ1 θ1 => aw_WT n1 θ1 ∧ (((x1 ≤ a1) → (SW G k mX10_sumOf (aw_qi q) 0 0 6 [some (.ref 120), some (.int x1), some (.int (x2 + (1 : Int32))), none] [] (n1, σ1, τ1, θ1))) ∧ ((¬ x1 ≤ a1) → (SW G k mX10_sumOf (aw_qi q) 0 0 6 [some (.ref 120), some (.int a1), some (.int (x2 + (1 : Int32))), none] [] (n1, σ1, τ1, θ1))))))))))) : SW G k mX10_sumOf (aw_qi q) 0 0 6 [some (.ref 120), some (.int x1), some (.int x2), none] [] (n, σ, τ, θ) := by
  refine SW.iload_n dX10_sumOf_6 rfl ?_
  refine SW.aload_n dX10_sumOf_7 rfl ?_
  refine SW.getI (f := 29) aw_cl10 kp_120 (by decide) (hW.le (by decide)) (by decide) ww_1271 dX10_sumOf_8 rfl ?_
  refine SW.icmp_ge 55 dX10_sumOf_11 (by decide) (fun hbr => ?_) (fun hbr => ?_)
  · replace vc := vc.1 hbr
    refine SW.iload_n dX10_sumOf_55 rfl ?_
    exact SW.iret dX10_sumOf_56 rfl rfl ⟨_, rfl, vc⟩
  · replace vc := vc.2 hbr
    refine SW.aload_n dX10_sumOf_14 rfl ?_
    refine SW.aload_n dX10_sumOf_15 rfl ?_
    refine SW.getS (f := 28) (r := 132) aw_cl10 kp_120 (by decide) (hW.le (by decide)) (by decide) ww_1270 dX10_sumOf_16 rfl hW.t120_28 ?_
    refine SW.iload_n dX10_sumOf_19 rfl ?_
    refine SW.iald kp_132 (by decide) (hW.le (by decide)) vc.1 dX10_sumOf_20 ?_
    replace vc := vc.2
    refine SW.aload_n dX10_sumOf_21 rfl ?_
    refine SW.getS (f := 28) (r := 132) aw_cl10 kp_120 (by decide) (hW.le (by decide)) (by decide) ww_1270 dX10_sumOf_22 rfl hW.t120_28 ?_
    refine SW.iload_n dX10_sumOf_25 rfl ?_
    refine SW.iconst (v := (1 : Int32)) dX10_sumOf_26 (by decide) ?_
    refine SW.iadd dX10_sumOf_27 ?_
    refine SW.aload_n dX10_sumOf_28 rfl ?_
    refine SW.getI (f := 29) aw_cl10 kp_120 (by decide) (hW.le (by decide)) (by decide) ww_1271 dX10_sumOf_29 rfl ?_
    refine SW.irem dX10_sumOf_32 vc.1 ?_
    replace vc := vc.2
    refine SW.iald kp_132 (by decide) (hW.le (by decide)) vc.1 dX10_sumOf_33 ?_
    replace vc := vc.2
    refine SW.cvi2 kV_X10_267 (by omega) aw_cl10 kp_120 (by decide) (hW.le (by decide)) rfl (Nat.le_of_ble_eq_true rfl) dX10_sumOf_34 (SMi.mono vc ?_)
    intro a1 n1 σ1 τ1 θ1 vc
    obtain ⟨hW, vc⟩ := vc
    refine SW.istore_n dX10_sumOf_37 (by decide) rfl rfl ?_
    refine SW.iload_n dX10_sumOf_38 rfl ?_
    refine SW.iload_n dX10_sumOf_39 rfl ?_
    refine SW.icmp_ge 47 dX10_sumOf_40 (by decide) (fun hbr => ?_) (fun hbr => ?_)
    · replace vc := vc.1 hbr
      refine SW.iload_n dX10_sumOf_47 rfl ?_
      refine SW.istore_n dX10_sumOf_48 (by decide) rfl rfl ?_
      refine SW.iinc (v := (x2 + (1 : Int32))) dX10_sumOf_49 rfl rfl (by decide) rfl rfl ?_
      refine SW.goto 6 dX10_sumOf_52 (by decide) ?_
      refine SW.msk [true, true, true, false] rfl ?_
      exact vc
    · replace vc := vc.2 hbr
      refine SW.iload_n dX10_sumOf_43 rfl ?_
      refine SW.goto 48 dX10_sumOf_44 (by decide) ?_
      refine SW.istore_n dX10_sumOf_48 (by decide) rfl rfl ?_
      refine SW.iinc (v := (x2 + (1 : Int32))) dX10_sumOf_49 rfl rfl (by decide) rfl rfl ?_
      refine SW.goto 6 dX10_sumOf_52 (by decide) ?_
      refine SW.msk [true, true, true, false] rfl ?_
      exact vc
theorem ctX10_sumOf {G : GG} {q : Int32 → Nat → SG → TU → TH → Prop} {n : Nat} {σ : SG} {τ : TU} {θ : TH}  (h : SW G 4 mX10_sumOf (aw_qi q) 0 0 0 [some (.ref 120), none, none, none] [] (n, σ, τ, θ)) : SMi G 4 mX10_sumOf 0 0 [.ref 120] n σ τ θ q := SM.of _ rfl rfl (Nat.le_of_ble_eq_true rfl) h
set_option maxHeartbeats 4000000 in
set_option maxRecDepth 20000 in
theorem sgX10_takesWord_0 {G : GG} {k : Nat} {q : Int32 → Nat → SG → TU → TH → Prop} {n : Nat} {σ : SG} {τ : TU} {θ : TH} (j : Nat) (st : String × Nat × String × List Int32)  (hk : 6 ≤ k) (hj : aw_strs[j]? = some st) (hW : aw_WT n θ) (vc : SMi G 5 mX10_isWord 0 0 [.ref 120, .ref (1000 + j)] n σ τ θ (fun a1 n1 σ1 τ1 θ1 => aw_WT n1 θ1 ∧ (((¬ a1 = 0) → (SMv G 2 mX10_next 0 0 [.ref 120] n1 σ1 τ1 θ1 (fun n2 σ2 τ2 θ2 => aw_WT n2 θ2 ∧ (q (1 : Int32) n2 σ2 τ2 θ2)))) ∧ ((a1 = 0) → (q (0 : Int32) n1 σ1 τ1 θ1))))) : SW G k mX10_takesWord (aw_qi q) 0 0 0 [some (.ref 120), some (.ref (1000 + j))] [] (n, σ, τ, θ) := by
  refine SW.aload_n dX10_takesWord_0 rfl ?_
  refine SW.aload_n dX10_takesWord_1 rfl ?_
  refine SW.cvi1 kV_X10_105 (by omega) aw_cl10 kp_120 (by decide) (hW.le (by decide)) rfl (Nat.le_of_ble_eq_true rfl) dX10_takesWord_2 (SMi.mono vc ?_)
  intro a1 n1 σ1 τ1 θ1 vc
  obtain ⟨hW, vc⟩ := vc
  refine SW.if_ne 10 dX10_takesWord_5 (by decide) (fun hbr => ?_) (fun hbr => ?_)
  · replace vc := vc.1 hbr
    refine SW.aload_n dX10_takesWord_10 rfl ?_
    refine SW.cvv0 kV_X10_109 (by omega) aw_cl10 kp_120 (by decide) (hW.le (by decide)) rfl (Nat.le_of_ble_eq_true rfl) dX10_takesWord_11 (SMv.mono vc ?_)
    intro n2 σ2 τ2 θ2 vc
    obtain ⟨hW, vc⟩ := vc
    refine SW.iconst (v := (1 : Int32)) dX10_takesWord_14 (by decide) ?_
    exact SW.iret dX10_takesWord_15 rfl rfl ⟨_, rfl, vc⟩
  · replace vc := vc.2 hbr
    refine SW.iconst (v := (0 : Int32)) dX10_takesWord_8 (by decide) ?_
    exact SW.iret dX10_takesWord_9 rfl rfl ⟨_, rfl, vc⟩
theorem ctX10_takesWord {G : GG} {q : Int32 → Nat → SG → TU → TH → Prop} {n : Nat} {σ : SG} {τ : TU} {θ : TH} (j : Nat) (h : SW G 6 mX10_takesWord (aw_qi q) 0 0 0 [some (.ref 120), some (.ref (1000 + j))] [] (n, σ, τ, θ)) : SMi G 6 mX10_takesWord 0 0 [.ref 120, .ref (1000 + j)] n σ τ θ q := SM.of _ rfl rfl (Nat.le_of_ble_eq_true rfl) h
set_option maxHeartbeats 4000000 in
set_option maxRecDepth 20000 in
theorem sgX10_thrown_0 {G : GG} {k : Nat} {q : Int32 → Nat → SG → TU → TH → Prop} {n : Nat} {σ : SG} {τ : TU} {θ : TH}   (hk : 1 ≤ k)  (hW : aw_WT n θ) (vc : q (σ 120 0) n σ τ θ) : SW G k mX10_thrown (aw_qi q) 0 0 0 [some (.ref 120)] [] (n, σ, τ, θ) := by
  refine SW.aload_n dX10_thrown_0 rfl ?_
  refine SW.getI (f := 0) aw_cl10 kp_120 (by decide) (hW.le (by decide)) (by decide) ww_1242 dX10_thrown_1 rfl ?_
  exact SW.iret dX10_thrown_4 rfl rfl ⟨_, rfl, vc⟩
theorem ctX10_thrown {G : GG} {q : Int32 → Nat → SG → TU → TH → Prop} {n : Nat} {σ : SG} {τ : TU} {θ : TH}  (h : SW G 1 mX10_thrown (aw_qi q) 0 0 0 [some (.ref 120)] [] (n, σ, τ, θ)) : SMi G 1 mX10_thrown 0 0 [.ref 120] n σ τ θ q := SM.of _ rfl rfl (Nat.le_of_ble_eq_true rfl) h
set_option maxHeartbeats 4000000 in
set_option maxRecDepth 20000 in
theorem sgX10_trouble_0 {G : GG} {k : Nat} {q : Int32 → Nat → SG → TU → TH → Prop} {n : Nat} {σ : SG} {τ : TU} {θ : TH}   (hk : 1 ≤ k)  (hW : aw_WT n θ) (vc : q ((aw_u σ 120 0 (0 : Int32)) 120 11) n (aw_u σ 120 0 (0 : Int32)) τ θ) : SW G k mX10_trouble (aw_qi q) 0 0 0 [some (.ref 120)] [] (n, σ, τ, θ) := by
  refine SW.aload_n dX10_trouble_0 rfl ?_
  refine SW.iconst (v := (0 : Int32)) dX10_trouble_1 (by decide) ?_
  refine SW.putI (f := 0) aw_cl10 kp_120 (by decide) (hW.le (by decide)) (by decide) ww_1242 (Or.inl rfl) dX10_trouble_2 rfl rfl rfl ?_
  refine SW.aload_n dX10_trouble_5 rfl ?_
  refine SW.getI (f := 11) aw_cl10 kp_120 (by decide) (hW.le (by decide)) (by decide) ww_1253 dX10_trouble_6 rfl ?_
  exact SW.iret dX10_trouble_9 rfl rfl ⟨_, rfl, vc⟩
theorem ctX10_trouble {G : GG} {q : Int32 → Nat → SG → TU → TH → Prop} {n : Nat} {σ : SG} {τ : TU} {θ : TH}  (h : SW G 1 mX10_trouble (aw_qi q) 0 0 0 [some (.ref 120)] [] (n, σ, τ, θ)) : SMi G 1 mX10_trouble 0 0 [.ref 120] n σ τ θ q := SM.of _ rfl rfl (Nat.le_of_ble_eq_true rfl) h
set_option maxHeartbeats 4000000 in
set_option maxRecDepth 20000 in
theorem sgX10_tryGuests_0 {G : GG} {k : Nat} {kr : Nat} {q : Nat → SG → TU → TH → Prop} {n : Nat} {σ : SG} {τ : TU} {θ : TH}  (x1 : Int32) (x2 : Int32) (x3 : Int32) (hk : 6 ≤ k) (hk2 : kr + 1 ≤ k)  (hW : aw_WT n θ) (vc : ((¬ x1 = (σ 123 4)) → (SW G k mX10_tryGuests (aw_qv q) 0 0 42 [some (.ref 120), some (.int x1), some (.int x2), some (.int x3), some (.int (0 : Int32))] [] (n, σ, τ, θ))) ∧ ((x1 = (σ 123 4)) → ((((σ 120 26) < x3) → (SMv G 1 mX10_copy 0 0 [.ref 129, .int (0 : Int32), .ref 130, .int (0 : Int32), .int (5 : Int32)] n (aw_u σ 120 26 x3) τ θ (fun n1 σ1 τ1 θ1 => aw_WT n1 θ1 ∧ (q n1 σ1 τ1 θ1)))) ∧ ((¬ (σ 120 26) < x3) → (q n σ τ θ))))) : SW G k mX10_tryGuests (aw_qv q) 0 0 0 [some (.ref 120), some (.int x1), some (.int x2), some (.int x3), none] [] (n, σ, τ, θ) := by
  refine SW.iload_n dX10_tryGuests_0 rfl ?_
  refine SW.aload_n dX10_tryGuests_1 rfl ?_
  refine SW.getS (f := 15) (r := 123) aw_cl10 kp_120 (by decide) (hW.le (by decide)) (by decide) ww_1257 dX10_tryGuests_2 rfl hW.t120_15 ?_
  refine SW.iconst (v := (4 : Int32)) dX10_tryGuests_5 (by decide) ?_
  refine SW.iald kp_123 (by decide) (hW.le (by decide)) (vp_in_nI (n := 4) (by decide) (by decide)) dX10_tryGuests_6 ?_
  refine SW.icmp_ne 39 dX10_tryGuests_7 (by decide) (fun hbr => ?_) (fun hbr => ?_)
  · replace vc := vc.1 hbr
    refine SW.iconst (v := (0 : Int32)) dX10_tryGuests_39 (by decide) ?_
    refine SW.istore dX10_tryGuests_40 (by decide) rfl rfl ?_
    exact vc
  · replace vc := vc.2 hbr
    refine SW.iload_n dX10_tryGuests_10 rfl ?_
    refine SW.aload_n dX10_tryGuests_11 rfl ?_
    refine SW.getI (f := 26) aw_cl10 kp_120 (by decide) (hW.le (by decide)) (by decide) ww_1268 dX10_tryGuests_12 rfl ?_
    refine SW.icmp_gt 19 dX10_tryGuests_15 (by decide) (fun hbr => ?_) (fun hbr => ?_)
    · replace vc := vc.1 hbr
      refine SW.aload_n dX10_tryGuests_19 rfl ?_
      refine SW.iload_n dX10_tryGuests_20 rfl ?_
      refine SW.putI (f := 26) aw_cl10 kp_120 (by decide) (hW.le (by decide)) (by decide) ww_1268 (Or.inl rfl) dX10_tryGuests_21 rfl rfl rfl ?_
      refine SW.aload_n dX10_tryGuests_24 rfl ?_
      refine SW.getS (f := 24) (r := 129) aw_cl10 kp_120 (by decide) (hW.le (by decide)) (by decide) ww_1266 dX10_tryGuests_25 rfl hW.t120_24 ?_
      refine SW.iconst (v := (0 : Int32)) dX10_tryGuests_28 (by decide) ?_
      refine SW.aload_n dX10_tryGuests_29 rfl ?_
      refine SW.getS (f := 25) (r := 130) aw_cl10 kp_120 (by decide) (hW.le (by decide)) (by decide) ww_1267 dX10_tryGuests_30 rfl hW.t120_25 ?_
      refine SW.iconst (v := (0 : Int32)) dX10_tryGuests_33 (by decide) ?_
      refine SW.iconst (v := (5 : Int32)) dX10_tryGuests_34 (by decide) ?_
      refine SW.csv5 kS_X10_163 (by omega) (Nat.le_of_ble_eq_true rfl) dX10_tryGuests_35 (SMv.mono vc ?_)
      intro n1 σ1 τ1 θ1 vc
      obtain ⟨hW, vc⟩ := vc
      exact SW.vret dX10_tryGuests_38 rfl ⟨rfl, vc⟩
    · replace vc := vc.2 hbr
      exact SW.vret dX10_tryGuests_18 rfl ⟨rfl, vc⟩
set_option maxHeartbeats 4000000 in
set_option maxRecDepth 20000 in
theorem sgX10_tryGuests_42 {G : GG} {k : Nat} {kr : Nat} {q : Nat → SG → TU → TH → Prop} {n : Nat} {σ : SG} {τ : TU} {θ : TH}  (x1 : Int32) (x2 : Int32) (x3 : Int32) (x4 : Int32) (hk : 6 ≤ k) (hk2 : kr + 1 ≤ k)  (hW : aw_WT n θ) (vc : (((σ 123 7) ≤ x4) → (vp_in x1 5 ∧ (SMv G kr mX10_tryGuests 0 0 [.ref 120, .int (x1 + (1 : Int32)), .int x2, .int x3] n (aw_u σ 129 x1.toNatClampNeg (-2 : Int32)) τ θ (fun n1 σ1 τ1 θ1 => aw_WT n1 θ1 ∧ (q n1 σ1 τ1 θ1))))) ∧ ((¬ (σ 123 7) ≤ x4) → (SMi G 1 mX10_hasBit 0 0 [.int x2, .int x4] n σ τ θ (fun a2 n2 σ2 τ2 θ2 => aw_WT n2 θ2 ∧ (((¬ a2 = 0) → (SW G k mX10_tryGuests (aw_qv q) 0 0 42 [some (.ref 120), some (.int x1), some (.int x2), some (.int x3), some (.int (x4 + (1 : Int32)))] [] (n2, σ2, τ2, θ2))) ∧ ((a2 = 0) → (SMi G 5 mX10_doesPass 0 0 [.ref 120, .ref 125, .int x1, .int x4] n2 σ2 τ2 θ2 (fun a3 n3 σ3 τ3 θ3 => aw_WT n3 θ3 ∧ (((¬ a3 = 0) → (vp_in x1 5 ∧ (SMv G kr mX10_tryGuests 0 0 [.ref 120, .int (x1 + (1 : Int32)), .int (x2 ||| ((1 : Int32) <<< (x4 &&& 31))), .int (x3 + (1 : Int32))] n3 (aw_u σ3 129 x1.toNatClampNeg x4) τ3 θ3 (fun n4 σ4 τ4 θ4 => aw_WT n4 θ4 ∧ (SW G k mX10_tryGuests (aw_qv q) 0 0 42 [some (.ref 120), some (.int x1), some (.int x2), some (.int x3), some (.int (x4 + (1 : Int32)))] [] (n4, σ4, τ4, θ4)))))) ∧ ((a3 = 0) → (SW G k mX10_tryGuests (aw_qv q) 0 0 42 [some (.ref 120), some (.int x1), some (.int x2), some (.int x3), some (.int (x4 + (1 : Int32)))] [] (n3, σ3, τ3, θ3)))))))))))) : SW G k mX10_tryGuests (aw_qv q) 0 0 42 [some (.ref 120), some (.int x1), some (.int x2), some (.int x3), some (.int x4)] [] (n, σ, τ, θ) := by
  refine SW.iload dX10_tryGuests_42 rfl ?_
  refine SW.aload_n dX10_tryGuests_44 rfl ?_
  refine SW.getS (f := 15) (r := 123) aw_cl10 kp_120 (by decide) (hW.le (by decide)) (by decide) ww_1257 dX10_tryGuests_45 rfl hW.t120_15 ?_
  refine SW.bipush (v := (7 : Int32)) dX10_tryGuests_48 (by decide) ?_
  refine SW.iald kp_123 (by decide) (hW.le (by decide)) (vp_in_nI (n := 7) (by decide) (by decide)) dX10_tryGuests_50 ?_
  refine SW.icmp_ge 110 dX10_tryGuests_51 (by decide) (fun hbr => ?_) (fun hbr => ?_)
  · replace vc := vc.1 hbr
    refine SW.aload_n dX10_tryGuests_110 rfl ?_
    refine SW.getS (f := 24) (r := 129) aw_cl10 kp_120 (by decide) (hW.le (by decide)) (by decide) ww_1266 dX10_tryGuests_111 rfl hW.t120_24 ?_
    refine SW.iload_n dX10_tryGuests_114 rfl ?_
    refine SW.bipush (v := (-2 : Int32)) dX10_tryGuests_115 (by decide) ?_
    refine SW.iast kp_129 (by decide) (hW.le (by decide)) vc.1 dX10_tryGuests_117 ?_
    replace vc := vc.2
    refine SW.aload_n dX10_tryGuests_118 rfl ?_
    refine SW.iload_n dX10_tryGuests_119 rfl ?_
    refine SW.iconst (v := (1 : Int32)) dX10_tryGuests_120 (by decide) ?_
    refine SW.iadd dX10_tryGuests_121 ?_
    refine SW.iload_n dX10_tryGuests_122 rfl ?_
    refine SW.iload_n dX10_tryGuests_123 rfl ?_
    refine SW.cvv3 kV_X10_308 (by omega) aw_cl10 kp_120 (by decide) (hW.le (by decide)) rfl (Nat.le_of_ble_eq_true rfl) dX10_tryGuests_124 (SMv.mono vc ?_)
    intro n1 σ1 τ1 θ1 vc
    obtain ⟨hW, vc⟩ := vc
    exact SW.vret dX10_tryGuests_127 rfl ⟨rfl, vc⟩
  · replace vc := vc.2 hbr
    refine SW.iload_n dX10_tryGuests_54 rfl ?_
    refine SW.iload dX10_tryGuests_55 rfl ?_
    refine SW.csi2 kS_X10_250 (by omega) (Nat.le_of_ble_eq_true rfl) dX10_tryGuests_57 (SMi.mono vc ?_)
    intro a2 n2 σ2 τ2 θ2 vc
    obtain ⟨hW, vc⟩ := vc
    refine SW.if_ne 104 dX10_tryGuests_60 (by decide) (fun hbr => ?_) (fun hbr => ?_)
    · replace vc := vc.1 hbr
      refine SW.iinc (v := (x4 + (1 : Int32))) dX10_tryGuests_104 rfl rfl (by decide) rfl rfl ?_
      refine SW.goto 42 dX10_tryGuests_107 (by decide) ?_
      exact vc
    · replace vc := vc.2 hbr
      refine SW.aload_n dX10_tryGuests_63 rfl ?_
      refine SW.aload_n dX10_tryGuests_64 rfl ?_
      refine SW.getS (f := 17) (r := 125) aw_cl10 kp_120 (by decide) (hW.le (by decide)) (by decide) ww_1259 dX10_tryGuests_65 rfl hW.t120_17 ?_
      refine SW.iload_n dX10_tryGuests_68 rfl ?_
      refine SW.iload dX10_tryGuests_69 rfl ?_
      refine SW.cvi3 kV_X10_282 (by omega) aw_cl10 kp_120 (by decide) (hW.le (by decide)) rfl (Nat.le_of_ble_eq_true rfl) dX10_tryGuests_71 (SMi.mono vc ?_)
      intro a3 n3 σ3 τ3 θ3 vc
      obtain ⟨hW, vc⟩ := vc
      refine SW.if_ne 80 dX10_tryGuests_74 (by decide) (fun hbr => ?_) (fun hbr => ?_)
      · replace vc := vc.1 hbr
        refine SW.aload_n dX10_tryGuests_80 rfl ?_
        refine SW.getS (f := 24) (r := 129) aw_cl10 kp_120 (by decide) (hW.le (by decide)) (by decide) ww_1266 dX10_tryGuests_81 rfl hW.t120_24 ?_
        refine SW.iload_n dX10_tryGuests_84 rfl ?_
        refine SW.iload dX10_tryGuests_85 rfl ?_
        refine SW.iast kp_129 (by decide) (hW.le (by decide)) vc.1 dX10_tryGuests_87 ?_
        replace vc := vc.2
        refine SW.aload_n dX10_tryGuests_88 rfl ?_
        refine SW.iload_n dX10_tryGuests_89 rfl ?_
        refine SW.iconst (v := (1 : Int32)) dX10_tryGuests_90 (by decide) ?_
        refine SW.iadd dX10_tryGuests_91 ?_
        refine SW.iload_n dX10_tryGuests_92 rfl ?_
        refine SW.iconst (v := (1 : Int32)) dX10_tryGuests_93 (by decide) ?_
        refine SW.iload dX10_tryGuests_94 rfl ?_
        refine SW.ishl dX10_tryGuests_96 ?_
        refine SW.ior dX10_tryGuests_97 ?_
        refine SW.iload_n dX10_tryGuests_98 rfl ?_
        refine SW.iconst (v := (1 : Int32)) dX10_tryGuests_99 (by decide) ?_
        refine SW.iadd dX10_tryGuests_100 ?_
        refine SW.cvv3 kV_X10_308 (by omega) aw_cl10 kp_120 (by decide) (hW.le (by decide)) rfl (Nat.le_of_ble_eq_true rfl) dX10_tryGuests_101 (SMv.mono vc ?_)
        intro n4 σ4 τ4 θ4 vc
        obtain ⟨hW, vc⟩ := vc
        refine SW.iinc (v := (x4 + (1 : Int32))) dX10_tryGuests_104 rfl rfl (by decide) rfl rfl ?_
        refine SW.goto 42 dX10_tryGuests_107 (by decide) ?_
        exact vc
      · replace vc := vc.2 hbr
        refine SW.goto 104 dX10_tryGuests_77 (by decide) ?_
        refine SW.iinc (v := (x4 + (1 : Int32))) dX10_tryGuests_104 rfl rfl (by decide) rfl rfl ?_
        refine SW.goto 42 dX10_tryGuests_107 (by decide) ?_
        exact vc
theorem ctX10_tryGuests {G : GG} {k : Nat} {q : Nat → SG → TU → TH → Prop} {n : Nat} {σ : SG} {τ : TU} {θ : TH} (x1 : Int32) (x2 : Int32) (x3 : Int32) (h : SW G k mX10_tryGuests (aw_qv q) 0 0 0 [some (.ref 120), some (.int x1), some (.int x2), some (.int x3), none] [] (n, σ, τ, θ)) : SMv G k mX10_tryGuests 0 0 [.ref 120, .int x1, .int x2, .int x3] n σ τ θ q := SM.of _ rfl rfl (Nat.le_of_ble_eq_true rfl) h
set_option maxHeartbeats 4000000 in
set_option maxRecDepth 20000 in
theorem sgX10_tryRing_0 {G : GG} {k : Nat} {kr : Nat} {q : Nat → SG → TU → TH → Prop} {n : Nat} {σ : SG} {τ : TU} {θ : TH}  (x1 : Int32) (x2 : Int32) (hk : 5 ≤ k) (hk2 : kr + 1 ≤ k)  (hW : aw_WT n θ) (vc : ((x1 < (2 : Int32)) → (SW G k mX10_tryRing (aw_qv q) 0 0 55 [some (.ref 120), some (.int x1), some (.int x2), some (.int (0 : Int32))] [] (n, σ, τ, θ))) ∧ ((¬ x1 < (2 : Int32)) → (vp_in (x1 - (1 : Int32)) 5 ∧ (SMi G 4 mX10_owesNow 0 0 [.ref 120, .int (σ 131 (x1 - (1 : Int32)).toNatClampNeg), .int (σ 131 0)] n σ τ θ (fun a1 n1 σ1 τ1 θ1 => aw_WT n1 θ1 ∧ (((a1 = 0) → (SW G k mX10_tryRing (aw_qv q) 0 0 55 [some (.ref 120), some (.int x1), some (.int x2), some (.int (0 : Int32))] [] (n1, σ1, τ1, θ1))) ∧ ((¬ a1 = 0) → ((((σ1 120 29) ≤ x1) → (SW G k mX10_tryRing (aw_qv q) 0 0 55 [some (.ref 120), some (.int x1), some (.int x2), some (.int (0 : Int32))] [] (n1, σ1, τ1, θ1))) ∧ ((¬ (σ1 120 29) ≤ x1) → (SMv G 1 mX10_copy 0 0 [.ref 131, .int (0 : Int32), .ref 132, .int (0 : Int32), .int (5 : Int32)] n1 (aw_u σ1 120 29 x1) τ1 θ1 (fun n2 σ2 τ2 θ2 => aw_WT n2 θ2 ∧ (SW G k mX10_tryRing (aw_qv q) 0 0 55 [some (.ref 120), some (.int x1), some (.int x2), some (.int (0 : Int32))] [] (n2, σ2, τ2, θ2))))))))))))) : SW G k mX10_tryRing (aw_qv q) 0 0 0 [some (.ref 120), some (.int x1), some (.int x2), none] [] (n, σ, τ, θ) := by
  refine SW.iload_n dX10_tryRing_0 rfl ?_
  refine SW.iconst (v := (2 : Int32)) dX10_tryRing_1 (by decide) ?_
  refine SW.icmp_lt 53 dX10_tryRing_2 (by decide) (fun hbr => ?_) (fun hbr => ?_)
  · replace vc := vc.1 hbr
    refine SW.iconst (v := (0 : Int32)) dX10_tryRing_53 (by decide) ?_
    refine SW.istore_n dX10_tryRing_54 (by decide) rfl rfl ?_
    exact vc
  · replace vc := vc.2 hbr
    refine SW.aload_n dX10_tryRing_5 rfl ?_
    refine SW.aload_n dX10_tryRing_6 rfl ?_
    refine SW.getS (f := 27) (r := 131) aw_cl10 kp_120 (by decide) (hW.le (by decide)) (by decide) ww_1269 dX10_tryRing_7 rfl hW.t120_27 ?_
    refine SW.iload_n dX10_tryRing_10 rfl ?_
    refine SW.iconst (v := (1 : Int32)) dX10_tryRing_11 (by decide) ?_
    refine SW.isub dX10_tryRing_12 ?_
    refine SW.iald kp_131 (by decide) (hW.le (by decide)) vc.1 dX10_tryRing_13 ?_
    replace vc := vc.2
    refine SW.aload_n dX10_tryRing_14 rfl ?_
    refine SW.getS (f := 27) (r := 131) aw_cl10 kp_120 (by decide) (hW.le (by decide)) (by decide) ww_1269 dX10_tryRing_15 rfl hW.t120_27 ?_
    refine SW.iconst (v := (0 : Int32)) dX10_tryRing_18 (by decide) ?_
    refine SW.iald kp_131 (by decide) (hW.le (by decide)) (vp_in_nI (n := 0) (by decide) (by decide)) dX10_tryRing_19 ?_
    refine SW.cvi2 kV_X10_315 (by omega) aw_cl10 kp_120 (by decide) (hW.le (by decide)) rfl (Nat.le_of_ble_eq_true rfl) dX10_tryRing_20 (SMi.mono vc ?_)
    intro a1 n1 σ1 τ1 θ1 vc
    obtain ⟨hW, vc⟩ := vc
    refine SW.if_eq 53 dX10_tryRing_23 (by decide) (fun hbr => ?_) (fun hbr => ?_)
    · replace vc := vc.1 hbr
      refine SW.iconst (v := (0 : Int32)) dX10_tryRing_53 (by decide) ?_
      refine SW.istore_n dX10_tryRing_54 (by decide) rfl rfl ?_
      exact vc
    · replace vc := vc.2 hbr
      refine SW.iload_n dX10_tryRing_26 rfl ?_
      refine SW.aload_n dX10_tryRing_27 rfl ?_
      refine SW.getI (f := 29) aw_cl10 kp_120 (by decide) (hW.le (by decide)) (by decide) ww_1271 dX10_tryRing_28 rfl ?_
      refine SW.icmp_ge 53 dX10_tryRing_31 (by decide) (fun hbr => ?_) (fun hbr => ?_)
      · replace vc := vc.1 hbr
        refine SW.iconst (v := (0 : Int32)) dX10_tryRing_53 (by decide) ?_
        refine SW.istore_n dX10_tryRing_54 (by decide) rfl rfl ?_
        exact vc
      · replace vc := vc.2 hbr
        refine SW.aload_n dX10_tryRing_34 rfl ?_
        refine SW.iload_n dX10_tryRing_35 rfl ?_
        refine SW.putI (f := 29) aw_cl10 kp_120 (by decide) (hW.le (by decide)) (by decide) ww_1271 (Or.inl rfl) dX10_tryRing_36 rfl rfl rfl ?_
        refine SW.aload_n dX10_tryRing_39 rfl ?_
        refine SW.getS (f := 27) (r := 131) aw_cl10 kp_120 (by decide) (hW.le (by decide)) (by decide) ww_1269 dX10_tryRing_40 rfl hW.t120_27 ?_
        refine SW.iconst (v := (0 : Int32)) dX10_tryRing_43 (by decide) ?_
        refine SW.aload_n dX10_tryRing_44 rfl ?_
        refine SW.getS (f := 28) (r := 132) aw_cl10 kp_120 (by decide) (hW.le (by decide)) (by decide) ww_1270 dX10_tryRing_45 rfl hW.t120_28 ?_
        refine SW.iconst (v := (0 : Int32)) dX10_tryRing_48 (by decide) ?_
        refine SW.iconst (v := (5 : Int32)) dX10_tryRing_49 (by decide) ?_
        refine SW.csv5 kS_X10_163 (by omega) (Nat.le_of_ble_eq_true rfl) dX10_tryRing_50 (SMv.mono vc ?_)
        intro n2 σ2 τ2 θ2 vc
        obtain ⟨hW, vc⟩ := vc
        refine SW.iconst (v := (0 : Int32)) dX10_tryRing_53 (by decide) ?_
        refine SW.istore_n dX10_tryRing_54 (by decide) rfl rfl ?_
        exact vc
set_option maxHeartbeats 4000000 in
set_option maxRecDepth 20000 in
theorem sgX10_tryRing_55 {G : GG} {k : Nat} {kr : Nat} {q : Nat → SG → TU → TH → Prop} {n : Nat} {σ : SG} {τ : TU} {θ : TH}  (x1 : Int32) (x2 : Int32) (x3 : Int32) (hk : 5 ≤ k) (hk2 : kr + 1 ≤ k)  (hW : aw_WT n θ) (vc : (((σ 123 4) ≤ x3) → (q n σ τ θ)) ∧ ((¬ (σ 123 4) ≤ x3) → (SMi G 1 mX10_hasBit 0 0 [.int x2, .int x3] n σ τ θ (fun a1 n1 σ1 τ1 θ1 => aw_WT n1 θ1 ∧ (((¬ a1 = 0) → (SW G k mX10_tryRing (aw_qv q) 0 0 55 [some (.ref 120), some (.int x1), some (.int x2), some (.int (x3 + (1 : Int32)))] [] (n1, σ1, τ1, θ1))) ∧ ((a1 = 0) → (vp_in (x1 - (1 : Int32)) 5 ∧ (SMi G 4 mX10_owesNow 0 0 [.ref 120, .int (σ1 131 (x1 - (1 : Int32)).toNatClampNeg), .int x3] n1 σ1 τ1 θ1 (fun a2 n2 σ2 τ2 θ2 => aw_WT n2 θ2 ∧ (((¬ a2 = 0) → (vp_in x1 5 ∧ (SMv G kr mX10_tryRing 0 0 [.ref 120, .int (x1 + (1 : Int32)), .int (x2 ||| ((1 : Int32) <<< (x3 &&& 31)))] n2 (aw_u σ2 131 x1.toNatClampNeg x3) τ2 θ2 (fun n3 σ3 τ3 θ3 => aw_WT n3 θ3 ∧ (SW G k mX10_tryRing (aw_qv q) 0 0 55 [some (.ref 120), some (.int x1), some (.int x2), some (.int (x3 + (1 : Int32)))] [] (n3, σ3, τ3, θ3)))))) ∧ ((a2 = 0) → (SW G k mX10_tryRing (aw_qv q) 0 0 55 [some (.ref 120), some (.int x1), some (.int x2), some (.int (x3 + (1 : Int32)))] [] (n2, σ2, τ2, θ2))))))))))))) : SW G k mX10_tryRing (aw_qv q) 0 0 55 [some (.ref 120), some (.int x1), some (.int x2), some (.int x3)] [] (n, σ, τ, θ) := by
  refine SW.iload_n dX10_tryRing_55 rfl ?_
  refine SW.aload_n dX10_tryRing_56 rfl ?_
  refine SW.getS (f := 15) (r := 123) aw_cl10 kp_120 (by decide) (hW.le (by decide)) (by decide) ww_1257 dX10_tryRing_57 rfl hW.t120_15 ?_
  refine SW.iconst (v := (4 : Int32)) dX10_tryRing_60 (by decide) ?_
  refine SW.iald kp_123 (by decide) (hW.le (by decide)) (vp_in_nI (n := 4) (by decide) (by decide)) dX10_tryRing_61 ?_
  refine SW.icmp_ge 117 dX10_tryRing_62 (by decide) (fun hbr => ?_) (fun hbr => ?_)
  · replace vc := vc.1 hbr
    exact SW.vret dX10_tryRing_117 rfl ⟨rfl, vc⟩
  · replace vc := vc.2 hbr
    refine SW.iload_n dX10_tryRing_65 rfl ?_
    refine SW.iload_n dX10_tryRing_66 rfl ?_
    refine SW.csi2 kS_X10_250 (by omega) (Nat.le_of_ble_eq_true rfl) dX10_tryRing_67 (SMi.mono vc ?_)
    intro a1 n1 σ1 τ1 θ1 vc
    obtain ⟨hW, vc⟩ := vc
    refine SW.if_ne 111 dX10_tryRing_70 (by decide) (fun hbr => ?_) (fun hbr => ?_)
    · replace vc := vc.1 hbr
      refine SW.iinc (v := (x3 + (1 : Int32))) dX10_tryRing_111 rfl rfl (by decide) rfl rfl ?_
      refine SW.goto 55 dX10_tryRing_114 (by decide) ?_
      exact vc
    · replace vc := vc.2 hbr
      refine SW.aload_n dX10_tryRing_73 rfl ?_
      refine SW.aload_n dX10_tryRing_74 rfl ?_
      refine SW.getS (f := 27) (r := 131) aw_cl10 kp_120 (by decide) (hW.le (by decide)) (by decide) ww_1269 dX10_tryRing_75 rfl hW.t120_27 ?_
      refine SW.iload_n dX10_tryRing_78 rfl ?_
      refine SW.iconst (v := (1 : Int32)) dX10_tryRing_79 (by decide) ?_
      refine SW.isub dX10_tryRing_80 ?_
      refine SW.iald kp_131 (by decide) (hW.le (by decide)) vc.1 dX10_tryRing_81 ?_
      replace vc := vc.2
      refine SW.iload_n dX10_tryRing_82 rfl ?_
      refine SW.cvi2 kV_X10_315 (by omega) aw_cl10 kp_120 (by decide) (hW.le (by decide)) rfl (Nat.le_of_ble_eq_true rfl) dX10_tryRing_83 (SMi.mono vc ?_)
      intro a2 n2 σ2 τ2 θ2 vc
      obtain ⟨hW, vc⟩ := vc
      refine SW.if_ne 92 dX10_tryRing_86 (by decide) (fun hbr => ?_) (fun hbr => ?_)
      · replace vc := vc.1 hbr
        refine SW.aload_n dX10_tryRing_92 rfl ?_
        refine SW.getS (f := 27) (r := 131) aw_cl10 kp_120 (by decide) (hW.le (by decide)) (by decide) ww_1269 dX10_tryRing_93 rfl hW.t120_27 ?_
        refine SW.iload_n dX10_tryRing_96 rfl ?_
        refine SW.iload_n dX10_tryRing_97 rfl ?_
        refine SW.iast kp_131 (by decide) (hW.le (by decide)) vc.1 dX10_tryRing_98 ?_
        replace vc := vc.2
        refine SW.aload_n dX10_tryRing_99 rfl ?_
        refine SW.iload_n dX10_tryRing_100 rfl ?_
        refine SW.iconst (v := (1 : Int32)) dX10_tryRing_101 (by decide) ?_
        refine SW.iadd dX10_tryRing_102 ?_
        refine SW.iload_n dX10_tryRing_103 rfl ?_
        refine SW.iconst (v := (1 : Int32)) dX10_tryRing_104 (by decide) ?_
        refine SW.iload_n dX10_tryRing_105 rfl ?_
        refine SW.ishl dX10_tryRing_106 ?_
        refine SW.ior dX10_tryRing_107 ?_
        refine SW.cvv2 kV_X10_321 (by omega) aw_cl10 kp_120 (by decide) (hW.le (by decide)) rfl (Nat.le_of_ble_eq_true rfl) dX10_tryRing_108 (SMv.mono vc ?_)
        intro n3 σ3 τ3 θ3 vc
        obtain ⟨hW, vc⟩ := vc
        refine SW.iinc (v := (x3 + (1 : Int32))) dX10_tryRing_111 rfl rfl (by decide) rfl rfl ?_
        refine SW.goto 55 dX10_tryRing_114 (by decide) ?_
        exact vc
      · replace vc := vc.2 hbr
        refine SW.goto 111 dX10_tryRing_89 (by decide) ?_
        refine SW.iinc (v := (x3 + (1 : Int32))) dX10_tryRing_111 rfl rfl (by decide) rfl rfl ?_
        refine SW.goto 55 dX10_tryRing_114 (by decide) ?_
        exact vc
theorem ctX10_tryRing {G : GG} {k : Nat} {q : Nat → SG → TU → TH → Prop} {n : Nat} {σ : SG} {τ : TU} {θ : TH} (x1 : Int32) (x2 : Int32) (h : SW G k mX10_tryRing (aw_qv q) 0 0 0 [some (.ref 120), some (.int x1), some (.int x2), none] [] (n, σ, τ, θ)) : SMv G k mX10_tryRing 0 0 [.ref 120, .int x1, .int x2] n σ τ θ q := SM.of _ rfl rfl (Nat.le_of_ble_eq_true rfl) h
set_option maxHeartbeats 4000000 in
set_option maxRecDepth 20000 in
theorem sgX10_undo_0 {G : GG} {k : Nat} {q : Int32 → Nat → SG → TU → TH → Prop} {n : Nat} {σ : SG} {τ : TU} {θ : TH}   (hk : 2 ≤ k)  (hW : aw_WT n θ) (vc : SMv G 1 mX10_good 0 0 [.ref 120] n σ τ θ (fun n1 σ1 τ1 θ1 => aw_WT n1 θ1 ∧ (((¬ (σ1 120 20) = 0) → (SMv G 1 mX10_copy 0 0 [.ref 126, .int ((13 : Int32) * ((aw_u σ1 120 20 ((σ1 120 20) - (1 : Int32))) 120 20)), .ref 125, .int (0 : Int32), .int (13 : Int32)] n1 (aw_u σ1 120 20 ((σ1 120 20) - (1 : Int32))) τ1 θ1 (fun n2 σ2 τ2 θ2 => aw_WT n2 θ2 ∧ (q (1 : Int32) n2 σ2 τ2 θ2)))) ∧ (((σ1 120 20) = 0) → (SMi G 1 mX10_isNot 0 0 [.ref 120, .int (6 : Int32)] n1 σ1 τ1 θ1 (fun a3 n3 σ3 τ3 θ3 => aw_WT n3 θ3 ∧ ((a3 = 0 ∨ a3 = 1) ∧ q a3 n3 σ3 τ3 θ3))))))) : SW G k mX10_undo (aw_qi q) 0 0 0 [some (.ref 120)] [] (n, σ, τ, θ) := by
  refine SW.aload_n dX10_undo_0 rfl ?_
  refine SW.cvv0 kV_X10_154 (by omega) aw_cl10 kp_120 (by decide) (hW.le (by decide)) rfl (Nat.le_of_ble_eq_true rfl) dX10_undo_1 (SMv.mono vc ?_)
  intro n1 σ1 τ1 θ1 vc
  obtain ⟨hW, vc⟩ := vc
  refine SW.aload_n dX10_undo_4 rfl ?_
  refine SW.getI (f := 20) aw_cl10 kp_120 (by decide) (hW.le (by decide)) (by decide) ww_1262 dX10_undo_5 rfl ?_
  refine SW.if_ne 18 dX10_undo_8 (by decide) (fun hbr => ?_) (fun hbr => ?_)
  · replace vc := vc.1 hbr
    refine SW.aload_n dX10_undo_18 rfl ?_
    refine SW.dup dX10_undo_19 rfl ?_
    refine SW.getI (f := 20) aw_cl10 kp_120 (by decide) (hW.le (by decide)) (by decide) ww_1262 dX10_undo_20 rfl ?_
    refine SW.iconst (v := (1 : Int32)) dX10_undo_23 (by decide) ?_
    refine SW.isub dX10_undo_24 ?_
    refine SW.putI (f := 20) aw_cl10 kp_120 (by decide) (hW.le (by decide)) (by decide) ww_1262 (Or.inl rfl) dX10_undo_25 rfl rfl rfl ?_
    refine SW.aload_n dX10_undo_28 rfl ?_
    refine SW.getS (f := 18) (r := 126) aw_cl10 kp_120 (by decide) (hW.le (by decide)) (by decide) ww_1260 dX10_undo_29 rfl hW.t120_18 ?_
    refine SW.bipush (v := (13 : Int32)) dX10_undo_32 (by decide) ?_
    refine SW.aload_n dX10_undo_34 rfl ?_
    refine SW.getI (f := 20) aw_cl10 kp_120 (by decide) (hW.le (by decide)) (by decide) ww_1262 dX10_undo_35 rfl ?_
    refine SW.imul dX10_undo_38 ?_
    refine SW.aload_n dX10_undo_39 rfl ?_
    refine SW.getS (f := 17) (r := 125) aw_cl10 kp_120 (by decide) (hW.le (by decide)) (by decide) ww_1259 dX10_undo_40 rfl hW.t120_17 ?_
    refine SW.iconst (v := (0 : Int32)) dX10_undo_43 (by decide) ?_
    refine SW.bipush (v := (13 : Int32)) dX10_undo_44 (by decide) ?_
    refine SW.csv5 kS_X10_163 (by omega) (Nat.le_of_ble_eq_true rfl) dX10_undo_46 (SMv.mono vc ?_)
    intro n2 σ2 τ2 θ2 vc
    obtain ⟨hW, vc⟩ := vc
    refine SW.iconst (v := (1 : Int32)) dX10_undo_49 (by decide) ?_
    exact SW.iret dX10_undo_50 rfl rfl ⟨_, rfl, vc⟩
  · replace vc := vc.2 hbr
    refine SW.aload_n dX10_undo_11 rfl ?_
    refine SW.bipush (v := (6 : Int32)) dX10_undo_12 (by decide) ?_
    refine SW.cvi1 kV_X10_412 (by omega) aw_cl10 kp_120 (by decide) (hW.le (by decide)) rfl (Nat.le_of_ble_eq_true rfl) dX10_undo_14 (SMi.mono vc ?_)
    intro a3 n3 σ3 τ3 θ3 vc
    obtain ⟨hW, vc⟩ := vc
    exact SW.iret dX10_undo_17 rfl (aw_nb vc.1) ⟨_, rfl, vc.2⟩
theorem ctX10_undo {G : GG} {q : Int32 → Nat → SG → TU → TH → Prop} {n : Nat} {σ : SG} {τ : TU} {θ : TH}  (h : SW G 2 mX10_undo (aw_qi q) 0 0 0 [some (.ref 120)] [] (n, σ, τ, θ)) : SMi G 2 mX10_undo 0 0 [.ref 120] n σ τ θ q := SM.of _ rfl rfl (Nat.le_of_ble_eq_true rfl) h
set_option maxHeartbeats 4000000 in
set_option maxRecDepth 20000 in
theorem sgX10_upwards_0 {G : GG} {k : Nat} {q : Int32 → Nat → SG → TU → TH → Prop} {n : Nat} {σ : SG} {τ : TU} {θ : TH}  (x0 : Int32) (x1 : Int32) (hk : 1 ≤ k)  (hW : aw_WT n θ) (vc : (¬ x1 = 0) ∧ (q (((x0 + x1) - (1 : Int32)) / x1) n σ τ θ)) : SW G k mX10_upwards (aw_qi q) 0 0 0 [some (.int x0), some (.int x1)] [] (n, σ, τ, θ) := by
  refine SW.iload_n dX10_upwards_0 rfl ?_
  refine SW.iload_n dX10_upwards_1 rfl ?_
  refine SW.iadd dX10_upwards_2 ?_
  refine SW.iconst (v := (1 : Int32)) dX10_upwards_3 (by decide) ?_
  refine SW.isub dX10_upwards_4 ?_
  refine SW.iload_n dX10_upwards_5 rfl ?_
  refine SW.idiv dX10_upwards_6 vc.1 ?_
  replace vc := vc.2
  exact SW.iret dX10_upwards_7 rfl rfl ⟨_, rfl, vc⟩
theorem ctX10_upwards {G : GG} {q : Int32 → Nat → SG → TU → TH → Prop} {n : Nat} {σ : SG} {τ : TU} {θ : TH} (x0 : Int32) (x1 : Int32) (h : SW G 1 mX10_upwards (aw_qi q) 0 0 0 [some (.int x0), some (.int x1)] [] (n, σ, τ, θ)) : SMi G 1 mX10_upwards 0 0 [.int x0, .int x1] n σ τ θ q := SM.of _ rfl rfl (Nat.le_of_ble_eq_true rfl) h
set_option maxHeartbeats 4000000 in
set_option maxRecDepth 20000 in
theorem sgX10_weeks_0 {G : GG} {k : Nat} {q : Int64 → Nat → SG → TU → TH → Prop} {n : Nat} {σ : SG} {τ : TU} {θ : TH}  (x1 : Int32) (x2 : Int32) (hk : 2 ≤ k)  (hW : aw_WT n θ) (vc : SMv G 1 mX10_good 0 0 [.ref 120] n σ τ θ (fun n1 σ1 τ1 θ1 => aw_WT n1 θ1 ∧ (SMi G 1 mX10_in 0 0 [.int x1, .int (0 : Int32), .int (8 : Int32)] n1 σ1 τ1 θ1 (fun a2 n2 σ2 τ2 θ2 => aw_WT n2 θ2 ∧ (SMi G 1 mX10_why 0 0 [.ref 120, .int (σ1 120 14), .int a2] n2 σ2 τ2 θ2 (fun a3 n3 σ3 τ3 θ3 => aw_WT n3 θ3 ∧ (((a3 = 0) → (SW G k mX10_weeks (aw_ql q) 0 0 37 [some (.ref 120), some (.int x1), some (.int x2), none, some (.long (0 : Int64)), none, some (.int (1 : Int32))] [] (n3, σ3, τ3, θ3))) ∧ ((¬ a3 = 0) → (SMi G 1 mX10_no 0 0 [.ref 120, .int a3] n3 σ3 τ3 θ3 (fun a4 n4 σ4 τ4 θ4 => aw_WT n4 θ4 ∧ (q (a4.toInt64) n4 σ4 τ4 θ4))))))))))) : SW G k mX10_weeks (aw_ql q) 0 0 0 [some (.ref 120), some (.int x1), some (.int x2), none, none, none, none] [] (n, σ, τ, θ) := by
  refine SW.aload_n dX10_weeks_0 rfl ?_
  refine SW.cvv0 kV_X10_154 (by omega) aw_cl10 kp_120 (by decide) (hW.le (by decide)) rfl (Nat.le_of_ble_eq_true rfl) dX10_weeks_1 (SMv.mono vc ?_)
  intro n1 σ1 τ1 θ1 vc
  obtain ⟨hW, vc⟩ := vc
  refine SW.aload_n dX10_weeks_4 rfl ?_
  refine SW.aload_n dX10_weeks_5 rfl ?_
  refine SW.getI (f := 14) aw_cl10 kp_120 (by decide) (hW.le (by decide)) (by decide) ww_1256 dX10_weeks_6 rfl ?_
  refine SW.iload_n dX10_weeks_9 rfl ?_
  refine SW.iconst (v := (0 : Int32)) dX10_weeks_10 (by decide) ?_
  refine SW.bipush (v := (8 : Int32)) dX10_weeks_11 (by decide) ?_
  refine SW.csi3 kS_X10_139 (by omega) (Nat.le_of_ble_eq_true rfl) dX10_weeks_13 (SMi.mono vc ?_)
  intro a2 n2 σ2 τ2 θ2 vc
  obtain ⟨hW, vc⟩ := vc
  refine SW.cvi2 kV_X10_289 (by omega) aw_cl10 kp_120 (by decide) (hW.le (by decide)) rfl (Nat.le_of_ble_eq_true rfl) dX10_weeks_16 (SMi.mono vc ?_)
  intro a3 n3 σ3 τ3 θ3 vc
  obtain ⟨hW, vc⟩ := vc
  refine SW.istore_n dX10_weeks_19 (by decide) rfl rfl ?_
  refine SW.iload_n dX10_weeks_20 rfl ?_
  refine SW.if_eq 31 dX10_weeks_21 (by decide) (fun hbr => ?_) (fun hbr => ?_)
  · replace vc := vc.1 hbr
    refine SW.lconst (v := (0 : Int64)) dX10_weeks_31 (by decide) ?_
    refine SW.lstore dX10_weeks_32 (by decide) rfl rfl ?_
    refine SW.iconst (v := (1 : Int32)) dX10_weeks_34 (by decide) ?_
    refine SW.istore dX10_weeks_35 (by decide) rfl rfl ?_
    refine SW.msk [true, true, true, false, true, true, true] rfl ?_
    exact vc
  · replace vc := vc.2 hbr
    refine SW.aload_n dX10_weeks_24 rfl ?_
    refine SW.iload_n dX10_weeks_25 rfl ?_
    refine SW.cvi1 kV_X10_157 (by omega) aw_cl10 kp_120 (by decide) (hW.le (by decide)) rfl (Nat.le_of_ble_eq_true rfl) dX10_weeks_26 (SMi.mono vc ?_)
    intro a4 n4 σ4 τ4 θ4 vc
    obtain ⟨hW, vc⟩ := vc
    refine SW.i2l dX10_weeks_29 ?_
    exact SW.lret dX10_weeks_30 rfl ⟨_, rfl, vc⟩
set_option maxHeartbeats 4000000 in
set_option maxRecDepth 20000 in
theorem sgX10_weeks_37 {G : GG} {k : Nat} {q : Int64 → Nat → SG → TU → TH → Prop} {n : Nat} {σ : SG} {τ : TU} {θ : TH}  (x1 : Int32) (x2 : Int32) (x4 : Int64) (x6 : Int32) (hk : 2 ≤ k)  (hW : aw_WT n θ) (vc : ((x1 < x6) → (SMl G 1 mX10_power 0 0 [.long (100 : Int64), .int x1] n σ τ θ (fun a1 n1 σ1 τ1 θ1 => aw_WT n1 θ1 ∧ (SMl G 1 mX10_lowest 0 0 [.long x4, .long a1, .int x2] n1 σ1 τ1 θ1 (fun a2 n2 σ2 τ2 θ2 => aw_WT n2 θ2 ∧ (q a2 n2 σ2 τ2 θ2)))))) ∧ ((¬ x1 < x6) → (SMl G 1 mX10_power 0 0 [.long ((σ 123 2).toInt64), .int x6] n σ τ θ (fun a3 n3 σ3 τ3 θ3 => aw_WT n3 θ3 ∧ (SMl G 1 mX10_power 0 0 [.long (100 : Int64), .int (x1 - x6)] n3 σ3 τ3 θ3 (fun a4 n4 σ4 τ4 θ4 => aw_WT n4 θ4 ∧ (SW G k mX10_weeks (aw_ql q) 0 0 37 [some (.ref 120), some (.int x1), some (.int x2), none, some (.long (x4 + (a3 * a4))), none, some (.int (x6 + (1 : Int32)))] [] (n4, σ4, τ4, θ4)))))))) : SW G k mX10_weeks (aw_ql q) 0 0 37 [some (.ref 120), some (.int x1), some (.int x2), none, some (.long x4), none, some (.int x6)] [] (n, σ, τ, θ) := by
  refine SW.iload dX10_weeks_37 rfl ?_
  refine SW.iload_n dX10_weeks_39 rfl ?_
  refine SW.icmp_gt 77 dX10_weeks_40 (by decide) (fun hbr => ?_) (fun hbr => ?_)
  · replace vc := vc.1 hbr
    refine SW.lload dX10_weeks_77 rfl ?_
    refine SW.ldc2 (v := (100 : Int64)) ww_1792 dX10_weeks_79 ?_
    refine SW.iload_n dX10_weeks_82 rfl ?_
    refine SW.csl2 kS_X10_388 (by omega) (Nat.le_of_ble_eq_true rfl) dX10_weeks_83 (SMl.mono vc ?_)
    intro a1 n1 σ1 τ1 θ1 vc
    obtain ⟨hW, vc⟩ := vc
    refine SW.iload_n dX10_weeks_86 rfl ?_
    refine SW.csl3 kS_X10_348 (by omega) (Nat.le_of_ble_eq_true rfl) dX10_weeks_87 (SMl.mono vc ?_)
    intro a2 n2 σ2 τ2 θ2 vc
    obtain ⟨hW, vc⟩ := vc
    exact SW.lret dX10_weeks_90 rfl ⟨_, rfl, vc⟩
  · replace vc := vc.2 hbr
    refine SW.lload dX10_weeks_43 rfl ?_
    refine SW.aload_n dX10_weeks_45 rfl ?_
    refine SW.getS (f := 15) (r := 123) aw_cl10 kp_120 (by decide) (hW.le (by decide)) (by decide) ww_1257 dX10_weeks_46 rfl hW.t120_15 ?_
    refine SW.iconst (v := (2 : Int32)) dX10_weeks_49 (by decide) ?_
    refine SW.iald kp_123 (by decide) (hW.le (by decide)) (vp_in_nI (n := 2) (by decide) (by decide)) dX10_weeks_50 ?_
    refine SW.i2l dX10_weeks_51 ?_
    refine SW.iload dX10_weeks_52 rfl ?_
    refine SW.csl2 kS_X10_388 (by omega) (Nat.le_of_ble_eq_true rfl) dX10_weeks_54 (SMl.mono vc ?_)
    intro a3 n3 σ3 τ3 θ3 vc
    obtain ⟨hW, vc⟩ := vc
    refine SW.ldc2 (v := (100 : Int64)) ww_1792 dX10_weeks_57 ?_
    refine SW.iload_n dX10_weeks_60 rfl ?_
    refine SW.iload dX10_weeks_61 rfl ?_
    refine SW.isub dX10_weeks_63 ?_
    refine SW.csl2 kS_X10_388 (by omega) (Nat.le_of_ble_eq_true rfl) dX10_weeks_64 (SMl.mono vc ?_)
    intro a4 n4 σ4 τ4 θ4 vc
    obtain ⟨hW, vc⟩ := vc
    refine SW.lmul dX10_weeks_67 ?_
    refine SW.ladd dX10_weeks_68 ?_
    refine SW.lstore dX10_weeks_69 (by decide) rfl rfl ?_
    refine SW.iinc (v := (x6 + (1 : Int32))) dX10_weeks_71 rfl rfl (by decide) rfl rfl ?_
    refine SW.goto 37 dX10_weeks_74 (by decide) ?_
    exact vc
theorem ctX10_weeks {G : GG} {q : Int64 → Nat → SG → TU → TH → Prop} {n : Nat} {σ : SG} {τ : TU} {θ : TH} (x1 : Int32) (x2 : Int32) (h : SW G 2 mX10_weeks (aw_ql q) 0 0 0 [some (.ref 120), some (.int x1), some (.int x2), none, none, none, none] [] (n, σ, τ, θ)) : SMl G 2 mX10_weeks 0 0 [.ref 120, .int x1, .int x2] n σ τ θ q := SM.of _ rfl rfl (Nat.le_of_ble_eq_true rfl) h
set_option maxHeartbeats 4000000 in
set_option maxRecDepth 20000 in
theorem sgX10_weightOf_0 {G : GG} {k : Nat} {q : Int64 → Nat → SG → TU → TH → Prop} {n : Nat} {σ : SG} {τ : TU} {θ : TH}  (x1 : Int32) (hk : 5 ≤ k)  (hW : aw_WT n θ) (vc : SW G k mX10_weightOf (aw_ql q) 0 0 10 [some (.ref 120), none, some (.long (1 : Int64)), none, some (.int (0 : Int32))] [] (n, (aw_u σ 120 22 x1), τ, θ)) : SW G k mX10_weightOf (aw_ql q) 0 0 0 [some (.ref 120), some (.int x1), none, none, none] [] (n, σ, τ, θ) := by
  refine SW.aload_n dX10_weightOf_0 rfl ?_
  refine SW.iload_n dX10_weightOf_1 rfl ?_
  refine SW.putI (f := 22) aw_cl10 kp_120 (by decide) (hW.le (by decide)) (by decide) ww_1264 (Or.inl rfl) dX10_weightOf_2 rfl rfl rfl ?_
  refine SW.lconst (v := (1 : Int64)) dX10_weightOf_5 (by decide) ?_
  refine SW.lstore_n dX10_weightOf_6 (by decide) rfl rfl ?_
  refine SW.iconst (v := (0 : Int32)) dX10_weightOf_7 (by decide) ?_
  refine SW.istore dX10_weightOf_8 (by decide) rfl rfl ?_
  refine SW.msk [true, false, true, true, true] rfl ?_
  exact vc
set_option maxHeartbeats 4000000 in
set_option maxRecDepth 20000 in
theorem sgX10_weightOf_10 {G : GG} {k : Nat} {q : Int64 → Nat → SG → TU → TH → Prop} {n : Nat} {σ : SG} {τ : TU} {θ : TH}  (x2 : Int64) (x4 : Int32) (hk : 5 ≤ k)  (hW : aw_WT n θ) (vc : (((σ 123 9) ≤ x4) → (q x2 n σ τ θ)) ∧ ((¬ (σ 123 9) ≤ x4) → (vp_in ((78 : Int32) + ((2 : Int32) * x4)) 167 ∧ (SMi G 4 mX10_headOf 0 0 [.ref 120, .ref 125, .int (σ 123 ((78 : Int32) + ((2 : Int32) * x4)).toNatClampNeg)] n σ τ θ (fun a1 n1 σ1 τ1 θ1 => aw_WT n1 θ1 ∧ (vp_in (((78 : Int32) + ((2 : Int32) * x4)) + (1 : Int32)) 167 ∧ (SMl G 1 mX10_readAs 0 0 [.ref 120, .int a1, .int (σ1 123 (((78 : Int32) + ((2 : Int32) * x4)) + (1 : Int32)).toNatClampNeg)] n1 σ1 τ1 θ1 (fun a2 n2 σ2 τ2 θ2 => aw_WT n2 θ2 ∧ (SW G k mX10_weightOf (aw_ql q) 0 0 10 [some (.ref 120), none, some (.long (x2 * a2)), none, some (.int (x4 + (1 : Int32)))] [] (n2, σ2, τ2, θ2)))))))))) : SW G k mX10_weightOf (aw_ql q) 0 0 10 [some (.ref 120), none, some (.long x2), none, some (.int x4)] [] (n, σ, τ, θ) := by
  refine SW.iload dX10_weightOf_10 rfl ?_
  refine SW.aload_n dX10_weightOf_12 rfl ?_
  refine SW.getS (f := 15) (r := 123) aw_cl10 kp_120 (by decide) (hW.le (by decide)) (by decide) ww_1257 dX10_weightOf_13 rfl hW.t120_15 ?_
  refine SW.bipush (v := (9 : Int32)) dX10_weightOf_16 (by decide) ?_
  refine SW.iald kp_123 (by decide) (hW.le (by decide)) (vp_in_nI (n := 9) (by decide) (by decide)) dX10_weightOf_18 ?_
  refine SW.icmp_ge 69 dX10_weightOf_19 (by decide) (fun hbr => ?_) (fun hbr => ?_)
  · replace vc := vc.1 hbr
    refine SW.lload_n dX10_weightOf_69 rfl ?_
    exact SW.lret dX10_weightOf_70 rfl ⟨_, rfl, vc⟩
  · replace vc := vc.2 hbr
    refine SW.lload_n dX10_weightOf_22 rfl ?_
    refine SW.aload_n dX10_weightOf_23 rfl ?_
    refine SW.aload_n dX10_weightOf_24 rfl ?_
    refine SW.aload_n dX10_weightOf_25 rfl ?_
    refine SW.getS (f := 17) (r := 125) aw_cl10 kp_120 (by decide) (hW.le (by decide)) (by decide) ww_1259 dX10_weightOf_26 rfl hW.t120_17 ?_
    refine SW.aload_n dX10_weightOf_29 rfl ?_
    refine SW.getS (f := 15) (r := 123) aw_cl10 kp_120 (by decide) (hW.le (by decide)) (by decide) ww_1257 dX10_weightOf_30 rfl hW.t120_15 ?_
    refine SW.bipush (v := (78 : Int32)) dX10_weightOf_33 (by decide) ?_
    refine SW.iconst (v := (2 : Int32)) dX10_weightOf_35 (by decide) ?_
    refine SW.iload dX10_weightOf_36 rfl ?_
    refine SW.imul dX10_weightOf_38 ?_
    refine SW.iadd dX10_weightOf_39 ?_
    refine SW.iald kp_123 (by decide) (hW.le (by decide)) vc.1 dX10_weightOf_40 ?_
    replace vc := vc.2
    refine SW.cvi2 kV_X10_261 (by omega) aw_cl10 kp_120 (by decide) (hW.le (by decide)) rfl (Nat.le_of_ble_eq_true rfl) dX10_weightOf_41 (SMi.mono vc ?_)
    intro a1 n1 σ1 τ1 θ1 vc
    obtain ⟨hW, vc⟩ := vc
    refine SW.aload_n dX10_weightOf_44 rfl ?_
    refine SW.getS (f := 15) (r := 123) aw_cl10 kp_120 (by decide) (hW.le (by decide)) (by decide) ww_1257 dX10_weightOf_45 rfl hW.t120_15 ?_
    refine SW.bipush (v := (78 : Int32)) dX10_weightOf_48 (by decide) ?_
    refine SW.iconst (v := (2 : Int32)) dX10_weightOf_50 (by decide) ?_
    refine SW.iload dX10_weightOf_51 rfl ?_
    refine SW.imul dX10_weightOf_53 ?_
    refine SW.iadd dX10_weightOf_54 ?_
    refine SW.iconst (v := (1 : Int32)) dX10_weightOf_55 (by decide) ?_
    refine SW.iadd dX10_weightOf_56 ?_
    refine SW.iald kp_123 (by decide) (hW.le (by decide)) vc.1 dX10_weightOf_57 ?_
    replace vc := vc.2
    refine SW.cvl2 kV_X10_333 (by omega) aw_cl10 kp_120 (by decide) (hW.le (by decide)) rfl (Nat.le_of_ble_eq_true rfl) dX10_weightOf_58 (SMl.mono vc ?_)
    intro a2 n2 σ2 τ2 θ2 vc
    obtain ⟨hW, vc⟩ := vc
    refine SW.lmul dX10_weightOf_61 ?_
    refine SW.lstore_n dX10_weightOf_62 (by decide) rfl rfl ?_
    refine SW.iinc (v := (x4 + (1 : Int32))) dX10_weightOf_63 rfl rfl (by decide) rfl rfl ?_
    refine SW.goto 10 dX10_weightOf_66 (by decide) ?_
    exact vc
theorem ctX10_weightOf {G : GG} {q : Int64 → Nat → SG → TU → TH → Prop} {n : Nat} {σ : SG} {τ : TU} {θ : TH} (x1 : Int32) (h : SW G 5 mX10_weightOf (aw_ql q) 0 0 0 [some (.ref 120), some (.int x1), none, none, none] [] (n, σ, τ, θ)) : SMl G 5 mX10_weightOf 0 0 [.ref 120, .int x1] n σ τ θ q := SM.of _ rfl rfl (Nat.le_of_ble_eq_true rfl) h
set_option maxHeartbeats 4000000 in
set_option maxRecDepth 20000 in
theorem sgX10_when_0 {G : GG} {k : Nat} {q : Int32 → Nat → SG → TU → TH → Prop} {n : Nat} {σ : SG} {τ : TU} {θ : TH}  (x1 : Int32) (x2 : Int32) (hk : 5 ≤ k)  (hW : aw_WT n θ) (vc : SMv G 1 mX10_good 0 0 [.ref 120] n σ τ θ (fun n1 σ1 τ1 θ1 => aw_WT n1 θ1 ∧ (SMi G 2 mX10_isMan 0 0 [.ref 120, .int x1] n1 σ1 τ1 θ1 (fun a2 n2 σ2 τ2 θ2 => aw_WT n2 θ2 ∧ (SMi G 1 mX10_in 0 0 [.int x2, .int (0 : Int32), .int (99 : Int32)] n2 σ2 τ2 θ2 (fun a3 n3 σ3 τ3 θ3 => aw_WT n3 θ3 ∧ (SMi G 1 mX10_why 0 0 [.ref 120, .int a2, .int a3] n3 σ3 τ3 θ3 (fun a4 n4 σ4 τ4 θ4 => aw_WT n4 θ4 ∧ (((a4 = 0) → (SW G k mX10_when (aw_qi q) 0 0 34 [some (.ref 120), some (.int x1), some (.int x2), none, some (.int (0 : Int32))] [] (n4, σ4, τ4, θ4))) ∧ ((¬ a4 = 0) → (SMi G 1 mX10_no 0 0 [.ref 120, .int a4] n4 σ4 τ4 θ4 (fun a5 n5 σ5 τ5 θ5 => aw_WT n5 θ5 ∧ (q a5 n5 σ5 τ5 θ5))))))))))))) : SW G k mX10_when (aw_qi q) 0 0 0 [some (.ref 120), some (.int x1), some (.int x2), none, none] [] (n, σ, τ, θ) := by
  refine SW.aload_n dX10_when_0 rfl ?_
  refine SW.cvv0 kV_X10_154 (by omega) aw_cl10 kp_120 (by decide) (hW.le (by decide)) rfl (Nat.le_of_ble_eq_true rfl) dX10_when_1 (SMv.mono vc ?_)
  intro n1 σ1 τ1 θ1 vc
  obtain ⟨hW, vc⟩ := vc
  refine SW.aload_n dX10_when_4 rfl ?_
  refine SW.aload_n dX10_when_5 rfl ?_
  refine SW.iload_n dX10_when_6 rfl ?_
  refine SW.cvi1 kV_X10_264 (by omega) aw_cl10 kp_120 (by decide) (hW.le (by decide)) rfl (Nat.le_of_ble_eq_true rfl) dX10_when_7 (SMi.mono vc ?_)
  intro a2 n2 σ2 τ2 θ2 vc
  obtain ⟨hW, vc⟩ := vc
  refine SW.iload_n dX10_when_10 rfl ?_
  refine SW.iconst (v := (0 : Int32)) dX10_when_11 (by decide) ?_
  refine SW.bipush (v := (99 : Int32)) dX10_when_12 (by decide) ?_
  refine SW.csi3 kS_X10_139 (by omega) (Nat.le_of_ble_eq_true rfl) dX10_when_14 (SMi.mono vc ?_)
  intro a3 n3 σ3 τ3 θ3 vc
  obtain ⟨hW, vc⟩ := vc
  refine SW.cvi2 kV_X10_289 (by omega) aw_cl10 kp_120 (by decide) (hW.le (by decide)) rfl (Nat.le_of_ble_eq_true rfl) dX10_when_17 (SMi.mono vc ?_)
  intro a4 n4 σ4 τ4 θ4 vc
  obtain ⟨hW, vc⟩ := vc
  refine SW.istore_n dX10_when_20 (by decide) rfl rfl ?_
  refine SW.iload_n dX10_when_21 rfl ?_
  refine SW.if_eq 31 dX10_when_22 (by decide) (fun hbr => ?_) (fun hbr => ?_)
  · replace vc := vc.1 hbr
    refine SW.iconst (v := (0 : Int32)) dX10_when_31 (by decide) ?_
    refine SW.istore dX10_when_32 (by decide) rfl rfl ?_
    refine SW.msk [true, true, true, false, true] rfl ?_
    exact vc
  · replace vc := vc.2 hbr
    refine SW.aload_n dX10_when_25 rfl ?_
    refine SW.iload_n dX10_when_26 rfl ?_
    refine SW.cvi1 kV_X10_157 (by omega) aw_cl10 kp_120 (by decide) (hW.le (by decide)) rfl (Nat.le_of_ble_eq_true rfl) dX10_when_27 (SMi.mono vc ?_)
    intro a5 n5 σ5 τ5 θ5 vc
    obtain ⟨hW, vc⟩ := vc
    exact SW.iret dX10_when_30 rfl rfl ⟨_, rfl, vc⟩
set_option maxHeartbeats 4000000 in
set_option maxRecDepth 20000 in
theorem sgX10_when_34 {G : GG} {k : Nat} {q : Int32 → Nat → SG → TU → TH → Prop} {n : Nat} {σ : SG} {τ : TU} {θ : TH}  (x1 : Int32) (x2 : Int32) (x4 : Int32) (hk : 5 ≤ k)  (hW : aw_WT n θ) (vc : (((20 : Int32) < x4) → (q (-2 : Int32) n σ τ θ)) ∧ ((¬ (20 : Int32) < x4) → (SMv G 2 mX10_goOver 0 0 [.ref 120, .int x4] n σ τ θ (fun n1 σ1 τ1 θ1 => aw_WT n1 θ1 ∧ (SMi G 4 mX10_headOf 0 0 [.ref 120, .ref 128, .int x1] n1 σ1 τ1 θ1 (fun a2 n2 σ2 τ2 θ2 => aw_WT n2 θ2 ∧ (((a2 < x2) → (SW G k mX10_when (aw_qi q) 0 0 34 [some (.ref 120), some (.int x1), some (.int x2), none, some (.int (x4 + (1 : Int32)))] [] (n2, σ2, τ2, θ2))) ∧ ((¬ a2 < x2) → (q x4 n2 σ2 τ2 θ2))))))))) : SW G k mX10_when (aw_qi q) 0 0 34 [some (.ref 120), some (.int x1), some (.int x2), none, some (.int x4)] [] (n, σ, τ, θ) := by
  refine SW.iload dX10_when_34 rfl ?_
  refine SW.bipush (v := (20 : Int32)) dX10_when_36 (by decide) ?_
  refine SW.icmp_gt 69 dX10_when_38 (by decide) (fun hbr => ?_) (fun hbr => ?_)
  · replace vc := vc.1 hbr
    refine SW.bipush (v := (-2 : Int32)) dX10_when_69 (by decide) ?_
    exact SW.iret dX10_when_71 rfl rfl ⟨_, rfl, vc⟩
  · replace vc := vc.2 hbr
    refine SW.aload_n dX10_when_41 rfl ?_
    refine SW.iload dX10_when_42 rfl ?_
    refine SW.cvv1 kV_X10_293 (by omega) aw_cl10 kp_120 (by decide) (hW.le (by decide)) rfl (Nat.le_of_ble_eq_true rfl) dX10_when_44 (SMv.mono vc ?_)
    intro n1 σ1 τ1 θ1 vc
    obtain ⟨hW, vc⟩ := vc
    refine SW.aload_n dX10_when_47 rfl ?_
    refine SW.aload_n dX10_when_48 rfl ?_
    refine SW.getS (f := 23) (r := 128) aw_cl10 kp_120 (by decide) (hW.le (by decide)) (by decide) ww_1265 dX10_when_49 rfl hW.t120_23 ?_
    refine SW.iload_n dX10_when_52 rfl ?_
    refine SW.cvi2 kV_X10_261 (by omega) aw_cl10 kp_120 (by decide) (hW.le (by decide)) rfl (Nat.le_of_ble_eq_true rfl) dX10_when_53 (SMi.mono vc ?_)
    intro a2 n2 σ2 τ2 θ2 vc
    obtain ⟨hW, vc⟩ := vc
    refine SW.iload_n dX10_when_56 rfl ?_
    refine SW.icmp_lt 63 dX10_when_57 (by decide) (fun hbr => ?_) (fun hbr => ?_)
    · replace vc := vc.1 hbr
      refine SW.iinc (v := (x4 + (1 : Int32))) dX10_when_63 rfl rfl (by decide) rfl rfl ?_
      refine SW.goto 34 dX10_when_66 (by decide) ?_
      exact vc
    · replace vc := vc.2 hbr
      refine SW.iload dX10_when_60 rfl ?_
      exact SW.iret dX10_when_62 rfl rfl ⟨_, rfl, vc⟩
theorem ctX10_when {G : GG} {q : Int32 → Nat → SG → TU → TH → Prop} {n : Nat} {σ : SG} {τ : TU} {θ : TH} (x1 : Int32) (x2 : Int32) (h : SW G 5 mX10_when (aw_qi q) 0 0 0 [some (.ref 120), some (.int x1), some (.int x2), none, none] [] (n, σ, τ, θ)) : SMi G 5 mX10_when 0 0 [.ref 120, .int x1, .int x2] n σ τ θ q := SM.of _ rfl rfl (Nat.le_of_ble_eq_true rfl) h
set_option maxHeartbeats 4000000 in
set_option maxRecDepth 20000 in
theorem sgX10_where_0 {G : GG} {k : Nat} {q : Int32 → Nat → SG → TU → TH → Prop} {n : Nat} {σ : SG} {τ : TU} {θ : TH}   (hk : 1 ≤ k)  (hW : aw_WT n θ) (vc : ((¬ ((aw_u σ 120 0 (0 : Int32)) 120 11) = (4 : Int32)) → (q (-1 : Int32) n (aw_u σ 120 0 (0 : Int32)) τ θ)) ∧ ((((aw_u σ 120 0 (0 : Int32)) 120 11) = (4 : Int32)) → (q ((aw_u σ 120 0 (0 : Int32)) 120 10) n (aw_u σ 120 0 (0 : Int32)) τ θ))) : SW G k mX10_where (aw_qi q) 0 0 0 [some (.ref 120)] [] (n, σ, τ, θ) := by
  refine SW.aload_n dX10_where_0 rfl ?_
  refine SW.iconst (v := (0 : Int32)) dX10_where_1 (by decide) ?_
  refine SW.putI (f := 0) aw_cl10 kp_120 (by decide) (hW.le (by decide)) (by decide) ww_1242 (Or.inl rfl) dX10_where_2 rfl rfl rfl ?_
  refine SW.aload_n dX10_where_5 rfl ?_
  refine SW.getI (f := 11) aw_cl10 kp_120 (by decide) (hW.le (by decide)) (by decide) ww_1253 dX10_where_6 rfl ?_
  refine SW.iconst (v := (4 : Int32)) dX10_where_9 (by decide) ?_
  refine SW.icmp_ne 20 dX10_where_10 (by decide) (fun hbr => ?_) (fun hbr => ?_)
  · replace vc := vc.1 hbr
    refine SW.iconst (v := (-1 : Int32)) dX10_where_20 (by decide) ?_
    exact SW.iret dX10_where_21 rfl rfl ⟨_, rfl, vc⟩
  · replace vc := vc.2 hbr
    refine SW.aload_n dX10_where_13 rfl ?_
    refine SW.getI (f := 10) aw_cl10 kp_120 (by decide) (hW.le (by decide)) (by decide) ww_1252 dX10_where_14 rfl ?_
    refine SW.goto 21 dX10_where_17 (by decide) ?_
    exact SW.iret dX10_where_21 rfl rfl ⟨_, rfl, vc⟩
theorem ctX10_where {G : GG} {q : Int32 → Nat → SG → TU → TH → Prop} {n : Nat} {σ : SG} {τ : TU} {θ : TH}  (h : SW G 1 mX10_where (aw_qi q) 0 0 0 [some (.ref 120)] [] (n, σ, τ, θ)) : SMi G 1 mX10_where 0 0 [.ref 120] n σ τ θ q := SM.of _ rfl rfl (Nat.le_of_ble_eq_true rfl) h
set_option maxHeartbeats 4000000 in
set_option maxRecDepth 20000 in
theorem sgX10_why_0 {G : GG} {k : Nat} {q : Int32 → Nat → SG → TU → TH → Prop} {n : Nat} {σ : SG} {τ : TU} {θ : TH}  (x1 : Int32) (x2 : Int32) (hk : 1 ≤ k)  (hW : aw_WT n θ) (vc : ((¬ x1 = 0) → (((x2 = 0) → (q (2 : Int32) n σ τ θ)) ∧ ((¬ x2 = 0) → (q (0 : Int32) n σ τ θ)))) ∧ ((x1 = 0) → (q (1 : Int32) n σ τ θ))) : SW G k mX10_why (aw_qi q) 0 0 0 [some (.ref 120), some (.int x1), some (.int x2)] [] (n, σ, τ, θ) := by
  refine SW.iload_n dX10_why_0 rfl ?_
  refine SW.if_ne 8 dX10_why_1 (by decide) (fun hbr => ?_) (fun hbr => ?_)
  · replace vc := vc.1 hbr
    refine SW.iload_n dX10_why_8 rfl ?_
    refine SW.if_eq 16 dX10_why_9 (by decide) (fun hbr => ?_) (fun hbr => ?_)
    · replace vc := vc.1 hbr
      refine SW.iconst (v := (2 : Int32)) dX10_why_16 (by decide) ?_
      exact SW.iret dX10_why_17 rfl rfl ⟨_, rfl, vc⟩
    · replace vc := vc.2 hbr
      refine SW.iconst (v := (0 : Int32)) dX10_why_12 (by decide) ?_
      refine SW.goto 17 dX10_why_13 (by decide) ?_
      exact SW.iret dX10_why_17 rfl rfl ⟨_, rfl, vc⟩
  · replace vc := vc.2 hbr
    refine SW.iconst (v := (1 : Int32)) dX10_why_4 (by decide) ?_
    refine SW.goto 17 dX10_why_5 (by decide) ?_
    exact SW.iret dX10_why_17 rfl rfl ⟨_, rfl, vc⟩
theorem ctX10_why {G : GG} {q : Int32 → Nat → SG → TU → TH → Prop} {n : Nat} {σ : SG} {τ : TU} {θ : TH} (x1 : Int32) (x2 : Int32) (h : SW G 1 mX10_why (aw_qi q) 0 0 0 [some (.ref 120), some (.int x1), some (.int x2)] [] (n, σ, τ, θ)) : SMi G 1 mX10_why 0 0 [.ref 120, .int x1, .int x2] n σ τ θ q := SM.of _ rfl rfl (Nat.le_of_ble_eq_true rfl) h
set_option maxHeartbeats 4000000 in
set_option maxRecDepth 20000 in
theorem sgX10_widthFor_0 {G : GG} {k : Nat} {q : Int32 → Nat → SG → TU → TH → Prop} {n : Nat} {σ : SG} {τ : TU} {θ : TH}  (x1 : Int32) (hk : 5 ≤ k)  (hW : aw_WT n θ) (vc : SMv G 1 mX10_good 0 0 [.ref 120] n σ τ θ (fun n1 σ1 τ1 θ1 => aw_WT n1 θ1 ∧ (((((aw_u σ1 120 22 (0 : Int32)) 120 14) = 0) → (SMi G 1 mX10_why 0 0 [.ref 120, .int ((aw_u σ1 120 22 (0 : Int32)) 120 14), .int (0 : Int32)] n1 (aw_u σ1 120 22 (0 : Int32)) τ1 θ1 (fun a2 n2 σ2 τ2 θ2 => aw_WT n2 θ2 ∧ (((a2 = 0) → (SW G k mX10_widthFor (aw_qi q) 0 0 56 [some (.ref 120), some (.int x1), none, some (.int (0 : Int32)), none, none] [] (n2, σ2, τ2, θ2))) ∧ ((¬ a2 = 0) → (SMi G 1 mX10_no 0 0 [.ref 120, .int a2] n2 σ2 τ2 θ2 (fun a3 n3 σ3 τ3 θ3 => aw_WT n3 θ3 ∧ (q a3 n3 σ3 τ3 θ3)))))))) ∧ ((¬ ((aw_u σ1 120 22 (0 : Int32)) 120 14) = 0) → (SMi G 1 mX10_in 0 0 [.int x1, .int (0 : Int32), .int ((aw_u σ1 120 22 (0 : Int32)) 123 4)] n1 (aw_u σ1 120 22 (0 : Int32)) τ1 θ1 (fun a4 n4 σ4 τ4 θ4 => aw_WT n4 θ4 ∧ (((a4 = 0) → (SMi G 1 mX10_why 0 0 [.ref 120, .int ((aw_u σ1 120 22 (0 : Int32)) 120 14), .int (0 : Int32)] n4 σ4 τ4 θ4 (fun a5 n5 σ5 τ5 θ5 => aw_WT n5 θ5 ∧ (((a5 = 0) → (SW G k mX10_widthFor (aw_qi q) 0 0 56 [some (.ref 120), some (.int x1), none, some (.int (0 : Int32)), none, none] [] (n5, σ5, τ5, θ5))) ∧ ((¬ a5 = 0) → (SMi G 1 mX10_no 0 0 [.ref 120, .int a5] n5 σ5 τ5 θ5 (fun a6 n6 σ6 τ6 θ6 => aw_WT n6 θ6 ∧ (q a6 n6 σ6 τ6 θ6)))))))) ∧ ((¬ a4 = 0) → (SMi G 1 mX10_why 0 0 [.ref 120, .int ((aw_u σ1 120 22 (0 : Int32)) 120 14), .int (1 : Int32)] n4 σ4 τ4 θ4 (fun a7 n7 σ7 τ7 θ7 => aw_WT n7 θ7 ∧ (((a7 = 0) → (SW G k mX10_widthFor (aw_qi q) 0 0 56 [some (.ref 120), some (.int x1), none, some (.int (0 : Int32)), none, none] [] (n7, σ7, τ7, θ7))) ∧ ((¬ a7 = 0) → (SMi G 1 mX10_no 0 0 [.ref 120, .int a7] n7 σ7 τ7 θ7 (fun a8 n8 σ8 τ8 θ8 => aw_WT n8 θ8 ∧ (q a8 n8 σ8 τ8 θ8))))))))))))))) : SW G k mX10_widthFor (aw_qi q) 0 0 0 [some (.ref 120), some (.int x1), none, none, none, none] [] (n, σ, τ, θ) := by
  refine SW.aload_n dX10_widthFor_0 rfl ?_
  refine SW.cvv0 kV_X10_154 (by omega) aw_cl10 kp_120 (by decide) (hW.le (by decide)) rfl (Nat.le_of_ble_eq_true rfl) dX10_widthFor_1 (SMv.mono vc ?_)
  intro n1 σ1 τ1 θ1 vc
  obtain ⟨hW, vc⟩ := vc
  refine SW.aload_n dX10_widthFor_4 rfl ?_
  refine SW.iconst (v := (0 : Int32)) dX10_widthFor_5 (by decide) ?_
  refine SW.putI (f := 22) aw_cl10 kp_120 (by decide) (hW.le (by decide)) (by decide) ww_1264 (Or.inl rfl) dX10_widthFor_6 rfl rfl rfl ?_
  refine SW.aload_n dX10_widthFor_9 rfl ?_
  refine SW.aload_n dX10_widthFor_10 rfl ?_
  refine SW.getI (f := 14) aw_cl10 kp_120 (by decide) (hW.le (by decide)) (by decide) ww_1256 dX10_widthFor_11 rfl ?_
  refine SW.aload_n dX10_widthFor_14 rfl ?_
  refine SW.getI (f := 14) aw_cl10 kp_120 (by decide) (hW.le (by decide)) (by decide) ww_1256 dX10_widthFor_15 rfl ?_
  refine SW.if_eq 39 dX10_widthFor_18 (by decide) (fun hbr => ?_) (fun hbr => ?_)
  · replace vc := vc.1 hbr
    refine SW.iconst (v := (0 : Int32)) dX10_widthFor_39 (by decide) ?_
    refine SW.cvi2 kV_X10_289 (by omega) aw_cl10 kp_120 (by decide) (hW.le (by decide)) rfl (Nat.le_of_ble_eq_true rfl) dX10_widthFor_40 (SMi.mono vc ?_)
    intro a2 n2 σ2 τ2 θ2 vc
    obtain ⟨hW, vc⟩ := vc
    refine SW.istore_n dX10_widthFor_43 (by decide) rfl rfl ?_
    refine SW.iload_n dX10_widthFor_44 rfl ?_
    refine SW.if_eq 54 dX10_widthFor_45 (by decide) (fun hbr => ?_) (fun hbr => ?_)
    · replace vc := vc.1 hbr
      refine SW.iconst (v := (0 : Int32)) dX10_widthFor_54 (by decide) ?_
      refine SW.istore_n dX10_widthFor_55 (by decide) rfl rfl ?_
      refine SW.msk [true, true, false, true, true, true] rfl ?_
      exact vc
    · replace vc := vc.2 hbr
      refine SW.aload_n dX10_widthFor_48 rfl ?_
      refine SW.iload_n dX10_widthFor_49 rfl ?_
      refine SW.cvi1 kV_X10_157 (by omega) aw_cl10 kp_120 (by decide) (hW.le (by decide)) rfl (Nat.le_of_ble_eq_true rfl) dX10_widthFor_50 (SMi.mono vc ?_)
      intro a3 n3 σ3 τ3 θ3 vc
      obtain ⟨hW, vc⟩ := vc
      exact SW.iret dX10_widthFor_53 rfl rfl ⟨_, rfl, vc⟩
  · replace vc := vc.2 hbr
    refine SW.iload_n dX10_widthFor_21 rfl ?_
    refine SW.iconst (v := (0 : Int32)) dX10_widthFor_22 (by decide) ?_
    refine SW.aload_n dX10_widthFor_23 rfl ?_
    refine SW.getS (f := 15) (r := 123) aw_cl10 kp_120 (by decide) (hW.le (by decide)) (by decide) ww_1257 dX10_widthFor_24 rfl hW.t120_15 ?_
    refine SW.iconst (v := (4 : Int32)) dX10_widthFor_27 (by decide) ?_
    refine SW.iald kp_123 (by decide) (hW.le (by decide)) (vp_in_nI (n := 4) (by decide) (by decide)) dX10_widthFor_28 ?_
    refine SW.csi3 kS_X10_139 (by omega) (Nat.le_of_ble_eq_true rfl) dX10_widthFor_29 (SMi.mono vc ?_)
    intro a4 n4 σ4 τ4 θ4 vc
    obtain ⟨hW, vc⟩ := vc
    refine SW.if_eq 39 dX10_widthFor_32 (by decide) (fun hbr => ?_) (fun hbr => ?_)
    · replace vc := vc.1 hbr
      refine SW.iconst (v := (0 : Int32)) dX10_widthFor_39 (by decide) ?_
      refine SW.cvi2 kV_X10_289 (by omega) aw_cl10 kp_120 (by decide) (hW.le (by decide)) rfl (Nat.le_of_ble_eq_true rfl) dX10_widthFor_40 (SMi.mono vc ?_)
      intro a5 n5 σ5 τ5 θ5 vc
      obtain ⟨hW, vc⟩ := vc
      refine SW.istore_n dX10_widthFor_43 (by decide) rfl rfl ?_
      refine SW.iload_n dX10_widthFor_44 rfl ?_
      refine SW.if_eq 54 dX10_widthFor_45 (by decide) (fun hbr => ?_) (fun hbr => ?_)
      · replace vc := vc.1 hbr
        refine SW.iconst (v := (0 : Int32)) dX10_widthFor_54 (by decide) ?_
        refine SW.istore_n dX10_widthFor_55 (by decide) rfl rfl ?_
        refine SW.msk [true, true, false, true, true, true] rfl ?_
        exact vc
      · replace vc := vc.2 hbr
        refine SW.aload_n dX10_widthFor_48 rfl ?_
        refine SW.iload_n dX10_widthFor_49 rfl ?_
        refine SW.cvi1 kV_X10_157 (by omega) aw_cl10 kp_120 (by decide) (hW.le (by decide)) rfl (Nat.le_of_ble_eq_true rfl) dX10_widthFor_50 (SMi.mono vc ?_)
        intro a6 n6 σ6 τ6 θ6 vc
        obtain ⟨hW, vc⟩ := vc
        exact SW.iret dX10_widthFor_53 rfl rfl ⟨_, rfl, vc⟩
    · replace vc := vc.2 hbr
      refine SW.iconst (v := (1 : Int32)) dX10_widthFor_35 (by decide) ?_
      refine SW.goto 40 dX10_widthFor_36 (by decide) ?_
      refine SW.cvi2 kV_X10_289 (by omega) aw_cl10 kp_120 (by decide) (hW.le (by decide)) rfl (Nat.le_of_ble_eq_true rfl) dX10_widthFor_40 (SMi.mono vc ?_)
      intro a7 n7 σ7 τ7 θ7 vc
      obtain ⟨hW, vc⟩ := vc
      refine SW.istore_n dX10_widthFor_43 (by decide) rfl rfl ?_
      refine SW.iload_n dX10_widthFor_44 rfl ?_
      refine SW.if_eq 54 dX10_widthFor_45 (by decide) (fun hbr => ?_) (fun hbr => ?_)
      · replace vc := vc.1 hbr
        refine SW.iconst (v := (0 : Int32)) dX10_widthFor_54 (by decide) ?_
        refine SW.istore_n dX10_widthFor_55 (by decide) rfl rfl ?_
        refine SW.msk [true, true, false, true, true, true] rfl ?_
        exact vc
      · replace vc := vc.2 hbr
        refine SW.aload_n dX10_widthFor_48 rfl ?_
        refine SW.iload_n dX10_widthFor_49 rfl ?_
        refine SW.cvi1 kV_X10_157 (by omega) aw_cl10 kp_120 (by decide) (hW.le (by decide)) rfl (Nat.le_of_ble_eq_true rfl) dX10_widthFor_50 (SMi.mono vc ?_)
        intro a8 n8 σ8 τ8 θ8 vc
        obtain ⟨hW, vc⟩ := vc
        exact SW.iret dX10_widthFor_53 rfl rfl ⟨_, rfl, vc⟩
set_option maxHeartbeats 4000000 in
set_option maxRecDepth 20000 in
theorem sgX10_widthFor_56 {G : GG} {k : Nat} {q : Int32 → Nat → SG → TU → TH → Prop} {n : Nat} {σ : SG} {τ : TU} {θ : TH}  (x1 : Int32) (x3 : Int32) (hk : 5 ≤ k)  (hW : aw_WT n θ) (vc : SW G k mX10_widthFor (aw_qi q) 0 0 62 [some (.ref 120), some (.int x1), none, some (.int x3), some (.int (0 : Int32)), some (.int (0 : Int32))] [] (n, σ, τ, θ)) : SW G k mX10_widthFor (aw_qi q) 0 0 56 [some (.ref 120), some (.int x1), none, some (.int x3), none, none] [] (n, σ, τ, θ) := by
  refine SW.iconst (v := (0 : Int32)) dX10_widthFor_56 (by decide) ?_
  refine SW.istore dX10_widthFor_57 (by decide) rfl rfl ?_
  refine SW.iconst (v := (0 : Int32)) dX10_widthFor_59 (by decide) ?_
  refine SW.istore dX10_widthFor_60 (by decide) rfl rfl ?_
  exact vc
set_option maxHeartbeats 4000000 in
set_option maxRecDepth 20000 in
theorem sgX10_widthFor_62 {G : GG} {k : Nat} {q : Int32 → Nat → SG → TU → TH → Prop} {n : Nat} {σ : SG} {τ : TU} {θ : TH}  (x1 : Int32) (x3 : Int32) (x4 : Int32) (x5 : Int32) (hk : 5 ≤ k)  (hW : aw_WT n θ) (vc : (((σ 123 4) ≤ x5) → (((x4 < x1) → (SW G k mX10_widthFor (aw_qi q) 0 0 56 [some (.ref 120), some (.int x1), none, some (.int (x3 + (1 : Int32))), none, none] [] (n, σ, τ, θ))) ∧ ((¬ x4 < x1) → (((¬ x1 = 0) → (q x3 n σ τ θ)) ∧ ((x1 = 0) → (q (0 : Int32) n σ τ θ)))))) ∧ ((¬ (σ 123 4) ≤ x5) → (SMi G 4 mX10_headOf 0 0 [.ref 120, .ref 125, .int x5] n σ τ θ (fun a1 n1 σ1 τ1 θ1 => aw_WT n1 θ1 ∧ (((x3 < a1) → (SW G k mX10_widthFor (aw_qi q) 0 0 62 [some (.ref 120), some (.int x1), none, some (.int x3), some (.int (x4 + (0 : Int32))), some (.int (x5 + (1 : Int32)))] [] (n1, σ1, τ1, θ1))) ∧ ((¬ x3 < a1) → (SW G k mX10_widthFor (aw_qi q) 0 0 62 [some (.ref 120), some (.int x1), none, some (.int x3), some (.int (x4 + (1 : Int32))), some (.int (x5 + (1 : Int32)))] [] (n1, σ1, τ1, θ1)))))))) : SW G k mX10_widthFor (aw_qi q) 0 0 62 [some (.ref 120), some (.int x1), none, some (.int x3), some (.int x4), some (.int x5)] [] (n, σ, τ, θ) := by
  refine SW.iload dX10_widthFor_62 rfl ?_
  refine SW.aload_n dX10_widthFor_64 rfl ?_
  refine SW.getS (f := 15) (r := 123) aw_cl10 kp_120 (by decide) (hW.le (by decide)) (by decide) ww_1257 dX10_widthFor_65 rfl hW.t120_15 ?_
  refine SW.iconst (v := (4 : Int32)) dX10_widthFor_68 (by decide) ?_
  refine SW.iald kp_123 (by decide) (hW.le (by decide)) (vp_in_nI (n := 4) (by decide) (by decide)) dX10_widthFor_69 ?_
  refine SW.icmp_ge 103 dX10_widthFor_70 (by decide) (fun hbr => ?_) (fun hbr => ?_)
  · replace vc := vc.1 hbr
    refine SW.iload dX10_widthFor_103 rfl ?_
    refine SW.iload_n dX10_widthFor_105 rfl ?_
    refine SW.icmp_lt 119 dX10_widthFor_106 (by decide) (fun hbr => ?_) (fun hbr => ?_)
    · replace vc := vc.1 hbr
      refine SW.iinc (v := (x3 + (1 : Int32))) dX10_widthFor_119 rfl rfl (by decide) rfl rfl ?_
      refine SW.goto 56 dX10_widthFor_122 (by decide) ?_
      refine SW.msk [true, true, true, true, false, false] rfl ?_
      exact vc
    · replace vc := vc.2 hbr
      refine SW.iload_n dX10_widthFor_109 rfl ?_
      refine SW.if_ne 117 dX10_widthFor_110 (by decide) (fun hbr => ?_) (fun hbr => ?_)
      · replace vc := vc.1 hbr
        refine SW.iload_n dX10_widthFor_117 rfl ?_
        exact SW.iret dX10_widthFor_118 rfl rfl ⟨_, rfl, vc⟩
      · replace vc := vc.2 hbr
        refine SW.iconst (v := (0 : Int32)) dX10_widthFor_113 (by decide) ?_
        refine SW.goto 118 dX10_widthFor_114 (by decide) ?_
        exact SW.iret dX10_widthFor_118 rfl rfl ⟨_, rfl, vc⟩
  · replace vc := vc.2 hbr
    refine SW.iload dX10_widthFor_73 rfl ?_
    refine SW.aload_n dX10_widthFor_75 rfl ?_
    refine SW.aload_n dX10_widthFor_76 rfl ?_
    refine SW.getS (f := 17) (r := 125) aw_cl10 kp_120 (by decide) (hW.le (by decide)) (by decide) ww_1259 dX10_widthFor_77 rfl hW.t120_17 ?_
    refine SW.iload dX10_widthFor_80 rfl ?_
    refine SW.cvi2 kV_X10_261 (by omega) aw_cl10 kp_120 (by decide) (hW.le (by decide)) rfl (Nat.le_of_ble_eq_true rfl) dX10_widthFor_82 (SMi.mono vc ?_)
    intro a1 n1 σ1 τ1 θ1 vc
    obtain ⟨hW, vc⟩ := vc
    refine SW.iload_n dX10_widthFor_85 rfl ?_
    refine SW.icmp_gt 93 dX10_widthFor_86 (by decide) (fun hbr => ?_) (fun hbr => ?_)
    · replace vc := vc.1 hbr
      refine SW.iconst (v := (0 : Int32)) dX10_widthFor_93 (by decide) ?_
      refine SW.iadd dX10_widthFor_94 ?_
      refine SW.istore dX10_widthFor_95 (by decide) rfl rfl ?_
      refine SW.iinc (v := (x5 + (1 : Int32))) dX10_widthFor_97 rfl rfl (by decide) rfl rfl ?_
      refine SW.goto 62 dX10_widthFor_100 (by decide) ?_
      exact vc
    · replace vc := vc.2 hbr
      refine SW.iconst (v := (1 : Int32)) dX10_widthFor_89 (by decide) ?_
      refine SW.goto 94 dX10_widthFor_90 (by decide) ?_
      refine SW.iadd dX10_widthFor_94 ?_
      refine SW.istore dX10_widthFor_95 (by decide) rfl rfl ?_
      refine SW.iinc (v := (x5 + (1 : Int32))) dX10_widthFor_97 rfl rfl (by decide) rfl rfl ?_
      refine SW.goto 62 dX10_widthFor_100 (by decide) ?_
      exact vc
theorem ctX10_widthFor {G : GG} {q : Int32 → Nat → SG → TU → TH → Prop} {n : Nat} {σ : SG} {τ : TU} {θ : TH} (x1 : Int32) (h : SW G 5 mX10_widthFor (aw_qi q) 0 0 0 [some (.ref 120), some (.int x1), none, none, none, none] [] (n, σ, τ, θ)) : SMi G 5 mX10_widthFor 0 0 [.ref 120, .int x1] n σ τ θ q := SM.of _ rfl rfl (Nat.le_of_ble_eq_true rfl) h
set_option maxHeartbeats 4000000 in
set_option maxRecDepth 20000 in
theorem sgX10_worstSpring_0 {G : GG} {k : Nat} {q : Int32 → Nat → SG → TU → TH → Prop} {n : Nat} {σ : SG} {τ : TU} {θ : TH}   (hk : 6 ≤ k)  (hW : aw_WT n θ) (vc : SMv G 1 mX10_good 0 0 [.ref 120] n σ τ θ (fun n1 σ1 τ1 θ1 => aw_WT n1 θ1 ∧ (((¬ (σ1 120 14) = 0) → (SW G k mX10_worstSpring (aw_qi q) 0 0 23 [some (.ref 120), some (.int (0 : Int32)), some (.int (-1 : Int32)), some (.int (0 : Int32))] [] (n1, σ1, τ1, θ1))) ∧ (((σ1 120 14) = 0) → (SMi G 1 mX10_no 0 0 [.ref 120, .int (1 : Int32)] n1 σ1 τ1 θ1 (fun a2 n2 σ2 τ2 θ2 => aw_WT n2 θ2 ∧ (q a2 n2 σ2 τ2 θ2))))))) : SW G k mX10_worstSpring (aw_qi q) 0 0 0 [some (.ref 120), none, none, none] [] (n, σ, τ, θ) := by
  refine SW.aload_n dX10_worstSpring_0 rfl ?_
  refine SW.cvv0 kV_X10_154 (by omega) aw_cl10 kp_120 (by decide) (hW.le (by decide)) rfl (Nat.le_of_ble_eq_true rfl) dX10_worstSpring_1 (SMv.mono vc ?_)
  intro n1 σ1 τ1 θ1 vc
  obtain ⟨hW, vc⟩ := vc
  refine SW.aload_n dX10_worstSpring_4 rfl ?_
  refine SW.getI (f := 14) aw_cl10 kp_120 (by decide) (hW.le (by decide)) (by decide) ww_1256 dX10_worstSpring_5 rfl ?_
  refine SW.if_ne 17 dX10_worstSpring_8 (by decide) (fun hbr => ?_) (fun hbr => ?_)
  · replace vc := vc.1 hbr
    refine SW.iconst (v := (0 : Int32)) dX10_worstSpring_17 (by decide) ?_
    refine SW.istore_n dX10_worstSpring_18 (by decide) rfl rfl ?_
    refine SW.iconst (v := (-1 : Int32)) dX10_worstSpring_19 (by decide) ?_
    refine SW.istore_n dX10_worstSpring_20 (by decide) rfl rfl ?_
    refine SW.iconst (v := (0 : Int32)) dX10_worstSpring_21 (by decide) ?_
    refine SW.istore_n dX10_worstSpring_22 (by decide) rfl rfl ?_
    exact vc
  · replace vc := vc.2 hbr
    refine SW.aload_n dX10_worstSpring_11 rfl ?_
    refine SW.iconst (v := (1 : Int32)) dX10_worstSpring_12 (by decide) ?_
    refine SW.cvi1 kV_X10_157 (by omega) aw_cl10 kp_120 (by decide) (hW.le (by decide)) rfl (Nat.le_of_ble_eq_true rfl) dX10_worstSpring_13 (SMi.mono vc ?_)
    intro a2 n2 σ2 τ2 θ2 vc
    obtain ⟨hW, vc⟩ := vc
    exact SW.iret dX10_worstSpring_16 rfl rfl ⟨_, rfl, vc⟩
set_option maxHeartbeats 4000000 in
set_option maxRecDepth 20000 in
theorem sgX10_worstSpring_23 {G : GG} {k : Nat} {q : Int32 → Nat → SG → TU → TH → Prop} {n : Nat} {σ : SG} {τ : TU} {θ : TH}  (x1 : Int32) (x2 : Int32) (x3 : Int32) (hk : 6 ≤ k)  (hW : aw_WT n θ) (vc : (((20 : Int32) < x3) → (q x1 n σ τ θ)) ∧ ((¬ (20 : Int32) < x3) → (SMv G 2 mX10_goOver 0 0 [.ref 120, .int x3] n σ τ θ (fun n1 σ1 τ1 θ1 => aw_WT n1 θ1 ∧ (SMi G 5 mX10_headsOf 0 0 [.ref 120, .ref 128] n1 σ1 τ1 θ1 (fun a2 n2 σ2 τ2 θ2 => aw_WT n2 θ2 ∧ (((x2 < a2) → (SMi G 5 mX10_headsOf 0 0 [.ref 120, .ref 128] n2 σ2 τ2 θ2 (fun a3 n3 σ3 τ3 θ3 => aw_WT n3 θ3 ∧ (SW G k mX10_worstSpring (aw_qi q) 0 0 23 [some (.ref 120), some (.int x3), some (.int a3), some (.int (x3 + (1 : Int32)))] [] (n3, σ3, τ3, θ3))))) ∧ ((¬ x2 < a2) → (SW G k mX10_worstSpring (aw_qi q) 0 0 23 [some (.ref 120), some (.int x1), some (.int x2), some (.int (x3 + (1 : Int32)))] [] (n2, σ2, τ2, θ2)))))))))) : SW G k mX10_worstSpring (aw_qi q) 0 0 23 [some (.ref 120), some (.int x1), some (.int x2), some (.int x3)] [] (n, σ, τ, θ) := by
  refine SW.iload_n dX10_worstSpring_23 rfl ?_
  refine SW.bipush (v := (20 : Int32)) dX10_worstSpring_24 (by decide) ?_
  refine SW.icmp_gt 66 dX10_worstSpring_26 (by decide) (fun hbr => ?_) (fun hbr => ?_)
  · replace vc := vc.1 hbr
    refine SW.iload_n dX10_worstSpring_66 rfl ?_
    exact SW.iret dX10_worstSpring_67 rfl rfl ⟨_, rfl, vc⟩
  · replace vc := vc.2 hbr
    refine SW.aload_n dX10_worstSpring_29 rfl ?_
    refine SW.iload_n dX10_worstSpring_30 rfl ?_
    refine SW.cvv1 kV_X10_293 (by omega) aw_cl10 kp_120 (by decide) (hW.le (by decide)) rfl (Nat.le_of_ble_eq_true rfl) dX10_worstSpring_31 (SMv.mono vc ?_)
    intro n1 σ1 τ1 θ1 vc
    obtain ⟨hW, vc⟩ := vc
    refine SW.aload_n dX10_worstSpring_34 rfl ?_
    refine SW.aload_n dX10_worstSpring_35 rfl ?_
    refine SW.getS (f := 23) (r := 128) aw_cl10 kp_120 (by decide) (hW.le (by decide)) (by decide) ww_1265 dX10_worstSpring_36 rfl hW.t120_23 ?_
    refine SW.cvi1 kV_X10_285 (by omega) aw_cl10 kp_120 (by decide) (hW.le (by decide)) rfl (Nat.le_of_ble_eq_true rfl) dX10_worstSpring_39 (SMi.mono vc ?_)
    intro a2 n2 σ2 τ2 θ2 vc
    obtain ⟨hW, vc⟩ := vc
    refine SW.iload_n dX10_worstSpring_42 rfl ?_
    refine SW.icmp_gt 49 dX10_worstSpring_43 (by decide) (fun hbr => ?_) (fun hbr => ?_)
    · replace vc := vc.1 hbr
      refine SW.iload_n dX10_worstSpring_49 rfl ?_
      refine SW.istore_n dX10_worstSpring_50 (by decide) rfl rfl ?_
      refine SW.aload_n dX10_worstSpring_51 rfl ?_
      refine SW.aload_n dX10_worstSpring_52 rfl ?_
      refine SW.getS (f := 23) (r := 128) aw_cl10 kp_120 (by decide) (hW.le (by decide)) (by decide) ww_1265 dX10_worstSpring_53 rfl hW.t120_23 ?_
      refine SW.cvi1 kV_X10_285 (by omega) aw_cl10 kp_120 (by decide) (hW.le (by decide)) rfl (Nat.le_of_ble_eq_true rfl) dX10_worstSpring_56 (SMi.mono vc ?_)
      intro a3 n3 σ3 τ3 θ3 vc
      obtain ⟨hW, vc⟩ := vc
      refine SW.istore_n dX10_worstSpring_59 (by decide) rfl rfl ?_
      refine SW.iinc (v := (x3 + (1 : Int32))) dX10_worstSpring_60 rfl rfl (by decide) rfl rfl ?_
      refine SW.goto 23 dX10_worstSpring_63 (by decide) ?_
      exact vc
    · replace vc := vc.2 hbr
      refine SW.goto 60 dX10_worstSpring_46 (by decide) ?_
      refine SW.iinc (v := (x3 + (1 : Int32))) dX10_worstSpring_60 rfl rfl (by decide) rfl rfl ?_
      refine SW.goto 23 dX10_worstSpring_63 (by decide) ?_
      exact vc
theorem ctX10_worstSpring {G : GG} {q : Int32 → Nat → SG → TU → TH → Prop} {n : Nat} {σ : SG} {τ : TU} {θ : TH}  (h : SW G 6 mX10_worstSpring (aw_qi q) 0 0 0 [some (.ref 120), none, none, none] [] (n, σ, τ, θ)) : SMi G 6 mX10_worstSpring 0 0 [.ref 120] n σ τ θ q := SM.of _ rfl rfl (Nat.le_of_ble_eq_true rfl) h
set_option maxHeartbeats 4000000 in
set_option maxRecDepth 20000 in
theorem sgX10_wrong_0 {G : GG} {k : Nat} {q : Nat → SG → TU → TH → Prop} {n : Nat} {σ : SG} {τ : TU} {θ : TH}  (x1 : Int32) (x2 : Int32) (hk : 1 ≤ k)  (hW : aw_WT n θ) (vc : (((σ 120 13) = 0) → (q n (aw_u (aw_u (aw_u σ 120 13 (1 : Int32)) 120 9 x1) 120 10 x2) τ θ)) ∧ ((¬ (σ 120 13) = 0) → (q n σ τ θ))) : SW G k mX10_wrong (aw_qv q) 0 0 0 [some (.ref 120), some (.int x1), some (.int x2)] [] (n, σ, τ, θ) := by
  refine SW.aload_n dX10_wrong_0 rfl ?_
  refine SW.getI (f := 13) aw_cl10 kp_120 (by decide) (hW.le (by decide)) (by decide) ww_1255 dX10_wrong_1 rfl ?_
  refine SW.if_eq 8 dX10_wrong_4 (by decide) (fun hbr => ?_) (fun hbr => ?_)
  · replace vc := vc.1 hbr
    refine SW.aload_n dX10_wrong_8 rfl ?_
    refine SW.iconst (v := (1 : Int32)) dX10_wrong_9 (by decide) ?_
    refine SW.putI (f := 13) aw_cl10 kp_120 (by decide) (hW.le (by decide)) (by decide) ww_1255 (Or.inl rfl) dX10_wrong_10 rfl rfl rfl ?_
    refine SW.aload_n dX10_wrong_13 rfl ?_
    refine SW.iload_n dX10_wrong_14 rfl ?_
    refine SW.putI (f := 9) aw_cl10 kp_120 (by decide) (hW.le (by decide)) (by decide) ww_1251 (Or.inl rfl) dX10_wrong_15 rfl rfl rfl ?_
    refine SW.aload_n dX10_wrong_18 rfl ?_
    refine SW.iload_n dX10_wrong_19 rfl ?_
    refine SW.putI (f := 10) aw_cl10 kp_120 (by decide) (hW.le (by decide)) (by decide) ww_1252 (Or.inl rfl) dX10_wrong_20 rfl rfl rfl ?_
    exact SW.vret dX10_wrong_23 rfl ⟨rfl, vc⟩
  · replace vc := vc.2 hbr
    exact SW.vret dX10_wrong_7 rfl ⟨rfl, vc⟩
theorem ctX10_wrong {G : GG} {q : Nat → SG → TU → TH → Prop} {n : Nat} {σ : SG} {τ : TU} {θ : TH} (x1 : Int32) (x2 : Int32) (h : SW G 1 mX10_wrong (aw_qv q) 0 0 0 [some (.ref 120), some (.int x1), some (.int x2)] [] (n, σ, τ, θ)) : SMv G 1 mX10_wrong 0 0 [.ref 120, .int x1, .int x2] n σ τ θ q := SM.of _ rfl rfl (Nat.le_of_ble_eq_true rfl) h
