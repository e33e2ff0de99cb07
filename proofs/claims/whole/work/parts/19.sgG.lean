set_option maxHeartbeats 4000000 in
set_option maxRecDepth 20000 in
theorem sgX10_invitedLine_0 {G : GG} {k : Nat} {q : Nat → SG → TU → TH → Prop} {n : Nat} {σ : SG} {τ : TU} {θ : TH}   (hk : 9 ≤ k)  (hW : aw_WT n θ) (vc : (((σ 120 13) = 0) → (SMi G 8 mX10_manHere 0 0 [.ref 120] n σ τ θ (fun a1 n1 σ1 τ1 θ1 => aw_WT n1 θ1 ∧ (((¬ (σ1 120 13) = 0) → (SMv G 3 mX10_pass 0 0 [.ref 120] n1 σ1 τ1 θ1 (fun n2 σ2 τ2 θ2 => aw_WT n2 θ2 ∧ (SMi G 7 mX10_named 0 0 [.ref 120, .int (5 : Int32), .int (8 : Int32)] n2 σ2 τ2 θ2 (fun a3 n3 σ3 τ3 θ3 => aw_WT n3 θ3 ∧ (SMv G 3 mX10_pass 0 0 [.ref 120] n3 σ3 τ3 θ3 (fun n4 σ4 τ4 θ4 => aw_WT n4 θ4 ∧ ((((σ4 120 13) = 0) → (vp_in ((73 : Int32) + a1) 167 ∧ (q n4 (aw_u (aw_u σ4 124 ((73 : Int32) + a1).toNatClampNeg (a3 + (1 : Int32))) 124 8 (((aw_u σ4 124 ((73 : Int32) + a1).toNatClampNeg (a3 + (1 : Int32))) 124 8) + (1 : Int32))) τ4 θ4))) ∧ ((¬ (σ4 120 13) = 0) → (q n4 σ4 τ4 θ4)))))))))) ∧ (((σ1 120 13) = 0) → (vp_in ((73 : Int32) + a1) 167 ∧ ((((σ1 124 ((73 : Int32) + a1).toNatClampNeg) ≤ 0) → (SMv G 3 mX10_pass 0 0 [.ref 120] n1 σ1 τ1 θ1 (fun n5 σ5 τ5 θ5 => aw_WT n5 θ5 ∧ (SMi G 7 mX10_named 0 0 [.ref 120, .int (5 : Int32), .int (8 : Int32)] n5 σ5 τ5 θ5 (fun a6 n6 σ6 τ6 θ6 => aw_WT n6 θ6 ∧ (SMv G 3 mX10_pass 0 0 [.ref 120] n6 σ6 τ6 θ6 (fun n7 σ7 τ7 θ7 => aw_WT n7 θ7 ∧ ((((σ7 120 13) = 0) → (vp_in ((73 : Int32) + a1) 167 ∧ (q n7 (aw_u (aw_u σ7 124 ((73 : Int32) + a1).toNatClampNeg (a6 + (1 : Int32))) 124 8 (((aw_u σ7 124 ((73 : Int32) + a1).toNatClampNeg (a6 + (1 : Int32))) 124 8) + (1 : Int32))) τ7 θ7))) ∧ ((¬ (σ7 120 13) = 0) → (q n7 σ7 τ7 θ7)))))))))) ∧ ((¬ (σ1 124 ((73 : Int32) + a1).toNatClampNeg) ≤ 0) → (SMv G 1 mX10_wrong 0 0 [.ref 120, .int (3 : Int32), .int (σ1 120 4)] n1 σ1 τ1 θ1 (fun n8 σ8 τ8 θ8 => aw_WT n8 θ8 ∧ (SMv G 3 mX10_pass 0 0 [.ref 120] n8 σ8 τ8 θ8 (fun n9 σ9 τ9 θ9 => aw_WT n9 θ9 ∧ (SMi G 7 mX10_named 0 0 [.ref 120, .int (5 : Int32), .int (8 : Int32)] n9 σ9 τ9 θ9 (fun a10 n10 σ10 τ10 θ10 => aw_WT n10 θ10 ∧ (SMv G 3 mX10_pass 0 0 [.ref 120] n10 σ10 τ10 θ10 (fun n11 σ11 τ11 θ11 => aw_WT n11 θ11 ∧ ((((σ11 120 13) = 0) → (vp_in ((73 : Int32) + a1) 167 ∧ (q n11 (aw_u (aw_u σ11 124 ((73 : Int32) + a1).toNatClampNeg (a10 + (1 : Int32))) 124 8 (((aw_u σ11 124 ((73 : Int32) + a1).toNatClampNeg (a10 + (1 : Int32))) 124 8) + (1 : Int32))) τ11 θ11))) ∧ ((¬ (σ11 120 13) = 0) → (q n11 σ11 τ11 θ11))))))))))))))))))) ∧ ((¬ (σ 120 13) = 0) → (q n σ τ θ))) : SW G k mX10_invitedLine (aw_qv q) 0 0 0 [some (.ref 120), none, none] [] (n, σ, τ, θ) := by
  refine SW.aload_n dX10_invitedLine_0 rfl ?_
  refine SW.getI (f := 13) aw_cl10 kp_120 (by decide) (hW.le (by decide)) (by decide) ww_1255 dX10_invitedLine_1 rfl ?_
  refine SW.if_eq 8 dX10_invitedLine_4 (by decide) (fun hbr => ?_) (fun hbr => ?_)
  · replace vc := vc.1 hbr
    refine SW.aload_n dX10_invitedLine_8 rfl ?_
    refine SW.cvi0 kV_X10_229 (by omega) aw_cl10 kp_120 (by decide) (hW.le (by decide)) rfl (Nat.le_of_ble_eq_true rfl) dX10_invitedLine_9 (SMi.mono vc ?_)
    intro a1 n1 σ1 τ1 θ1 vc
    obtain ⟨hW, vc⟩ := vc
    refine SW.istore_n dX10_invitedLine_12 (by decide) rfl rfl ?_
    refine SW.aload_n dX10_invitedLine_13 rfl ?_
    refine SW.getI (f := 13) aw_cl10 kp_120 (by decide) (hW.le (by decide)) (by decide) ww_1255 dX10_invitedLine_14 rfl ?_
    refine SW.if_ne 41 dX10_invitedLine_17 (by decide) (fun hbr => ?_) (fun hbr => ?_)
    · replace vc := vc.1 hbr
      refine SW.aload_n dX10_invitedLine_41 rfl ?_
      refine SW.cvv0 kV_X10_176 (by omega) aw_cl10 kp_120 (by decide) (hW.le (by decide)) rfl (Nat.le_of_ble_eq_true rfl) dX10_invitedLine_42 (SMv.mono vc ?_)
      intro n2 σ2 τ2 θ2 vc
      obtain ⟨hW, vc⟩ := vc
      refine SW.aload_n dX10_invitedLine_45 rfl ?_
      refine SW.iconst (v := (5 : Int32)) dX10_invitedLine_46 (by decide) ?_
      refine SW.bipush (v := (8 : Int32)) dX10_invitedLine_47 (by decide) ?_
      refine SW.cvi2 kV_X10_143 (by omega) aw_cl10 kp_120 (by decide) (hW.le (by decide)) rfl (Nat.le_of_ble_eq_true rfl) dX10_invitedLine_49 (SMi.mono vc ?_)
      intro a3 n3 σ3 τ3 θ3 vc
      obtain ⟨hW, vc⟩ := vc
      refine SW.istore_n dX10_invitedLine_52 (by decide) rfl rfl ?_
      refine SW.aload_n dX10_invitedLine_53 rfl ?_
      refine SW.cvv0 kV_X10_176 (by omega) aw_cl10 kp_120 (by decide) (hW.le (by decide)) rfl (Nat.le_of_ble_eq_true rfl) dX10_invitedLine_54 (SMv.mono vc ?_)
      intro n4 σ4 τ4 θ4 vc
      obtain ⟨hW, vc⟩ := vc
      refine SW.aload_n dX10_invitedLine_57 rfl ?_
      refine SW.getI (f := 13) aw_cl10 kp_120 (by decide) (hW.le (by decide)) (by decide) ww_1255 dX10_invitedLine_58 rfl ?_
      refine SW.if_eq 65 dX10_invitedLine_61 (by decide) (fun hbr => ?_) (fun hbr => ?_)
      · replace vc := vc.1 hbr
        refine SW.aload_n dX10_invitedLine_65 rfl ?_
        refine SW.getS (f := 16) (r := 124) aw_cl10 kp_120 (by decide) (hW.le (by decide)) (by decide) ww_1258 dX10_invitedLine_66 rfl hW.t120_16 ?_
        refine SW.bipush (v := (73 : Int32)) dX10_invitedLine_69 (by decide) ?_
        refine SW.iload_n dX10_invitedLine_71 rfl ?_
        refine SW.iadd dX10_invitedLine_72 ?_
        refine SW.iload_n dX10_invitedLine_73 rfl ?_
        refine SW.iconst (v := (1 : Int32)) dX10_invitedLine_74 (by decide) ?_
        refine SW.iadd dX10_invitedLine_75 ?_
        refine SW.iast kp_124 (by decide) (hW.le (by decide)) vc.1 dX10_invitedLine_76 ?_
        replace vc := vc.2
        refine SW.aload_n dX10_invitedLine_77 rfl ?_
        refine SW.getS (f := 16) (r := 124) aw_cl10 kp_120 (by decide) (hW.le (by decide)) (by decide) ww_1258 dX10_invitedLine_78 rfl hW.t120_16 ?_
        refine SW.bipush (v := (8 : Int32)) dX10_invitedLine_81 (by decide) ?_
        refine SW.dup2 dX10_invitedLine_83 rfl rfl ?_
        refine SW.iald kp_124 (by decide) (hW.le (by decide)) (vp_in_nI (n := 8) (by decide) (by decide)) dX10_invitedLine_84 ?_
        refine SW.iconst (v := (1 : Int32)) dX10_invitedLine_85 (by decide) ?_
        refine SW.iadd dX10_invitedLine_86 ?_
        refine SW.iast kp_124 (by decide) (hW.le (by decide)) (vp_in_nI (n := 8) (by decide) (by decide)) dX10_invitedLine_87 ?_
        exact SW.vret dX10_invitedLine_88 rfl ⟨rfl, vc⟩
      · replace vc := vc.2 hbr
        exact SW.vret dX10_invitedLine_64 rfl ⟨rfl, vc⟩
    · replace vc := vc.2 hbr
      refine SW.aload_n dX10_invitedLine_20 rfl ?_
      refine SW.getS (f := 16) (r := 124) aw_cl10 kp_120 (by decide) (hW.le (by decide)) (by decide) ww_1258 dX10_invitedLine_21 rfl hW.t120_16 ?_
      refine SW.bipush (v := (73 : Int32)) dX10_invitedLine_24 (by decide) ?_
      refine SW.iload_n dX10_invitedLine_26 rfl ?_
      refine SW.iadd dX10_invitedLine_27 ?_
      refine SW.iald kp_124 (by decide) (hW.le (by decide)) vc.1 dX10_invitedLine_28 ?_
      replace vc := vc.2
      refine SW.if_le 41 dX10_invitedLine_29 (by decide) (fun hbr => ?_) (fun hbr => ?_)
      · replace vc := vc.1 hbr
        refine SW.aload_n dX10_invitedLine_41 rfl ?_
        refine SW.cvv0 kV_X10_176 (by omega) aw_cl10 kp_120 (by decide) (hW.le (by decide)) rfl (Nat.le_of_ble_eq_true rfl) dX10_invitedLine_42 (SMv.mono vc ?_)
        intro n5 σ5 τ5 θ5 vc
        obtain ⟨hW, vc⟩ := vc
        refine SW.aload_n dX10_invitedLine_45 rfl ?_
        refine SW.iconst (v := (5 : Int32)) dX10_invitedLine_46 (by decide) ?_
        refine SW.bipush (v := (8 : Int32)) dX10_invitedLine_47 (by decide) ?_
        refine SW.cvi2 kV_X10_143 (by omega) aw_cl10 kp_120 (by decide) (hW.le (by decide)) rfl (Nat.le_of_ble_eq_true rfl) dX10_invitedLine_49 (SMi.mono vc ?_)
        intro a6 n6 σ6 τ6 θ6 vc
        obtain ⟨hW, vc⟩ := vc
        refine SW.istore_n dX10_invitedLine_52 (by decide) rfl rfl ?_
        refine SW.aload_n dX10_invitedLine_53 rfl ?_
        refine SW.cvv0 kV_X10_176 (by omega) aw_cl10 kp_120 (by decide) (hW.le (by decide)) rfl (Nat.le_of_ble_eq_true rfl) dX10_invitedLine_54 (SMv.mono vc ?_)
        intro n7 σ7 τ7 θ7 vc
        obtain ⟨hW, vc⟩ := vc
        refine SW.aload_n dX10_invitedLine_57 rfl ?_
        refine SW.getI (f := 13) aw_cl10 kp_120 (by decide) (hW.le (by decide)) (by decide) ww_1255 dX10_invitedLine_58 rfl ?_
        refine SW.if_eq 65 dX10_invitedLine_61 (by decide) (fun hbr => ?_) (fun hbr => ?_)
        · replace vc := vc.1 hbr
          refine SW.aload_n dX10_invitedLine_65 rfl ?_
          refine SW.getS (f := 16) (r := 124) aw_cl10 kp_120 (by decide) (hW.le (by decide)) (by decide) ww_1258 dX10_invitedLine_66 rfl hW.t120_16 ?_
          refine SW.bipush (v := (73 : Int32)) dX10_invitedLine_69 (by decide) ?_
          refine SW.iload_n dX10_invitedLine_71 rfl ?_
          refine SW.iadd dX10_invitedLine_72 ?_
          refine SW.iload_n dX10_invitedLine_73 rfl ?_
          refine SW.iconst (v := (1 : Int32)) dX10_invitedLine_74 (by decide) ?_
          refine SW.iadd dX10_invitedLine_75 ?_
          refine SW.iast kp_124 (by decide) (hW.le (by decide)) vc.1 dX10_invitedLine_76 ?_
          replace vc := vc.2
          refine SW.aload_n dX10_invitedLine_77 rfl ?_
          refine SW.getS (f := 16) (r := 124) aw_cl10 kp_120 (by decide) (hW.le (by decide)) (by decide) ww_1258 dX10_invitedLine_78 rfl hW.t120_16 ?_
          refine SW.bipush (v := (8 : Int32)) dX10_invitedLine_81 (by decide) ?_
          refine SW.dup2 dX10_invitedLine_83 rfl rfl ?_
          refine SW.iald kp_124 (by decide) (hW.le (by decide)) (vp_in_nI (n := 8) (by decide) (by decide)) dX10_invitedLine_84 ?_
          refine SW.iconst (v := (1 : Int32)) dX10_invitedLine_85 (by decide) ?_
          refine SW.iadd dX10_invitedLine_86 ?_
          refine SW.iast kp_124 (by decide) (hW.le (by decide)) (vp_in_nI (n := 8) (by decide) (by decide)) dX10_invitedLine_87 ?_
          exact SW.vret dX10_invitedLine_88 rfl ⟨rfl, vc⟩
        · replace vc := vc.2 hbr
          exact SW.vret dX10_invitedLine_64 rfl ⟨rfl, vc⟩
      · replace vc := vc.2 hbr
        refine SW.aload_n dX10_invitedLine_32 rfl ?_
        refine SW.iconst (v := (3 : Int32)) dX10_invitedLine_33 (by decide) ?_
        refine SW.aload_n dX10_invitedLine_34 rfl ?_
        refine SW.getI (f := 4) aw_cl10 kp_120 (by decide) (hW.le (by decide)) (by decide) ww_1246 dX10_invitedLine_35 rfl ?_
        refine SW.cvv2 kV_X10_115 (by omega) aw_cl10 kp_120 (by decide) (hW.le (by decide)) rfl (Nat.le_of_ble_eq_true rfl) dX10_invitedLine_38 (SMv.mono vc ?_)
        intro n8 σ8 τ8 θ8 vc
        obtain ⟨hW, vc⟩ := vc
        refine SW.aload_n dX10_invitedLine_41 rfl ?_
        refine SW.cvv0 kV_X10_176 (by omega) aw_cl10 kp_120 (by decide) (hW.le (by decide)) rfl (Nat.le_of_ble_eq_true rfl) dX10_invitedLine_42 (SMv.mono vc ?_)
        intro n9 σ9 τ9 θ9 vc
        obtain ⟨hW, vc⟩ := vc
        refine SW.aload_n dX10_invitedLine_45 rfl ?_
        refine SW.iconst (v := (5 : Int32)) dX10_invitedLine_46 (by decide) ?_
        refine SW.bipush (v := (8 : Int32)) dX10_invitedLine_47 (by decide) ?_
        refine SW.cvi2 kV_X10_143 (by omega) aw_cl10 kp_120 (by decide) (hW.le (by decide)) rfl (Nat.le_of_ble_eq_true rfl) dX10_invitedLine_49 (SMi.mono vc ?_)
        intro a10 n10 σ10 τ10 θ10 vc
        obtain ⟨hW, vc⟩ := vc
        refine SW.istore_n dX10_invitedLine_52 (by decide) rfl rfl ?_
        refine SW.aload_n dX10_invitedLine_53 rfl ?_
        refine SW.cvv0 kV_X10_176 (by omega) aw_cl10 kp_120 (by decide) (hW.le (by decide)) rfl (Nat.le_of_ble_eq_true rfl) dX10_invitedLine_54 (SMv.mono vc ?_)
        intro n11 σ11 τ11 θ11 vc
        obtain ⟨hW, vc⟩ := vc
        refine SW.aload_n dX10_invitedLine_57 rfl ?_
        refine SW.getI (f := 13) aw_cl10 kp_120 (by decide) (hW.le (by decide)) (by decide) ww_1255 dX10_invitedLine_58 rfl ?_
        refine SW.if_eq 65 dX10_invitedLine_61 (by decide) (fun hbr => ?_) (fun hbr => ?_)
        · replace vc := vc.1 hbr
          refine SW.aload_n dX10_invitedLine_65 rfl ?_
          refine SW.getS (f := 16) (r := 124) aw_cl10 kp_120 (by decide) (hW.le (by decide)) (by decide) ww_1258 dX10_invitedLine_66 rfl hW.t120_16 ?_
          refine SW.bipush (v := (73 : Int32)) dX10_invitedLine_69 (by decide) ?_
          refine SW.iload_n dX10_invitedLine_71 rfl ?_
          refine SW.iadd dX10_invitedLine_72 ?_
          refine SW.iload_n dX10_invitedLine_73 rfl ?_
          refine SW.iconst (v := (1 : Int32)) dX10_invitedLine_74 (by decide) ?_
          refine SW.iadd dX10_invitedLine_75 ?_
          refine SW.iast kp_124 (by decide) (hW.le (by decide)) vc.1 dX10_invitedLine_76 ?_
          replace vc := vc.2
          refine SW.aload_n dX10_invitedLine_77 rfl ?_
          refine SW.getS (f := 16) (r := 124) aw_cl10 kp_120 (by decide) (hW.le (by decide)) (by decide) ww_1258 dX10_invitedLine_78 rfl hW.t120_16 ?_
          refine SW.bipush (v := (8 : Int32)) dX10_invitedLine_81 (by decide) ?_
          refine SW.dup2 dX10_invitedLine_83 rfl rfl ?_
          refine SW.iald kp_124 (by decide) (hW.le (by decide)) (vp_in_nI (n := 8) (by decide) (by decide)) dX10_invitedLine_84 ?_
          refine SW.iconst (v := (1 : Int32)) dX10_invitedLine_85 (by decide) ?_
          refine SW.iadd dX10_invitedLine_86 ?_
          refine SW.iast kp_124 (by decide) (hW.le (by decide)) (vp_in_nI (n := 8) (by decide) (by decide)) dX10_invitedLine_87 ?_
          exact SW.vret dX10_invitedLine_88 rfl ⟨rfl, vc⟩
        · replace vc := vc.2 hbr
          exact SW.vret dX10_invitedLine_64 rfl ⟨rfl, vc⟩
  · replace vc := vc.2 hbr
    exact SW.vret dX10_invitedLine_7 rfl ⟨rfl, vc⟩
theorem ctX10_invitedLine {G : GG} {q : Nat → SG → TU → TH → Prop} {n : Nat} {σ : SG} {τ : TU} {θ : TH}  (h : SW G 9 mX10_invitedLine (aw_qv q) 0 0 0 [some (.ref 120), none, none] [] (n, σ, τ, θ)) : SMv G 9 mX10_invitedLine 0 0 [.ref 120] n σ τ θ q := SM.of _ rfl rfl (Nat.le_of_ble_eq_true rfl) h
set_option maxHeartbeats 4000000 in
set_option maxRecDepth 20000 in
theorem sgX10_isDebt_0 {G : GG} {k : Nat} {q : Int32 → Nat → SG → TU → TH → Prop} {n : Nat} {σ : SG} {τ : TU} {θ : TH}  (x1 : Int32) (hk : 2 ≤ k)  (hW : aw_WT n θ) (vc : (((σ 120 14) = 0) → (q (0 : Int32) n σ τ θ)) ∧ ((¬ (σ 120 14) = 0) → (SMi G 1 mX10_in 0 0 [.int x1, .int (0 : Int32), .int ((σ 123 5) - (1 : Int32))] n σ τ θ (fun a1 n1 σ1 τ1 θ1 => aw_WT n1 θ1 ∧ (((a1 = 0) → (q (0 : Int32) n1 σ1 τ1 θ1)) ∧ ((¬ a1 = 0) → (q (1 : Int32) n1 σ1 τ1 θ1))))))) : SW G k mX10_isDebt (aw_qi q) 0 0 0 [some (.ref 120), some (.int x1)] [] (n, σ, τ, θ) := by
  refine SW.aload_n dX10_isDebt_0 rfl ?_
  refine SW.getI (f := 14) aw_cl10 kp_120 (by decide) (hW.le (by decide)) (by decide) ww_1256 dX10_isDebt_1 rfl ?_
  refine SW.if_eq 27 dX10_isDebt_4 (by decide) (fun hbr => ?_) (fun hbr => ?_)
  · replace vc := vc.1 hbr
    refine SW.iconst (v := (0 : Int32)) dX10_isDebt_27 (by decide) ?_
    exact SW.iret dX10_isDebt_28 rfl rfl ⟨_, rfl, vc⟩
  · replace vc := vc.2 hbr
    refine SW.iload_n dX10_isDebt_7 rfl ?_
    refine SW.iconst (v := (0 : Int32)) dX10_isDebt_8 (by decide) ?_
    refine SW.aload_n dX10_isDebt_9 rfl ?_
    refine SW.getS (f := 15) (r := 123) aw_cl10 kp_120 (by decide) (hW.le (by decide)) (by decide) ww_1257 dX10_isDebt_10 rfl hW.t120_15 ?_
    refine SW.iconst (v := (5 : Int32)) dX10_isDebt_13 (by decide) ?_
    refine SW.iald kp_123 (by decide) (hW.le (by decide)) (vp_in_nI (n := 5) (by decide) (by decide)) dX10_isDebt_14 ?_
    refine SW.iconst (v := (1 : Int32)) dX10_isDebt_15 (by decide) ?_
    refine SW.isub dX10_isDebt_16 ?_
    refine SW.csi3 kS_X10_139 (by omega) (Nat.le_of_ble_eq_true rfl) dX10_isDebt_17 (SMi.mono vc ?_)
    intro a1 n1 σ1 τ1 θ1 vc
    obtain ⟨hW, vc⟩ := vc
    refine SW.if_eq 27 dX10_isDebt_20 (by decide) (fun hbr => ?_) (fun hbr => ?_)
    · replace vc := vc.1 hbr
      refine SW.iconst (v := (0 : Int32)) dX10_isDebt_27 (by decide) ?_
      exact SW.iret dX10_isDebt_28 rfl rfl ⟨_, rfl, vc⟩
    · replace vc := vc.2 hbr
      refine SW.iconst (v := (1 : Int32)) dX10_isDebt_23 (by decide) ?_
      refine SW.goto 28 dX10_isDebt_24 (by decide) ?_
      exact SW.iret dX10_isDebt_28 rfl rfl ⟨_, rfl, vc⟩
theorem ctX10_isDebt {G : GG} {q : Int32 → Nat → SG → TU → TH → Prop} {n : Nat} {σ : SG} {τ : TU} {θ : TH} (x1 : Int32) (h : SW G 2 mX10_isDebt (aw_qi q) 0 0 0 [some (.ref 120), some (.int x1)] [] (n, σ, τ, θ)) : SMi G 2 mX10_isDebt 0 0 [.ref 120, .int x1] n σ τ θ q := SM.of _ rfl rfl (Nat.le_of_ble_eq_true rfl) h
set_option maxHeartbeats 4000000 in
set_option maxRecDepth 20000 in
theorem sgX10_isDigit_0 {G : GG} {k : Nat} {q : Int32 → Nat → SG → TU → TH → Prop} {n : Nat} {σ : SG} {τ : TU} {θ : TH}  (x0 : Int32) (hk : 1 ≤ k)  (hW : aw_WT n θ) (vc : ((x0 < (48 : Int32)) → (q (0 : Int32) n σ τ θ)) ∧ ((¬ x0 < (48 : Int32)) → ((((57 : Int32) < x0) → (q (0 : Int32) n σ τ θ)) ∧ ((¬ (57 : Int32) < x0) → (q (1 : Int32) n σ τ θ))))) : SW G k mX10_isDigit (aw_qi q) 0 0 0 [some (.int x0)] [] (n, σ, τ, θ) := by
  refine SW.iload_n dX10_isDigit_0 rfl ?_
  refine SW.bipush (v := (48 : Int32)) dX10_isDigit_1 (by decide) ?_
  refine SW.icmp_lt 16 dX10_isDigit_3 (by decide) (fun hbr => ?_) (fun hbr => ?_)
  · replace vc := vc.1 hbr
    refine SW.iconst (v := (0 : Int32)) dX10_isDigit_16 (by decide) ?_
    exact SW.iret dX10_isDigit_17 rfl rfl ⟨_, rfl, vc⟩
  · replace vc := vc.2 hbr
    refine SW.iload_n dX10_isDigit_6 rfl ?_
    refine SW.bipush (v := (57 : Int32)) dX10_isDigit_7 (by decide) ?_
    refine SW.icmp_gt 16 dX10_isDigit_9 (by decide) (fun hbr => ?_) (fun hbr => ?_)
    · replace vc := vc.1 hbr
      refine SW.iconst (v := (0 : Int32)) dX10_isDigit_16 (by decide) ?_
      exact SW.iret dX10_isDigit_17 rfl rfl ⟨_, rfl, vc⟩
    · replace vc := vc.2 hbr
      refine SW.iconst (v := (1 : Int32)) dX10_isDigit_12 (by decide) ?_
      refine SW.goto 17 dX10_isDigit_13 (by decide) ?_
      exact SW.iret dX10_isDigit_17 rfl rfl ⟨_, rfl, vc⟩
theorem ctX10_isDigit {G : GG} {q : Int32 → Nat → SG → TU → TH → Prop} {n : Nat} {σ : SG} {τ : TU} {θ : TH} (x0 : Int32) (h : SW G 1 mX10_isDigit (aw_qi q) 0 0 0 [some (.int x0)] [] (n, σ, τ, θ)) : SMi G 1 mX10_isDigit 0 0 [.int x0] n σ τ θ q := SM.of _ rfl rfl (Nat.le_of_ble_eq_true rfl) h
set_option maxHeartbeats 4000000 in
set_option maxRecDepth 20000 in
theorem sgX10_isDoor_0 {G : GG} {k : Nat} {q : Int32 → Nat → SG → TU → TH → Prop} {n : Nat} {σ : SG} {τ : TU} {θ : TH}  (x1 : Int32) (hk : 2 ≤ k)  (hW : aw_WT n θ) (vc : (((σ 120 14) = 0) → (q (0 : Int32) n σ τ θ)) ∧ ((¬ (σ 120 14) = 0) → (SMi G 1 mX10_in 0 0 [.int x1, .int (0 : Int32), .int ((σ 123 7) - (1 : Int32))] n σ τ θ (fun a1 n1 σ1 τ1 θ1 => aw_WT n1 θ1 ∧ (((a1 = 0) → (q (0 : Int32) n1 σ1 τ1 θ1)) ∧ ((¬ a1 = 0) → (q (1 : Int32) n1 σ1 τ1 θ1))))))) : SW G k mX10_isDoor (aw_qi q) 0 0 0 [some (.ref 120), some (.int x1)] [] (n, σ, τ, θ) := by
  refine SW.aload_n dX10_isDoor_0 rfl ?_
  refine SW.getI (f := 14) aw_cl10 kp_120 (by decide) (hW.le (by decide)) (by decide) ww_1256 dX10_isDoor_1 rfl ?_
  refine SW.if_eq 28 dX10_isDoor_4 (by decide) (fun hbr => ?_) (fun hbr => ?_)
  · replace vc := vc.1 hbr
    refine SW.iconst (v := (0 : Int32)) dX10_isDoor_28 (by decide) ?_
    exact SW.iret dX10_isDoor_29 rfl rfl ⟨_, rfl, vc⟩
  · replace vc := vc.2 hbr
    refine SW.iload_n dX10_isDoor_7 rfl ?_
    refine SW.iconst (v := (0 : Int32)) dX10_isDoor_8 (by decide) ?_
    refine SW.aload_n dX10_isDoor_9 rfl ?_
    refine SW.getS (f := 15) (r := 123) aw_cl10 kp_120 (by decide) (hW.le (by decide)) (by decide) ww_1257 dX10_isDoor_10 rfl hW.t120_15 ?_
    refine SW.bipush (v := (7 : Int32)) dX10_isDoor_13 (by decide) ?_
    refine SW.iald kp_123 (by decide) (hW.le (by decide)) (vp_in_nI (n := 7) (by decide) (by decide)) dX10_isDoor_15 ?_
    refine SW.iconst (v := (1 : Int32)) dX10_isDoor_16 (by decide) ?_
    refine SW.isub dX10_isDoor_17 ?_
    refine SW.csi3 kS_X10_139 (by omega) (Nat.le_of_ble_eq_true rfl) dX10_isDoor_18 (SMi.mono vc ?_)
    intro a1 n1 σ1 τ1 θ1 vc
    obtain ⟨hW, vc⟩ := vc
    refine SW.if_eq 28 dX10_isDoor_21 (by decide) (fun hbr => ?_) (fun hbr => ?_)
    · replace vc := vc.1 hbr
      refine SW.iconst (v := (0 : Int32)) dX10_isDoor_28 (by decide) ?_
      exact SW.iret dX10_isDoor_29 rfl rfl ⟨_, rfl, vc⟩
    · replace vc := vc.2 hbr
      refine SW.iconst (v := (1 : Int32)) dX10_isDoor_24 (by decide) ?_
      refine SW.goto 29 dX10_isDoor_25 (by decide) ?_
      exact SW.iret dX10_isDoor_29 rfl rfl ⟨_, rfl, vc⟩
theorem ctX10_isDoor {G : GG} {q : Int32 → Nat → SG → TU → TH → Prop} {n : Nat} {σ : SG} {τ : TU} {θ : TH} (x1 : Int32) (h : SW G 2 mX10_isDoor (aw_qi q) 0 0 0 [some (.ref 120), some (.int x1)] [] (n, σ, τ, θ)) : SMi G 2 mX10_isDoor 0 0 [.ref 120, .int x1] n σ τ θ q := SM.of _ rfl rfl (Nat.le_of_ble_eq_true rfl) h
set_option maxHeartbeats 4000000 in
set_option maxRecDepth 20000 in
theorem sgX10_isDue_0 {G : GG} {k : Nat} {q : Int32 → Nat → SG → TU → TH → Prop} {n : Nat} {σ : SG} {τ : TU} {θ : TH} (r1 rn1 : Nat) (x2 : Int32) (hk : 1 ≤ k) (hr1 : isA r1 rn1) (hW : aw_WT n θ) (vc : vp_in (((25 : Int32) + ((4 : Int32) * x2)) + (3 : Int32)) 167 ∧ (vp_in (12 : Int32) rn1 ∧ ((((σ r1 12) < (σ 123 (((25 : Int32) + ((4 : Int32) * x2)) + (3 : Int32)).toNatClampNeg)) → (q (0 : Int32) n σ τ θ)) ∧ ((¬ (σ r1 12) < (σ 123 (((25 : Int32) + ((4 : Int32) * x2)) + (3 : Int32)).toNatClampNeg)) → (vp_in x2 rn1 ∧ ((((σ r1 x2.toNatClampNeg) ≤ 0) → (q (0 : Int32) n σ τ θ)) ∧ ((¬ (σ r1 x2.toNatClampNeg) ≤ 0) → (q (1 : Int32) n σ τ θ)))))))) : SW G k mX10_isDue (aw_qi q) 0 0 0 [some (.ref 120), some (.ref r1), some (.int x2)] [] (n, σ, τ, θ) := by
  refine SW.aload_n dX10_isDue_0 rfl ?_
  refine SW.getS (f := 15) (r := 123) aw_cl10 kp_120 (by decide) (hW.le (by decide)) (by decide) ww_1257 dX10_isDue_1 rfl hW.t120_15 ?_
  refine SW.bipush (v := (25 : Int32)) dX10_isDue_4 (by decide) ?_
  refine SW.iconst (v := (4 : Int32)) dX10_isDue_6 (by decide) ?_
  refine SW.iload_n dX10_isDue_7 rfl ?_
  refine SW.imul dX10_isDue_8 ?_
  refine SW.iadd dX10_isDue_9 ?_
  refine SW.iconst (v := (3 : Int32)) dX10_isDue_10 (by decide) ?_
  refine SW.iadd dX10_isDue_11 ?_
  refine SW.iald kp_123 (by decide) (hW.le (by decide)) vc.1 dX10_isDue_12 ?_
  replace vc := vc.2
  refine SW.aload_n dX10_isDue_13 rfl ?_
  refine SW.bipush (v := (12 : Int32)) dX10_isDue_14 (by decide) ?_
  refine SW.iald hr1.1 hr1.2.1 (hW.le hr1.2.2) vc.1 dX10_isDue_16 ?_
  replace vc := vc.2
  refine SW.icmp_gt 30 dX10_isDue_17 (by decide) (fun hbr => ?_) (fun hbr => ?_)
  · replace vc := vc.1 hbr
    refine SW.iconst (v := (0 : Int32)) dX10_isDue_30 (by decide) ?_
    exact SW.iret dX10_isDue_31 rfl rfl ⟨_, rfl, vc⟩
  · replace vc := vc.2 hbr
    refine SW.aload_n dX10_isDue_20 rfl ?_
    refine SW.iload_n dX10_isDue_21 rfl ?_
    refine SW.iald hr1.1 hr1.2.1 (hW.le hr1.2.2) vc.1 dX10_isDue_22 ?_
    replace vc := vc.2
    refine SW.if_le 30 dX10_isDue_23 (by decide) (fun hbr => ?_) (fun hbr => ?_)
    · replace vc := vc.1 hbr
      refine SW.iconst (v := (0 : Int32)) dX10_isDue_30 (by decide) ?_
      exact SW.iret dX10_isDue_31 rfl rfl ⟨_, rfl, vc⟩
    · replace vc := vc.2 hbr
      refine SW.iconst (v := (1 : Int32)) dX10_isDue_26 (by decide) ?_
      refine SW.goto 31 dX10_isDue_27 (by decide) ?_
      exact SW.iret dX10_isDue_31 rfl rfl ⟨_, rfl, vc⟩
theorem ctX10_isDue {G : GG} {q : Int32 → Nat → SG → TU → TH → Prop} {n : Nat} {σ : SG} {τ : TU} {θ : TH} (r1 rn1 : Nat) (x2 : Int32) (h : SW G 1 mX10_isDue (aw_qi q) 0 0 0 [some (.ref 120), some (.ref r1), some (.int x2)] [] (n, σ, τ, θ)) : SMi G 1 mX10_isDue 0 0 [.ref 120, .ref r1, .int x2] n σ τ θ q := SM.of _ rfl rfl (Nat.le_of_ble_eq_true rfl) h
set_option maxHeartbeats 4000000 in
set_option maxRecDepth 20000 in
theorem sgX10_isMan_0 {G : GG} {k : Nat} {q : Int32 → Nat → SG → TU → TH → Prop} {n : Nat} {σ : SG} {τ : TU} {θ : TH}  (x1 : Int32) (hk : 2 ≤ k)  (hW : aw_WT n θ) (vc : (((σ 120 14) = 0) → (q (0 : Int32) n σ τ θ)) ∧ ((¬ (σ 120 14) = 0) → (SMi G 1 mX10_in 0 0 [.int x1, .int (0 : Int32), .int ((σ 123 4) - (1 : Int32))] n σ τ θ (fun a1 n1 σ1 τ1 θ1 => aw_WT n1 θ1 ∧ (((a1 = 0) → (q (0 : Int32) n1 σ1 τ1 θ1)) ∧ ((¬ a1 = 0) → (q (1 : Int32) n1 σ1 τ1 θ1))))))) : SW G k mX10_isMan (aw_qi q) 0 0 0 [some (.ref 120), some (.int x1)] [] (n, σ, τ, θ) := by
  refine SW.aload_n dX10_isMan_0 rfl ?_
  refine SW.getI (f := 14) aw_cl10 kp_120 (by decide) (hW.le (by decide)) (by decide) ww_1256 dX10_isMan_1 rfl ?_
  refine SW.if_eq 27 dX10_isMan_4 (by decide) (fun hbr => ?_) (fun hbr => ?_)
  · replace vc := vc.1 hbr
    refine SW.iconst (v := (0 : Int32)) dX10_isMan_27 (by decide) ?_
    exact SW.iret dX10_isMan_28 rfl rfl ⟨_, rfl, vc⟩
  · replace vc := vc.2 hbr
    refine SW.iload_n dX10_isMan_7 rfl ?_
    refine SW.iconst (v := (0 : Int32)) dX10_isMan_8 (by decide) ?_
    refine SW.aload_n dX10_isMan_9 rfl ?_
    refine SW.getS (f := 15) (r := 123) aw_cl10 kp_120 (by decide) (hW.le (by decide)) (by decide) ww_1257 dX10_isMan_10 rfl hW.t120_15 ?_
    refine SW.iconst (v := (4 : Int32)) dX10_isMan_13 (by decide) ?_
    refine SW.iald kp_123 (by decide) (hW.le (by decide)) (vp_in_nI (n := 4) (by decide) (by decide)) dX10_isMan_14 ?_
    refine SW.iconst (v := (1 : Int32)) dX10_isMan_15 (by decide) ?_
    refine SW.isub dX10_isMan_16 ?_
    refine SW.csi3 kS_X10_139 (by omega) (Nat.le_of_ble_eq_true rfl) dX10_isMan_17 (SMi.mono vc ?_)
    intro a1 n1 σ1 τ1 θ1 vc
    obtain ⟨hW, vc⟩ := vc
    refine SW.if_eq 27 dX10_isMan_20 (by decide) (fun hbr => ?_) (fun hbr => ?_)
    · replace vc := vc.1 hbr
      refine SW.iconst (v := (0 : Int32)) dX10_isMan_27 (by decide) ?_
      exact SW.iret dX10_isMan_28 rfl rfl ⟨_, rfl, vc⟩
    · replace vc := vc.2 hbr
      refine SW.iconst (v := (1 : Int32)) dX10_isMan_23 (by decide) ?_
      refine SW.goto 28 dX10_isMan_24 (by decide) ?_
      exact SW.iret dX10_isMan_28 rfl rfl ⟨_, rfl, vc⟩
theorem ctX10_isMan {G : GG} {q : Int32 → Nat → SG → TU → TH → Prop} {n : Nat} {σ : SG} {τ : TU} {θ : TH} (x1 : Int32) (h : SW G 2 mX10_isMan (aw_qi q) 0 0 0 [some (.ref 120), some (.int x1)] [] (n, σ, τ, θ)) : SMi G 2 mX10_isMan 0 0 [.ref 120, .int x1] n σ τ θ q := SM.of _ rfl rfl (Nat.le_of_ble_eq_true rfl) h
set_option maxHeartbeats 4000000 in
set_option maxRecDepth 20000 in
theorem sgX10_isNot_0 {G : GG} {k : Nat} {q : Int32 → Nat → SG → TU → TH → Prop} {n : Nat} {σ : SG} {τ : TU} {θ : TH}  (x1 : Int32) (hk : 1 ≤ k)  (hW : aw_WT n θ) (vc : q (0 : Int32) n (aw_u σ 120 11 x1) τ θ) : SW G k mX10_isNot (aw_qi q) 0 0 0 [some (.ref 120), some (.int x1)] [] (n, σ, τ, θ) := by
  refine SW.aload_n dX10_isNot_0 rfl ?_
  refine SW.iload_n dX10_isNot_1 rfl ?_
  refine SW.putI (f := 11) aw_cl10 kp_120 (by decide) (hW.le (by decide)) (by decide) ww_1253 (Or.inl rfl) dX10_isNot_2 rfl rfl rfl ?_
  refine SW.iconst (v := (0 : Int32)) dX10_isNot_5 (by decide) ?_
  exact SW.iret dX10_isNot_6 rfl rfl ⟨_, rfl, vc⟩
theorem ctX10_isNot {G : GG} {q : Int32 → Nat → SG → TU → TH → Prop} {n : Nat} {σ : SG} {τ : TU} {θ : TH} (x1 : Int32) (h : SW G 1 mX10_isNot (aw_qi q) 0 0 0 [some (.ref 120), some (.int x1)] [] (n, σ, τ, θ)) : SMi G 1 mX10_isNot 0 0 [.ref 120, .int x1] n σ τ θ q := SM.of _ rfl rfl (Nat.le_of_ble_eq_true rfl) h
set_option maxHeartbeats 4000000 in
set_option maxRecDepth 20000 in
theorem sgX10_isOf_0 {G : GG} {k : Nat} {q : Int32 → Nat → SG → TU → TH → Prop} {n : Nat} {σ : SG} {τ : TU} {θ : TH} (r1 rn1 : Nat) (x2 : Int32) (x3 : Int32) (hk : 2 ≤ k) (hr1 : isA r1 rn1) (hW : aw_WT n θ) (vc : SMi G 1 mX10_isDue 0 0 [.ref 120, .ref r1, .int x2] n σ τ θ (fun a1 n1 σ1 τ1 θ1 => aw_WT n1 θ1 ∧ (((a1 = 0) → (q (0 : Int32) n1 σ1 τ1 θ1)) ∧ ((¬ a1 = 0) → (vp_in ((25 : Int32) + ((4 : Int32) * x2)) 167 ∧ (((¬ (σ1 123 ((25 : Int32) + ((4 : Int32) * x2)).toNatClampNeg) = x3) → (q (0 : Int32) n1 σ1 τ1 θ1)) ∧ (((σ1 123 ((25 : Int32) + ((4 : Int32) * x2)).toNatClampNeg) = x3) → (q (1 : Int32) n1 σ1 τ1 θ1)))))))) : SW G k mX10_isOf (aw_qi q) 0 0 0 [some (.ref 120), some (.ref r1), some (.int x2), some (.int x3)] [] (n, σ, τ, θ) := by
  refine SW.aload_n dX10_isOf_0 rfl ?_
  refine SW.aload_n dX10_isOf_1 rfl ?_
  refine SW.iload_n dX10_isOf_2 rfl ?_
  refine SW.cvi2 kV_X10_236 (by omega) aw_cl10 kp_120 (by decide) (hW.le (by decide)) rfl (Nat.le_of_ble_eq_true rfl) dX10_isOf_3 (SMi.mono vc ?_)
  intro a1 n1 σ1 τ1 θ1 vc
  obtain ⟨hW, vc⟩ := vc
  refine SW.if_eq 28 dX10_isOf_6 (by decide) (fun hbr => ?_) (fun hbr => ?_)
  · replace vc := vc.1 hbr
    refine SW.iconst (v := (0 : Int32)) dX10_isOf_28 (by decide) ?_
    exact SW.iret dX10_isOf_29 rfl rfl ⟨_, rfl, vc⟩
  · replace vc := vc.2 hbr
    refine SW.aload_n dX10_isOf_9 rfl ?_
    refine SW.getS (f := 15) (r := 123) aw_cl10 kp_120 (by decide) (hW.le (by decide)) (by decide) ww_1257 dX10_isOf_10 rfl hW.t120_15 ?_
    refine SW.bipush (v := (25 : Int32)) dX10_isOf_13 (by decide) ?_
    refine SW.iconst (v := (4 : Int32)) dX10_isOf_15 (by decide) ?_
    refine SW.iload_n dX10_isOf_16 rfl ?_
    refine SW.imul dX10_isOf_17 ?_
    refine SW.iadd dX10_isOf_18 ?_
    refine SW.iald kp_123 (by decide) (hW.le (by decide)) vc.1 dX10_isOf_19 ?_
    replace vc := vc.2
    refine SW.iload_n dX10_isOf_20 rfl ?_
    refine SW.icmp_ne 28 dX10_isOf_21 (by decide) (fun hbr => ?_) (fun hbr => ?_)
    · replace vc := vc.1 hbr
      refine SW.iconst (v := (0 : Int32)) dX10_isOf_28 (by decide) ?_
      exact SW.iret dX10_isOf_29 rfl rfl ⟨_, rfl, vc⟩
    · replace vc := vc.2 hbr
      refine SW.iconst (v := (1 : Int32)) dX10_isOf_24 (by decide) ?_
      refine SW.goto 29 dX10_isOf_25 (by decide) ?_
      exact SW.iret dX10_isOf_29 rfl rfl ⟨_, rfl, vc⟩
theorem ctX10_isOf {G : GG} {q : Int32 → Nat → SG → TU → TH → Prop} {n : Nat} {σ : SG} {τ : TU} {θ : TH} (r1 rn1 : Nat) (x2 : Int32) (x3 : Int32) (h : SW G 2 mX10_isOf (aw_qi q) 0 0 0 [some (.ref 120), some (.ref r1), some (.int x2), some (.int x3)] [] (n, σ, τ, θ)) : SMi G 2 mX10_isOf 0 0 [.ref 120, .ref r1, .int x2, .int x3] n σ τ θ q := SM.of _ rfl rfl (Nat.le_of_ble_eq_true rfl) h
set_option maxHeartbeats 4000000 in
set_option maxRecDepth 20000 in
theorem sgX10_isSmall_0 {G : GG} {k : Nat} {q : Int32 → Nat → SG → TU → TH → Prop} {n : Nat} {σ : SG} {τ : TU} {θ : TH}  (x0 : Int32) (hk : 1 ≤ k)  (hW : aw_WT n θ) (vc : ((x0 < (97 : Int32)) → (q (0 : Int32) n σ τ θ)) ∧ ((¬ x0 < (97 : Int32)) → ((((122 : Int32) < x0) → (q (0 : Int32) n σ τ θ)) ∧ ((¬ (122 : Int32) < x0) → (q (1 : Int32) n σ τ θ))))) : SW G k mX10_isSmall (aw_qi q) 0 0 0 [some (.int x0)] [] (n, σ, τ, θ) := by
  refine SW.iload_n dX10_isSmall_0 rfl ?_
  refine SW.bipush (v := (97 : Int32)) dX10_isSmall_1 (by decide) ?_
  refine SW.icmp_lt 16 dX10_isSmall_3 (by decide) (fun hbr => ?_) (fun hbr => ?_)
  · replace vc := vc.1 hbr
    refine SW.iconst (v := (0 : Int32)) dX10_isSmall_16 (by decide) ?_
    exact SW.iret dX10_isSmall_17 rfl rfl ⟨_, rfl, vc⟩
  · replace vc := vc.2 hbr
    refine SW.iload_n dX10_isSmall_6 rfl ?_
    refine SW.bipush (v := (122 : Int32)) dX10_isSmall_7 (by decide) ?_
    refine SW.icmp_gt 16 dX10_isSmall_9 (by decide) (fun hbr => ?_) (fun hbr => ?_)
    · replace vc := vc.1 hbr
      refine SW.iconst (v := (0 : Int32)) dX10_isSmall_16 (by decide) ?_
      exact SW.iret dX10_isSmall_17 rfl rfl ⟨_, rfl, vc⟩
    · replace vc := vc.2 hbr
      refine SW.iconst (v := (1 : Int32)) dX10_isSmall_12 (by decide) ?_
      refine SW.goto 17 dX10_isSmall_13 (by decide) ?_
      exact SW.iret dX10_isSmall_17 rfl rfl ⟨_, rfl, vc⟩
theorem ctX10_isSmall {G : GG} {q : Int32 → Nat → SG → TU → TH → Prop} {n : Nat} {σ : SG} {τ : TU} {θ : TH} (x0 : Int32) (h : SW G 1 mX10_isSmall (aw_qi q) 0 0 0 [some (.int x0)] [] (n, σ, τ, θ)) : SMi G 1 mX10_isSmall 0 0 [.int x0] n σ τ θ q := SM.of _ rfl rfl (Nat.le_of_ble_eq_true rfl) h
set_option maxHeartbeats 4000000 in
set_option maxRecDepth 20000 in
theorem sgX10_isWord_0 {G : GG} {k : Nat} {q : Int32 → Nat → SG → TU → TH → Prop} {n : Nat} {σ : SG} {τ : TU} {θ : TH} (j : Nat) (st : String × Nat × String × List Int32)  (hk : 5 ≤ k) (hj : aw_strs[j]? = some st) (hW : aw_WT n θ) (vc : ((¬ (σ 120 13) = 0) → (q (0 : Int32) n σ τ θ)) ∧ (((σ 120 13) = 0) → (((¬ (σ 120 6) = (2 : Int32)) → (q (0 : Int32) n σ τ θ)) ∧ (((σ 120 6) = (2 : Int32)) → (SMi G 2 mJ0_length_8abf5 0 0 [.ref (1000 + j)] n σ τ θ (fun a1 n1 σ1 τ1 θ1 => aw_WT n1 θ1 ∧ ((((σ 120 8) = a1) → (SW G k mX10_isWord (aw_qi q) 0 0 32 [some (.ref 120), some (.ref (1000 + j)), some (.int (1 : Int32)), some (.int (0 : Int32))] [] (n1, σ1, τ1, θ1))) ∧ ((¬ (σ 120 8) = a1) → (q (0 : Int32) n1 σ1 τ1 θ1))))))))) : SW G k mX10_isWord (aw_qi q) 0 0 0 [some (.ref 120), some (.ref (1000 + j)), none, none] [] (n, σ, τ, θ) := by
  refine SW.aload_n dX10_isWord_0 rfl ?_
  refine SW.getI (f := 13) aw_cl10 kp_120 (by decide) (hW.le (by decide)) (by decide) ww_1255 dX10_isWord_1 rfl ?_
  refine SW.if_ne 26 dX10_isWord_4 (by decide) (fun hbr => ?_) (fun hbr => ?_)
  · replace vc := vc.1 hbr
    refine SW.iconst (v := (0 : Int32)) dX10_isWord_26 (by decide) ?_
    exact SW.iret dX10_isWord_27 rfl rfl ⟨_, rfl, vc⟩
  · replace vc := vc.2 hbr
    refine SW.aload_n dX10_isWord_7 rfl ?_
    refine SW.getI (f := 6) aw_cl10 kp_120 (by decide) (hW.le (by decide)) (by decide) ww_1248 dX10_isWord_8 rfl ?_
    refine SW.iconst (v := (2 : Int32)) dX10_isWord_11 (by decide) ?_
    refine SW.icmp_ne 26 dX10_isWord_12 (by decide) (fun hbr => ?_) (fun hbr => ?_)
    · replace vc := vc.1 hbr
      refine SW.iconst (v := (0 : Int32)) dX10_isWord_26 (by decide) ?_
      exact SW.iret dX10_isWord_27 rfl rfl ⟨_, rfl, vc⟩
    · replace vc := vc.2 hbr
      refine SW.aload_n dX10_isWord_15 rfl ?_
      refine SW.getI (f := 8) aw_cl10 kp_120 (by decide) (hW.le (by decide)) (by decide) ww_1250 dX10_isWord_16 rfl ?_
      refine SW.aload_n dX10_isWord_19 rfl ?_
      refine SW.ct0 kV_X10_95 (by omega) hj rfl (Nat.le_of_ble_eq_true rfl) dX10_isWord_20 (SMi.mono vc ?_)
      intro a1 n1 σ1 τ1 θ1 vc
      obtain ⟨hW, vc⟩ := vc
      refine SW.icmp_eq 28 dX10_isWord_23 (by decide) (fun hbr => ?_) (fun hbr => ?_)
      · replace vc := vc.1 hbr
        refine SW.iconst (v := (1 : Int32)) dX10_isWord_28 (by decide) ?_
        refine SW.istore_n dX10_isWord_29 (by decide) rfl rfl ?_
        refine SW.iconst (v := (0 : Int32)) dX10_isWord_30 (by decide) ?_
        refine SW.istore_n dX10_isWord_31 (by decide) rfl rfl ?_
        exact vc
      · replace vc := vc.2 hbr
        refine SW.iconst (v := (0 : Int32)) dX10_isWord_26 (by decide) ?_
        exact SW.iret dX10_isWord_27 rfl rfl ⟨_, rfl, vc⟩
set_option maxHeartbeats 4000000 in
set_option maxRecDepth 20000 in
theorem sgX10_isWord_32 {G : GG} {k : Nat} {q : Int32 → Nat → SG → TU → TH → Prop} {n : Nat} {σ : SG} {τ : TU} {θ : TH} (j : Nat) (st : String × Nat × String × List Int32) (x2 : Int32) (x3 : Int32) (hk : 5 ≤ k) (hj : aw_strs[j]? = some st) (hW : aw_WT n θ) (vc : (((σ 120 8) ≤ x3) → ((x2 = 0 ∨ x2 = 1) ∧ q x2 n σ τ θ)) ∧ ((¬ (σ 120 8) ≤ x3) → (((x2 = 0) → (SW G k mX10_isWord (aw_qi q) 0 0 32 [some (.ref 120), some (.ref (1000 + j)), some (.int (0 : Int32)), some (.int (x3 + (1 : Int32)))] [] (n, σ, τ, θ))) ∧ ((¬ x2 = 0) → (vp_in x3 8 ∧ (SMi G 4 mJ0_charAt_5068e 0 0 [.ref (1000 + j), .int x3] n σ τ θ (fun a1 n1 σ1 τ1 θ1 => aw_WT n1 θ1 ∧ (((¬ (σ 122 x3.toNatClampNeg) = a1) → (SW G k mX10_isWord (aw_qi q) 0 0 32 [some (.ref 120), some (.ref (1000 + j)), some (.int (0 : Int32)), some (.int (x3 + (1 : Int32)))] [] (n1, σ1, τ1, θ1))) ∧ (((σ 122 x3.toNatClampNeg) = a1) → (SW G k mX10_isWord (aw_qi q) 0 0 32 [some (.ref 120), some (.ref (1000 + j)), some (.int (1 : Int32)), some (.int (x3 + (1 : Int32)))] [] (n1, σ1, τ1, θ1))))))))))) : SW G k mX10_isWord (aw_qi q) 0 0 32 [some (.ref 120), some (.ref (1000 + j)), some (.int x2), some (.int x3)] [] (n, σ, τ, θ) := by
  refine SW.iload_n dX10_isWord_32 rfl ?_
  refine SW.aload_n dX10_isWord_33 rfl ?_
  refine SW.getI (f := 8) aw_cl10 kp_120 (by decide) (hW.le (by decide)) (by decide) ww_1250 dX10_isWord_34 rfl ?_
  refine SW.icmp_ge 70 dX10_isWord_37 (by decide) (fun hbr => ?_) (fun hbr => ?_)
  · replace vc := vc.1 hbr
    refine SW.iload_n dX10_isWord_70 rfl ?_
    exact SW.iret dX10_isWord_71 rfl (aw_nb vc.1) ⟨_, rfl, vc.2⟩
  · replace vc := vc.2 hbr
    refine SW.iload_n dX10_isWord_40 rfl ?_
    refine SW.if_eq 62 dX10_isWord_41 (by decide) (fun hbr => ?_) (fun hbr => ?_)
    · replace vc := vc.1 hbr
      refine SW.iconst (v := (0 : Int32)) dX10_isWord_62 (by decide) ?_
      refine SW.istore_n dX10_isWord_63 (by decide) rfl rfl ?_
      refine SW.iinc (v := (x3 + (1 : Int32))) dX10_isWord_64 rfl rfl (by decide) rfl rfl ?_
      refine SW.goto 32 dX10_isWord_67 (by decide) ?_
      exact vc
    · replace vc := vc.2 hbr
      refine SW.aload_n dX10_isWord_44 rfl ?_
      refine SW.getS (f := 12) (r := 122) aw_cl10 kp_120 (by decide) (hW.le (by decide)) (by decide) ww_1254 dX10_isWord_45 rfl hW.t120_12 ?_
      refine SW.iload_n dX10_isWord_48 rfl ?_
      refine SW.iald kp_122 (by decide) (hW.le (by decide)) vc.1 dX10_isWord_49 ?_
      replace vc := vc.2
      refine SW.aload_n dX10_isWord_50 rfl ?_
      refine SW.iload_n dX10_isWord_51 rfl ?_
      refine SW.ct1 kV_X10_101 (by omega) hj rfl (Nat.le_of_ble_eq_true rfl) dX10_isWord_52 (SMi.mono vc ?_)
      intro a1 n1 σ1 τ1 θ1 vc
      obtain ⟨hW, vc⟩ := vc
      refine SW.icmp_ne 62 dX10_isWord_55 (by decide) (fun hbr => ?_) (fun hbr => ?_)
      · replace vc := vc.1 hbr
        refine SW.iconst (v := (0 : Int32)) dX10_isWord_62 (by decide) ?_
        refine SW.istore_n dX10_isWord_63 (by decide) rfl rfl ?_
        refine SW.iinc (v := (x3 + (1 : Int32))) dX10_isWord_64 rfl rfl (by decide) rfl rfl ?_
        refine SW.goto 32 dX10_isWord_67 (by decide) ?_
        exact vc
      · replace vc := vc.2 hbr
        refine SW.iconst (v := (1 : Int32)) dX10_isWord_58 (by decide) ?_
        refine SW.goto 63 dX10_isWord_59 (by decide) ?_
        refine SW.istore_n dX10_isWord_63 (by decide) rfl rfl ?_
        refine SW.iinc (v := (x3 + (1 : Int32))) dX10_isWord_64 rfl rfl (by decide) rfl rfl ?_
        refine SW.goto 32 dX10_isWord_67 (by decide) ?_
        exact vc
theorem ctX10_isWord {G : GG} {q : Int32 → Nat → SG → TU → TH → Prop} {n : Nat} {σ : SG} {τ : TU} {θ : TH} (j : Nat) (h : SW G 5 mX10_isWord (aw_qi q) 0 0 0 [some (.ref 120), some (.ref (1000 + j)), none, none] [] (n, σ, τ, θ)) : SMi G 5 mX10_isWord 0 0 [.ref 120, .ref (1000 + j)] n σ τ θ q := SM.of _ rfl rfl (Nat.le_of_ble_eq_true rfl) h
set_option maxHeartbeats 4000000 in
set_option maxRecDepth 20000 in
theorem sgX10_judge_0 {G : GG} {k : Nat} {q : Int32 → Nat → SG → TU → TH → Prop} {n : Nat} {σ : SG} {τ : TU} {θ : TH}   (hk : 5 ≤ k)  (hW : aw_WT n θ) (vc : SMv G 1 mX10_good 0 0 [.ref 120] n σ τ θ (fun n1 σ1 τ1 θ1 => aw_WT n1 θ1 ∧ (((¬ ((aw_u σ1 120 22 (0 : Int32)) 120 14) = 0) → (SW G k mX10_judge (aw_qi q) 0 0 24 [some (.ref 120), some (.int (0 : Int32))] [] (n1, (aw_u σ1 120 22 (0 : Int32)), τ1, θ1))) ∧ ((((aw_u σ1 120 22 (0 : Int32)) 120 14) = 0) → (SMi G 1 mX10_no 0 0 [.ref 120, .int (1 : Int32)] n1 (aw_u σ1 120 22 (0 : Int32)) τ1 θ1 (fun a2 n2 σ2 τ2 θ2 => aw_WT n2 θ2 ∧ (q a2 n2 σ2 τ2 θ2))))))) : SW G k mX10_judge (aw_qi q) 0 0 0 [some (.ref 120), none] [] (n, σ, τ, θ) := by
  refine SW.aload_n dX10_judge_0 rfl ?_
  refine SW.cvv0 kV_X10_154 (by omega) aw_cl10 kp_120 (by decide) (hW.le (by decide)) rfl (Nat.le_of_ble_eq_true rfl) dX10_judge_1 (SMv.mono vc ?_)
  intro n1 σ1 τ1 θ1 vc
  obtain ⟨hW, vc⟩ := vc
  refine SW.aload_n dX10_judge_4 rfl ?_
  refine SW.iconst (v := (0 : Int32)) dX10_judge_5 (by decide) ?_
  refine SW.putI (f := 22) aw_cl10 kp_120 (by decide) (hW.le (by decide)) (by decide) ww_1264 (Or.inl rfl) dX10_judge_6 rfl rfl rfl ?_
  refine SW.aload_n dX10_judge_9 rfl ?_
  refine SW.getI (f := 14) aw_cl10 kp_120 (by decide) (hW.le (by decide)) (by decide) ww_1256 dX10_judge_10 rfl ?_
  refine SW.if_ne 22 dX10_judge_13 (by decide) (fun hbr => ?_) (fun hbr => ?_)
  · replace vc := vc.1 hbr
    refine SW.iconst (v := (0 : Int32)) dX10_judge_22 (by decide) ?_
    refine SW.istore_n dX10_judge_23 (by decide) rfl rfl ?_
    exact vc
  · replace vc := vc.2 hbr
    refine SW.aload_n dX10_judge_16 rfl ?_
    refine SW.iconst (v := (1 : Int32)) dX10_judge_17 (by decide) ?_
    refine SW.cvi1 kV_X10_157 (by omega) aw_cl10 kp_120 (by decide) (hW.le (by decide)) rfl (Nat.le_of_ble_eq_true rfl) dX10_judge_18 (SMi.mono vc ?_)
    intro a2 n2 σ2 τ2 θ2 vc
    obtain ⟨hW, vc⟩ := vc
    exact SW.iret dX10_judge_21 rfl rfl ⟨_, rfl, vc⟩
set_option maxHeartbeats 4000000 in
set_option maxRecDepth 20000 in
theorem sgX10_judge_24 {G : GG} {k : Nat} {q : Int32 → Nat → SG → TU → TH → Prop} {n : Nat} {σ : SG} {τ : TU} {θ : TH}  (x1 : Int32) (hk : 5 ≤ k)  (hW : aw_WT n θ) (vc : (((σ 123 9) ≤ x1) → (q (-2 : Int32) n σ τ θ)) ∧ ((¬ (σ 123 9) ≤ x1) → (vp_in ((78 : Int32) + ((2 : Int32) * x1)) 167 ∧ (SMi G 4 mX10_headOf 0 0 [.ref 120, .ref 125, .int (σ 123 ((78 : Int32) + ((2 : Int32) * x1)).toNatClampNeg)] n σ τ θ (fun a1 n1 σ1 τ1 θ1 => aw_WT n1 θ1 ∧ (vp_in (((78 : Int32) + ((2 : Int32) * x1)) + (1 : Int32)) 167 ∧ (SMl G 1 mX10_readAs 0 0 [.ref 120, .int a1, .int (σ1 123 (((78 : Int32) + ((2 : Int32) * x1)) + (1 : Int32)).toNatClampNeg)] n1 σ1 τ1 θ1 (fun a2 n2 σ2 τ2 θ2 => aw_WT n2 θ2 ∧ (((¬ (lg_cmp a2 (0 : Int64)) = 0) → (SW G k mX10_judge (aw_qi q) 0 0 24 [some (.ref 120), some (.int (x1 + (1 : Int32)))] [] (n2, σ2, τ2, θ2))) ∧ (((lg_cmp a2 (0 : Int64)) = 0) → (q x1 n2 σ2 τ2 θ2))))))))))) : SW G k mX10_judge (aw_qi q) 0 0 24 [some (.ref 120), some (.int x1)] [] (n, σ, τ, θ) := by
  refine SW.iload_n dX10_judge_24 rfl ?_
  refine SW.aload_n dX10_judge_25 rfl ?_
  refine SW.getS (f := 15) (r := 123) aw_cl10 kp_120 (by decide) (hW.le (by decide)) (by decide) ww_1257 dX10_judge_26 rfl hW.t120_15 ?_
  refine SW.bipush (v := (9 : Int32)) dX10_judge_29 (by decide) ?_
  refine SW.iald kp_123 (by decide) (hW.le (by decide)) (vp_in_nI (n := 9) (by decide) (by decide)) dX10_judge_31 ?_
  refine SW.icmp_ge 84 dX10_judge_32 (by decide) (fun hbr => ?_) (fun hbr => ?_)
  · replace vc := vc.1 hbr
    refine SW.bipush (v := (-2 : Int32)) dX10_judge_84 (by decide) ?_
    exact SW.iret dX10_judge_86 rfl rfl ⟨_, rfl, vc⟩
  · replace vc := vc.2 hbr
    refine SW.aload_n dX10_judge_35 rfl ?_
    refine SW.aload_n dX10_judge_36 rfl ?_
    refine SW.aload_n dX10_judge_37 rfl ?_
    refine SW.getS (f := 17) (r := 125) aw_cl10 kp_120 (by decide) (hW.le (by decide)) (by decide) ww_1259 dX10_judge_38 rfl hW.t120_17 ?_
    refine SW.aload_n dX10_judge_41 rfl ?_
    refine SW.getS (f := 15) (r := 123) aw_cl10 kp_120 (by decide) (hW.le (by decide)) (by decide) ww_1257 dX10_judge_42 rfl hW.t120_15 ?_
    refine SW.bipush (v := (78 : Int32)) dX10_judge_45 (by decide) ?_
    refine SW.iconst (v := (2 : Int32)) dX10_judge_47 (by decide) ?_
    refine SW.iload_n dX10_judge_48 rfl ?_
    refine SW.imul dX10_judge_49 ?_
    refine SW.iadd dX10_judge_50 ?_
    refine SW.iald kp_123 (by decide) (hW.le (by decide)) vc.1 dX10_judge_51 ?_
    replace vc := vc.2
    refine SW.cvi2 kV_X10_261 (by omega) aw_cl10 kp_120 (by decide) (hW.le (by decide)) rfl (Nat.le_of_ble_eq_true rfl) dX10_judge_52 (SMi.mono vc ?_)
    intro a1 n1 σ1 τ1 θ1 vc
    obtain ⟨hW, vc⟩ := vc
    refine SW.aload_n dX10_judge_55 rfl ?_
    refine SW.getS (f := 15) (r := 123) aw_cl10 kp_120 (by decide) (hW.le (by decide)) (by decide) ww_1257 dX10_judge_56 rfl hW.t120_15 ?_
    refine SW.bipush (v := (78 : Int32)) dX10_judge_59 (by decide) ?_
    refine SW.iconst (v := (2 : Int32)) dX10_judge_61 (by decide) ?_
    refine SW.iload_n dX10_judge_62 rfl ?_
    refine SW.imul dX10_judge_63 ?_
    refine SW.iadd dX10_judge_64 ?_
    refine SW.iconst (v := (1 : Int32)) dX10_judge_65 (by decide) ?_
    refine SW.iadd dX10_judge_66 ?_
    refine SW.iald kp_123 (by decide) (hW.le (by decide)) vc.1 dX10_judge_67 ?_
    replace vc := vc.2
    refine SW.cvl2 kV_X10_333 (by omega) aw_cl10 kp_120 (by decide) (hW.le (by decide)) rfl (Nat.le_of_ble_eq_true rfl) dX10_judge_68 (SMl.mono vc ?_)
    intro a2 n2 σ2 τ2 θ2 vc
    obtain ⟨hW, vc⟩ := vc
    refine SW.lconst (v := (0 : Int64)) dX10_judge_71 (by decide) ?_
    refine SW.lcmp dX10_judge_72 ?_
    refine SW.if_ne 78 dX10_judge_73 (by decide) (fun hbr => ?_) (fun hbr => ?_)
    · replace vc := vc.1 hbr
      refine SW.iinc (v := (x1 + (1 : Int32))) dX10_judge_78 rfl rfl (by decide) rfl rfl ?_
      refine SW.goto 24 dX10_judge_81 (by decide) ?_
      exact vc
    · replace vc := vc.2 hbr
      refine SW.iload_n dX10_judge_76 rfl ?_
      exact SW.iret dX10_judge_77 rfl rfl ⟨_, rfl, vc⟩
theorem ctX10_judge {G : GG} {q : Int32 → Nat → SG → TU → TH → Prop} {n : Nat} {σ : SG} {τ : TU} {θ : TH}  (h : SW G 5 mX10_judge (aw_qi q) 0 0 0 [some (.ref 120), none] [] (n, σ, τ, θ)) : SMi G 5 mX10_judge 0 0 [.ref 120] n σ τ θ q := SM.of _ rfl rfl (Nat.le_of_ble_eq_true rfl) h
set_option maxHeartbeats 4000000 in
set_option maxRecDepth 20000 in
theorem sgX10_kindOf_0 {G : GG} {k : Nat} {q : Int32 → Nat → SG → TU → TH → Prop} {n : Nat} {σ : SG} {τ : TU} {θ : TH}  (x1 : Int32) (hk : 1 ≤ k)  (hW : aw_WT n θ) (vc : vp_in ((10 : Int32) + ((3 : Int32) * x1)) 167 ∧ (q (σ 123 ((10 : Int32) + ((3 : Int32) * x1)).toNatClampNeg) n σ τ θ)) : SW G k mX10_kindOf (aw_qi q) 0 0 0 [some (.ref 120), some (.int x1)] [] (n, σ, τ, θ) := by
  refine SW.aload_n dX10_kindOf_0 rfl ?_
  refine SW.getS (f := 15) (r := 123) aw_cl10 kp_120 (by decide) (hW.le (by decide)) (by decide) ww_1257 dX10_kindOf_1 rfl hW.t120_15 ?_
  refine SW.bipush (v := (10 : Int32)) dX10_kindOf_4 (by decide) ?_
  refine SW.iconst (v := (3 : Int32)) dX10_kindOf_6 (by decide) ?_
  refine SW.iload_n dX10_kindOf_7 rfl ?_
  refine SW.imul dX10_kindOf_8 ?_
  refine SW.iadd dX10_kindOf_9 ?_
  refine SW.iald kp_123 (by decide) (hW.le (by decide)) vc.1 dX10_kindOf_10 ?_
  replace vc := vc.2
  exact SW.iret dX10_kindOf_11 rfl rfl ⟨_, rfl, vc⟩
theorem ctX10_kindOf {G : GG} {q : Int32 → Nat → SG → TU → TH → Prop} {n : Nat} {σ : SG} {τ : TU} {θ : TH} (x1 : Int32) (h : SW G 1 mX10_kindOf (aw_qi q) 0 0 0 [some (.ref 120), some (.int x1)] [] (n, σ, τ, θ)) : SMi G 1 mX10_kindOf 0 0 [.ref 120, .int x1] n σ τ θ q := SM.of _ rfl rfl (Nat.le_of_ble_eq_true rfl) h
set_option maxHeartbeats 4000000 in
set_option maxRecDepth 20000 in
theorem sgX10_leavesOf_0 {G : GG} {k : Nat} {q : Int32 → Nat → SG → TU → TH → Prop} {n : Nat} {σ : SG} {τ : TU} {θ : TH}  (x1 : Int32) (hk : 6 ≤ k)  (hW : aw_WT n θ) (vc : SW G k mX10_leavesOf (aw_qi q) 0 0 4 [some (.ref 120), some (.int x1), some (.int (0 : Int32)), some (.int (0 : Int32)), none, none, none] [] (n, σ, τ, θ)) : SW G k mX10_leavesOf (aw_qi q) 0 0 0 [some (.ref 120), some (.int x1), none, none, none, none, none] [] (n, σ, τ, θ) := by
  refine SW.iconst (v := (0 : Int32)) dX10_leavesOf_0 (by decide) ?_
  refine SW.istore_n dX10_leavesOf_1 (by decide) rfl rfl ?_
  refine SW.iconst (v := (0 : Int32)) dX10_leavesOf_2 (by decide) ?_
  refine SW.istore_n dX10_leavesOf_3 (by decide) rfl rfl ?_
  exact vc
set_option maxHeartbeats 4000000 in
set_option maxRecDepth 20000 in
theorem sgX10_leavesOf_4 {G : GG} {k : Nat} {q : Int32 → Nat → SG → TU → TH → Prop} {n : Nat} {σ : SG} {τ : TU} {θ : TH}  (x1 : Int32) (x2 : Int32) (x3 : Int32) (hk : 6 ≤ k)  (hW : aw_WT n θ) (vc : SMi G 1 mX10_allSets 0 0 [.ref 120] n σ τ θ (fun a1 n1 σ1 τ1 θ1 => aw_WT n1 θ1 ∧ (((a1 ≤ x3) → (q x2 n1 σ1 τ1 θ1)) ∧ ((¬ a1 ≤ x3) → (SMl G 5 mX10_weightOf 0 0 [.ref 120, .int x3] n1 σ1 τ1 θ1 (fun a2 n2 σ2 τ2 θ2 => aw_WT n2 θ2 ∧ (((¬ (lg_cmp a2 (0 : Int64)) = 0) → (SMi G 4 mX10_headOf 0 0 [.ref 120, .ref 125, .int x1] n2 σ2 τ2 θ2 (fun a3 n3 σ3 τ3 θ3 => aw_WT n3 θ3 ∧ (SW G k mX10_leavesOf (aw_qi q) 0 0 42 [some (.ref 120), some (.int x1), some (.int x2), some (.int x3), some (.int a3), some (.int (0 : Int32)), some (.int (0 : Int32))] [] (n3, σ3, τ3, θ3))))) ∧ (((lg_cmp a2 (0 : Int64)) = 0) → (SW G k mX10_leavesOf (aw_qi q) 0 0 4 [some (.ref 120), some (.int x1), some (.int x2), some (.int (x3 + (1 : Int32))), none, none, none] [] (n2, σ2, τ2, θ2)))))))))) : SW G k mX10_leavesOf (aw_qi q) 0 0 4 [some (.ref 120), some (.int x1), some (.int x2), some (.int x3), none, none, none] [] (n, σ, τ, θ) := by
  refine SW.iload_n dX10_leavesOf_4 rfl ?_
  refine SW.aload_n dX10_leavesOf_5 rfl ?_
  refine SW.cvi0 kV_X10_337 (by omega) aw_cl10 kp_120 (by decide) (hW.le (by decide)) rfl (Nat.le_of_ble_eq_true rfl) dX10_leavesOf_6 (SMi.mono vc ?_)
  intro a1 n1 σ1 τ1 θ1 vc
  obtain ⟨hW, vc⟩ := vc
  refine SW.icmp_ge 111 dX10_leavesOf_9 (by decide) (fun hbr => ?_) (fun hbr => ?_)
  · replace vc := vc.1 hbr
    refine SW.iload_n dX10_leavesOf_111 rfl ?_
    exact SW.iret dX10_leavesOf_112 rfl rfl ⟨_, rfl, vc⟩
  · replace vc := vc.2 hbr
    refine SW.aload_n dX10_leavesOf_12 rfl ?_
    refine SW.iload_n dX10_leavesOf_13 rfl ?_
    refine SW.cvl1 kV_X10_340 (by omega) aw_cl10 kp_120 (by decide) (hW.le (by decide)) rfl (Nat.le_of_ble_eq_true rfl) dX10_leavesOf_14 (SMl.mono vc ?_)
    intro a2 n2 σ2 τ2 θ2 vc
    obtain ⟨hW, vc⟩ := vc
    refine SW.lconst (v := (0 : Int64)) dX10_leavesOf_17 (by decide) ?_
    refine SW.lcmp dX10_leavesOf_18 ?_
    refine SW.if_ne 25 dX10_leavesOf_19 (by decide) (fun hbr => ?_) (fun hbr => ?_)
    · replace vc := vc.1 hbr
      refine SW.aload_n dX10_leavesOf_25 rfl ?_
      refine SW.aload_n dX10_leavesOf_26 rfl ?_
      refine SW.getS (f := 17) (r := 125) aw_cl10 kp_120 (by decide) (hW.le (by decide)) (by decide) ww_1259 dX10_leavesOf_27 rfl hW.t120_17 ?_
      refine SW.iload_n dX10_leavesOf_30 rfl ?_
      refine SW.cvi2 kV_X10_261 (by omega) aw_cl10 kp_120 (by decide) (hW.le (by decide)) rfl (Nat.le_of_ble_eq_true rfl) dX10_leavesOf_31 (SMi.mono vc ?_)
      intro a3 n3 σ3 τ3 θ3 vc
      obtain ⟨hW, vc⟩ := vc
      refine SW.istore dX10_leavesOf_34 (by decide) rfl rfl ?_
      refine SW.iconst (v := (0 : Int32)) dX10_leavesOf_36 (by decide) ?_
      refine SW.istore dX10_leavesOf_37 (by decide) rfl rfl ?_
      refine SW.iconst (v := (0 : Int32)) dX10_leavesOf_39 (by decide) ?_
      refine SW.istore dX10_leavesOf_40 (by decide) rfl rfl ?_
      exact vc
    · replace vc := vc.2 hbr
      refine SW.goto 105 dX10_leavesOf_22 (by decide) ?_
      refine SW.iinc (v := (x3 + (1 : Int32))) dX10_leavesOf_105 rfl rfl (by decide) rfl rfl ?_
      refine SW.goto 4 dX10_leavesOf_108 (by decide) ?_
      exact vc
set_option maxHeartbeats 4000000 in
set_option maxRecDepth 20000 in
theorem sgX10_leavesOf_42 {G : GG} {k : Nat} {q : Int32 → Nat → SG → TU → TH → Prop} {n : Nat} {σ : SG} {τ : TU} {θ : TH}  (x1 : Int32) (x2 : Int32) (x3 : Int32) (x4 : Int32) (x5 : Int32) (x6 : Int32) (hk : 6 ≤ k)  (hW : aw_WT n θ) (vc : SMi G 1 mX10_allSets 0 0 [.ref 120] n σ τ θ (fun a1 n1 σ1 τ1 θ1 => aw_WT n1 θ1 ∧ (((a1 ≤ x6) → (((x5 ≤ x2) → (SW G k mX10_leavesOf (aw_qi q) 0 0 4 [some (.ref 120), some (.int x1), some (.int x2), some (.int (x3 + (1 : Int32))), none, none, none] [] (n1, σ1, τ1, θ1))) ∧ ((¬ x5 ≤ x2) → (SW G k mX10_leavesOf (aw_qi q) 0 0 4 [some (.ref 120), some (.int x1), some (.int x5), some (.int (x3 + (1 : Int32))), none, none, none] [] (n1, σ1, τ1, θ1))))) ∧ ((¬ a1 ≤ x6) → (SMl G 5 mX10_weightOf 0 0 [.ref 120, .int x6] n1 σ1 τ1 θ1 (fun a2 n2 σ2 τ2 θ2 => aw_WT n2 θ2 ∧ ((((lg_cmp a2 (0 : Int64)) ≤ 0) → (SW G k mX10_leavesOf (aw_qi q) 0 0 42 [some (.ref 120), some (.int x1), some (.int x2), some (.int x3), some (.int x4), some (.int (x5 + (0 : Int32))), some (.int (x6 + (1 : Int32)))] [] (n2, σ2, τ2, θ2))) ∧ ((¬ (lg_cmp a2 (0 : Int64)) ≤ 0) → (SMi G 4 mX10_headOf 0 0 [.ref 120, .ref 125, .int x1] n2 σ2 τ2 θ2 (fun a3 n3 σ3 τ3 θ3 => aw_WT n3 θ3 ∧ (((¬ a3 = x4) → (SW G k mX10_leavesOf (aw_qi q) 0 0 42 [some (.ref 120), some (.int x1), some (.int x2), some (.int x3), some (.int x4), some (.int (x5 + (0 : Int32))), some (.int (x6 + (1 : Int32)))] [] (n3, σ3, τ3, θ3))) ∧ ((a3 = x4) → (SW G k mX10_leavesOf (aw_qi q) 0 0 42 [some (.ref 120), some (.int x1), some (.int x2), some (.int x3), some (.int x4), some (.int (x5 + (1 : Int32))), some (.int (x6 + (1 : Int32)))] [] (n3, σ3, τ3, θ3)))))))))))))) : SW G k mX10_leavesOf (aw_qi q) 0 0 42 [some (.ref 120), some (.int x1), some (.int x2), some (.int x3), some (.int x4), some (.int x5), some (.int x6)] [] (n, σ, τ, θ) := by
  refine SW.iload dX10_leavesOf_42 rfl ?_
  refine SW.aload_n dX10_leavesOf_44 rfl ?_
  refine SW.cvi0 kV_X10_337 (by omega) aw_cl10 kp_120 (by decide) (hW.le (by decide)) rfl (Nat.le_of_ble_eq_true rfl) dX10_leavesOf_45 (SMi.mono vc ?_)
  intro a1 n1 σ1 τ1 θ1 vc
  obtain ⟨hW, vc⟩ := vc
  refine SW.icmp_ge 92 dX10_leavesOf_48 (by decide) (fun hbr => ?_) (fun hbr => ?_)
  · replace vc := vc.1 hbr
    refine SW.iload dX10_leavesOf_92 rfl ?_
    refine SW.iload_n dX10_leavesOf_94 rfl ?_
    refine SW.icmp_le 103 dX10_leavesOf_95 (by decide) (fun hbr => ?_) (fun hbr => ?_)
    · replace vc := vc.1 hbr
      refine SW.iload_n dX10_leavesOf_103 rfl ?_
      refine SW.istore_n dX10_leavesOf_104 (by decide) rfl rfl ?_
      refine SW.iinc (v := (x3 + (1 : Int32))) dX10_leavesOf_105 rfl rfl (by decide) rfl rfl ?_
      refine SW.goto 4 dX10_leavesOf_108 (by decide) ?_
      refine SW.msk [true, true, true, true, false, false, false] rfl ?_
      exact vc
    · replace vc := vc.2 hbr
      refine SW.iload dX10_leavesOf_98 rfl ?_
      refine SW.goto 104 dX10_leavesOf_100 (by decide) ?_
      refine SW.istore_n dX10_leavesOf_104 (by decide) rfl rfl ?_
      refine SW.iinc (v := (x3 + (1 : Int32))) dX10_leavesOf_105 rfl rfl (by decide) rfl rfl ?_
      refine SW.goto 4 dX10_leavesOf_108 (by decide) ?_
      refine SW.msk [true, true, true, true, false, false, false] rfl ?_
      exact vc
  · replace vc := vc.2 hbr
    refine SW.iload dX10_leavesOf_51 rfl ?_
    refine SW.aload_n dX10_leavesOf_53 rfl ?_
    refine SW.iload dX10_leavesOf_54 rfl ?_
    refine SW.cvl1 kV_X10_340 (by omega) aw_cl10 kp_120 (by decide) (hW.le (by decide)) rfl (Nat.le_of_ble_eq_true rfl) dX10_leavesOf_56 (SMl.mono vc ?_)
    intro a2 n2 σ2 τ2 θ2 vc
    obtain ⟨hW, vc⟩ := vc
    refine SW.lconst (v := (0 : Int64)) dX10_leavesOf_59 (by decide) ?_
    refine SW.lcmp dX10_leavesOf_60 ?_
    refine SW.if_le 82 dX10_leavesOf_61 (by decide) (fun hbr => ?_) (fun hbr => ?_)
    · replace vc := vc.1 hbr
      refine SW.iconst (v := (0 : Int32)) dX10_leavesOf_82 (by decide) ?_
      refine SW.iadd dX10_leavesOf_83 ?_
      refine SW.istore dX10_leavesOf_84 (by decide) rfl rfl ?_
      refine SW.iinc (v := (x6 + (1 : Int32))) dX10_leavesOf_86 rfl rfl (by decide) rfl rfl ?_
      refine SW.goto 42 dX10_leavesOf_89 (by decide) ?_
      exact vc
    · replace vc := vc.2 hbr
      refine SW.aload_n dX10_leavesOf_64 rfl ?_
      refine SW.aload_n dX10_leavesOf_65 rfl ?_
      refine SW.getS (f := 17) (r := 125) aw_cl10 kp_120 (by decide) (hW.le (by decide)) (by decide) ww_1259 dX10_leavesOf_66 rfl hW.t120_17 ?_
      refine SW.iload_n dX10_leavesOf_69 rfl ?_
      refine SW.cvi2 kV_X10_261 (by omega) aw_cl10 kp_120 (by decide) (hW.le (by decide)) rfl (Nat.le_of_ble_eq_true rfl) dX10_leavesOf_70 (SMi.mono vc ?_)
      intro a3 n3 σ3 τ3 θ3 vc
      obtain ⟨hW, vc⟩ := vc
      refine SW.iload dX10_leavesOf_73 rfl ?_
      refine SW.icmp_ne 82 dX10_leavesOf_75 (by decide) (fun hbr => ?_) (fun hbr => ?_)
      · replace vc := vc.1 hbr
        refine SW.iconst (v := (0 : Int32)) dX10_leavesOf_82 (by decide) ?_
        refine SW.iadd dX10_leavesOf_83 ?_
        refine SW.istore dX10_leavesOf_84 (by decide) rfl rfl ?_
        refine SW.iinc (v := (x6 + (1 : Int32))) dX10_leavesOf_86 rfl rfl (by decide) rfl rfl ?_
        refine SW.goto 42 dX10_leavesOf_89 (by decide) ?_
        exact vc
      · replace vc := vc.2 hbr
        refine SW.iconst (v := (1 : Int32)) dX10_leavesOf_78 (by decide) ?_
        refine SW.goto 83 dX10_leavesOf_79 (by decide) ?_
        refine SW.iadd dX10_leavesOf_83 ?_
        refine SW.istore dX10_leavesOf_84 (by decide) rfl rfl ?_
        refine SW.iinc (v := (x6 + (1 : Int32))) dX10_leavesOf_86 rfl rfl (by decide) rfl rfl ?_
        refine SW.goto 42 dX10_leavesOf_89 (by decide) ?_
        exact vc
theorem ctX10_leavesOf {G : GG} {q : Int32 → Nat → SG → TU → TH → Prop} {n : Nat} {σ : SG} {τ : TU} {θ : TH} (x1 : Int32) (h : SW G 6 mX10_leavesOf (aw_qi q) 0 0 0 [some (.ref 120), some (.int x1), none, none, none, none, none] [] (n, σ, τ, θ)) : SMi G 6 mX10_leavesOf 0 0 [.ref 120, .int x1] n σ τ θ q := SM.of _ rfl rfl (Nat.le_of_ble_eq_true rfl) h
set_option maxHeartbeats 4000000 in
set_option maxRecDepth 20000 in
theorem sgX10_led_0 {G : GG} {k : Nat} {q : Int32 → Nat → SG → TU → TH → Prop} {n : Nat} {σ : SG} {τ : TU} {θ : TH}  (x1 : Int32) (hk : 5 ≤ k)  (hW : aw_WT n θ) (vc : SW G k mX10_led (aw_qi q) 0 0 9 [some (.ref 120), some (.int x1), some (.int (0 : Int32)), some (.int (0 : Int32))] [] (n, (aw_u σ 120 22 (0 : Int32)), τ, θ)) : SW G k mX10_led (aw_qi q) 0 0 0 [some (.ref 120), some (.int x1), none, none] [] (n, σ, τ, θ) := by
  refine SW.iconst (v := (0 : Int32)) dX10_led_0 (by decide) ?_
  refine SW.istore_n dX10_led_1 (by decide) rfl rfl ?_
  refine SW.aload_n dX10_led_2 rfl ?_
  refine SW.iconst (v := (0 : Int32)) dX10_led_3 (by decide) ?_
  refine SW.putI (f := 22) aw_cl10 kp_120 (by decide) (hW.le (by decide)) (by decide) ww_1264 (Or.inl rfl) dX10_led_4 rfl rfl rfl ?_
  refine SW.iconst (v := (0 : Int32)) dX10_led_7 (by decide) ?_
  refine SW.istore_n dX10_led_8 (by decide) rfl rfl ?_
  exact vc
set_option maxHeartbeats 4000000 in
set_option maxRecDepth 20000 in
theorem sgX10_led_9 {G : GG} {k : Nat} {q : Int32 → Nat → SG → TU → TH → Prop} {n : Nat} {σ : SG} {τ : TU} {θ : TH}  (x1 : Int32) (x2 : Int32) (x3 : Int32) (hk : 5 ≤ k)  (hW : aw_WT n θ) (vc : (((σ 120 14) = 0) → (q (0 : Int32) n (aw_u σ 120 0 (1 : Int32)) τ θ)) ∧ ((¬ (σ 120 14) = 0) → ((((σ 123 4) ≤ x3) → (q (0 : Int32) n (aw_u σ 120 0 (1 : Int32)) τ θ)) ∧ ((¬ (σ 123 4) ≤ x3) → (SMi G 4 mX10_headOf 0 0 [.ref 120, .ref 125, .int x3] n σ τ θ (fun a1 n1 σ1 τ1 θ1 => aw_WT n1 θ1 ∧ (SMi G 1 mX10_strongOf 0 0 [.ref 120, .int x3] n1 σ1 τ1 θ1 (fun a2 n2 σ2 τ2 θ2 => aw_WT n2 θ2 ∧ (((a2 < a1) → (((¬ x2 = x1) → (SW G k mX10_led (aw_qi q) 0 0 9 [some (.ref 120), some (.int x1), some (.int (x2 + (1 : Int32))), some (.int (x3 + (1 : Int32)))] [] (n2, σ2, τ2, θ2))) ∧ ((x2 = x1) → (q x3 n2 (aw_u σ2 120 0 (0 : Int32)) τ2 θ2)))) ∧ ((¬ a2 < a1) → (SW G k mX10_led (aw_qi q) 0 0 9 [some (.ref 120), some (.int x1), some (.int x2), some (.int (x3 + (1 : Int32)))] [] (n2, σ2, τ2, θ2)))))))))))) : SW G k mX10_led (aw_qi q) 0 0 9 [some (.ref 120), some (.int x1), some (.int x2), some (.int x3)] [] (n, σ, τ, θ) := by
  refine SW.aload_n dX10_led_9 rfl ?_
  refine SW.getI (f := 14) aw_cl10 kp_120 (by decide) (hW.le (by decide)) (by decide) ww_1256 dX10_led_10 rfl ?_
  refine SW.if_eq 67 dX10_led_13 (by decide) (fun hbr => ?_) (fun hbr => ?_)
  · replace vc := vc.1 hbr
    refine SW.aload_n dX10_led_67 rfl ?_
    refine SW.iconst (v := (1 : Int32)) dX10_led_68 (by decide) ?_
    refine SW.putI (f := 0) aw_cl10 kp_120 (by decide) (hW.le (by decide)) (by decide) ww_1242 (Or.inl rfl) dX10_led_69 rfl rfl rfl ?_
    refine SW.iconst (v := (0 : Int32)) dX10_led_72 (by decide) ?_
    exact SW.iret dX10_led_73 rfl rfl ⟨_, rfl, vc⟩
  · replace vc := vc.2 hbr
    refine SW.iload_n dX10_led_16 rfl ?_
    refine SW.aload_n dX10_led_17 rfl ?_
    refine SW.getS (f := 15) (r := 123) aw_cl10 kp_120 (by decide) (hW.le (by decide)) (by decide) ww_1257 dX10_led_18 rfl hW.t120_15 ?_
    refine SW.iconst (v := (4 : Int32)) dX10_led_21 (by decide) ?_
    refine SW.iald kp_123 (by decide) (hW.le (by decide)) (vp_in_nI (n := 4) (by decide) (by decide)) dX10_led_22 ?_
    refine SW.icmp_ge 67 dX10_led_23 (by decide) (fun hbr => ?_) (fun hbr => ?_)
    · replace vc := vc.1 hbr
      refine SW.aload_n dX10_led_67 rfl ?_
      refine SW.iconst (v := (1 : Int32)) dX10_led_68 (by decide) ?_
      refine SW.putI (f := 0) aw_cl10 kp_120 (by decide) (hW.le (by decide)) (by decide) ww_1242 (Or.inl rfl) dX10_led_69 rfl rfl rfl ?_
      refine SW.iconst (v := (0 : Int32)) dX10_led_72 (by decide) ?_
      exact SW.iret dX10_led_73 rfl rfl ⟨_, rfl, vc⟩
    · replace vc := vc.2 hbr
      refine SW.aload_n dX10_led_26 rfl ?_
      refine SW.aload_n dX10_led_27 rfl ?_
      refine SW.getS (f := 17) (r := 125) aw_cl10 kp_120 (by decide) (hW.le (by decide)) (by decide) ww_1259 dX10_led_28 rfl hW.t120_17 ?_
      refine SW.iload_n dX10_led_31 rfl ?_
      refine SW.cvi2 kV_X10_261 (by omega) aw_cl10 kp_120 (by decide) (hW.le (by decide)) rfl (Nat.le_of_ble_eq_true rfl) dX10_led_32 (SMi.mono vc ?_)
      intro a1 n1 σ1 τ1 θ1 vc
      obtain ⟨hW, vc⟩ := vc
      refine SW.aload_n dX10_led_35 rfl ?_
      refine SW.iload_n dX10_led_36 rfl ?_
      refine SW.cvi1 kV_X10_368 (by omega) aw_cl10 kp_120 (by decide) (hW.le (by decide)) rfl (Nat.le_of_ble_eq_true rfl) dX10_led_37 (SMi.mono vc ?_)
      intro a2 n2 σ2 τ2 θ2 vc
      obtain ⟨hW, vc⟩ := vc
      refine SW.icmp_gt 46 dX10_led_40 (by decide) (fun hbr => ?_) (fun hbr => ?_)
      · replace vc := vc.1 hbr
        refine SW.iload_n dX10_led_46 rfl ?_
        refine SW.iload_n dX10_led_47 rfl ?_
        refine SW.icmp_ne 58 dX10_led_48 (by decide) (fun hbr => ?_) (fun hbr => ?_)
        · replace vc := vc.1 hbr
          refine SW.iinc (v := (x2 + (1 : Int32))) dX10_led_58 rfl rfl (by decide) rfl rfl ?_
          refine SW.iinc (v := (x3 + (1 : Int32))) dX10_led_61 rfl rfl (by decide) rfl rfl ?_
          refine SW.goto 9 dX10_led_64 (by decide) ?_
          exact vc
        · replace vc := vc.2 hbr
          refine SW.aload_n dX10_led_51 rfl ?_
          refine SW.iconst (v := (0 : Int32)) dX10_led_52 (by decide) ?_
          refine SW.putI (f := 0) aw_cl10 kp_120 (by decide) (hW.le (by decide)) (by decide) ww_1242 (Or.inl rfl) dX10_led_53 rfl rfl rfl ?_
          refine SW.iload_n dX10_led_56 rfl ?_
          exact SW.iret dX10_led_57 rfl rfl ⟨_, rfl, vc⟩
      · replace vc := vc.2 hbr
        refine SW.goto 61 dX10_led_43 (by decide) ?_
        refine SW.iinc (v := (x3 + (1 : Int32))) dX10_led_61 rfl rfl (by decide) rfl rfl ?_
        refine SW.goto 9 dX10_led_64 (by decide) ?_
        exact vc
theorem ctX10_led {G : GG} {q : Int32 → Nat → SG → TU → TH → Prop} {n : Nat} {σ : SG} {τ : TU} {θ : TH} (x1 : Int32) (h : SW G 5 mX10_led (aw_qi q) 0 0 0 [some (.ref 120), some (.int x1), none, none] [] (n, σ, τ, θ)) : SMi G 5 mX10_led 0 0 [.ref 120, .int x1] n σ τ θ q := SM.of _ rfl rfl (Nat.le_of_ble_eq_true rfl) h
set_option maxHeartbeats 4000000 in
set_option maxRecDepth 20000 in
theorem sgX10_leftFrom_0 {G : GG} {k : Nat} {q : Int32 → Nat → SG → TU → TH → Prop} {n : Nat} {σ : SG} {τ : TU} {θ : TH}  (x1 : Int32) (x2 : Int32) (hk : 3 ≤ k)  (hW : aw_WT n θ) (vc : SW G k mX10_leftFrom (aw_qi q) 0 0 5 [some (.ref 120), some (.int x1), some (.int x2), some (.int (0 : Int32)), some (.int (0 : Int32))] [] (n, σ, τ, θ)) : SW G k mX10_leftFrom (aw_qi q) 0 0 0 [some (.ref 120), some (.int x1), some (.int x2), none, none] [] (n, σ, τ, θ) := by
  refine SW.iconst (v := (0 : Int32)) dX10_leftFrom_0 (by decide) ?_
  refine SW.istore_n dX10_leftFrom_1 (by decide) rfl rfl ?_
  refine SW.iconst (v := (0 : Int32)) dX10_leftFrom_2 (by decide) ?_
  refine SW.istore dX10_leftFrom_3 (by decide) rfl rfl ?_
  exact vc
set_option maxHeartbeats 4000000 in
set_option maxRecDepth 20000 in
theorem sgX10_leftFrom_5 {G : GG} {k : Nat} {q : Int32 → Nat → SG → TU → TH → Prop} {n : Nat} {σ : SG} {τ : TU} {θ : TH}  (x1 : Int32) (x2 : Int32) (x3 : Int32) (x4 : Int32) (hk : 3 ≤ k)  (hW : aw_WT n θ) (vc : (((σ 123 5) ≤ x4) → (q x3 n σ τ θ)) ∧ ((¬ (σ 123 5) ≤ x4) → (SMi G 2 mX10_isOf 0 0 [.ref 120, .ref 125, .int x4, .int x1] n σ τ θ (fun a1 n1 σ1 τ1 θ1 => aw_WT n1 θ1 ∧ (((a1 = 0) → (SW G k mX10_leftFrom (aw_qi q) 0 0 5 [some (.ref 120), some (.int x1), some (.int x2), some (.int (x3 + (0 : Int32))), some (.int (x4 + (1 : Int32)))] [] (n1, σ1, τ1, θ1))) ∧ ((¬ a1 = 0) → (((x2 < 0) → (vp_in x4 13 ∧ (SW G k mX10_leftFrom (aw_qi q) 0 0 5 [some (.ref 120), some (.int x1), some (.int x2), some (.int (x3 + (σ1 125 x4.toNatClampNeg))), some (.int (x4 + (1 : Int32)))] [] (n1, σ1, τ1, θ1)))) ∧ ((¬ x2 < 0) → (vp_in (((25 : Int32) + ((4 : Int32) * x4)) + (1 : Int32)) 167 ∧ (((¬ (σ1 123 (((25 : Int32) + ((4 : Int32) * x4)) + (1 : Int32)).toNatClampNeg) = x2) → (SW G k mX10_leftFrom (aw_qi q) 0 0 5 [some (.ref 120), some (.int x1), some (.int x2), some (.int (x3 + (0 : Int32))), some (.int (x4 + (1 : Int32)))] [] (n1, σ1, τ1, θ1))) ∧ (((σ1 123 (((25 : Int32) + ((4 : Int32) * x4)) + (1 : Int32)).toNatClampNeg) = x2) → (vp_in x4 13 ∧ (SW G k mX10_leftFrom (aw_qi q) 0 0 5 [some (.ref 120), some (.int x1), some (.int x2), some (.int (x3 + (σ1 125 x4.toNatClampNeg))), some (.int (x4 + (1 : Int32)))] [] (n1, σ1, τ1, θ1)))))))))))))) : SW G k mX10_leftFrom (aw_qi q) 0 0 5 [some (.ref 120), some (.int x1), some (.int x2), some (.int x3), some (.int x4)] [] (n, σ, τ, θ) := by
  refine SW.iload dX10_leftFrom_5 rfl ?_
  refine SW.aload_n dX10_leftFrom_7 rfl ?_
  refine SW.getS (f := 15) (r := 123) aw_cl10 kp_120 (by decide) (hW.le (by decide)) (by decide) ww_1257 dX10_leftFrom_8 rfl hW.t120_15 ?_
  refine SW.iconst (v := (5 : Int32)) dX10_leftFrom_11 (by decide) ?_
  refine SW.iald kp_123 (by decide) (hW.le (by decide)) (vp_in_nI (n := 5) (by decide) (by decide)) dX10_leftFrom_12 ?_
  refine SW.icmp_ge 72 dX10_leftFrom_13 (by decide) (fun hbr => ?_) (fun hbr => ?_)
  · replace vc := vc.1 hbr
    refine SW.iload_n dX10_leftFrom_72 rfl ?_
    exact SW.iret dX10_leftFrom_73 rfl rfl ⟨_, rfl, vc⟩
  · replace vc := vc.2 hbr
    refine SW.iload_n dX10_leftFrom_16 rfl ?_
    refine SW.aload_n dX10_leftFrom_17 rfl ?_
    refine SW.aload_n dX10_leftFrom_18 rfl ?_
    refine SW.getS (f := 17) (r := 125) aw_cl10 kp_120 (by decide) (hW.le (by decide)) (by decide) ww_1259 dX10_leftFrom_19 rfl hW.t120_17 ?_
    refine SW.iload dX10_leftFrom_22 rfl ?_
    refine SW.iload_n dX10_leftFrom_24 rfl ?_
    refine SW.cvi3 kV_X10_240 (by omega) aw_cl10 kp_120 (by decide) (hW.le (by decide)) rfl (Nat.le_of_ble_eq_true rfl) dX10_leftFrom_25 (SMi.mono vc ?_)
    intro a1 n1 σ1 τ1 θ1 vc
    obtain ⟨hW, vc⟩ := vc
    refine SW.if_eq 63 dX10_leftFrom_28 (by decide) (fun hbr => ?_) (fun hbr => ?_)
    · replace vc := vc.1 hbr
      refine SW.iconst (v := (0 : Int32)) dX10_leftFrom_63 (by decide) ?_
      refine SW.iadd dX10_leftFrom_64 ?_
      refine SW.istore_n dX10_leftFrom_65 (by decide) rfl rfl ?_
      refine SW.iinc (v := (x4 + (1 : Int32))) dX10_leftFrom_66 rfl rfl (by decide) rfl rfl ?_
      refine SW.goto 5 dX10_leftFrom_69 (by decide) ?_
      exact vc
    · replace vc := vc.2 hbr
      refine SW.iload_n dX10_leftFrom_31 rfl ?_
      refine SW.if_lt 53 dX10_leftFrom_32 (by decide) (fun hbr => ?_) (fun hbr => ?_)
      · replace vc := vc.1 hbr
        refine SW.aload_n dX10_leftFrom_53 rfl ?_
        refine SW.getS (f := 17) (r := 125) aw_cl10 kp_120 (by decide) (hW.le (by decide)) (by decide) ww_1259 dX10_leftFrom_54 rfl hW.t120_17 ?_
        refine SW.iload dX10_leftFrom_57 rfl ?_
        refine SW.iald kp_125 (by decide) (hW.le (by decide)) vc.1 dX10_leftFrom_59 ?_
        replace vc := vc.2
        refine SW.goto 64 dX10_leftFrom_60 (by decide) ?_
        refine SW.iadd dX10_leftFrom_64 ?_
        refine SW.istore_n dX10_leftFrom_65 (by decide) rfl rfl ?_
        refine SW.iinc (v := (x4 + (1 : Int32))) dX10_leftFrom_66 rfl rfl (by decide) rfl rfl ?_
        refine SW.goto 5 dX10_leftFrom_69 (by decide) ?_
        exact vc
      · replace vc := vc.2 hbr
        refine SW.aload_n dX10_leftFrom_35 rfl ?_
        refine SW.getS (f := 15) (r := 123) aw_cl10 kp_120 (by decide) (hW.le (by decide)) (by decide) ww_1257 dX10_leftFrom_36 rfl hW.t120_15 ?_
        refine SW.bipush (v := (25 : Int32)) dX10_leftFrom_39 (by decide) ?_
        refine SW.iconst (v := (4 : Int32)) dX10_leftFrom_41 (by decide) ?_
        refine SW.iload dX10_leftFrom_42 rfl ?_
        refine SW.imul dX10_leftFrom_44 ?_
        refine SW.iadd dX10_leftFrom_45 ?_
        refine SW.iconst (v := (1 : Int32)) dX10_leftFrom_46 (by decide) ?_
        refine SW.iadd dX10_leftFrom_47 ?_
        refine SW.iald kp_123 (by decide) (hW.le (by decide)) vc.1 dX10_leftFrom_48 ?_
        replace vc := vc.2
        refine SW.iload_n dX10_leftFrom_49 rfl ?_
        refine SW.icmp_ne 63 dX10_leftFrom_50 (by decide) (fun hbr => ?_) (fun hbr => ?_)
        · replace vc := vc.1 hbr
          refine SW.iconst (v := (0 : Int32)) dX10_leftFrom_63 (by decide) ?_
          refine SW.iadd dX10_leftFrom_64 ?_
          refine SW.istore_n dX10_leftFrom_65 (by decide) rfl rfl ?_
          refine SW.iinc (v := (x4 + (1 : Int32))) dX10_leftFrom_66 rfl rfl (by decide) rfl rfl ?_
          refine SW.goto 5 dX10_leftFrom_69 (by decide) ?_
          exact vc
        · replace vc := vc.2 hbr
          refine SW.aload_n dX10_leftFrom_53 rfl ?_
          refine SW.getS (f := 17) (r := 125) aw_cl10 kp_120 (by decide) (hW.le (by decide)) (by decide) ww_1259 dX10_leftFrom_54 rfl hW.t120_17 ?_
          refine SW.iload dX10_leftFrom_57 rfl ?_
          refine SW.iald kp_125 (by decide) (hW.le (by decide)) vc.1 dX10_leftFrom_59 ?_
          replace vc := vc.2
          refine SW.goto 64 dX10_leftFrom_60 (by decide) ?_
          refine SW.iadd dX10_leftFrom_64 ?_
          refine SW.istore_n dX10_leftFrom_65 (by decide) rfl rfl ?_
          refine SW.iinc (v := (x4 + (1 : Int32))) dX10_leftFrom_66 rfl rfl (by decide) rfl rfl ?_
          refine SW.goto 5 dX10_leftFrom_69 (by decide) ?_
          exact vc
theorem ctX10_leftFrom {G : GG} {q : Int32 → Nat → SG → TU → TH → Prop} {n : Nat} {σ : SG} {τ : TU} {θ : TH} (x1 : Int32) (x2 : Int32) (h : SW G 3 mX10_leftFrom (aw_qi q) 0 0 0 [some (.ref 120), some (.int x1), some (.int x2), none, none] [] (n, σ, τ, θ)) : SMi G 3 mX10_leftFrom 0 0 [.ref 120, .int x1, .int x2] n σ τ θ q := SM.of _ rfl rfl (Nat.le_of_ble_eq_true rfl) h
set_option maxHeartbeats 4000000 in
set_option maxRecDepth 20000 in
theorem sgX10_lessen_0 {G : GG} {k : Nat} {q : Nat → SG → TU → TH → Prop} {n : Nat} {σ : SG} {τ : TU} {θ : TH}  (x1 : Int32) (x2 : Int32) (x3 : Int32) (hk : 3 ≤ k)  (hW : aw_WT n θ) (vc : SW G k mX10_lessen (aw_qv q) 0 0 6 [some (.ref 120), some (.int x1), some (.int x2), none, some (.int x3), some (.int (0 : Int32)), none] [] (n, σ, τ, θ)) : SW G k mX10_lessen (aw_qv q) 0 0 0 [some (.ref 120), some (.int x1), some (.int x2), some (.int x3), none, none, none] [] (n, σ, τ, θ) := by
  refine SW.iload_n dX10_lessen_0 rfl ?_
  refine SW.istore dX10_lessen_1 (by decide) rfl rfl ?_
  refine SW.iconst (v := (0 : Int32)) dX10_lessen_3 (by decide) ?_
  refine SW.istore dX10_lessen_4 (by decide) rfl rfl ?_
  refine SW.msk [true, true, true, false, true, true, true] rfl ?_
  exact vc
set_option maxHeartbeats 4000000 in
set_option maxRecDepth 20000 in
theorem sgX10_lessen_6 {G : GG} {k : Nat} {q : Nat → SG → TU → TH → Prop} {n : Nat} {σ : SG} {τ : TU} {θ : TH}  (x1 : Int32) (x2 : Int32) (x4 : Int32) (x5 : Int32) (hk : 3 ≤ k)  (hW : aw_WT n θ) (vc : (((σ 123 5) ≤ x5) → (q n σ τ θ)) ∧ ((¬ (σ 123 5) ≤ x5) → (SMi G 2 mX10_isOf 0 0 [.ref 120, .ref 125, .int x5, .int x1] n σ τ θ (fun a1 n1 σ1 τ1 θ1 => aw_WT n1 θ1 ∧ (((a1 = 0) → (SW G k mX10_lessen (aw_qv q) 0 0 6 [some (.ref 120), some (.int x1), some (.int x2), none, some (.int x4), some (.int (x5 + (1 : Int32))), none] [] (n1, σ1, τ1, θ1))) ∧ ((¬ a1 = 0) → (vp_in (((25 : Int32) + ((4 : Int32) * x5)) + (1 : Int32)) 167 ∧ ((((σ1 123 (((25 : Int32) + ((4 : Int32) * x5)) + (1 : Int32)).toNatClampNeg) = x2) → (vp_in x5 13 ∧ (((x4 ≤ (σ1 125 x5.toNatClampNeg)) → (vp_in x5 13 ∧ (vp_in x5 13 ∧ (SW G k mX10_lessen (aw_qv q) 0 0 6 [some (.ref 120), some (.int x1), some (.int x2), none, some (.int (x4 - x4)), some (.int (x5 + (1 : Int32))), none] [] (n1, (aw_u σ1 125 x5.toNatClampNeg ((σ1 125 x5.toNatClampNeg) - x4)), τ1, θ1))))) ∧ ((¬ x4 ≤ (σ1 125 x5.toNatClampNeg)) → (vp_in x5 13 ∧ (vp_in x5 13 ∧ (vp_in x5 13 ∧ (SW G k mX10_lessen (aw_qv q) 0 0 6 [some (.ref 120), some (.int x1), some (.int x2), none, some (.int (x4 - (σ1 125 x5.toNatClampNeg))), some (.int (x5 + (1 : Int32))), none] [] (n1, (aw_u σ1 125 x5.toNatClampNeg ((σ1 125 x5.toNatClampNeg) - (σ1 125 x5.toNatClampNeg))), τ1, θ1))))))))) ∧ ((¬ (σ1 123 (((25 : Int32) + ((4 : Int32) * x5)) + (1 : Int32)).toNatClampNeg) = x2) → (SW G k mX10_lessen (aw_qv q) 0 0 6 [some (.ref 120), some (.int x1), some (.int x2), none, some (.int x4), some (.int (x5 + (1 : Int32))), none] [] (n1, σ1, τ1, θ1))))))))))) : SW G k mX10_lessen (aw_qv q) 0 0 6 [some (.ref 120), some (.int x1), some (.int x2), none, some (.int x4), some (.int x5), none] [] (n, σ, τ, θ) := by
  refine SW.iload dX10_lessen_6 rfl ?_
  refine SW.aload_n dX10_lessen_8 rfl ?_
  refine SW.getS (f := 15) (r := 123) aw_cl10 kp_120 (by decide) (hW.le (by decide)) (by decide) ww_1257 dX10_lessen_9 rfl hW.t120_15 ?_
  refine SW.iconst (v := (5 : Int32)) dX10_lessen_12 (by decide) ?_
  refine SW.iald kp_123 (by decide) (hW.le (by decide)) (vp_in_nI (n := 5) (by decide) (by decide)) dX10_lessen_13 ?_
  refine SW.icmp_ge 103 dX10_lessen_14 (by decide) (fun hbr => ?_) (fun hbr => ?_)
  · replace vc := vc.1 hbr
    exact SW.vret dX10_lessen_103 rfl ⟨rfl, vc⟩
  · replace vc := vc.2 hbr
    refine SW.aload_n dX10_lessen_17 rfl ?_
    refine SW.aload_n dX10_lessen_18 rfl ?_
    refine SW.getS (f := 17) (r := 125) aw_cl10 kp_120 (by decide) (hW.le (by decide)) (by decide) ww_1259 dX10_lessen_19 rfl hW.t120_17 ?_
    refine SW.iload dX10_lessen_22 rfl ?_
    refine SW.iload_n dX10_lessen_24 rfl ?_
    refine SW.cvi3 kV_X10_240 (by omega) aw_cl10 kp_120 (by decide) (hW.le (by decide)) rfl (Nat.le_of_ble_eq_true rfl) dX10_lessen_25 (SMi.mono vc ?_)
    intro a1 n1 σ1 τ1 θ1 vc
    obtain ⟨hW, vc⟩ := vc
    refine SW.if_eq 97 dX10_lessen_28 (by decide) (fun hbr => ?_) (fun hbr => ?_)
    · replace vc := vc.1 hbr
      refine SW.iinc (v := (x5 + (1 : Int32))) dX10_lessen_97 rfl rfl (by decide) rfl rfl ?_
      refine SW.goto 6 dX10_lessen_100 (by decide) ?_
      exact vc
    · replace vc := vc.2 hbr
      refine SW.aload_n dX10_lessen_31 rfl ?_
      refine SW.getS (f := 15) (r := 123) aw_cl10 kp_120 (by decide) (hW.le (by decide)) (by decide) ww_1257 dX10_lessen_32 rfl hW.t120_15 ?_
      refine SW.bipush (v := (25 : Int32)) dX10_lessen_35 (by decide) ?_
      refine SW.iconst (v := (4 : Int32)) dX10_lessen_37 (by decide) ?_
      refine SW.iload dX10_lessen_38 rfl ?_
      refine SW.imul dX10_lessen_40 ?_
      refine SW.iadd dX10_lessen_41 ?_
      refine SW.iconst (v := (1 : Int32)) dX10_lessen_42 (by decide) ?_
      refine SW.iadd dX10_lessen_43 ?_
      refine SW.iald kp_123 (by decide) (hW.le (by decide)) vc.1 dX10_lessen_44 ?_
      replace vc := vc.2
      refine SW.iload_n dX10_lessen_45 rfl ?_
      refine SW.icmp_eq 52 dX10_lessen_46 (by decide) (fun hbr => ?_) (fun hbr => ?_)
      · replace vc := vc.1 hbr
        refine SW.aload_n dX10_lessen_52 rfl ?_
        refine SW.getS (f := 17) (r := 125) aw_cl10 kp_120 (by decide) (hW.le (by decide)) (by decide) ww_1259 dX10_lessen_53 rfl hW.t120_17 ?_
        refine SW.iload dX10_lessen_56 rfl ?_
        refine SW.iald kp_125 (by decide) (hW.le (by decide)) vc.1 dX10_lessen_58 ?_
        replace vc := vc.2
        refine SW.iload dX10_lessen_59 rfl ?_
        refine SW.icmp_ge 74 dX10_lessen_61 (by decide) (fun hbr => ?_) (fun hbr => ?_)
        · replace vc := vc.1 hbr
          refine SW.iload dX10_lessen_74 rfl ?_
          refine SW.istore dX10_lessen_76 (by decide) rfl rfl ?_
          refine SW.aload_n dX10_lessen_78 rfl ?_
          refine SW.getS (f := 17) (r := 125) aw_cl10 kp_120 (by decide) (hW.le (by decide)) (by decide) ww_1259 dX10_lessen_79 rfl hW.t120_17 ?_
          refine SW.iload dX10_lessen_82 rfl ?_
          refine SW.dup2 dX10_lessen_84 rfl rfl ?_
          refine SW.iald kp_125 (by decide) (hW.le (by decide)) vc.1 dX10_lessen_85 ?_
          replace vc := vc.2
          refine SW.iload dX10_lessen_86 rfl ?_
          refine SW.isub dX10_lessen_88 ?_
          refine SW.iast kp_125 (by decide) (hW.le (by decide)) vc.1 dX10_lessen_89 ?_
          replace vc := vc.2
          refine SW.iload dX10_lessen_90 rfl ?_
          refine SW.iload dX10_lessen_92 rfl ?_
          refine SW.isub dX10_lessen_94 ?_
          refine SW.istore dX10_lessen_95 (by decide) rfl rfl ?_
          refine SW.iinc (v := (x5 + (1 : Int32))) dX10_lessen_97 rfl rfl (by decide) rfl rfl ?_
          refine SW.goto 6 dX10_lessen_100 (by decide) ?_
          refine SW.msk [true, true, true, true, true, true, false] rfl ?_
          exact vc
        · replace vc := vc.2 hbr
          refine SW.aload_n dX10_lessen_64 rfl ?_
          refine SW.getS (f := 17) (r := 125) aw_cl10 kp_120 (by decide) (hW.le (by decide)) (by decide) ww_1259 dX10_lessen_65 rfl hW.t120_17 ?_
          refine SW.iload dX10_lessen_68 rfl ?_
          refine SW.iald kp_125 (by decide) (hW.le (by decide)) vc.1 dX10_lessen_70 ?_
          replace vc := vc.2
          refine SW.goto 76 dX10_lessen_71 (by decide) ?_
          refine SW.istore dX10_lessen_76 (by decide) rfl rfl ?_
          refine SW.aload_n dX10_lessen_78 rfl ?_
          refine SW.getS (f := 17) (r := 125) aw_cl10 kp_120 (by decide) (hW.le (by decide)) (by decide) ww_1259 dX10_lessen_79 rfl hW.t120_17 ?_
          refine SW.iload dX10_lessen_82 rfl ?_
          refine SW.dup2 dX10_lessen_84 rfl rfl ?_
          refine SW.iald kp_125 (by decide) (hW.le (by decide)) vc.1 dX10_lessen_85 ?_
          replace vc := vc.2
          refine SW.iload dX10_lessen_86 rfl ?_
          refine SW.isub dX10_lessen_88 ?_
          refine SW.iast kp_125 (by decide) (hW.le (by decide)) vc.1 dX10_lessen_89 ?_
          replace vc := vc.2
          refine SW.iload dX10_lessen_90 rfl ?_
          refine SW.iload dX10_lessen_92 rfl ?_
          refine SW.isub dX10_lessen_94 ?_
          refine SW.istore dX10_lessen_95 (by decide) rfl rfl ?_
          refine SW.iinc (v := (x5 + (1 : Int32))) dX10_lessen_97 rfl rfl (by decide) rfl rfl ?_
          refine SW.goto 6 dX10_lessen_100 (by decide) ?_
          refine SW.msk [true, true, true, true, true, true, false] rfl ?_
          exact vc
      · replace vc := vc.2 hbr
        refine SW.goto 97 dX10_lessen_49 (by decide) ?_
        refine SW.iinc (v := (x5 + (1 : Int32))) dX10_lessen_97 rfl rfl (by decide) rfl rfl ?_
        refine SW.goto 6 dX10_lessen_100 (by decide) ?_
        exact vc
theorem ctX10_lessen {G : GG} {q : Nat → SG → TU → TH → Prop} {n : Nat} {σ : SG} {τ : TU} {θ : TH} (x1 : Int32) (x2 : Int32) (x3 : Int32) (h : SW G 3 mX10_lessen (aw_qv q) 0 0 0 [some (.ref 120), some (.int x1), some (.int x2), some (.int x3), none, none, none] [] (n, σ, τ, θ)) : SMv G 3 mX10_lessen 0 0 [.ref 120, .int x1, .int x2, .int x3] n σ τ θ q := SM.of _ rfl rfl (Nat.le_of_ble_eq_true rfl) h
set_option maxHeartbeats 4000000 in
set_option maxRecDepth 20000 in
theorem sgX10_letOff_0 {G : GG} {k : Nat} {q : Int32 → Nat → SG → TU → TH → Prop} {n : Nat} {σ : SG} {τ : TU} {θ : TH}  (x1 : Int32) (hk : 13 ≤ k)  (hW : aw_WT n θ) (vc : SMv G 1 mX10_good 0 0 [.ref 120] n σ τ θ (fun n1 σ1 τ1 θ1 => aw_WT n1 θ1 ∧ (SMi G 2 mX10_isMan 0 0 [.ref 120, .int x1] n1 σ1 τ1 θ1 (fun a2 n2 σ2 τ2 θ2 => aw_WT n2 θ2 ∧ (((¬ a2 = 0) → (SMi G 12 mX10_seekRing 0 0 [.ref 120, .int x1] n2 σ2 τ2 θ2 (fun a3 n3 σ3 τ3 θ3 => aw_WT n3 θ3 ∧ (((¬ a3 = 0) → (SMi G 4 mX10_sumOf 0 0 [.ref 120] n3 σ3 τ3 θ3 (fun a4 n4 σ4 τ4 θ4 => aw_WT n4 θ4 ∧ (SMv G 2 mX10_note 0 0 [.ref 120] n4 σ4 τ4 θ4 (fun n5 σ5 τ5 θ5 => aw_WT n5 θ5 ∧ (SW G k mX10_letOff (aw_qi q) 0 0 44 [some (.ref 120), none, some (.int a4), some (.int (0 : Int32))] [] (n5, σ5, τ5, θ5))))))) ∧ ((a3 = 0) → (SMi G 1 mX10_no 0 0 [.ref 120, .int (6 : Int32)] n3 σ3 τ3 θ3 (fun a6 n6 σ6 τ6 θ6 => aw_WT n6 θ6 ∧ (q a6 n6 σ6 τ6 θ6)))))))) ∧ ((a2 = 0) → (SMi G 1 mX10_no 0 0 [.ref 120, .int (1 : Int32)] n2 σ2 τ2 θ2 (fun a7 n7 σ7 τ7 θ7 => aw_WT n7 θ7 ∧ (q a7 n7 σ7 τ7 θ7))))))))) : SW G k mX10_letOff (aw_qi q) 0 0 0 [some (.ref 120), some (.int x1), none, none] [] (n, σ, τ, θ) := by
  refine SW.aload_n dX10_letOff_0 rfl ?_
  refine SW.cvv0 kV_X10_154 (by omega) aw_cl10 kp_120 (by decide) (hW.le (by decide)) rfl (Nat.le_of_ble_eq_true rfl) dX10_letOff_1 (SMv.mono vc ?_)
  intro n1 σ1 τ1 θ1 vc
  obtain ⟨hW, vc⟩ := vc
  refine SW.aload_n dX10_letOff_4 rfl ?_
  refine SW.iload_n dX10_letOff_5 rfl ?_
  refine SW.cvi1 kV_X10_264 (by omega) aw_cl10 kp_120 (by decide) (hW.le (by decide)) rfl (Nat.le_of_ble_eq_true rfl) dX10_letOff_6 (SMi.mono vc ?_)
  intro a2 n2 σ2 τ2 θ2 vc
  obtain ⟨hW, vc⟩ := vc
  refine SW.if_ne 18 dX10_letOff_9 (by decide) (fun hbr => ?_) (fun hbr => ?_)
  · replace vc := vc.1 hbr
    refine SW.aload_n dX10_letOff_18 rfl ?_
    refine SW.iload_n dX10_letOff_19 rfl ?_
    refine SW.cvi1 kV_X10_325 (by omega) aw_cl10 kp_120 (by decide) (hW.le (by decide)) rfl (Nat.le_of_ble_eq_true rfl) dX10_letOff_20 (SMi.mono vc ?_)
    intro a3 n3 σ3 τ3 θ3 vc
    obtain ⟨hW, vc⟩ := vc
    refine SW.if_ne 33 dX10_letOff_23 (by decide) (fun hbr => ?_) (fun hbr => ?_)
    · replace vc := vc.1 hbr
      refine SW.aload_n dX10_letOff_33 rfl ?_
      refine SW.cvi0 kV_X10_328 (by omega) aw_cl10 kp_120 (by decide) (hW.le (by decide)) rfl (Nat.le_of_ble_eq_true rfl) dX10_letOff_34 (SMi.mono vc ?_)
      intro a4 n4 σ4 τ4 θ4 vc
      obtain ⟨hW, vc⟩ := vc
      refine SW.istore_n dX10_letOff_37 (by decide) rfl rfl ?_
      refine SW.aload_n dX10_letOff_38 rfl ?_
      refine SW.cvv0 kV_X10_406 (by omega) aw_cl10 kp_120 (by decide) (hW.le (by decide)) rfl (Nat.le_of_ble_eq_true rfl) dX10_letOff_39 (SMv.mono vc ?_)
      intro n5 σ5 τ5 θ5 vc
      obtain ⟨hW, vc⟩ := vc
      refine SW.iconst (v := (0 : Int32)) dX10_letOff_42 (by decide) ?_
      refine SW.istore_n dX10_letOff_43 (by decide) rfl rfl ?_
      refine SW.msk [true, false, true, true] rfl ?_
      exact vc
    · replace vc := vc.2 hbr
      refine SW.aload_n dX10_letOff_26 rfl ?_
      refine SW.bipush (v := (6 : Int32)) dX10_letOff_27 (by decide) ?_
      refine SW.cvi1 kV_X10_157 (by omega) aw_cl10 kp_120 (by decide) (hW.le (by decide)) rfl (Nat.le_of_ble_eq_true rfl) dX10_letOff_29 (SMi.mono vc ?_)
      intro a6 n6 σ6 τ6 θ6 vc
      obtain ⟨hW, vc⟩ := vc
      exact SW.iret dX10_letOff_32 rfl rfl ⟨_, rfl, vc⟩
  · replace vc := vc.2 hbr
    refine SW.aload_n dX10_letOff_12 rfl ?_
    refine SW.iconst (v := (1 : Int32)) dX10_letOff_13 (by decide) ?_
    refine SW.cvi1 kV_X10_157 (by omega) aw_cl10 kp_120 (by decide) (hW.le (by decide)) rfl (Nat.le_of_ble_eq_true rfl) dX10_letOff_14 (SMi.mono vc ?_)
    intro a7 n7 σ7 τ7 θ7 vc
    obtain ⟨hW, vc⟩ := vc
    exact SW.iret dX10_letOff_17 rfl rfl ⟨_, rfl, vc⟩
set_option maxHeartbeats 4000000 in
set_option maxRecDepth 20000 in
theorem sgX10_letOff_44 {G : GG} {k : Nat} {q : Int32 → Nat → SG → TU → TH → Prop} {n : Nat} {σ : SG} {τ : TU} {θ : TH}  (x2 : Int32) (x3 : Int32) (hk : 13 ≤ k)  (hW : aw_WT n θ) (vc : (((σ 120 29) ≤ x3) → (q x2 n σ τ θ)) ∧ ((¬ (σ 120 29) ≤ x3) → (vp_in x3 5 ∧ ((¬ (σ 120 29) = 0) ∧ (vp_in ((x3 + (1 : Int32)) - (x3 + (1 : Int32)) / (σ 120 29) * (σ 120 29)) 5 ∧ (SMv G 3 mX10_lessen 0 0 [.ref 120, .int (σ 132 x3.toNatClampNeg), .int (σ 132 ((x3 + (1 : Int32)) - (x3 + (1 : Int32)) / (σ 120 29) * (σ 120 29)).toNatClampNeg), .int x2] n σ τ θ (fun n1 σ1 τ1 θ1 => aw_WT n1 θ1 ∧ (SW G k mX10_letOff (aw_qi q) 0 0 44 [some (.ref 120), none, some (.int x2), some (.int (x3 + (1 : Int32)))] [] (n1, σ1, τ1, θ1))))))))) : SW G k mX10_letOff (aw_qi q) 0 0 44 [some (.ref 120), none, some (.int x2), some (.int x3)] [] (n, σ, τ, θ) := by
  refine SW.iload_n dX10_letOff_44 rfl ?_
  refine SW.aload_n dX10_letOff_45 rfl ?_
  refine SW.getI (f := 29) aw_cl10 kp_120 (by decide) (hW.le (by decide)) (by decide) ww_1271 dX10_letOff_46 rfl ?_
  refine SW.icmp_ge 82 dX10_letOff_49 (by decide) (fun hbr => ?_) (fun hbr => ?_)
  · replace vc := vc.1 hbr
    refine SW.iload_n dX10_letOff_82 rfl ?_
    exact SW.iret dX10_letOff_83 rfl rfl ⟨_, rfl, vc⟩
  · replace vc := vc.2 hbr
    refine SW.aload_n dX10_letOff_52 rfl ?_
    refine SW.aload_n dX10_letOff_53 rfl ?_
    refine SW.getS (f := 28) (r := 132) aw_cl10 kp_120 (by decide) (hW.le (by decide)) (by decide) ww_1270 dX10_letOff_54 rfl hW.t120_28 ?_
    refine SW.iload_n dX10_letOff_57 rfl ?_
    refine SW.iald kp_132 (by decide) (hW.le (by decide)) vc.1 dX10_letOff_58 ?_
    replace vc := vc.2
    refine SW.aload_n dX10_letOff_59 rfl ?_
    refine SW.getS (f := 28) (r := 132) aw_cl10 kp_120 (by decide) (hW.le (by decide)) (by decide) ww_1270 dX10_letOff_60 rfl hW.t120_28 ?_
    refine SW.iload_n dX10_letOff_63 rfl ?_
    refine SW.iconst (v := (1 : Int32)) dX10_letOff_64 (by decide) ?_
    refine SW.iadd dX10_letOff_65 ?_
    refine SW.aload_n dX10_letOff_66 rfl ?_
    refine SW.getI (f := 29) aw_cl10 kp_120 (by decide) (hW.le (by decide)) (by decide) ww_1271 dX10_letOff_67 rfl ?_
    refine SW.irem dX10_letOff_70 vc.1 ?_
    replace vc := vc.2
    refine SW.iald kp_132 (by decide) (hW.le (by decide)) vc.1 dX10_letOff_71 ?_
    replace vc := vc.2
    refine SW.iload_n dX10_letOff_72 rfl ?_
    refine SW.cvv3 kV_X10_409 (by omega) aw_cl10 kp_120 (by decide) (hW.le (by decide)) rfl (Nat.le_of_ble_eq_true rfl) dX10_letOff_73 (SMv.mono vc ?_)
    intro n1 σ1 τ1 θ1 vc
    obtain ⟨hW, vc⟩ := vc
    refine SW.iinc (v := (x3 + (1 : Int32))) dX10_letOff_76 rfl rfl (by decide) rfl rfl ?_
    refine SW.goto 44 dX10_letOff_79 (by decide) ?_
    exact vc
theorem ctX10_letOff {G : GG} {q : Int32 → Nat → SG → TU → TH → Prop} {n : Nat} {σ : SG} {τ : TU} {θ : TH} (x1 : Int32) (h : SW G 13 mX10_letOff (aw_qi q) 0 0 0 [some (.ref 120), some (.int x1), none, none] [] (n, σ, τ, θ)) : SMi G 13 mX10_letOff 0 0 [.ref 120, .int x1] n σ τ θ q := SM.of _ rfl rfl (Nat.le_of_ble_eq_true rfl) h
set_option maxHeartbeats 4000000 in
set_option maxRecDepth 20000 in
theorem sgX10_likeliest_0 {G : GG} {k : Nat} {q : Int32 → Nat → SG → TU → TH → Prop} {n : Nat} {σ : SG} {τ : TU} {θ : TH}   (hk : 6 ≤ k)  (hW : aw_WT n θ) (vc : SMv G 1 mX10_good 0 0 [.ref 120] n σ τ θ (fun n1 σ1 τ1 θ1 => aw_WT n1 θ1 ∧ (((¬ (σ1 120 14) = 0) → (SW G k mX10_likeliest (aw_qi q) 0 0 25 [some (.ref 120), some (.int (-2 : Int32)), some (.long (0 : Int64)), none, some (.int (0 : Int32)), none, none] [] (n1, σ1, τ1, θ1))) ∧ (((σ1 120 14) = 0) → (SMi G 1 mX10_no 0 0 [.ref 120, .int (1 : Int32)] n1 σ1 τ1 θ1 (fun a2 n2 σ2 τ2 θ2 => aw_WT n2 θ2 ∧ (q a2 n2 σ2 τ2 θ2))))))) : SW G k mX10_likeliest (aw_qi q) 0 0 0 [some (.ref 120), none, none, none, none, none, none] [] (n, σ, τ, θ) := by
  refine SW.aload_n dX10_likeliest_0 rfl ?_
  refine SW.cvv0 kV_X10_154 (by omega) aw_cl10 kp_120 (by decide) (hW.le (by decide)) rfl (Nat.le_of_ble_eq_true rfl) dX10_likeliest_1 (SMv.mono vc ?_)
  intro n1 σ1 τ1 θ1 vc
  obtain ⟨hW, vc⟩ := vc
  refine SW.aload_n dX10_likeliest_4 rfl ?_
  refine SW.getI (f := 14) aw_cl10 kp_120 (by decide) (hW.le (by decide)) (by decide) ww_1256 dX10_likeliest_5 rfl ?_
  refine SW.if_ne 17 dX10_likeliest_8 (by decide) (fun hbr => ?_) (fun hbr => ?_)
  · replace vc := vc.1 hbr
    refine SW.bipush (v := (-2 : Int32)) dX10_likeliest_17 (by decide) ?_
    refine SW.istore_n dX10_likeliest_19 (by decide) rfl rfl ?_
    refine SW.lconst (v := (0 : Int64)) dX10_likeliest_20 (by decide) ?_
    refine SW.lstore_n dX10_likeliest_21 (by decide) rfl rfl ?_
    refine SW.iconst (v := (0 : Int32)) dX10_likeliest_22 (by decide) ?_
    refine SW.istore dX10_likeliest_23 (by decide) rfl rfl ?_
    exact vc
  · replace vc := vc.2 hbr
    refine SW.aload_n dX10_likeliest_11 rfl ?_
    refine SW.iconst (v := (1 : Int32)) dX10_likeliest_12 (by decide) ?_
    refine SW.cvi1 kV_X10_157 (by omega) aw_cl10 kp_120 (by decide) (hW.le (by decide)) rfl (Nat.le_of_ble_eq_true rfl) dX10_likeliest_13 (SMi.mono vc ?_)
    intro a2 n2 σ2 τ2 θ2 vc
    obtain ⟨hW, vc⟩ := vc
    exact SW.iret dX10_likeliest_16 rfl rfl ⟨_, rfl, vc⟩
set_option maxHeartbeats 4000000 in
set_option maxRecDepth 20000 in
theorem sgX10_likeliest_25 {G : GG} {k : Nat} {q : Int32 → Nat → SG → TU → TH → Prop} {n : Nat} {σ : SG} {τ : TU} {θ : TH}  (x1 : Int32) (x2 : Int64) (x4 : Int32) (hk : 6 ≤ k)  (hW : aw_WT n θ) (vc : SMi G 1 mX10_allSets 0 0 [.ref 120] n σ τ θ (fun a1 n1 σ1 τ1 θ1 => aw_WT n1 θ1 ∧ (((a1 ≤ x4) → (q x1 n1 σ1 τ1 θ1)) ∧ ((¬ a1 ≤ x4) → (SMl G 5 mX10_weightOf 0 0 [.ref 120, .int x4] n1 σ1 τ1 θ1 (fun a2 n2 σ2 τ2 θ2 => aw_WT n2 θ2 ∧ (((0 < (lg_cmp a2 x2)) → (SW G k mX10_likeliest (aw_qi q) 0 0 25 [some (.ref 120), some (.int x4), some (.long a2), none, some (.int (x4 + (1 : Int32))), none, none] [] (n2, σ2, τ2, θ2))) ∧ ((¬ 0 < (lg_cmp a2 x2)) → (SW G k mX10_likeliest (aw_qi q) 0 0 25 [some (.ref 120), some (.int x1), some (.long x2), none, some (.int (x4 + (1 : Int32))), none, none] [] (n2, σ2, τ2, θ2)))))))))) : SW G k mX10_likeliest (aw_qi q) 0 0 25 [some (.ref 120), some (.int x1), some (.long x2), none, some (.int x4), none, none] [] (n, σ, τ, θ) := by
  refine SW.iload dX10_likeliest_25 rfl ?_
  refine SW.aload_n dX10_likeliest_27 rfl ?_
  refine SW.cvi0 kV_X10_337 (by omega) aw_cl10 kp_120 (by decide) (hW.le (by decide)) rfl (Nat.le_of_ble_eq_true rfl) dX10_likeliest_28 (SMi.mono vc ?_)
  intro a1 n1 σ1 τ1 θ1 vc
  obtain ⟨hW, vc⟩ := vc
  refine SW.icmp_ge 64 dX10_likeliest_31 (by decide) (fun hbr => ?_) (fun hbr => ?_)
  · replace vc := vc.1 hbr
    refine SW.iload_n dX10_likeliest_64 rfl ?_
    exact SW.iret dX10_likeliest_65 rfl rfl ⟨_, rfl, vc⟩
  · replace vc := vc.2 hbr
    refine SW.aload_n dX10_likeliest_34 rfl ?_
    refine SW.iload dX10_likeliest_35 rfl ?_
    refine SW.cvl1 kV_X10_340 (by omega) aw_cl10 kp_120 (by decide) (hW.le (by decide)) rfl (Nat.le_of_ble_eq_true rfl) dX10_likeliest_37 (SMl.mono vc ?_)
    intro a2 n2 σ2 τ2 θ2 vc
    obtain ⟨hW, vc⟩ := vc
    refine SW.lstore dX10_likeliest_40 (by decide) rfl rfl ?_
    refine SW.lload dX10_likeliest_42 rfl ?_
    refine SW.lload_n dX10_likeliest_44 rfl ?_
    refine SW.lcmp dX10_likeliest_45 ?_
    refine SW.if_gt 52 dX10_likeliest_46 (by decide) (fun hbr => ?_) (fun hbr => ?_)
    · replace vc := vc.1 hbr
      refine SW.iload dX10_likeliest_52 rfl ?_
      refine SW.istore_n dX10_likeliest_54 (by decide) rfl rfl ?_
      refine SW.lload dX10_likeliest_55 rfl ?_
      refine SW.lstore_n dX10_likeliest_57 (by decide) rfl rfl ?_
      refine SW.iinc (v := (x4 + (1 : Int32))) dX10_likeliest_58 rfl rfl (by decide) rfl rfl ?_
      refine SW.goto 25 dX10_likeliest_61 (by decide) ?_
      refine SW.msk [true, true, true, true, true, false, true] rfl ?_
      exact vc
    · replace vc := vc.2 hbr
      refine SW.goto 58 dX10_likeliest_49 (by decide) ?_
      refine SW.iinc (v := (x4 + (1 : Int32))) dX10_likeliest_58 rfl rfl (by decide) rfl rfl ?_
      refine SW.goto 25 dX10_likeliest_61 (by decide) ?_
      refine SW.msk [true, true, true, true, true, false, true] rfl ?_
      exact vc
theorem ctX10_likeliest {G : GG} {q : Int32 → Nat → SG → TU → TH → Prop} {n : Nat} {σ : SG} {τ : TU} {θ : TH}  (h : SW G 6 mX10_likeliest (aw_qi q) 0 0 0 [some (.ref 120), none, none, none, none, none, none] [] (n, σ, τ, θ)) : SMi G 6 mX10_likeliest 0 0 [.ref 120] n σ τ θ q := SM.of _ rfl rfl (Nat.le_of_ble_eq_true rfl) h
set_option maxHeartbeats 4000000 in
set_option maxRecDepth 20000 in
theorem sgX10_likely_0 {G : GG} {k : Nat} {q : Int64 → Nat → SG → TU → TH → Prop} {n : Nat} {σ : SG} {τ : TU} {θ : TH}  (x1 : Int32) (x2 : Int32) (hk : 8 ≤ k)  (hW : aw_WT n θ) (vc : SMv G 1 mX10_good 0 0 [.ref 120] n σ τ θ (fun n1 σ1 τ1 θ1 => aw_WT n1 θ1 ∧ ((((σ1 120 14) = 0) → (SMi G 1 mX10_no 0 0 [.ref 120, .int (1 : Int32)] n1 σ1 τ1 θ1 (fun a2 n2 σ2 τ2 θ2 => aw_WT n2 θ2 ∧ (q (a2.toInt64) n2 σ2 τ2 θ2)))) ∧ ((¬ (σ1 120 14) = 0) → (SMi G 1 mX10_in 0 0 [.int x1, .int (0 : Int32), .int ((σ1 123 6) - (1 : Int32))] n1 σ1 τ1 θ1 (fun a3 n3 σ3 τ3 θ3 => aw_WT n3 θ3 ∧ (((¬ a3 = 0) → (SW G k mX10_likely (aw_ql q) 0 0 40 [some (.ref 120), some (.int x1), some (.int x2), some (.long (0 : Int64)), none, some (.int (0 : Int32))] [] (n3, σ3, τ3, θ3))) ∧ ((a3 = 0) → (SMi G 1 mX10_no 0 0 [.ref 120, .int (1 : Int32)] n3 σ3 τ3 θ3 (fun a4 n4 σ4 τ4 θ4 => aw_WT n4 θ4 ∧ (q (a4.toInt64) n4 σ4 τ4 θ4))))))))))) : SW G k mX10_likely (aw_ql q) 0 0 0 [some (.ref 120), some (.int x1), some (.int x2), none, none, none] [] (n, σ, τ, θ) := by
  refine SW.aload_n dX10_likely_0 rfl ?_
  refine SW.cvv0 kV_X10_154 (by omega) aw_cl10 kp_120 (by decide) (hW.le (by decide)) rfl (Nat.le_of_ble_eq_true rfl) dX10_likely_1 (SMv.mono vc ?_)
  intro n1 σ1 τ1 θ1 vc
  obtain ⟨hW, vc⟩ := vc
  refine SW.aload_n dX10_likely_4 rfl ?_
  refine SW.getI (f := 14) aw_cl10 kp_120 (by decide) (hW.le (by decide)) (by decide) ww_1256 dX10_likely_5 rfl ?_
  refine SW.if_eq 28 dX10_likely_8 (by decide) (fun hbr => ?_) (fun hbr => ?_)
  · replace vc := vc.1 hbr
    refine SW.aload_n dX10_likely_28 rfl ?_
    refine SW.iconst (v := (1 : Int32)) dX10_likely_29 (by decide) ?_
    refine SW.cvi1 kV_X10_157 (by omega) aw_cl10 kp_120 (by decide) (hW.le (by decide)) rfl (Nat.le_of_ble_eq_true rfl) dX10_likely_30 (SMi.mono vc ?_)
    intro a2 n2 σ2 τ2 θ2 vc
    obtain ⟨hW, vc⟩ := vc
    refine SW.i2l dX10_likely_33 ?_
    exact SW.lret dX10_likely_34 rfl ⟨_, rfl, vc⟩
  · replace vc := vc.2 hbr
    refine SW.iload_n dX10_likely_11 rfl ?_
    refine SW.iconst (v := (0 : Int32)) dX10_likely_12 (by decide) ?_
    refine SW.aload_n dX10_likely_13 rfl ?_
    refine SW.getS (f := 15) (r := 123) aw_cl10 kp_120 (by decide) (hW.le (by decide)) (by decide) ww_1257 dX10_likely_14 rfl hW.t120_15 ?_
    refine SW.bipush (v := (6 : Int32)) dX10_likely_17 (by decide) ?_
    refine SW.iald kp_123 (by decide) (hW.le (by decide)) (vp_in_nI (n := 6) (by decide) (by decide)) dX10_likely_19 ?_
    refine SW.iconst (v := (1 : Int32)) dX10_likely_20 (by decide) ?_
    refine SW.isub dX10_likely_21 ?_
    refine SW.csi3 kS_X10_139 (by omega) (Nat.le_of_ble_eq_true rfl) dX10_likely_22 (SMi.mono vc ?_)
    intro a3 n3 σ3 τ3 θ3 vc
    obtain ⟨hW, vc⟩ := vc
    refine SW.if_ne 35 dX10_likely_25 (by decide) (fun hbr => ?_) (fun hbr => ?_)
    · replace vc := vc.1 hbr
      refine SW.lconst (v := (0 : Int64)) dX10_likely_35 (by decide) ?_
      refine SW.lstore_n dX10_likely_36 (by decide) rfl rfl ?_
      refine SW.iconst (v := (0 : Int32)) dX10_likely_37 (by decide) ?_
      refine SW.istore dX10_likely_38 (by decide) rfl rfl ?_
      exact vc
    · replace vc := vc.2 hbr
      refine SW.aload_n dX10_likely_28 rfl ?_
      refine SW.iconst (v := (1 : Int32)) dX10_likely_29 (by decide) ?_
      refine SW.cvi1 kV_X10_157 (by omega) aw_cl10 kp_120 (by decide) (hW.le (by decide)) rfl (Nat.le_of_ble_eq_true rfl) dX10_likely_30 (SMi.mono vc ?_)
      intro a4 n4 σ4 τ4 θ4 vc
      obtain ⟨hW, vc⟩ := vc
      refine SW.i2l dX10_likely_33 ?_
      exact SW.lret dX10_likely_34 rfl ⟨_, rfl, vc⟩
set_option maxHeartbeats 4000000 in
set_option maxRecDepth 20000 in
theorem sgX10_likely_40 {G : GG} {k : Nat} {q : Int64 → Nat → SG → TU → TH → Prop} {n : Nat} {σ : SG} {τ : TU} {θ : TH}  (x1 : Int32) (x2 : Int32) (x3 : Int64) (x5 : Int32) (hk : 8 ≤ k)  (hW : aw_WT n θ) (vc : SMi G 1 mX10_allSets 0 0 [.ref 120] n σ τ θ (fun a1 n1 σ1 τ1 θ1 => aw_WT n1 θ1 ∧ (((a1 ≤ x5) → (SMl G 7 mX10_odds 0 0 [.ref 120, .long x3, .int x2] n1 σ1 τ1 θ1 (fun a2 n2 σ2 τ2 θ2 => aw_WT n2 θ2 ∧ (q a2 n2 σ2 τ2 θ2)))) ∧ ((¬ a1 ≤ x5) → (SMi G 1 mX10_hasBit 0 0 [.int x5, .int x1] n1 σ1 τ1 θ1 (fun a3 n3 σ3 τ3 θ3 => aw_WT n3 θ3 ∧ (((a3 = 0) → (SW G k mX10_likely (aw_ql q) 0 0 40 [some (.ref 120), some (.int x1), some (.int x2), some (.long (x3 + (0 : Int64))), none, some (.int (x5 + (1 : Int32)))] [] (n3, σ3, τ3, θ3))) ∧ ((¬ a3 = 0) → (SMl G 5 mX10_weightOf 0 0 [.ref 120, .int x5] n3 σ3 τ3 θ3 (fun a4 n4 σ4 τ4 θ4 => aw_WT n4 θ4 ∧ (SW G k mX10_likely (aw_ql q) 0 0 40 [some (.ref 120), some (.int x1), some (.int x2), some (.long (x3 + a4)), none, some (.int (x5 + (1 : Int32)))] [] (n4, σ4, τ4, θ4)))))))))))) : SW G k mX10_likely (aw_ql q) 0 0 40 [some (.ref 120), some (.int x1), some (.int x2), some (.long x3), none, some (.int x5)] [] (n, σ, τ, θ) := by
  refine SW.iload dX10_likely_40 rfl ?_
  refine SW.aload_n dX10_likely_42 rfl ?_
  refine SW.cvi0 kV_X10_337 (by omega) aw_cl10 kp_120 (by decide) (hW.le (by decide)) rfl (Nat.le_of_ble_eq_true rfl) dX10_likely_43 (SMi.mono vc ?_)
  intro a1 n1 σ1 τ1 θ1 vc
  obtain ⟨hW, vc⟩ := vc
  refine SW.icmp_ge 77 dX10_likely_46 (by decide) (fun hbr => ?_) (fun hbr => ?_)
  · replace vc := vc.1 hbr
    refine SW.aload_n dX10_likely_77 rfl ?_
    refine SW.lload_n dX10_likely_78 rfl ?_
    refine SW.iload_n dX10_likely_79 rfl ?_
    refine SW.cvl2 kV_X10_358 (by omega) aw_cl10 kp_120 (by decide) (hW.le (by decide)) rfl (Nat.le_of_ble_eq_true rfl) dX10_likely_80 (SMl.mono vc ?_)
    intro a2 n2 σ2 τ2 θ2 vc
    obtain ⟨hW, vc⟩ := vc
    exact SW.lret dX10_likely_83 rfl ⟨_, rfl, vc⟩
  · replace vc := vc.2 hbr
    refine SW.lload_n dX10_likely_49 rfl ?_
    refine SW.iload dX10_likely_50 rfl ?_
    refine SW.iload_n dX10_likely_52 rfl ?_
    refine SW.csi2 kS_X10_250 (by omega) (Nat.le_of_ble_eq_true rfl) dX10_likely_53 (SMi.mono vc ?_)
    intro a3 n3 σ3 τ3 θ3 vc
    obtain ⟨hW, vc⟩ := vc
    refine SW.if_eq 68 dX10_likely_56 (by decide) (fun hbr => ?_) (fun hbr => ?_)
    · replace vc := vc.1 hbr
      refine SW.lconst (v := (0 : Int64)) dX10_likely_68 (by decide) ?_
      refine SW.ladd dX10_likely_69 ?_
      refine SW.lstore_n dX10_likely_70 (by decide) rfl rfl ?_
      refine SW.iinc (v := (x5 + (1 : Int32))) dX10_likely_71 rfl rfl (by decide) rfl rfl ?_
      refine SW.goto 40 dX10_likely_74 (by decide) ?_
      exact vc
    · replace vc := vc.2 hbr
      refine SW.aload_n dX10_likely_59 rfl ?_
      refine SW.iload dX10_likely_60 rfl ?_
      refine SW.cvl1 kV_X10_340 (by omega) aw_cl10 kp_120 (by decide) (hW.le (by decide)) rfl (Nat.le_of_ble_eq_true rfl) dX10_likely_62 (SMl.mono vc ?_)
      intro a4 n4 σ4 τ4 θ4 vc
      obtain ⟨hW, vc⟩ := vc
      refine SW.goto 69 dX10_likely_65 (by decide) ?_
      refine SW.ladd dX10_likely_69 ?_
      refine SW.lstore_n dX10_likely_70 (by decide) rfl rfl ?_
      refine SW.iinc (v := (x5 + (1 : Int32))) dX10_likely_71 rfl rfl (by decide) rfl rfl ?_
      refine SW.goto 40 dX10_likely_74 (by decide) ?_
      exact vc
theorem ctX10_likely {G : GG} {q : Int64 → Nat → SG → TU → TH → Prop} {n : Nat} {σ : SG} {τ : TU} {θ : TH} (x1 : Int32) (x2 : Int32) (h : SW G 8 mX10_likely (aw_ql q) 0 0 0 [some (.ref 120), some (.int x1), some (.int x2), none, none, none] [] (n, σ, τ, θ)) : SMl G 8 mX10_likely 0 0 [.ref 120, .int x1, .int x2] n σ τ θ q := SM.of _ rfl rfl (Nat.le_of_ble_eq_true rfl) h
set_option maxHeartbeats 4000000 in
set_option maxRecDepth 20000 in
theorem sgX10_locked_0 {G : GG} {k : Nat} {q : Int64 → Nat → SG → TU → TH → Prop} {n : Nat} {σ : SG} {τ : TU} {θ : TH}  (x1 : Int32) (x2 : Int32) (hk : 2 ≤ k)  (hW : aw_WT n θ) (vc : SMv G 1 mX10_good 0 0 [.ref 120] n σ τ θ (fun n1 σ1 τ1 θ1 => aw_WT n1 θ1 ∧ (SMi G 1 mX10_in 0 0 [.int x1, .int (0 : Int32), .int (8 : Int32)] n1 σ1 τ1 θ1 (fun a2 n2 σ2 τ2 θ2 => aw_WT n2 θ2 ∧ (SMi G 1 mX10_why 0 0 [.ref 120, .int (σ1 120 14), .int a2] n2 σ2 τ2 θ2 (fun a3 n3 σ3 τ3 θ3 => aw_WT n3 θ3 ∧ (((a3 = 0) → (SMl G 1 mX10_power 0 0 [.long ((σ3 123 2).toInt64), .int x1] n3 σ3 τ3 θ3 (fun a4 n4 σ4 τ4 θ4 => aw_WT n4 θ4 ∧ (SMl G 1 mX10_power 0 0 [.long (100 : Int64), .int x1] n4 σ4 τ4 θ4 (fun a5 n5 σ5 τ5 θ5 => aw_WT n5 θ5 ∧ (SMl G 1 mX10_lowest 0 0 [.long a4, .long a5, .int x2] n5 σ5 τ5 θ5 (fun a6 n6 σ6 τ6 θ6 => aw_WT n6 θ6 ∧ (q a6 n6 σ6 τ6 θ6)))))))) ∧ ((¬ a3 = 0) → (SMi G 1 mX10_no 0 0 [.ref 120, .int a3] n3 σ3 τ3 θ3 (fun a7 n7 σ7 τ7 θ7 => aw_WT n7 θ7 ∧ (q (a7.toInt64) n7 σ7 τ7 θ7))))))))))) : SW G k mX10_locked (aw_ql q) 0 0 0 [some (.ref 120), some (.int x1), some (.int x2), none] [] (n, σ, τ, θ) := by
  refine SW.aload_n dX10_locked_0 rfl ?_
  refine SW.cvv0 kV_X10_154 (by omega) aw_cl10 kp_120 (by decide) (hW.le (by decide)) rfl (Nat.le_of_ble_eq_true rfl) dX10_locked_1 (SMv.mono vc ?_)
  intro n1 σ1 τ1 θ1 vc
  obtain ⟨hW, vc⟩ := vc
  refine SW.aload_n dX10_locked_4 rfl ?_
  refine SW.aload_n dX10_locked_5 rfl ?_
  refine SW.getI (f := 14) aw_cl10 kp_120 (by decide) (hW.le (by decide)) (by decide) ww_1256 dX10_locked_6 rfl ?_
  refine SW.iload_n dX10_locked_9 rfl ?_
  refine SW.iconst (v := (0 : Int32)) dX10_locked_10 (by decide) ?_
  refine SW.bipush (v := (8 : Int32)) dX10_locked_11 (by decide) ?_
  refine SW.csi3 kS_X10_139 (by omega) (Nat.le_of_ble_eq_true rfl) dX10_locked_13 (SMi.mono vc ?_)
  intro a2 n2 σ2 τ2 θ2 vc
  obtain ⟨hW, vc⟩ := vc
  refine SW.cvi2 kV_X10_289 (by omega) aw_cl10 kp_120 (by decide) (hW.le (by decide)) rfl (Nat.le_of_ble_eq_true rfl) dX10_locked_16 (SMi.mono vc ?_)
  intro a3 n3 σ3 τ3 θ3 vc
  obtain ⟨hW, vc⟩ := vc
  refine SW.istore_n dX10_locked_19 (by decide) rfl rfl ?_
  refine SW.iload_n dX10_locked_20 rfl ?_
  refine SW.if_eq 33 dX10_locked_21 (by decide) (fun hbr => ?_) (fun hbr => ?_)
  · replace vc := vc.1 hbr
    refine SW.aload_n dX10_locked_33 rfl ?_
    refine SW.getS (f := 15) (r := 123) aw_cl10 kp_120 (by decide) (hW.le (by decide)) (by decide) ww_1257 dX10_locked_34 rfl hW.t120_15 ?_
    refine SW.iconst (v := (2 : Int32)) dX10_locked_37 (by decide) ?_
    refine SW.iald kp_123 (by decide) (hW.le (by decide)) (vp_in_nI (n := 2) (by decide) (by decide)) dX10_locked_38 ?_
    refine SW.i2l dX10_locked_39 ?_
    refine SW.iload_n dX10_locked_40 rfl ?_
    refine SW.csl2 kS_X10_388 (by omega) (Nat.le_of_ble_eq_true rfl) dX10_locked_41 (SMl.mono vc ?_)
    intro a4 n4 σ4 τ4 θ4 vc
    obtain ⟨hW, vc⟩ := vc
    refine SW.ldc2 (v := (100 : Int64)) ww_1792 dX10_locked_44 ?_
    refine SW.iload_n dX10_locked_47 rfl ?_
    refine SW.csl2 kS_X10_388 (by omega) (Nat.le_of_ble_eq_true rfl) dX10_locked_48 (SMl.mono vc ?_)
    intro a5 n5 σ5 τ5 θ5 vc
    obtain ⟨hW, vc⟩ := vc
    refine SW.iload_n dX10_locked_51 rfl ?_
    refine SW.csl3 kS_X10_348 (by omega) (Nat.le_of_ble_eq_true rfl) dX10_locked_52 (SMl.mono vc ?_)
    intro a6 n6 σ6 τ6 θ6 vc
    obtain ⟨hW, vc⟩ := vc
    exact SW.lret dX10_locked_55 rfl ⟨_, rfl, vc⟩
  · replace vc := vc.2 hbr
    refine SW.aload_n dX10_locked_24 rfl ?_
    refine SW.iload_n dX10_locked_25 rfl ?_
    refine SW.cvi1 kV_X10_157 (by omega) aw_cl10 kp_120 (by decide) (hW.le (by decide)) rfl (Nat.le_of_ble_eq_true rfl) dX10_locked_26 (SMi.mono vc ?_)
    intro a7 n7 σ7 τ7 θ7 vc
    obtain ⟨hW, vc⟩ := vc
    refine SW.i2l dX10_locked_29 ?_
    refine SW.goto 55 dX10_locked_30 (by decide) ?_
    exact SW.lret dX10_locked_55 rfl ⟨_, rfl, vc⟩
theorem ctX10_locked {G : GG} {q : Int64 → Nat → SG → TU → TH → Prop} {n : Nat} {σ : SG} {τ : TU} {θ : TH} (x1 : Int32) (x2 : Int32) (h : SW G 2 mX10_locked (aw_ql q) 0 0 0 [some (.ref 120), some (.int x1), some (.int x2), none] [] (n, σ, τ, θ)) : SMl G 2 mX10_locked 0 0 [.ref 120, .int x1, .int x2] n σ τ θ q := SM.of _ rfl rfl (Nat.le_of_ble_eq_true rfl) h
set_option maxHeartbeats 4000000 in
set_option maxRecDepth 20000 in
theorem sgX10_look_0 {G : GG} {k : Nat} {q : Int32 → Nat → SG → TU → TH → Prop} {n : Nat} {σ : SG} {τ : TU} {θ : TH}   (hk : 8 ≤ k)  (hW : aw_WT n θ) (vc : SMv G 1 mX10_good 0 0 [.ref 120] n σ τ θ (fun n1 σ1 τ1 θ1 => aw_WT n1 θ1 ∧ ((((σ1 120 14) = 0) → (SMi G 1 mX10_no 0 0 [.ref 120, .int (1 : Int32)] n1 σ1 τ1 θ1 (fun a2 n2 σ2 τ2 θ2 => aw_WT n2 θ2 ∧ (q a2 n2 σ2 τ2 θ2)))) ∧ ((¬ (σ1 120 14) = 0) → (SMi G 7 mX10_lookOf 0 0 [.ref 120] n1 σ1 τ1 θ1 (fun a3 n3 σ3 τ3 θ3 => aw_WT n3 θ3 ∧ (q a3 n3 σ3 τ3 θ3))))))) : SW G k mX10_look (aw_qi q) 0 0 0 [some (.ref 120)] [] (n, σ, τ, θ) := by
  refine SW.aload_n dX10_look_0 rfl ?_
  refine SW.cvv0 kV_X10_154 (by omega) aw_cl10 kp_120 (by decide) (hW.le (by decide)) rfl (Nat.le_of_ble_eq_true rfl) dX10_look_1 (SMv.mono vc ?_)
  intro n1 σ1 τ1 θ1 vc
  obtain ⟨hW, vc⟩ := vc
  refine SW.aload_n dX10_look_4 rfl ?_
  refine SW.getI (f := 14) aw_cl10 kp_120 (by decide) (hW.le (by decide)) (by decide) ww_1256 dX10_look_5 rfl ?_
  refine SW.if_eq 18 dX10_look_8 (by decide) (fun hbr => ?_) (fun hbr => ?_)
  · replace vc := vc.1 hbr
    refine SW.aload_n dX10_look_18 rfl ?_
    refine SW.iconst (v := (1 : Int32)) dX10_look_19 (by decide) ?_
    refine SW.cvi1 kV_X10_157 (by omega) aw_cl10 kp_120 (by decide) (hW.le (by decide)) rfl (Nat.le_of_ble_eq_true rfl) dX10_look_20 (SMi.mono vc ?_)
    intro a2 n2 σ2 τ2 θ2 vc
    obtain ⟨hW, vc⟩ := vc
    exact SW.iret dX10_look_23 rfl rfl ⟨_, rfl, vc⟩
  · replace vc := vc.2 hbr
    refine SW.aload_n dX10_look_11 rfl ?_
    refine SW.cvi0 kV_X10_365 (by omega) aw_cl10 kp_120 (by decide) (hW.le (by decide)) rfl (Nat.le_of_ble_eq_true rfl) dX10_look_12 (SMi.mono vc ?_)
    intro a3 n3 σ3 τ3 θ3 vc
    obtain ⟨hW, vc⟩ := vc
    refine SW.goto 23 dX10_look_15 (by decide) ?_
    exact SW.iret dX10_look_23 rfl rfl ⟨_, rfl, vc⟩
theorem ctX10_look {G : GG} {q : Int32 → Nat → SG → TU → TH → Prop} {n : Nat} {σ : SG} {τ : TU} {θ : TH}  (h : SW G 8 mX10_look (aw_qi q) 0 0 0 [some (.ref 120)] [] (n, σ, τ, θ)) : SMi G 8 mX10_look 0 0 [.ref 120] n σ τ θ q := SM.of _ rfl rfl (Nat.le_of_ble_eq_true rfl) h
set_option maxHeartbeats 4000000 in
set_option maxRecDepth 20000 in
theorem sgX10_lookLeaves_0 {G : GG} {k : Nat} {q : Int32 → Nat → SG → TU → TH → Prop} {n : Nat} {σ : SG} {τ : TU} {θ : TH}   (hk : 8 ≤ k)  (hW : aw_WT n θ) (vc : SMv G 1 mX10_good 0 0 [.ref 120] n σ τ θ (fun n1 σ1 τ1 θ1 => aw_WT n1 θ1 ∧ (((¬ (σ1 120 14) = 0) → (SMi G 7 mX10_lookOf 0 0 [.ref 120] n1 σ1 τ1 θ1 (fun a2 n2 σ2 τ2 θ2 => aw_WT n2 θ2 ∧ (((0 ≤ a2) → (SMi G 6 mX10_leavesOf 0 0 [.ref 120, .int a2] n2 σ2 τ2 θ2 (fun a3 n3 σ3 τ3 θ3 => aw_WT n3 θ3 ∧ (q a3 n3 σ3 τ3 θ3)))) ∧ ((¬ 0 ≤ a2) → (q (-2 : Int32) n2 σ2 τ2 θ2)))))) ∧ (((σ1 120 14) = 0) → (SMi G 1 mX10_no 0 0 [.ref 120, .int (1 : Int32)] n1 σ1 τ1 θ1 (fun a4 n4 σ4 τ4 θ4 => aw_WT n4 θ4 ∧ (q a4 n4 σ4 τ4 θ4))))))) : SW G k mX10_lookLeaves (aw_qi q) 0 0 0 [some (.ref 120), none] [] (n, σ, τ, θ) := by
  refine SW.aload_n dX10_lookLeaves_0 rfl ?_
  refine SW.cvv0 kV_X10_154 (by omega) aw_cl10 kp_120 (by decide) (hW.le (by decide)) rfl (Nat.le_of_ble_eq_true rfl) dX10_lookLeaves_1 (SMv.mono vc ?_)
  intro n1 σ1 τ1 θ1 vc
  obtain ⟨hW, vc⟩ := vc
  refine SW.aload_n dX10_lookLeaves_4 rfl ?_
  refine SW.getI (f := 14) aw_cl10 kp_120 (by decide) (hW.le (by decide)) (by decide) ww_1256 dX10_lookLeaves_5 rfl ?_
  refine SW.if_ne 17 dX10_lookLeaves_8 (by decide) (fun hbr => ?_) (fun hbr => ?_)
  · replace vc := vc.1 hbr
    refine SW.aload_n dX10_lookLeaves_17 rfl ?_
    refine SW.cvi0 kV_X10_365 (by omega) aw_cl10 kp_120 (by decide) (hW.le (by decide)) rfl (Nat.le_of_ble_eq_true rfl) dX10_lookLeaves_18 (SMi.mono vc ?_)
    intro a2 n2 σ2 τ2 θ2 vc
    obtain ⟨hW, vc⟩ := vc
    refine SW.istore_n dX10_lookLeaves_21 (by decide) rfl rfl ?_
    refine SW.iload_n dX10_lookLeaves_22 rfl ?_
    refine SW.if_ge 31 dX10_lookLeaves_23 (by decide) (fun hbr => ?_) (fun hbr => ?_)
    · replace vc := vc.1 hbr
      refine SW.aload_n dX10_lookLeaves_31 rfl ?_
      refine SW.iload_n dX10_lookLeaves_32 rfl ?_
      refine SW.cvi1 kV_X10_362 (by omega) aw_cl10 kp_120 (by decide) (hW.le (by decide)) rfl (Nat.le_of_ble_eq_true rfl) dX10_lookLeaves_33 (SMi.mono vc ?_)
      intro a3 n3 σ3 τ3 θ3 vc
      obtain ⟨hW, vc⟩ := vc
      exact SW.iret dX10_lookLeaves_36 rfl rfl ⟨_, rfl, vc⟩
    · replace vc := vc.2 hbr
      refine SW.bipush (v := (-2 : Int32)) dX10_lookLeaves_26 (by decide) ?_
      refine SW.goto 36 dX10_lookLeaves_28 (by decide) ?_
      exact SW.iret dX10_lookLeaves_36 rfl rfl ⟨_, rfl, vc⟩
  · replace vc := vc.2 hbr
    refine SW.aload_n dX10_lookLeaves_11 rfl ?_
    refine SW.iconst (v := (1 : Int32)) dX10_lookLeaves_12 (by decide) ?_
    refine SW.cvi1 kV_X10_157 (by omega) aw_cl10 kp_120 (by decide) (hW.le (by decide)) rfl (Nat.le_of_ble_eq_true rfl) dX10_lookLeaves_13 (SMi.mono vc ?_)
    intro a4 n4 σ4 τ4 θ4 vc
    obtain ⟨hW, vc⟩ := vc
    exact SW.iret dX10_lookLeaves_16 rfl rfl ⟨_, rfl, vc⟩
theorem ctX10_lookLeaves {G : GG} {q : Int32 → Nat → SG → TU → TH → Prop} {n : Nat} {σ : SG} {τ : TU} {θ : TH}  (h : SW G 8 mX10_lookLeaves (aw_qi q) 0 0 0 [some (.ref 120), none] [] (n, σ, τ, θ)) : SMi G 8 mX10_lookLeaves 0 0 [.ref 120] n σ τ θ q := SM.of _ rfl rfl (Nat.le_of_ble_eq_true rfl) h
set_option maxHeartbeats 4000000 in
set_option maxRecDepth 20000 in
theorem sgX10_lookOf_0 {G : GG} {k : Nat} {q : Int32 → Nat → SG → TU → TH → Prop} {n : Nat} {σ : SG} {τ : TU} {θ : TH}   (hk : 7 ≤ k)  (hW : aw_WT n θ) (vc : SMi G 6 mX10_seekFits 0 0 [.ref 120, .int (-1 : Int32)] n σ τ θ (fun a1 n1 σ1 τ1 θ1 => aw_WT n1 θ1 ∧ (SW G k mX10_lookOf (aw_qi q) 0 0 11 [some (.ref 120), some (.int (-2 : Int32)), some (.int (0 : Int32))] [] (n1, σ1, τ1, θ1)))) : SW G k mX10_lookOf (aw_qi q) 0 0 0 [some (.ref 120), none, none] [] (n, σ, τ, θ) := by
  refine SW.aload_n dX10_lookOf_0 rfl ?_
  refine SW.iconst (v := (-1 : Int32)) dX10_lookOf_1 (by decide) ?_
  refine SW.cvi1 kV_X10_355 (by omega) aw_cl10 kp_120 (by decide) (hW.le (by decide)) rfl (Nat.le_of_ble_eq_true rfl) dX10_lookOf_2 (SMi.mono vc ?_)
  intro a1 n1 σ1 τ1 θ1 vc
  obtain ⟨hW, vc⟩ := vc
  refine SW.pop dX10_lookOf_5 rfl ?_
  refine SW.bipush (v := (-2 : Int32)) dX10_lookOf_6 (by decide) ?_
  refine SW.istore_n dX10_lookOf_8 (by decide) rfl rfl ?_
  refine SW.iconst (v := (0 : Int32)) dX10_lookOf_9 (by decide) ?_
  refine SW.istore_n dX10_lookOf_10 (by decide) rfl rfl ?_
  exact vc
set_option maxHeartbeats 4000000 in
set_option maxRecDepth 20000 in
theorem sgX10_lookOf_11 {G : GG} {k : Nat} {q : Int32 → Nat → SG → TU → TH → Prop} {n : Nat} {σ : SG} {τ : TU} {θ : TH}  (x1 : Int32) (x2 : Int32) (hk : 7 ≤ k)  (hW : aw_WT n θ) (vc : (((σ 123 4) ≤ x2) → (q x1 n σ τ θ)) ∧ ((¬ (σ 123 4) ≤ x2) → ((((σ 120 30) ≤ 0) → (q x1 n σ τ θ)) ∧ ((¬ (σ 120 30) ≤ 0) → (((x1 < 0) → (SW G k mX10_lookOf (aw_qi q) 0 0 11 [some (.ref 120), some (.int x2), some (.int (x2 + (1 : Int32)))] [] (n, σ, τ, θ))) ∧ ((¬ x1 < 0) → (SMi G 6 mX10_leavesOf 0 0 [.ref 120, .int x2] n σ τ θ (fun a1 n1 σ1 τ1 θ1 => aw_WT n1 θ1 ∧ (SMi G 6 mX10_leavesOf 0 0 [.ref 120, .int x1] n1 σ1 τ1 θ1 (fun a2 n2 σ2 τ2 θ2 => aw_WT n2 θ2 ∧ (((a2 ≤ a1) → (SW G k mX10_lookOf (aw_qi q) 0 0 11 [some (.ref 120), some (.int x1), some (.int (x2 + (1 : Int32)))] [] (n2, σ2, τ2, θ2))) ∧ ((¬ a2 ≤ a1) → (SW G k mX10_lookOf (aw_qi q) 0 0 11 [some (.ref 120), some (.int x2), some (.int (x2 + (1 : Int32)))] [] (n2, σ2, τ2, θ2)))))))))))))) : SW G k mX10_lookOf (aw_qi q) 0 0 11 [some (.ref 120), some (.int x1), some (.int x2)] [] (n, σ, τ, θ) := by
  refine SW.iload_n dX10_lookOf_11 rfl ?_
  refine SW.aload_n dX10_lookOf_12 rfl ?_
  refine SW.getS (f := 15) (r := 123) aw_cl10 kp_120 (by decide) (hW.le (by decide)) (by decide) ww_1257 dX10_lookOf_13 rfl hW.t120_15 ?_
  refine SW.iconst (v := (4 : Int32)) dX10_lookOf_16 (by decide) ?_
  refine SW.iald kp_123 (by decide) (hW.le (by decide)) (vp_in_nI (n := 4) (by decide) (by decide)) dX10_lookOf_17 ?_
  refine SW.icmp_ge 53 dX10_lookOf_18 (by decide) (fun hbr => ?_) (fun hbr => ?_)
  · replace vc := vc.1 hbr
    refine SW.iload_n dX10_lookOf_53 rfl ?_
    exact SW.iret dX10_lookOf_54 rfl rfl ⟨_, rfl, vc⟩
  · replace vc := vc.2 hbr
    refine SW.aload_n dX10_lookOf_21 rfl ?_
    refine SW.getI (f := 30) aw_cl10 kp_120 (by decide) (hW.le (by decide)) (by decide) ww_1272 dX10_lookOf_22 rfl ?_
    refine SW.if_le 53 dX10_lookOf_25 (by decide) (fun hbr => ?_) (fun hbr => ?_)
    · replace vc := vc.1 hbr
      refine SW.iload_n dX10_lookOf_53 rfl ?_
      exact SW.iret dX10_lookOf_54 rfl rfl ⟨_, rfl, vc⟩
    · replace vc := vc.2 hbr
      refine SW.iload_n dX10_lookOf_28 rfl ?_
      refine SW.if_lt 45 dX10_lookOf_29 (by decide) (fun hbr => ?_) (fun hbr => ?_)
      · replace vc := vc.1 hbr
        refine SW.iload_n dX10_lookOf_45 rfl ?_
        refine SW.istore_n dX10_lookOf_46 (by decide) rfl rfl ?_
        refine SW.iinc (v := (x2 + (1 : Int32))) dX10_lookOf_47 rfl rfl (by decide) rfl rfl ?_
        refine SW.goto 11 dX10_lookOf_50 (by decide) ?_
        exact vc
      · replace vc := vc.2 hbr
        refine SW.aload_n dX10_lookOf_32 rfl ?_
        refine SW.iload_n dX10_lookOf_33 rfl ?_
        refine SW.cvi1 kV_X10_362 (by omega) aw_cl10 kp_120 (by decide) (hW.le (by decide)) rfl (Nat.le_of_ble_eq_true rfl) dX10_lookOf_34 (SMi.mono vc ?_)
        intro a1 n1 σ1 τ1 θ1 vc
        obtain ⟨hW, vc⟩ := vc
        refine SW.aload_n dX10_lookOf_37 rfl ?_
        refine SW.iload_n dX10_lookOf_38 rfl ?_
        refine SW.cvi1 kV_X10_362 (by omega) aw_cl10 kp_120 (by decide) (hW.le (by decide)) rfl (Nat.le_of_ble_eq_true rfl) dX10_lookOf_39 (SMi.mono vc ?_)
        intro a2 n2 σ2 τ2 θ2 vc
        obtain ⟨hW, vc⟩ := vc
        refine SW.icmp_ge 47 dX10_lookOf_42 (by decide) (fun hbr => ?_) (fun hbr => ?_)
        · replace vc := vc.1 hbr
          refine SW.iinc (v := (x2 + (1 : Int32))) dX10_lookOf_47 rfl rfl (by decide) rfl rfl ?_
          refine SW.goto 11 dX10_lookOf_50 (by decide) ?_
          exact vc
        · replace vc := vc.2 hbr
          refine SW.iload_n dX10_lookOf_45 rfl ?_
          refine SW.istore_n dX10_lookOf_46 (by decide) rfl rfl ?_
          refine SW.iinc (v := (x2 + (1 : Int32))) dX10_lookOf_47 rfl rfl (by decide) rfl rfl ?_
          refine SW.goto 11 dX10_lookOf_50 (by decide) ?_
          exact vc
theorem ctX10_lookOf {G : GG} {q : Int32 → Nat → SG → TU → TH → Prop} {n : Nat} {σ : SG} {τ : TU} {θ : TH}  (h : SW G 7 mX10_lookOf (aw_qi q) 0 0 0 [some (.ref 120), none, none] [] (n, σ, τ, θ)) : SMi G 7 mX10_lookOf 0 0 [.ref 120] n σ τ θ q := SM.of _ rfl rfl (Nat.le_of_ble_eq_true rfl) h
set_option maxHeartbeats 4000000 in
set_option maxRecDepth 20000 in
theorem sgX10_lowest_0 {G : GG} {k : Nat} {q : Int64 → Nat → SG → TU → TH → Prop} {n : Nat} {σ : SG} {τ : TU} {θ : TH}  (x0 : Int64) (x2 : Int64) (x4 : Int32) (hk : 1 ≤ k)  (hW : aw_WT n θ) (vc : SW G k mX10_lowest (aw_ql q) 0 0 6 [some (.long x0), none, some (.long x2), none, some (.int x4), some (.long x2), none, some (.long x0), none, none, none] [] (n, σ, τ, θ)) : SW G k mX10_lowest (aw_ql q) 0 0 0 [some (.long x0), none, some (.long x2), none, some (.int x4), none, none, none, none, none, none] [] (n, σ, τ, θ) := by
  refine SW.lload_n dX10_lowest_0 rfl ?_
  refine SW.lstore dX10_lowest_1 (by decide) rfl rfl ?_
  refine SW.lload_n dX10_lowest_3 rfl ?_
  refine SW.lstore dX10_lowest_4 (by decide) rfl rfl ?_
  exact vc
set_option maxHeartbeats 4000000 in
set_option maxRecDepth 20000 in
theorem sgX10_lowest_6 {G : GG} {k : Nat} {q : Int64 → Nat → SG → TU → TH → Prop} {n : Nat} {σ : SG} {τ : TU} {θ : TH}  (x0 : Int64) (x2 : Int64) (x4 : Int32) (x5 : Int64) (x7 : Int64) (hk : 1 ≤ k)  (hW : aw_WT n θ) (vc : (((lg_cmp x7 (0 : Int64)) = 0) → (((x4 = 0) → ((¬ x5 = 0) ∧ (q (x0 / x5) n σ τ θ))) ∧ ((¬ x4 = 0) → ((¬ x5 = 0) ∧ (q (x2 / x5) n σ τ θ))))) ∧ ((¬ (lg_cmp x7 (0 : Int64)) = 0) → ((¬ x7 = 0) ∧ (SW G k mX10_lowest (aw_ql q) 0 0 6 [some (.long x0), none, some (.long x2), none, some (.int x4), some (.long x7), none, some (.long (x5 - x5 / x7 * x7)), none, none, none] [] (n, σ, τ, θ))))) : SW G k mX10_lowest (aw_ql q) 0 0 6 [some (.long x0), none, some (.long x2), none, some (.int x4), some (.long x5), none, some (.long x7), none, none, none] [] (n, σ, τ, θ) := by
  refine SW.lload dX10_lowest_6 rfl ?_
  refine SW.lconst (v := (0 : Int64)) dX10_lowest_8 (by decide) ?_
  refine SW.lcmp dX10_lowest_9 ?_
  refine SW.if_eq 31 dX10_lowest_10 (by decide) (fun hbr => ?_) (fun hbr => ?_)
  · replace vc := vc.1 hbr
    refine SW.iload dX10_lowest_31 rfl ?_
    refine SW.if_eq 40 dX10_lowest_33 (by decide) (fun hbr => ?_) (fun hbr => ?_)
    · replace vc := vc.1 hbr
      refine SW.lload_n dX10_lowest_40 rfl ?_
      refine SW.lload dX10_lowest_41 rfl ?_
      refine SW.ldiv dX10_lowest_43 vc.1 ?_
      replace vc := vc.2
      exact SW.lret dX10_lowest_44 rfl ⟨_, rfl, vc⟩
    · replace vc := vc.2 hbr
      refine SW.lload_n dX10_lowest_36 rfl ?_
      refine SW.goto 41 dX10_lowest_37 (by decide) ?_
      refine SW.lload dX10_lowest_41 rfl ?_
      refine SW.ldiv dX10_lowest_43 vc.1 ?_
      replace vc := vc.2
      exact SW.lret dX10_lowest_44 rfl ⟨_, rfl, vc⟩
  · replace vc := vc.2 hbr
    refine SW.lload dX10_lowest_13 rfl ?_
    refine SW.lload dX10_lowest_15 rfl ?_
    refine SW.lrem dX10_lowest_17 vc.1 ?_
    replace vc := vc.2
    refine SW.lstore dX10_lowest_18 (by decide) rfl rfl ?_
    refine SW.lload dX10_lowest_20 rfl ?_
    refine SW.lstore dX10_lowest_22 (by decide) rfl rfl ?_
    refine SW.lload dX10_lowest_24 rfl ?_
    refine SW.lstore dX10_lowest_26 (by decide) rfl rfl ?_
    refine SW.goto 6 dX10_lowest_28 (by decide) ?_
    refine SW.msk [true, true, true, true, true, true, true, true, true, false, true] rfl ?_
    exact vc
theorem ctX10_lowest {G : GG} {q : Int64 → Nat → SG → TU → TH → Prop} {n : Nat} {σ : SG} {τ : TU} {θ : TH} (x0 : Int64) (x2 : Int64) (x4 : Int32) (h : SW G 1 mX10_lowest (aw_ql q) 0 0 0 [some (.long x0), none, some (.long x2), none, some (.int x4), none, none, none, none, none, none] [] (n, σ, τ, θ)) : SMl G 1 mX10_lowest 0 0 [.long x0, .long x2, .int x4] n σ τ θ q := SM.of _ rfl rfl (Nat.le_of_ble_eq_true rfl) h
set_option maxHeartbeats 4000000 in
set_option maxRecDepth 20000 in
theorem sgX10_man_0 {G : GG} {k : Nat} {q : Int32 → Nat → SG → TU → TH → Prop} {n : Nat} {σ : SG} {τ : TU} {θ : TH}  (x1 : Int32) (x2 : Int32) (hk : 5 ≤ k)  (hW : aw_WT n θ) (vc : SMv G 1 mX10_good 0 0 [.ref 120] n σ τ θ (fun n1 σ1 τ1 θ1 => aw_WT n1 θ1 ∧ (SMi G 2 mX10_isMan 0 0 [.ref 120, .int x1] n1 (aw_u σ1 120 22 (0 : Int32)) τ1 θ1 (fun a2 n2 σ2 τ2 θ2 => aw_WT n2 θ2 ∧ (((a2 = 0) → (SMi G 1 mX10_no 0 0 [.ref 120, .int (1 : Int32)] n2 σ2 τ2 θ2 (fun a3 n3 σ3 τ3 θ3 => aw_WT n3 θ3 ∧ (q a3 n3 σ3 τ3 θ3)))) ∧ ((¬ a2 = 0) → (SMi G 1 mX10_in 0 0 [.int x2, .int (0 : Int32), .int (7 : Int32)] n2 σ2 τ2 θ2 (fun a4 n4 σ4 τ4 θ4 => aw_WT n4 θ4 ∧ (((¬ a4 = 0) → (((x2.toInt < (0 : Int) ∨ (6 : Int) < x2.toInt) → (SMi G 3 mX10_creditors 0 0 [.ref 120, .int x1] n4 σ4 τ4 θ4 (fun a5 n5 σ5 τ5 θ5 => aw_WT n5 θ5 ∧ (q a5 n5 σ5 τ5 θ5)))) ∧ ((x2 = (0 : Int32)) → (SMi G 1 mX10_kindOf 0 0 [.ref 120, .int x1] n4 σ4 τ4 θ4 (fun a6 n6 σ6 τ6 θ6 => aw_WT n6 θ6 ∧ (q a6 n6 σ6 τ6 θ6)))) ∧ ((x2 = (1 : Int32)) → (vp_in ((7 : Int32) + x1) 13 ∧ (q (σ4 125 ((7 : Int32) + x1).toNatClampNeg) n4 σ4 τ4 θ4))) ∧ ((x2 = (2 : Int32)) → (vp_in (((10 : Int32) + ((3 : Int32) * x1)) + (2 : Int32)) 167 ∧ (q (σ4 123 (((10 : Int32) + ((3 : Int32) * x1)) + (2 : Int32)).toNatClampNeg) n4 σ4 τ4 θ4))) ∧ ((x2 = (3 : Int32)) → (SMi G 4 mX10_headOf 0 0 [.ref 120, .ref 125, .int x1] n4 σ4 τ4 θ4 (fun a7 n7 σ7 τ7 θ7 => aw_WT n7 θ7 ∧ (q a7 n7 σ7 τ7 θ7)))) ∧ ((x2 = (4 : Int32)) → (SMi G 3 mX10_burdenOf 0 0 [.ref 120, .ref 125, .int x1] n4 σ4 τ4 θ4 (fun a8 n8 σ8 τ8 θ8 => aw_WT n8 θ8 ∧ (q a8 n8 σ8 τ8 θ8)))) ∧ ((x2 = (5 : Int32)) → (SMi G 3 mX10_leftFrom 0 0 [.ref 120, .int x1, .int (-1 : Int32)] n4 σ4 τ4 θ4 (fun a9 n9 σ9 τ9 θ9 => aw_WT n9 θ9 ∧ (q a9 n9 σ9 τ9 θ9)))) ∧ ((x2 = (6 : Int32)) → (SMi G 2 mX10_owedTo 0 0 [.ref 120, .int x1] n4 σ4 τ4 θ4 (fun a10 n10 σ10 τ10 θ10 => aw_WT n10 θ10 ∧ (q a10 n10 σ10 τ10 θ10)))))) ∧ ((a4 = 0) → (SMi G 1 mX10_no 0 0 [.ref 120, .int (1 : Int32)] n4 σ4 τ4 θ4 (fun a11 n11 σ11 τ11 θ11 => aw_WT n11 θ11 ∧ (q a11 n11 σ11 τ11 θ11))))))))))))) : SW G k mX10_man (aw_qi q) 0 0 0 [some (.ref 120), some (.int x1), some (.int x2)] [] (n, σ, τ, θ) := by
  refine SW.aload_n dX10_man_0 rfl ?_
  refine SW.cvv0 kV_X10_154 (by omega) aw_cl10 kp_120 (by decide) (hW.le (by decide)) rfl (Nat.le_of_ble_eq_true rfl) dX10_man_1 (SMv.mono vc ?_)
  intro n1 σ1 τ1 θ1 vc
  obtain ⟨hW, vc⟩ := vc
  refine SW.aload_n dX10_man_4 rfl ?_
  refine SW.iconst (v := (0 : Int32)) dX10_man_5 (by decide) ?_
  refine SW.putI (f := 22) aw_cl10 kp_120 (by decide) (hW.le (by decide)) (by decide) ww_1264 (Or.inl rfl) dX10_man_6 rfl rfl rfl ?_
  refine SW.aload_n dX10_man_9 rfl ?_
  refine SW.iload_n dX10_man_10 rfl ?_
  refine SW.cvi1 kV_X10_264 (by omega) aw_cl10 kp_120 (by decide) (hW.le (by decide)) rfl (Nat.le_of_ble_eq_true rfl) dX10_man_11 (SMi.mono vc ?_)
  intro a2 n2 σ2 τ2 θ2 vc
  obtain ⟨hW, vc⟩ := vc
  refine SW.if_eq 27 dX10_man_14 (by decide) (fun hbr => ?_) (fun hbr => ?_)
  · replace vc := vc.1 hbr
    refine SW.aload_n dX10_man_27 rfl ?_
    refine SW.iconst (v := (1 : Int32)) dX10_man_28 (by decide) ?_
    refine SW.cvi1 kV_X10_157 (by omega) aw_cl10 kp_120 (by decide) (hW.le (by decide)) rfl (Nat.le_of_ble_eq_true rfl) dX10_man_29 (SMi.mono vc ?_)
    intro a3 n3 σ3 τ3 θ3 vc
    obtain ⟨hW, vc⟩ := vc
    exact SW.iret dX10_man_32 rfl rfl ⟨_, rfl, vc⟩
  · replace vc := vc.2 hbr
    refine SW.iload_n dX10_man_17 rfl ?_
    refine SW.iconst (v := (0 : Int32)) dX10_man_18 (by decide) ?_
    refine SW.bipush (v := (7 : Int32)) dX10_man_19 (by decide) ?_
    refine SW.csi3 kS_X10_139 (by omega) (Nat.le_of_ble_eq_true rfl) dX10_man_21 (SMi.mono vc ?_)
    intro a4 n4 σ4 τ4 θ4 vc
    obtain ⟨hW, vc⟩ := vc
    refine SW.if_ne 33 dX10_man_24 (by decide) (fun hbr => ?_) (fun hbr => ?_)
    · replace vc := vc.1 hbr
      refine SW.iload_n dX10_man_33 rfl ?_
      by_cases hsw : x2.toInt < (0 : Int) ∨ (6 : Int) < x2.toInt
      · replace vc := vc.1 hsw
        refine SW.tabOut 139 dX10_man_34 hsw (by decide) ?_
        refine SW.aload_n dX10_man_139 rfl ?_
        refine SW.iload_n dX10_man_140 rfl ?_
        refine SW.cvi1 kV_X10_273 (by omega) aw_cl10 kp_120 (by decide) (hW.le (by decide)) rfl (Nat.le_of_ble_eq_true rfl) dX10_man_141 (SMi.mono vc ?_)
        intro a5 n5 σ5 τ5 θ5 vc
        obtain ⟨hW, vc⟩ := vc
        exact SW.iret dX10_man_144 rfl rfl ⟨_, rfl, vc⟩
      replace vc := vc.2
      have hsw2 := aw_sw_0_6 hsw
      rcases hsw2 with hsw2 | hsw2
      · replace vc := vc.1 hsw2
        refine SW.tabIn (off := 42) 76 dX10_man_34 (aw_si1 hsw2 (by decide)) (aw_si2 hsw2 (by decide)) (aw_si3 hsw2 (by decide)) (by decide) ?_
        refine SW.aload_n dX10_man_76 rfl ?_
        refine SW.iload_n dX10_man_77 rfl ?_
        refine SW.cvi1 kV_X10_258 (by omega) aw_cl10 kp_120 (by decide) (hW.le (by decide)) rfl (Nat.le_of_ble_eq_true rfl) dX10_man_78 (SMi.mono vc ?_)
        intro a6 n6 σ6 τ6 θ6 vc
        obtain ⟨hW, vc⟩ := vc
        exact SW.iret dX10_man_81 rfl rfl ⟨_, rfl, vc⟩
      replace vc := vc.2
      rcases hsw2 with hsw2 | hsw2
      · replace vc := vc.1 hsw2
        refine SW.tabIn (off := 48) 82 dX10_man_34 (aw_si1 hsw2 (by decide)) (aw_si2 hsw2 (by decide)) (aw_si3 hsw2 (by decide)) (by decide) ?_
        refine SW.aload_n dX10_man_82 rfl ?_
        refine SW.getS (f := 17) (r := 125) aw_cl10 kp_120 (by decide) (hW.le (by decide)) (by decide) ww_1259 dX10_man_83 rfl hW.t120_17 ?_
        refine SW.bipush (v := (7 : Int32)) dX10_man_86 (by decide) ?_
        refine SW.iload_n dX10_man_88 rfl ?_
        refine SW.iadd dX10_man_89 ?_
        refine SW.iald kp_125 (by decide) (hW.le (by decide)) vc.1 dX10_man_90 ?_
        replace vc := vc.2
        exact SW.iret dX10_man_91 rfl rfl ⟨_, rfl, vc⟩
      replace vc := vc.2
      rcases hsw2 with hsw2 | hsw2
      · replace vc := vc.1 hsw2
        refine SW.tabIn (off := 58) 92 dX10_man_34 (aw_si1 hsw2 (by decide)) (aw_si2 hsw2 (by decide)) (aw_si3 hsw2 (by decide)) (by decide) ?_
        refine SW.aload_n dX10_man_92 rfl ?_
        refine SW.getS (f := 15) (r := 123) aw_cl10 kp_120 (by decide) (hW.le (by decide)) (by decide) ww_1257 dX10_man_93 rfl hW.t120_15 ?_
        refine SW.bipush (v := (10 : Int32)) dX10_man_96 (by decide) ?_
        refine SW.iconst (v := (3 : Int32)) dX10_man_98 (by decide) ?_
        refine SW.iload_n dX10_man_99 rfl ?_
        refine SW.imul dX10_man_100 ?_
        refine SW.iadd dX10_man_101 ?_
        refine SW.iconst (v := (2 : Int32)) dX10_man_102 (by decide) ?_
        refine SW.iadd dX10_man_103 ?_
        refine SW.iald kp_123 (by decide) (hW.le (by decide)) vc.1 dX10_man_104 ?_
        replace vc := vc.2
        exact SW.iret dX10_man_105 rfl rfl ⟨_, rfl, vc⟩
      replace vc := vc.2
      rcases hsw2 with hsw2 | hsw2
      · replace vc := vc.1 hsw2
        refine SW.tabIn (off := 72) 106 dX10_man_34 (aw_si1 hsw2 (by decide)) (aw_si2 hsw2 (by decide)) (aw_si3 hsw2 (by decide)) (by decide) ?_
        refine SW.aload_n dX10_man_106 rfl ?_
        refine SW.aload_n dX10_man_107 rfl ?_
        refine SW.getS (f := 17) (r := 125) aw_cl10 kp_120 (by decide) (hW.le (by decide)) (by decide) ww_1259 dX10_man_108 rfl hW.t120_17 ?_
        refine SW.iload_n dX10_man_111 rfl ?_
        refine SW.cvi2 kV_X10_261 (by omega) aw_cl10 kp_120 (by decide) (hW.le (by decide)) rfl (Nat.le_of_ble_eq_true rfl) dX10_man_112 (SMi.mono vc ?_)
        intro a7 n7 σ7 τ7 θ7 vc
        obtain ⟨hW, vc⟩ := vc
        exact SW.iret dX10_man_115 rfl rfl ⟨_, rfl, vc⟩
      replace vc := vc.2
      rcases hsw2 with hsw2 | hsw2
      · replace vc := vc.1 hsw2
        refine SW.tabIn (off := 82) 116 dX10_man_34 (aw_si1 hsw2 (by decide)) (aw_si2 hsw2 (by decide)) (aw_si3 hsw2 (by decide)) (by decide) ?_
        refine SW.aload_n dX10_man_116 rfl ?_
        refine SW.aload_n dX10_man_117 rfl ?_
        refine SW.getS (f := 17) (r := 125) aw_cl10 kp_120 (by decide) (hW.le (by decide)) (by decide) ww_1259 dX10_man_118 rfl hW.t120_17 ?_
        refine SW.iload_n dX10_man_121 rfl ?_
        refine SW.cvi2 kV_X10_254 (by omega) aw_cl10 kp_120 (by decide) (hW.le (by decide)) rfl (Nat.le_of_ble_eq_true rfl) dX10_man_122 (SMi.mono vc ?_)
        intro a8 n8 σ8 τ8 θ8 vc
        obtain ⟨hW, vc⟩ := vc
        exact SW.iret dX10_man_125 rfl rfl ⟨_, rfl, vc⟩
      replace vc := vc.2
      rcases hsw2 with hsw2 | hsw2
      · replace vc := vc.1 hsw2
        refine SW.tabIn (off := 92) 126 dX10_man_34 (aw_si1 hsw2 (by decide)) (aw_si2 hsw2 (by decide)) (aw_si3 hsw2 (by decide)) (by decide) ?_
        refine SW.aload_n dX10_man_126 rfl ?_
        refine SW.iload_n dX10_man_127 rfl ?_
        refine SW.iconst (v := (-1 : Int32)) dX10_man_128 (by decide) ?_
        refine SW.cvi2 kV_X10_267 (by omega) aw_cl10 kp_120 (by decide) (hW.le (by decide)) rfl (Nat.le_of_ble_eq_true rfl) dX10_man_129 (SMi.mono vc ?_)
        intro a9 n9 σ9 τ9 θ9 vc
        obtain ⟨hW, vc⟩ := vc
        exact SW.iret dX10_man_132 rfl rfl ⟨_, rfl, vc⟩
      replace vc := vc.2
      replace vc := vc hsw2
      refine SW.tabIn (off := 99) 133 dX10_man_34 (aw_si1 hsw2 (by decide)) (aw_si2 hsw2 (by decide)) (aw_si3 hsw2 (by decide)) (by decide) ?_
      refine SW.aload_n dX10_man_133 rfl ?_
      refine SW.iload_n dX10_man_134 rfl ?_
      refine SW.cvi1 kV_X10_270 (by omega) aw_cl10 kp_120 (by decide) (hW.le (by decide)) rfl (Nat.le_of_ble_eq_true rfl) dX10_man_135 (SMi.mono vc ?_)
      intro a10 n10 σ10 τ10 θ10 vc
      obtain ⟨hW, vc⟩ := vc
      exact SW.iret dX10_man_138 rfl rfl ⟨_, rfl, vc⟩
    · replace vc := vc.2 hbr
      refine SW.aload_n dX10_man_27 rfl ?_
      refine SW.iconst (v := (1 : Int32)) dX10_man_28 (by decide) ?_
      refine SW.cvi1 kV_X10_157 (by omega) aw_cl10 kp_120 (by decide) (hW.le (by decide)) rfl (Nat.le_of_ble_eq_true rfl) dX10_man_29 (SMi.mono vc ?_)
      intro a11 n11 σ11 τ11 θ11 vc
      obtain ⟨hW, vc⟩ := vc
      exact SW.iret dX10_man_32 rfl rfl ⟨_, rfl, vc⟩
theorem ctX10_man {G : GG} {q : Int32 → Nat → SG → TU → TH → Prop} {n : Nat} {σ : SG} {τ : TU} {θ : TH} (x1 : Int32) (x2 : Int32) (h : SW G 5 mX10_man (aw_qi q) 0 0 0 [some (.ref 120), some (.int x1), some (.int x2)] [] (n, σ, τ, θ)) : SMi G 5 mX10_man 0 0 [.ref 120, .int x1, .int x2] n σ τ θ q := SM.of _ rfl rfl (Nat.le_of_ble_eq_true rfl) h
set_option maxHeartbeats 4000000 in
set_option maxRecDepth 20000 in
theorem sgX10_manHere_0 {G : GG} {k : Nat} {q : Int32 → Nat → SG → TU → TH → Prop} {n : Nat} {σ : SG} {τ : TU} {θ : TH}   (hk : 8 ≤ k)  (hW : aw_WT n θ) (vc : SMi G 7 mX10_named 0 0 [.ref 120, .int (0 : Int32), .int (4 : Int32)] n σ τ θ (fun a1 n1 σ1 τ1 θ1 => aw_WT n1 θ1 ∧ (q a1 n1 σ1 τ1 θ1))) : SW G k mX10_manHere (aw_qi q) 0 0 0 [some (.ref 120)] [] (n, σ, τ, θ) := by
  refine SW.aload_n dX10_manHere_0 rfl ?_
  refine SW.iconst (v := (0 : Int32)) dX10_manHere_1 (by decide) ?_
  refine SW.iconst (v := (4 : Int32)) dX10_manHere_2 (by decide) ?_
  refine SW.cvi2 kV_X10_143 (by omega) aw_cl10 kp_120 (by decide) (hW.le (by decide)) rfl (Nat.le_of_ble_eq_true rfl) dX10_manHere_3 (SMi.mono vc ?_)
  intro a1 n1 σ1 τ1 θ1 vc
  obtain ⟨hW, vc⟩ := vc
  exact SW.iret dX10_manHere_6 rfl rfl ⟨_, rfl, vc⟩
theorem ctX10_manHere {G : GG} {q : Int32 → Nat → SG → TU → TH → Prop} {n : Nat} {σ : SG} {τ : TU} {θ : TH}  (h : SW G 8 mX10_manHere (aw_qi q) 0 0 0 [some (.ref 120)] [] (n, σ, τ, θ)) : SMi G 8 mX10_manHere 0 0 [.ref 120] n σ τ θ q := SM.of _ rfl rfl (Nat.le_of_ble_eq_true rfl) h
set_option maxHeartbeats 4000000 in
set_option maxRecDepth 20000 in
theorem sgX10_manLine_0 {G : GG} {k : Nat} {q : Nat → SG → TU → TH → Prop} {n : Nat} {σ : SG} {τ : TU} {θ : TH}   (hk : 9 ≤ k)  (hW : aw_WT n θ) (vc : (((σ 120 13) = 0) → (SMv G 7 mX10_newName 0 0 [.ref 120, .int (σ 124 4)] n σ τ θ (fun n1 σ1 τ1 θ1 => aw_WT n1 θ1 ∧ (SMi G 5 mX10_isWord 0 0 [.ref 120, .ref (1000 + 31)] n1 σ1 τ1 θ1 (fun a2 n2 σ2 τ2 θ2 => aw_WT n2 θ2 ∧ (((a2 = 0) → (SMi G 5 mX10_isWord 0 0 [.ref 120, .ref (1000 + 32)] n2 σ2 τ2 θ2 (fun a3 n3 σ3 τ3 θ3 => aw_WT n3 θ3 ∧ (((a3 = 0) → (SMi G 5 mX10_isWord 0 0 [.ref 120, .ref (1000 + 33)] n3 σ3 τ3 θ3 (fun a4 n4 σ4 τ4 θ4 => aw_WT n4 θ4 ∧ (((a4 = 0) → (SMi G 5 mX10_isWord 0 0 [.ref 120, .ref (1000 + 34)] n4 σ4 τ4 θ4 (fun a5 n5 σ5 τ5 θ5 => aw_WT n5 θ5 ∧ (((a5 = 0) → (SW G k mX10_manLine (aw_qv q) 0 0 83 [some (.ref 120), some (.int ((10 : Int32) + ((3 : Int32) * (σ 124 4)))), none] [.int (-1 : Int32)] (n5, σ5, τ5, θ5))) ∧ ((¬ a5 = 0) → (SW G k mX10_manLine (aw_qv q) 0 0 83 [some (.ref 120), some (.int ((10 : Int32) + ((3 : Int32) * (σ 124 4)))), none] [.int (3 : Int32)] (n5, σ5, τ5, θ5))))))) ∧ ((¬ a4 = 0) → (SW G k mX10_manLine (aw_qv q) 0 0 83 [some (.ref 120), some (.int ((10 : Int32) + ((3 : Int32) * (σ 124 4)))), none] [.int (2 : Int32)] (n4, σ4, τ4, θ4))))))) ∧ ((¬ a3 = 0) → (SW G k mX10_manLine (aw_qv q) 0 0 83 [some (.ref 120), some (.int ((10 : Int32) + ((3 : Int32) * (σ 124 4)))), none] [.int (1 : Int32)] (n3, σ3, τ3, θ3))))))) ∧ ((¬ a2 = 0) → (SW G k mX10_manLine (aw_qv q) 0 0 83 [some (.ref 120), some (.int ((10 : Int32) + ((3 : Int32) * (σ 124 4)))), none] [.int (0 : Int32)] (n2, σ2, τ2, θ2))))))))) ∧ ((¬ (σ 120 13) = 0) → (q n σ τ θ))) : SW G k mX10_manLine (aw_qv q) 0 0 0 [some (.ref 120), none, none] [] (n, σ, τ, θ) := by
  refine SW.aload_n dX10_manLine_0 rfl ?_
  refine SW.getI (f := 13) aw_cl10 kp_120 (by decide) (hW.le (by decide)) (by decide) ww_1255 dX10_manLine_1 rfl ?_
  refine SW.if_eq 8 dX10_manLine_4 (by decide) (fun hbr => ?_) (fun hbr => ?_)
  · replace vc := vc.1 hbr
    refine SW.bipush (v := (10 : Int32)) dX10_manLine_8 (by decide) ?_
    refine SW.iconst (v := (3 : Int32)) dX10_manLine_10 (by decide) ?_
    refine SW.aload_n dX10_manLine_11 rfl ?_
    refine SW.getS (f := 16) (r := 124) aw_cl10 kp_120 (by decide) (hW.le (by decide)) (by decide) ww_1258 dX10_manLine_12 rfl hW.t120_16 ?_
    refine SW.iconst (v := (4 : Int32)) dX10_manLine_15 (by decide) ?_
    refine SW.iald kp_124 (by decide) (hW.le (by decide)) (vp_in_nI (n := 4) (by decide) (by decide)) dX10_manLine_16 ?_
    refine SW.imul dX10_manLine_17 ?_
    refine SW.iadd dX10_manLine_18 ?_
    refine SW.istore_n dX10_manLine_19 (by decide) rfl rfl ?_
    refine SW.aload_n dX10_manLine_20 rfl ?_
    refine SW.aload_n dX10_manLine_21 rfl ?_
    refine SW.getS (f := 16) (r := 124) aw_cl10 kp_120 (by decide) (hW.le (by decide)) (by decide) ww_1258 dX10_manLine_22 rfl hW.t120_16 ?_
    refine SW.iconst (v := (4 : Int32)) dX10_manLine_25 (by decide) ?_
    refine SW.iald kp_124 (by decide) (hW.le (by decide)) (vp_in_nI (n := 4) (by decide) (by decide)) dX10_manLine_26 ?_
    refine SW.cvv1 kV_X10_213 (by omega) aw_cl10 kp_120 (by decide) (hW.le (by decide)) rfl (Nat.le_of_ble_eq_true rfl) dX10_manLine_27 (SMv.mono vc ?_)
    intro n1 σ1 τ1 θ1 vc
    obtain ⟨hW, vc⟩ := vc
    refine SW.aload_n dX10_manLine_30 rfl ?_
    refine SW.ldcS (j := 31) rfl dX10_manLine_31 ?_
    refine SW.cvi1 kV_X10_105 (by omega) aw_cl10 kp_120 (by decide) (hW.le (by decide)) rfl (Nat.le_of_ble_eq_true rfl) dX10_manLine_33 (SMi.mono vc ?_)
    intro a2 n2 σ2 τ2 θ2 vc
    obtain ⟨hW, vc⟩ := vc
    refine SW.if_eq 43 dX10_manLine_36 (by decide) (fun hbr => ?_) (fun hbr => ?_)
    · replace vc := vc.1 hbr
      refine SW.aload_n dX10_manLine_43 rfl ?_
      refine SW.ldcS (j := 32) rfl dX10_manLine_44 ?_
      refine SW.cvi1 kV_X10_105 (by omega) aw_cl10 kp_120 (by decide) (hW.le (by decide)) rfl (Nat.le_of_ble_eq_true rfl) dX10_manLine_46 (SMi.mono vc ?_)
      intro a3 n3 σ3 τ3 θ3 vc
      obtain ⟨hW, vc⟩ := vc
      refine SW.if_eq 56 dX10_manLine_49 (by decide) (fun hbr => ?_) (fun hbr => ?_)
      · replace vc := vc.1 hbr
        refine SW.aload_n dX10_manLine_56 rfl ?_
        refine SW.ldcS (j := 33) rfl dX10_manLine_57 ?_
        refine SW.cvi1 kV_X10_105 (by omega) aw_cl10 kp_120 (by decide) (hW.le (by decide)) rfl (Nat.le_of_ble_eq_true rfl) dX10_manLine_59 (SMi.mono vc ?_)
        intro a4 n4 σ4 τ4 θ4 vc
        obtain ⟨hW, vc⟩ := vc
        refine SW.if_eq 69 dX10_manLine_62 (by decide) (fun hbr => ?_) (fun hbr => ?_)
        · replace vc := vc.1 hbr
          refine SW.aload_n dX10_manLine_69 rfl ?_
          refine SW.ldcS (j := 34) rfl dX10_manLine_70 ?_
          refine SW.cvi1 kV_X10_105 (by omega) aw_cl10 kp_120 (by decide) (hW.le (by decide)) rfl (Nat.le_of_ble_eq_true rfl) dX10_manLine_72 (SMi.mono vc ?_)
          intro a5 n5 σ5 τ5 θ5 vc
          obtain ⟨hW, vc⟩ := vc
          refine SW.if_eq 82 dX10_manLine_75 (by decide) (fun hbr => ?_) (fun hbr => ?_)
          · replace vc := vc.1 hbr
            refine SW.iconst (v := (-1 : Int32)) dX10_manLine_82 (by decide) ?_
            exact vc
          · replace vc := vc.2 hbr
            refine SW.iconst (v := (3 : Int32)) dX10_manLine_78 (by decide) ?_
            refine SW.goto 83 dX10_manLine_79 (by decide) ?_
            exact vc
        · replace vc := vc.2 hbr
          refine SW.iconst (v := (2 : Int32)) dX10_manLine_65 (by decide) ?_
          refine SW.goto 83 dX10_manLine_66 (by decide) ?_
          exact vc
      · replace vc := vc.2 hbr
        refine SW.iconst (v := (1 : Int32)) dX10_manLine_52 (by decide) ?_
        refine SW.goto 83 dX10_manLine_53 (by decide) ?_
        exact vc
    · replace vc := vc.2 hbr
      refine SW.iconst (v := (0 : Int32)) dX10_manLine_39 (by decide) ?_
      refine SW.goto 83 dX10_manLine_40 (by decide) ?_
      exact vc
  · replace vc := vc.2 hbr
    exact SW.vret dX10_manLine_7 rfl ⟨rfl, vc⟩
set_option maxHeartbeats 4000000 in
set_option maxRecDepth 20000 in
theorem sgX10_manLine_83 {G : GG} {k : Nat} {q : Nat → SG → TU → TH → Prop} {n : Nat} {σ : SG} {τ : TU} {θ : TH}  (x1 : Int32) (s0 : Int32) (hk : 9 ≤ k)  (hW : aw_WT n θ) (vc : ((0 ≤ s0) → (SW G k mX10_manLine (aw_qv q) 0 0 97 [some (.ref 120), some (.int x1), some (.int s0)] [] (n, σ, τ, θ))) ∧ ((¬ 0 ≤ s0) → (SMv G 1 mX10_wrong 0 0 [.ref 120, .int (1 : Int32), .int (σ 120 4)] n σ τ θ (fun n1 σ1 τ1 θ1 => aw_WT n1 θ1 ∧ (SW G k mX10_manLine (aw_qv q) 0 0 97 [some (.ref 120), some (.int x1), some (.int s0)] [] (n1, σ1, τ1, θ1)))))) : SW G k mX10_manLine (aw_qv q) 0 0 83 [some (.ref 120), some (.int x1), none] [.int s0] (n, σ, τ, θ) := by
  refine SW.istore_n dX10_manLine_83 (by decide) rfl rfl ?_
  refine SW.iload_n dX10_manLine_84 rfl ?_
  refine SW.if_ge 97 dX10_manLine_85 (by decide) (fun hbr => ?_) (fun hbr => ?_)
  · replace vc := vc.1 hbr
    exact vc
  · replace vc := vc.2 hbr
    refine SW.aload_n dX10_manLine_88 rfl ?_
    refine SW.iconst (v := (1 : Int32)) dX10_manLine_89 (by decide) ?_
    refine SW.aload_n dX10_manLine_90 rfl ?_
    refine SW.getI (f := 4) aw_cl10 kp_120 (by decide) (hW.le (by decide)) (by decide) ww_1246 dX10_manLine_91 rfl ?_
    refine SW.cvv2 kV_X10_115 (by omega) aw_cl10 kp_120 (by decide) (hW.le (by decide)) rfl (Nat.le_of_ble_eq_true rfl) dX10_manLine_94 (SMv.mono vc ?_)
    intro n1 σ1 τ1 θ1 vc
    obtain ⟨hW, vc⟩ := vc
    exact vc
set_option maxHeartbeats 4000000 in
set_option maxRecDepth 20000 in
theorem sgX10_manLine_97 {G : GG} {k : Nat} {q : Nat → SG → TU → TH → Prop} {n : Nat} {σ : SG} {τ : TU} {θ : TH}  (x1 : Int32) (x2 : Int32) (hk : 9 ≤ k)  (hW : aw_WT n θ) (vc : (((σ 120 13) = 0) → (SMv G 2 mX10_next 0 0 [.ref 120] n σ τ θ (fun n1 σ1 τ1 θ1 => aw_WT n1 θ1 ∧ (vp_in x1 167 ∧ (SMi G 8 mX10_after 0 0 [.ref 120, .ref (1000 + 35), .int (0 : Int32), .int (99 : Int32)] n1 (aw_u σ1 124 x1.toNatClampNeg x2) τ1 θ1 (fun a2 n2 σ2 τ2 θ2 => aw_WT n2 θ2 ∧ (vp_in (x1 + (1 : Int32)) 167 ∧ (SMi G 8 mX10_after 0 0 [.ref 120, .ref (1000 + 36), .int (0 : Int32), .int (9 : Int32)] n2 (aw_u σ2 124 (x1 + (1 : Int32)).toNatClampNeg a2) τ2 θ2 (fun a3 n3 σ3 τ3 θ3 => aw_WT n3 θ3 ∧ (vp_in (x1 + (2 : Int32)) 167 ∧ (((¬ ((aw_u σ3 124 (x1 + (2 : Int32)).toNatClampNeg a3) 120 13) = 0) → (q n3 (aw_u σ3 124 (x1 + (2 : Int32)).toNatClampNeg a3) τ3 θ3)) ∧ ((((aw_u σ3 124 (x1 + (2 : Int32)).toNatClampNeg a3) 120 13) = 0) → (q n3 (aw_u (aw_u σ3 124 (x1 + (2 : Int32)).toNatClampNeg a3) 124 4 (((aw_u σ3 124 (x1 + (2 : Int32)).toNatClampNeg a3) 124 4) + (1 : Int32))) τ3 θ3))))))))))))) ∧ ((¬ (σ 120 13) = 0) → (q n σ τ θ))) : SW G k mX10_manLine (aw_qv q) 0 0 97 [some (.ref 120), some (.int x1), some (.int x2)] [] (n, σ, τ, θ) := by
  refine SW.aload_n dX10_manLine_97 rfl ?_
  refine SW.getI (f := 13) aw_cl10 kp_120 (by decide) (hW.le (by decide)) (by decide) ww_1255 dX10_manLine_98 rfl ?_
  refine SW.if_eq 105 dX10_manLine_101 (by decide) (fun hbr => ?_) (fun hbr => ?_)
  · replace vc := vc.1 hbr
    refine SW.aload_n dX10_manLine_105 rfl ?_
    refine SW.cvv0 kV_X10_109 (by omega) aw_cl10 kp_120 (by decide) (hW.le (by decide)) rfl (Nat.le_of_ble_eq_true rfl) dX10_manLine_106 (SMv.mono vc ?_)
    intro n1 σ1 τ1 θ1 vc
    obtain ⟨hW, vc⟩ := vc
    refine SW.aload_n dX10_manLine_109 rfl ?_
    refine SW.getS (f := 16) (r := 124) aw_cl10 kp_120 (by decide) (hW.le (by decide)) (by decide) ww_1258 dX10_manLine_110 rfl hW.t120_16 ?_
    refine SW.iload_n dX10_manLine_113 rfl ?_
    refine SW.iload_n dX10_manLine_114 rfl ?_
    refine SW.iast kp_124 (by decide) (hW.le (by decide)) vc.1 dX10_manLine_115 ?_
    replace vc := vc.2
    refine SW.aload_n dX10_manLine_116 rfl ?_
    refine SW.getS (f := 16) (r := 124) aw_cl10 kp_120 (by decide) (hW.le (by decide)) (by decide) ww_1258 dX10_manLine_117 rfl hW.t120_16 ?_
    refine SW.iload_n dX10_manLine_120 rfl ?_
    refine SW.iconst (v := (1 : Int32)) dX10_manLine_121 (by decide) ?_
    refine SW.iadd dX10_manLine_122 ?_
    refine SW.aload_n dX10_manLine_123 rfl ?_
    refine SW.ldcS (j := 35) rfl dX10_manLine_124 ?_
    refine SW.iconst (v := (0 : Int32)) dX10_manLine_126 (by decide) ?_
    refine SW.bipush (v := (99 : Int32)) dX10_manLine_127 (by decide) ?_
    refine SW.cvi3 kV_X10_203 (by omega) aw_cl10 kp_120 (by decide) (hW.le (by decide)) rfl (Nat.le_of_ble_eq_true rfl) dX10_manLine_129 (SMi.mono vc ?_)
    intro a2 n2 σ2 τ2 θ2 vc
    obtain ⟨hW, vc⟩ := vc
    refine SW.iast kp_124 (by decide) (hW.le (by decide)) vc.1 dX10_manLine_132 ?_
    replace vc := vc.2
    refine SW.aload_n dX10_manLine_133 rfl ?_
    refine SW.getS (f := 16) (r := 124) aw_cl10 kp_120 (by decide) (hW.le (by decide)) (by decide) ww_1258 dX10_manLine_134 rfl hW.t120_16 ?_
    refine SW.iload_n dX10_manLine_137 rfl ?_
    refine SW.iconst (v := (2 : Int32)) dX10_manLine_138 (by decide) ?_
    refine SW.iadd dX10_manLine_139 ?_
    refine SW.aload_n dX10_manLine_140 rfl ?_
    refine SW.ldcS (j := 36) rfl dX10_manLine_141 ?_
    refine SW.iconst (v := (0 : Int32)) dX10_manLine_143 (by decide) ?_
    refine SW.bipush (v := (9 : Int32)) dX10_manLine_144 (by decide) ?_
    refine SW.cvi3 kV_X10_203 (by omega) aw_cl10 kp_120 (by decide) (hW.le (by decide)) rfl (Nat.le_of_ble_eq_true rfl) dX10_manLine_146 (SMi.mono vc ?_)
    intro a3 n3 σ3 τ3 θ3 vc
    obtain ⟨hW, vc⟩ := vc
    refine SW.iast kp_124 (by decide) (hW.le (by decide)) vc.1 dX10_manLine_149 ?_
    replace vc := vc.2
    refine SW.aload_n dX10_manLine_150 rfl ?_
    refine SW.getI (f := 13) aw_cl10 kp_120 (by decide) (hW.le (by decide)) (by decide) ww_1255 dX10_manLine_151 rfl ?_
    refine SW.if_ne 167 dX10_manLine_154 (by decide) (fun hbr => ?_) (fun hbr => ?_)
    · replace vc := vc.1 hbr
      exact SW.vret dX10_manLine_167 rfl ⟨rfl, vc⟩
    · replace vc := vc.2 hbr
      refine SW.aload_n dX10_manLine_157 rfl ?_
      refine SW.getS (f := 16) (r := 124) aw_cl10 kp_120 (by decide) (hW.le (by decide)) (by decide) ww_1258 dX10_manLine_158 rfl hW.t120_16 ?_
      refine SW.iconst (v := (4 : Int32)) dX10_manLine_161 (by decide) ?_
      refine SW.dup2 dX10_manLine_162 rfl rfl ?_
      refine SW.iald kp_124 (by decide) (hW.le (by decide)) (vp_in_nI (n := 4) (by decide) (by decide)) dX10_manLine_163 ?_
      refine SW.iconst (v := (1 : Int32)) dX10_manLine_164 (by decide) ?_
      refine SW.iadd dX10_manLine_165 ?_
      refine SW.iast kp_124 (by decide) (hW.le (by decide)) (vp_in_nI (n := 4) (by decide) (by decide)) dX10_manLine_166 ?_
      exact SW.vret dX10_manLine_167 rfl ⟨rfl, vc⟩
  · replace vc := vc.2 hbr
    exact SW.vret dX10_manLine_104 rfl ⟨rfl, vc⟩
theorem ctX10_manLine {G : GG} {q : Nat → SG → TU → TH → Prop} {n : Nat} {σ : SG} {τ : TU} {θ : TH}  (h : SW G 9 mX10_manLine (aw_qv q) 0 0 0 [some (.ref 120), none, none] [] (n, σ, τ, θ)) : SMv G 9 mX10_manLine 0 0 [.ref 120] n σ τ θ q := SM.of _ rfl rfl (Nat.le_of_ble_eq_true rfl) h
set_option maxHeartbeats 4000000 in
set_option maxRecDepth 20000 in
theorem sgX10_moths_0 {G : GG} {k : Nat} {q : Int32 → Nat → SG → TU → TH → Prop} {n : Nat} {σ : SG} {τ : TU} {θ : TH}  (x1 : Int32) (x2 : Int32) (x3 : Int32) (hk : 6 ≤ k)  (hW : aw_WT n θ) (vc : SMv G 1 mX10_good 0 0 [.ref 120] n σ τ θ (fun n1 σ1 τ1 θ1 => aw_WT n1 θ1 ∧ (SMi G 2 mX10_isMan 0 0 [.ref 120, .int x1] n1 σ1 τ1 θ1 (fun a2 n2 σ2 τ2 θ2 => aw_WT n2 θ2 ∧ (SMi G 5 mX10_mothsWhy 0 0 [.ref 120, .int a2, .int x2, .int x3] n2 σ2 τ2 θ2 (fun a3 n3 σ3 τ3 θ3 => aw_WT n3 θ3 ∧ (((a3 = 0) → (SMi G 4 mX10_headOf 0 0 [.ref 120, .ref 128, .int x1] n3 σ3 τ3 θ3 (fun a4 n4 σ4 τ4 θ4 => aw_WT n4 θ4 ∧ (q a4 n4 σ4 τ4 θ4)))) ∧ ((¬ a3 = 0) → (SMi G 1 mX10_no 0 0 [.ref 120, .int a3] n3 σ3 τ3 θ3 (fun a5 n5 σ5 τ5 θ5 => aw_WT n5 θ5 ∧ (q a5 n5 σ5 τ5 θ5))))))))))) : SW G k mX10_moths (aw_qi q) 0 0 0 [some (.ref 120), some (.int x1), some (.int x2), some (.int x3), none] [] (n, σ, τ, θ) := by
  refine SW.aload_n dX10_moths_0 rfl ?_
  refine SW.cvv0 kV_X10_154 (by omega) aw_cl10 kp_120 (by decide) (hW.le (by decide)) rfl (Nat.le_of_ble_eq_true rfl) dX10_moths_1 (SMv.mono vc ?_)
  intro n1 σ1 τ1 θ1 vc
  obtain ⟨hW, vc⟩ := vc
  refine SW.aload_n dX10_moths_4 rfl ?_
  refine SW.aload_n dX10_moths_5 rfl ?_
  refine SW.iload_n dX10_moths_6 rfl ?_
  refine SW.cvi1 kV_X10_264 (by omega) aw_cl10 kp_120 (by decide) (hW.le (by decide)) rfl (Nat.le_of_ble_eq_true rfl) dX10_moths_7 (SMi.mono vc ?_)
  intro a2 n2 σ2 τ2 θ2 vc
  obtain ⟨hW, vc⟩ := vc
  refine SW.iload_n dX10_moths_10 rfl ?_
  refine SW.iload_n dX10_moths_11 rfl ?_
  refine SW.cvi3 kV_X10_402 (by omega) aw_cl10 kp_120 (by decide) (hW.le (by decide)) rfl (Nat.le_of_ble_eq_true rfl) dX10_moths_12 (SMi.mono vc ?_)
  intro a3 n3 σ3 τ3 θ3 vc
  obtain ⟨hW, vc⟩ := vc
  refine SW.istore dX10_moths_15 (by decide) rfl rfl ?_
  refine SW.iload dX10_moths_17 rfl ?_
  refine SW.if_eq 31 dX10_moths_19 (by decide) (fun hbr => ?_) (fun hbr => ?_)
  · replace vc := vc.1 hbr
    refine SW.aload_n dX10_moths_31 rfl ?_
    refine SW.aload_n dX10_moths_32 rfl ?_
    refine SW.getS (f := 23) (r := 128) aw_cl10 kp_120 (by decide) (hW.le (by decide)) (by decide) ww_1265 dX10_moths_33 rfl hW.t120_23 ?_
    refine SW.iload_n dX10_moths_36 rfl ?_
    refine SW.cvi2 kV_X10_261 (by omega) aw_cl10 kp_120 (by decide) (hW.le (by decide)) rfl (Nat.le_of_ble_eq_true rfl) dX10_moths_37 (SMi.mono vc ?_)
    intro a4 n4 σ4 τ4 θ4 vc
    obtain ⟨hW, vc⟩ := vc
    exact SW.iret dX10_moths_40 rfl rfl ⟨_, rfl, vc⟩
  · replace vc := vc.2 hbr
    refine SW.aload_n dX10_moths_22 rfl ?_
    refine SW.iload dX10_moths_23 rfl ?_
    refine SW.cvi1 kV_X10_157 (by omega) aw_cl10 kp_120 (by decide) (hW.le (by decide)) rfl (Nat.le_of_ble_eq_true rfl) dX10_moths_25 (SMi.mono vc ?_)
    intro a5 n5 σ5 τ5 θ5 vc
    obtain ⟨hW, vc⟩ := vc
    refine SW.goto 40 dX10_moths_28 (by decide) ?_
    exact SW.iret dX10_moths_40 rfl rfl ⟨_, rfl, vc⟩
theorem ctX10_moths {G : GG} {q : Int32 → Nat → SG → TU → TH → Prop} {n : Nat} {σ : SG} {τ : TU} {θ : TH} (x1 : Int32) (x2 : Int32) (x3 : Int32) (h : SW G 6 mX10_moths (aw_qi q) 0 0 0 [some (.ref 120), some (.int x1), some (.int x2), some (.int x3), none] [] (n, σ, τ, θ)) : SMi G 6 mX10_moths 0 0 [.ref 120, .int x1, .int x2, .int x3] n σ τ θ q := SM.of _ rfl rfl (Nat.le_of_ble_eq_true rfl) h
set_option maxHeartbeats 4000000 in
set_option maxRecDepth 20000 in
theorem sgX10_mothsWhy_0 {G : GG} {k : Nat} {q : Int32 → Nat → SG → TU → TH → Prop} {n : Nat} {σ : SG} {τ : TU} {θ : TH}  (x1 : Int32) (x2 : Int32) (x3 : Int32) (hk : 5 ≤ k)  (hW : aw_WT n θ) (vc : ((¬ x1 = 0) → (SMi G 1 mX10_in 0 0 [.int x2, .int (0 : Int32), .int (65536 : Int32)] n σ τ θ (fun a1 n1 σ1 τ1 θ1 => aw_WT n1 θ1 ∧ (((a1 = 0) → (q (2 : Int32) n1 σ1 τ1 θ1)) ∧ ((¬ a1 = 0) → (SMi G 1 mX10_in 0 0 [.int x3, .int (0 : Int32), .int (20 : Int32)] n1 σ1 τ1 θ1 (fun a2 n2 σ2 τ2 θ2 => aw_WT n2 θ2 ∧ (((¬ a2 = 0) → (SMv G 2 mX10_goOver 0 0 [.ref 120, .int (0 : Int32)] n2 σ2 τ2 θ2 (fun n3 σ3 τ3 θ3 => aw_WT n3 θ3 ∧ (SW G k mX10_mothsWhy (aw_qi q) 0 0 45 [some (.ref 120), none, none, some (.int x3), some (.int x2), some (.int (0 : Int32)), none] [] (n3, (aw_u σ3 120 32 (0 : Int32)), τ3, θ3))))) ∧ ((a2 = 0) → (q (2 : Int32) n2 σ2 τ2 θ2)))))))))) ∧ ((x1 = 0) → (q (1 : Int32) n σ τ θ))) : SW G k mX10_mothsWhy (aw_qi q) 0 0 0 [some (.ref 120), some (.int x1), some (.int x2), some (.int x3), none, none, none] [] (n, σ, τ, θ) := by
  refine SW.iload_n dX10_mothsWhy_0 rfl ?_
  refine SW.if_ne 6 dX10_mothsWhy_1 (by decide) (fun hbr => ?_) (fun hbr => ?_)
  · replace vc := vc.1 hbr
    refine SW.iload_n dX10_mothsWhy_6 rfl ?_
    refine SW.iconst (v := (0 : Int32)) dX10_mothsWhy_7 (by decide) ?_
    refine SW.ldcw (v := (65536 : Int32)) ww_1805 dX10_mothsWhy_8 ?_
    refine SW.csi3 kS_X10_139 (by omega) (Nat.le_of_ble_eq_true rfl) dX10_mothsWhy_11 (SMi.mono vc ?_)
    intro a1 n1 σ1 τ1 θ1 vc
    obtain ⟨hW, vc⟩ := vc
    refine SW.if_eq 27 dX10_mothsWhy_14 (by decide) (fun hbr => ?_) (fun hbr => ?_)
    · replace vc := vc.1 hbr
      refine SW.iconst (v := (2 : Int32)) dX10_mothsWhy_27 (by decide) ?_
      exact SW.iret dX10_mothsWhy_28 rfl rfl ⟨_, rfl, vc⟩
    · replace vc := vc.2 hbr
      refine SW.iload_n dX10_mothsWhy_17 rfl ?_
      refine SW.iconst (v := (0 : Int32)) dX10_mothsWhy_18 (by decide) ?_
      refine SW.bipush (v := (20 : Int32)) dX10_mothsWhy_19 (by decide) ?_
      refine SW.csi3 kS_X10_139 (by omega) (Nat.le_of_ble_eq_true rfl) dX10_mothsWhy_21 (SMi.mono vc ?_)
      intro a2 n2 σ2 τ2 θ2 vc
      obtain ⟨hW, vc⟩ := vc
      refine SW.if_ne 29 dX10_mothsWhy_24 (by decide) (fun hbr => ?_) (fun hbr => ?_)
      · replace vc := vc.1 hbr
        refine SW.aload_n dX10_mothsWhy_29 rfl ?_
        refine SW.iconst (v := (0 : Int32)) dX10_mothsWhy_30 (by decide) ?_
        refine SW.cvv1 kV_X10_293 (by omega) aw_cl10 kp_120 (by decide) (hW.le (by decide)) rfl (Nat.le_of_ble_eq_true rfl) dX10_mothsWhy_31 (SMv.mono vc ?_)
        intro n3 σ3 τ3 θ3 vc
        obtain ⟨hW, vc⟩ := vc
        refine SW.aload_n dX10_mothsWhy_34 rfl ?_
        refine SW.iconst (v := (0 : Int32)) dX10_mothsWhy_35 (by decide) ?_
        refine SW.putI (f := 32) aw_cl10 kp_120 (by decide) (hW.le (by decide)) (by decide) ww_1274 (Or.inl rfl) dX10_mothsWhy_36 rfl rfl rfl ?_
        refine SW.iload_n dX10_mothsWhy_39 rfl ?_
        refine SW.istore dX10_mothsWhy_40 (by decide) rfl rfl ?_
        refine SW.iconst (v := (0 : Int32)) dX10_mothsWhy_42 (by decide) ?_
        refine SW.istore dX10_mothsWhy_43 (by decide) rfl rfl ?_
        refine SW.msk [true, false, false, true, true, true, true] rfl ?_
        exact vc
      · replace vc := vc.2 hbr
        refine SW.iconst (v := (2 : Int32)) dX10_mothsWhy_27 (by decide) ?_
        exact SW.iret dX10_mothsWhy_28 rfl rfl ⟨_, rfl, vc⟩
  · replace vc := vc.2 hbr
    refine SW.iconst (v := (1 : Int32)) dX10_mothsWhy_4 (by decide) ?_
    exact SW.iret dX10_mothsWhy_5 rfl rfl ⟨_, rfl, vc⟩
set_option maxHeartbeats 4000000 in
set_option maxRecDepth 20000 in
theorem sgX10_mothsWhy_45 {G : GG} {k : Nat} {q : Int32 → Nat → SG → TU → TH → Prop} {n : Nat} {σ : SG} {τ : TU} {θ : TH}  (x3 : Int32) (x4 : Int32) (x5 : Int32) (hk : 5 ≤ k)  (hW : aw_WT n θ) (vc : ((x3 ≤ x5) → (q (0 : Int32) n σ τ θ)) ∧ ((¬ x3 ≤ x5) → (SW G k mX10_mothsWhy (aw_qi q) 0 0 65 [some (.ref 120), none, none, some (.int x3), some (.int x4), some (.int x5), some (.int (0 : Int32))] [] (n, (aw_u σ 128 12 ((σ 128 12) + (1 : Int32))), τ, θ)))) : SW G k mX10_mothsWhy (aw_qi q) 0 0 45 [some (.ref 120), none, none, some (.int x3), some (.int x4), some (.int x5), none] [] (n, σ, τ, θ) := by
  refine SW.iload dX10_mothsWhy_45 rfl ?_
  refine SW.iload_n dX10_mothsWhy_47 rfl ?_
  refine SW.icmp_ge 138 dX10_mothsWhy_48 (by decide) (fun hbr => ?_) (fun hbr => ?_)
  · replace vc := vc.1 hbr
    refine SW.iconst (v := (0 : Int32)) dX10_mothsWhy_138 (by decide) ?_
    exact SW.iret dX10_mothsWhy_139 rfl rfl ⟨_, rfl, vc⟩
  · replace vc := vc.2 hbr
    refine SW.aload_n dX10_mothsWhy_51 rfl ?_
    refine SW.getS (f := 23) (r := 128) aw_cl10 kp_120 (by decide) (hW.le (by decide)) (by decide) ww_1265 dX10_mothsWhy_52 rfl hW.t120_23 ?_
    refine SW.bipush (v := (12 : Int32)) dX10_mothsWhy_55 (by decide) ?_
    refine SW.dup2 dX10_mothsWhy_57 rfl rfl ?_
    refine SW.iald kp_128 (by decide) (hW.le (by decide)) (vp_in_nI (n := 12) (by decide) (by decide)) dX10_mothsWhy_58 ?_
    refine SW.iconst (v := (1 : Int32)) dX10_mothsWhy_59 (by decide) ?_
    refine SW.iadd dX10_mothsWhy_60 ?_
    refine SW.iast kp_128 (by decide) (hW.le (by decide)) (vp_in_nI (n := 12) (by decide) (by decide)) dX10_mothsWhy_61 ?_
    refine SW.iconst (v := (0 : Int32)) dX10_mothsWhy_62 (by decide) ?_
    refine SW.istore dX10_mothsWhy_63 (by decide) rfl rfl ?_
    exact vc
set_option maxHeartbeats 4000000 in
set_option maxRecDepth 20000 in
theorem sgX10_mothsWhy_65 {G : GG} {k : Nat} {q : Int32 → Nat → SG → TU → TH → Prop} {n : Nat} {σ : SG} {τ : TU} {θ : TH}  (x3 : Int32) (x4 : Int32) (x5 : Int32) (x6 : Int32) (hk : 5 ≤ k)  (hW : aw_WT n θ) (vc : (((σ 123 4) ≤ x6) → (SW G k mX10_mothsWhy (aw_qi q) 0 0 45 [some (.ref 120), none, none, some (.int x3), some (.int x4), some (.int (x5 + (1 : Int32))), none] [] (n, σ, τ, θ))) ∧ ((¬ (σ 123 4) ≤ x6) → (SMi G 4 mX10_headOf 0 0 [.ref 120, .ref 128, .int x6] n σ τ θ (fun a1 n1 σ1 τ1 θ1 => aw_WT n1 θ1 ∧ (((¬ a1 = 0) → ((((σ1 123 3) ≤ (((((75 : Int32) * x4) + (74 : Int32)) - (((75 : Int32) * x4) + (74 : Int32)) / (65537 : Int32) * (65537 : Int32)) - ((((75 : Int32) * x4) + (74 : Int32)) - (((75 : Int32) * x4) + (74 : Int32)) / (65537 : Int32) * (65537 : Int32)) / (100 : Int32) * (100 : Int32))) → (SW G k mX10_mothsWhy (aw_qi q) 0 0 65 [some (.ref 120), none, none, some (.int x3), some (.int ((((75 : Int32) * x4) + (74 : Int32)) - (((75 : Int32) * x4) + (74 : Int32)) / (65537 : Int32) * (65537 : Int32))), some (.int x5), some (.int (x6 + (1 : Int32)))] [] (n1, σ1, τ1, θ1))) ∧ ((¬ (σ1 123 3) ≤ (((((75 : Int32) * x4) + (74 : Int32)) - (((75 : Int32) * x4) + (74 : Int32)) / (65537 : Int32) * (65537 : Int32)) - ((((75 : Int32) * x4) + (74 : Int32)) - (((75 : Int32) * x4) + (74 : Int32)) / (65537 : Int32) * (65537 : Int32)) / (100 : Int32) * (100 : Int32))) → (SMv G 3 mX10_eat 0 0 [.ref 120, .int x6] n1 σ1 τ1 θ1 (fun n2 σ2 τ2 θ2 => aw_WT n2 θ2 ∧ (SW G k mX10_mothsWhy (aw_qi q) 0 0 65 [some (.ref 120), none, none, some (.int x3), some (.int ((((75 : Int32) * x4) + (74 : Int32)) - (((75 : Int32) * x4) + (74 : Int32)) / (65537 : Int32) * (65537 : Int32))), some (.int x5), some (.int (x6 + (1 : Int32)))] [] (n2, σ2, τ2, θ2))))))) ∧ ((a1 = 0) → (SW G k mX10_mothsWhy (aw_qi q) 0 0 65 [some (.ref 120), none, none, some (.int x3), some (.int x4), some (.int x5), some (.int (x6 + (1 : Int32)))] [] (n1, σ1, τ1, θ1)))))))) : SW G k mX10_mothsWhy (aw_qi q) 0 0 65 [some (.ref 120), none, none, some (.int x3), some (.int x4), some (.int x5), some (.int x6)] [] (n, σ, τ, θ) := by
  refine SW.iload dX10_mothsWhy_65 rfl ?_
  refine SW.aload_n dX10_mothsWhy_67 rfl ?_
  refine SW.getS (f := 15) (r := 123) aw_cl10 kp_120 (by decide) (hW.le (by decide)) (by decide) ww_1257 dX10_mothsWhy_68 rfl hW.t120_15 ?_
  refine SW.iconst (v := (4 : Int32)) dX10_mothsWhy_71 (by decide) ?_
  refine SW.iald kp_123 (by decide) (hW.le (by decide)) (vp_in_nI (n := 4) (by decide) (by decide)) dX10_mothsWhy_72 ?_
  refine SW.icmp_ge 132 dX10_mothsWhy_73 (by decide) (fun hbr => ?_) (fun hbr => ?_)
  · replace vc := vc.1 hbr
    refine SW.iinc (v := (x5 + (1 : Int32))) dX10_mothsWhy_132 rfl rfl (by decide) rfl rfl ?_
    refine SW.goto 45 dX10_mothsWhy_135 (by decide) ?_
    refine SW.msk [true, true, true, true, true, true, false] rfl ?_
    exact vc
  · replace vc := vc.2 hbr
    refine SW.aload_n dX10_mothsWhy_76 rfl ?_
    refine SW.aload_n dX10_mothsWhy_77 rfl ?_
    refine SW.getS (f := 23) (r := 128) aw_cl10 kp_120 (by decide) (hW.le (by decide)) (by decide) ww_1265 dX10_mothsWhy_78 rfl hW.t120_23 ?_
    refine SW.iload dX10_mothsWhy_81 rfl ?_
    refine SW.cvi2 kV_X10_261 (by omega) aw_cl10 kp_120 (by decide) (hW.le (by decide)) rfl (Nat.le_of_ble_eq_true rfl) dX10_mothsWhy_83 (SMi.mono vc ?_)
    intro a1 n1 σ1 τ1 θ1 vc
    obtain ⟨hW, vc⟩ := vc
    refine SW.if_ne 92 dX10_mothsWhy_86 (by decide) (fun hbr => ?_) (fun hbr => ?_)
    · replace vc := vc.1 hbr
      refine SW.bipush (v := (75 : Int32)) dX10_mothsWhy_92 (by decide) ?_
      refine SW.iload dX10_mothsWhy_94 rfl ?_
      refine SW.imul dX10_mothsWhy_96 ?_
      refine SW.bipush (v := (74 : Int32)) dX10_mothsWhy_97 (by decide) ?_
      refine SW.iadd dX10_mothsWhy_99 ?_
      refine SW.ldcw (v := (65537 : Int32)) ww_1806 dX10_mothsWhy_100 ?_
      refine SW.irem dX10_mothsWhy_103 (by decide) ?_
      refine SW.istore dX10_mothsWhy_104 (by decide) rfl rfl ?_
      refine SW.iload dX10_mothsWhy_106 rfl ?_
      refine SW.bipush (v := (100 : Int32)) dX10_mothsWhy_108 (by decide) ?_
      refine SW.irem dX10_mothsWhy_110 (by decide) ?_
      refine SW.aload_n dX10_mothsWhy_111 rfl ?_
      refine SW.getS (f := 15) (r := 123) aw_cl10 kp_120 (by decide) (hW.le (by decide)) (by decide) ww_1257 dX10_mothsWhy_112 rfl hW.t120_15 ?_
      refine SW.iconst (v := (3 : Int32)) dX10_mothsWhy_115 (by decide) ?_
      refine SW.iald kp_123 (by decide) (hW.le (by decide)) (vp_in_nI (n := 3) (by decide) (by decide)) dX10_mothsWhy_116 ?_
      refine SW.icmp_ge 126 dX10_mothsWhy_117 (by decide) (fun hbr => ?_) (fun hbr => ?_)
      · replace vc := vc.1 hbr
        refine SW.iinc (v := (x6 + (1 : Int32))) dX10_mothsWhy_126 rfl rfl (by decide) rfl rfl ?_
        refine SW.goto 65 dX10_mothsWhy_129 (by decide) ?_
        exact vc
      · replace vc := vc.2 hbr
        refine SW.aload_n dX10_mothsWhy_120 rfl ?_
        refine SW.iload dX10_mothsWhy_121 rfl ?_
        refine SW.cvv1 kV_X10_399 (by omega) aw_cl10 kp_120 (by decide) (hW.le (by decide)) rfl (Nat.le_of_ble_eq_true rfl) dX10_mothsWhy_123 (SMv.mono vc ?_)
        intro n2 σ2 τ2 θ2 vc
        obtain ⟨hW, vc⟩ := vc
        refine SW.iinc (v := (x6 + (1 : Int32))) dX10_mothsWhy_126 rfl rfl (by decide) rfl rfl ?_
        refine SW.goto 65 dX10_mothsWhy_129 (by decide) ?_
        exact vc
    · replace vc := vc.2 hbr
      refine SW.goto 126 dX10_mothsWhy_89 (by decide) ?_
      refine SW.iinc (v := (x6 + (1 : Int32))) dX10_mothsWhy_126 rfl rfl (by decide) rfl rfl ?_
      refine SW.goto 65 dX10_mothsWhy_129 (by decide) ?_
      exact vc
theorem ctX10_mothsWhy {G : GG} {q : Int32 → Nat → SG → TU → TH → Prop} {n : Nat} {σ : SG} {τ : TU} {θ : TH} (x1 : Int32) (x2 : Int32) (x3 : Int32) (h : SW G 5 mX10_mothsWhy (aw_qi q) 0 0 0 [some (.ref 120), some (.int x1), some (.int x2), some (.int x3), none, none, none] [] (n, σ, τ, θ)) : SMi G 5 mX10_mothsWhy 0 0 [.ref 120, .int x1, .int x2, .int x3] n σ τ θ q := SM.of _ rfl rfl (Nat.le_of_ble_eq_true rfl) h
set_option maxHeartbeats 4000000 in
set_option maxRecDepth 20000 in
theorem sgX10_must_0 {G : GG} {k : Nat} {q : Nat → SG → TU → TH → Prop} {n : Nat} {σ : SG} {τ : TU} {θ : TH} (j : Nat) (st : String × Nat × String × List Int32)  (hk : 7 ≤ k) (hj : aw_strs[j]? = some st) (hW : aw_WT n θ) (vc : ((¬ (σ 120 13) = 0) → (q n σ τ θ)) ∧ (((σ 120 13) = 0) → (SMi G 6 mX10_takesWord 0 0 [.ref 120, .ref (1000 + j)] n σ τ θ (fun a1 n1 σ1 τ1 θ1 => aw_WT n1 θ1 ∧ (((¬ a1 = 0) → (q n1 σ1 τ1 θ1)) ∧ ((a1 = 0) → (SMv G 1 mX10_wrong 0 0 [.ref 120, .int (1 : Int32), .int (σ1 120 4)] n1 σ1 τ1 θ1 (fun n2 σ2 τ2 θ2 => aw_WT n2 θ2 ∧ (q n2 σ2 τ2 θ2))))))))) : SW G k mX10_must (aw_qv q) 0 0 0 [some (.ref 120), some (.ref (1000 + j))] [] (n, σ, τ, θ) := by
  refine SW.aload_n dX10_must_0 rfl ?_
  refine SW.getI (f := 13) aw_cl10 kp_120 (by decide) (hW.le (by decide)) (by decide) ww_1255 dX10_must_1 rfl ?_
  refine SW.if_ne 24 dX10_must_4 (by decide) (fun hbr => ?_) (fun hbr => ?_)
  · replace vc := vc.1 hbr
    exact SW.vret dX10_must_24 rfl ⟨rfl, vc⟩
  · replace vc := vc.2 hbr
    refine SW.aload_n dX10_must_7 rfl ?_
    refine SW.aload_n dX10_must_8 rfl ?_
    refine SW.cvi1 kV_X10_112 (by omega) aw_cl10 kp_120 (by decide) (hW.le (by decide)) rfl (Nat.le_of_ble_eq_true rfl) dX10_must_9 (SMi.mono vc ?_)
    intro a1 n1 σ1 τ1 θ1 vc
    obtain ⟨hW, vc⟩ := vc
    refine SW.if_ne 24 dX10_must_12 (by decide) (fun hbr => ?_) (fun hbr => ?_)
    · replace vc := vc.1 hbr
      exact SW.vret dX10_must_24 rfl ⟨rfl, vc⟩
    · replace vc := vc.2 hbr
      refine SW.aload_n dX10_must_15 rfl ?_
      refine SW.iconst (v := (1 : Int32)) dX10_must_16 (by decide) ?_
      refine SW.aload_n dX10_must_17 rfl ?_
      refine SW.getI (f := 4) aw_cl10 kp_120 (by decide) (hW.le (by decide)) (by decide) ww_1246 dX10_must_18 rfl ?_
      refine SW.cvv2 kV_X10_115 (by omega) aw_cl10 kp_120 (by decide) (hW.le (by decide)) rfl (Nat.le_of_ble_eq_true rfl) dX10_must_21 (SMv.mono vc ?_)
      intro n2 σ2 τ2 θ2 vc
      obtain ⟨hW, vc⟩ := vc
      exact SW.vret dX10_must_24 rfl ⟨rfl, vc⟩
theorem ctX10_must {G : GG} {q : Nat → SG → TU → TH → Prop} {n : Nat} {σ : SG} {τ : TU} {θ : TH} (j : Nat) (h : SW G 7 mX10_must (aw_qv q) 0 0 0 [some (.ref 120), some (.ref (1000 + j))] [] (n, σ, τ, θ)) : SMv G 7 mX10_must 0 0 [.ref 120, .ref (1000 + j)] n σ τ θ q := SM.of _ rfl rfl (Nat.le_of_ble_eq_true rfl) h
set_option maxHeartbeats 4000000 in
set_option maxRecDepth 20000 in
theorem sgX10_mustName_0 {G : GG} {k : Nat} {q : Nat → SG → TU → TH → Prop} {n : Nat} {σ : SG} {τ : TU} {θ : TH}   (hk : 6 ≤ k)  (hW : aw_WT n θ) (vc : ((¬ (σ 120 6) = (2 : Int32)) → (SMv G 1 mX10_wrong 0 0 [.ref 120, .int (1 : Int32), .int (σ 120 4)] n σ τ θ (fun n1 σ1 τ1 θ1 => aw_WT n1 θ1 ∧ (q n1 σ1 τ1 θ1)))) ∧ (((σ 120 6) = (2 : Int32)) → (SMi G 5 mX10_isWord 0 0 [.ref 120, .ref (1000 + 20)] n σ τ θ (fun a2 n2 σ2 τ2 θ2 => aw_WT n2 θ2 ∧ (((¬ a2 = 0) → (SMv G 1 mX10_wrong 0 0 [.ref 120, .int (1 : Int32), .int (σ2 120 4)] n2 σ2 τ2 θ2 (fun n3 σ3 τ3 θ3 => aw_WT n3 θ3 ∧ (q n3 σ3 τ3 θ3)))) ∧ ((a2 = 0) → (SMi G 5 mX10_isWord 0 0 [.ref 120, .ref (1000 + 25)] n2 σ2 τ2 θ2 (fun a4 n4 σ4 τ4 θ4 => aw_WT n4 θ4 ∧ (((¬ a4 = 0) → (SMv G 1 mX10_wrong 0 0 [.ref 120, .int (1 : Int32), .int (σ4 120 4)] n4 σ4 τ4 θ4 (fun n5 σ5 τ5 θ5 => aw_WT n5 θ5 ∧ (q n5 σ5 τ5 θ5)))) ∧ ((a4 = 0) → (SMi G 5 mX10_isWord 0 0 [.ref 120, .ref (1000 + 26)] n4 σ4 τ4 θ4 (fun a6 n6 σ6 τ6 θ6 => aw_WT n6 θ6 ∧ (((¬ a6 = 0) → (SMv G 1 mX10_wrong 0 0 [.ref 120, .int (1 : Int32), .int (σ6 120 4)] n6 σ6 τ6 θ6 (fun n7 σ7 τ7 θ7 => aw_WT n7 θ7 ∧ (q n7 σ7 τ7 θ7)))) ∧ ((a6 = 0) → (SMi G 5 mX10_isWord 0 0 [.ref 120, .ref (1000 + 27)] n6 σ6 τ6 θ6 (fun a8 n8 σ8 τ8 θ8 => aw_WT n8 θ8 ∧ (((¬ a8 = 0) → (SMv G 1 mX10_wrong 0 0 [.ref 120, .int (1 : Int32), .int (σ8 120 4)] n8 σ8 τ8 θ8 (fun n9 σ9 τ9 θ9 => aw_WT n9 θ9 ∧ (q n9 σ9 τ9 θ9)))) ∧ ((a8 = 0) → (SMi G 5 mX10_isWord 0 0 [.ref 120, .ref (1000 + 28)] n8 σ8 τ8 θ8 (fun a10 n10 σ10 τ10 θ10 => aw_WT n10 θ10 ∧ (((¬ a10 = 0) → (SMv G 1 mX10_wrong 0 0 [.ref 120, .int (1 : Int32), .int (σ10 120 4)] n10 σ10 τ10 θ10 (fun n11 σ11 τ11 θ11 => aw_WT n11 θ11 ∧ (q n11 σ11 τ11 θ11)))) ∧ ((a10 = 0) → (SMi G 5 mX10_isWord 0 0 [.ref 120, .ref (1000 + 29)] n10 σ10 τ10 θ10 (fun a12 n12 σ12 τ12 θ12 => aw_WT n12 θ12 ∧ (((¬ a12 = 0) → (SMv G 1 mX10_wrong 0 0 [.ref 120, .int (1 : Int32), .int (σ12 120 4)] n12 σ12 τ12 θ12 (fun n13 σ13 τ13 θ13 => aw_WT n13 θ13 ∧ (q n13 σ13 τ13 θ13)))) ∧ ((a12 = 0) → (SMi G 5 mX10_isWord 0 0 [.ref 120, .ref (1000 + 30)] n12 σ12 τ12 θ12 (fun a14 n14 σ14 τ14 θ14 => aw_WT n14 θ14 ∧ (((a14 = 0) → (q n14 σ14 τ14 θ14)) ∧ ((¬ a14 = 0) → (SMv G 1 mX10_wrong 0 0 [.ref 120, .int (1 : Int32), .int (σ14 120 4)] n14 σ14 τ14 θ14 (fun n15 σ15 τ15 θ15 => aw_WT n15 θ15 ∧ (q n15 σ15 τ15 θ15))))))))))))))))))))))))))))))))) : SW G k mX10_mustName (aw_qv q) 0 0 0 [some (.ref 120)] [] (n, σ, τ, θ) := by
  refine SW.aload_n dX10_mustName_0 rfl ?_
  refine SW.getI (f := 6) aw_cl10 kp_120 (by decide) (hW.le (by decide)) (by decide) ww_1248 dX10_mustName_1 rfl ?_
  refine SW.iconst (v := (2 : Int32)) dX10_mustName_4 (by decide) ?_
  refine SW.icmp_ne 71 dX10_mustName_5 (by decide) (fun hbr => ?_) (fun hbr => ?_)
  · replace vc := vc.1 hbr
    refine SW.aload_n dX10_mustName_71 rfl ?_
    refine SW.iconst (v := (1 : Int32)) dX10_mustName_72 (by decide) ?_
    refine SW.aload_n dX10_mustName_73 rfl ?_
    refine SW.getI (f := 4) aw_cl10 kp_120 (by decide) (hW.le (by decide)) (by decide) ww_1246 dX10_mustName_74 rfl ?_
    refine SW.cvv2 kV_X10_115 (by omega) aw_cl10 kp_120 (by decide) (hW.le (by decide)) rfl (Nat.le_of_ble_eq_true rfl) dX10_mustName_77 (SMv.mono vc ?_)
    intro n1 σ1 τ1 θ1 vc
    obtain ⟨hW, vc⟩ := vc
    exact SW.vret dX10_mustName_80 rfl ⟨rfl, vc⟩
  · replace vc := vc.2 hbr
    refine SW.aload_n dX10_mustName_8 rfl ?_
    refine SW.ldcS (j := 20) rfl dX10_mustName_9 ?_
    refine SW.cvi1 kV_X10_105 (by omega) aw_cl10 kp_120 (by decide) (hW.le (by decide)) rfl (Nat.le_of_ble_eq_true rfl) dX10_mustName_11 (SMi.mono vc ?_)
    intro a2 n2 σ2 τ2 θ2 vc
    obtain ⟨hW, vc⟩ := vc
    refine SW.if_ne 71 dX10_mustName_14 (by decide) (fun hbr => ?_) (fun hbr => ?_)
    · replace vc := vc.1 hbr
      refine SW.aload_n dX10_mustName_71 rfl ?_
      refine SW.iconst (v := (1 : Int32)) dX10_mustName_72 (by decide) ?_
      refine SW.aload_n dX10_mustName_73 rfl ?_
      refine SW.getI (f := 4) aw_cl10 kp_120 (by decide) (hW.le (by decide)) (by decide) ww_1246 dX10_mustName_74 rfl ?_
      refine SW.cvv2 kV_X10_115 (by omega) aw_cl10 kp_120 (by decide) (hW.le (by decide)) rfl (Nat.le_of_ble_eq_true rfl) dX10_mustName_77 (SMv.mono vc ?_)
      intro n3 σ3 τ3 θ3 vc
      obtain ⟨hW, vc⟩ := vc
      exact SW.vret dX10_mustName_80 rfl ⟨rfl, vc⟩
    · replace vc := vc.2 hbr
      refine SW.aload_n dX10_mustName_17 rfl ?_
      refine SW.ldcS (j := 25) rfl dX10_mustName_18 ?_
      refine SW.cvi1 kV_X10_105 (by omega) aw_cl10 kp_120 (by decide) (hW.le (by decide)) rfl (Nat.le_of_ble_eq_true rfl) dX10_mustName_20 (SMi.mono vc ?_)
      intro a4 n4 σ4 τ4 θ4 vc
      obtain ⟨hW, vc⟩ := vc
      refine SW.if_ne 71 dX10_mustName_23 (by decide) (fun hbr => ?_) (fun hbr => ?_)
      · replace vc := vc.1 hbr
        refine SW.aload_n dX10_mustName_71 rfl ?_
        refine SW.iconst (v := (1 : Int32)) dX10_mustName_72 (by decide) ?_
        refine SW.aload_n dX10_mustName_73 rfl ?_
        refine SW.getI (f := 4) aw_cl10 kp_120 (by decide) (hW.le (by decide)) (by decide) ww_1246 dX10_mustName_74 rfl ?_
        refine SW.cvv2 kV_X10_115 (by omega) aw_cl10 kp_120 (by decide) (hW.le (by decide)) rfl (Nat.le_of_ble_eq_true rfl) dX10_mustName_77 (SMv.mono vc ?_)
        intro n5 σ5 τ5 θ5 vc
        obtain ⟨hW, vc⟩ := vc
        exact SW.vret dX10_mustName_80 rfl ⟨rfl, vc⟩
      · replace vc := vc.2 hbr
        refine SW.aload_n dX10_mustName_26 rfl ?_
        refine SW.ldcS (j := 26) rfl dX10_mustName_27 ?_
        refine SW.cvi1 kV_X10_105 (by omega) aw_cl10 kp_120 (by decide) (hW.le (by decide)) rfl (Nat.le_of_ble_eq_true rfl) dX10_mustName_29 (SMi.mono vc ?_)
        intro a6 n6 σ6 τ6 θ6 vc
        obtain ⟨hW, vc⟩ := vc
        refine SW.if_ne 71 dX10_mustName_32 (by decide) (fun hbr => ?_) (fun hbr => ?_)
        · replace vc := vc.1 hbr
          refine SW.aload_n dX10_mustName_71 rfl ?_
          refine SW.iconst (v := (1 : Int32)) dX10_mustName_72 (by decide) ?_
          refine SW.aload_n dX10_mustName_73 rfl ?_
          refine SW.getI (f := 4) aw_cl10 kp_120 (by decide) (hW.le (by decide)) (by decide) ww_1246 dX10_mustName_74 rfl ?_
          refine SW.cvv2 kV_X10_115 (by omega) aw_cl10 kp_120 (by decide) (hW.le (by decide)) rfl (Nat.le_of_ble_eq_true rfl) dX10_mustName_77 (SMv.mono vc ?_)
          intro n7 σ7 τ7 θ7 vc
          obtain ⟨hW, vc⟩ := vc
          exact SW.vret dX10_mustName_80 rfl ⟨rfl, vc⟩
        · replace vc := vc.2 hbr
          refine SW.aload_n dX10_mustName_35 rfl ?_
          refine SW.ldcS (j := 27) rfl dX10_mustName_36 ?_
          refine SW.cvi1 kV_X10_105 (by omega) aw_cl10 kp_120 (by decide) (hW.le (by decide)) rfl (Nat.le_of_ble_eq_true rfl) dX10_mustName_38 (SMi.mono vc ?_)
          intro a8 n8 σ8 τ8 θ8 vc
          obtain ⟨hW, vc⟩ := vc
          refine SW.if_ne 71 dX10_mustName_41 (by decide) (fun hbr => ?_) (fun hbr => ?_)
          · replace vc := vc.1 hbr
            refine SW.aload_n dX10_mustName_71 rfl ?_
            refine SW.iconst (v := (1 : Int32)) dX10_mustName_72 (by decide) ?_
            refine SW.aload_n dX10_mustName_73 rfl ?_
            refine SW.getI (f := 4) aw_cl10 kp_120 (by decide) (hW.le (by decide)) (by decide) ww_1246 dX10_mustName_74 rfl ?_
            refine SW.cvv2 kV_X10_115 (by omega) aw_cl10 kp_120 (by decide) (hW.le (by decide)) rfl (Nat.le_of_ble_eq_true rfl) dX10_mustName_77 (SMv.mono vc ?_)
            intro n9 σ9 τ9 θ9 vc
            obtain ⟨hW, vc⟩ := vc
            exact SW.vret dX10_mustName_80 rfl ⟨rfl, vc⟩
          · replace vc := vc.2 hbr
            refine SW.aload_n dX10_mustName_44 rfl ?_
            refine SW.ldcS (j := 28) rfl dX10_mustName_45 ?_
            refine SW.cvi1 kV_X10_105 (by omega) aw_cl10 kp_120 (by decide) (hW.le (by decide)) rfl (Nat.le_of_ble_eq_true rfl) dX10_mustName_47 (SMi.mono vc ?_)
            intro a10 n10 σ10 τ10 θ10 vc
            obtain ⟨hW, vc⟩ := vc
            refine SW.if_ne 71 dX10_mustName_50 (by decide) (fun hbr => ?_) (fun hbr => ?_)
            · replace vc := vc.1 hbr
              refine SW.aload_n dX10_mustName_71 rfl ?_
              refine SW.iconst (v := (1 : Int32)) dX10_mustName_72 (by decide) ?_
              refine SW.aload_n dX10_mustName_73 rfl ?_
              refine SW.getI (f := 4) aw_cl10 kp_120 (by decide) (hW.le (by decide)) (by decide) ww_1246 dX10_mustName_74 rfl ?_
              refine SW.cvv2 kV_X10_115 (by omega) aw_cl10 kp_120 (by decide) (hW.le (by decide)) rfl (Nat.le_of_ble_eq_true rfl) dX10_mustName_77 (SMv.mono vc ?_)
              intro n11 σ11 τ11 θ11 vc
              obtain ⟨hW, vc⟩ := vc
              exact SW.vret dX10_mustName_80 rfl ⟨rfl, vc⟩
            · replace vc := vc.2 hbr
              refine SW.aload_n dX10_mustName_53 rfl ?_
              refine SW.ldcS (j := 29) rfl dX10_mustName_54 ?_
              refine SW.cvi1 kV_X10_105 (by omega) aw_cl10 kp_120 (by decide) (hW.le (by decide)) rfl (Nat.le_of_ble_eq_true rfl) dX10_mustName_56 (SMi.mono vc ?_)
              intro a12 n12 σ12 τ12 θ12 vc
              obtain ⟨hW, vc⟩ := vc
              refine SW.if_ne 71 dX10_mustName_59 (by decide) (fun hbr => ?_) (fun hbr => ?_)
              · replace vc := vc.1 hbr
                refine SW.aload_n dX10_mustName_71 rfl ?_
                refine SW.iconst (v := (1 : Int32)) dX10_mustName_72 (by decide) ?_
                refine SW.aload_n dX10_mustName_73 rfl ?_
                refine SW.getI (f := 4) aw_cl10 kp_120 (by decide) (hW.le (by decide)) (by decide) ww_1246 dX10_mustName_74 rfl ?_
                refine SW.cvv2 kV_X10_115 (by omega) aw_cl10 kp_120 (by decide) (hW.le (by decide)) rfl (Nat.le_of_ble_eq_true rfl) dX10_mustName_77 (SMv.mono vc ?_)
                intro n13 σ13 τ13 θ13 vc
                obtain ⟨hW, vc⟩ := vc
                exact SW.vret dX10_mustName_80 rfl ⟨rfl, vc⟩
              · replace vc := vc.2 hbr
                refine SW.aload_n dX10_mustName_62 rfl ?_
                refine SW.ldcS (j := 30) rfl dX10_mustName_63 ?_
                refine SW.cvi1 kV_X10_105 (by omega) aw_cl10 kp_120 (by decide) (hW.le (by decide)) rfl (Nat.le_of_ble_eq_true rfl) dX10_mustName_65 (SMi.mono vc ?_)
                intro a14 n14 σ14 τ14 θ14 vc
                obtain ⟨hW, vc⟩ := vc
                refine SW.if_eq 80 dX10_mustName_68 (by decide) (fun hbr => ?_) (fun hbr => ?_)
                · replace vc := vc.1 hbr
                  exact SW.vret dX10_mustName_80 rfl ⟨rfl, vc⟩
                · replace vc := vc.2 hbr
                  refine SW.aload_n dX10_mustName_71 rfl ?_
                  refine SW.iconst (v := (1 : Int32)) dX10_mustName_72 (by decide) ?_
                  refine SW.aload_n dX10_mustName_73 rfl ?_
                  refine SW.getI (f := 4) aw_cl10 kp_120 (by decide) (hW.le (by decide)) (by decide) ww_1246 dX10_mustName_74 rfl ?_
                  refine SW.cvv2 kV_X10_115 (by omega) aw_cl10 kp_120 (by decide) (hW.le (by decide)) rfl (Nat.le_of_ble_eq_true rfl) dX10_mustName_77 (SMv.mono vc ?_)
                  intro n15 σ15 τ15 θ15 vc
                  obtain ⟨hW, vc⟩ := vc
                  exact SW.vret dX10_mustName_80 rfl ⟨rfl, vc⟩
theorem ctX10_mustName {G : GG} {q : Nat → SG → TU → TH → Prop} {n : Nat} {σ : SG} {τ : TU} {θ : TH}  (h : SW G 6 mX10_mustName (aw_qv q) 0 0 0 [some (.ref 120)] [] (n, σ, τ, θ)) : SMv G 6 mX10_mustName 0 0 [.ref 120] n σ τ θ q := SM.of _ rfl rfl (Nat.le_of_ble_eq_true rfl) h
set_option maxHeartbeats 4000000 in
set_option maxRecDepth 20000 in
theorem sgX10_named_0 {G : GG} {k : Nat} {q : Int32 → Nat → SG → TU → TH → Prop} {n : Nat} {σ : SG} {τ : TU} {θ : TH}  (x1 : Int32) (x2 : Int32) (hk : 7 ≤ k)  (hW : aw_WT n θ) (vc : (((σ 120 13) = 0) → (SMv G 6 mX10_mustName 0 0 [.ref 120] n σ τ θ (fun n1 σ1 τ1 θ1 => aw_WT n1 θ1 ∧ ((((σ1 120 13) = 0) → (SMi G 1 mX10_find 0 0 [.ref 120] n1 σ1 τ1 θ1 (fun a2 n2 σ2 τ2 θ2 => aw_WT n2 θ2 ∧ (SMi G 1 mX10_in 0 0 [.int a2, .int x1, .int x2] n2 σ2 τ2 θ2 (fun a3 n3 σ3 τ3 θ3 => aw_WT n3 θ3 ∧ (((¬ a3 = 0) → ((((σ3 120 13) = 0) → (q (a2 - x1) n3 σ3 τ3 θ3)) ∧ ((¬ (σ3 120 13) = 0) → (q (0 : Int32) n3 σ3 τ3 θ3)))) ∧ ((a3 = 0) → (SMv G 1 mX10_wrong 0 0 [.ref 120, .int (2 : Int32), .int (σ3 120 4)] n3 σ3 τ3 θ3 (fun n4 σ4 τ4 θ4 => aw_WT n4 θ4 ∧ ((((σ4 120 13) = 0) → (q (a2 - x1) n4 σ4 τ4 θ4)) ∧ ((¬ (σ4 120 13) = 0) → (q (0 : Int32) n4 σ4 τ4 θ4)))))))))))) ∧ ((¬ (σ1 120 13) = 0) → (q (0 : Int32) n1 σ1 τ1 θ1)))))) ∧ ((¬ (σ 120 13) = 0) → (q (0 : Int32) n σ τ θ))) : SW G k mX10_named (aw_qi q) 0 0 0 [some (.ref 120), some (.int x1), some (.int x2), none] [] (n, σ, τ, θ) := by
  refine SW.aload_n dX10_named_0 rfl ?_
  refine SW.getI (f := 13) aw_cl10 kp_120 (by decide) (hW.le (by decide)) (by decide) ww_1255 dX10_named_1 rfl ?_
  refine SW.if_eq 9 dX10_named_4 (by decide) (fun hbr => ?_) (fun hbr => ?_)
  · replace vc := vc.1 hbr
    refine SW.aload_n dX10_named_9 rfl ?_
    refine SW.cvv0 kV_X10_133 (by omega) aw_cl10 kp_120 (by decide) (hW.le (by decide)) rfl (Nat.le_of_ble_eq_true rfl) dX10_named_10 (SMv.mono vc ?_)
    intro n1 σ1 τ1 θ1 vc
    obtain ⟨hW, vc⟩ := vc
    refine SW.aload_n dX10_named_13 rfl ?_
    refine SW.getI (f := 13) aw_cl10 kp_120 (by decide) (hW.le (by decide)) (by decide) ww_1255 dX10_named_14 rfl ?_
    refine SW.if_eq 22 dX10_named_17 (by decide) (fun hbr => ?_) (fun hbr => ?_)
    · replace vc := vc.1 hbr
      refine SW.aload_n dX10_named_22 rfl ?_
      refine SW.cvi0 kV_X10_136 (by omega) aw_cl10 kp_120 (by decide) (hW.le (by decide)) rfl (Nat.le_of_ble_eq_true rfl) dX10_named_23 (SMi.mono vc ?_)
      intro a2 n2 σ2 τ2 θ2 vc
      obtain ⟨hW, vc⟩ := vc
      refine SW.istore_n dX10_named_26 (by decide) rfl rfl ?_
      refine SW.iload_n dX10_named_27 rfl ?_
      refine SW.iload_n dX10_named_28 rfl ?_
      refine SW.iload_n dX10_named_29 rfl ?_
      refine SW.csi3 kS_X10_139 (by omega) (Nat.le_of_ble_eq_true rfl) dX10_named_30 (SMi.mono vc ?_)
      intro a3 n3 σ3 τ3 θ3 vc
      obtain ⟨hW, vc⟩ := vc
      refine SW.if_ne 45 dX10_named_33 (by decide) (fun hbr => ?_) (fun hbr => ?_)
      · replace vc := vc.1 hbr
        refine SW.aload_n dX10_named_45 rfl ?_
        refine SW.getI (f := 13) aw_cl10 kp_120 (by decide) (hW.le (by decide)) (by decide) ww_1255 dX10_named_46 rfl ?_
        refine SW.if_eq 56 dX10_named_49 (by decide) (fun hbr => ?_) (fun hbr => ?_)
        · replace vc := vc.1 hbr
          refine SW.iload_n dX10_named_56 rfl ?_
          refine SW.iload_n dX10_named_57 rfl ?_
          refine SW.isub dX10_named_58 ?_
          exact SW.iret dX10_named_59 rfl rfl ⟨_, rfl, vc⟩
        · replace vc := vc.2 hbr
          refine SW.iconst (v := (0 : Int32)) dX10_named_52 (by decide) ?_
          refine SW.goto 59 dX10_named_53 (by decide) ?_
          exact SW.iret dX10_named_59 rfl rfl ⟨_, rfl, vc⟩
      · replace vc := vc.2 hbr
        refine SW.aload_n dX10_named_36 rfl ?_
        refine SW.iconst (v := (2 : Int32)) dX10_named_37 (by decide) ?_
        refine SW.aload_n dX10_named_38 rfl ?_
        refine SW.getI (f := 4) aw_cl10 kp_120 (by decide) (hW.le (by decide)) (by decide) ww_1246 dX10_named_39 rfl ?_
        refine SW.cvv2 kV_X10_115 (by omega) aw_cl10 kp_120 (by decide) (hW.le (by decide)) rfl (Nat.le_of_ble_eq_true rfl) dX10_named_42 (SMv.mono vc ?_)
        intro n4 σ4 τ4 θ4 vc
        obtain ⟨hW, vc⟩ := vc
        refine SW.aload_n dX10_named_45 rfl ?_
        refine SW.getI (f := 13) aw_cl10 kp_120 (by decide) (hW.le (by decide)) (by decide) ww_1255 dX10_named_46 rfl ?_
        refine SW.if_eq 56 dX10_named_49 (by decide) (fun hbr => ?_) (fun hbr => ?_)
        · replace vc := vc.1 hbr
          refine SW.iload_n dX10_named_56 rfl ?_
          refine SW.iload_n dX10_named_57 rfl ?_
          refine SW.isub dX10_named_58 ?_
          exact SW.iret dX10_named_59 rfl rfl ⟨_, rfl, vc⟩
        · replace vc := vc.2 hbr
          refine SW.iconst (v := (0 : Int32)) dX10_named_52 (by decide) ?_
          refine SW.goto 59 dX10_named_53 (by decide) ?_
          exact SW.iret dX10_named_59 rfl rfl ⟨_, rfl, vc⟩
    · replace vc := vc.2 hbr
      refine SW.iconst (v := (0 : Int32)) dX10_named_20 (by decide) ?_
      exact SW.iret dX10_named_21 rfl rfl ⟨_, rfl, vc⟩
  · replace vc := vc.2 hbr
    refine SW.iconst (v := (0 : Int32)) dX10_named_7 (by decide) ?_
    exact SW.iret dX10_named_8 rfl rfl ⟨_, rfl, vc⟩
theorem ctX10_named {G : GG} {q : Int32 → Nat → SG → TU → TH → Prop} {n : Nat} {σ : SG} {τ : TU} {θ : TH} (x1 : Int32) (x2 : Int32) (h : SW G 7 mX10_named (aw_qi q) 0 0 0 [some (.ref 120), some (.int x1), some (.int x2), none] [] (n, σ, τ, θ)) : SMi G 7 mX10_named 0 0 [.ref 120, .int x1, .int x2] n σ τ θ q := SM.of _ rfl rfl (Nat.le_of_ble_eq_true rfl) h
set_option maxHeartbeats 4000000 in
set_option maxRecDepth 20000 in
theorem sgX10_newName_0 {G : GG} {k : Nat} {q : Nat → SG → TU → TH → Prop} {n : Nat} {σ : SG} {τ : TU} {θ : TH}  (x1 : Int32) (hk : 7 ≤ k)  (hW : aw_WT n θ) (vc : (((σ 120 13) = 0) → (SMv G 6 mX10_mustName 0 0 [.ref 120] n σ τ θ (fun n1 σ1 τ1 θ1 => aw_WT n1 θ1 ∧ (((¬ (σ1 120 13) = 0) → ((((σ1 120 13) = 0) → (SW G k mX10_newName (aw_qv q) 0 0 45 [some (.ref 120), some (.int x1), some (.int (0 : Int32))] [] (n1, σ1, τ1, θ1))) ∧ ((¬ (σ1 120 13) = 0) → (q n1 σ1 τ1 θ1)))) ∧ (((σ1 120 13) = 0) → (SMi G 1 mX10_find 0 0 [.ref 120] n1 σ1 τ1 θ1 (fun a2 n2 σ2 τ2 θ2 => aw_WT n2 θ2 ∧ (((a2 < 0) → ((((σ2 120 13) = 0) → (SW G k mX10_newName (aw_qv q) 0 0 45 [some (.ref 120), some (.int x1), some (.int (0 : Int32))] [] (n2, σ2, τ2, θ2))) ∧ ((¬ (σ2 120 13) = 0) → (q n2 σ2 τ2 θ2)))) ∧ ((¬ a2 < 0) → (SMv G 1 mX10_wrong 0 0 [.ref 120, .int (3 : Int32), .int (σ2 120 4)] n2 σ2 τ2 θ2 (fun n3 σ3 τ3 θ3 => aw_WT n3 θ3 ∧ ((((σ3 120 13) = 0) → (SW G k mX10_newName (aw_qv q) 0 0 45 [some (.ref 120), some (.int x1), some (.int (0 : Int32))] [] (n3, σ3, τ3, θ3))) ∧ ((¬ (σ3 120 13) = 0) → (q n3 σ3 τ3 θ3)))))))))))))) ∧ ((¬ (σ 120 13) = 0) → (q n σ τ θ))) : SW G k mX10_newName (aw_qv q) 0 0 0 [some (.ref 120), some (.int x1), none] [] (n, σ, τ, θ) := by
  refine SW.aload_n dX10_newName_0 rfl ?_
  refine SW.getI (f := 13) aw_cl10 kp_120 (by decide) (hW.le (by decide)) (by decide) ww_1255 dX10_newName_1 rfl ?_
  refine SW.if_eq 8 dX10_newName_4 (by decide) (fun hbr => ?_) (fun hbr => ?_)
  · replace vc := vc.1 hbr
    refine SW.aload_n dX10_newName_8 rfl ?_
    refine SW.cvv0 kV_X10_133 (by omega) aw_cl10 kp_120 (by decide) (hW.le (by decide)) rfl (Nat.le_of_ble_eq_true rfl) dX10_newName_9 (SMv.mono vc ?_)
    intro n1 σ1 τ1 θ1 vc
    obtain ⟨hW, vc⟩ := vc
    refine SW.aload_n dX10_newName_12 rfl ?_
    refine SW.getI (f := 13) aw_cl10 kp_120 (by decide) (hW.le (by decide)) (by decide) ww_1255 dX10_newName_13 rfl ?_
    refine SW.if_ne 35 dX10_newName_16 (by decide) (fun hbr => ?_) (fun hbr => ?_)
    · replace vc := vc.1 hbr
      refine SW.aload_n dX10_newName_35 rfl ?_
      refine SW.getI (f := 13) aw_cl10 kp_120 (by decide) (hW.le (by decide)) (by decide) ww_1255 dX10_newName_36 rfl ?_
      refine SW.if_eq 43 dX10_newName_39 (by decide) (fun hbr => ?_) (fun hbr => ?_)
      · replace vc := vc.1 hbr
        refine SW.iconst (v := (0 : Int32)) dX10_newName_43 (by decide) ?_
        refine SW.istore_n dX10_newName_44 (by decide) rfl rfl ?_
        exact vc
      · replace vc := vc.2 hbr
        exact SW.vret dX10_newName_42 rfl ⟨rfl, vc⟩
    · replace vc := vc.2 hbr
      refine SW.aload_n dX10_newName_19 rfl ?_
      refine SW.cvi0 kV_X10_136 (by omega) aw_cl10 kp_120 (by decide) (hW.le (by decide)) rfl (Nat.le_of_ble_eq_true rfl) dX10_newName_20 (SMi.mono vc ?_)
      intro a2 n2 σ2 τ2 θ2 vc
      obtain ⟨hW, vc⟩ := vc
      refine SW.if_lt 35 dX10_newName_23 (by decide) (fun hbr => ?_) (fun hbr => ?_)
      · replace vc := vc.1 hbr
        refine SW.aload_n dX10_newName_35 rfl ?_
        refine SW.getI (f := 13) aw_cl10 kp_120 (by decide) (hW.le (by decide)) (by decide) ww_1255 dX10_newName_36 rfl ?_
        refine SW.if_eq 43 dX10_newName_39 (by decide) (fun hbr => ?_) (fun hbr => ?_)
        · replace vc := vc.1 hbr
          refine SW.iconst (v := (0 : Int32)) dX10_newName_43 (by decide) ?_
          refine SW.istore_n dX10_newName_44 (by decide) rfl rfl ?_
          exact vc
        · replace vc := vc.2 hbr
          exact SW.vret dX10_newName_42 rfl ⟨rfl, vc⟩
      · replace vc := vc.2 hbr
        refine SW.aload_n dX10_newName_26 rfl ?_
        refine SW.iconst (v := (3 : Int32)) dX10_newName_27 (by decide) ?_
        refine SW.aload_n dX10_newName_28 rfl ?_
        refine SW.getI (f := 4) aw_cl10 kp_120 (by decide) (hW.le (by decide)) (by decide) ww_1246 dX10_newName_29 rfl ?_
        refine SW.cvv2 kV_X10_115 (by omega) aw_cl10 kp_120 (by decide) (hW.le (by decide)) rfl (Nat.le_of_ble_eq_true rfl) dX10_newName_32 (SMv.mono vc ?_)
        intro n3 σ3 τ3 θ3 vc
        obtain ⟨hW, vc⟩ := vc
        refine SW.aload_n dX10_newName_35 rfl ?_
        refine SW.getI (f := 13) aw_cl10 kp_120 (by decide) (hW.le (by decide)) (by decide) ww_1255 dX10_newName_36 rfl ?_
        refine SW.if_eq 43 dX10_newName_39 (by decide) (fun hbr => ?_) (fun hbr => ?_)
        · replace vc := vc.1 hbr
          refine SW.iconst (v := (0 : Int32)) dX10_newName_43 (by decide) ?_
          refine SW.istore_n dX10_newName_44 (by decide) rfl rfl ?_
          exact vc
        · replace vc := vc.2 hbr
          exact SW.vret dX10_newName_42 rfl ⟨rfl, vc⟩
  · replace vc := vc.2 hbr
    exact SW.vret dX10_newName_7 rfl ⟨rfl, vc⟩
set_option maxHeartbeats 4000000 in
set_option maxRecDepth 20000 in
theorem sgX10_newName_45 {G : GG} {k : Nat} {q : Nat → SG → TU → TH → Prop} {n : Nat} {σ : SG} {τ : TU} {θ : TH}  (x1 : Int32) (x2 : Int32) (hk : 7 ≤ k)  (hW : aw_WT n θ) (vc : (((σ 120 8) ≤ x2) → (vp_in ((86 : Int32) + x1) 167 ∧ (SMv G 2 mX10_next 0 0 [.ref 120] n (aw_u σ 124 ((86 : Int32) + x1).toNatClampNeg (σ 120 8)) τ θ (fun n1 σ1 τ1 θ1 => aw_WT n1 θ1 ∧ (q n1 σ1 τ1 θ1))))) ∧ ((¬ (σ 120 8) ≤ x2) → (vp_in x2 8 ∧ (vp_in (((95 : Int32) + ((8 : Int32) * x1)) + x2) 167 ∧ (SW G k mX10_newName (aw_qv q) 0 0 45 [some (.ref 120), some (.int x1), some (.int (x2 + (1 : Int32)))] [] (n, (aw_u σ 124 (((95 : Int32) + ((8 : Int32) * x1)) + x2).toNatClampNeg (σ 122 x2.toNatClampNeg)), τ, θ)))))) : SW G k mX10_newName (aw_qv q) 0 0 45 [some (.ref 120), some (.int x1), some (.int x2)] [] (n, σ, τ, θ) := by
  refine SW.iload_n dX10_newName_45 rfl ?_
  refine SW.aload_n dX10_newName_46 rfl ?_
  refine SW.getI (f := 8) aw_cl10 kp_120 (by decide) (hW.le (by decide)) (by decide) ww_1250 dX10_newName_47 rfl ?_
  refine SW.icmp_ge 79 dX10_newName_50 (by decide) (fun hbr => ?_) (fun hbr => ?_)
  · replace vc := vc.1 hbr
    refine SW.aload_n dX10_newName_79 rfl ?_
    refine SW.getS (f := 16) (r := 124) aw_cl10 kp_120 (by decide) (hW.le (by decide)) (by decide) ww_1258 dX10_newName_80 rfl hW.t120_16 ?_
    refine SW.bipush (v := (86 : Int32)) dX10_newName_83 (by decide) ?_
    refine SW.iload_n dX10_newName_85 rfl ?_
    refine SW.iadd dX10_newName_86 ?_
    refine SW.aload_n dX10_newName_87 rfl ?_
    refine SW.getI (f := 8) aw_cl10 kp_120 (by decide) (hW.le (by decide)) (by decide) ww_1250 dX10_newName_88 rfl ?_
    refine SW.iast kp_124 (by decide) (hW.le (by decide)) vc.1 dX10_newName_91 ?_
    replace vc := vc.2
    refine SW.aload_n dX10_newName_92 rfl ?_
    refine SW.cvv0 kV_X10_109 (by omega) aw_cl10 kp_120 (by decide) (hW.le (by decide)) rfl (Nat.le_of_ble_eq_true rfl) dX10_newName_93 (SMv.mono vc ?_)
    intro n1 σ1 τ1 θ1 vc
    obtain ⟨hW, vc⟩ := vc
    exact SW.vret dX10_newName_96 rfl ⟨rfl, vc⟩
  · replace vc := vc.2 hbr
    refine SW.aload_n dX10_newName_53 rfl ?_
    refine SW.getS (f := 16) (r := 124) aw_cl10 kp_120 (by decide) (hW.le (by decide)) (by decide) ww_1258 dX10_newName_54 rfl hW.t120_16 ?_
    refine SW.bipush (v := (95 : Int32)) dX10_newName_57 (by decide) ?_
    refine SW.bipush (v := (8 : Int32)) dX10_newName_59 (by decide) ?_
    refine SW.iload_n dX10_newName_61 rfl ?_
    refine SW.imul dX10_newName_62 ?_
    refine SW.iadd dX10_newName_63 ?_
    refine SW.iload_n dX10_newName_64 rfl ?_
    refine SW.iadd dX10_newName_65 ?_
    refine SW.aload_n dX10_newName_66 rfl ?_
    refine SW.getS (f := 12) (r := 122) aw_cl10 kp_120 (by decide) (hW.le (by decide)) (by decide) ww_1254 dX10_newName_67 rfl hW.t120_12 ?_
    refine SW.iload_n dX10_newName_70 rfl ?_
    refine SW.iald kp_122 (by decide) (hW.le (by decide)) vc.1 dX10_newName_71 ?_
    replace vc := vc.2
    refine SW.iast kp_124 (by decide) (hW.le (by decide)) vc.1 dX10_newName_72 ?_
    replace vc := vc.2
    refine SW.iinc (v := (x2 + (1 : Int32))) dX10_newName_73 rfl rfl (by decide) rfl rfl ?_
    refine SW.goto 45 dX10_newName_76 (by decide) ?_
    exact vc
theorem ctX10_newName {G : GG} {q : Nat → SG → TU → TH → Prop} {n : Nat} {σ : SG} {τ : TU} {θ : TH} (x1 : Int32) (h : SW G 7 mX10_newName (aw_qv q) 0 0 0 [some (.ref 120), some (.int x1), none] [] (n, σ, τ, θ)) : SMv G 7 mX10_newName 0 0 [.ref 120, .int x1] n σ τ θ q := SM.of _ rfl rfl (Nat.le_of_ble_eq_true rfl) h
set_option maxHeartbeats 4000000 in
set_option maxRecDepth 20000 in
theorem sgX10_next_0 {G : GG} {k : Nat} {q : Nat → SG → TU → TH → Prop} {n : Nat} {σ : SG} {τ : TU} {θ : TH}   (hk : 2 ≤ k)  (hW : aw_WT n θ) (vc : SW G k mX10_next (aw_qv q) 0 0 5 [some (.ref 120), some (.int (σ 120 5)), none, none] [] (n, σ, τ, θ)) : SW G k mX10_next (aw_qv q) 0 0 0 [some (.ref 120), none, none, none] [] (n, σ, τ, θ) := by
  refine SW.aload_n dX10_next_0 rfl ?_
  refine SW.getI (f := 5) aw_cl10 kp_120 (by decide) (hW.le (by decide)) (by decide) ww_1247 dX10_next_1 rfl ?_
  refine SW.istore_n dX10_next_4 (by decide) rfl rfl ?_
  exact vc
set_option maxHeartbeats 4000000 in
set_option maxRecDepth 20000 in
theorem sgX10_next_5 {G : GG} {k : Nat} {q : Nat → SG → TU → TH → Prop} {n : Nat} {σ : SG} {τ : TU} {θ : TH}  (x1 : Int32) (hk : 2 ≤ k)  (hW : aw_WT n θ) (vc : SMi G 1 mX10_see 0 0 [.ref 120, .int x1] n σ τ θ (fun a1 n1 σ1 τ1 θ1 => aw_WT n1 θ1 ∧ (((¬ a1 = (32 : Int32)) → (SMi G 1 mX10_see 0 0 [.ref 120, .int x1] n1 (aw_u σ1 120 4 x1) τ1 θ1 (fun a2 n2 σ2 τ2 θ2 => aw_WT n2 θ2 ∧ (((¬ a2 = (-1 : Int32)) → (SMi G 1 mX10_isSmall 0 0 [.int a2] n2 (aw_u (aw_u σ2 120 8 (0 : Int32)) 120 7 (0 : Int32)) τ2 θ2 (fun a3 n3 σ3 τ3 θ3 => aw_WT n3 θ3 ∧ (((a3 = 0) → (SMi G 1 mX10_isDigit 0 0 [.int a2] n3 σ3 τ3 θ3 (fun a4 n4 σ4 τ4 θ4 => aw_WT n4 θ4 ∧ (((a4 = 0) → (((¬ a2 = (59 : Int32)) → (q n4 (aw_u (aw_u σ4 120 5 (x1 + (1 : Int32))) 120 6 (1 : Int32)) τ4 θ4)) ∧ ((a2 = (59 : Int32)) → (q n4 (aw_u (aw_u σ4 120 5 (x1 + (1 : Int32))) 120 6 a2) τ4 θ4)))) ∧ ((¬ a4 = 0) → (SW G k mX10_next (aw_qv q) 0 0 152 [some (.ref 120), some (.int x1), none, some (.int (0 : Int32))] [] (n4, σ4, τ4, θ4))))))) ∧ ((¬ a3 = 0) → (SW G k mX10_next (aw_qv q) 0 0 67 [some (.ref 120), some (.int x1), none, none] [] (n3, σ3, τ3, θ3))))))) ∧ ((a2 = (-1 : Int32)) → (q n2 (aw_u (aw_u (aw_u (aw_u σ2 120 8 (0 : Int32)) 120 7 (0 : Int32)) 120 6 (0 : Int32)) 120 5 x1) τ2 θ2)))))) ∧ ((a1 = (32 : Int32)) → (SW G k mX10_next (aw_qv q) 0 0 5 [some (.ref 120), some (.int (x1 + (1 : Int32))), none, none] [] (n1, σ1, τ1, θ1)))))) : SW G k mX10_next (aw_qv q) 0 0 5 [some (.ref 120), some (.int x1), none, none] [] (n, σ, τ, θ) := by
  refine SW.aload_n dX10_next_5 rfl ?_
  refine SW.iload_n dX10_next_6 rfl ?_
  refine SW.cvi1 kV_X10_65 (by omega) aw_cl10 kp_120 (by decide) (hW.le (by decide)) rfl (Nat.le_of_ble_eq_true rfl) dX10_next_7 (SMi.mono vc ?_)
  intro a1 n1 σ1 τ1 θ1 vc
  obtain ⟨hW, vc⟩ := vc
  refine SW.bipush (v := (32 : Int32)) dX10_next_10 (by decide) ?_
  refine SW.icmp_ne 21 dX10_next_12 (by decide) (fun hbr => ?_) (fun hbr => ?_)
  · replace vc := vc.1 hbr
    refine SW.aload_n dX10_next_21 rfl ?_
    refine SW.iload_n dX10_next_22 rfl ?_
    refine SW.putI (f := 4) aw_cl10 kp_120 (by decide) (hW.le (by decide)) (by decide) ww_1246 (Or.inl rfl) dX10_next_23 rfl rfl rfl ?_
    refine SW.aload_n dX10_next_26 rfl ?_
    refine SW.iload_n dX10_next_27 rfl ?_
    refine SW.cvi1 kV_X10_65 (by omega) aw_cl10 kp_120 (by decide) (hW.le (by decide)) rfl (Nat.le_of_ble_eq_true rfl) dX10_next_28 (SMi.mono vc ?_)
    intro a2 n2 σ2 τ2 θ2 vc
    obtain ⟨hW, vc⟩ := vc
    refine SW.istore_n dX10_next_31 (by decide) rfl rfl ?_
    refine SW.aload_n dX10_next_32 rfl ?_
    refine SW.iconst (v := (0 : Int32)) dX10_next_33 (by decide) ?_
    refine SW.putI (f := 8) aw_cl10 kp_120 (by decide) (hW.le (by decide)) (by decide) ww_1250 (Or.inl rfl) dX10_next_34 rfl rfl rfl ?_
    refine SW.aload_n dX10_next_37 rfl ?_
    refine SW.iconst (v := (0 : Int32)) dX10_next_38 (by decide) ?_
    refine SW.putI (f := 7) aw_cl10 kp_120 (by decide) (hW.le (by decide)) (by decide) ww_1249 (Or.inl rfl) dX10_next_39 rfl rfl rfl ?_
    refine SW.iload_n dX10_next_42 rfl ?_
    refine SW.iconst (v := (-1 : Int32)) dX10_next_43 (by decide) ?_
    refine SW.icmp_ne 60 dX10_next_44 (by decide) (fun hbr => ?_) (fun hbr => ?_)
    · replace vc := vc.1 hbr
      refine SW.iload_n dX10_next_60 rfl ?_
      refine SW.csi1 kS_X10_81 (by omega) (Nat.le_of_ble_eq_true rfl) dX10_next_61 (SMi.mono vc ?_)
      intro a3 n3 σ3 τ3 θ3 vc
      obtain ⟨hW, vc⟩ := vc
      refine SW.if_eq 143 dX10_next_64 (by decide) (fun hbr => ?_) (fun hbr => ?_)
      · replace vc := vc.1 hbr
        refine SW.iload_n dX10_next_143 rfl ?_
        refine SW.csi1 kS_X10_85 (by omega) (Nat.le_of_ble_eq_true rfl) dX10_next_144 (SMi.mono vc ?_)
        intro a4 n4 σ4 τ4 θ4 vc
        obtain ⟨hW, vc⟩ := vc
        refine SW.if_eq 219 dX10_next_147 (by decide) (fun hbr => ?_) (fun hbr => ?_)
        · replace vc := vc.1 hbr
          refine SW.aload_n dX10_next_219 rfl ?_
          refine SW.iload_n dX10_next_220 rfl ?_
          refine SW.iconst (v := (1 : Int32)) dX10_next_221 (by decide) ?_
          refine SW.iadd dX10_next_222 ?_
          refine SW.putI (f := 5) aw_cl10 kp_120 (by decide) (hW.le (by decide)) (by decide) ww_1247 (Or.inl rfl) dX10_next_223 rfl rfl rfl ?_
          refine SW.aload_n dX10_next_226 rfl ?_
          refine SW.iload_n dX10_next_227 rfl ?_
          refine SW.bipush (v := (59 : Int32)) dX10_next_228 (by decide) ?_
          refine SW.icmp_ne 237 dX10_next_230 (by decide) (fun hbr => ?_) (fun hbr => ?_)
          · replace vc := vc.1 hbr
            refine SW.iconst (v := (1 : Int32)) dX10_next_237 (by decide) ?_
            refine SW.putI (f := 6) aw_cl10 kp_120 (by decide) (hW.le (by decide)) (by decide) ww_1248 (Or.inl rfl) dX10_next_238 rfl rfl rfl ?_
            exact SW.vret dX10_next_241 rfl ⟨rfl, vc⟩
          · replace vc := vc.2 hbr
            refine SW.iload_n dX10_next_233 rfl ?_
            refine SW.goto 238 dX10_next_234 (by decide) ?_
            refine SW.putI (f := 6) aw_cl10 kp_120 (by decide) (hW.le (by decide)) (by decide) ww_1248 (Or.inl rfl) dX10_next_238 rfl rfl rfl ?_
            exact SW.vret dX10_next_241 rfl ⟨rfl, vc⟩
        · replace vc := vc.2 hbr
          refine SW.iconst (v := (0 : Int32)) dX10_next_150 (by decide) ?_
          refine SW.istore_n dX10_next_151 (by decide) rfl rfl ?_
          refine SW.msk [true, true, false, true] rfl ?_
          exact vc
      · replace vc := vc.2 hbr
        refine SW.msk [true, true, false, true] rfl ?_
        exact vc
    · replace vc := vc.2 hbr
      refine SW.aload_n dX10_next_47 rfl ?_
      refine SW.iconst (v := (0 : Int32)) dX10_next_48 (by decide) ?_
      refine SW.putI (f := 6) aw_cl10 kp_120 (by decide) (hW.le (by decide)) (by decide) ww_1248 (Or.inl rfl) dX10_next_49 rfl rfl rfl ?_
      refine SW.aload_n dX10_next_52 rfl ?_
      refine SW.iload_n dX10_next_53 rfl ?_
      refine SW.putI (f := 5) aw_cl10 kp_120 (by decide) (hW.le (by decide)) (by decide) ww_1247 (Or.inl rfl) dX10_next_54 rfl rfl rfl ?_
      refine SW.goto 241 dX10_next_57 (by decide) ?_
      exact SW.vret dX10_next_241 rfl ⟨rfl, vc⟩
  · replace vc := vc.2 hbr
    refine SW.iinc (v := (x1 + (1 : Int32))) dX10_next_15 rfl rfl (by decide) rfl rfl ?_
    refine SW.goto 5 dX10_next_18 (by decide) ?_
    exact vc
set_option maxHeartbeats 4000000 in
set_option maxRecDepth 20000 in
theorem sgX10_next_67 {G : GG} {k : Nat} {q : Nat → SG → TU → TH → Prop} {n : Nat} {σ : SG} {τ : TU} {θ : TH}  (x1 : Int32) (hk : 2 ≤ k)  (hW : aw_WT n θ) (vc : SMi G 1 mX10_see 0 0 [.ref 120, .int x1] n σ τ θ (fun a1 n1 σ1 τ1 θ1 => aw_WT n1 θ1 ∧ (SMi G 1 mX10_isSmall 0 0 [.int a1] n1 σ1 τ1 θ1 (fun a2 n2 σ2 τ2 θ2 => aw_WT n2 θ2 ∧ (((a2 = 0) → (((((aw_u σ2 120 5 x1) 120 8) ≤ (8 : Int32)) → (q n2 (aw_u (aw_u σ2 120 5 x1) 120 6 (2 : Int32)) τ2 θ2)) ∧ ((¬ ((aw_u σ2 120 5 x1) 120 8) ≤ (8 : Int32)) → (q n2 (aw_u (aw_u σ2 120 5 x1) 120 6 (1 : Int32)) τ2 θ2)))) ∧ ((¬ a2 = 0) → ((((8 : Int32) ≤ (σ2 120 8)) → (SW G k mX10_next (aw_qv q) 0 0 67 [some (.ref 120), some (.int (x1 + (1 : Int32))), none, none] [] (n2, (aw_u σ2 120 8 ((σ2 120 8) + (1 : Int32))), τ2, θ2))) ∧ ((¬ (8 : Int32) ≤ (σ2 120 8)) → (SMi G 1 mX10_see 0 0 [.ref 120, .int x1] n2 σ2 τ2 θ2 (fun a3 n3 σ3 τ3 θ3 => aw_WT n3 θ3 ∧ (vp_in (σ2 120 8) 8 ∧ (SW G k mX10_next (aw_qv q) 0 0 67 [some (.ref 120), some (.int (x1 + (1 : Int32))), none, none] [] (n3, (aw_u (aw_u σ3 122 (σ2 120 8).toNatClampNeg a3) 120 8 (((aw_u σ3 122 (σ2 120 8).toNatClampNeg a3) 120 8) + (1 : Int32))), τ3, θ3))))))))))))) : SW G k mX10_next (aw_qv q) 0 0 67 [some (.ref 120), some (.int x1), none, none] [] (n, σ, τ, θ) := by
  refine SW.aload_n dX10_next_67 rfl ?_
  refine SW.iload_n dX10_next_68 rfl ?_
  refine SW.cvi1 kV_X10_65 (by omega) aw_cl10 kp_120 (by decide) (hW.le (by decide)) rfl (Nat.le_of_ble_eq_true rfl) dX10_next_69 (SMi.mono vc ?_)
  intro a1 n1 σ1 τ1 θ1 vc
  obtain ⟨hW, vc⟩ := vc
  refine SW.csi1 kS_X10_81 (by omega) (Nat.le_of_ble_eq_true rfl) dX10_next_72 (SMi.mono vc ?_)
  intro a2 n2 σ2 τ2 θ2 vc
  obtain ⟨hW, vc⟩ := vc
  refine SW.if_eq 117 dX10_next_75 (by decide) (fun hbr => ?_) (fun hbr => ?_)
  · replace vc := vc.1 hbr
    refine SW.aload_n dX10_next_117 rfl ?_
    refine SW.iload_n dX10_next_118 rfl ?_
    refine SW.putI (f := 5) aw_cl10 kp_120 (by decide) (hW.le (by decide)) (by decide) ww_1247 (Or.inl rfl) dX10_next_119 rfl rfl rfl ?_
    refine SW.aload_n dX10_next_122 rfl ?_
    refine SW.aload_n dX10_next_123 rfl ?_
    refine SW.getI (f := 8) aw_cl10 kp_120 (by decide) (hW.le (by decide)) (by decide) ww_1250 dX10_next_124 rfl ?_
    refine SW.bipush (v := (8 : Int32)) dX10_next_127 (by decide) ?_
    refine SW.icmp_le 136 dX10_next_129 (by decide) (fun hbr => ?_) (fun hbr => ?_)
    · replace vc := vc.1 hbr
      refine SW.iconst (v := (2 : Int32)) dX10_next_136 (by decide) ?_
      refine SW.putI (f := 6) aw_cl10 kp_120 (by decide) (hW.le (by decide)) (by decide) ww_1248 (Or.inl rfl) dX10_next_137 rfl rfl rfl ?_
      refine SW.goto 241 dX10_next_140 (by decide) ?_
      exact SW.vret dX10_next_241 rfl ⟨rfl, vc⟩
    · replace vc := vc.2 hbr
      refine SW.iconst (v := (1 : Int32)) dX10_next_132 (by decide) ?_
      refine SW.goto 137 dX10_next_133 (by decide) ?_
      refine SW.putI (f := 6) aw_cl10 kp_120 (by decide) (hW.le (by decide)) (by decide) ww_1248 (Or.inl rfl) dX10_next_137 rfl rfl rfl ?_
      refine SW.goto 241 dX10_next_140 (by decide) ?_
      exact SW.vret dX10_next_241 rfl ⟨rfl, vc⟩
  · replace vc := vc.2 hbr
    refine SW.aload_n dX10_next_78 rfl ?_
    refine SW.getI (f := 8) aw_cl10 kp_120 (by decide) (hW.le (by decide)) (by decide) ww_1250 dX10_next_79 rfl ?_
    refine SW.bipush (v := (8 : Int32)) dX10_next_82 (by decide) ?_
    refine SW.icmp_ge 101 dX10_next_84 (by decide) (fun hbr => ?_) (fun hbr => ?_)
    · replace vc := vc.1 hbr
      refine SW.aload_n dX10_next_101 rfl ?_
      refine SW.dup dX10_next_102 rfl ?_
      refine SW.getI (f := 8) aw_cl10 kp_120 (by decide) (hW.le (by decide)) (by decide) ww_1250 dX10_next_103 rfl ?_
      refine SW.iconst (v := (1 : Int32)) dX10_next_106 (by decide) ?_
      refine SW.iadd dX10_next_107 ?_
      refine SW.putI (f := 8) aw_cl10 kp_120 (by decide) (hW.le (by decide)) (by decide) ww_1250 (Or.inl rfl) dX10_next_108 rfl rfl rfl ?_
      refine SW.iinc (v := (x1 + (1 : Int32))) dX10_next_111 rfl rfl (by decide) rfl rfl ?_
      refine SW.goto 67 dX10_next_114 (by decide) ?_
      exact vc
    · replace vc := vc.2 hbr
      refine SW.aload_n dX10_next_87 rfl ?_
      refine SW.getS (f := 12) (r := 122) aw_cl10 kp_120 (by decide) (hW.le (by decide)) (by decide) ww_1254 dX10_next_88 rfl hW.t120_12 ?_
      refine SW.aload_n dX10_next_91 rfl ?_
      refine SW.getI (f := 8) aw_cl10 kp_120 (by decide) (hW.le (by decide)) (by decide) ww_1250 dX10_next_92 rfl ?_
      refine SW.aload_n dX10_next_95 rfl ?_
      refine SW.iload_n dX10_next_96 rfl ?_
      refine SW.cvi1 kV_X10_65 (by omega) aw_cl10 kp_120 (by decide) (hW.le (by decide)) rfl (Nat.le_of_ble_eq_true rfl) dX10_next_97 (SMi.mono vc ?_)
      intro a3 n3 σ3 τ3 θ3 vc
      obtain ⟨hW, vc⟩ := vc
      refine SW.iast kp_122 (by decide) (hW.le (by decide)) vc.1 dX10_next_100 ?_
      replace vc := vc.2
      refine SW.aload_n dX10_next_101 rfl ?_
      refine SW.dup dX10_next_102 rfl ?_
      refine SW.getI (f := 8) aw_cl10 kp_120 (by decide) (hW.le (by decide)) (by decide) ww_1250 dX10_next_103 rfl ?_
      refine SW.iconst (v := (1 : Int32)) dX10_next_106 (by decide) ?_
      refine SW.iadd dX10_next_107 ?_
      refine SW.putI (f := 8) aw_cl10 kp_120 (by decide) (hW.le (by decide)) (by decide) ww_1250 (Or.inl rfl) dX10_next_108 rfl rfl rfl ?_
      refine SW.iinc (v := (x1 + (1 : Int32))) dX10_next_111 rfl rfl (by decide) rfl rfl ?_
      refine SW.goto 67 dX10_next_114 (by decide) ?_
      exact vc
set_option maxHeartbeats 4000000 in
set_option maxRecDepth 20000 in
theorem sgX10_next_152 {G : GG} {k : Nat} {q : Nat → SG → TU → TH → Prop} {n : Nat} {σ : SG} {τ : TU} {θ : TH}  (x1 : Int32) (x3 : Int32) (hk : 2 ≤ k)  (hW : aw_WT n θ) (vc : SMi G 1 mX10_see 0 0 [.ref 120, .int x1] n σ τ θ (fun a1 n1 σ1 τ1 θ1 => aw_WT n1 θ1 ∧ (SMi G 1 mX10_isDigit 0 0 [.int a1] n1 σ1 τ1 θ1 (fun a2 n2 σ2 τ2 θ2 => aw_WT n2 θ2 ∧ (((a2 = 0) → (((x3 ≤ (3 : Int32)) → (q n2 (aw_u (aw_u σ2 120 5 x1) 120 6 (3 : Int32)) τ2 θ2)) ∧ ((¬ x3 ≤ (3 : Int32)) → (q n2 (aw_u (aw_u σ2 120 5 x1) 120 6 (1 : Int32)) τ2 θ2)))) ∧ ((¬ a2 = 0) → ((((3 : Int32) ≤ x3) → (SW G k mX10_next (aw_qv q) 0 0 152 [some (.ref 120), some (.int (x1 + (1 : Int32))), none, some (.int (x3 + (1 : Int32)))] [] (n2, σ2, τ2, θ2))) ∧ ((¬ (3 : Int32) ≤ x3) → (SMi G 1 mX10_see 0 0 [.ref 120, .int x1] n2 σ2 τ2 θ2 (fun a3 n3 σ3 τ3 θ3 => aw_WT n3 θ3 ∧ (SW G k mX10_next (aw_qv q) 0 0 152 [some (.ref 120), some (.int (x1 + (1 : Int32))), none, some (.int (x3 + (1 : Int32)))] [] (n3, (aw_u σ3 120 7 ((((10 : Int32) * (σ2 120 7)) + a3) - (48 : Int32))), τ3, θ3)))))))))))) : SW G k mX10_next (aw_qv q) 0 0 152 [some (.ref 120), some (.int x1), none, some (.int x3)] [] (n, σ, τ, θ) := by
  refine SW.aload_n dX10_next_152 rfl ?_
  refine SW.iload_n dX10_next_153 rfl ?_
  refine SW.cvi1 kV_X10_65 (by omega) aw_cl10 kp_120 (by decide) (hW.le (by decide)) rfl (Nat.le_of_ble_eq_true rfl) dX10_next_154 (SMi.mono vc ?_)
  intro a1 n1 σ1 τ1 θ1 vc
  obtain ⟨hW, vc⟩ := vc
  refine SW.csi1 kS_X10_85 (by omega) (Nat.le_of_ble_eq_true rfl) dX10_next_157 (SMi.mono vc ?_)
  intro a2 n2 σ2 τ2 θ2 vc
  obtain ⟨hW, vc⟩ := vc
  refine SW.if_eq 197 dX10_next_160 (by decide) (fun hbr => ?_) (fun hbr => ?_)
  · replace vc := vc.1 hbr
    refine SW.aload_n dX10_next_197 rfl ?_
    refine SW.iload_n dX10_next_198 rfl ?_
    refine SW.putI (f := 5) aw_cl10 kp_120 (by decide) (hW.le (by decide)) (by decide) ww_1247 (Or.inl rfl) dX10_next_199 rfl rfl rfl ?_
    refine SW.aload_n dX10_next_202 rfl ?_
    refine SW.iload_n dX10_next_203 rfl ?_
    refine SW.iconst (v := (3 : Int32)) dX10_next_204 (by decide) ?_
    refine SW.icmp_le 212 dX10_next_205 (by decide) (fun hbr => ?_) (fun hbr => ?_)
    · replace vc := vc.1 hbr
      refine SW.iconst (v := (3 : Int32)) dX10_next_212 (by decide) ?_
      refine SW.putI (f := 6) aw_cl10 kp_120 (by decide) (hW.le (by decide)) (by decide) ww_1248 (Or.inl rfl) dX10_next_213 rfl rfl rfl ?_
      refine SW.goto 241 dX10_next_216 (by decide) ?_
      exact SW.vret dX10_next_241 rfl ⟨rfl, vc⟩
    · replace vc := vc.2 hbr
      refine SW.iconst (v := (1 : Int32)) dX10_next_208 (by decide) ?_
      refine SW.goto 213 dX10_next_209 (by decide) ?_
      refine SW.putI (f := 6) aw_cl10 kp_120 (by decide) (hW.le (by decide)) (by decide) ww_1248 (Or.inl rfl) dX10_next_213 rfl rfl rfl ?_
      refine SW.goto 241 dX10_next_216 (by decide) ?_
      exact SW.vret dX10_next_241 rfl ⟨rfl, vc⟩
  · replace vc := vc.2 hbr
    refine SW.iload_n dX10_next_163 rfl ?_
    refine SW.iconst (v := (3 : Int32)) dX10_next_164 (by decide) ?_
    refine SW.icmp_ge 188 dX10_next_165 (by decide) (fun hbr => ?_) (fun hbr => ?_)
    · replace vc := vc.1 hbr
      refine SW.iinc (v := (x3 + (1 : Int32))) dX10_next_188 rfl rfl (by decide) rfl rfl ?_
      refine SW.iinc (v := (x1 + (1 : Int32))) dX10_next_191 rfl rfl (by decide) rfl rfl ?_
      refine SW.goto 152 dX10_next_194 (by decide) ?_
      exact vc
    · replace vc := vc.2 hbr
      refine SW.aload_n dX10_next_168 rfl ?_
      refine SW.bipush (v := (10 : Int32)) dX10_next_169 (by decide) ?_
      refine SW.aload_n dX10_next_171 rfl ?_
      refine SW.getI (f := 7) aw_cl10 kp_120 (by decide) (hW.le (by decide)) (by decide) ww_1249 dX10_next_172 rfl ?_
      refine SW.imul dX10_next_175 ?_
      refine SW.aload_n dX10_next_176 rfl ?_
      refine SW.iload_n dX10_next_177 rfl ?_
      refine SW.cvi1 kV_X10_65 (by omega) aw_cl10 kp_120 (by decide) (hW.le (by decide)) rfl (Nat.le_of_ble_eq_true rfl) dX10_next_178 (SMi.mono vc ?_)
      intro a3 n3 σ3 τ3 θ3 vc
      obtain ⟨hW, vc⟩ := vc
      refine SW.iadd dX10_next_181 ?_
      refine SW.bipush (v := (48 : Int32)) dX10_next_182 (by decide) ?_
      refine SW.isub dX10_next_184 ?_
      refine SW.putI (f := 7) aw_cl10 kp_120 (by decide) (hW.le (by decide)) (by decide) ww_1249 (Or.inl rfl) dX10_next_185 rfl rfl rfl ?_
      refine SW.iinc (v := (x3 + (1 : Int32))) dX10_next_188 rfl rfl (by decide) rfl rfl ?_
      refine SW.iinc (v := (x1 + (1 : Int32))) dX10_next_191 rfl rfl (by decide) rfl rfl ?_
      refine SW.goto 152 dX10_next_194 (by decide) ?_
      exact vc
theorem ctX10_next {G : GG} {q : Nat → SG → TU → TH → Prop} {n : Nat} {σ : SG} {τ : TU} {θ : TH}  (h : SW G 2 mX10_next (aw_qv q) 0 0 0 [some (.ref 120), none, none, none] [] (n, σ, τ, θ)) : SMv G 2 mX10_next 0 0 [.ref 120] n σ τ θ q := SM.of _ rfl rfl (Nat.le_of_ble_eq_true rfl) h
set_option maxHeartbeats 4000000 in
set_option maxRecDepth 20000 in
theorem sgX10_nextTine_0 {G : GG} {k : Nat} {q : Int32 → Nat → SG → TU → TH → Prop} {n : Nat} {σ : SG} {τ : TU} {θ : TH} (r1 rn1 : Nat) (x2 : Int32) (hk : 2 ≤ k) (hr1 : isA r1 rn1) (hW : aw_WT n θ) (vc : vp_in x2 rn1 ∧ (vp_in x2 rn1 ∧ (SMi G 1 mX10_upwards 0 0 [.int (σ r1 x2.toNatClampNeg), .int (σ 123 0)] n σ τ θ (fun a1 n1 σ1 τ1 θ1 => aw_WT n1 θ1 ∧ (q ((σ r1 x2.toNatClampNeg) - ((a1 - (1 : Int32)) * (σ1 123 0))) n1 σ1 τ1 θ1))))) : SW G k mX10_nextTine (aw_qi q) 0 0 0 [some (.ref 120), some (.ref r1), some (.int x2)] [] (n, σ, τ, θ) := by
  refine SW.aload_n dX10_nextTine_0 rfl ?_
  refine SW.iload_n dX10_nextTine_1 rfl ?_
  refine SW.iald hr1.1 hr1.2.1 (hW.le hr1.2.2) vc.1 dX10_nextTine_2 ?_
  replace vc := vc.2
  refine SW.aload_n dX10_nextTine_3 rfl ?_
  refine SW.iload_n dX10_nextTine_4 rfl ?_
  refine SW.iald hr1.1 hr1.2.1 (hW.le hr1.2.2) vc.1 dX10_nextTine_5 ?_
  replace vc := vc.2
  refine SW.aload_n dX10_nextTine_6 rfl ?_
  refine SW.getS (f := 15) (r := 123) aw_cl10 kp_120 (by decide) (hW.le (by decide)) (by decide) ww_1257 dX10_nextTine_7 rfl hW.t120_15 ?_
  refine SW.iconst (v := (0 : Int32)) dX10_nextTine_10 (by decide) ?_
  refine SW.iald kp_123 (by decide) (hW.le (by decide)) (vp_in_nI (n := 0) (by decide) (by decide)) dX10_nextTine_11 ?_
  refine SW.csi2 kS_X10_244 (by omega) (Nat.le_of_ble_eq_true rfl) dX10_nextTine_12 (SMi.mono vc ?_)
  intro a1 n1 σ1 τ1 θ1 vc
  obtain ⟨hW, vc⟩ := vc
  refine SW.iconst (v := (1 : Int32)) dX10_nextTine_15 (by decide) ?_
  refine SW.isub dX10_nextTine_16 ?_
  refine SW.aload_n dX10_nextTine_17 rfl ?_
  refine SW.getS (f := 15) (r := 123) aw_cl10 kp_120 (by decide) (hW.le (by decide)) (by decide) ww_1257 dX10_nextTine_18 rfl hW.t120_15 ?_
  refine SW.iconst (v := (0 : Int32)) dX10_nextTine_21 (by decide) ?_
  refine SW.iald kp_123 (by decide) (hW.le (by decide)) (vp_in_nI (n := 0) (by decide) (by decide)) dX10_nextTine_22 ?_
  refine SW.imul dX10_nextTine_23 ?_
  refine SW.isub dX10_nextTine_24 ?_
  exact SW.iret dX10_nextTine_25 rfl rfl ⟨_, rfl, vc⟩
theorem ctX10_nextTine {G : GG} {q : Int32 → Nat → SG → TU → TH → Prop} {n : Nat} {σ : SG} {τ : TU} {θ : TH} (r1 rn1 : Nat) (x2 : Int32) (h : SW G 2 mX10_nextTine (aw_qi q) 0 0 0 [some (.ref 120), some (.ref r1), some (.int x2)] [] (n, σ, τ, θ)) : SMi G 2 mX10_nextTine 0 0 [.ref 120, .ref r1, .int x2] n σ τ θ q := SM.of _ rfl rfl (Nat.le_of_ble_eq_true rfl) h
set_option maxHeartbeats 4000000 in
set_option maxRecDepth 20000 in
theorem sgX10_no_0 {G : GG} {k : Nat} {q : Int32 → Nat → SG → TU → TH → Prop} {n : Nat} {σ : SG} {τ : TU} {θ : TH}  (x1 : Int32) (hk : 1 ≤ k)  (hW : aw_WT n θ) (vc : q (-1 : Int32) n (aw_u σ 120 11 x1) τ θ) : SW G k mX10_no (aw_qi q) 0 0 0 [some (.ref 120), some (.int x1)] [] (n, σ, τ, θ) := by
  refine SW.aload_n dX10_no_0 rfl ?_
  refine SW.iload_n dX10_no_1 rfl ?_
  refine SW.putI (f := 11) aw_cl10 kp_120 (by decide) (hW.le (by decide)) (by decide) ww_1253 (Or.inl rfl) dX10_no_2 rfl rfl rfl ?_
  refine SW.iconst (v := (-1 : Int32)) dX10_no_5 (by decide) ?_
  exact SW.iret dX10_no_6 rfl rfl ⟨_, rfl, vc⟩
theorem ctX10_no {G : GG} {q : Int32 → Nat → SG → TU → TH → Prop} {n : Nat} {σ : SG} {τ : TU} {θ : TH} (x1 : Int32) (h : SW G 1 mX10_no (aw_qi q) 0 0 0 [some (.ref 120), some (.int x1)] [] (n, σ, τ, θ)) : SMi G 1 mX10_no 0 0 [.ref 120, .int x1] n σ τ θ q := SM.of _ rfl rfl (Nat.le_of_ble_eq_true rfl) h
set_option maxHeartbeats 4000000 in
set_option maxRecDepth 20000 in
theorem sgX10_note_0 {G : GG} {k : Nat} {q : Nat → SG → TU → TH → Prop} {n : Nat} {σ : SG} {τ : TU} {θ : TH}   (hk : 2 ≤ k)  (hW : aw_WT n θ) (vc : ((¬ (σ 120 20) = (16 : Int32)) → (SMv G 1 mX10_copy 0 0 [.ref 125, .int (0 : Int32), .ref 126, .int ((13 : Int32) * (σ 120 20)), .int (13 : Int32)] n σ τ θ (fun n1 σ1 τ1 θ1 => aw_WT n1 θ1 ∧ (q n1 (aw_u σ1 120 20 ((σ1 120 20) + (1 : Int32))) τ1 θ1)))) ∧ (((σ 120 20) = (16 : Int32)) → (SW G k mX10_note (aw_qv q) 0 0 11 [some (.ref 120), some (.int (0 : Int32))] [] (n, σ, τ, θ)))) : SW G k mX10_note (aw_qv q) 0 0 0 [some (.ref 120), none] [] (n, σ, τ, θ) := by
  refine SW.aload_n dX10_note_0 rfl ?_
  refine SW.getI (f := 20) aw_cl10 kp_120 (by decide) (hW.le (by decide)) (by decide) ww_1262 dX10_note_1 rfl ?_
  refine SW.bipush (v := (16 : Int32)) dX10_note_4 (by decide) ?_
  refine SW.icmp_ne 49 dX10_note_6 (by decide) (fun hbr => ?_) (fun hbr => ?_)
  · replace vc := vc.1 hbr
    refine SW.aload_n dX10_note_49 rfl ?_
    refine SW.getS (f := 17) (r := 125) aw_cl10 kp_120 (by decide) (hW.le (by decide)) (by decide) ww_1259 dX10_note_50 rfl hW.t120_17 ?_
    refine SW.iconst (v := (0 : Int32)) dX10_note_53 (by decide) ?_
    refine SW.aload_n dX10_note_54 rfl ?_
    refine SW.getS (f := 18) (r := 126) aw_cl10 kp_120 (by decide) (hW.le (by decide)) (by decide) ww_1260 dX10_note_55 rfl hW.t120_18 ?_
    refine SW.bipush (v := (13 : Int32)) dX10_note_58 (by decide) ?_
    refine SW.aload_n dX10_note_60 rfl ?_
    refine SW.getI (f := 20) aw_cl10 kp_120 (by decide) (hW.le (by decide)) (by decide) ww_1262 dX10_note_61 rfl ?_
    refine SW.imul dX10_note_64 ?_
    refine SW.bipush (v := (13 : Int32)) dX10_note_65 (by decide) ?_
    refine SW.csv5 kS_X10_163 (by omega) (Nat.le_of_ble_eq_true rfl) dX10_note_67 (SMv.mono vc ?_)
    intro n1 σ1 τ1 θ1 vc
    obtain ⟨hW, vc⟩ := vc
    refine SW.aload_n dX10_note_70 rfl ?_
    refine SW.dup dX10_note_71 rfl ?_
    refine SW.getI (f := 20) aw_cl10 kp_120 (by decide) (hW.le (by decide)) (by decide) ww_1262 dX10_note_72 rfl ?_
    refine SW.iconst (v := (1 : Int32)) dX10_note_75 (by decide) ?_
    refine SW.iadd dX10_note_76 ?_
    refine SW.putI (f := 20) aw_cl10 kp_120 (by decide) (hW.le (by decide)) (by decide) ww_1262 (Or.inl rfl) dX10_note_77 rfl rfl rfl ?_
    exact SW.vret dX10_note_80 rfl ⟨rfl, vc⟩
  · replace vc := vc.2 hbr
    refine SW.iconst (v := (0 : Int32)) dX10_note_9 (by decide) ?_
    refine SW.istore_n dX10_note_10 (by decide) rfl rfl ?_
    exact vc
set_option maxHeartbeats 4000000 in
set_option maxRecDepth 20000 in
theorem sgX10_note_11 {G : GG} {k : Nat} {q : Nat → SG → TU → TH → Prop} {n : Nat} {σ : SG} {τ : TU} {θ : TH}  (x1 : Int32) (hk : 2 ≤ k)  (hW : aw_WT n θ) (vc : (((195 : Int32) ≤ x1) → (SMv G 1 mX10_copy 0 0 [.ref 125, .int (0 : Int32), .ref 126, .int ((13 : Int32) * ((aw_u σ 120 20 ((σ 120 20) - (1 : Int32))) 120 20)), .int (13 : Int32)] n (aw_u σ 120 20 ((σ 120 20) - (1 : Int32))) τ θ (fun n1 σ1 τ1 θ1 => aw_WT n1 θ1 ∧ (q n1 (aw_u σ1 120 20 ((σ1 120 20) + (1 : Int32))) τ1 θ1)))) ∧ ((¬ (195 : Int32) ≤ x1) → (vp_in (x1 + (13 : Int32)) 208 ∧ (vp_in x1 208 ∧ (SW G k mX10_note (aw_qv q) 0 0 11 [some (.ref 120), some (.int (x1 + (1 : Int32)))] [] (n, (aw_u σ 126 x1.toNatClampNeg (σ 126 (x1 + (13 : Int32)).toNatClampNeg)), τ, θ)))))) : SW G k mX10_note (aw_qv q) 0 0 11 [some (.ref 120), some (.int x1)] [] (n, σ, τ, θ) := by
  refine SW.iload_n dX10_note_11 rfl ?_
  refine SW.sipush (v := (195 : Int32)) dX10_note_12 (by decide) ?_
  refine SW.icmp_ge 39 dX10_note_15 (by decide) (fun hbr => ?_) (fun hbr => ?_)
  · replace vc := vc.1 hbr
    refine SW.aload_n dX10_note_39 rfl ?_
    refine SW.dup dX10_note_40 rfl ?_
    refine SW.getI (f := 20) aw_cl10 kp_120 (by decide) (hW.le (by decide)) (by decide) ww_1262 dX10_note_41 rfl ?_
    refine SW.iconst (v := (1 : Int32)) dX10_note_44 (by decide) ?_
    refine SW.isub dX10_note_45 ?_
    refine SW.putI (f := 20) aw_cl10 kp_120 (by decide) (hW.le (by decide)) (by decide) ww_1262 (Or.inl rfl) dX10_note_46 rfl rfl rfl ?_
    refine SW.aload_n dX10_note_49 rfl ?_
    refine SW.getS (f := 17) (r := 125) aw_cl10 kp_120 (by decide) (hW.le (by decide)) (by decide) ww_1259 dX10_note_50 rfl hW.t120_17 ?_
    refine SW.iconst (v := (0 : Int32)) dX10_note_53 (by decide) ?_
    refine SW.aload_n dX10_note_54 rfl ?_
    refine SW.getS (f := 18) (r := 126) aw_cl10 kp_120 (by decide) (hW.le (by decide)) (by decide) ww_1260 dX10_note_55 rfl hW.t120_18 ?_
    refine SW.bipush (v := (13 : Int32)) dX10_note_58 (by decide) ?_
    refine SW.aload_n dX10_note_60 rfl ?_
    refine SW.getI (f := 20) aw_cl10 kp_120 (by decide) (hW.le (by decide)) (by decide) ww_1262 dX10_note_61 rfl ?_
    refine SW.imul dX10_note_64 ?_
    refine SW.bipush (v := (13 : Int32)) dX10_note_65 (by decide) ?_
    refine SW.csv5 kS_X10_163 (by omega) (Nat.le_of_ble_eq_true rfl) dX10_note_67 (SMv.mono vc ?_)
    intro n1 σ1 τ1 θ1 vc
    obtain ⟨hW, vc⟩ := vc
    refine SW.aload_n dX10_note_70 rfl ?_
    refine SW.dup dX10_note_71 rfl ?_
    refine SW.getI (f := 20) aw_cl10 kp_120 (by decide) (hW.le (by decide)) (by decide) ww_1262 dX10_note_72 rfl ?_
    refine SW.iconst (v := (1 : Int32)) dX10_note_75 (by decide) ?_
    refine SW.iadd dX10_note_76 ?_
    refine SW.putI (f := 20) aw_cl10 kp_120 (by decide) (hW.le (by decide)) (by decide) ww_1262 (Or.inl rfl) dX10_note_77 rfl rfl rfl ?_
    exact SW.vret dX10_note_80 rfl ⟨rfl, vc⟩
  · replace vc := vc.2 hbr
    refine SW.aload_n dX10_note_18 rfl ?_
    refine SW.getS (f := 18) (r := 126) aw_cl10 kp_120 (by decide) (hW.le (by decide)) (by decide) ww_1260 dX10_note_19 rfl hW.t120_18 ?_
    refine SW.iload_n dX10_note_22 rfl ?_
    refine SW.aload_n dX10_note_23 rfl ?_
    refine SW.getS (f := 18) (r := 126) aw_cl10 kp_120 (by decide) (hW.le (by decide)) (by decide) ww_1260 dX10_note_24 rfl hW.t120_18 ?_
    refine SW.iload_n dX10_note_27 rfl ?_
    refine SW.bipush (v := (13 : Int32)) dX10_note_28 (by decide) ?_
    refine SW.iadd dX10_note_30 ?_
    refine SW.iald kp_126 (by decide) (hW.le (by decide)) vc.1 dX10_note_31 ?_
    replace vc := vc.2
    refine SW.iast kp_126 (by decide) (hW.le (by decide)) vc.1 dX10_note_32 ?_
    replace vc := vc.2
    refine SW.iinc (v := (x1 + (1 : Int32))) dX10_note_33 rfl rfl (by decide) rfl rfl ?_
    refine SW.goto 11 dX10_note_36 (by decide) ?_
    exact vc
theorem ctX10_note {G : GG} {q : Nat → SG → TU → TH → Prop} {n : Nat} {σ : SG} {τ : TU} {θ : TH}  (h : SW G 2 mX10_note (aw_qv q) 0 0 0 [some (.ref 120), none] [] (n, σ, τ, θ)) : SMv G 2 mX10_note 0 0 [.ref 120] n σ τ θ q := SM.of _ rfl rfl (Nat.le_of_ble_eq_true rfl) h
set_option maxHeartbeats 4000000 in
set_option maxRecDepth 20000 in
theorem sgX10_number_0 {G : GG} {k : Nat} {q : Int32 → Nat → SG → TU → TH → Prop} {n : Nat} {σ : SG} {τ : TU} {θ : TH}  (x1 : Int32) (x2 : Int32) (hk : 3 ≤ k)  (hW : aw_WT n θ) (vc : (((σ 120 13) = 0) → ((((σ 120 6) = (3 : Int32)) → (SMi G 1 mX10_in 0 0 [.int (σ 120 7), .int x1, .int x2] n σ τ θ (fun a1 n1 σ1 τ1 θ1 => aw_WT n1 θ1 ∧ (((¬ a1 = 0) → ((((σ1 120 13) = 0) → (SMv G 2 mX10_next 0 0 [.ref 120] n1 σ1 τ1 θ1 (fun n2 σ2 τ2 θ2 => aw_WT n2 θ2 ∧ (q (σ1 120 7) n2 σ2 τ2 θ2)))) ∧ ((¬ (σ1 120 13) = 0) → (q x1 n1 σ1 τ1 θ1)))) ∧ ((a1 = 0) → (SMv G 1 mX10_wrong 0 0 [.ref 120, .int (4 : Int32), .int (σ1 120 4)] n1 σ1 τ1 θ1 (fun n3 σ3 τ3 θ3 => aw_WT n3 θ3 ∧ ((((σ3 120 13) = 0) → (SMv G 2 mX10_next 0 0 [.ref 120] n3 σ3 τ3 θ3 (fun n4 σ4 τ4 θ4 => aw_WT n4 θ4 ∧ (q (σ3 120 7) n4 σ4 τ4 θ4)))) ∧ ((¬ (σ3 120 13) = 0) → (q x1 n3 σ3 τ3 θ3)))))))))) ∧ ((¬ (σ 120 6) = (3 : Int32)) → (SMv G 1 mX10_wrong 0 0 [.ref 120, .int (1 : Int32), .int (σ 120 4)] n σ τ θ (fun n5 σ5 τ5 θ5 => aw_WT n5 θ5 ∧ ((((σ5 120 13) = 0) → (SMv G 2 mX10_next 0 0 [.ref 120] n5 σ5 τ5 θ5 (fun n6 σ6 τ6 θ6 => aw_WT n6 θ6 ∧ (q (σ5 120 7) n6 σ6 τ6 θ6)))) ∧ ((¬ (σ5 120 13) = 0) → (q x1 n5 σ5 τ5 θ5)))))))) ∧ ((¬ (σ 120 13) = 0) → (q x1 n σ τ θ))) : SW G k mX10_number (aw_qi q) 0 0 0 [some (.ref 120), some (.int x1), some (.int x2), none] [] (n, σ, τ, θ) := by
  refine SW.aload_n dX10_number_0 rfl ?_
  refine SW.getI (f := 13) aw_cl10 kp_120 (by decide) (hW.le (by decide)) (by decide) ww_1255 dX10_number_1 rfl ?_
  refine SW.if_eq 9 dX10_number_4 (by decide) (fun hbr => ?_) (fun hbr => ?_)
  · replace vc := vc.1 hbr
    refine SW.aload_n dX10_number_9 rfl ?_
    refine SW.getI (f := 6) aw_cl10 kp_120 (by decide) (hW.le (by decide)) (by decide) ww_1248 dX10_number_10 rfl ?_
    refine SW.iconst (v := (3 : Int32)) dX10_number_13 (by decide) ?_
    refine SW.icmp_eq 29 dX10_number_14 (by decide) (fun hbr => ?_) (fun hbr => ?_)
    · replace vc := vc.1 hbr
      refine SW.aload_n dX10_number_29 rfl ?_
      refine SW.getI (f := 7) aw_cl10 kp_120 (by decide) (hW.le (by decide)) (by decide) ww_1249 dX10_number_30 rfl ?_
      refine SW.iload_n dX10_number_33 rfl ?_
      refine SW.iload_n dX10_number_34 rfl ?_
      refine SW.csi3 kS_X10_139 (by omega) (Nat.le_of_ble_eq_true rfl) dX10_number_35 (SMi.mono vc ?_)
      intro a1 n1 σ1 τ1 θ1 vc
      obtain ⟨hW, vc⟩ := vc
      refine SW.if_ne 50 dX10_number_38 (by decide) (fun hbr => ?_) (fun hbr => ?_)
      · replace vc := vc.1 hbr
        refine SW.aload_n dX10_number_50 rfl ?_
        refine SW.getI (f := 13) aw_cl10 kp_120 (by decide) (hW.le (by decide)) (by decide) ww_1255 dX10_number_51 rfl ?_
        refine SW.if_eq 59 dX10_number_54 (by decide) (fun hbr => ?_) (fun hbr => ?_)
        · replace vc := vc.1 hbr
          refine SW.aload_n dX10_number_59 rfl ?_
          refine SW.getI (f := 7) aw_cl10 kp_120 (by decide) (hW.le (by decide)) (by decide) ww_1249 dX10_number_60 rfl ?_
          refine SW.istore_n dX10_number_63 (by decide) rfl rfl ?_
          refine SW.aload_n dX10_number_64 rfl ?_
          refine SW.cvv0 kV_X10_109 (by omega) aw_cl10 kp_120 (by decide) (hW.le (by decide)) rfl (Nat.le_of_ble_eq_true rfl) dX10_number_65 (SMv.mono vc ?_)
          intro n2 σ2 τ2 θ2 vc
          obtain ⟨hW, vc⟩ := vc
          refine SW.iload_n dX10_number_68 rfl ?_
          exact SW.iret dX10_number_69 rfl rfl ⟨_, rfl, vc⟩
        · replace vc := vc.2 hbr
          refine SW.iload_n dX10_number_57 rfl ?_
          exact SW.iret dX10_number_58 rfl rfl ⟨_, rfl, vc⟩
      · replace vc := vc.2 hbr
        refine SW.aload_n dX10_number_41 rfl ?_
        refine SW.iconst (v := (4 : Int32)) dX10_number_42 (by decide) ?_
        refine SW.aload_n dX10_number_43 rfl ?_
        refine SW.getI (f := 4) aw_cl10 kp_120 (by decide) (hW.le (by decide)) (by decide) ww_1246 dX10_number_44 rfl ?_
        refine SW.cvv2 kV_X10_115 (by omega) aw_cl10 kp_120 (by decide) (hW.le (by decide)) rfl (Nat.le_of_ble_eq_true rfl) dX10_number_47 (SMv.mono vc ?_)
        intro n3 σ3 τ3 θ3 vc
        obtain ⟨hW, vc⟩ := vc
        refine SW.aload_n dX10_number_50 rfl ?_
        refine SW.getI (f := 13) aw_cl10 kp_120 (by decide) (hW.le (by decide)) (by decide) ww_1255 dX10_number_51 rfl ?_
        refine SW.if_eq 59 dX10_number_54 (by decide) (fun hbr => ?_) (fun hbr => ?_)
        · replace vc := vc.1 hbr
          refine SW.aload_n dX10_number_59 rfl ?_
          refine SW.getI (f := 7) aw_cl10 kp_120 (by decide) (hW.le (by decide)) (by decide) ww_1249 dX10_number_60 rfl ?_
          refine SW.istore_n dX10_number_63 (by decide) rfl rfl ?_
          refine SW.aload_n dX10_number_64 rfl ?_
          refine SW.cvv0 kV_X10_109 (by omega) aw_cl10 kp_120 (by decide) (hW.le (by decide)) rfl (Nat.le_of_ble_eq_true rfl) dX10_number_65 (SMv.mono vc ?_)
          intro n4 σ4 τ4 θ4 vc
          obtain ⟨hW, vc⟩ := vc
          refine SW.iload_n dX10_number_68 rfl ?_
          exact SW.iret dX10_number_69 rfl rfl ⟨_, rfl, vc⟩
        · replace vc := vc.2 hbr
          refine SW.iload_n dX10_number_57 rfl ?_
          exact SW.iret dX10_number_58 rfl rfl ⟨_, rfl, vc⟩
    · replace vc := vc.2 hbr
      refine SW.aload_n dX10_number_17 rfl ?_
      refine SW.iconst (v := (1 : Int32)) dX10_number_18 (by decide) ?_
      refine SW.aload_n dX10_number_19 rfl ?_
      refine SW.getI (f := 4) aw_cl10 kp_120 (by decide) (hW.le (by decide)) (by decide) ww_1246 dX10_number_20 rfl ?_
      refine SW.cvv2 kV_X10_115 (by omega) aw_cl10 kp_120 (by decide) (hW.le (by decide)) rfl (Nat.le_of_ble_eq_true rfl) dX10_number_23 (SMv.mono vc ?_)
      intro n5 σ5 τ5 θ5 vc
      obtain ⟨hW, vc⟩ := vc
      refine SW.goto 50 dX10_number_26 (by decide) ?_
      refine SW.aload_n dX10_number_50 rfl ?_
      refine SW.getI (f := 13) aw_cl10 kp_120 (by decide) (hW.le (by decide)) (by decide) ww_1255 dX10_number_51 rfl ?_
      refine SW.if_eq 59 dX10_number_54 (by decide) (fun hbr => ?_) (fun hbr => ?_)
      · replace vc := vc.1 hbr
        refine SW.aload_n dX10_number_59 rfl ?_
        refine SW.getI (f := 7) aw_cl10 kp_120 (by decide) (hW.le (by decide)) (by decide) ww_1249 dX10_number_60 rfl ?_
        refine SW.istore_n dX10_number_63 (by decide) rfl rfl ?_
        refine SW.aload_n dX10_number_64 rfl ?_
        refine SW.cvv0 kV_X10_109 (by omega) aw_cl10 kp_120 (by decide) (hW.le (by decide)) rfl (Nat.le_of_ble_eq_true rfl) dX10_number_65 (SMv.mono vc ?_)
        intro n6 σ6 τ6 θ6 vc
        obtain ⟨hW, vc⟩ := vc
        refine SW.iload_n dX10_number_68 rfl ?_
        exact SW.iret dX10_number_69 rfl rfl ⟨_, rfl, vc⟩
      · replace vc := vc.2 hbr
        refine SW.iload_n dX10_number_57 rfl ?_
        exact SW.iret dX10_number_58 rfl rfl ⟨_, rfl, vc⟩
  · replace vc := vc.2 hbr
    refine SW.iload_n dX10_number_7 rfl ?_
    exact SW.iret dX10_number_8 rfl rfl ⟨_, rfl, vc⟩
theorem ctX10_number {G : GG} {q : Int32 → Nat → SG → TU → TH → Prop} {n : Nat} {σ : SG} {τ : TU} {θ : TH} (x1 : Int32) (x2 : Int32) (h : SW G 3 mX10_number (aw_qi q) 0 0 0 [some (.ref 120), some (.int x1), some (.int x2), none] [] (n, σ, τ, θ)) : SMi G 3 mX10_number 0 0 [.ref 120, .int x1, .int x2] n σ τ θ q := SM.of _ rfl rfl (Nat.le_of_ble_eq_true rfl) h
set_option maxHeartbeats 4000000 in
set_option maxRecDepth 20000 in
theorem sgX10_odds_0 {G : GG} {k : Nat} {q : Int64 → Nat → SG → TU → TH → Prop} {n : Nat} {σ : SG} {τ : TU} {θ : TH}  (x1 : Int64) (x3 : Int32) (hk : 7 ≤ k)  (hW : aw_WT n θ) (vc : SMl G 6 mX10_allWeight 0 0 [.ref 120] n σ τ θ (fun a1 n1 σ1 τ1 θ1 => aw_WT n1 θ1 ∧ (((¬ (lg_cmp a1 (0 : Int64)) = 0) → (SMl G 1 mX10_lowest 0 0 [.long x1, .long a1, .int x3] n1 σ1 τ1 θ1 (fun a2 n2 σ2 τ2 θ2 => aw_WT n2 θ2 ∧ (q a2 n2 σ2 τ2 θ2)))) ∧ (((lg_cmp a1 (0 : Int64)) = 0) → (SMl G 1 mX10_lowest 0 0 [.long (0 : Int64), .long (1 : Int64), .int x3] n1 σ1 τ1 θ1 (fun a3 n3 σ3 τ3 θ3 => aw_WT n3 θ3 ∧ (q a3 n3 σ3 τ3 θ3))))))) : SW G k mX10_odds (aw_ql q) 0 0 0 [some (.ref 120), some (.long x1), none, some (.int x3), none, none] [] (n, σ, τ, θ) := by
  refine SW.aload_n dX10_odds_0 rfl ?_
  refine SW.cvl0 kV_X10_344 (by omega) aw_cl10 kp_120 (by decide) (hW.le (by decide)) rfl (Nat.le_of_ble_eq_true rfl) dX10_odds_1 (SMl.mono vc ?_)
  intro a1 n1 σ1 τ1 θ1 vc
  obtain ⟨hW, vc⟩ := vc
  refine SW.lstore dX10_odds_4 (by decide) rfl rfl ?_
  refine SW.lload dX10_odds_6 rfl ?_
  refine SW.lconst (v := (0 : Int64)) dX10_odds_8 (by decide) ?_
  refine SW.lcmp dX10_odds_9 ?_
  refine SW.if_ne 22 dX10_odds_10 (by decide) (fun hbr => ?_) (fun hbr => ?_)
  · replace vc := vc.1 hbr
    refine SW.lload_n dX10_odds_22 rfl ?_
    refine SW.lload dX10_odds_23 rfl ?_
    refine SW.iload_n dX10_odds_25 rfl ?_
    refine SW.csl3 kS_X10_348 (by omega) (Nat.le_of_ble_eq_true rfl) dX10_odds_26 (SMl.mono vc ?_)
    intro a2 n2 σ2 τ2 θ2 vc
    obtain ⟨hW, vc⟩ := vc
    exact SW.lret dX10_odds_29 rfl ⟨_, rfl, vc⟩
  · replace vc := vc.2 hbr
    refine SW.lconst (v := (0 : Int64)) dX10_odds_13 (by decide) ?_
    refine SW.lconst (v := (1 : Int64)) dX10_odds_14 (by decide) ?_
    refine SW.iload_n dX10_odds_15 rfl ?_
    refine SW.csl3 kS_X10_348 (by omega) (Nat.le_of_ble_eq_true rfl) dX10_odds_16 (SMl.mono vc ?_)
    intro a3 n3 σ3 τ3 θ3 vc
    obtain ⟨hW, vc⟩ := vc
    refine SW.goto 29 dX10_odds_19 (by decide) ?_
    exact SW.lret dX10_odds_29 rfl ⟨_, rfl, vc⟩
theorem ctX10_odds {G : GG} {q : Int64 → Nat → SG → TU → TH → Prop} {n : Nat} {σ : SG} {τ : TU} {θ : TH} (x1 : Int64) (x3 : Int32) (h : SW G 7 mX10_odds (aw_ql q) 0 0 0 [some (.ref 120), some (.long x1), none, some (.int x3), none, none] [] (n, σ, τ, θ)) : SMl G 7 mX10_odds 0 0 [.ref 120, .long x1, .int x3] n σ τ θ q := SM.of _ rfl rfl (Nat.le_of_ble_eq_true rfl) h
set_option maxHeartbeats 4000000 in
set_option maxRecDepth 20000 in
theorem sgX10_owedTo_0 {G : GG} {k : Nat} {q : Int32 → Nat → SG → TU → TH → Prop} {n : Nat} {σ : SG} {τ : TU} {θ : TH}  (x1 : Int32) (hk : 2 ≤ k)  (hW : aw_WT n θ) (vc : SW G k mX10_owedTo (aw_qi q) 0 0 4 [some (.ref 120), some (.int x1), some (.int (0 : Int32)), some (.int (0 : Int32))] [] (n, σ, τ, θ)) : SW G k mX10_owedTo (aw_qi q) 0 0 0 [some (.ref 120), some (.int x1), none, none] [] (n, σ, τ, θ) := by
  refine SW.iconst (v := (0 : Int32)) dX10_owedTo_0 (by decide) ?_
  refine SW.istore_n dX10_owedTo_1 (by decide) rfl rfl ?_
  refine SW.iconst (v := (0 : Int32)) dX10_owedTo_2 (by decide) ?_
  refine SW.istore_n dX10_owedTo_3 (by decide) rfl rfl ?_
  exact vc
set_option maxHeartbeats 4000000 in
set_option maxRecDepth 20000 in
theorem sgX10_owedTo_4 {G : GG} {k : Nat} {q : Int32 → Nat → SG → TU → TH → Prop} {n : Nat} {σ : SG} {τ : TU} {θ : TH}  (x1 : Int32) (x2 : Int32) (x3 : Int32) (hk : 2 ≤ k)  (hW : aw_WT n θ) (vc : (((σ 123 5) ≤ x3) → (q x2 n σ τ θ)) ∧ ((¬ (σ 123 5) ≤ x3) → (SMi G 1 mX10_isDue 0 0 [.ref 120, .ref 125, .int x3] n σ τ θ (fun a1 n1 σ1 τ1 θ1 => aw_WT n1 θ1 ∧ (((a1 = 0) → (SW G k mX10_owedTo (aw_qi q) 0 0 4 [some (.ref 120), some (.int x1), some (.int (x2 + (0 : Int32))), some (.int (x3 + (1 : Int32)))] [] (n1, σ1, τ1, θ1))) ∧ ((¬ a1 = 0) → (vp_in (((25 : Int32) + ((4 : Int32) * x3)) + (1 : Int32)) 167 ∧ (((¬ (σ1 123 (((25 : Int32) + ((4 : Int32) * x3)) + (1 : Int32)).toNatClampNeg) = x1) → (SW G k mX10_owedTo (aw_qi q) 0 0 4 [some (.ref 120), some (.int x1), some (.int (x2 + (0 : Int32))), some (.int (x3 + (1 : Int32)))] [] (n1, σ1, τ1, θ1))) ∧ (((σ1 123 (((25 : Int32) + ((4 : Int32) * x3)) + (1 : Int32)).toNatClampNeg) = x1) → (vp_in x3 13 ∧ (SW G k mX10_owedTo (aw_qi q) 0 0 4 [some (.ref 120), some (.int x1), some (.int (x2 + (σ1 125 x3.toNatClampNeg))), some (.int (x3 + (1 : Int32)))] [] (n1, σ1, τ1, θ1)))))))))))) : SW G k mX10_owedTo (aw_qi q) 0 0 4 [some (.ref 120), some (.int x1), some (.int x2), some (.int x3)] [] (n, σ, τ, θ) := by
  refine SW.iload_n dX10_owedTo_4 rfl ?_
  refine SW.aload_n dX10_owedTo_5 rfl ?_
  refine SW.getS (f := 15) (r := 123) aw_cl10 kp_120 (by decide) (hW.le (by decide)) (by decide) ww_1257 dX10_owedTo_6 rfl hW.t120_15 ?_
  refine SW.iconst (v := (5 : Int32)) dX10_owedTo_9 (by decide) ?_
  refine SW.iald kp_123 (by decide) (hW.le (by decide)) (vp_in_nI (n := 5) (by decide) (by decide)) dX10_owedTo_10 ?_
  refine SW.icmp_ge 62 dX10_owedTo_11 (by decide) (fun hbr => ?_) (fun hbr => ?_)
  · replace vc := vc.1 hbr
    refine SW.iload_n dX10_owedTo_62 rfl ?_
    exact SW.iret dX10_owedTo_63 rfl rfl ⟨_, rfl, vc⟩
  · replace vc := vc.2 hbr
    refine SW.iload_n dX10_owedTo_14 rfl ?_
    refine SW.aload_n dX10_owedTo_15 rfl ?_
    refine SW.aload_n dX10_owedTo_16 rfl ?_
    refine SW.getS (f := 17) (r := 125) aw_cl10 kp_120 (by decide) (hW.le (by decide)) (by decide) ww_1259 dX10_owedTo_17 rfl hW.t120_17 ?_
    refine SW.iload_n dX10_owedTo_20 rfl ?_
    refine SW.cvi2 kV_X10_236 (by omega) aw_cl10 kp_120 (by decide) (hW.le (by decide)) rfl (Nat.le_of_ble_eq_true rfl) dX10_owedTo_21 (SMi.mono vc ?_)
    intro a1 n1 σ1 τ1 θ1 vc
    obtain ⟨hW, vc⟩ := vc
    refine SW.if_eq 53 dX10_owedTo_24 (by decide) (fun hbr => ?_) (fun hbr => ?_)
    · replace vc := vc.1 hbr
      refine SW.iconst (v := (0 : Int32)) dX10_owedTo_53 (by decide) ?_
      refine SW.iadd dX10_owedTo_54 ?_
      refine SW.istore_n dX10_owedTo_55 (by decide) rfl rfl ?_
      refine SW.iinc (v := (x3 + (1 : Int32))) dX10_owedTo_56 rfl rfl (by decide) rfl rfl ?_
      refine SW.goto 4 dX10_owedTo_59 (by decide) ?_
      exact vc
    · replace vc := vc.2 hbr
      refine SW.aload_n dX10_owedTo_27 rfl ?_
      refine SW.getS (f := 15) (r := 123) aw_cl10 kp_120 (by decide) (hW.le (by decide)) (by decide) ww_1257 dX10_owedTo_28 rfl hW.t120_15 ?_
      refine SW.bipush (v := (25 : Int32)) dX10_owedTo_31 (by decide) ?_
      refine SW.iconst (v := (4 : Int32)) dX10_owedTo_33 (by decide) ?_
      refine SW.iload_n dX10_owedTo_34 rfl ?_
      refine SW.imul dX10_owedTo_35 ?_
      refine SW.iadd dX10_owedTo_36 ?_
      refine SW.iconst (v := (1 : Int32)) dX10_owedTo_37 (by decide) ?_
      refine SW.iadd dX10_owedTo_38 ?_
      refine SW.iald kp_123 (by decide) (hW.le (by decide)) vc.1 dX10_owedTo_39 ?_
      replace vc := vc.2
      refine SW.iload_n dX10_owedTo_40 rfl ?_
      refine SW.icmp_ne 53 dX10_owedTo_41 (by decide) (fun hbr => ?_) (fun hbr => ?_)
      · replace vc := vc.1 hbr
        refine SW.iconst (v := (0 : Int32)) dX10_owedTo_53 (by decide) ?_
        refine SW.iadd dX10_owedTo_54 ?_
        refine SW.istore_n dX10_owedTo_55 (by decide) rfl rfl ?_
        refine SW.iinc (v := (x3 + (1 : Int32))) dX10_owedTo_56 rfl rfl (by decide) rfl rfl ?_
        refine SW.goto 4 dX10_owedTo_59 (by decide) ?_
        exact vc
      · replace vc := vc.2 hbr
        refine SW.aload_n dX10_owedTo_44 rfl ?_
        refine SW.getS (f := 17) (r := 125) aw_cl10 kp_120 (by decide) (hW.le (by decide)) (by decide) ww_1259 dX10_owedTo_45 rfl hW.t120_17 ?_
        refine SW.iload_n dX10_owedTo_48 rfl ?_
        refine SW.iald kp_125 (by decide) (hW.le (by decide)) vc.1 dX10_owedTo_49 ?_
        replace vc := vc.2
        refine SW.goto 54 dX10_owedTo_50 (by decide) ?_
        refine SW.iadd dX10_owedTo_54 ?_
        refine SW.istore_n dX10_owedTo_55 (by decide) rfl rfl ?_
        refine SW.iinc (v := (x3 + (1 : Int32))) dX10_owedTo_56 rfl rfl (by decide) rfl rfl ?_
        refine SW.goto 4 dX10_owedTo_59 (by decide) ?_
        exact vc
theorem ctX10_owedTo {G : GG} {q : Int32 → Nat → SG → TU → TH → Prop} {n : Nat} {σ : SG} {τ : TU} {θ : TH} (x1 : Int32) (h : SW G 2 mX10_owedTo (aw_qi q) 0 0 0 [some (.ref 120), some (.int x1), none, none] [] (n, σ, τ, θ)) : SMi G 2 mX10_owedTo 0 0 [.ref 120, .int x1] n σ τ θ q := SM.of _ rfl rfl (Nat.le_of_ble_eq_true rfl) h
set_option maxHeartbeats 4000000 in
set_option maxRecDepth 20000 in
theorem sgX10_owesLine_0 {G : GG} {k : Nat} {q : Nat → SG → TU → TH → Prop} {n : Nat} {σ : SG} {τ : TU} {θ : TH}  (x1 : Int32) (x2 : Int32) (hk : 9 ≤ k)  (hW : aw_WT n θ) (vc : (((σ 120 13) = 0) → (SMi G 8 mX10_manHere 0 0 [.ref 120] n σ τ θ (fun a1 n1 σ1 τ1 θ1 => aw_WT n1 θ1 ∧ (vp_in x1 167 ∧ (SMv G 3 mX10_pass 0 0 [.ref 120] n1 (aw_u σ1 124 x1.toNatClampNeg a1) τ1 θ1 (fun n2 σ2 τ2 θ2 => aw_WT n2 θ2 ∧ (SMi G 8 mX10_manHere 0 0 [.ref 120] n2 σ2 τ2 θ2 (fun a3 n3 σ3 τ3 θ3 => aw_WT n3 θ3 ∧ (vp_in (x1 + (1 : Int32)) 167 ∧ (((¬ ((aw_u σ3 124 (x1 + (1 : Int32)).toNatClampNeg a3) 120 13) = 0) → (SMv G 3 mX10_pass 0 0 [.ref 120] n3 (aw_u σ3 124 (x1 + (1 : Int32)).toNatClampNeg a3) τ3 θ3 (fun n4 σ4 τ4 θ4 => aw_WT n4 θ4 ∧ (SMi G 3 mX10_number 0 0 [.ref 120, .int (1 : Int32), .int (99 : Int32)] n4 σ4 τ4 θ4 (fun a5 n5 σ5 τ5 θ5 => aw_WT n5 θ5 ∧ (vp_in (x1 + (2 : Int32)) 167 ∧ (SMi G 8 mX10_after 0 0 [.ref 120, .ref (1000 + 37), .int (0 : Int32), .int (9 : Int32)] n5 (aw_u σ5 124 (x1 + (2 : Int32)).toNatClampNeg a5) τ5 θ5 (fun a6 n6 σ6 τ6 θ6 => aw_WT n6 θ6 ∧ (vp_in (x1 + (3 : Int32)) 167 ∧ (((¬ ((aw_u σ6 124 (x1 + (3 : Int32)).toNatClampNeg a6) 120 13) = 0) → (q n6 (aw_u σ6 124 (x1 + (3 : Int32)).toNatClampNeg a6) τ6 θ6)) ∧ ((((aw_u σ6 124 (x1 + (3 : Int32)).toNatClampNeg a6) 120 13) = 0) → (vp_in x2 167 ∧ (vp_in x2 167 ∧ (q n6 (aw_u (aw_u σ6 124 (x1 + (3 : Int32)).toNatClampNeg a6) 124 x2.toNatClampNeg (((aw_u σ6 124 (x1 + (3 : Int32)).toNatClampNeg a6) 124 x2.toNatClampNeg) + (1 : Int32))) τ6 θ6)))))))))))))) ∧ ((((aw_u σ3 124 (x1 + (1 : Int32)).toNatClampNeg a3) 120 13) = 0) → (vp_in x1 167 ∧ (vp_in (x1 + (1 : Int32)) 167 ∧ (((¬ ((aw_u σ3 124 (x1 + (1 : Int32)).toNatClampNeg a3) 124 x1.toNatClampNeg) = ((aw_u σ3 124 (x1 + (1 : Int32)).toNatClampNeg a3) 124 (x1 + (1 : Int32)).toNatClampNeg)) → (SMv G 3 mX10_pass 0 0 [.ref 120] n3 (aw_u σ3 124 (x1 + (1 : Int32)).toNatClampNeg a3) τ3 θ3 (fun n7 σ7 τ7 θ7 => aw_WT n7 θ7 ∧ (SMi G 3 mX10_number 0 0 [.ref 120, .int (1 : Int32), .int (99 : Int32)] n7 σ7 τ7 θ7 (fun a8 n8 σ8 τ8 θ8 => aw_WT n8 θ8 ∧ (vp_in (x1 + (2 : Int32)) 167 ∧ (SMi G 8 mX10_after 0 0 [.ref 120, .ref (1000 + 37), .int (0 : Int32), .int (9 : Int32)] n8 (aw_u σ8 124 (x1 + (2 : Int32)).toNatClampNeg a8) τ8 θ8 (fun a9 n9 σ9 τ9 θ9 => aw_WT n9 θ9 ∧ (vp_in (x1 + (3 : Int32)) 167 ∧ (((¬ ((aw_u σ9 124 (x1 + (3 : Int32)).toNatClampNeg a9) 120 13) = 0) → (q n9 (aw_u σ9 124 (x1 + (3 : Int32)).toNatClampNeg a9) τ9 θ9)) ∧ ((((aw_u σ9 124 (x1 + (3 : Int32)).toNatClampNeg a9) 120 13) = 0) → (vp_in x2 167 ∧ (vp_in x2 167 ∧ (q n9 (aw_u (aw_u σ9 124 (x1 + (3 : Int32)).toNatClampNeg a9) 124 x2.toNatClampNeg (((aw_u σ9 124 (x1 + (3 : Int32)).toNatClampNeg a9) 124 x2.toNatClampNeg) + (1 : Int32))) τ9 θ9)))))))))))))) ∧ ((((aw_u σ3 124 (x1 + (1 : Int32)).toNatClampNeg a3) 124 x1.toNatClampNeg) = ((aw_u σ3 124 (x1 + (1 : Int32)).toNatClampNeg a3) 124 (x1 + (1 : Int32)).toNatClampNeg)) → (SMv G 1 mX10_wrong 0 0 [.ref 120, .int (3 : Int32), .int ((aw_u σ3 124 (x1 + (1 : Int32)).toNatClampNeg a3) 120 4)] n3 (aw_u σ3 124 (x1 + (1 : Int32)).toNatClampNeg a3) τ3 θ3 (fun n10 σ10 τ10 θ10 => aw_WT n10 θ10 ∧ (SMv G 3 mX10_pass 0 0 [.ref 120] n10 σ10 τ10 θ10 (fun n11 σ11 τ11 θ11 => aw_WT n11 θ11 ∧ (SMi G 3 mX10_number 0 0 [.ref 120, .int (1 : Int32), .int (99 : Int32)] n11 σ11 τ11 θ11 (fun a12 n12 σ12 τ12 θ12 => aw_WT n12 θ12 ∧ (vp_in (x1 + (2 : Int32)) 167 ∧ (SMi G 8 mX10_after 0 0 [.ref 120, .ref (1000 + 37), .int (0 : Int32), .int (9 : Int32)] n12 (aw_u σ12 124 (x1 + (2 : Int32)).toNatClampNeg a12) τ12 θ12 (fun a13 n13 σ13 τ13 θ13 => aw_WT n13 θ13 ∧ (vp_in (x1 + (3 : Int32)) 167 ∧ (((¬ ((aw_u σ13 124 (x1 + (3 : Int32)).toNatClampNeg a13) 120 13) = 0) → (q n13 (aw_u σ13 124 (x1 + (3 : Int32)).toNatClampNeg a13) τ13 θ13)) ∧ ((((aw_u σ13 124 (x1 + (3 : Int32)).toNatClampNeg a13) 120 13) = 0) → (vp_in x2 167 ∧ (vp_in x2 167 ∧ (q n13 (aw_u (aw_u σ13 124 (x1 + (3 : Int32)).toNatClampNeg a13) 124 x2.toNatClampNeg (((aw_u σ13 124 (x1 + (3 : Int32)).toNatClampNeg a13) 124 x2.toNatClampNeg) + (1 : Int32))) τ13 θ13)))))))))))))))))))))))))))))) ∧ ((¬ (σ 120 13) = 0) → (q n σ τ θ))) : SW G k mX10_owesLine (aw_qv q) 0 0 0 [some (.ref 120), some (.int x1), some (.int x2)] [] (n, σ, τ, θ) := by
  refine SW.aload_n dX10_owesLine_0 rfl ?_
  refine SW.getI (f := 13) aw_cl10 kp_120 (by decide) (hW.le (by decide)) (by decide) ww_1255 dX10_owesLine_1 rfl ?_
  refine SW.if_eq 8 dX10_owesLine_4 (by decide) (fun hbr => ?_) (fun hbr => ?_)
  · replace vc := vc.1 hbr
    refine SW.aload_n dX10_owesLine_8 rfl ?_
    refine SW.getS (f := 16) (r := 124) aw_cl10 kp_120 (by decide) (hW.le (by decide)) (by decide) ww_1258 dX10_owesLine_9 rfl hW.t120_16 ?_
    refine SW.iload_n dX10_owesLine_12 rfl ?_
    refine SW.aload_n dX10_owesLine_13 rfl ?_
    refine SW.cvi0 kV_X10_229 (by omega) aw_cl10 kp_120 (by decide) (hW.le (by decide)) rfl (Nat.le_of_ble_eq_true rfl) dX10_owesLine_14 (SMi.mono vc ?_)
    intro a1 n1 σ1 τ1 θ1 vc
    obtain ⟨hW, vc⟩ := vc
    refine SW.iast kp_124 (by decide) (hW.le (by decide)) vc.1 dX10_owesLine_17 ?_
    replace vc := vc.2
    refine SW.aload_n dX10_owesLine_18 rfl ?_
    refine SW.cvv0 kV_X10_176 (by omega) aw_cl10 kp_120 (by decide) (hW.le (by decide)) rfl (Nat.le_of_ble_eq_true rfl) dX10_owesLine_19 (SMv.mono vc ?_)
    intro n2 σ2 τ2 θ2 vc
    obtain ⟨hW, vc⟩ := vc
    refine SW.aload_n dX10_owesLine_22 rfl ?_
    refine SW.getS (f := 16) (r := 124) aw_cl10 kp_120 (by decide) (hW.le (by decide)) (by decide) ww_1258 dX10_owesLine_23 rfl hW.t120_16 ?_
    refine SW.iload_n dX10_owesLine_26 rfl ?_
    refine SW.iconst (v := (1 : Int32)) dX10_owesLine_27 (by decide) ?_
    refine SW.iadd dX10_owesLine_28 ?_
    refine SW.aload_n dX10_owesLine_29 rfl ?_
    refine SW.cvi0 kV_X10_229 (by omega) aw_cl10 kp_120 (by decide) (hW.le (by decide)) rfl (Nat.le_of_ble_eq_true rfl) dX10_owesLine_30 (SMi.mono vc ?_)
    intro a3 n3 σ3 τ3 θ3 vc
    obtain ⟨hW, vc⟩ := vc
    refine SW.iast kp_124 (by decide) (hW.le (by decide)) vc.1 dX10_owesLine_33 ?_
    replace vc := vc.2
    refine SW.aload_n dX10_owesLine_34 rfl ?_
    refine SW.getI (f := 13) aw_cl10 kp_120 (by decide) (hW.le (by decide)) (by decide) ww_1255 dX10_owesLine_35 rfl ?_
    refine SW.if_ne 67 dX10_owesLine_38 (by decide) (fun hbr => ?_) (fun hbr => ?_)
    · replace vc := vc.1 hbr
      refine SW.aload_n dX10_owesLine_67 rfl ?_
      refine SW.cvv0 kV_X10_176 (by omega) aw_cl10 kp_120 (by decide) (hW.le (by decide)) rfl (Nat.le_of_ble_eq_true rfl) dX10_owesLine_68 (SMv.mono vc ?_)
      intro n4 σ4 τ4 θ4 vc
      obtain ⟨hW, vc⟩ := vc
      refine SW.aload_n dX10_owesLine_71 rfl ?_
      refine SW.getS (f := 16) (r := 124) aw_cl10 kp_120 (by decide) (hW.le (by decide)) (by decide) ww_1258 dX10_owesLine_72 rfl hW.t120_16 ?_
      refine SW.iload_n dX10_owesLine_75 rfl ?_
      refine SW.iconst (v := (2 : Int32)) dX10_owesLine_76 (by decide) ?_
      refine SW.iadd dX10_owesLine_77 ?_
      refine SW.aload_n dX10_owesLine_78 rfl ?_
      refine SW.iconst (v := (1 : Int32)) dX10_owesLine_79 (by decide) ?_
      refine SW.bipush (v := (99 : Int32)) dX10_owesLine_80 (by decide) ?_
      refine SW.cvi2 kV_X10_151 (by omega) aw_cl10 kp_120 (by decide) (hW.le (by decide)) rfl (Nat.le_of_ble_eq_true rfl) dX10_owesLine_82 (SMi.mono vc ?_)
      intro a5 n5 σ5 τ5 θ5 vc
      obtain ⟨hW, vc⟩ := vc
      refine SW.iast kp_124 (by decide) (hW.le (by decide)) vc.1 dX10_owesLine_85 ?_
      replace vc := vc.2
      refine SW.aload_n dX10_owesLine_86 rfl ?_
      refine SW.getS (f := 16) (r := 124) aw_cl10 kp_120 (by decide) (hW.le (by decide)) (by decide) ww_1258 dX10_owesLine_87 rfl hW.t120_16 ?_
      refine SW.iload_n dX10_owesLine_90 rfl ?_
      refine SW.iconst (v := (3 : Int32)) dX10_owesLine_91 (by decide) ?_
      refine SW.iadd dX10_owesLine_92 ?_
      refine SW.aload_n dX10_owesLine_93 rfl ?_
      refine SW.ldcS (j := 37) rfl dX10_owesLine_94 ?_
      refine SW.iconst (v := (0 : Int32)) dX10_owesLine_96 (by decide) ?_
      refine SW.bipush (v := (9 : Int32)) dX10_owesLine_97 (by decide) ?_
      refine SW.cvi3 kV_X10_203 (by omega) aw_cl10 kp_120 (by decide) (hW.le (by decide)) rfl (Nat.le_of_ble_eq_true rfl) dX10_owesLine_99 (SMi.mono vc ?_)
      intro a6 n6 σ6 τ6 θ6 vc
      obtain ⟨hW, vc⟩ := vc
      refine SW.iast kp_124 (by decide) (hW.le (by decide)) vc.1 dX10_owesLine_102 ?_
      replace vc := vc.2
      refine SW.aload_n dX10_owesLine_103 rfl ?_
      refine SW.getI (f := 13) aw_cl10 kp_120 (by decide) (hW.le (by decide)) (by decide) ww_1255 dX10_owesLine_104 rfl ?_
      refine SW.if_ne 120 dX10_owesLine_107 (by decide) (fun hbr => ?_) (fun hbr => ?_)
      · replace vc := vc.1 hbr
        exact SW.vret dX10_owesLine_120 rfl ⟨rfl, vc⟩
      · replace vc := vc.2 hbr
        refine SW.aload_n dX10_owesLine_110 rfl ?_
        refine SW.getS (f := 16) (r := 124) aw_cl10 kp_120 (by decide) (hW.le (by decide)) (by decide) ww_1258 dX10_owesLine_111 rfl hW.t120_16 ?_
        refine SW.iload_n dX10_owesLine_114 rfl ?_
        refine SW.dup2 dX10_owesLine_115 rfl rfl ?_
        refine SW.iald kp_124 (by decide) (hW.le (by decide)) vc.1 dX10_owesLine_116 ?_
        replace vc := vc.2
        refine SW.iconst (v := (1 : Int32)) dX10_owesLine_117 (by decide) ?_
        refine SW.iadd dX10_owesLine_118 ?_
        refine SW.iast kp_124 (by decide) (hW.le (by decide)) vc.1 dX10_owesLine_119 ?_
        replace vc := vc.2
        exact SW.vret dX10_owesLine_120 rfl ⟨rfl, vc⟩
    · replace vc := vc.2 hbr
      refine SW.aload_n dX10_owesLine_41 rfl ?_
      refine SW.getS (f := 16) (r := 124) aw_cl10 kp_120 (by decide) (hW.le (by decide)) (by decide) ww_1258 dX10_owesLine_42 rfl hW.t120_16 ?_
      refine SW.iload_n dX10_owesLine_45 rfl ?_
      refine SW.iald kp_124 (by decide) (hW.le (by decide)) vc.1 dX10_owesLine_46 ?_
      replace vc := vc.2
      refine SW.aload_n dX10_owesLine_47 rfl ?_
      refine SW.getS (f := 16) (r := 124) aw_cl10 kp_120 (by decide) (hW.le (by decide)) (by decide) ww_1258 dX10_owesLine_48 rfl hW.t120_16 ?_
      refine SW.iload_n dX10_owesLine_51 rfl ?_
      refine SW.iconst (v := (1 : Int32)) dX10_owesLine_52 (by decide) ?_
      refine SW.iadd dX10_owesLine_53 ?_
      refine SW.iald kp_124 (by decide) (hW.le (by decide)) vc.1 dX10_owesLine_54 ?_
      replace vc := vc.2
      refine SW.icmp_ne 67 dX10_owesLine_55 (by decide) (fun hbr => ?_) (fun hbr => ?_)
      · replace vc := vc.1 hbr
        refine SW.aload_n dX10_owesLine_67 rfl ?_
        refine SW.cvv0 kV_X10_176 (by omega) aw_cl10 kp_120 (by decide) (hW.le (by decide)) rfl (Nat.le_of_ble_eq_true rfl) dX10_owesLine_68 (SMv.mono vc ?_)
        intro n7 σ7 τ7 θ7 vc
        obtain ⟨hW, vc⟩ := vc
        refine SW.aload_n dX10_owesLine_71 rfl ?_
        refine SW.getS (f := 16) (r := 124) aw_cl10 kp_120 (by decide) (hW.le (by decide)) (by decide) ww_1258 dX10_owesLine_72 rfl hW.t120_16 ?_
        refine SW.iload_n dX10_owesLine_75 rfl ?_
        refine SW.iconst (v := (2 : Int32)) dX10_owesLine_76 (by decide) ?_
        refine SW.iadd dX10_owesLine_77 ?_
        refine SW.aload_n dX10_owesLine_78 rfl ?_
        refine SW.iconst (v := (1 : Int32)) dX10_owesLine_79 (by decide) ?_
        refine SW.bipush (v := (99 : Int32)) dX10_owesLine_80 (by decide) ?_
        refine SW.cvi2 kV_X10_151 (by omega) aw_cl10 kp_120 (by decide) (hW.le (by decide)) rfl (Nat.le_of_ble_eq_true rfl) dX10_owesLine_82 (SMi.mono vc ?_)
        intro a8 n8 σ8 τ8 θ8 vc
        obtain ⟨hW, vc⟩ := vc
        refine SW.iast kp_124 (by decide) (hW.le (by decide)) vc.1 dX10_owesLine_85 ?_
        replace vc := vc.2
        refine SW.aload_n dX10_owesLine_86 rfl ?_
        refine SW.getS (f := 16) (r := 124) aw_cl10 kp_120 (by decide) (hW.le (by decide)) (by decide) ww_1258 dX10_owesLine_87 rfl hW.t120_16 ?_
        refine SW.iload_n dX10_owesLine_90 rfl ?_
        refine SW.iconst (v := (3 : Int32)) dX10_owesLine_91 (by decide) ?_
        refine SW.iadd dX10_owesLine_92 ?_
        refine SW.aload_n dX10_owesLine_93 rfl ?_
        refine SW.ldcS (j := 37) rfl dX10_owesLine_94 ?_
        refine SW.iconst (v := (0 : Int32)) dX10_owesLine_96 (by decide) ?_
        refine SW.bipush (v := (9 : Int32)) dX10_owesLine_97 (by decide) ?_
        refine SW.cvi3 kV_X10_203 (by omega) aw_cl10 kp_120 (by decide) (hW.le (by decide)) rfl (Nat.le_of_ble_eq_true rfl) dX10_owesLine_99 (SMi.mono vc ?_)
        intro a9 n9 σ9 τ9 θ9 vc
        obtain ⟨hW, vc⟩ := vc
        refine SW.iast kp_124 (by decide) (hW.le (by decide)) vc.1 dX10_owesLine_102 ?_
        replace vc := vc.2
        refine SW.aload_n dX10_owesLine_103 rfl ?_
        refine SW.getI (f := 13) aw_cl10 kp_120 (by decide) (hW.le (by decide)) (by decide) ww_1255 dX10_owesLine_104 rfl ?_
        refine SW.if_ne 120 dX10_owesLine_107 (by decide) (fun hbr => ?_) (fun hbr => ?_)
        · replace vc := vc.1 hbr
          exact SW.vret dX10_owesLine_120 rfl ⟨rfl, vc⟩
        · replace vc := vc.2 hbr
          refine SW.aload_n dX10_owesLine_110 rfl ?_
          refine SW.getS (f := 16) (r := 124) aw_cl10 kp_120 (by decide) (hW.le (by decide)) (by decide) ww_1258 dX10_owesLine_111 rfl hW.t120_16 ?_
          refine SW.iload_n dX10_owesLine_114 rfl ?_
          refine SW.dup2 dX10_owesLine_115 rfl rfl ?_
          refine SW.iald kp_124 (by decide) (hW.le (by decide)) vc.1 dX10_owesLine_116 ?_
          replace vc := vc.2
          refine SW.iconst (v := (1 : Int32)) dX10_owesLine_117 (by decide) ?_
          refine SW.iadd dX10_owesLine_118 ?_
          refine SW.iast kp_124 (by decide) (hW.le (by decide)) vc.1 dX10_owesLine_119 ?_
          replace vc := vc.2
          exact SW.vret dX10_owesLine_120 rfl ⟨rfl, vc⟩
      · replace vc := vc.2 hbr
        refine SW.aload_n dX10_owesLine_58 rfl ?_
        refine SW.iconst (v := (3 : Int32)) dX10_owesLine_59 (by decide) ?_
        refine SW.aload_n dX10_owesLine_60 rfl ?_
        refine SW.getI (f := 4) aw_cl10 kp_120 (by decide) (hW.le (by decide)) (by decide) ww_1246 dX10_owesLine_61 rfl ?_
        refine SW.cvv2 kV_X10_115 (by omega) aw_cl10 kp_120 (by decide) (hW.le (by decide)) rfl (Nat.le_of_ble_eq_true rfl) dX10_owesLine_64 (SMv.mono vc ?_)
        intro n10 σ10 τ10 θ10 vc
        obtain ⟨hW, vc⟩ := vc
        refine SW.aload_n dX10_owesLine_67 rfl ?_
        refine SW.cvv0 kV_X10_176 (by omega) aw_cl10 kp_120 (by decide) (hW.le (by decide)) rfl (Nat.le_of_ble_eq_true rfl) dX10_owesLine_68 (SMv.mono vc ?_)
        intro n11 σ11 τ11 θ11 vc
        obtain ⟨hW, vc⟩ := vc
        refine SW.aload_n dX10_owesLine_71 rfl ?_
        refine SW.getS (f := 16) (r := 124) aw_cl10 kp_120 (by decide) (hW.le (by decide)) (by decide) ww_1258 dX10_owesLine_72 rfl hW.t120_16 ?_
        refine SW.iload_n dX10_owesLine_75 rfl ?_
        refine SW.iconst (v := (2 : Int32)) dX10_owesLine_76 (by decide) ?_
        refine SW.iadd dX10_owesLine_77 ?_
        refine SW.aload_n dX10_owesLine_78 rfl ?_
        refine SW.iconst (v := (1 : Int32)) dX10_owesLine_79 (by decide) ?_
        refine SW.bipush (v := (99 : Int32)) dX10_owesLine_80 (by decide) ?_
        refine SW.cvi2 kV_X10_151 (by omega) aw_cl10 kp_120 (by decide) (hW.le (by decide)) rfl (Nat.le_of_ble_eq_true rfl) dX10_owesLine_82 (SMi.mono vc ?_)
        intro a12 n12 σ12 τ12 θ12 vc
        obtain ⟨hW, vc⟩ := vc
        refine SW.iast kp_124 (by decide) (hW.le (by decide)) vc.1 dX10_owesLine_85 ?_
        replace vc := vc.2
        refine SW.aload_n dX10_owesLine_86 rfl ?_
        refine SW.getS (f := 16) (r := 124) aw_cl10 kp_120 (by decide) (hW.le (by decide)) (by decide) ww_1258 dX10_owesLine_87 rfl hW.t120_16 ?_
        refine SW.iload_n dX10_owesLine_90 rfl ?_
        refine SW.iconst (v := (3 : Int32)) dX10_owesLine_91 (by decide) ?_
        refine SW.iadd dX10_owesLine_92 ?_
        refine SW.aload_n dX10_owesLine_93 rfl ?_
        refine SW.ldcS (j := 37) rfl dX10_owesLine_94 ?_
        refine SW.iconst (v := (0 : Int32)) dX10_owesLine_96 (by decide) ?_
        refine SW.bipush (v := (9 : Int32)) dX10_owesLine_97 (by decide) ?_
        refine SW.cvi3 kV_X10_203 (by omega) aw_cl10 kp_120 (by decide) (hW.le (by decide)) rfl (Nat.le_of_ble_eq_true rfl) dX10_owesLine_99 (SMi.mono vc ?_)
        intro a13 n13 σ13 τ13 θ13 vc
        obtain ⟨hW, vc⟩ := vc
        refine SW.iast kp_124 (by decide) (hW.le (by decide)) vc.1 dX10_owesLine_102 ?_
        replace vc := vc.2
        refine SW.aload_n dX10_owesLine_103 rfl ?_
        refine SW.getI (f := 13) aw_cl10 kp_120 (by decide) (hW.le (by decide)) (by decide) ww_1255 dX10_owesLine_104 rfl ?_
        refine SW.if_ne 120 dX10_owesLine_107 (by decide) (fun hbr => ?_) (fun hbr => ?_)
        · replace vc := vc.1 hbr
          exact SW.vret dX10_owesLine_120 rfl ⟨rfl, vc⟩
        · replace vc := vc.2 hbr
          refine SW.aload_n dX10_owesLine_110 rfl ?_
          refine SW.getS (f := 16) (r := 124) aw_cl10 kp_120 (by decide) (hW.le (by decide)) (by decide) ww_1258 dX10_owesLine_111 rfl hW.t120_16 ?_
          refine SW.iload_n dX10_owesLine_114 rfl ?_
          refine SW.dup2 dX10_owesLine_115 rfl rfl ?_
          refine SW.iald kp_124 (by decide) (hW.le (by decide)) vc.1 dX10_owesLine_116 ?_
          replace vc := vc.2
          refine SW.iconst (v := (1 : Int32)) dX10_owesLine_117 (by decide) ?_
          refine SW.iadd dX10_owesLine_118 ?_
          refine SW.iast kp_124 (by decide) (hW.le (by decide)) vc.1 dX10_owesLine_119 ?_
          replace vc := vc.2
          exact SW.vret dX10_owesLine_120 rfl ⟨rfl, vc⟩
  · replace vc := vc.2 hbr
    exact SW.vret dX10_owesLine_7 rfl ⟨rfl, vc⟩
theorem ctX10_owesLine {G : GG} {q : Nat → SG → TU → TH → Prop} {n : Nat} {σ : SG} {τ : TU} {θ : TH} (x1 : Int32) (x2 : Int32) (h : SW G 9 mX10_owesLine (aw_qv q) 0 0 0 [some (.ref 120), some (.int x1), some (.int x2)] [] (n, σ, τ, θ)) : SMv G 9 mX10_owesLine 0 0 [.ref 120, .int x1, .int x2] n σ τ θ q := SM.of _ rfl rfl (Nat.le_of_ble_eq_true rfl) h
set_option maxHeartbeats 4000000 in
set_option maxRecDepth 20000 in
theorem sgX10_owesNow_0 {G : GG} {k : Nat} {q : Int32 → Nat → SG → TU → TH → Prop} {n : Nat} {σ : SG} {τ : TU} {θ : TH}  (x1 : Int32) (x2 : Int32) (hk : 4 ≤ k)  (hW : aw_WT n θ) (vc : SMi G 3 mX10_leftFrom 0 0 [.ref 120, .int x1, .int x2] n σ τ θ (fun a1 n1 σ1 τ1 θ1 => aw_WT n1 θ1 ∧ (((a1 ≤ 0) → (q (0 : Int32) n1 σ1 τ1 θ1)) ∧ ((¬ a1 ≤ 0) → (q (1 : Int32) n1 σ1 τ1 θ1))))) : SW G k mX10_owesNow (aw_qi q) 0 0 0 [some (.ref 120), some (.int x1), some (.int x2)] [] (n, σ, τ, θ) := by
  refine SW.aload_n dX10_owesNow_0 rfl ?_
  refine SW.iload_n dX10_owesNow_1 rfl ?_
  refine SW.iload_n dX10_owesNow_2 rfl ?_
  refine SW.cvi2 kV_X10_267 (by omega) aw_cl10 kp_120 (by decide) (hW.le (by decide)) rfl (Nat.le_of_ble_eq_true rfl) dX10_owesNow_3 (SMi.mono vc ?_)
  intro a1 n1 σ1 τ1 θ1 vc
  obtain ⟨hW, vc⟩ := vc
  refine SW.if_le 13 dX10_owesNow_6 (by decide) (fun hbr => ?_) (fun hbr => ?_)
  · replace vc := vc.1 hbr
    refine SW.iconst (v := (0 : Int32)) dX10_owesNow_13 (by decide) ?_
    exact SW.iret dX10_owesNow_14 rfl rfl ⟨_, rfl, vc⟩
  · replace vc := vc.2 hbr
    refine SW.iconst (v := (1 : Int32)) dX10_owesNow_9 (by decide) ?_
    refine SW.goto 14 dX10_owesNow_10 (by decide) ?_
    exact SW.iret dX10_owesNow_14 rfl rfl ⟨_, rfl, vc⟩
theorem ctX10_owesNow {G : GG} {q : Int32 → Nat → SG → TU → TH → Prop} {n : Nat} {σ : SG} {τ : TU} {θ : TH} (x1 : Int32) (x2 : Int32) (h : SW G 4 mX10_owesNow (aw_qi q) 0 0 0 [some (.ref 120), some (.int x1), some (.int x2)] [] (n, σ, τ, θ)) : SMi G 4 mX10_owesNow 0 0 [.ref 120, .int x1, .int x2] n σ τ θ q := SM.of _ rfl rfl (Nat.le_of_ble_eq_true rfl) h
