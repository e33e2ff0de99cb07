set_option maxHeartbeats 4000000 in
set_option maxRecDepth 20000 in
theorem sgX4_fitNumber_0 {G : GG} {k : Nat} {q : Int32 → Nat → SG → TU → TH → Prop} {n : Nat} {σ : SG} {τ : TU} {θ : TH}  (x1 : Int32) (hk : 1 ≤ k)  (hW : aw_WT n θ) (vc : SW G k mX4_fitNumber (aw_qi q) 0 0 4 [some (.ref 77), some (.int x1), some (.int (0 : Int32)), some (.int (0 : Int32))] [] (n, σ, τ, θ)) : SW G k mX4_fitNumber (aw_qi q) 0 0 0 [some (.ref 77), some (.int x1), none, none] [] (n, σ, τ, θ) := by
  refine SW.iconst (v := (0 : Int32)) dX4_fitNumber_0 (by decide) ?_
  refine SW.istore_n dX4_fitNumber_1 (by decide) rfl rfl ?_
  refine SW.iconst (v := (0 : Int32)) dX4_fitNumber_2 (by decide) ?_
  refine SW.istore_n dX4_fitNumber_3 (by decide) rfl rfl ?_
  exact vc
set_option maxHeartbeats 4000000 in
set_option maxRecDepth 20000 in
theorem sgX4_fitNumber_4 {G : GG} {k : Nat} {q : Int32 → Nat → SG → TU → TH → Prop} {n : Nat} {σ : SG} {τ : TU} {θ : TH}  (x1 : Int32) (x2 : Int32) (x3 : Int32) (hk : 1 ≤ k)  (hW : aw_WT n θ) (vc : (((σ 77 2) ≤ x3) → (q (-1 : Int32) n σ τ θ)) ∧ ((¬ (σ 77 2) ≤ x3) → (vp_in x3 16 ∧ ((((lg_cmp (τ 78 x3.toNatClampNeg) (0 : Int64)) ≤ 0) → (SW G k mX4_fitNumber (aw_qi q) 0 0 4 [some (.ref 77), some (.int x1), some (.int x2), some (.int (x3 + (1 : Int32)))] [] (n, σ, τ, θ))) ∧ ((¬ (lg_cmp (τ 78 x3.toNatClampNeg) (0 : Int64)) ≤ 0) → (((¬ x2 = x1) → (SW G k mX4_fitNumber (aw_qi q) 0 0 4 [some (.ref 77), some (.int x1), some (.int (x2 + (1 : Int32))), some (.int (x3 + (1 : Int32)))] [] (n, σ, τ, θ))) ∧ ((x2 = x1) → (q x3 n σ τ θ)))))))) : SW G k mX4_fitNumber (aw_qi q) 0 0 4 [some (.ref 77), some (.int x1), some (.int x2), some (.int x3)] [] (n, σ, τ, θ) := by
  refine SW.iload_n dX4_fitNumber_4 rfl ?_
  refine SW.aload_n dX4_fitNumber_5 rfl ?_
  refine SW.getI (f := 2) aw_cl4 kp_77 (by decide) (hW.le (by decide)) (by decide) ww_289 dX4_fitNumber_6 rfl ?_
  refine SW.icmp_ge 39 dX4_fitNumber_9 (by decide) (fun hbr => ?_) (fun hbr => ?_)
  · replace vc := vc.1 hbr
    refine SW.iconst (v := (-1 : Int32)) dX4_fitNumber_39 (by decide) ?_
    exact SW.iret dX4_fitNumber_40 rfl rfl ⟨_, rfl, vc⟩
  · replace vc := vc.2 hbr
    refine SW.aload_n dX4_fitNumber_12 rfl ?_
    refine SW.getS (f := 3) (r := 78) aw_cl4 kp_77 (by decide) (hW.le (by decide)) (by decide) ww_290 dX4_fitNumber_13 rfl hW.t77_3 ?_
    refine SW.iload_n dX4_fitNumber_16 rfl ?_
    refine SW.lald kp_78 (by decide) (hW.le (by decide)) vc.1 dX4_fitNumber_17 ?_
    replace vc := vc.2
    refine SW.lconst (v := (0 : Int64)) dX4_fitNumber_18 (by decide) ?_
    refine SW.lcmp dX4_fitNumber_19 ?_
    refine SW.if_le 33 dX4_fitNumber_20 (by decide) (fun hbr => ?_) (fun hbr => ?_)
    · replace vc := vc.1 hbr
      refine SW.iinc (v := (x3 + (1 : Int32))) dX4_fitNumber_33 rfl rfl (by decide) rfl rfl ?_
      refine SW.goto 4 dX4_fitNumber_36 (by decide) ?_
      exact vc
    · replace vc := vc.2 hbr
      refine SW.iload_n dX4_fitNumber_23 rfl ?_
      refine SW.iload_n dX4_fitNumber_24 rfl ?_
      refine SW.icmp_ne 30 dX4_fitNumber_25 (by decide) (fun hbr => ?_) (fun hbr => ?_)
      · replace vc := vc.1 hbr
        refine SW.iinc (v := (x2 + (1 : Int32))) dX4_fitNumber_30 rfl rfl (by decide) rfl rfl ?_
        refine SW.iinc (v := (x3 + (1 : Int32))) dX4_fitNumber_33 rfl rfl (by decide) rfl rfl ?_
        refine SW.goto 4 dX4_fitNumber_36 (by decide) ?_
        exact vc
      · replace vc := vc.2 hbr
        refine SW.iload_n dX4_fitNumber_28 rfl ?_
        exact SW.iret dX4_fitNumber_29 rfl rfl ⟨_, rfl, vc⟩
theorem ctX4_fitNumber {G : GG} {q : Int32 → Nat → SG → TU → TH → Prop} {n : Nat} {σ : SG} {τ : TU} {θ : TH} (x1 : Int32) (h : SW G 1 mX4_fitNumber (aw_qi q) 0 0 0 [some (.ref 77), some (.int x1), none, none] [] (n, σ, τ, θ)) : SMi G 1 mX4_fitNumber 0 0 [.ref 77, .int x1] n σ τ θ q := SM.of _ rfl rfl (Nat.le_of_ble_eq_true rfl) h
set_option maxHeartbeats 4000000 in
set_option maxRecDepth 20000 in
theorem sgX4_headWith_0 {G : GG} {k : Nat} {q : Int32 → Nat → SG → TU → TH → Prop} {n : Nat} {σ : SG} {τ : TU} {θ : TH} (f : Nat) (t1 : Nat) (x2 : Int32) (x3 : Int32) (hk : 3 ≤ k) (hf : isF f) (ht1 : isM t1) (hW : aw_WT n θ) (vc : SMi G 2 mX1_burdenOf 0 0 [.ref f, .ref t1, .int x2, .int (σ t1 2)] n σ τ θ (fun a1 n1 σ1 τ1 θ1 => aw_WT n1 θ1 ∧ (SW G k mX4_headWith (aw_qi q) 0 0 15 [some (.ref f), some (.ref t1), some (.int x2), some (.int x3), some (.int a1), some (.int (0 : Int32))] [] (n1, σ1, τ1, θ1)))) : SW G k mX4_headWith (aw_qi q) 0 0 0 [some (.ref f), some (.ref t1), some (.int x2), some (.int x3), none, none] [] (n, σ, τ, θ) := by
  refine SW.aload_n dX4_headWith_0 rfl ?_
  refine SW.aload_n dX4_headWith_1 rfl ?_
  refine SW.iload_n dX4_headWith_2 rfl ?_
  refine SW.aload_n dX4_headWith_3 rfl ?_
  refine SW.getI (f := 2) aw_cl2 (kpM_0 ht1) (leM_0 ht1).1 (hW.le (leM_0 ht1).2) (by decide) ww_202 dX4_headWith_4 rfl ?_
  refine SW.cvi3 kV_X4_60 (by omega) aw_cl1 (kpF_0 hf) (leF_0 hf).1 (hW.le (leF_0 hf).2) rfl (Nat.le_of_ble_eq_true rfl) dX4_headWith_7 (SMi.mono vc ?_)
  intro a1 n1 σ1 τ1 θ1 vc
  obtain ⟨hW, vc⟩ := vc
  refine SW.istore dX4_headWith_10 (by decide) rfl rfl ?_
  refine SW.iconst (v := (0 : Int32)) dX4_headWith_12 (by decide) ?_
  refine SW.istore dX4_headWith_13 (by decide) rfl rfl ?_
  exact vc
set_option maxHeartbeats 4000000 in
set_option maxRecDepth 20000 in
theorem sgX4_headWith_15 {G : GG} {k : Nat} {q : Int32 → Nat → SG → TU → TH → Prop} {n : Nat} {σ : SG} {τ : TU} {θ : TH} (f : Nat) (t1 : Nat) (x2 : Int32) (x3 : Int32) (x4 : Int32) (x5 : Int32) (hk : 3 ≤ k) (hf : isF f) (ht1 : isM t1) (hW : aw_WT n θ) (vc : (((σ (f + 13) 4) ≤ x5) → (SMi G 1 mX1_headBy 0 0 [.ref f, .int x2, .int x4] n σ τ θ (fun a1 n1 σ1 τ1 θ1 => aw_WT n1 θ1 ∧ (q a1 n1 σ1 τ1 θ1)))) ∧ ((¬ (σ (f + 13) 4) ≤ x5) → (((((x3 >>> (x5 &&& 31)) &&& (1 : Int32)) = 0) → (SW G k mX4_headWith (aw_qi q) 0 0 15 [some (.ref f), some (.ref t1), some (.int x2), some (.int x3), some (.int x4), some (.int (x5 + (1 : Int32)))] [] (n, σ, τ, θ))) ∧ ((¬ ((x3 >>> (x5 &&& 31)) &&& (1 : Int32)) = 0) → (vp_in x5 4 ∧ (((¬ (σ (f + 14) x5.toNatClampNeg) = x2) → (SW G k mX4_headWith (aw_qi q) 0 0 15 [some (.ref f), some (.ref t1), some (.int x2), some (.int x3), some (.int x4), some (.int (x5 + (1 : Int32)))] [] (n, σ, τ, θ))) ∧ (((σ (f + 14) x5.toNatClampNeg) = x2) → (vp_in x5 4 ∧ ((((σ t1 2) < (σ (f + 17) x5.toNatClampNeg)) → (SW G k mX4_headWith (aw_qi q) 0 0 15 [some (.ref f), some (.ref t1), some (.int x2), some (.int x3), some (.int x4), some (.int (x5 + (1 : Int32)))] [] (n, σ, τ, θ))) ∧ ((¬ (σ t1 2) < (σ (f + 17) x5.toNatClampNeg)) → (vp_in x5 4 ∧ (SMi G 1 mX1_tinesFor 0 0 [.ref f, .int (σ (f + 16) x5.toNatClampNeg)] n σ τ θ (fun a2 n2 σ2 τ2 θ2 => aw_WT n2 θ2 ∧ (SW G k mX4_headWith (aw_qi q) 0 0 15 [some (.ref f), some (.ref t1), some (.int x2), some (.int x3), some (.int (x4 + a2)), some (.int (x5 + (1 : Int32)))] [] (n2, σ2, τ2, θ2))))))))))))))) : SW G k mX4_headWith (aw_qi q) 0 0 15 [some (.ref f), some (.ref t1), some (.int x2), some (.int x3), some (.int x4), some (.int x5)] [] (n, σ, τ, θ) := by
  refine SW.iload dX4_headWith_15 rfl ?_
  refine SW.aload_n dX4_headWith_17 rfl ?_
  refine SW.getS (f := 8) (r := f + 13) aw_cl1 (kpF_0 hf) (leF_0 hf).1 (hW.le (leF_0 hf).2) (by decide) ww_400 dX4_headWith_18 rfl (hW.f8 hf) ?_
  refine SW.getI (f := 4) aw_cl0 (kpF_13 hf) (leF_13 hf).1 (hW.le (leF_13 hf).2) (by decide) ww_355 dX4_headWith_21 rfl ?_
  refine SW.icmp_ge 92 dX4_headWith_24 (by decide) (fun hbr => ?_) (fun hbr => ?_)
  · replace vc := vc.1 hbr
    refine SW.aload_n dX4_headWith_92 rfl ?_
    refine SW.iload_n dX4_headWith_93 rfl ?_
    refine SW.iload dX4_headWith_94 rfl ?_
    refine SW.cvi2 kV_X4_76 (by omega) aw_cl1 (kpF_0 hf) (leF_0 hf).1 (hW.le (leF_0 hf).2) rfl (Nat.le_of_ble_eq_true rfl) dX4_headWith_96 (SMi.mono vc ?_)
    intro a1 n1 σ1 τ1 θ1 vc
    obtain ⟨hW, vc⟩ := vc
    exact SW.iret dX4_headWith_99 rfl rfl ⟨_, rfl, vc⟩
  · replace vc := vc.2 hbr
    refine SW.iload_n dX4_headWith_27 rfl ?_
    refine SW.iload dX4_headWith_28 rfl ?_
    refine SW.ishr dX4_headWith_30 ?_
    refine SW.iconst (v := (1 : Int32)) dX4_headWith_31 (by decide) ?_
    refine SW.iand dX4_headWith_32 ?_
    refine SW.if_eq 86 dX4_headWith_33 (by decide) (fun hbr => ?_) (fun hbr => ?_)
    · replace vc := vc.1 hbr
      refine SW.iinc (v := (x5 + (1 : Int32))) dX4_headWith_86 rfl rfl (by decide) rfl rfl ?_
      refine SW.goto 15 dX4_headWith_89 (by decide) ?_
      exact vc
    · replace vc := vc.2 hbr
      refine SW.aload_n dX4_headWith_36 rfl ?_
      refine SW.getS (f := 8) (r := f + 13) aw_cl1 (kpF_0 hf) (leF_0 hf).1 (hW.le (leF_0 hf).2) (by decide) ww_400 dX4_headWith_37 rfl (hW.f8 hf) ?_
      refine SW.getS (f := 0) (r := f + 14) aw_cl0 (kpF_13 hf) (leF_13 hf).1 (hW.le (leF_13 hf).2) (by decide) ww_334 dX4_headWith_40 rfl (hW.f13_0 hf) ?_
      refine SW.iload dX4_headWith_43 rfl ?_
      refine SW.iald (kpF_14 hf) (leF_14 hf).1 (hW.le (leF_14 hf).2) vc.1 dX4_headWith_45 ?_
      replace vc := vc.2
      refine SW.iload_n dX4_headWith_46 rfl ?_
      refine SW.icmp_ne 86 dX4_headWith_47 (by decide) (fun hbr => ?_) (fun hbr => ?_)
      · replace vc := vc.1 hbr
        refine SW.iinc (v := (x5 + (1 : Int32))) dX4_headWith_86 rfl rfl (by decide) rfl rfl ?_
        refine SW.goto 15 dX4_headWith_89 (by decide) ?_
        exact vc
      · replace vc := vc.2 hbr
        refine SW.aload_n dX4_headWith_50 rfl ?_
        refine SW.getS (f := 8) (r := f + 13) aw_cl1 (kpF_0 hf) (leF_0 hf).1 (hW.le (leF_0 hf).2) (by decide) ww_400 dX4_headWith_51 rfl (hW.f8 hf) ?_
        refine SW.getS (f := 3) (r := f + 17) aw_cl0 (kpF_13 hf) (leF_13 hf).1 (hW.le (leF_13 hf).2) (by decide) ww_350 dX4_headWith_54 rfl (hW.f13_3 hf) ?_
        refine SW.iload dX4_headWith_57 rfl ?_
        refine SW.iald (kpF_17 hf) (leF_17 hf).1 (hW.le (leF_17 hf).2) vc.1 dX4_headWith_59 ?_
        replace vc := vc.2
        refine SW.aload_n dX4_headWith_60 rfl ?_
        refine SW.getI (f := 2) aw_cl2 (kpM_0 ht1) (leM_0 ht1).1 (hW.le (leM_0 ht1).2) (by decide) ww_202 dX4_headWith_61 rfl ?_
        refine SW.icmp_gt 86 dX4_headWith_64 (by decide) (fun hbr => ?_) (fun hbr => ?_)
        · replace vc := vc.1 hbr
          refine SW.iinc (v := (x5 + (1 : Int32))) dX4_headWith_86 rfl rfl (by decide) rfl rfl ?_
          refine SW.goto 15 dX4_headWith_89 (by decide) ?_
          exact vc
        · replace vc := vc.2 hbr
          refine SW.iload dX4_headWith_67 rfl ?_
          refine SW.aload_n dX4_headWith_69 rfl ?_
          refine SW.aload_n dX4_headWith_70 rfl ?_
          refine SW.getS (f := 8) (r := f + 13) aw_cl1 (kpF_0 hf) (leF_0 hf).1 (hW.le (leF_0 hf).2) (by decide) ww_400 dX4_headWith_71 rfl (hW.f8 hf) ?_
          refine SW.getS (f := 2) (r := f + 16) aw_cl0 (kpF_13 hf) (leF_13 hf).1 (hW.le (leF_13 hf).2) (by decide) ww_346 dX4_headWith_74 rfl (hW.f13_2 hf) ?_
          refine SW.iload dX4_headWith_77 rfl ?_
          refine SW.iald (kpF_16 hf) (leF_16 hf).1 (hW.le (leF_16 hf).2) vc.1 dX4_headWith_79 ?_
          replace vc := vc.2
          refine SW.cvi1 kV_X4_72 (by omega) aw_cl1 (kpF_0 hf) (leF_0 hf).1 (hW.le (leF_0 hf).2) rfl (Nat.le_of_ble_eq_true rfl) dX4_headWith_80 (SMi.mono vc ?_)
          intro a2 n2 σ2 τ2 θ2 vc
          obtain ⟨hW, vc⟩ := vc
          refine SW.iadd dX4_headWith_83 ?_
          refine SW.istore dX4_headWith_84 (by decide) rfl rfl ?_
          refine SW.iinc (v := (x5 + (1 : Int32))) dX4_headWith_86 rfl rfl (by decide) rfl rfl ?_
          refine SW.goto 15 dX4_headWith_89 (by decide) ?_
          exact vc
theorem ctX4_headWith {G : GG} {q : Int32 → Nat → SG → TU → TH → Prop} {n : Nat} {σ : SG} {τ : TU} {θ : TH} (f : Nat) (t1 : Nat) (x2 : Int32) (x3 : Int32) (h : SW G 3 mX4_headWith (aw_qi q) 0 0 0 [some (.ref f), some (.ref t1), some (.int x2), some (.int x3), none, none] [] (n, σ, τ, θ)) : SMi G 3 mX4_headWith 0 0 [.ref f, .ref t1, .int x2, .int x3] n σ τ θ q := SM.of _ rfl rfl (Nat.le_of_ble_eq_true rfl) h
set_option maxHeartbeats 4000000 in
set_option maxRecDepth 20000 in
theorem sgX4_heaviest_0 {G : GG} {k : Nat} {q : Int32 → Nat → SG → TU → TH → Prop} {n : Nat} {σ : SG} {τ : TU} {θ : TH}   (hk : 1 ≤ k)  (hW : aw_WT n θ) (vc : SW G k mX4_heaviest (aw_qi q) 0 0 8 [some (.ref 77), some (.int (-2 : Int32)), some (.long (0 : Int64)), none, some (.int (0 : Int32))] [] (n, σ, τ, θ)) : SW G k mX4_heaviest (aw_qi q) 0 0 0 [some (.ref 77), none, none, none, none] [] (n, σ, τ, θ) := by
  refine SW.bipush (v := (-2 : Int32)) dX4_heaviest_0 (by decide) ?_
  refine SW.istore_n dX4_heaviest_2 (by decide) rfl rfl ?_
  refine SW.lconst (v := (0 : Int64)) dX4_heaviest_3 (by decide) ?_
  refine SW.lstore_n dX4_heaviest_4 (by decide) rfl rfl ?_
  refine SW.iconst (v := (0 : Int32)) dX4_heaviest_5 (by decide) ?_
  refine SW.istore dX4_heaviest_6 (by decide) rfl rfl ?_
  exact vc
set_option maxHeartbeats 4000000 in
set_option maxRecDepth 20000 in
theorem sgX4_heaviest_8 {G : GG} {k : Nat} {q : Int32 → Nat → SG → TU → TH → Prop} {n : Nat} {σ : SG} {τ : TU} {θ : TH}  (x1 : Int32) (x2 : Int64) (x4 : Int32) (hk : 1 ≤ k)  (hW : aw_WT n θ) (vc : (((σ 77 2) ≤ x4) → (q x1 n σ τ θ)) ∧ ((¬ (σ 77 2) ≤ x4) → (vp_in x4 16 ∧ ((((lg_cmp (τ 78 x4.toNatClampNeg) x2) ≤ 0) → (SW G k mX4_heaviest (aw_qi q) 0 0 8 [some (.ref 77), some (.int x1), some (.long x2), none, some (.int (x4 + (1 : Int32)))] [] (n, σ, τ, θ))) ∧ ((¬ (lg_cmp (τ 78 x4.toNatClampNeg) x2) ≤ 0) → (vp_in x4 16 ∧ (SW G k mX4_heaviest (aw_qi q) 0 0 8 [some (.ref 77), some (.int x4), some (.long (τ 78 x4.toNatClampNeg)), none, some (.int (x4 + (1 : Int32)))] [] (n, σ, τ, θ)))))))) : SW G k mX4_heaviest (aw_qi q) 0 0 8 [some (.ref 77), some (.int x1), some (.long x2), none, some (.int x4)] [] (n, σ, τ, θ) := by
  refine SW.iload dX4_heaviest_8 rfl ?_
  refine SW.aload_n dX4_heaviest_10 rfl ?_
  refine SW.getI (f := 2) aw_cl4 kp_77 (by decide) (hW.le (by decide)) (by decide) ww_289 dX4_heaviest_11 rfl ?_
  refine SW.icmp_ge 46 dX4_heaviest_14 (by decide) (fun hbr => ?_) (fun hbr => ?_)
  · replace vc := vc.1 hbr
    refine SW.iload_n dX4_heaviest_46 rfl ?_
    exact SW.iret dX4_heaviest_47 rfl rfl ⟨_, rfl, vc⟩
  · replace vc := vc.2 hbr
    refine SW.aload_n dX4_heaviest_17 rfl ?_
    refine SW.getS (f := 3) (r := 78) aw_cl4 kp_77 (by decide) (hW.le (by decide)) (by decide) ww_290 dX4_heaviest_18 rfl hW.t77_3 ?_
    refine SW.iload dX4_heaviest_21 rfl ?_
    refine SW.lald kp_78 (by decide) (hW.le (by decide)) vc.1 dX4_heaviest_23 ?_
    replace vc := vc.2
    refine SW.lload_n dX4_heaviest_24 rfl ?_
    refine SW.lcmp dX4_heaviest_25 ?_
    refine SW.if_le 40 dX4_heaviest_26 (by decide) (fun hbr => ?_) (fun hbr => ?_)
    · replace vc := vc.1 hbr
      refine SW.iinc (v := (x4 + (1 : Int32))) dX4_heaviest_40 rfl rfl (by decide) rfl rfl ?_
      refine SW.goto 8 dX4_heaviest_43 (by decide) ?_
      exact vc
    · replace vc := vc.2 hbr
      refine SW.aload_n dX4_heaviest_29 rfl ?_
      refine SW.getS (f := 3) (r := 78) aw_cl4 kp_77 (by decide) (hW.le (by decide)) (by decide) ww_290 dX4_heaviest_30 rfl hW.t77_3 ?_
      refine SW.iload dX4_heaviest_33 rfl ?_
      refine SW.lald kp_78 (by decide) (hW.le (by decide)) vc.1 dX4_heaviest_35 ?_
      replace vc := vc.2
      refine SW.lstore_n dX4_heaviest_36 (by decide) rfl rfl ?_
      refine SW.iload dX4_heaviest_37 rfl ?_
      refine SW.istore_n dX4_heaviest_39 (by decide) rfl rfl ?_
      refine SW.iinc (v := (x4 + (1 : Int32))) dX4_heaviest_40 rfl rfl (by decide) rfl rfl ?_
      refine SW.goto 8 dX4_heaviest_43 (by decide) ?_
      exact vc
theorem ctX4_heaviest {G : GG} {q : Int32 → Nat → SG → TU → TH → Prop} {n : Nat} {σ : SG} {τ : TU} {θ : TH}  (h : SW G 1 mX4_heaviest (aw_qi q) 0 0 0 [some (.ref 77), none, none, none, none] [] (n, σ, τ, θ)) : SMi G 1 mX4_heaviest 0 0 [.ref 77] n σ τ θ q := SM.of _ rfl rfl (Nat.le_of_ble_eq_true rfl) h
set_option maxHeartbeats 4000000 in
set_option maxRecDepth 20000 in
theorem sgX4_leftAtMost_0 {G : GG} {k : Nat} {q : Int32 → Nat → SG → TU → TH → Prop} {n : Nat} {σ : SG} {τ : TU} {θ : TH} (f : Nat) (t2 : Nat) (x3 : Int32) (hk : 4 ≤ k) (hf : isF f) (ht2 : isM t2) (hW : aw_WT n θ) (vc : SW G k mX4_leftAtMost (aw_qi q) 0 0 3 [some (.ref 77), some (.ref f), some (.ref t2), some (.int x3), some (.int (0 : Int32)), none, none, none] [] (n, σ, τ, θ)) : SW G k mX4_leftAtMost (aw_qi q) 0 0 0 [some (.ref 77), some (.ref f), some (.ref t2), some (.int x3), none, none, none, none] [] (n, σ, τ, θ) := by
  refine SW.iconst (v := (0 : Int32)) dX4_leftAtMost_0 (by decide) ?_
  refine SW.istore dX4_leftAtMost_1 (by decide) rfl rfl ?_
  exact vc
set_option maxHeartbeats 4000000 in
set_option maxRecDepth 20000 in
theorem sgX4_leftAtMost_3 {G : GG} {k : Nat} {q : Int32 → Nat → SG → TU → TH → Prop} {n : Nat} {σ : SG} {τ : TU} {θ : TH} (f : Nat) (t2 : Nat) (x3 : Int32) (x4 : Int32) (hk : 4 ≤ k) (hf : isF f) (ht2 : isM t2) (hW : aw_WT n θ) (vc : (((σ 77 2) ≤ x4) → (SW G k mX4_leftAtMost (aw_qi q) 0 0 39 [some (.ref 77), none, none, none, some (.int (0 : Int32)), some (.int (0 : Int32)), none, none] [] (n, σ, τ, θ))) ∧ ((¬ (σ 77 2) ≤ x4) → (SMi G 3 mX4_headWith 0 0 [.ref f, .ref t2, .int x3, .int x4] n σ τ θ (fun a1 n1 σ1 τ1 θ1 => aw_WT n1 θ1 ∧ (vp_in x4 16 ∧ (SW G k mX4_leftAtMost (aw_qi q) 0 0 3 [some (.ref 77), some (.ref f), some (.ref t2), some (.int x3), some (.int (x4 + (1 : Int32))), none, none, none] [] (n1, (aw_u σ1 79 x4.toNatClampNeg a1), τ1, θ1))))))) : SW G k mX4_leftAtMost (aw_qi q) 0 0 3 [some (.ref 77), some (.ref f), some (.ref t2), some (.int x3), some (.int x4), none, none, none] [] (n, σ, τ, θ) := by
  refine SW.iload dX4_leftAtMost_3 rfl ?_
  refine SW.aload_n dX4_leftAtMost_5 rfl ?_
  refine SW.getI (f := 2) aw_cl4 kp_77 (by decide) (hW.le (by decide)) (by decide) ww_289 dX4_leftAtMost_6 rfl ?_
  refine SW.icmp_ge 33 dX4_leftAtMost_9 (by decide) (fun hbr => ?_) (fun hbr => ?_)
  · replace vc := vc.1 hbr
    refine SW.iconst (v := (0 : Int32)) dX4_leftAtMost_33 (by decide) ?_
    refine SW.istore dX4_leftAtMost_34 (by decide) rfl rfl ?_
    refine SW.iconst (v := (0 : Int32)) dX4_leftAtMost_36 (by decide) ?_
    refine SW.istore dX4_leftAtMost_37 (by decide) rfl rfl ?_
    refine SW.msk [true, false, false, false, true, true, true, true] rfl ?_
    exact vc
  · replace vc := vc.2 hbr
    refine SW.aload_n dX4_leftAtMost_12 rfl ?_
    refine SW.getS (f := 4) (r := 79) aw_cl4 kp_77 (by decide) (hW.le (by decide)) (by decide) ww_291 dX4_leftAtMost_13 rfl hW.t77_4 ?_
    refine SW.iload dX4_leftAtMost_16 rfl ?_
    refine SW.aload_n dX4_leftAtMost_18 rfl ?_
    refine SW.aload_n dX4_leftAtMost_19 rfl ?_
    refine SW.iload_n dX4_leftAtMost_20 rfl ?_
    refine SW.iload dX4_leftAtMost_21 rfl ?_
    refine SW.csi4 kS_X4_47 (by omega) (Nat.le_of_ble_eq_true rfl) dX4_leftAtMost_23 (SMi.mono vc ?_)
    intro a1 n1 σ1 τ1 θ1 vc
    obtain ⟨hW, vc⟩ := vc
    refine SW.iast kp_79 (by decide) (hW.le (by decide)) vc.1 dX4_leftAtMost_26 ?_
    replace vc := vc.2
    refine SW.iinc (v := (x4 + (1 : Int32))) dX4_leftAtMost_27 rfl rfl (by decide) rfl rfl ?_
    refine SW.goto 3 dX4_leftAtMost_30 (by decide) ?_
    exact vc
set_option maxHeartbeats 4000000 in
set_option maxRecDepth 20000 in
theorem sgX4_leftAtMost_39 {G : GG} {k : Nat} {q : Int32 → Nat → SG → TU → TH → Prop} {n : Nat} {σ : SG} {τ : TU} {θ : TH} (f : Nat) (t2 : Nat) (x4 : Int32) (x5 : Int32) (hk : 4 ≤ k) (hf : isF f) (ht2 : isM t2) (hW : aw_WT n θ) (vc : (((σ 77 2) ≤ x5) → (q x4 n σ τ θ)) ∧ ((¬ (σ 77 2) ≤ x5) → (SW G k mX4_leftAtMost (aw_qi q) 0 0 54 [some (.ref 77), none, none, none, some (.int x4), some (.int x5), some (.int (0 : Int32)), some (.int (0 : Int32))] [] (n, σ, τ, θ)))) : SW G k mX4_leftAtMost (aw_qi q) 0 0 39 [some (.ref 77), none, none, none, some (.int x4), some (.int x5), none, none] [] (n, σ, τ, θ) := by
  refine SW.iload dX4_leftAtMost_39 rfl ?_
  refine SW.aload_n dX4_leftAtMost_41 rfl ?_
  refine SW.getI (f := 2) aw_cl4 kp_77 (by decide) (hW.le (by decide)) (by decide) ww_289 dX4_leftAtMost_42 rfl ?_
  refine SW.icmp_ge 128 dX4_leftAtMost_45 (by decide) (fun hbr => ?_) (fun hbr => ?_)
  · replace vc := vc.1 hbr
    refine SW.iload dX4_leftAtMost_128 rfl ?_
    exact SW.iret dX4_leftAtMost_130 rfl rfl ⟨_, rfl, vc⟩
  · replace vc := vc.2 hbr
    refine SW.iconst (v := (0 : Int32)) dX4_leftAtMost_48 (by decide) ?_
    refine SW.istore dX4_leftAtMost_49 (by decide) rfl rfl ?_
    refine SW.iconst (v := (0 : Int32)) dX4_leftAtMost_51 (by decide) ?_
    refine SW.istore dX4_leftAtMost_52 (by decide) rfl rfl ?_
    exact vc
set_option maxHeartbeats 4000000 in
set_option maxRecDepth 20000 in
theorem sgX4_leftAtMost_54 {G : GG} {k : Nat} {q : Int32 → Nat → SG → TU → TH → Prop} {n : Nat} {σ : SG} {τ : TU} {θ : TH} (f : Nat) (t2 : Nat) (x4 : Int32) (x5 : Int32) (x6 : Int32) (x7 : Int32) (hk : 4 ≤ k) (hf : isF f) (ht2 : isM t2) (hW : aw_WT n θ) (vc : (((σ 77 2) ≤ x7) → (SW G k mX4_leftAtMost (aw_qi q) 0 0 39 [some (.ref 77), none, none, none, some (.int (if x4 < x6 then x6 else x4)), some (.int (x5 + (1 : Int32))), none, none] [] (n, σ, τ, θ))) ∧ ((¬ (σ 77 2) ≤ x7) → (vp_in x5 16 ∧ ((((lg_cmp (τ 78 x5.toNatClampNeg) (0 : Int64)) ≤ 0) → (SW G k mX4_leftAtMost (aw_qi q) 0 0 54 [some (.ref 77), none, none, none, some (.int x4), some (.int x5), some (.int x6), some (.int (x7 + (1 : Int32)))] [] (n, σ, τ, θ))) ∧ ((¬ (lg_cmp (τ 78 x5.toNatClampNeg) (0 : Int64)) ≤ 0) → (vp_in x7 16 ∧ ((((lg_cmp (τ 78 x7.toNatClampNeg) (0 : Int64)) ≤ 0) → (SW G k mX4_leftAtMost (aw_qi q) 0 0 54 [some (.ref 77), none, none, none, some (.int x4), some (.int x5), some (.int x6), some (.int (x7 + (1 : Int32)))] [] (n, σ, τ, θ))) ∧ ((¬ (lg_cmp (τ 78 x7.toNatClampNeg) (0 : Int64)) ≤ 0) → (vp_in x5 16 ∧ (vp_in x7 16 ∧ (((¬ (σ 79 x5.toNatClampNeg) = (σ 79 x7.toNatClampNeg)) → (SW G k mX4_leftAtMost (aw_qi q) 0 0 54 [some (.ref 77), none, none, none, some (.int x4), some (.int x5), some (.int x6), some (.int (x7 + (1 : Int32)))] [] (n, σ, τ, θ))) ∧ (((σ 79 x5.toNatClampNeg) = (σ 79 x7.toNatClampNeg)) → (SW G k mX4_leftAtMost (aw_qi q) 0 0 54 [some (.ref 77), none, none, none, some (.int x4), some (.int x5), some (.int (x6 + (1 : Int32))), some (.int (x7 + (1 : Int32)))] [] (n, σ, τ, θ)))))))))))))) : SW G k mX4_leftAtMost (aw_qi q) 0 0 54 [some (.ref 77), none, none, none, some (.int x4), some (.int x5), some (.int x6), some (.int x7)] [] (n, σ, τ, θ) := by
  refine SW.iload dX4_leftAtMost_54 rfl ?_
  refine SW.aload_n dX4_leftAtMost_56 rfl ?_
  refine SW.getI (f := 2) aw_cl4 kp_77 (by decide) (hW.le (by decide)) (by decide) ww_289 dX4_leftAtMost_57 rfl ?_
  refine SW.icmp_ge 113 dX4_leftAtMost_60 (by decide) (fun hbr => ?_) (fun hbr => ?_)
  · replace vc := vc.1 hbr
    refine SW.iload dX4_leftAtMost_113 rfl ?_
    refine SW.iload dX4_leftAtMost_115 rfl ?_
    refine SW.mmax ww_1024 ww_527 ww_123 ww_528 (by omega) (Nat.le_of_ble_eq_true rfl) dX4_leftAtMost_117 ?_
    refine SW.istore dX4_leftAtMost_120 (by decide) rfl rfl ?_
    refine SW.iinc (v := (x5 + (1 : Int32))) dX4_leftAtMost_122 rfl rfl (by decide) rfl rfl ?_
    refine SW.goto 39 dX4_leftAtMost_125 (by decide) ?_
    refine SW.msk [true, true, true, true, true, true, false, false] rfl ?_
    exact vc
  · replace vc := vc.2 hbr
    refine SW.aload_n dX4_leftAtMost_63 rfl ?_
    refine SW.getS (f := 3) (r := 78) aw_cl4 kp_77 (by decide) (hW.le (by decide)) (by decide) ww_290 dX4_leftAtMost_64 rfl hW.t77_3 ?_
    refine SW.iload dX4_leftAtMost_67 rfl ?_
    refine SW.lald kp_78 (by decide) (hW.le (by decide)) vc.1 dX4_leftAtMost_69 ?_
    replace vc := vc.2
    refine SW.lconst (v := (0 : Int64)) dX4_leftAtMost_70 (by decide) ?_
    refine SW.lcmp dX4_leftAtMost_71 ?_
    refine SW.if_le 107 dX4_leftAtMost_72 (by decide) (fun hbr => ?_) (fun hbr => ?_)
    · replace vc := vc.1 hbr
      refine SW.iinc (v := (x7 + (1 : Int32))) dX4_leftAtMost_107 rfl rfl (by decide) rfl rfl ?_
      refine SW.goto 54 dX4_leftAtMost_110 (by decide) ?_
      exact vc
    · replace vc := vc.2 hbr
      refine SW.aload_n dX4_leftAtMost_75 rfl ?_
      refine SW.getS (f := 3) (r := 78) aw_cl4 kp_77 (by decide) (hW.le (by decide)) (by decide) ww_290 dX4_leftAtMost_76 rfl hW.t77_3 ?_
      refine SW.iload dX4_leftAtMost_79 rfl ?_
      refine SW.lald kp_78 (by decide) (hW.le (by decide)) vc.1 dX4_leftAtMost_81 ?_
      replace vc := vc.2
      refine SW.lconst (v := (0 : Int64)) dX4_leftAtMost_82 (by decide) ?_
      refine SW.lcmp dX4_leftAtMost_83 ?_
      refine SW.if_le 107 dX4_leftAtMost_84 (by decide) (fun hbr => ?_) (fun hbr => ?_)
      · replace vc := vc.1 hbr
        refine SW.iinc (v := (x7 + (1 : Int32))) dX4_leftAtMost_107 rfl rfl (by decide) rfl rfl ?_
        refine SW.goto 54 dX4_leftAtMost_110 (by decide) ?_
        exact vc
      · replace vc := vc.2 hbr
        refine SW.aload_n dX4_leftAtMost_87 rfl ?_
        refine SW.getS (f := 4) (r := 79) aw_cl4 kp_77 (by decide) (hW.le (by decide)) (by decide) ww_291 dX4_leftAtMost_88 rfl hW.t77_4 ?_
        refine SW.iload dX4_leftAtMost_91 rfl ?_
        refine SW.iald kp_79 (by decide) (hW.le (by decide)) vc.1 dX4_leftAtMost_93 ?_
        replace vc := vc.2
        refine SW.aload_n dX4_leftAtMost_94 rfl ?_
        refine SW.getS (f := 4) (r := 79) aw_cl4 kp_77 (by decide) (hW.le (by decide)) (by decide) ww_291 dX4_leftAtMost_95 rfl hW.t77_4 ?_
        refine SW.iload dX4_leftAtMost_98 rfl ?_
        refine SW.iald kp_79 (by decide) (hW.le (by decide)) vc.1 dX4_leftAtMost_100 ?_
        replace vc := vc.2
        refine SW.icmp_ne 107 dX4_leftAtMost_101 (by decide) (fun hbr => ?_) (fun hbr => ?_)
        · replace vc := vc.1 hbr
          refine SW.iinc (v := (x7 + (1 : Int32))) dX4_leftAtMost_107 rfl rfl (by decide) rfl rfl ?_
          refine SW.goto 54 dX4_leftAtMost_110 (by decide) ?_
          exact vc
        · replace vc := vc.2 hbr
          refine SW.iinc (v := (x6 + (1 : Int32))) dX4_leftAtMost_104 rfl rfl (by decide) rfl rfl ?_
          refine SW.iinc (v := (x7 + (1 : Int32))) dX4_leftAtMost_107 rfl rfl (by decide) rfl rfl ?_
          refine SW.goto 54 dX4_leftAtMost_110 (by decide) ?_
          exact vc
theorem ctX4_leftAtMost {G : GG} {q : Int32 → Nat → SG → TU → TH → Prop} {n : Nat} {σ : SG} {τ : TU} {θ : TH} (f : Nat) (t2 : Nat) (x3 : Int32) (h : SW G 4 mX4_leftAtMost (aw_qi q) 0 0 0 [some (.ref 77), some (.ref f), some (.ref t2), some (.int x3), none, none, none, none] [] (n, σ, τ, θ)) : SMi G 4 mX4_leftAtMost 0 0 [.ref 77, .ref f, .ref t2, .int x3] n σ τ θ q := SM.of _ rfl rfl (Nat.le_of_ble_eq_true rfl) h
set_option maxHeartbeats 4000000 in
set_option maxRecDepth 20000 in
theorem sgX4_weigh_0 {G : GG} {k : Nat} {q : Nat → SG → TU → TH → Prop} {n : Nat} {σ : SG} {τ : TU} {θ : TH} (f : Nat) (t2 : Nat)  (hk : 4 ≤ k) (hf : isF f) (ht2 : isM t2) (hW : aw_WT n θ) (vc : SW G k mX4_weigh (aw_qv q) 0 0 25 [some (.ref 77), some (.ref f), some (.ref t2), some (.int (0 : Int32)), none, none, none] [] (n, (aw_u (aw_u σ 77 2 ((1 : Int32) <<< ((σ (f + 13) 4) &&& 31))) 77 0 (0 : Int32)), (aw_u τ 77 1 (0 : Int64)), θ)) : SW G k mX4_weigh (aw_qv q) 0 0 0 [some (.ref 77), some (.ref f), some (.ref t2), none, none, none, none] [] (n, σ, τ, θ) := by
  refine SW.aload_n dX4_weigh_0 rfl ?_
  refine SW.iconst (v := (1 : Int32)) dX4_weigh_1 (by decide) ?_
  refine SW.aload_n dX4_weigh_2 rfl ?_
  refine SW.getS (f := 8) (r := f + 13) aw_cl1 (kpF_0 hf) (leF_0 hf).1 (hW.le (leF_0 hf).2) (by decide) ww_400 dX4_weigh_3 rfl (hW.f8 hf) ?_
  refine SW.getI (f := 4) aw_cl0 (kpF_13 hf) (leF_13 hf).1 (hW.le (leF_13 hf).2) (by decide) ww_355 dX4_weigh_6 rfl ?_
  refine SW.ishl dX4_weigh_9 ?_
  refine SW.putI (f := 2) aw_cl4 kp_77 (by decide) (hW.le (by decide)) (by decide) ww_289 (Or.inl rfl) dX4_weigh_10 rfl rfl rfl ?_
  refine SW.aload_n dX4_weigh_13 rfl ?_
  refine SW.iconst (v := (0 : Int32)) dX4_weigh_14 (by decide) ?_
  refine SW.putI (f := 0) aw_cl4 kp_77 (by decide) (hW.le (by decide)) (by decide) ww_285 (Or.inl rfl) dX4_weigh_15 rfl rfl rfl ?_
  refine SW.aload_n dX4_weigh_18 rfl ?_
  refine SW.lconst (v := (0 : Int64)) dX4_weigh_19 (by decide) ?_
  refine SW.putL (f := 1) aw_cl4 kp_77 (by decide) (hW.le (by decide)) (by decide) ww_287 (Or.inl rfl) dX4_weigh_20 rfl rfl rfl ?_
  refine SW.iconst (v := (0 : Int32)) dX4_weigh_23 (by decide) ?_
  refine SW.istore_n dX4_weigh_24 (by decide) rfl rfl ?_
  exact vc
set_option maxHeartbeats 4000000 in
set_option maxRecDepth 20000 in
theorem sgX4_weigh_25 {G : GG} {k : Nat} {q : Nat → SG → TU → TH → Prop} {n : Nat} {σ : SG} {τ : TU} {θ : TH} (f : Nat) (t2 : Nat) (x3 : Int32) (hk : 4 ≤ k) (hf : isF f) (ht2 : isM t2) (hW : aw_WT n θ) (vc : (((σ 77 2) ≤ x3) → (q n σ τ θ)) ∧ ((¬ (σ 77 2) ≤ x3) → (SW G k mX4_weigh (aw_qv q) 0 0 39 [some (.ref 77), some (.ref f), some (.ref t2), some (.int x3), some (.long (1 : Int64)), none, some (.int (0 : Int32))] [] (n, σ, τ, θ)))) : SW G k mX4_weigh (aw_qv q) 0 0 25 [some (.ref 77), some (.ref f), some (.ref t2), some (.int x3), none, none, none] [] (n, σ, τ, θ) := by
  refine SW.iload_n dX4_weigh_25 rfl ?_
  refine SW.aload_n dX4_weigh_26 rfl ?_
  refine SW.getI (f := 2) aw_cl4 kp_77 (by decide) (hW.le (by decide)) (by decide) ww_289 dX4_weigh_27 rfl ?_
  refine SW.icmp_ge 125 dX4_weigh_30 (by decide) (fun hbr => ?_) (fun hbr => ?_)
  · replace vc := vc.1 hbr
    exact SW.vret dX4_weigh_125 rfl ⟨rfl, vc⟩
  · replace vc := vc.2 hbr
    refine SW.lconst (v := (1 : Int64)) dX4_weigh_33 (by decide) ?_
    refine SW.lstore dX4_weigh_34 (by decide) rfl rfl ?_
    refine SW.iconst (v := (0 : Int32)) dX4_weigh_36 (by decide) ?_
    refine SW.istore dX4_weigh_37 (by decide) rfl rfl ?_
    exact vc
set_option maxHeartbeats 4000000 in
set_option maxRecDepth 20000 in
theorem sgX4_weigh_39 {G : GG} {k : Nat} {q : Nat → SG → TU → TH → Prop} {n : Nat} {σ : SG} {τ : TU} {θ : TH} (f : Nat) (t2 : Nat) (x3 : Int32) (x4 : Int64) (x6 : Int32) (hk : 4 ≤ k) (hf : isF f) (ht2 : isM t2) (hW : aw_WT n θ) (vc : (((σ f 15) ≤ x6) → (vp_in x3 16 ∧ ((((lg_cmp x4 (0 : Int64)) ≤ 0) → (SW G k mX4_weigh (aw_qv q) 0 0 25 [some (.ref 77), some (.ref f), some (.ref t2), some (.int (x3 + (1 : Int32))), none, none, none] [] (n, (aw_u σ 77 0 ((σ 77 0) + (0 : Int32))), (aw_u (aw_u τ 78 x3.toNatClampNeg x4) 77 1 (((aw_u τ 78 x3.toNatClampNeg x4) 77 1) + x4)), θ))) ∧ ((¬ (lg_cmp x4 (0 : Int64)) ≤ 0) → (SW G k mX4_weigh (aw_qv q) 0 0 25 [some (.ref 77), some (.ref f), some (.ref t2), some (.int (x3 + (1 : Int32))), none, none, none] [] (n, (aw_u σ 77 0 ((σ 77 0) + (1 : Int32))), (aw_u (aw_u τ 78 x3.toNatClampNeg x4) 77 1 (((aw_u τ 78 x3.toNatClampNeg x4) 77 1) + x4)), θ)))))) ∧ ((¬ (σ f 15) ≤ x6) → (vp_in x6 4 ∧ (SMi G 3 mX4_headWith 0 0 [.ref f, .ref t2, .int (σ (f + 6) x6.toNatClampNeg), .int x3] n σ τ θ (fun a1 n1 σ1 τ1 θ1 => aw_WT n1 θ1 ∧ (SMi G 1 mX1_readingWeight 0 0 [.ref f, .int x6, .int a1] n1 σ1 τ1 θ1 (fun a2 n2 σ2 τ2 θ2 => aw_WT n2 θ2 ∧ (SW G k mX4_weigh (aw_qv q) 0 0 39 [some (.ref 77), some (.ref f), some (.ref t2), some (.int x3), some (.long (x4 * (a2.toInt64))), none, some (.int (x6 + (1 : Int32)))] [] (n2, σ2, τ2, θ2))))))))) : SW G k mX4_weigh (aw_qv q) 0 0 39 [some (.ref 77), some (.ref f), some (.ref t2), some (.int x3), some (.long x4), none, some (.int x6)] [] (n, σ, τ, θ) := by
  refine SW.iload dX4_weigh_39 rfl ?_
  refine SW.aload_n dX4_weigh_41 rfl ?_
  refine SW.getI (f := 15) aw_cl1 (kpF_0 hf) (leF_0 hf).1 (hW.le (leF_0 hf).2) (by decide) ww_428 dX4_weigh_42 rfl ?_
  refine SW.icmp_ge 79 dX4_weigh_45 (by decide) (fun hbr => ?_) (fun hbr => ?_)
  · replace vc := vc.1 hbr
    refine SW.aload_n dX4_weigh_79 rfl ?_
    refine SW.getS (f := 3) (r := 78) aw_cl4 kp_77 (by decide) (hW.le (by decide)) (by decide) ww_290 dX4_weigh_80 rfl hW.t77_3 ?_
    refine SW.iload_n dX4_weigh_83 rfl ?_
    refine SW.lload dX4_weigh_84 rfl ?_
    refine SW.last kp_78 (by decide) (hW.le (by decide)) vc.1 dX4_weigh_86 ?_
    replace vc := vc.2
    refine SW.aload_n dX4_weigh_87 rfl ?_
    refine SW.dup dX4_weigh_88 rfl ?_
    refine SW.getL (f := 1) aw_cl4 kp_77 (by decide) (hW.le (by decide)) (by decide) ww_287 dX4_weigh_89 rfl ?_
    refine SW.lload dX4_weigh_92 rfl ?_
    refine SW.ladd dX4_weigh_94 ?_
    refine SW.putL (f := 1) aw_cl4 kp_77 (by decide) (hW.le (by decide)) (by decide) ww_287 (Or.inl rfl) dX4_weigh_95 rfl rfl rfl ?_
    refine SW.aload_n dX4_weigh_98 rfl ?_
    refine SW.dup dX4_weigh_99 rfl ?_
    refine SW.getI (f := 0) aw_cl4 kp_77 (by decide) (hW.le (by decide)) (by decide) ww_285 dX4_weigh_100 rfl ?_
    refine SW.lload dX4_weigh_103 rfl ?_
    refine SW.lconst (v := (0 : Int64)) dX4_weigh_105 (by decide) ?_
    refine SW.lcmp dX4_weigh_106 ?_
    refine SW.if_le 114 dX4_weigh_107 (by decide) (fun hbr => ?_) (fun hbr => ?_)
    · replace vc := vc.1 hbr
      refine SW.iconst (v := (0 : Int32)) dX4_weigh_114 (by decide) ?_
      refine SW.iadd dX4_weigh_115 ?_
      refine SW.putI (f := 0) aw_cl4 kp_77 (by decide) (hW.le (by decide)) (by decide) ww_285 (Or.inl rfl) dX4_weigh_116 rfl rfl rfl ?_
      refine SW.iinc (v := (x3 + (1 : Int32))) dX4_weigh_119 rfl rfl (by decide) rfl rfl ?_
      refine SW.goto 25 dX4_weigh_122 (by decide) ?_
      refine SW.msk [true, true, true, true, false, true, false] rfl ?_
      exact vc
    · replace vc := vc.2 hbr
      refine SW.iconst (v := (1 : Int32)) dX4_weigh_110 (by decide) ?_
      refine SW.goto 115 dX4_weigh_111 (by decide) ?_
      refine SW.iadd dX4_weigh_115 ?_
      refine SW.putI (f := 0) aw_cl4 kp_77 (by decide) (hW.le (by decide)) (by decide) ww_285 (Or.inl rfl) dX4_weigh_116 rfl rfl rfl ?_
      refine SW.iinc (v := (x3 + (1 : Int32))) dX4_weigh_119 rfl rfl (by decide) rfl rfl ?_
      refine SW.goto 25 dX4_weigh_122 (by decide) ?_
      refine SW.msk [true, true, true, true, false, true, false] rfl ?_
      exact vc
  · replace vc := vc.2 hbr
    refine SW.lload dX4_weigh_48 rfl ?_
    refine SW.aload_n dX4_weigh_50 rfl ?_
    refine SW.iload dX4_weigh_51 rfl ?_
    refine SW.aload_n dX4_weigh_53 rfl ?_
    refine SW.aload_n dX4_weigh_54 rfl ?_
    refine SW.aload_n dX4_weigh_55 rfl ?_
    refine SW.getS (f := 5) (r := f + 6) aw_cl1 (kpF_0 hf) (leF_0 hf).1 (hW.le (leF_0 hf).2) (by decide) ww_388 dX4_weigh_56 rfl (hW.f5 hf) ?_
    refine SW.iload dX4_weigh_59 rfl ?_
    refine SW.iald (kpF_6 hf) (leF_6 hf).1 (hW.le (leF_6 hf).2) vc.1 dX4_weigh_61 ?_
    replace vc := vc.2
    refine SW.iload_n dX4_weigh_62 rfl ?_
    refine SW.csi4 kS_X4_47 (by omega) (Nat.le_of_ble_eq_true rfl) dX4_weigh_63 (SMi.mono vc ?_)
    intro a1 n1 σ1 τ1 θ1 vc
    obtain ⟨hW, vc⟩ := vc
    refine SW.cvi2 kV_X4_51 (by omega) aw_cl1 (kpF_0 hf) (leF_0 hf).1 (hW.le (leF_0 hf).2) rfl (Nat.le_of_ble_eq_true rfl) dX4_weigh_66 (SMi.mono vc ?_)
    intro a2 n2 σ2 τ2 θ2 vc
    obtain ⟨hW, vc⟩ := vc
    refine SW.i2l dX4_weigh_69 ?_
    refine SW.lmul dX4_weigh_70 ?_
    refine SW.lstore dX4_weigh_71 (by decide) rfl rfl ?_
    refine SW.iinc (v := (x6 + (1 : Int32))) dX4_weigh_73 rfl rfl (by decide) rfl rfl ?_
    refine SW.goto 39 dX4_weigh_76 (by decide) ?_
    exact vc
theorem ctX4_weigh {G : GG} {q : Nat → SG → TU → TH → Prop} {n : Nat} {σ : SG} {τ : TU} {θ : TH} (f : Nat) (t2 : Nat) (h : SW G 4 mX4_weigh (aw_qv q) 0 0 0 [some (.ref 77), some (.ref f), some (.ref t2), none, none, none, none] [] (n, σ, τ, θ)) : SMv G 4 mX4_weigh 0 0 [.ref 77, .ref f, .ref t2] n σ τ θ q := SM.of _ rfl rfl (Nat.le_of_ble_eq_true rfl) h
set_option maxHeartbeats 4000000 in
set_option maxRecDepth 20000 in
theorem sgX4_weightOfHead_0 {G : GG} {k : Nat} {q : Int64 → Nat → SG → TU → TH → Prop} {n : Nat} {σ : SG} {τ : TU} {θ : TH} (f : Nat) (t2 : Nat) (x3 : Int32) (x4 : Int32) (hk : 4 ≤ k) (hf : isF f) (ht2 : isM t2) (hW : aw_WT n θ) (vc : SW G k mX4_weightOfHead (aw_ql q) 0 0 6 [some (.ref 77), some (.ref f), some (.ref t2), some (.int x3), some (.int x4), some (.long (0 : Int64)), none, some (.int (0 : Int32))] [] (n, σ, τ, θ)) : SW G k mX4_weightOfHead (aw_ql q) 0 0 0 [some (.ref 77), some (.ref f), some (.ref t2), some (.int x3), some (.int x4), none, none, none] [] (n, σ, τ, θ) := by
  refine SW.lconst (v := (0 : Int64)) dX4_weightOfHead_0 (by decide) ?_
  refine SW.lstore dX4_weightOfHead_1 (by decide) rfl rfl ?_
  refine SW.iconst (v := (0 : Int32)) dX4_weightOfHead_3 (by decide) ?_
  refine SW.istore dX4_weightOfHead_4 (by decide) rfl rfl ?_
  exact vc
set_option maxHeartbeats 4000000 in
set_option maxRecDepth 20000 in
theorem sgX4_weightOfHead_6 {G : GG} {k : Nat} {q : Int64 → Nat → SG → TU → TH → Prop} {n : Nat} {σ : SG} {τ : TU} {θ : TH} (f : Nat) (t2 : Nat) (x3 : Int32) (x4 : Int32) (x5 : Int64) (x7 : Int32) (hk : 4 ≤ k) (hf : isF f) (ht2 : isM t2) (hW : aw_WT n θ) (vc : (((σ 77 2) ≤ x7) → (q x5 n σ τ θ)) ∧ ((¬ (σ 77 2) ≤ x7) → (SMi G 3 mX4_headWith 0 0 [.ref f, .ref t2, .int x3, .int x7] n σ τ θ (fun a1 n1 σ1 τ1 θ1 => aw_WT n1 θ1 ∧ (((¬ a1 = x4) → (SW G k mX4_weightOfHead (aw_ql q) 0 0 6 [some (.ref 77), some (.ref f), some (.ref t2), some (.int x3), some (.int x4), some (.long x5), none, some (.int (x7 + (1 : Int32)))] [] (n1, σ1, τ1, θ1))) ∧ ((a1 = x4) → (vp_in x7 16 ∧ (SW G k mX4_weightOfHead (aw_ql q) 0 0 6 [some (.ref 77), some (.ref f), some (.ref t2), some (.int x3), some (.int x4), some (.long (x5 + (τ1 78 x7.toNatClampNeg))), none, some (.int (x7 + (1 : Int32)))] [] (n1, σ1, τ1, θ1))))))))) : SW G k mX4_weightOfHead (aw_ql q) 0 0 6 [some (.ref 77), some (.ref f), some (.ref t2), some (.int x3), some (.int x4), some (.long x5), none, some (.int x7)] [] (n, σ, τ, θ) := by
  refine SW.iload dX4_weightOfHead_6 rfl ?_
  refine SW.aload_n dX4_weightOfHead_8 rfl ?_
  refine SW.getI (f := 2) aw_cl4 kp_77 (by decide) (hW.le (by decide)) (by decide) ww_289 dX4_weightOfHead_9 rfl ?_
  refine SW.icmp_ge 46 dX4_weightOfHead_12 (by decide) (fun hbr => ?_) (fun hbr => ?_)
  · replace vc := vc.1 hbr
    refine SW.lload dX4_weightOfHead_46 rfl ?_
    exact SW.lret dX4_weightOfHead_48 rfl ⟨_, rfl, vc⟩
  · replace vc := vc.2 hbr
    refine SW.aload_n dX4_weightOfHead_15 rfl ?_
    refine SW.aload_n dX4_weightOfHead_16 rfl ?_
    refine SW.iload_n dX4_weightOfHead_17 rfl ?_
    refine SW.iload dX4_weightOfHead_18 rfl ?_
    refine SW.csi4 kS_X4_47 (by omega) (Nat.le_of_ble_eq_true rfl) dX4_weightOfHead_20 (SMi.mono vc ?_)
    intro a1 n1 σ1 τ1 θ1 vc
    obtain ⟨hW, vc⟩ := vc
    refine SW.iload dX4_weightOfHead_23 rfl ?_
    refine SW.icmp_ne 40 dX4_weightOfHead_25 (by decide) (fun hbr => ?_) (fun hbr => ?_)
    · replace vc := vc.1 hbr
      refine SW.iinc (v := (x7 + (1 : Int32))) dX4_weightOfHead_40 rfl rfl (by decide) rfl rfl ?_
      refine SW.goto 6 dX4_weightOfHead_43 (by decide) ?_
      exact vc
    · replace vc := vc.2 hbr
      refine SW.lload dX4_weightOfHead_28 rfl ?_
      refine SW.aload_n dX4_weightOfHead_30 rfl ?_
      refine SW.getS (f := 3) (r := 78) aw_cl4 kp_77 (by decide) (hW.le (by decide)) (by decide) ww_290 dX4_weightOfHead_31 rfl hW.t77_3 ?_
      refine SW.iload dX4_weightOfHead_34 rfl ?_
      refine SW.lald kp_78 (by decide) (hW.le (by decide)) vc.1 dX4_weightOfHead_36 ?_
      replace vc := vc.2
      refine SW.ladd dX4_weightOfHead_37 ?_
      refine SW.lstore dX4_weightOfHead_38 (by decide) rfl rfl ?_
      refine SW.iinc (v := (x7 + (1 : Int32))) dX4_weightOfHead_40 rfl rfl (by decide) rfl rfl ?_
      refine SW.goto 6 dX4_weightOfHead_43 (by decide) ?_
      exact vc
theorem ctX4_weightOfHead {G : GG} {q : Int64 → Nat → SG → TU → TH → Prop} {n : Nat} {σ : SG} {τ : TU} {θ : TH} (f : Nat) (t2 : Nat) (x3 : Int32) (x4 : Int32) (h : SW G 4 mX4_weightOfHead (aw_ql q) 0 0 0 [some (.ref 77), some (.ref f), some (.ref t2), some (.int x3), some (.int x4), none, none, none] [] (n, σ, τ, θ)) : SMl G 4 mX4_weightOfHead 0 0 [.ref 77, .ref f, .ref t2, .int x3, .int x4] n σ τ θ q := SM.of _ rfl rfl (Nat.le_of_ble_eq_true rfl) h
set_option maxHeartbeats 4000000 in
set_option maxRecDepth 20000 in
theorem sgX4_weightOfRumour_0 {G : GG} {k : Nat} {q : Int64 → Nat → SG → TU → TH → Prop} {n : Nat} {σ : SG} {τ : TU} {θ : TH}  (x1 : Int32) (hk : 1 ≤ k)  (hW : aw_WT n θ) (vc : SW G k mX4_weightOfRumour (aw_ql q) 0 0 5 [some (.ref 77), some (.int x1), some (.long (0 : Int64)), none, some (.int (0 : Int32))] [] (n, σ, τ, θ)) : SW G k mX4_weightOfRumour (aw_ql q) 0 0 0 [some (.ref 77), some (.int x1), none, none, none] [] (n, σ, τ, θ) := by
  refine SW.lconst (v := (0 : Int64)) dX4_weightOfRumour_0 (by decide) ?_
  refine SW.lstore_n dX4_weightOfRumour_1 (by decide) rfl rfl ?_
  refine SW.iconst (v := (0 : Int32)) dX4_weightOfRumour_2 (by decide) ?_
  refine SW.istore dX4_weightOfRumour_3 (by decide) rfl rfl ?_
  exact vc
set_option maxHeartbeats 4000000 in
set_option maxRecDepth 20000 in
theorem sgX4_weightOfRumour_5 {G : GG} {k : Nat} {q : Int64 → Nat → SG → TU → TH → Prop} {n : Nat} {σ : SG} {τ : TU} {θ : TH}  (x1 : Int32) (x2 : Int64) (x4 : Int32) (hk : 1 ≤ k)  (hW : aw_WT n θ) (vc : (((σ 77 2) ≤ x4) → (q x2 n σ τ θ)) ∧ ((¬ (σ 77 2) ≤ x4) → (((((x4 >>> (x1 &&& 31)) &&& (1 : Int32)) = 0) → (SW G k mX4_weightOfRumour (aw_ql q) 0 0 5 [some (.ref 77), some (.int x1), some (.long x2), none, some (.int (x4 + (1 : Int32)))] [] (n, σ, τ, θ))) ∧ ((¬ ((x4 >>> (x1 &&& 31)) &&& (1 : Int32)) = 0) → (vp_in x4 16 ∧ (SW G k mX4_weightOfRumour (aw_ql q) 0 0 5 [some (.ref 77), some (.int x1), some (.long (x2 + (τ 78 x4.toNatClampNeg))), none, some (.int (x4 + (1 : Int32)))] [] (n, σ, τ, θ))))))) : SW G k mX4_weightOfRumour (aw_ql q) 0 0 5 [some (.ref 77), some (.int x1), some (.long x2), none, some (.int x4)] [] (n, σ, τ, θ) := by
  refine SW.iload dX4_weightOfRumour_5 rfl ?_
  refine SW.aload_n dX4_weightOfRumour_7 rfl ?_
  refine SW.getI (f := 2) aw_cl4 kp_77 (by decide) (hW.le (by decide)) (by decide) ww_289 dX4_weightOfRumour_8 rfl ?_
  refine SW.icmp_ge 39 dX4_weightOfRumour_11 (by decide) (fun hbr => ?_) (fun hbr => ?_)
  · replace vc := vc.1 hbr
    refine SW.lload_n dX4_weightOfRumour_39 rfl ?_
    exact SW.lret dX4_weightOfRumour_40 rfl ⟨_, rfl, vc⟩
  · replace vc := vc.2 hbr
    refine SW.iload dX4_weightOfRumour_14 rfl ?_
    refine SW.iload_n dX4_weightOfRumour_16 rfl ?_
    refine SW.ishr dX4_weightOfRumour_17 ?_
    refine SW.iconst (v := (1 : Int32)) dX4_weightOfRumour_18 (by decide) ?_
    refine SW.iand dX4_weightOfRumour_19 ?_
    refine SW.if_eq 33 dX4_weightOfRumour_20 (by decide) (fun hbr => ?_) (fun hbr => ?_)
    · replace vc := vc.1 hbr
      refine SW.iinc (v := (x4 + (1 : Int32))) dX4_weightOfRumour_33 rfl rfl (by decide) rfl rfl ?_
      refine SW.goto 5 dX4_weightOfRumour_36 (by decide) ?_
      exact vc
    · replace vc := vc.2 hbr
      refine SW.lload_n dX4_weightOfRumour_23 rfl ?_
      refine SW.aload_n dX4_weightOfRumour_24 rfl ?_
      refine SW.getS (f := 3) (r := 78) aw_cl4 kp_77 (by decide) (hW.le (by decide)) (by decide) ww_290 dX4_weightOfRumour_25 rfl hW.t77_3 ?_
      refine SW.iload dX4_weightOfRumour_28 rfl ?_
      refine SW.lald kp_78 (by decide) (hW.le (by decide)) vc.1 dX4_weightOfRumour_30 ?_
      replace vc := vc.2
      refine SW.ladd dX4_weightOfRumour_31 ?_
      refine SW.lstore_n dX4_weightOfRumour_32 (by decide) rfl rfl ?_
      refine SW.iinc (v := (x4 + (1 : Int32))) dX4_weightOfRumour_33 rfl rfl (by decide) rfl rfl ?_
      refine SW.goto 5 dX4_weightOfRumour_36 (by decide) ?_
      exact vc
theorem ctX4_weightOfRumour {G : GG} {q : Int64 → Nat → SG → TU → TH → Prop} {n : Nat} {σ : SG} {τ : TU} {θ : TH} (x1 : Int32) (h : SW G 1 mX4_weightOfRumour (aw_ql q) 0 0 0 [some (.ref 77), some (.int x1), none, none, none] [] (n, σ, τ, θ)) : SMl G 1 mX4_weightOfRumour 0 0 [.ref 77, .int x1] n σ τ θ q := SM.of _ rfl rfl (Nat.le_of_ble_eq_true rfl) h
set_option maxHeartbeats 4000000 in
set_option maxRecDepth 20000 in
theorem sgX5_draw_0 {G : GG} {k : Nat} {q : Int32 → Nat → SG → TU → TH → Prop} {n : Nat} {σ : SG} {τ : TU} {θ : TH} (t : Nat)  (hk : 2 ≤ k) (ht : isM t) (hW : aw_WT n θ) (vc : (((σ 9 1) < (3 : Int32)) → (vp_in (σ 9 1) 3 ∧ isM (θ 11 (σ 9 1).toNatClampNeg) ∧ (SMv G 1 mX2_copyOf 0 0 [.ref (θ 11 (σ 9 1).toNatClampNeg), .ref t] n σ τ θ (fun n2 σ2 τ2 θ2 => aw_WT n2 θ2 ∧ (q (((aw_u σ2 9 1 ((σ2 9 1) + (1 : Int32))) 9 1) - (1 : Int32)) n2 (aw_u σ2 9 1 ((σ2 9 1) + (1 : Int32))) τ2 θ2))))) ∧ ((¬ (σ 9 1) < (3 : Int32)) → (q (-1 : Int32) n σ τ θ))) : SW G k mX5_draw (aw_qi q) 0 0 0 [some (.ref 9), some (.ref t)] [] (n, σ, τ, θ) := by
  refine SW.aload_n dX5_draw_0 rfl ?_
  refine SW.getI (f := 1) aw_cl5 kp_9 (by decide) (hW.le (by decide)) (by decide) ww_225 dX5_draw_1 rfl ?_
  refine SW.iconst (v := (3 : Int32)) dX5_draw_4 (by decide) ?_
  refine SW.icmp_lt 10 dX5_draw_5 (by decide) (fun hbr => ?_) (fun hbr => ?_)
  · replace vc := vc.1 hbr
    refine SW.aload_n dX5_draw_10 rfl ?_
    refine SW.getS (f := 3) (r := 11) aw_cl5 kp_9 (by decide) (hW.le (by decide)) (by decide) ww_228 dX5_draw_11 rfl hW.t9_3 ?_
    refine SW.aload_n dX5_draw_14 rfl ?_
    refine SW.getI (f := 1) aw_cl5 kp_9 (by decide) (hW.le (by decide)) (by decide) ww_225 dX5_draw_15 rfl ?_
    refine SW.aald kp_11 (by decide) (hW.le (by decide)) vc.1 dX5_draw_18 ?_
    have hM1 := vc.2.1
    replace vc := vc.2.2
    refine SW.aload_n dX5_draw_19 rfl ?_
    refine SW.cvv1 kV_X5_31 (by omega) aw_cl2 (kpM_0 hM1) (leM_0 hM1).1 (hW.le (leM_0 hM1).2) rfl (Nat.le_of_ble_eq_true rfl) dX5_draw_20 (SMv.mono vc ?_)
    intro n2 σ2 τ2 θ2 vc
    obtain ⟨hW, vc⟩ := vc
    refine SW.aload_n dX5_draw_23 rfl ?_
    refine SW.dup dX5_draw_24 rfl ?_
    refine SW.getI (f := 1) aw_cl5 kp_9 (by decide) (hW.le (by decide)) (by decide) ww_225 dX5_draw_25 rfl ?_
    refine SW.iconst (v := (1 : Int32)) dX5_draw_28 (by decide) ?_
    refine SW.iadd dX5_draw_29 ?_
    refine SW.putI (f := 1) aw_cl5 kp_9 (by decide) (hW.le (by decide)) (by decide) ww_225 (Or.inl rfl) dX5_draw_30 rfl rfl rfl ?_
    refine SW.aload_n dX5_draw_33 rfl ?_
    refine SW.getI (f := 1) aw_cl5 kp_9 (by decide) (hW.le (by decide)) (by decide) ww_225 dX5_draw_34 rfl ?_
    refine SW.iconst (v := (1 : Int32)) dX5_draw_37 (by decide) ?_
    refine SW.isub dX5_draw_38 ?_
    exact SW.iret dX5_draw_39 rfl rfl ⟨_, rfl, vc⟩
  · replace vc := vc.2 hbr
    refine SW.iconst (v := (-1 : Int32)) dX5_draw_8 (by decide) ?_
    exact SW.iret dX5_draw_9 rfl rfl ⟨_, rfl, vc⟩
theorem ctX5_draw {G : GG} {q : Int32 → Nat → SG → TU → TH → Prop} {n : Nat} {σ : SG} {τ : TU} {θ : TH} (t : Nat) (h : SW G 2 mX5_draw (aw_qi q) 0 0 0 [some (.ref 9), some (.ref t)] [] (n, σ, τ, θ)) : SMi G 2 mX5_draw 0 0 [.ref 9, .ref t] n σ τ θ q := SM.of _ rfl rfl (Nat.le_of_ble_eq_true rfl) h
set_option maxHeartbeats 4000000 in
set_option maxRecDepth 20000 in
theorem sgX5_forgetAll_0 {G : GG} {k : Nat} {q : Nat → SG → TU → TH → Prop} {n : Nat} {σ : SG} {τ : TU} {θ : TH}   (hk : 1 ≤ k)  (hW : aw_WT n θ) (vc : q n (aw_u (aw_u σ 9 0 (0 : Int32)) 9 1 (0 : Int32)) τ θ) : SW G k mX5_forgetAll (aw_qv q) 0 0 0 [some (.ref 9)] [] (n, σ, τ, θ) := by
  refine SW.aload_n dX5_forgetAll_0 rfl ?_
  refine SW.iconst (v := (0 : Int32)) dX5_forgetAll_1 (by decide) ?_
  refine SW.putI (f := 0) aw_cl5 kp_9 (by decide) (hW.le (by decide)) (by decide) ww_223 (Or.inl rfl) dX5_forgetAll_2 rfl rfl rfl ?_
  refine SW.aload_n dX5_forgetAll_5 rfl ?_
  refine SW.iconst (v := (0 : Int32)) dX5_forgetAll_6 (by decide) ?_
  refine SW.putI (f := 1) aw_cl5 kp_9 (by decide) (hW.le (by decide)) (by decide) ww_225 (Or.inl rfl) dX5_forgetAll_7 rfl rfl rfl ?_
  exact SW.vret dX5_forgetAll_10 rfl ⟨rfl, vc⟩
theorem ctX5_forgetAll {G : GG} {q : Nat → SG → TU → TH → Prop} {n : Nat} {σ : SG} {τ : TU} {θ : TH}  (h : SW G 1 mX5_forgetAll (aw_qv q) 0 0 0 [some (.ref 9)] [] (n, σ, τ, θ)) : SMv G 1 mX5_forgetAll 0 0 [.ref 9] n σ τ θ q := SM.of _ rfl rfl (Nat.le_of_ble_eq_true rfl) h
set_option maxHeartbeats 4000000 in
set_option maxRecDepth 20000 in
theorem sgX5_goBack_0 {G : GG} {k : Nat} {q : Int32 → Nat → SG → TU → TH → Prop} {n : Nat} {σ : SG} {τ : TU} {θ : TH} (t2 : Nat) (x1 : Int32) (hk : 2 ≤ k) (ht2 : isM t2) (hW : aw_WT n θ) (vc : ((x1 < 0) → (q (0 : Int32) n σ τ θ)) ∧ ((¬ x1 < 0) → (((x1 < (σ 9 1)) → (vp_in x1 3 ∧ isM (θ 11 x1.toNatClampNeg) ∧ (SMv G 1 mX2_copyOf 0 0 [.ref t2, .ref (θ 11 x1.toNatClampNeg)] n σ τ θ (fun n2 σ2 τ2 θ2 => aw_WT n2 θ2 ∧ (q (1 : Int32) n2 (aw_u σ2 9 0 (0 : Int32)) τ2 θ2))))) ∧ ((¬ x1 < (σ 9 1)) → (q (0 : Int32) n σ τ θ))))) : SW G k mX5_goBack (aw_qi q) 0 0 0 [some (.ref 9), some (.int x1), some (.ref t2)] [] (n, σ, τ, θ) := by
  refine SW.iload_n dX5_goBack_0 rfl ?_
  refine SW.if_lt 12 dX5_goBack_1 (by decide) (fun hbr => ?_) (fun hbr => ?_)
  · replace vc := vc.1 hbr
    refine SW.iconst (v := (0 : Int32)) dX5_goBack_12 (by decide) ?_
    exact SW.iret dX5_goBack_13 rfl rfl ⟨_, rfl, vc⟩
  · replace vc := vc.2 hbr
    refine SW.iload_n dX5_goBack_4 rfl ?_
    refine SW.aload_n dX5_goBack_5 rfl ?_
    refine SW.getI (f := 1) aw_cl5 kp_9 (by decide) (hW.le (by decide)) (by decide) ww_225 dX5_goBack_6 rfl ?_
    refine SW.icmp_lt 14 dX5_goBack_9 (by decide) (fun hbr => ?_) (fun hbr => ?_)
    · replace vc := vc.1 hbr
      refine SW.aload_n dX5_goBack_14 rfl ?_
      refine SW.aload_n dX5_goBack_15 rfl ?_
      refine SW.getS (f := 3) (r := 11) aw_cl5 kp_9 (by decide) (hW.le (by decide)) (by decide) ww_228 dX5_goBack_16 rfl hW.t9_3 ?_
      refine SW.iload_n dX5_goBack_19 rfl ?_
      refine SW.aald kp_11 (by decide) (hW.le (by decide)) vc.1 dX5_goBack_20 ?_
      have hM1 := vc.2.1
      replace vc := vc.2.2
      refine SW.cvv1 kV_X5_31 (by omega) aw_cl2 (kpM_0 ht2) (leM_0 ht2).1 (hW.le (leM_0 ht2).2) rfl (Nat.le_of_ble_eq_true rfl) dX5_goBack_21 (SMv.mono vc ?_)
      intro n2 σ2 τ2 θ2 vc
      obtain ⟨hW, vc⟩ := vc
      refine SW.aload_n dX5_goBack_24 rfl ?_
      refine SW.iconst (v := (0 : Int32)) dX5_goBack_25 (by decide) ?_
      refine SW.putI (f := 0) aw_cl5 kp_9 (by decide) (hW.le (by decide)) (by decide) ww_223 (Or.inl rfl) dX5_goBack_26 rfl rfl rfl ?_
      refine SW.iconst (v := (1 : Int32)) dX5_goBack_29 (by decide) ?_
      exact SW.iret dX5_goBack_30 rfl rfl ⟨_, rfl, vc⟩
    · replace vc := vc.2 hbr
      refine SW.iconst (v := (0 : Int32)) dX5_goBack_12 (by decide) ?_
      exact SW.iret dX5_goBack_13 rfl rfl ⟨_, rfl, vc⟩
theorem ctX5_goBack {G : GG} {q : Int32 → Nat → SG → TU → TH → Prop} {n : Nat} {σ : SG} {τ : TU} {θ : TH} (x1 : Int32) (t2 : Nat) (h : SW G 2 mX5_goBack (aw_qi q) 0 0 0 [some (.ref 9), some (.int x1), some (.ref t2)] [] (n, σ, τ, θ)) : SMi G 2 mX5_goBack 0 0 [.ref 9, .int x1, .ref t2] n σ τ θ q := SM.of _ rfl rfl (Nat.le_of_ble_eq_true rfl) h
set_option maxHeartbeats 4000000 in
set_option maxRecDepth 20000 in
theorem sgX5_keep_0 {G : GG} {k : Nat} {q : Nat → SG → TU → TH → Prop} {n : Nat} {σ : SG} {τ : TU} {θ : TH} (t : Nat)  (hk : 2 ≤ k) (ht : isM t) (hW : aw_WT n θ) (vc : vp_in (σ 9 4) 16 ∧ isM (θ 10 (σ 9 4).toNatClampNeg) ∧ (SMv G 1 mX2_copyOf 0 0 [.ref (θ 10 (σ 9 4).toNatClampNeg), .ref t] n σ τ θ (fun n2 σ2 τ2 θ2 => aw_WT n2 θ2 ∧ (q n2 (aw_u (aw_u σ2 9 4 (((σ2 9 4) + (1 : Int32)) - ((σ2 9 4) + (1 : Int32)) / (16 : Int32) * (16 : Int32))) 9 0 (if (16 : Int32) < (((aw_u σ2 9 4 (((σ2 9 4) + (1 : Int32)) - ((σ2 9 4) + (1 : Int32)) / (16 : Int32) * (16 : Int32))) 9 0) + (1 : Int32)) then (16 : Int32) else (((aw_u σ2 9 4 (((σ2 9 4) + (1 : Int32)) - ((σ2 9 4) + (1 : Int32)) / (16 : Int32) * (16 : Int32))) 9 0) + (1 : Int32)))) τ2 θ2)))) : SW G k mX5_keep (aw_qv q) 0 0 0 [some (.ref 9), some (.ref t)] [] (n, σ, τ, θ) := by
  refine SW.aload_n dX5_keep_0 rfl ?_
  refine SW.getS (f := 2) (r := 10) aw_cl5 kp_9 (by decide) (hW.le (by decide)) (by decide) ww_227 dX5_keep_1 rfl hW.t9_2 ?_
  refine SW.aload_n dX5_keep_4 rfl ?_
  refine SW.getI (f := 4) aw_cl5 kp_9 (by decide) (hW.le (by decide)) (by decide) ww_229 dX5_keep_5 rfl ?_
  refine SW.aald kp_10 (by decide) (hW.le (by decide)) vc.1 dX5_keep_8 ?_
  have hM1 := vc.2.1
  replace vc := vc.2.2
  refine SW.aload_n dX5_keep_9 rfl ?_
  refine SW.cvv1 kV_X5_31 (by omega) aw_cl2 (kpM_0 hM1) (leM_0 hM1).1 (hW.le (leM_0 hM1).2) rfl (Nat.le_of_ble_eq_true rfl) dX5_keep_10 (SMv.mono vc ?_)
  intro n2 σ2 τ2 θ2 vc
  obtain ⟨hW, vc⟩ := vc
  refine SW.aload_n dX5_keep_13 rfl ?_
  refine SW.aload_n dX5_keep_14 rfl ?_
  refine SW.getI (f := 4) aw_cl5 kp_9 (by decide) (hW.le (by decide)) (by decide) ww_229 dX5_keep_15 rfl ?_
  refine SW.iconst (v := (1 : Int32)) dX5_keep_18 (by decide) ?_
  refine SW.iadd dX5_keep_19 ?_
  refine SW.bipush (v := (16 : Int32)) dX5_keep_20 (by decide) ?_
  refine SW.irem dX5_keep_22 (by decide) ?_
  refine SW.putI (f := 4) aw_cl5 kp_9 (by decide) (hW.le (by decide)) (by decide) ww_229 (Or.inl rfl) dX5_keep_23 rfl rfl rfl ?_
  refine SW.aload_n dX5_keep_26 rfl ?_
  refine SW.aload_n dX5_keep_27 rfl ?_
  refine SW.getI (f := 0) aw_cl5 kp_9 (by decide) (hW.le (by decide)) (by decide) ww_223 dX5_keep_28 rfl ?_
  refine SW.iconst (v := (1 : Int32)) dX5_keep_31 (by decide) ?_
  refine SW.iadd dX5_keep_32 ?_
  refine SW.bipush (v := (16 : Int32)) dX5_keep_33 (by decide) ?_
  refine SW.mmin ww_1109 ww_524 ww_123 ww_525 (by omega) (Nat.le_of_ble_eq_true rfl) dX5_keep_35 ?_
  refine SW.putI (f := 0) aw_cl5 kp_9 (by decide) (hW.le (by decide)) (by decide) ww_223 (Or.inl rfl) dX5_keep_38 rfl rfl rfl ?_
  exact SW.vret dX5_keep_41 rfl ⟨rfl, vc⟩
theorem ctX5_keep {G : GG} {q : Nat → SG → TU → TH → Prop} {n : Nat} {σ : SG} {τ : TU} {θ : TH} (t : Nat) (h : SW G 2 mX5_keep (aw_qv q) 0 0 0 [some (.ref 9), some (.ref t)] [] (n, σ, τ, θ)) : SMv G 2 mX5_keep 0 0 [.ref 9, .ref t] n σ τ θ q := SM.of _ rfl rfl (Nat.le_of_ble_eq_true rfl) h
set_option maxHeartbeats 4000000 in
set_option maxRecDepth 20000 in
theorem sgX5_takeBack_0 {G : GG} {k : Nat} {q : Int32 → Nat → SG → TU → TH → Prop} {n : Nat} {σ : SG} {τ : TU} {θ : TH} (t : Nat)  (hk : 2 ≤ k) (ht : isM t) (hW : aw_WT n θ) (vc : ((0 < (σ 9 0)) → (vp_in ((aw_u (aw_u σ 9 0 ((σ 9 0) - (1 : Int32))) 9 4 (((((aw_u σ 9 0 ((σ 9 0) - (1 : Int32))) 9 4) + (16 : Int32)) - (1 : Int32)) - ((((aw_u σ 9 0 ((σ 9 0) - (1 : Int32))) 9 4) + (16 : Int32)) - (1 : Int32)) / (16 : Int32) * (16 : Int32))) 9 4) 16 ∧ isM (θ 10 ((aw_u (aw_u σ 9 0 ((σ 9 0) - (1 : Int32))) 9 4 (((((aw_u σ 9 0 ((σ 9 0) - (1 : Int32))) 9 4) + (16 : Int32)) - (1 : Int32)) - ((((aw_u σ 9 0 ((σ 9 0) - (1 : Int32))) 9 4) + (16 : Int32)) - (1 : Int32)) / (16 : Int32) * (16 : Int32))) 9 4).toNatClampNeg) ∧ (SMv G 1 mX2_copyOf 0 0 [.ref t, .ref (θ 10 ((aw_u (aw_u σ 9 0 ((σ 9 0) - (1 : Int32))) 9 4 (((((aw_u σ 9 0 ((σ 9 0) - (1 : Int32))) 9 4) + (16 : Int32)) - (1 : Int32)) - ((((aw_u σ 9 0 ((σ 9 0) - (1 : Int32))) 9 4) + (16 : Int32)) - (1 : Int32)) / (16 : Int32) * (16 : Int32))) 9 4).toNatClampNeg)] n (aw_u (aw_u σ 9 0 ((σ 9 0) - (1 : Int32))) 9 4 (((((aw_u σ 9 0 ((σ 9 0) - (1 : Int32))) 9 4) + (16 : Int32)) - (1 : Int32)) - ((((aw_u σ 9 0 ((σ 9 0) - (1 : Int32))) 9 4) + (16 : Int32)) - (1 : Int32)) / (16 : Int32) * (16 : Int32))) τ θ (fun n2 σ2 τ2 θ2 => aw_WT n2 θ2 ∧ (q (1 : Int32) n2 σ2 τ2 θ2))))) ∧ ((¬ 0 < (σ 9 0)) → (q (0 : Int32) n σ τ θ))) : SW G k mX5_takeBack (aw_qi q) 0 0 0 [some (.ref 9), some (.ref t)] [] (n, σ, τ, θ) := by
  refine SW.aload_n dX5_takeBack_0 rfl ?_
  refine SW.getI (f := 0) aw_cl5 kp_9 (by decide) (hW.le (by decide)) (by decide) ww_223 dX5_takeBack_1 rfl ?_
  refine SW.if_gt 9 dX5_takeBack_4 (by decide) (fun hbr => ?_) (fun hbr => ?_)
  · replace vc := vc.1 hbr
    refine SW.aload_n dX5_takeBack_9 rfl ?_
    refine SW.dup dX5_takeBack_10 rfl ?_
    refine SW.getI (f := 0) aw_cl5 kp_9 (by decide) (hW.le (by decide)) (by decide) ww_223 dX5_takeBack_11 rfl ?_
    refine SW.iconst (v := (1 : Int32)) dX5_takeBack_14 (by decide) ?_
    refine SW.isub dX5_takeBack_15 ?_
    refine SW.putI (f := 0) aw_cl5 kp_9 (by decide) (hW.le (by decide)) (by decide) ww_223 (Or.inl rfl) dX5_takeBack_16 rfl rfl rfl ?_
    refine SW.aload_n dX5_takeBack_19 rfl ?_
    refine SW.aload_n dX5_takeBack_20 rfl ?_
    refine SW.getI (f := 4) aw_cl5 kp_9 (by decide) (hW.le (by decide)) (by decide) ww_229 dX5_takeBack_21 rfl ?_
    refine SW.bipush (v := (16 : Int32)) dX5_takeBack_24 (by decide) ?_
    refine SW.iadd dX5_takeBack_26 ?_
    refine SW.iconst (v := (1 : Int32)) dX5_takeBack_27 (by decide) ?_
    refine SW.isub dX5_takeBack_28 ?_
    refine SW.bipush (v := (16 : Int32)) dX5_takeBack_29 (by decide) ?_
    refine SW.irem dX5_takeBack_31 (by decide) ?_
    refine SW.putI (f := 4) aw_cl5 kp_9 (by decide) (hW.le (by decide)) (by decide) ww_229 (Or.inl rfl) dX5_takeBack_32 rfl rfl rfl ?_
    refine SW.aload_n dX5_takeBack_35 rfl ?_
    refine SW.aload_n dX5_takeBack_36 rfl ?_
    refine SW.getS (f := 2) (r := 10) aw_cl5 kp_9 (by decide) (hW.le (by decide)) (by decide) ww_227 dX5_takeBack_37 rfl hW.t9_2 ?_
    refine SW.aload_n dX5_takeBack_40 rfl ?_
    refine SW.getI (f := 4) aw_cl5 kp_9 (by decide) (hW.le (by decide)) (by decide) ww_229 dX5_takeBack_41 rfl ?_
    refine SW.aald kp_10 (by decide) (hW.le (by decide)) vc.1 dX5_takeBack_44 ?_
    have hM1 := vc.2.1
    replace vc := vc.2.2
    refine SW.cvv1 kV_X5_31 (by omega) aw_cl2 (kpM_0 ht) (leM_0 ht).1 (hW.le (leM_0 ht).2) rfl (Nat.le_of_ble_eq_true rfl) dX5_takeBack_45 (SMv.mono vc ?_)
    intro n2 σ2 τ2 θ2 vc
    obtain ⟨hW, vc⟩ := vc
    refine SW.iconst (v := (1 : Int32)) dX5_takeBack_48 (by decide) ?_
    exact SW.iret dX5_takeBack_49 rfl rfl ⟨_, rfl, vc⟩
  · replace vc := vc.2 hbr
    refine SW.iconst (v := (0 : Int32)) dX5_takeBack_7 (by decide) ?_
    exact SW.iret dX5_takeBack_8 rfl rfl ⟨_, rfl, vc⟩
theorem ctX5_takeBack {G : GG} {q : Int32 → Nat → SG → TU → TH → Prop} {n : Nat} {σ : SG} {τ : TU} {θ : TH} (t : Nat) (h : SW G 2 mX5_takeBack (aw_qi q) 0 0 0 [some (.ref 9), some (.ref t)] [] (n, σ, τ, θ)) : SMi G 2 mX5_takeBack 0 0 [.ref 9, .ref t] n σ τ θ q := SM.of _ rfl rfl (Nat.le_of_ble_eq_true rfl) h
set_option maxHeartbeats 4000000 in
set_option maxRecDepth 20000 in
theorem sgX6_cancel_0 {G : GG} {k : Nat} {q : Nat → SG → TU → TH → Prop} {n : Nat} {σ : SG} {τ : TU} {θ : TH} (f : Nat) (t2 : Nat) (x3 : Int32) (hk : 2 ≤ k) (hf : isF f) (ht2 : isM t2) (hW : aw_WT n θ) (vc : SW G k mX6_cancel (aw_qv q) 0 0 3 [some (.ref 73), some (.ref f), some (.ref t2), some (.int x3), some (.int (0 : Int32)), none, none, none] [] (n, σ, τ, θ)) : SW G k mX6_cancel (aw_qv q) 0 0 0 [some (.ref 73), some (.ref f), some (.ref t2), some (.int x3), none, none, none, none] [] (n, σ, τ, θ) := by
  refine SW.iconst (v := (0 : Int32)) dX6_cancel_0 (by decide) ?_
  refine SW.istore dX6_cancel_1 (by decide) rfl rfl ?_
  exact vc
set_option maxHeartbeats 4000000 in
set_option maxRecDepth 20000 in
theorem sgX6_cancel_3 {G : GG} {k : Nat} {q : Nat → SG → TU → TH → Prop} {n : Nat} {σ : SG} {τ : TU} {θ : TH} (f : Nat) (t2 : Nat) (x3 : Int32) (x4 : Int32) (hk : 2 ≤ k) (hf : isF f) (ht2 : isM t2) (hW : aw_WT n θ) (vc : (((σ 73 1) ≤ x4) → (q n σ τ θ)) ∧ ((¬ (σ 73 1) ≤ x4) → (SW G k mX6_cancel (aw_qv q) 0 0 18 [some (.ref 73), some (.ref f), some (.ref t2), some (.int x3), some (.int x4), some (.int x3), some (.int (0 : Int32)), none] [] (n, σ, τ, θ)))) : SW G k mX6_cancel (aw_qv q) 0 0 3 [some (.ref 73), some (.ref f), some (.ref t2), some (.int x3), some (.int x4), none, none, none] [] (n, σ, τ, θ) := by
  refine SW.iload dX6_cancel_3 rfl ?_
  refine SW.aload_n dX6_cancel_5 rfl ?_
  refine SW.getI (f := 1) aw_cl6 kp_73 (by decide) (hW.le (by decide)) (by decide) ww_266 dX6_cancel_6 rfl ?_
  refine SW.icmp_ge 128 dX6_cancel_9 (by decide) (fun hbr => ?_) (fun hbr => ?_)
  · replace vc := vc.1 hbr
    exact SW.vret dX6_cancel_128 rfl ⟨rfl, vc⟩
  · replace vc := vc.2 hbr
    refine SW.iload_n dX6_cancel_12 rfl ?_
    refine SW.istore dX6_cancel_13 (by decide) rfl rfl ?_
    refine SW.iconst (v := (0 : Int32)) dX6_cancel_15 (by decide) ?_
    refine SW.istore dX6_cancel_16 (by decide) rfl rfl ?_
    exact vc
set_option maxHeartbeats 4000000 in
set_option maxRecDepth 20000 in
theorem sgX6_cancel_18 {G : GG} {k : Nat} {q : Nat → SG → TU → TH → Prop} {n : Nat} {σ : SG} {τ : TU} {θ : TH} (f : Nat) (t2 : Nat) (x3 : Int32) (x4 : Int32) (x5 : Int32) (x6 : Int32) (hk : 2 ≤ k) (hf : isF f) (ht2 : isM t2) (hW : aw_WT n θ) (vc : (((σ (f + 8) 4) ≤ x6) → (SW G k mX6_cancel (aw_qv q) 0 0 3 [some (.ref 73), some (.ref f), some (.ref t2), some (.int x3), some (.int (x4 + (1 : Int32))), none, none, none] [] (n, σ, τ, θ))) ∧ ((¬ (σ (f + 8) 4) ≤ x6) → (vp_in x6 7 ∧ (vp_in x4 5 ∧ (((¬ (σ (f + 9) x6.toNatClampNeg) = (σ 74 x4.toNatClampNeg)) → (SW G k mX6_cancel (aw_qv q) 0 0 18 [some (.ref 73), some (.ref f), some (.ref t2), some (.int x3), some (.int x4), some (.int x5), some (.int (x6 + (1 : Int32))), none] [] (n, σ, τ, θ))) ∧ (((σ (f + 9) x6.toNatClampNeg) = (σ 74 x4.toNatClampNeg)) → (vp_in x6 7 ∧ (SMi G 1 mX6_follower 0 0 [.ref 73, .int x4] n σ τ θ (fun a1 n1 σ1 τ1 θ1 => aw_WT n1 θ1 ∧ (((¬ (σ (f + 10) x6.toNatClampNeg) = a1) → (SW G k mX6_cancel (aw_qv q) 0 0 18 [some (.ref 73), some (.ref f), some (.ref t2), some (.int x3), some (.int x4), some (.int x5), some (.int (x6 + (1 : Int32))), none] [] (n1, σ1, τ1, θ1))) ∧ (((σ (f + 10) x6.toNatClampNeg) = a1) → (SMi G 1 mX1_isDue 0 0 [.ref f, .ref t2, .int x6, .int (σ1 t2 2)] n1 σ1 τ1 θ1 (fun a2 n2 σ2 τ2 θ2 => aw_WT n2 θ2 ∧ (((a2 = 0) → (SW G k mX6_cancel (aw_qv q) 0 0 18 [some (.ref 73), some (.ref f), some (.ref t2), some (.int x3), some (.int x4), some (.int x5), some (.int (x6 + (1 : Int32))), none] [] (n2, σ2, τ2, θ2))) ∧ ((¬ a2 = 0) → (vp_in x6 7 ∧ (vp_in x6 7 ∧ (vp_in x6 7 ∧ (SW G k mX6_cancel (aw_qv q) 0 0 18 [some (.ref 73), some (.ref f), some (.ref t2), some (.int x3), some (.int x4), some (.int (x5 - (if (σ2 (t2 + 2) x6.toNatClampNeg) < x5 then (σ2 (t2 + 2) x6.toNatClampNeg) else x5))), some (.int (x6 + (1 : Int32))), none] [] (n2, (aw_u σ2 (t2 + 2) x6.toNatClampNeg ((σ2 (t2 + 2) x6.toNatClampNeg) - (if (σ2 (t2 + 2) x6.toNatClampNeg) < x5 then (σ2 (t2 + 2) x6.toNatClampNeg) else x5))), τ2, θ2)))))))))))))))))))) : SW G k mX6_cancel (aw_qv q) 0 0 18 [some (.ref 73), some (.ref f), some (.ref t2), some (.int x3), some (.int x4), some (.int x5), some (.int x6), none] [] (n, σ, τ, θ) := by
  refine SW.iload dX6_cancel_18 rfl ?_
  refine SW.aload_n dX6_cancel_20 rfl ?_
  refine SW.getS (f := 7) (r := f + 8) aw_cl1 (kpF_0 hf) (leF_0 hf).1 (hW.le (leF_0 hf).2) (by decide) ww_397 dX6_cancel_21 rfl (hW.f7 hf) ?_
  refine SW.getI (f := 4) aw_cl0 (kpF_8 hf) (leF_8 hf).1 (hW.le (leF_8 hf).2) (by decide) ww_359 dX6_cancel_24 rfl ?_
  refine SW.icmp_ge 122 dX6_cancel_27 (by decide) (fun hbr => ?_) (fun hbr => ?_)
  · replace vc := vc.1 hbr
    refine SW.iinc (v := (x4 + (1 : Int32))) dX6_cancel_122 rfl rfl (by decide) rfl rfl ?_
    refine SW.goto 3 dX6_cancel_125 (by decide) ?_
    refine SW.msk [true, true, true, true, true, false, false, true] rfl ?_
    exact vc
  · replace vc := vc.2 hbr
    refine SW.aload_n dX6_cancel_30 rfl ?_
    refine SW.getS (f := 7) (r := f + 8) aw_cl1 (kpF_0 hf) (leF_0 hf).1 (hW.le (leF_0 hf).2) (by decide) ww_397 dX6_cancel_31 rfl (hW.f7 hf) ?_
    refine SW.getS (f := 0) (r := f + 9) aw_cl0 (kpF_8 hf) (leF_8 hf).1 (hW.le (leF_8 hf).2) (by decide) ww_337 dX6_cancel_34 rfl (hW.f8_0 hf) ?_
    refine SW.iload dX6_cancel_37 rfl ?_
    refine SW.iald (kpF_9 hf) (leF_9 hf).1 (hW.le (leF_9 hf).2) vc.1 dX6_cancel_39 ?_
    replace vc := vc.2
    refine SW.aload_n dX6_cancel_40 rfl ?_
    refine SW.getS (f := 0) (r := 74) aw_cl6 kp_73 (by decide) (hW.le (by decide)) (by decide) ww_264 dX6_cancel_41 rfl hW.t73_0 ?_
    refine SW.iload dX6_cancel_44 rfl ?_
    refine SW.iald kp_74 (by decide) (hW.le (by decide)) vc.1 dX6_cancel_46 ?_
    replace vc := vc.2
    refine SW.icmp_ne 116 dX6_cancel_47 (by decide) (fun hbr => ?_) (fun hbr => ?_)
    · replace vc := vc.1 hbr
      refine SW.iinc (v := (x6 + (1 : Int32))) dX6_cancel_116 rfl rfl (by decide) rfl rfl ?_
      refine SW.goto 18 dX6_cancel_119 (by decide) ?_
      exact vc
    · replace vc := vc.2 hbr
      refine SW.aload_n dX6_cancel_50 rfl ?_
      refine SW.getS (f := 7) (r := f + 8) aw_cl1 (kpF_0 hf) (leF_0 hf).1 (hW.le (leF_0 hf).2) (by decide) ww_397 dX6_cancel_51 rfl (hW.f7 hf) ?_
      refine SW.getS (f := 1) (r := f + 10) aw_cl0 (kpF_8 hf) (leF_8 hf).1 (hW.le (leF_8 hf).2) (by decide) ww_341 dX6_cancel_54 rfl (hW.f8_1 hf) ?_
      refine SW.iload dX6_cancel_57 rfl ?_
      refine SW.iald (kpF_10 hf) (leF_10 hf).1 (hW.le (leF_10 hf).2) vc.1 dX6_cancel_59 ?_
      replace vc := vc.2
      refine SW.aload_n dX6_cancel_60 rfl ?_
      refine SW.iload dX6_cancel_61 rfl ?_
      refine SW.cvi1 kV_X6_52 (by omega) aw_cl6 kp_73 (by decide) (hW.le (by decide)) rfl (Nat.le_of_ble_eq_true rfl) dX6_cancel_63 (SMi.mono vc ?_)
      intro a1 n1 σ1 τ1 θ1 vc
      obtain ⟨hW, vc⟩ := vc
      refine SW.icmp_ne 116 dX6_cancel_66 (by decide) (fun hbr => ?_) (fun hbr => ?_)
      · replace vc := vc.1 hbr
        refine SW.iinc (v := (x6 + (1 : Int32))) dX6_cancel_116 rfl rfl (by decide) rfl rfl ?_
        refine SW.goto 18 dX6_cancel_119 (by decide) ?_
        exact vc
      · replace vc := vc.2 hbr
        refine SW.aload_n dX6_cancel_69 rfl ?_
        refine SW.aload_n dX6_cancel_70 rfl ?_
        refine SW.iload dX6_cancel_71 rfl ?_
        refine SW.aload_n dX6_cancel_73 rfl ?_
        refine SW.getI (f := 2) aw_cl2 (kpM_0 ht2) (leM_0 ht2).1 (hW.le (leM_0 ht2).2) (by decide) ww_203 dX6_cancel_74 rfl ?_
        refine SW.cvi3 kV_X6_80 (by omega) aw_cl1 (kpF_0 hf) (leF_0 hf).1 (hW.le (leF_0 hf).2) rfl (Nat.le_of_ble_eq_true rfl) dX6_cancel_77 (SMi.mono vc ?_)
        intro a2 n2 σ2 τ2 θ2 vc
        obtain ⟨hW, vc⟩ := vc
        refine SW.if_eq 116 dX6_cancel_80 (by decide) (fun hbr => ?_) (fun hbr => ?_)
        · replace vc := vc.1 hbr
          refine SW.iinc (v := (x6 + (1 : Int32))) dX6_cancel_116 rfl rfl (by decide) rfl rfl ?_
          refine SW.goto 18 dX6_cancel_119 (by decide) ?_
          exact vc
        · replace vc := vc.2 hbr
          refine SW.iload dX6_cancel_83 rfl ?_
          refine SW.aload_n dX6_cancel_85 rfl ?_
          refine SW.getS (f := 1) (r := t2 + 2) aw_cl2 (kpM_0 ht2) (leM_0 ht2).1 (hW.le (leM_0 ht2).2) (by decide) ww_198 dX6_cancel_86 rfl (hW.m1 ht2) ?_
          refine SW.iload dX6_cancel_89 rfl ?_
          refine SW.iald (kpM_2 ht2) (leM_2 ht2).1 (hW.le (leM_2 ht2).2) vc.1 dX6_cancel_91 ?_
          replace vc := vc.2
          refine SW.mmin ww_925 ww_524 ww_123 ww_525 (by omega) (Nat.le_of_ble_eq_true rfl) dX6_cancel_92 ?_
          refine SW.istore dX6_cancel_95 (by decide) rfl rfl ?_
          refine SW.aload_n dX6_cancel_97 rfl ?_
          refine SW.getS (f := 1) (r := t2 + 2) aw_cl2 (kpM_0 ht2) (leM_0 ht2).1 (hW.le (leM_0 ht2).2) (by decide) ww_198 dX6_cancel_98 rfl (hW.m1 ht2) ?_
          refine SW.iload dX6_cancel_101 rfl ?_
          refine SW.dup2 dX6_cancel_103 rfl rfl ?_
          refine SW.iald (kpM_2 ht2) (leM_2 ht2).1 (hW.le (leM_2 ht2).2) vc.1 dX6_cancel_104 ?_
          replace vc := vc.2
          refine SW.iload dX6_cancel_105 rfl ?_
          refine SW.isub dX6_cancel_107 ?_
          refine SW.iast (kpM_2 ht2) (leM_2 ht2).1 (hW.le (leM_2 ht2).2) vc.1 dX6_cancel_108 ?_
          replace vc := vc.2
          refine SW.iload dX6_cancel_109 rfl ?_
          refine SW.iload dX6_cancel_111 rfl ?_
          refine SW.isub dX6_cancel_113 ?_
          refine SW.istore dX6_cancel_114 (by decide) rfl rfl ?_
          refine SW.iinc (v := (x6 + (1 : Int32))) dX6_cancel_116 rfl rfl (by decide) rfl rfl ?_
          refine SW.goto 18 dX6_cancel_119 (by decide) ?_
          refine SW.msk [true, true, true, true, true, true, true, false] rfl ?_
          exact vc
theorem ctX6_cancel {G : GG} {q : Nat → SG → TU → TH → Prop} {n : Nat} {σ : SG} {τ : TU} {θ : TH} (f : Nat) (t2 : Nat) (x3 : Int32) (h : SW G 2 mX6_cancel (aw_qv q) 0 0 0 [some (.ref 73), some (.ref f), some (.ref t2), some (.int x3), none, none, none, none] [] (n, σ, τ, θ)) : SMv G 2 mX6_cancel 0 0 [.ref 73, .ref f, .ref t2, .int x3] n σ τ θ q := SM.of _ rfl rfl (Nat.le_of_ble_eq_true rfl) h
set_option maxHeartbeats 4000000 in
set_option maxRecDepth 20000 in
theorem sgX6_find_0 {G : GG} {k : Nat} {q : Int32 → Nat → SG → TU → TH → Prop} {n : Nat} {σ : SG} {τ : TU} {θ : TH} (f : Nat) (t2 : Nat) (x3 : Int32) (hk : 4 ≤ k) (hf : isF f) (ht2 : isM t2) (hW : aw_WT n θ) (vc : SMv G 3 mX6_measure 0 0 [.ref 73, .ref f, .ref t2, .int x3] n σ τ θ (fun n1 σ1 τ1 θ1 => aw_WT n1 θ1 ∧ (SMi G 1 mX6_stepsFrom 0 0 [.ref 73, .ref f, .int x3] n1 σ1 τ1 θ1 (fun a2 n2 σ2 τ2 θ2 => aw_WT n2 θ2 ∧ (((¬ a2 = (-1 : Int32)) → (SW G k mX6_find (aw_qi q) 0 0 41 [some (.ref 73), some (.ref f), none, none, none, some (.int x3), some (.int (0 : Int32))] [] (n2, (aw_u σ2 73 1 (if (5 : Int32) < a2 then (5 : Int32) else a2)), τ2, θ2))) ∧ ((a2 = (-1 : Int32)) → (SW G k mX6_find (aw_qi q) 0 0 41 [some (.ref 73), some (.ref f), none, none, none, some (.int x3), some (.int (0 : Int32))] [] (n2, (aw_u σ2 73 1 (0 : Int32)), τ2, θ2)))))))) : SW G k mX6_find (aw_qi q) 0 0 0 [some (.ref 73), some (.ref f), some (.ref t2), some (.int x3), none, none, none] [] (n, σ, τ, θ) := by
  refine SW.aload_n dX6_find_0 rfl ?_
  refine SW.aload_n dX6_find_1 rfl ?_
  refine SW.aload_n dX6_find_2 rfl ?_
  refine SW.iload_n dX6_find_3 rfl ?_
  refine SW.cvv3 kV_X6_21 (by omega) aw_cl6 kp_73 (by decide) (hW.le (by decide)) rfl (Nat.le_of_ble_eq_true rfl) dX6_find_4 (SMv.mono vc ?_)
  intro n1 σ1 τ1 θ1 vc
  obtain ⟨hW, vc⟩ := vc
  refine SW.aload_n dX6_find_7 rfl ?_
  refine SW.aload_n dX6_find_8 rfl ?_
  refine SW.iload_n dX6_find_9 rfl ?_
  refine SW.cvi2 kV_X6_25 (by omega) aw_cl6 kp_73 (by decide) (hW.le (by decide)) rfl (Nat.le_of_ble_eq_true rfl) dX6_find_10 (SMi.mono vc ?_)
  intro a2 n2 σ2 τ2 θ2 vc
  obtain ⟨hW, vc⟩ := vc
  refine SW.istore dX6_find_13 (by decide) rfl rfl ?_
  refine SW.aload_n dX6_find_15 rfl ?_
  refine SW.iload dX6_find_16 rfl ?_
  refine SW.iconst (v := (-1 : Int32)) dX6_find_18 (by decide) ?_
  refine SW.icmp_ne 26 dX6_find_19 (by decide) (fun hbr => ?_) (fun hbr => ?_)
  · replace vc := vc.1 hbr
    refine SW.iload dX6_find_26 rfl ?_
    refine SW.iconst (v := (5 : Int32)) dX6_find_28 (by decide) ?_
    refine SW.mmin ww_925 ww_524 ww_123 ww_525 (by omega) (Nat.le_of_ble_eq_true rfl) dX6_find_29 ?_
    refine SW.putI (f := 1) aw_cl6 kp_73 (by decide) (hW.le (by decide)) (by decide) ww_266 (Or.inl rfl) dX6_find_32 rfl rfl rfl ?_
    refine SW.iload_n dX6_find_35 rfl ?_
    refine SW.istore dX6_find_36 (by decide) rfl rfl ?_
    refine SW.iconst (v := (0 : Int32)) dX6_find_38 (by decide) ?_
    refine SW.istore dX6_find_39 (by decide) rfl rfl ?_
    refine SW.msk [true, true, false, false, false, true, true] rfl ?_
    exact vc
  · replace vc := vc.2 hbr
    refine SW.iconst (v := (0 : Int32)) dX6_find_22 (by decide) ?_
    refine SW.goto 32 dX6_find_23 (by decide) ?_
    refine SW.putI (f := 1) aw_cl6 kp_73 (by decide) (hW.le (by decide)) (by decide) ww_266 (Or.inl rfl) dX6_find_32 rfl rfl rfl ?_
    refine SW.iload_n dX6_find_35 rfl ?_
    refine SW.istore dX6_find_36 (by decide) rfl rfl ?_
    refine SW.iconst (v := (0 : Int32)) dX6_find_38 (by decide) ?_
    refine SW.istore dX6_find_39 (by decide) rfl rfl ?_
    refine SW.msk [true, true, false, false, false, true, true] rfl ?_
    exact vc
set_option maxHeartbeats 4000000 in
set_option maxRecDepth 20000 in
theorem sgX6_find_41 {G : GG} {k : Nat} {q : Int32 → Nat → SG → TU → TH → Prop} {n : Nat} {σ : SG} {τ : TU} {θ : TH} (f : Nat) (t2 : Nat) (x5 : Int32) (x6 : Int32) (hk : 4 ≤ k) (hf : isF f) (ht2 : isM t2) (hW : aw_WT n θ) (vc : (((σ 73 1) ≤ x6) → ((((σ 73 1) ≤ 0) → (q (0 : Int32) n σ τ θ)) ∧ ((¬ (σ 73 1) ≤ 0) → (q (1 : Int32) n σ τ θ)))) ∧ ((¬ (σ 73 1) ≤ x6) → (((x5 = (-1 : Int32)) → ((((σ 73 1) ≤ 0) → (q (0 : Int32) n σ τ θ)) ∧ ((¬ (σ 73 1) ≤ 0) → (q (1 : Int32) n σ τ θ)))) ∧ ((¬ x5 = (-1 : Int32)) → (vp_in x6 5 ∧ (SMi G 1 mX6_firstTowards 0 0 [.ref 73, .ref f, .int x5, .int ((((aw_u σ 74 x6.toNatClampNeg x5) 73 1) - (1 : Int32)) - x6)] n (aw_u σ 74 x6.toNatClampNeg x5) τ θ (fun a1 n1 σ1 τ1 θ1 => aw_WT n1 θ1 ∧ (SW G k mX6_find (aw_qi q) 0 0 41 [some (.ref 73), some (.ref f), none, none, none, some (.int a1), some (.int (x6 + (1 : Int32)))] [] (n1, σ1, τ1, θ1))))))))) : SW G k mX6_find (aw_qi q) 0 0 41 [some (.ref 73), some (.ref f), none, none, none, some (.int x5), some (.int x6)] [] (n, σ, τ, θ) := by
  refine SW.iload dX6_find_41 rfl ?_
  refine SW.aload_n dX6_find_43 rfl ?_
  refine SW.getI (f := 1) aw_cl6 kp_73 (by decide) (hW.le (by decide)) (by decide) ww_266 dX6_find_44 rfl ?_
  refine SW.icmp_ge 89 dX6_find_47 (by decide) (fun hbr => ?_) (fun hbr => ?_)
  · replace vc := vc.1 hbr
    refine SW.aload_n dX6_find_89 rfl ?_
    refine SW.getI (f := 1) aw_cl6 kp_73 (by decide) (hW.le (by decide)) (by decide) ww_266 dX6_find_90 rfl ?_
    refine SW.if_le 100 dX6_find_93 (by decide) (fun hbr => ?_) (fun hbr => ?_)
    · replace vc := vc.1 hbr
      refine SW.iconst (v := (0 : Int32)) dX6_find_100 (by decide) ?_
      exact SW.iret dX6_find_101 rfl rfl ⟨_, rfl, vc⟩
    · replace vc := vc.2 hbr
      refine SW.iconst (v := (1 : Int32)) dX6_find_96 (by decide) ?_
      refine SW.goto 101 dX6_find_97 (by decide) ?_
      exact SW.iret dX6_find_101 rfl rfl ⟨_, rfl, vc⟩
  · replace vc := vc.2 hbr
    refine SW.iload dX6_find_50 rfl ?_
    refine SW.iconst (v := (-1 : Int32)) dX6_find_52 (by decide) ?_
    refine SW.icmp_eq 89 dX6_find_53 (by decide) (fun hbr => ?_) (fun hbr => ?_)
    · replace vc := vc.1 hbr
      refine SW.aload_n dX6_find_89 rfl ?_
      refine SW.getI (f := 1) aw_cl6 kp_73 (by decide) (hW.le (by decide)) (by decide) ww_266 dX6_find_90 rfl ?_
      refine SW.if_le 100 dX6_find_93 (by decide) (fun hbr => ?_) (fun hbr => ?_)
      · replace vc := vc.1 hbr
        refine SW.iconst (v := (0 : Int32)) dX6_find_100 (by decide) ?_
        exact SW.iret dX6_find_101 rfl rfl ⟨_, rfl, vc⟩
      · replace vc := vc.2 hbr
        refine SW.iconst (v := (1 : Int32)) dX6_find_96 (by decide) ?_
        refine SW.goto 101 dX6_find_97 (by decide) ?_
        exact SW.iret dX6_find_101 rfl rfl ⟨_, rfl, vc⟩
    · replace vc := vc.2 hbr
      refine SW.aload_n dX6_find_56 rfl ?_
      refine SW.getS (f := 0) (r := 74) aw_cl6 kp_73 (by decide) (hW.le (by decide)) (by decide) ww_264 dX6_find_57 rfl hW.t73_0 ?_
      refine SW.iload dX6_find_60 rfl ?_
      refine SW.iload dX6_find_62 rfl ?_
      refine SW.iast kp_74 (by decide) (hW.le (by decide)) vc.1 dX6_find_64 ?_
      replace vc := vc.2
      refine SW.aload_n dX6_find_65 rfl ?_
      refine SW.aload_n dX6_find_66 rfl ?_
      refine SW.iload dX6_find_67 rfl ?_
      refine SW.aload_n dX6_find_69 rfl ?_
      refine SW.getI (f := 1) aw_cl6 kp_73 (by decide) (hW.le (by decide)) (by decide) ww_266 dX6_find_70 rfl ?_
      refine SW.iconst (v := (1 : Int32)) dX6_find_73 (by decide) ?_
      refine SW.isub dX6_find_74 ?_
      refine SW.iload dX6_find_75 rfl ?_
      refine SW.isub dX6_find_77 ?_
      refine SW.cvi3 kV_X6_39 (by omega) aw_cl6 kp_73 (by decide) (hW.le (by decide)) rfl (Nat.le_of_ble_eq_true rfl) dX6_find_78 (SMi.mono vc ?_)
      intro a1 n1 σ1 τ1 θ1 vc
      obtain ⟨hW, vc⟩ := vc
      refine SW.istore dX6_find_81 (by decide) rfl rfl ?_
      refine SW.iinc (v := (x6 + (1 : Int32))) dX6_find_83 rfl rfl (by decide) rfl rfl ?_
      refine SW.goto 41 dX6_find_86 (by decide) ?_
      exact vc
theorem ctX6_find {G : GG} {q : Int32 → Nat → SG → TU → TH → Prop} {n : Nat} {σ : SG} {τ : TU} {θ : TH} (f : Nat) (t2 : Nat) (x3 : Int32) (h : SW G 4 mX6_find (aw_qi q) 0 0 0 [some (.ref 73), some (.ref f), some (.ref t2), some (.int x3), none, none, none] [] (n, σ, τ, θ)) : SMi G 4 mX6_find 0 0 [.ref 73, .ref f, .ref t2, .int x3] n σ τ θ q := SM.of _ rfl rfl (Nat.le_of_ble_eq_true rfl) h
set_option maxHeartbeats 4000000 in
set_option maxRecDepth 20000 in
theorem sgX6_firstTowards_0 {G : GG} {k : Nat} {q : Int32 → Nat → SG → TU → TH → Prop} {n : Nat} {σ : SG} {τ : TU} {θ : TH} (f : Nat) (x2 : Int32) (x3 : Int32) (hk : 1 ≤ k) (hf : isF f) (hW : aw_WT n θ) (vc : SW G k mX6_firstTowards (aw_qi q) 0 0 3 [some (.ref 73), some (.ref f), some (.int x2), some (.int x3), some (.int (0 : Int32))] [] (n, σ, τ, θ)) : SW G k mX6_firstTowards (aw_qi q) 0 0 0 [some (.ref 73), some (.ref f), some (.int x2), some (.int x3), none] [] (n, σ, τ, θ) := by
  refine SW.iconst (v := (0 : Int32)) dX6_firstTowards_0 (by decide) ?_
  refine SW.istore dX6_firstTowards_1 (by decide) rfl rfl ?_
  exact vc
set_option maxHeartbeats 4000000 in
set_option maxRecDepth 20000 in
theorem sgX6_firstTowards_3 {G : GG} {k : Nat} {q : Int32 → Nat → SG → TU → TH → Prop} {n : Nat} {σ : SG} {τ : TU} {θ : TH} (f : Nat) (x2 : Int32) (x3 : Int32) (x4 : Int32) (hk : 1 ≤ k) (hf : isF f) (hW : aw_WT n θ) (vc : (((σ f 13) ≤ x4) → (q (-1 : Int32) n σ τ θ)) ∧ ((¬ (σ f 13) ≤ x4) → (vp_in x2 5 ∧ ((((((σ 75 x2.toNatClampNeg) >>> (x4 &&& 31)) &&& (1 : Int32)) = 0) → (SW G k mX6_firstTowards (aw_qi q) 0 0 3 [some (.ref 73), some (.ref f), some (.int x2), some (.int x3), some (.int (x4 + (1 : Int32)))] [] (n, σ, τ, θ))) ∧ ((¬ (((σ 75 x2.toNatClampNeg) >>> (x4 &&& 31)) &&& (1 : Int32)) = 0) → (vp_in x4 5 ∧ (((¬ (σ 76 x4.toNatClampNeg) = x3) → (SW G k mX6_firstTowards (aw_qi q) 0 0 3 [some (.ref 73), some (.ref f), some (.int x2), some (.int x3), some (.int (x4 + (1 : Int32)))] [] (n, σ, τ, θ))) ∧ (((σ 76 x4.toNatClampNeg) = x3) → (q x4 n σ τ θ))))))))) : SW G k mX6_firstTowards (aw_qi q) 0 0 3 [some (.ref 73), some (.ref f), some (.int x2), some (.int x3), some (.int x4)] [] (n, σ, τ, θ) := by
  refine SW.iload dX6_firstTowards_3 rfl ?_
  refine SW.aload_n dX6_firstTowards_5 rfl ?_
  refine SW.getI (f := 13) aw_cl1 (kpF_0 hf) (leF_0 hf).1 (hW.le (leF_0 hf).2) (by decide) ww_420 dX6_firstTowards_6 rfl ?_
  refine SW.icmp_ge 46 dX6_firstTowards_9 (by decide) (fun hbr => ?_) (fun hbr => ?_)
  · replace vc := vc.1 hbr
    refine SW.iconst (v := (-1 : Int32)) dX6_firstTowards_46 (by decide) ?_
    exact SW.iret dX6_firstTowards_47 rfl rfl ⟨_, rfl, vc⟩
  · replace vc := vc.2 hbr
    refine SW.aload_n dX6_firstTowards_12 rfl ?_
    refine SW.getS (f := 2) (r := 75) aw_cl6 kp_73 (by decide) (hW.le (by decide)) (by decide) ww_268 dX6_firstTowards_13 rfl hW.t73_2 ?_
    refine SW.iload_n dX6_firstTowards_16 rfl ?_
    refine SW.iald kp_75 (by decide) (hW.le (by decide)) vc.1 dX6_firstTowards_17 ?_
    replace vc := vc.2
    refine SW.iload dX6_firstTowards_18 rfl ?_
    refine SW.ishr dX6_firstTowards_20 ?_
    refine SW.iconst (v := (1 : Int32)) dX6_firstTowards_21 (by decide) ?_
    refine SW.iand dX6_firstTowards_22 ?_
    refine SW.if_eq 40 dX6_firstTowards_23 (by decide) (fun hbr => ?_) (fun hbr => ?_)
    · replace vc := vc.1 hbr
      refine SW.iinc (v := (x4 + (1 : Int32))) dX6_firstTowards_40 rfl rfl (by decide) rfl rfl ?_
      refine SW.goto 3 dX6_firstTowards_43 (by decide) ?_
      exact vc
    · replace vc := vc.2 hbr
      refine SW.aload_n dX6_firstTowards_26 rfl ?_
      refine SW.getS (f := 3) (r := 76) aw_cl6 kp_73 (by decide) (hW.le (by decide)) (by decide) ww_269 dX6_firstTowards_27 rfl hW.t73_3 ?_
      refine SW.iload dX6_firstTowards_30 rfl ?_
      refine SW.iald kp_76 (by decide) (hW.le (by decide)) vc.1 dX6_firstTowards_32 ?_
      replace vc := vc.2
      refine SW.iload_n dX6_firstTowards_33 rfl ?_
      refine SW.icmp_ne 40 dX6_firstTowards_34 (by decide) (fun hbr => ?_) (fun hbr => ?_)
      · replace vc := vc.1 hbr
        refine SW.iinc (v := (x4 + (1 : Int32))) dX6_firstTowards_40 rfl rfl (by decide) rfl rfl ?_
        refine SW.goto 3 dX6_firstTowards_43 (by decide) ?_
        exact vc
      · replace vc := vc.2 hbr
        refine SW.iload dX6_firstTowards_37 rfl ?_
        exact SW.iret dX6_firstTowards_39 rfl rfl ⟨_, rfl, vc⟩
theorem ctX6_firstTowards {G : GG} {q : Int32 → Nat → SG → TU → TH → Prop} {n : Nat} {σ : SG} {τ : TU} {θ : TH} (f : Nat) (x2 : Int32) (x3 : Int32) (h : SW G 1 mX6_firstTowards (aw_qi q) 0 0 0 [some (.ref 73), some (.ref f), some (.int x2), some (.int x3), none] [] (n, σ, τ, θ)) : SMi G 1 mX6_firstTowards 0 0 [.ref 73, .ref f, .int x2, .int x3] n σ τ θ q := SM.of _ rfl rfl (Nat.le_of_ble_eq_true rfl) h
set_option maxHeartbeats 4000000 in
set_option maxRecDepth 20000 in
theorem sgX6_follower_0 {G : GG} {k : Nat} {q : Int32 → Nat → SG → TU → TH → Prop} {n : Nat} {σ : SG} {τ : TU} {θ : TH}  (x1 : Int32) (hk : 1 ≤ k)  (hW : aw_WT n θ) (vc : (((σ 73 1) ≤ (x1 + (1 : Int32))) → (q (σ 74 0) n σ τ θ)) ∧ ((¬ (σ 73 1) ≤ (x1 + (1 : Int32))) → (vp_in (x1 + (1 : Int32)) 5 ∧ (q (σ 74 (x1 + (1 : Int32)).toNatClampNeg) n σ τ θ)))) : SW G k mX6_follower (aw_qi q) 0 0 0 [some (.ref 73), some (.int x1)] [] (n, σ, τ, θ) := by
  refine SW.iload_n dX6_follower_0 rfl ?_
  refine SW.iconst (v := (1 : Int32)) dX6_follower_1 (by decide) ?_
  refine SW.iadd dX6_follower_2 ?_
  refine SW.aload_n dX6_follower_3 rfl ?_
  refine SW.getI (f := 1) aw_cl6 kp_73 (by decide) (hW.le (by decide)) (by decide) ww_266 dX6_follower_4 rfl ?_
  refine SW.icmp_ge 21 dX6_follower_7 (by decide) (fun hbr => ?_) (fun hbr => ?_)
  · replace vc := vc.1 hbr
    refine SW.aload_n dX6_follower_21 rfl ?_
    refine SW.getS (f := 0) (r := 74) aw_cl6 kp_73 (by decide) (hW.le (by decide)) (by decide) ww_264 dX6_follower_22 rfl hW.t73_0 ?_
    refine SW.iconst (v := (0 : Int32)) dX6_follower_25 (by decide) ?_
    refine SW.iald kp_74 (by decide) (hW.le (by decide)) (vp_in_nI (n := 0) (by decide) (by decide)) dX6_follower_26 ?_
    exact SW.iret dX6_follower_27 rfl rfl ⟨_, rfl, vc⟩
  · replace vc := vc.2 hbr
    refine SW.aload_n dX6_follower_10 rfl ?_
    refine SW.getS (f := 0) (r := 74) aw_cl6 kp_73 (by decide) (hW.le (by decide)) (by decide) ww_264 dX6_follower_11 rfl hW.t73_0 ?_
    refine SW.iload_n dX6_follower_14 rfl ?_
    refine SW.iconst (v := (1 : Int32)) dX6_follower_15 (by decide) ?_
    refine SW.iadd dX6_follower_16 ?_
    refine SW.iald kp_74 (by decide) (hW.le (by decide)) vc.1 dX6_follower_17 ?_
    replace vc := vc.2
    refine SW.goto 27 dX6_follower_18 (by decide) ?_
    exact SW.iret dX6_follower_27 rfl rfl ⟨_, rfl, vc⟩
theorem ctX6_follower {G : GG} {q : Int32 → Nat → SG → TU → TH → Prop} {n : Nat} {σ : SG} {τ : TU} {θ : TH} (x1 : Int32) (h : SW G 1 mX6_follower (aw_qi q) 0 0 0 [some (.ref 73), some (.int x1)] [] (n, σ, τ, θ)) : SMi G 1 mX6_follower 0 0 [.ref 73, .int x1] n σ τ θ q := SM.of _ rfl rfl (Nat.le_of_ble_eq_true rfl) h
set_option maxHeartbeats 4000000 in
set_option maxRecDepth 20000 in
theorem sgX6_measure_0 {G : GG} {k : Nat} {q : Nat → SG → TU → TH → Prop} {n : Nat} {σ : SG} {τ : TU} {θ : TH} (f : Nat) (t2 : Nat) (x3 : Int32) (hk : 3 ≤ k) (hf : isF f) (ht2 : isM t2) (hW : aw_WT n θ) (vc : SW G k mX6_measure (aw_qv q) 0 0 3 [some (.ref 73), some (.ref f), some (.ref t2), some (.int x3), some (.int (0 : Int32)), none] [] (n, σ, τ, θ)) : SW G k mX6_measure (aw_qv q) 0 0 0 [some (.ref 73), some (.ref f), some (.ref t2), some (.int x3), none, none] [] (n, σ, τ, θ) := by
  refine SW.iconst (v := (0 : Int32)) dX6_measure_0 (by decide) ?_
  refine SW.istore dX6_measure_1 (by decide) rfl rfl ?_
  exact vc
set_option maxHeartbeats 4000000 in
set_option maxRecDepth 20000 in
theorem sgX6_measure_3 {G : GG} {k : Nat} {q : Nat → SG → TU → TH → Prop} {n : Nat} {σ : SG} {τ : TU} {θ : TH} (f : Nat) (t2 : Nat) (x3 : Int32) (x4 : Int32) (hk : 3 ≤ k) (hf : isF f) (ht2 : isM t2) (hW : aw_WT n θ) (vc : (((σ f 13) ≤ x4) → (SW G k mX6_measure (aw_qv q) 0 0 53 [some (.ref 73), some (.ref f), none, none, some (.int (1 : Int32)), none] [] (n, σ, τ, θ))) ∧ ((¬ (σ f 13) ≤ x4) → (SMi G 2 mX1_owedBits 0 0 [.ref f, .ref t2, .int x4] n σ τ θ (fun a1 n1 σ1 τ1 θ1 => aw_WT n1 θ1 ∧ (vp_in x4 5 ∧ (((¬ x4 = x3) → (vp_in x4 5 ∧ (SW G k mX6_measure (aw_qv q) 0 0 3 [some (.ref 73), some (.ref f), some (.ref t2), some (.int x3), some (.int (x4 + (1 : Int32))), none] [] (n1, (aw_u (aw_u σ1 75 x4.toNatClampNeg a1) 76 x4.toNatClampNeg (-1 : Int32)), τ1, θ1)))) ∧ ((x4 = x3) → (vp_in x4 5 ∧ (SW G k mX6_measure (aw_qv q) 0 0 3 [some (.ref 73), some (.ref f), some (.ref t2), some (.int x3), some (.int (x4 + (1 : Int32))), none] [] (n1, (aw_u (aw_u σ1 75 x4.toNatClampNeg a1) 76 x4.toNatClampNeg (0 : Int32)), τ1, θ1)))))))))) : SW G k mX6_measure (aw_qv q) 0 0 3 [some (.ref 73), some (.ref f), some (.ref t2), some (.int x3), some (.int x4), none] [] (n, σ, τ, θ) := by
  refine SW.iload dX6_measure_3 rfl ?_
  refine SW.aload_n dX6_measure_5 rfl ?_
  refine SW.getI (f := 13) aw_cl1 (kpF_0 hf) (leF_0 hf).1 (hW.le (leF_0 hf).2) (by decide) ww_420 dX6_measure_6 rfl ?_
  refine SW.icmp_ge 50 dX6_measure_9 (by decide) (fun hbr => ?_) (fun hbr => ?_)
  · replace vc := vc.1 hbr
    refine SW.iconst (v := (1 : Int32)) dX6_measure_50 (by decide) ?_
    refine SW.istore dX6_measure_51 (by decide) rfl rfl ?_
    refine SW.msk [true, true, false, false, true, true] rfl ?_
    exact vc
  · replace vc := vc.2 hbr
    refine SW.aload_n dX6_measure_12 rfl ?_
    refine SW.getS (f := 2) (r := 75) aw_cl6 kp_73 (by decide) (hW.le (by decide)) (by decide) ww_268 dX6_measure_13 rfl hW.t73_2 ?_
    refine SW.iload dX6_measure_16 rfl ?_
    refine SW.aload_n dX6_measure_18 rfl ?_
    refine SW.aload_n dX6_measure_19 rfl ?_
    refine SW.iload dX6_measure_20 rfl ?_
    refine SW.cvi2 kV_X6_48 (by omega) aw_cl1 (kpF_0 hf) (leF_0 hf).1 (hW.le (leF_0 hf).2) rfl (Nat.le_of_ble_eq_true rfl) dX6_measure_22 (SMi.mono vc ?_)
    intro a1 n1 σ1 τ1 θ1 vc
    obtain ⟨hW, vc⟩ := vc
    refine SW.iast kp_75 (by decide) (hW.le (by decide)) vc.1 dX6_measure_25 ?_
    replace vc := vc.2
    refine SW.aload_n dX6_measure_26 rfl ?_
    refine SW.getS (f := 3) (r := 76) aw_cl6 kp_73 (by decide) (hW.le (by decide)) (by decide) ww_269 dX6_measure_27 rfl hW.t73_3 ?_
    refine SW.iload dX6_measure_30 rfl ?_
    refine SW.iload dX6_measure_32 rfl ?_
    refine SW.iload_n dX6_measure_34 rfl ?_
    refine SW.icmp_ne 42 dX6_measure_35 (by decide) (fun hbr => ?_) (fun hbr => ?_)
    · replace vc := vc.1 hbr
      refine SW.iconst (v := (-1 : Int32)) dX6_measure_42 (by decide) ?_
      refine SW.iast kp_76 (by decide) (hW.le (by decide)) vc.1 dX6_measure_43 ?_
      replace vc := vc.2
      refine SW.iinc (v := (x4 + (1 : Int32))) dX6_measure_44 rfl rfl (by decide) rfl rfl ?_
      refine SW.goto 3 dX6_measure_47 (by decide) ?_
      exact vc
    · replace vc := vc.2 hbr
      refine SW.iconst (v := (0 : Int32)) dX6_measure_38 (by decide) ?_
      refine SW.goto 43 dX6_measure_39 (by decide) ?_
      refine SW.iast kp_76 (by decide) (hW.le (by decide)) vc.1 dX6_measure_43 ?_
      replace vc := vc.2
      refine SW.iinc (v := (x4 + (1 : Int32))) dX6_measure_44 rfl rfl (by decide) rfl rfl ?_
      refine SW.goto 3 dX6_measure_47 (by decide) ?_
      exact vc
set_option maxHeartbeats 4000000 in
set_option maxRecDepth 20000 in
theorem sgX6_measure_53 {G : GG} {k : Nat} {q : Nat → SG → TU → TH → Prop} {n : Nat} {σ : SG} {τ : TU} {θ : TH} (f : Nat) (t2 : Nat) (x4 : Int32) (hk : 3 ≤ k) (hf : isF f) (ht2 : isM t2) (hW : aw_WT n θ) (vc : (((σ f 13) ≤ x4) → (q n σ τ θ)) ∧ ((¬ (σ f 13) ≤ x4) → (SW G k mX6_measure (aw_qv q) 0 0 65 [some (.ref 73), some (.ref f), none, none, some (.int x4), some (.int (0 : Int32))] [] (n, σ, τ, θ)))) : SW G k mX6_measure (aw_qv q) 0 0 53 [some (.ref 73), some (.ref f), none, none, some (.int x4), none] [] (n, σ, τ, θ) := by
  refine SW.iload dX6_measure_53 rfl ?_
  refine SW.aload_n dX6_measure_55 rfl ?_
  refine SW.getI (f := 13) aw_cl1 (kpF_0 hf) (leF_0 hf).1 (hW.le (leF_0 hf).2) (by decide) ww_420 dX6_measure_56 rfl ?_
  refine SW.icmp_ge 118 dX6_measure_59 (by decide) (fun hbr => ?_) (fun hbr => ?_)
  · replace vc := vc.1 hbr
    exact SW.vret dX6_measure_118 rfl ⟨rfl, vc⟩
  · replace vc := vc.2 hbr
    refine SW.iconst (v := (0 : Int32)) dX6_measure_62 (by decide) ?_
    refine SW.istore dX6_measure_63 (by decide) rfl rfl ?_
    exact vc
set_option maxHeartbeats 4000000 in
set_option maxRecDepth 20000 in
theorem sgX6_measure_65 {G : GG} {k : Nat} {q : Nat → SG → TU → TH → Prop} {n : Nat} {σ : SG} {τ : TU} {θ : TH} (f : Nat) (t2 : Nat) (x4 : Int32) (x5 : Int32) (hk : 3 ≤ k) (hf : isF f) (ht2 : isM t2) (hW : aw_WT n θ) (vc : (((σ f 13) ≤ x5) → (SW G k mX6_measure (aw_qv q) 0 0 53 [some (.ref 73), some (.ref f), none, none, some (.int (x4 + (1 : Int32))), none] [] (n, σ, τ, θ))) ∧ ((¬ (σ f 13) ≤ x5) → (vp_in x5 5 ∧ (((¬ (σ 76 x5.toNatClampNeg) = (-1 : Int32)) → (SW G k mX6_measure (aw_qv q) 0 0 65 [some (.ref 73), some (.ref f), none, none, some (.int x4), some (.int (x5 + (1 : Int32)))] [] (n, σ, τ, θ))) ∧ (((σ 76 x5.toNatClampNeg) = (-1 : Int32)) → (SMi G 1 mX6_stepsFrom 0 0 [.ref 73, .ref f, .int x5] n σ τ θ (fun a1 n1 σ1 τ1 θ1 => aw_WT n1 θ1 ∧ (((¬ a1 = x4) → (SW G k mX6_measure (aw_qv q) 0 0 65 [some (.ref 73), some (.ref f), none, none, some (.int x4), some (.int (x5 + (1 : Int32)))] [] (n1, σ1, τ1, θ1))) ∧ ((a1 = x4) → (vp_in x5 5 ∧ (SW G k mX6_measure (aw_qv q) 0 0 65 [some (.ref 73), some (.ref f), none, none, some (.int x4), some (.int (x5 + (1 : Int32)))] [] (n1, (aw_u σ1 76 x5.toNatClampNeg x4), τ1, θ1)))))))))))) : SW G k mX6_measure (aw_qv q) 0 0 65 [some (.ref 73), some (.ref f), none, none, some (.int x4), some (.int x5)] [] (n, σ, τ, θ) := by
  refine SW.iload dX6_measure_65 rfl ?_
  refine SW.aload_n dX6_measure_67 rfl ?_
  refine SW.getI (f := 13) aw_cl1 (kpF_0 hf) (leF_0 hf).1 (hW.le (leF_0 hf).2) (by decide) ww_420 dX6_measure_68 rfl ?_
  refine SW.icmp_ge 112 dX6_measure_71 (by decide) (fun hbr => ?_) (fun hbr => ?_)
  · replace vc := vc.1 hbr
    refine SW.iinc (v := (x4 + (1 : Int32))) dX6_measure_112 rfl rfl (by decide) rfl rfl ?_
    refine SW.goto 53 dX6_measure_115 (by decide) ?_
    refine SW.msk [true, true, true, true, true, false] rfl ?_
    exact vc
  · replace vc := vc.2 hbr
    refine SW.aload_n dX6_measure_74 rfl ?_
    refine SW.getS (f := 3) (r := 76) aw_cl6 kp_73 (by decide) (hW.le (by decide)) (by decide) ww_269 dX6_measure_75 rfl hW.t73_3 ?_
    refine SW.iload dX6_measure_78 rfl ?_
    refine SW.iald kp_76 (by decide) (hW.le (by decide)) vc.1 dX6_measure_80 ?_
    replace vc := vc.2
    refine SW.iconst (v := (-1 : Int32)) dX6_measure_81 (by decide) ?_
    refine SW.icmp_ne 106 dX6_measure_82 (by decide) (fun hbr => ?_) (fun hbr => ?_)
    · replace vc := vc.1 hbr
      refine SW.iinc (v := (x5 + (1 : Int32))) dX6_measure_106 rfl rfl (by decide) rfl rfl ?_
      refine SW.goto 65 dX6_measure_109 (by decide) ?_
      exact vc
    · replace vc := vc.2 hbr
      refine SW.aload_n dX6_measure_85 rfl ?_
      refine SW.aload_n dX6_measure_86 rfl ?_
      refine SW.iload dX6_measure_87 rfl ?_
      refine SW.cvi2 kV_X6_25 (by omega) aw_cl6 kp_73 (by decide) (hW.le (by decide)) rfl (Nat.le_of_ble_eq_true rfl) dX6_measure_89 (SMi.mono vc ?_)
      intro a1 n1 σ1 τ1 θ1 vc
      obtain ⟨hW, vc⟩ := vc
      refine SW.iload dX6_measure_92 rfl ?_
      refine SW.icmp_ne 106 dX6_measure_94 (by decide) (fun hbr => ?_) (fun hbr => ?_)
      · replace vc := vc.1 hbr
        refine SW.iinc (v := (x5 + (1 : Int32))) dX6_measure_106 rfl rfl (by decide) rfl rfl ?_
        refine SW.goto 65 dX6_measure_109 (by decide) ?_
        exact vc
      · replace vc := vc.2 hbr
        refine SW.aload_n dX6_measure_97 rfl ?_
        refine SW.getS (f := 3) (r := 76) aw_cl6 kp_73 (by decide) (hW.le (by decide)) (by decide) ww_269 dX6_measure_98 rfl hW.t73_3 ?_
        refine SW.iload dX6_measure_101 rfl ?_
        refine SW.iload dX6_measure_103 rfl ?_
        refine SW.iast kp_76 (by decide) (hW.le (by decide)) vc.1 dX6_measure_105 ?_
        replace vc := vc.2
        refine SW.iinc (v := (x5 + (1 : Int32))) dX6_measure_106 rfl rfl (by decide) rfl rfl ?_
        refine SW.goto 65 dX6_measure_109 (by decide) ?_
        exact vc
theorem ctX6_measure {G : GG} {q : Nat → SG → TU → TH → Prop} {n : Nat} {σ : SG} {τ : TU} {θ : TH} (f : Nat) (t2 : Nat) (x3 : Int32) (h : SW G 3 mX6_measure (aw_qv q) 0 0 0 [some (.ref 73), some (.ref f), some (.ref t2), some (.int x3), none, none] [] (n, σ, τ, θ)) : SMv G 3 mX6_measure 0 0 [.ref 73, .ref f, .ref t2, .int x3] n σ τ θ q := SM.of _ rfl rfl (Nat.le_of_ble_eq_true rfl) h
set_option maxHeartbeats 4000000 in
set_option maxRecDepth 20000 in
theorem sgX6_stepsFrom_0 {G : GG} {k : Nat} {q : Int32 → Nat → SG → TU → TH → Prop} {n : Nat} {σ : SG} {τ : TU} {θ : TH} (f : Nat) (x2 : Int32) (hk : 1 ≤ k) (hf : isF f) (hW : aw_WT n θ) (vc : SW G k mX6_stepsFrom (aw_qi q) 0 0 5 [some (.ref 73), some (.ref f), some (.int x2), some (.int (-1 : Int32)), some (.int (0 : Int32)), none] [] (n, σ, τ, θ)) : SW G k mX6_stepsFrom (aw_qi q) 0 0 0 [some (.ref 73), some (.ref f), some (.int x2), none, none, none] [] (n, σ, τ, θ) := by
  refine SW.iconst (v := (-1 : Int32)) dX6_stepsFrom_0 (by decide) ?_
  refine SW.istore_n dX6_stepsFrom_1 (by decide) rfl rfl ?_
  refine SW.iconst (v := (0 : Int32)) dX6_stepsFrom_2 (by decide) ?_
  refine SW.istore dX6_stepsFrom_3 (by decide) rfl rfl ?_
  exact vc
set_option maxHeartbeats 4000000 in
set_option maxRecDepth 20000 in
theorem sgX6_stepsFrom_5 {G : GG} {k : Nat} {q : Int32 → Nat → SG → TU → TH → Prop} {n : Nat} {σ : SG} {τ : TU} {θ : TH} (f : Nat) (x2 : Int32) (x3 : Int32) (x4 : Int32) (hk : 1 ≤ k) (hf : isF f) (hW : aw_WT n θ) (vc : (((σ f 13) ≤ x4) → (q x3 n σ τ θ)) ∧ ((¬ (σ f 13) ≤ x4) → (vp_in x4 5 ∧ (vp_in x2 5 ∧ ((((((σ 75 x2.toNatClampNeg) >>> (x4 &&& 31)) &&& (1 : Int32)) = 0) → (SW G k mX6_stepsFrom (aw_qi q) 0 0 5 [some (.ref 73), some (.ref f), some (.int x2), some (.int x3), some (.int (x4 + (1 : Int32))), none] [] (n, σ, τ, θ))) ∧ ((¬ (((σ 75 x2.toNatClampNeg) >>> (x4 &&& 31)) &&& (1 : Int32)) = 0) → ((((σ 76 x4.toNatClampNeg) = (-1 : Int32)) → (SW G k mX6_stepsFrom (aw_qi q) 0 0 5 [some (.ref 73), some (.ref f), some (.int x2), some (.int x3), some (.int (x4 + (1 : Int32))), none] [] (n, σ, τ, θ))) ∧ ((¬ (σ 76 x4.toNatClampNeg) = (-1 : Int32)) → (((x3 = (-1 : Int32)) → (SW G k mX6_stepsFrom (aw_qi q) 0 0 5 [some (.ref 73), some (.ref f), some (.int x2), some (.int ((σ 76 x4.toNatClampNeg) + (1 : Int32))), some (.int (x4 + (1 : Int32))), none] [] (n, σ, τ, θ))) ∧ ((¬ x3 = (-1 : Int32)) → (((x3 ≤ ((σ 76 x4.toNatClampNeg) + (1 : Int32))) → (SW G k mX6_stepsFrom (aw_qi q) 0 0 5 [some (.ref 73), some (.ref f), some (.int x2), some (.int x3), some (.int (x4 + (1 : Int32))), none] [] (n, σ, τ, θ))) ∧ ((¬ x3 ≤ ((σ 76 x4.toNatClampNeg) + (1 : Int32))) → (SW G k mX6_stepsFrom (aw_qi q) 0 0 5 [some (.ref 73), some (.ref f), some (.int x2), some (.int ((σ 76 x4.toNatClampNeg) + (1 : Int32))), some (.int (x4 + (1 : Int32))), none] [] (n, σ, τ, θ)))))))))))))) : SW G k mX6_stepsFrom (aw_qi q) 0 0 5 [some (.ref 73), some (.ref f), some (.int x2), some (.int x3), some (.int x4), none] [] (n, σ, τ, θ) := by
  refine SW.iload dX6_stepsFrom_5 rfl ?_
  refine SW.aload_n dX6_stepsFrom_7 rfl ?_
  refine SW.getI (f := 13) aw_cl1 (kpF_0 hf) (leF_0 hf).1 (hW.le (leF_0 hf).2) (by decide) ww_420 dX6_stepsFrom_8 rfl ?_
  refine SW.icmp_ge 67 dX6_stepsFrom_11 (by decide) (fun hbr => ?_) (fun hbr => ?_)
  · replace vc := vc.1 hbr
    refine SW.iload_n dX6_stepsFrom_67 rfl ?_
    exact SW.iret dX6_stepsFrom_68 rfl rfl ⟨_, rfl, vc⟩
  · replace vc := vc.2 hbr
    refine SW.aload_n dX6_stepsFrom_14 rfl ?_
    refine SW.getS (f := 3) (r := 76) aw_cl6 kp_73 (by decide) (hW.le (by decide)) (by decide) ww_269 dX6_stepsFrom_15 rfl hW.t73_3 ?_
    refine SW.iload dX6_stepsFrom_18 rfl ?_
    refine SW.iald kp_76 (by decide) (hW.le (by decide)) vc.1 dX6_stepsFrom_20 ?_
    replace vc := vc.2
    refine SW.istore dX6_stepsFrom_21 (by decide) rfl rfl ?_
    refine SW.aload_n dX6_stepsFrom_23 rfl ?_
    refine SW.getS (f := 2) (r := 75) aw_cl6 kp_73 (by decide) (hW.le (by decide)) (by decide) ww_268 dX6_stepsFrom_24 rfl hW.t73_2 ?_
    refine SW.iload_n dX6_stepsFrom_27 rfl ?_
    refine SW.iald kp_75 (by decide) (hW.le (by decide)) vc.1 dX6_stepsFrom_28 ?_
    replace vc := vc.2
    refine SW.iload dX6_stepsFrom_29 rfl ?_
    refine SW.ishr dX6_stepsFrom_31 ?_
    refine SW.iconst (v := (1 : Int32)) dX6_stepsFrom_32 (by decide) ?_
    refine SW.iand dX6_stepsFrom_33 ?_
    refine SW.if_eq 61 dX6_stepsFrom_34 (by decide) (fun hbr => ?_) (fun hbr => ?_)
    · replace vc := vc.1 hbr
      refine SW.iinc (v := (x4 + (1 : Int32))) dX6_stepsFrom_61 rfl rfl (by decide) rfl rfl ?_
      refine SW.goto 5 dX6_stepsFrom_64 (by decide) ?_
      refine SW.msk [true, true, true, true, true, false] rfl ?_
      exact vc
    · replace vc := vc.2 hbr
      refine SW.iload dX6_stepsFrom_37 rfl ?_
      refine SW.iconst (v := (-1 : Int32)) dX6_stepsFrom_39 (by decide) ?_
      refine SW.icmp_eq 61 dX6_stepsFrom_40 (by decide) (fun hbr => ?_) (fun hbr => ?_)
      · replace vc := vc.1 hbr
        refine SW.iinc (v := (x4 + (1 : Int32))) dX6_stepsFrom_61 rfl rfl (by decide) rfl rfl ?_
        refine SW.goto 5 dX6_stepsFrom_64 (by decide) ?_
        refine SW.msk [true, true, true, true, true, false] rfl ?_
        exact vc
      · replace vc := vc.2 hbr
        refine SW.iload_n dX6_stepsFrom_43 rfl ?_
        refine SW.iconst (v := (-1 : Int32)) dX6_stepsFrom_44 (by decide) ?_
        refine SW.icmp_eq 56 dX6_stepsFrom_45 (by decide) (fun hbr => ?_) (fun hbr => ?_)
        · replace vc := vc.1 hbr
          refine SW.iload dX6_stepsFrom_56 rfl ?_
          refine SW.iconst (v := (1 : Int32)) dX6_stepsFrom_58 (by decide) ?_
          refine SW.iadd dX6_stepsFrom_59 ?_
          refine SW.istore_n dX6_stepsFrom_60 (by decide) rfl rfl ?_
          refine SW.iinc (v := (x4 + (1 : Int32))) dX6_stepsFrom_61 rfl rfl (by decide) rfl rfl ?_
          refine SW.goto 5 dX6_stepsFrom_64 (by decide) ?_
          refine SW.msk [true, true, true, true, true, false] rfl ?_
          exact vc
        · replace vc := vc.2 hbr
          refine SW.iload dX6_stepsFrom_48 rfl ?_
          refine SW.iconst (v := (1 : Int32)) dX6_stepsFrom_50 (by decide) ?_
          refine SW.iadd dX6_stepsFrom_51 ?_
          refine SW.iload_n dX6_stepsFrom_52 rfl ?_
          refine SW.icmp_ge 61 dX6_stepsFrom_53 (by decide) (fun hbr => ?_) (fun hbr => ?_)
          · replace vc := vc.1 hbr
            refine SW.iinc (v := (x4 + (1 : Int32))) dX6_stepsFrom_61 rfl rfl (by decide) rfl rfl ?_
            refine SW.goto 5 dX6_stepsFrom_64 (by decide) ?_
            refine SW.msk [true, true, true, true, true, false] rfl ?_
            exact vc
          · replace vc := vc.2 hbr
            refine SW.iload dX6_stepsFrom_56 rfl ?_
            refine SW.iconst (v := (1 : Int32)) dX6_stepsFrom_58 (by decide) ?_
            refine SW.iadd dX6_stepsFrom_59 ?_
            refine SW.istore_n dX6_stepsFrom_60 (by decide) rfl rfl ?_
            refine SW.iinc (v := (x4 + (1 : Int32))) dX6_stepsFrom_61 rfl rfl (by decide) rfl rfl ?_
            refine SW.goto 5 dX6_stepsFrom_64 (by decide) ?_
            refine SW.msk [true, true, true, true, true, false] rfl ?_
            exact vc
theorem ctX6_stepsFrom {G : GG} {q : Int32 → Nat → SG → TU → TH → Prop} {n : Nat} {σ : SG} {τ : TU} {θ : TH} (f : Nat) (x2 : Int32) (h : SW G 1 mX6_stepsFrom (aw_qi q) 0 0 0 [some (.ref 73), some (.ref f), some (.int x2), none, none, none] [] (n, σ, τ, θ)) : SMi G 1 mX6_stepsFrom 0 0 [.ref 73, .ref f, .int x2] n σ τ θ q := SM.of _ rfl rfl (Nat.le_of_ble_eq_true rfl) h
set_option maxHeartbeats 4000000 in
set_option maxRecDepth 20000 in
theorem sgX6_sum_0 {G : GG} {k : Nat} {q : Int32 → Nat → SG → TU → TH → Prop} {n : Nat} {σ : SG} {τ : TU} {θ : TH} (f : Nat) (t2 : Nat)  (hk : 3 ≤ k) (hf : isF f) (ht2 : isM t2) (hW : aw_WT n θ) (vc : SW G k mX6_sum (aw_qi q) 0 0 5 [some (.ref 73), some (.ref f), some (.ref t2), some (.int (-1 : Int32)), some (.int (0 : Int32)), none] [] (n, σ, τ, θ)) : SW G k mX6_sum (aw_qi q) 0 0 0 [some (.ref 73), some (.ref f), some (.ref t2), none, none, none] [] (n, σ, τ, θ) := by
  refine SW.iconst (v := (-1 : Int32)) dX6_sum_0 (by decide) ?_
  refine SW.istore_n dX6_sum_1 (by decide) rfl rfl ?_
  refine SW.iconst (v := (0 : Int32)) dX6_sum_2 (by decide) ?_
  refine SW.istore dX6_sum_3 (by decide) rfl rfl ?_
  exact vc
set_option maxHeartbeats 4000000 in
set_option maxRecDepth 20000 in
theorem sgX6_sum_5 {G : GG} {k : Nat} {q : Int32 → Nat → SG → TU → TH → Prop} {n : Nat} {σ : SG} {τ : TU} {θ : TH} (f : Nat) (t2 : Nat) (x3 : Int32) (x4 : Int32) (hk : 3 ≤ k) (hf : isF f) (ht2 : isM t2) (hW : aw_WT n θ) (vc : (((σ 73 1) ≤ x4) → (q x3 n σ τ θ)) ∧ ((¬ (σ 73 1) ≤ x4) → (vp_in x4 5 ∧ (SMi G 1 mX6_follower 0 0 [.ref 73, .int x4] n σ τ θ (fun a1 n1 σ1 τ1 θ1 => aw_WT n1 θ1 ∧ (SMi G 2 mX1_dueBetween 0 0 [.ref f, .ref t2, .int (σ 74 x4.toNatClampNeg), .int a1] n1 σ1 τ1 θ1 (fun a2 n2 σ2 τ2 θ2 => aw_WT n2 θ2 ∧ (((x3 = (-1 : Int32)) → (SW G k mX6_sum (aw_qi q) 0 0 5 [some (.ref 73), some (.ref f), some (.ref t2), some (.int a2), some (.int (x4 + (1 : Int32))), none] [] (n2, σ2, τ2, θ2))) ∧ ((¬ x3 = (-1 : Int32)) → (((x3 ≤ a2) → (SW G k mX6_sum (aw_qi q) 0 0 5 [some (.ref 73), some (.ref f), some (.ref t2), some (.int x3), some (.int (x4 + (1 : Int32))), none] [] (n2, σ2, τ2, θ2))) ∧ ((¬ x3 ≤ a2) → (SW G k mX6_sum (aw_qi q) 0 0 5 [some (.ref 73), some (.ref f), some (.ref t2), some (.int a2), some (.int (x4 + (1 : Int32))), none] [] (n2, σ2, τ2, θ2))))))))))))) : SW G k mX6_sum (aw_qi q) 0 0 5 [some (.ref 73), some (.ref f), some (.ref t2), some (.int x3), some (.int x4), none] [] (n, σ, τ, θ) := by
  refine SW.iload dX6_sum_5 rfl ?_
  refine SW.aload_n dX6_sum_7 rfl ?_
  refine SW.getI (f := 1) aw_cl6 kp_73 (by decide) (hW.le (by decide)) (by decide) ww_266 dX6_sum_8 rfl ?_
  refine SW.icmp_ge 54 dX6_sum_11 (by decide) (fun hbr => ?_) (fun hbr => ?_)
  · replace vc := vc.1 hbr
    refine SW.iload_n dX6_sum_54 rfl ?_
    exact SW.iret dX6_sum_55 rfl rfl ⟨_, rfl, vc⟩
  · replace vc := vc.2 hbr
    refine SW.aload_n dX6_sum_14 rfl ?_
    refine SW.aload_n dX6_sum_15 rfl ?_
    refine SW.aload_n dX6_sum_16 rfl ?_
    refine SW.getS (f := 0) (r := 74) aw_cl6 kp_73 (by decide) (hW.le (by decide)) (by decide) ww_264 dX6_sum_17 rfl hW.t73_0 ?_
    refine SW.iload dX6_sum_20 rfl ?_
    refine SW.iald kp_74 (by decide) (hW.le (by decide)) vc.1 dX6_sum_22 ?_
    replace vc := vc.2
    refine SW.aload_n dX6_sum_23 rfl ?_
    refine SW.iload dX6_sum_24 rfl ?_
    refine SW.cvi1 kV_X6_52 (by omega) aw_cl6 kp_73 (by decide) (hW.le (by decide)) rfl (Nat.le_of_ble_eq_true rfl) dX6_sum_26 (SMi.mono vc ?_)
    intro a1 n1 σ1 τ1 θ1 vc
    obtain ⟨hW, vc⟩ := vc
    refine SW.cvi3 kV_X6_56 (by omega) aw_cl1 (kpF_0 hf) (leF_0 hf).1 (hW.le (leF_0 hf).2) rfl (Nat.le_of_ble_eq_true rfl) dX6_sum_29 (SMi.mono vc ?_)
    intro a2 n2 σ2 τ2 θ2 vc
    obtain ⟨hW, vc⟩ := vc
    refine SW.istore dX6_sum_32 (by decide) rfl rfl ?_
    refine SW.iload_n dX6_sum_34 rfl ?_
    refine SW.iconst (v := (-1 : Int32)) dX6_sum_35 (by decide) ?_
    refine SW.icmp_eq 45 dX6_sum_36 (by decide) (fun hbr => ?_) (fun hbr => ?_)
    · replace vc := vc.1 hbr
      refine SW.iload dX6_sum_45 rfl ?_
      refine SW.istore_n dX6_sum_47 (by decide) rfl rfl ?_
      refine SW.iinc (v := (x4 + (1 : Int32))) dX6_sum_48 rfl rfl (by decide) rfl rfl ?_
      refine SW.goto 5 dX6_sum_51 (by decide) ?_
      refine SW.msk [true, true, true, true, true, false] rfl ?_
      exact vc
    · replace vc := vc.2 hbr
      refine SW.iload dX6_sum_39 rfl ?_
      refine SW.iload_n dX6_sum_41 rfl ?_
      refine SW.icmp_ge 48 dX6_sum_42 (by decide) (fun hbr => ?_) (fun hbr => ?_)
      · replace vc := vc.1 hbr
        refine SW.iinc (v := (x4 + (1 : Int32))) dX6_sum_48 rfl rfl (by decide) rfl rfl ?_
        refine SW.goto 5 dX6_sum_51 (by decide) ?_
        refine SW.msk [true, true, true, true, true, false] rfl ?_
        exact vc
      · replace vc := vc.2 hbr
        refine SW.iload dX6_sum_45 rfl ?_
        refine SW.istore_n dX6_sum_47 (by decide) rfl rfl ?_
        refine SW.iinc (v := (x4 + (1 : Int32))) dX6_sum_48 rfl rfl (by decide) rfl rfl ?_
        refine SW.goto 5 dX6_sum_51 (by decide) ?_
        refine SW.msk [true, true, true, true, true, false] rfl ?_
        exact vc
theorem ctX6_sum {G : GG} {q : Int32 → Nat → SG → TU → TH → Prop} {n : Nat} {σ : SG} {τ : TU} {θ : TH} (f : Nat) (t2 : Nat) (h : SW G 3 mX6_sum (aw_qi q) 0 0 0 [some (.ref 73), some (.ref f), some (.ref t2), none, none, none] [] (n, σ, τ, θ)) : SMi G 3 mX6_sum 0 0 [.ref 73, .ref f, .ref t2] n σ τ θ q := SM.of _ rfl rfl (Nat.le_of_ble_eq_true rfl) h
set_option maxHeartbeats 4000000 in
set_option maxRecDepth 20000 in
theorem sgX7_assign_0 {G : GG} {k : Nat} {q : Int32 → Nat → SG → TU → TH → Prop} {n : Nat} {σ : SG} {τ : TU} {θ : TH} (f : Nat) (t2 : Nat)  (hk : 6 ≤ k) (hf : isF f) (ht2 : isM t2) (hW : aw_WT n θ) (vc : SW G k mX7_assign (aw_qi q) 0 0 2 [some (.ref 69), some (.ref f), some (.ref t2), some (.int (0 : Int32)), none, none] [] (n, σ, τ, θ)) : SW G k mX7_assign (aw_qi q) 0 0 0 [some (.ref 69), some (.ref f), some (.ref t2), none, none, none] [] (n, σ, τ, θ) := by
  refine SW.iconst (v := (0 : Int32)) dX7_assign_0 (by decide) ?_
  refine SW.istore_n dX7_assign_1 (by decide) rfl rfl ?_
  exact vc
set_option maxHeartbeats 4000000 in
set_option maxRecDepth 20000 in
theorem sgX7_assign_2 {G : GG} {k : Nat} {q : Int32 → Nat → SG → TU → TH → Prop} {n : Nat} {σ : SG} {τ : TU} {θ : TH} (f : Nat) (t2 : Nat) (x3 : Int32) (hk : 6 ≤ k) (hf : isF f) (ht2 : isM t2) (hW : aw_WT n θ) (vc : (((σ f 14) ≤ x3) → (SW G k mX7_assign (aw_qi q) 0 0 30 [some (.ref 69), some (.ref f), none, some (.int (0 : Int32)), none, none] [] (n, σ, τ, θ))) ∧ ((¬ (σ f 14) ≤ x3) → (SMi G 5 mX1_passingBits 0 0 [.ref f, .ref t2, .int x3] n σ τ θ (fun a1 n1 σ1 τ1 θ1 => aw_WT n1 θ1 ∧ (vp_in x3 4 ∧ (SW G k mX7_assign (aw_qi q) 0 0 2 [some (.ref 69), some (.ref f), some (.ref t2), some (.int (x3 + (1 : Int32))), none, none] [] (n1, (aw_u σ1 71 x3.toNatClampNeg a1), τ1, θ1))))))) : SW G k mX7_assign (aw_qi q) 0 0 2 [some (.ref 69), some (.ref f), some (.ref t2), some (.int x3), none, none] [] (n, σ, τ, θ) := by
  refine SW.iload_n dX7_assign_2 rfl ?_
  refine SW.aload_n dX7_assign_3 rfl ?_
  refine SW.getI (f := 14) aw_cl1 (kpF_0 hf) (leF_0 hf).1 (hW.le (leF_0 hf).2) (by decide) ww_424 dX7_assign_4 rfl ?_
  refine SW.icmp_ge 28 dX7_assign_7 (by decide) (fun hbr => ?_) (fun hbr => ?_)
  · replace vc := vc.1 hbr
    refine SW.iconst (v := (0 : Int32)) dX7_assign_28 (by decide) ?_
    refine SW.istore_n dX7_assign_29 (by decide) rfl rfl ?_
    refine SW.msk [true, true, false, true, true, true] rfl ?_
    exact vc
  · replace vc := vc.2 hbr
    refine SW.aload_n dX7_assign_10 rfl ?_
    refine SW.getS (f := 1) (r := 71) aw_cl7 kp_69 (by decide) (hW.le (by decide)) (by decide) ww_249 dX7_assign_11 rfl hW.t69_1 ?_
    refine SW.iload_n dX7_assign_14 rfl ?_
    refine SW.aload_n dX7_assign_15 rfl ?_
    refine SW.aload_n dX7_assign_16 rfl ?_
    refine SW.iload_n dX7_assign_17 rfl ?_
    refine SW.cvi2 kV_X7_27 (by omega) aw_cl1 (kpF_0 hf) (leF_0 hf).1 (hW.le (leF_0 hf).2) rfl (Nat.le_of_ble_eq_true rfl) dX7_assign_18 (SMi.mono vc ?_)
    intro a1 n1 σ1 τ1 θ1 vc
    obtain ⟨hW, vc⟩ := vc
    refine SW.iast kp_71 (by decide) (hW.le (by decide)) vc.1 dX7_assign_21 ?_
    replace vc := vc.2
    refine SW.iinc (v := (x3 + (1 : Int32))) dX7_assign_22 rfl rfl (by decide) rfl rfl ?_
    refine SW.goto 2 dX7_assign_25 (by decide) ?_
    exact vc
set_option maxHeartbeats 4000000 in
set_option maxRecDepth 20000 in
theorem sgX7_assign_30 {G : GG} {k : Nat} {q : Int32 → Nat → SG → TU → TH → Prop} {n : Nat} {σ : SG} {τ : TU} {θ : TH} (f : Nat) (t2 : Nat) (x3 : Int32) (hk : 6 ≤ k) (hf : isF f) (ht2 : isM t2) (hW : aw_WT n θ) (vc : (((16 : Int32) ≤ x3) → (SW G k mX7_assign (aw_qi q) 0 0 64 [some (.ref 69), some (.ref f), none, some (.int ((σ f 13) - (1 : Int32))), none, none] [] (n, σ, τ, θ))) ∧ ((¬ (16 : Int32) ≤ x3) → (vp_in (((σ f 13) * (16 : Int32)) + x3) 96 ∧ (SW G k mX7_assign (aw_qi q) 0 0 30 [some (.ref 69), some (.ref f), none, some (.int (x3 + (1 : Int32))), none, none] [] (n, (aw_u σ 72 (((σ f 13) * (16 : Int32)) + x3).toNatClampNeg (0 : Int32)), τ, θ))))) : SW G k mX7_assign (aw_qi q) 0 0 30 [some (.ref 69), some (.ref f), none, some (.int x3), none, none] [] (n, σ, τ, θ) := by
  refine SW.iload_n dX7_assign_30 rfl ?_
  refine SW.bipush (v := (16 : Int32)) dX7_assign_31 (by decide) ?_
  refine SW.icmp_ge 57 dX7_assign_33 (by decide) (fun hbr => ?_) (fun hbr => ?_)
  · replace vc := vc.1 hbr
    refine SW.aload_n dX7_assign_57 rfl ?_
    refine SW.getI (f := 13) aw_cl1 (kpF_0 hf) (leF_0 hf).1 (hW.le (leF_0 hf).2) (by decide) ww_418 dX7_assign_58 rfl ?_
    refine SW.iconst (v := (1 : Int32)) dX7_assign_61 (by decide) ?_
    refine SW.isub dX7_assign_62 ?_
    refine SW.istore_n dX7_assign_63 (by decide) rfl rfl ?_
    exact vc
  · replace vc := vc.2 hbr
    refine SW.aload_n dX7_assign_36 rfl ?_
    refine SW.getS (f := 2) (r := 72) aw_cl7 kp_69 (by decide) (hW.le (by decide)) (by decide) ww_250 dX7_assign_37 rfl hW.t69_2 ?_
    refine SW.aload_n dX7_assign_40 rfl ?_
    refine SW.getI (f := 13) aw_cl1 (kpF_0 hf) (leF_0 hf).1 (hW.le (leF_0 hf).2) (by decide) ww_418 dX7_assign_41 rfl ?_
    refine SW.bipush (v := (16 : Int32)) dX7_assign_44 (by decide) ?_
    refine SW.imul dX7_assign_46 ?_
    refine SW.iload_n dX7_assign_47 rfl ?_
    refine SW.iadd dX7_assign_48 ?_
    refine SW.iconst (v := (0 : Int32)) dX7_assign_49 (by decide) ?_
    refine SW.iast kp_72 (by decide) (hW.le (by decide)) vc.1 dX7_assign_50 ?_
    replace vc := vc.2
    refine SW.iinc (v := (x3 + (1 : Int32))) dX7_assign_51 rfl rfl (by decide) rfl rfl ?_
    refine SW.goto 30 dX7_assign_54 (by decide) ?_
    exact vc
set_option maxHeartbeats 4000000 in
set_option maxRecDepth 20000 in
theorem sgX7_assign_64 {G : GG} {k : Nat} {q : Int32 → Nat → SG → TU → TH → Prop} {n : Nat} {σ : SG} {τ : TU} {θ : TH} (f : Nat) (t2 : Nat) (x3 : Int32) (hk : 6 ≤ k) (hf : isF f) (ht2 : isM t2) (hW : aw_WT n θ) (vc : ((x3 < 0) → (SW G k mX7_assign (aw_qi q) 0 0 115 [some (.ref 69), some (.ref f), none, some (.int (0 : Int32)), some (.int (0 : Int32)), none] [] (n, σ, τ, θ))) ∧ ((¬ x3 < 0) → (SW G k mX7_assign (aw_qi q) 0 0 71 [some (.ref 69), some (.ref f), none, some (.int x3), some (.int (0 : Int32)), none] [] (n, σ, τ, θ)))) : SW G k mX7_assign (aw_qi q) 0 0 64 [some (.ref 69), some (.ref f), none, some (.int x3), none, none] [] (n, σ, τ, θ) := by
  refine SW.iload_n dX7_assign_64 rfl ?_
  refine SW.if_lt 110 dX7_assign_65 (by decide) (fun hbr => ?_) (fun hbr => ?_)
  · replace vc := vc.1 hbr
    refine SW.iconst (v := (0 : Int32)) dX7_assign_110 (by decide) ?_
    refine SW.istore_n dX7_assign_111 (by decide) rfl rfl ?_
    refine SW.iconst (v := (0 : Int32)) dX7_assign_112 (by decide) ?_
    refine SW.istore dX7_assign_113 (by decide) rfl rfl ?_
    exact vc
  · replace vc := vc.2 hbr
    refine SW.iconst (v := (0 : Int32)) dX7_assign_68 (by decide) ?_
    refine SW.istore dX7_assign_69 (by decide) rfl rfl ?_
    exact vc
set_option maxHeartbeats 4000000 in
set_option maxRecDepth 20000 in
theorem sgX7_assign_71 {G : GG} {k : Nat} {q : Int32 → Nat → SG → TU → TH → Prop} {n : Nat} {σ : SG} {τ : TU} {θ : TH} (f : Nat) (t2 : Nat) (x3 : Int32) (x4 : Int32) (hk : 6 ≤ k) (hf : isF f) (ht2 : isM t2) (hW : aw_WT n θ) (vc : (((16 : Int32) ≤ x4) → (SW G k mX7_assign (aw_qi q) 0 0 64 [some (.ref 69), some (.ref f), none, some (.int (x3 + (-1 : Int32))), none, none] [] (n, σ, τ, θ))) ∧ ((¬ (16 : Int32) ≤ x4) → (SMi G 2 mX7_mostFrom 0 0 [.ref 69, .ref f, .int x3, .int x4] n σ τ θ (fun a1 n1 σ1 τ1 θ1 => aw_WT n1 θ1 ∧ (vp_in ((x3 * (16 : Int32)) + x4) 96 ∧ (SW G k mX7_assign (aw_qi q) 0 0 71 [some (.ref 69), some (.ref f), none, some (.int x3), some (.int (x4 + (1 : Int32))), none] [] (n1, (aw_u σ1 72 ((x3 * (16 : Int32)) + x4).toNatClampNeg a1), τ1, θ1))))))) : SW G k mX7_assign (aw_qi q) 0 0 71 [some (.ref 69), some (.ref f), none, some (.int x3), some (.int x4), none] [] (n, σ, τ, θ) := by
  refine SW.iload dX7_assign_71 rfl ?_
  refine SW.bipush (v := (16 : Int32)) dX7_assign_73 (by decide) ?_
  refine SW.icmp_ge 104 dX7_assign_75 (by decide) (fun hbr => ?_) (fun hbr => ?_)
  · replace vc := vc.1 hbr
    refine SW.iinc (v := (x3 + (-1 : Int32))) dX7_assign_104 rfl rfl (by decide) rfl rfl ?_
    refine SW.goto 64 dX7_assign_107 (by decide) ?_
    refine SW.msk [true, true, true, true, false, true] rfl ?_
    exact vc
  · replace vc := vc.2 hbr
    refine SW.aload_n dX7_assign_78 rfl ?_
    refine SW.getS (f := 2) (r := 72) aw_cl7 kp_69 (by decide) (hW.le (by decide)) (by decide) ww_250 dX7_assign_79 rfl hW.t69_2 ?_
    refine SW.iload_n dX7_assign_82 rfl ?_
    refine SW.bipush (v := (16 : Int32)) dX7_assign_83 (by decide) ?_
    refine SW.imul dX7_assign_85 ?_
    refine SW.iload dX7_assign_86 rfl ?_
    refine SW.iadd dX7_assign_88 ?_
    refine SW.aload_n dX7_assign_89 rfl ?_
    refine SW.aload_n dX7_assign_90 rfl ?_
    refine SW.iload_n dX7_assign_91 rfl ?_
    refine SW.iload dX7_assign_92 rfl ?_
    refine SW.cvi3 kV_X7_34 (by omega) aw_cl7 kp_69 (by decide) (hW.le (by decide)) rfl (Nat.le_of_ble_eq_true rfl) dX7_assign_94 (SMi.mono vc ?_)
    intro a1 n1 σ1 τ1 θ1 vc
    obtain ⟨hW, vc⟩ := vc
    refine SW.iast kp_72 (by decide) (hW.le (by decide)) vc.1 dX7_assign_97 ?_
    replace vc := vc.2
    refine SW.iinc (v := (x4 + (1 : Int32))) dX7_assign_98 rfl rfl (by decide) rfl rfl ?_
    refine SW.goto 71 dX7_assign_101 (by decide) ?_
    exact vc
set_option maxHeartbeats 4000000 in
set_option maxRecDepth 20000 in
theorem sgX7_assign_115 {G : GG} {k : Nat} {q : Int32 → Nat → SG → TU → TH → Prop} {n : Nat} {σ : SG} {τ : TU} {θ : TH} (f : Nat) (t2 : Nat) (x3 : Int32) (x4 : Int32) (hk : 6 ≤ k) (hf : isF f) (ht2 : isM t2) (hW : aw_WT n θ) (vc : (((σ f 13) ≤ x4) → (q (σ 72 0) n σ τ θ)) ∧ ((¬ (σ f 13) ≤ x4) → (SMi G 2 mX7_firstDoor 0 0 [.ref 69, .ref f, .int x4, .int x3] n σ τ θ (fun a1 n1 σ1 τ1 θ1 => aw_WT n1 θ1 ∧ (vp_in x4 5 ∧ (((¬ a1 = (-2 : Int32)) → (SW G k mX7_assign (aw_qi q) 0 0 115 [some (.ref 69), some (.ref f), none, some (.int (x3 ||| ((1 : Int32) <<< (a1 &&& 31)))), some (.int (x4 + (1 : Int32))), none] [] (n1, (aw_u σ1 70 x4.toNatClampNeg a1), τ1, θ1))) ∧ ((a1 = (-2 : Int32)) → (SW G k mX7_assign (aw_qi q) 0 0 115 [some (.ref 69), some (.ref f), none, some (.int (x3 ||| (0 : Int32))), some (.int (x4 + (1 : Int32))), none] [] (n1, (aw_u σ1 70 x4.toNatClampNeg a1), τ1, θ1))))))))) : SW G k mX7_assign (aw_qi q) 0 0 115 [some (.ref 69), some (.ref f), none, some (.int x3), some (.int x4), none] [] (n, σ, τ, θ) := by
  refine SW.iload dX7_assign_115 rfl ?_
  refine SW.aload_n dX7_assign_117 rfl ?_
  refine SW.getI (f := 13) aw_cl1 (kpF_0 hf) (leF_0 hf).1 (hW.le (leF_0 hf).2) (by decide) ww_418 dX7_assign_118 rfl ?_
  refine SW.icmp_ge 167 dX7_assign_121 (by decide) (fun hbr => ?_) (fun hbr => ?_)
  · replace vc := vc.1 hbr
    refine SW.aload_n dX7_assign_167 rfl ?_
    refine SW.getS (f := 2) (r := 72) aw_cl7 kp_69 (by decide) (hW.le (by decide)) (by decide) ww_250 dX7_assign_168 rfl hW.t69_2 ?_
    refine SW.iconst (v := (0 : Int32)) dX7_assign_171 (by decide) ?_
    refine SW.iald kp_72 (by decide) (hW.le (by decide)) (vp_in_nI (n := 0) (by decide) (by decide)) dX7_assign_172 ?_
    exact SW.iret dX7_assign_173 rfl rfl ⟨_, rfl, vc⟩
  · replace vc := vc.2 hbr
    refine SW.aload_n dX7_assign_124 rfl ?_
    refine SW.aload_n dX7_assign_125 rfl ?_
    refine SW.iload dX7_assign_126 rfl ?_
    refine SW.iload_n dX7_assign_128 rfl ?_
    refine SW.cvi3 kV_X7_38 (by omega) aw_cl7 kp_69 (by decide) (hW.le (by decide)) rfl (Nat.le_of_ble_eq_true rfl) dX7_assign_129 (SMi.mono vc ?_)
    intro a1 n1 σ1 τ1 θ1 vc
    obtain ⟨hW, vc⟩ := vc
    refine SW.istore dX7_assign_132 (by decide) rfl rfl ?_
    refine SW.aload_n dX7_assign_134 rfl ?_
    refine SW.getS (f := 0) (r := 70) aw_cl7 kp_69 (by decide) (hW.le (by decide)) (by decide) ww_247 dX7_assign_135 rfl hW.t69_0 ?_
    refine SW.iload dX7_assign_138 rfl ?_
    refine SW.iload dX7_assign_140 rfl ?_
    refine SW.iast kp_70 (by decide) (hW.le (by decide)) vc.1 dX7_assign_142 ?_
    replace vc := vc.2
    refine SW.iload_n dX7_assign_143 rfl ?_
    refine SW.iload dX7_assign_144 rfl ?_
    refine SW.bipush (v := (-2 : Int32)) dX7_assign_146 (by decide) ?_
    refine SW.icmp_ne 155 dX7_assign_148 (by decide) (fun hbr => ?_) (fun hbr => ?_)
    · replace vc := vc.1 hbr
      refine SW.iconst (v := (1 : Int32)) dX7_assign_155 (by decide) ?_
      refine SW.iload dX7_assign_156 rfl ?_
      refine SW.ishl dX7_assign_158 ?_
      refine SW.ior dX7_assign_159 ?_
      refine SW.istore_n dX7_assign_160 (by decide) rfl rfl ?_
      refine SW.iinc (v := (x4 + (1 : Int32))) dX7_assign_161 rfl rfl (by decide) rfl rfl ?_
      refine SW.goto 115 dX7_assign_164 (by decide) ?_
      refine SW.msk [true, true, true, true, true, false] rfl ?_
      exact vc
    · replace vc := vc.2 hbr
      refine SW.iconst (v := (0 : Int32)) dX7_assign_151 (by decide) ?_
      refine SW.goto 159 dX7_assign_152 (by decide) ?_
      refine SW.ior dX7_assign_159 ?_
      refine SW.istore_n dX7_assign_160 (by decide) rfl rfl ?_
      refine SW.iinc (v := (x4 + (1 : Int32))) dX7_assign_161 rfl rfl (by decide) rfl rfl ?_
      refine SW.goto 115 dX7_assign_164 (by decide) ?_
      refine SW.msk [true, true, true, true, true, false] rfl ?_
      exact vc
theorem ctX7_assign {G : GG} {q : Int32 → Nat → SG → TU → TH → Prop} {n : Nat} {σ : SG} {τ : TU} {θ : TH} (f : Nat) (t2 : Nat) (h : SW G 6 mX7_assign (aw_qi q) 0 0 0 [some (.ref 69), some (.ref f), some (.ref t2), none, none, none] [] (n, σ, τ, θ)) : SMi G 6 mX7_assign 0 0 [.ref 69, .ref f, .ref t2] n σ τ θ q := SM.of _ rfl rfl (Nat.le_of_ble_eq_true rfl) h
set_option maxHeartbeats 4000000 in
set_option maxRecDepth 20000 in
theorem sgX7_firstDoor_0 {G : GG} {k : Nat} {q : Int32 → Nat → SG → TU → TH → Prop} {n : Nat} {σ : SG} {τ : TU} {θ : TH} (f : Nat) (x2 : Int32) (x3 : Int32) (hk : 2 ≤ k) (hf : isF f) (hW : aw_WT n θ) (vc : SW G k mX7_firstDoor (aw_qi q) 0 0 3 [some (.ref 69), some (.ref f), some (.int x2), some (.int x3), some (.int (0 : Int32))] [] (n, σ, τ, θ)) : SW G k mX7_firstDoor (aw_qi q) 0 0 0 [some (.ref 69), some (.ref f), some (.int x2), some (.int x3), none] [] (n, σ, τ, θ) := by
  refine SW.iconst (v := (0 : Int32)) dX7_firstDoor_0 (by decide) ?_
  refine SW.istore dX7_firstDoor_1 (by decide) rfl rfl ?_
  exact vc
set_option maxHeartbeats 4000000 in
set_option maxRecDepth 20000 in
theorem sgX7_firstDoor_3 {G : GG} {k : Nat} {q : Int32 → Nat → SG → TU → TH → Prop} {n : Nat} {σ : SG} {τ : TU} {θ : TH} (f : Nat) (x2 : Int32) (x3 : Int32) (x4 : Int32) (hk : 2 ≤ k) (hf : isF f) (hW : aw_WT n θ) (vc : (((σ f 14) ≤ x4) → (q (-2 : Int32) n σ τ θ)) ∧ ((¬ (σ f 14) ≤ x4) → (SMi G 1 mX7_isOpen 0 0 [.ref 69, .int x2, .int x4, .int x3] n σ τ θ (fun a1 n1 σ1 τ1 θ1 => aw_WT n1 θ1 ∧ (((a1 = 0) → (SW G k mX7_firstDoor (aw_qi q) 0 0 3 [some (.ref 69), some (.ref f), some (.int x2), some (.int x3), some (.int (x4 + (1 : Int32)))] [] (n1, σ1, τ1, θ1))) ∧ ((¬ a1 = 0) → (vp_in (((x2 + (1 : Int32)) * (16 : Int32)) + (x3 ||| ((1 : Int32) <<< (x4 &&& 31)))) 96 ∧ (vp_in ((x2 * (16 : Int32)) + x3) 96 ∧ (((¬ ((1 : Int32) + (σ1 72 (((x2 + (1 : Int32)) * (16 : Int32)) + (x3 ||| ((1 : Int32) <<< (x4 &&& 31)))).toNatClampNeg)) = (σ1 72 ((x2 * (16 : Int32)) + x3).toNatClampNeg)) → (SW G k mX7_firstDoor (aw_qi q) 0 0 3 [some (.ref 69), some (.ref f), some (.int x2), some (.int x3), some (.int (x4 + (1 : Int32)))] [] (n1, σ1, τ1, θ1))) ∧ ((((1 : Int32) + (σ1 72 (((x2 + (1 : Int32)) * (16 : Int32)) + (x3 ||| ((1 : Int32) <<< (x4 &&& 31)))).toNatClampNeg)) = (σ1 72 ((x2 * (16 : Int32)) + x3).toNatClampNeg)) → (q x4 n1 σ1 τ1 θ1))))))))))) : SW G k mX7_firstDoor (aw_qi q) 0 0 3 [some (.ref 69), some (.ref f), some (.int x2), some (.int x3), some (.int x4)] [] (n, σ, τ, θ) := by
  refine SW.iload dX7_firstDoor_3 rfl ?_
  refine SW.aload_n dX7_firstDoor_5 rfl ?_
  refine SW.getI (f := 14) aw_cl1 (kpF_0 hf) (leF_0 hf).1 (hW.le (leF_0 hf).2) (by decide) ww_424 dX7_firstDoor_6 rfl ?_
  refine SW.icmp_ge 66 dX7_firstDoor_9 (by decide) (fun hbr => ?_) (fun hbr => ?_)
  · replace vc := vc.1 hbr
    refine SW.bipush (v := (-2 : Int32)) dX7_firstDoor_66 (by decide) ?_
    exact SW.iret dX7_firstDoor_68 rfl rfl ⟨_, rfl, vc⟩
  · replace vc := vc.2 hbr
    refine SW.aload_n dX7_firstDoor_12 rfl ?_
    refine SW.iload_n dX7_firstDoor_13 rfl ?_
    refine SW.iload dX7_firstDoor_14 rfl ?_
    refine SW.iload_n dX7_firstDoor_16 rfl ?_
    refine SW.cvi3 kV_X7_41 (by omega) aw_cl7 kp_69 (by decide) (hW.le (by decide)) rfl (Nat.le_of_ble_eq_true rfl) dX7_firstDoor_17 (SMi.mono vc ?_)
    intro a1 n1 σ1 τ1 θ1 vc
    obtain ⟨hW, vc⟩ := vc
    refine SW.if_eq 60 dX7_firstDoor_20 (by decide) (fun hbr => ?_) (fun hbr => ?_)
    · replace vc := vc.1 hbr
      refine SW.iinc (v := (x4 + (1 : Int32))) dX7_firstDoor_60 rfl rfl (by decide) rfl rfl ?_
      refine SW.goto 3 dX7_firstDoor_63 (by decide) ?_
      exact vc
    · replace vc := vc.2 hbr
      refine SW.iconst (v := (1 : Int32)) dX7_firstDoor_23 (by decide) ?_
      refine SW.aload_n dX7_firstDoor_24 rfl ?_
      refine SW.getS (f := 2) (r := 72) aw_cl7 kp_69 (by decide) (hW.le (by decide)) (by decide) ww_250 dX7_firstDoor_25 rfl hW.t69_2 ?_
      refine SW.iload_n dX7_firstDoor_28 rfl ?_
      refine SW.iconst (v := (1 : Int32)) dX7_firstDoor_29 (by decide) ?_
      refine SW.iadd dX7_firstDoor_30 ?_
      refine SW.bipush (v := (16 : Int32)) dX7_firstDoor_31 (by decide) ?_
      refine SW.imul dX7_firstDoor_33 ?_
      refine SW.iload_n dX7_firstDoor_34 rfl ?_
      refine SW.iconst (v := (1 : Int32)) dX7_firstDoor_35 (by decide) ?_
      refine SW.iload dX7_firstDoor_36 rfl ?_
      refine SW.ishl dX7_firstDoor_38 ?_
      refine SW.ior dX7_firstDoor_39 ?_
      refine SW.iadd dX7_firstDoor_40 ?_
      refine SW.iald kp_72 (by decide) (hW.le (by decide)) vc.1 dX7_firstDoor_41 ?_
      replace vc := vc.2
      refine SW.iadd dX7_firstDoor_42 ?_
      refine SW.aload_n dX7_firstDoor_43 rfl ?_
      refine SW.getS (f := 2) (r := 72) aw_cl7 kp_69 (by decide) (hW.le (by decide)) (by decide) ww_250 dX7_firstDoor_44 rfl hW.t69_2 ?_
      refine SW.iload_n dX7_firstDoor_47 rfl ?_
      refine SW.bipush (v := (16 : Int32)) dX7_firstDoor_48 (by decide) ?_
      refine SW.imul dX7_firstDoor_50 ?_
      refine SW.iload_n dX7_firstDoor_51 rfl ?_
      refine SW.iadd dX7_firstDoor_52 ?_
      refine SW.iald kp_72 (by decide) (hW.le (by decide)) vc.1 dX7_firstDoor_53 ?_
      replace vc := vc.2
      refine SW.icmp_ne 60 dX7_firstDoor_54 (by decide) (fun hbr => ?_) (fun hbr => ?_)
      · replace vc := vc.1 hbr
        refine SW.iinc (v := (x4 + (1 : Int32))) dX7_firstDoor_60 rfl rfl (by decide) rfl rfl ?_
        refine SW.goto 3 dX7_firstDoor_63 (by decide) ?_
        exact vc
      · replace vc := vc.2 hbr
        refine SW.iload dX7_firstDoor_57 rfl ?_
        exact SW.iret dX7_firstDoor_59 rfl rfl ⟨_, rfl, vc⟩
theorem ctX7_firstDoor {G : GG} {q : Int32 → Nat → SG → TU → TH → Prop} {n : Nat} {σ : SG} {τ : TU} {θ : TH} (f : Nat) (x2 : Int32) (x3 : Int32) (h : SW G 2 mX7_firstDoor (aw_qi q) 0 0 0 [some (.ref 69), some (.ref f), some (.int x2), some (.int x3), none] [] (n, σ, τ, θ)) : SMi G 2 mX7_firstDoor 0 0 [.ref 69, .ref f, .int x2, .int x3] n σ τ θ q := SM.of _ rfl rfl (Nat.le_of_ble_eq_true rfl) h
set_option maxHeartbeats 4000000 in
set_option maxRecDepth 20000 in
theorem sgX7_isOpen_0 {G : GG} {k : Nat} {q : Int32 → Nat → SG → TU → TH → Prop} {n : Nat} {σ : SG} {τ : TU} {θ : TH}  (x1 : Int32) (x2 : Int32) (x3 : Int32) (hk : 1 ≤ k)  (hW : aw_WT n θ) (vc : ((¬ ((x3 >>> (x2 &&& 31)) &&& (1 : Int32)) = 0) → (q (0 : Int32) n σ τ θ)) ∧ ((((x3 >>> (x2 &&& 31)) &&& (1 : Int32)) = 0) → (vp_in x2 4 ∧ ((((((σ 71 x2.toNatClampNeg) >>> (x1 &&& 31)) &&& (1 : Int32)) = 0) → (q (0 : Int32) n σ τ θ)) ∧ ((¬ (((σ 71 x2.toNatClampNeg) >>> (x1 &&& 31)) &&& (1 : Int32)) = 0) → (q (1 : Int32) n σ τ θ)))))) : SW G k mX7_isOpen (aw_qi q) 0 0 0 [some (.ref 69), some (.int x1), some (.int x2), some (.int x3)] [] (n, σ, τ, θ) := by
  refine SW.iload_n dX7_isOpen_0 rfl ?_
  refine SW.iload_n dX7_isOpen_1 rfl ?_
  refine SW.ishr dX7_isOpen_2 ?_
  refine SW.iconst (v := (1 : Int32)) dX7_isOpen_3 (by decide) ?_
  refine SW.iand dX7_isOpen_4 ?_
  refine SW.if_ne 25 dX7_isOpen_5 (by decide) (fun hbr => ?_) (fun hbr => ?_)
  · replace vc := vc.1 hbr
    refine SW.iconst (v := (0 : Int32)) dX7_isOpen_25 (by decide) ?_
    exact SW.iret dX7_isOpen_26 rfl rfl ⟨_, rfl, vc⟩
  · replace vc := vc.2 hbr
    refine SW.aload_n dX7_isOpen_8 rfl ?_
    refine SW.getS (f := 1) (r := 71) aw_cl7 kp_69 (by decide) (hW.le (by decide)) (by decide) ww_249 dX7_isOpen_9 rfl hW.t69_1 ?_
    refine SW.iload_n dX7_isOpen_12 rfl ?_
    refine SW.iald kp_71 (by decide) (hW.le (by decide)) vc.1 dX7_isOpen_13 ?_
    replace vc := vc.2
    refine SW.iload_n dX7_isOpen_14 rfl ?_
    refine SW.ishr dX7_isOpen_15 ?_
    refine SW.iconst (v := (1 : Int32)) dX7_isOpen_16 (by decide) ?_
    refine SW.iand dX7_isOpen_17 ?_
    refine SW.if_eq 25 dX7_isOpen_18 (by decide) (fun hbr => ?_) (fun hbr => ?_)
    · replace vc := vc.1 hbr
      refine SW.iconst (v := (0 : Int32)) dX7_isOpen_25 (by decide) ?_
      exact SW.iret dX7_isOpen_26 rfl rfl ⟨_, rfl, vc⟩
    · replace vc := vc.2 hbr
      refine SW.iconst (v := (1 : Int32)) dX7_isOpen_21 (by decide) ?_
      refine SW.goto 26 dX7_isOpen_22 (by decide) ?_
      exact SW.iret dX7_isOpen_26 rfl rfl ⟨_, rfl, vc⟩
theorem ctX7_isOpen {G : GG} {q : Int32 → Nat → SG → TU → TH → Prop} {n : Nat} {σ : SG} {τ : TU} {θ : TH} (x1 : Int32) (x2 : Int32) (x3 : Int32) (h : SW G 1 mX7_isOpen (aw_qi q) 0 0 0 [some (.ref 69), some (.int x1), some (.int x2), some (.int x3)] [] (n, σ, τ, θ)) : SMi G 1 mX7_isOpen 0 0 [.ref 69, .int x1, .int x2, .int x3] n σ τ θ q := SM.of _ rfl rfl (Nat.le_of_ble_eq_true rfl) h
set_option maxHeartbeats 4000000 in
set_option maxRecDepth 20000 in
theorem sgX7_mostFrom_0 {G : GG} {k : Nat} {q : Int32 → Nat → SG → TU → TH → Prop} {n : Nat} {σ : SG} {τ : TU} {θ : TH} (f : Nat) (x2 : Int32) (x3 : Int32) (hk : 2 ≤ k) (hf : isF f) (hW : aw_WT n θ) (vc : vp_in (((x2 + (1 : Int32)) * (16 : Int32)) + x3) 96 ∧ (SW G k mX7_mostFrom (aw_qi q) 0 0 18 [some (.ref 69), some (.ref f), some (.int x2), some (.int x3), some (.int (σ 72 (((x2 + (1 : Int32)) * (16 : Int32)) + x3).toNatClampNeg)), some (.int (0 : Int32))] [] (n, σ, τ, θ))) : SW G k mX7_mostFrom (aw_qi q) 0 0 0 [some (.ref 69), some (.ref f), some (.int x2), some (.int x3), none, none] [] (n, σ, τ, θ) := by
  refine SW.aload_n dX7_mostFrom_0 rfl ?_
  refine SW.getS (f := 2) (r := 72) aw_cl7 kp_69 (by decide) (hW.le (by decide)) (by decide) ww_250 dX7_mostFrom_1 rfl hW.t69_2 ?_
  refine SW.iload_n dX7_mostFrom_4 rfl ?_
  refine SW.iconst (v := (1 : Int32)) dX7_mostFrom_5 (by decide) ?_
  refine SW.iadd dX7_mostFrom_6 ?_
  refine SW.bipush (v := (16 : Int32)) dX7_mostFrom_7 (by decide) ?_
  refine SW.imul dX7_mostFrom_9 ?_
  refine SW.iload_n dX7_mostFrom_10 rfl ?_
  refine SW.iadd dX7_mostFrom_11 ?_
  refine SW.iald kp_72 (by decide) (hW.le (by decide)) vc.1 dX7_mostFrom_12 ?_
  replace vc := vc.2
  refine SW.istore dX7_mostFrom_13 (by decide) rfl rfl ?_
  refine SW.iconst (v := (0 : Int32)) dX7_mostFrom_15 (by decide) ?_
  refine SW.istore dX7_mostFrom_16 (by decide) rfl rfl ?_
  exact vc
set_option maxHeartbeats 4000000 in
set_option maxRecDepth 20000 in
theorem sgX7_mostFrom_18 {G : GG} {k : Nat} {q : Int32 → Nat → SG → TU → TH → Prop} {n : Nat} {σ : SG} {τ : TU} {θ : TH} (f : Nat) (x2 : Int32) (x3 : Int32) (x4 : Int32) (x5 : Int32) (hk : 2 ≤ k) (hf : isF f) (hW : aw_WT n θ) (vc : (((σ f 14) ≤ x5) → (q x4 n σ τ θ)) ∧ ((¬ (σ f 14) ≤ x5) → (SMi G 1 mX7_isOpen 0 0 [.ref 69, .int x2, .int x5, .int x3] n σ τ θ (fun a1 n1 σ1 τ1 θ1 => aw_WT n1 θ1 ∧ (((a1 = 0) → (SW G k mX7_mostFrom (aw_qi q) 0 0 18 [some (.ref 69), some (.ref f), some (.int x2), some (.int x3), some (.int x4), some (.int (x5 + (1 : Int32)))] [] (n1, σ1, τ1, θ1))) ∧ ((¬ a1 = 0) → (vp_in (((x2 + (1 : Int32)) * (16 : Int32)) + (x3 ||| ((1 : Int32) <<< (x5 &&& 31)))) 96 ∧ (SW G k mX7_mostFrom (aw_qi q) 0 0 18 [some (.ref 69), some (.ref f), some (.int x2), some (.int x3), some (.int (if x4 < ((1 : Int32) + (σ1 72 (((x2 + (1 : Int32)) * (16 : Int32)) + (x3 ||| ((1 : Int32) <<< (x5 &&& 31)))).toNatClampNeg)) then ((1 : Int32) + (σ1 72 (((x2 + (1 : Int32)) * (16 : Int32)) + (x3 ||| ((1 : Int32) <<< (x5 &&& 31)))).toNatClampNeg)) else x4)), some (.int (x5 + (1 : Int32)))] [] (n1, σ1, τ1, θ1))))))))) : SW G k mX7_mostFrom (aw_qi q) 0 0 18 [some (.ref 69), some (.ref f), some (.int x2), some (.int x3), some (.int x4), some (.int x5)] [] (n, σ, τ, θ) := by
  refine SW.iload dX7_mostFrom_18 rfl ?_
  refine SW.aload_n dX7_mostFrom_20 rfl ?_
  refine SW.getI (f := 14) aw_cl1 (kpF_0 hf) (leF_0 hf).1 (hW.le (leF_0 hf).2) (by decide) ww_424 dX7_mostFrom_21 rfl ?_
  refine SW.icmp_ge 71 dX7_mostFrom_24 (by decide) (fun hbr => ?_) (fun hbr => ?_)
  · replace vc := vc.1 hbr
    refine SW.iload dX7_mostFrom_71 rfl ?_
    exact SW.iret dX7_mostFrom_73 rfl rfl ⟨_, rfl, vc⟩
  · replace vc := vc.2 hbr
    refine SW.aload_n dX7_mostFrom_27 rfl ?_
    refine SW.iload_n dX7_mostFrom_28 rfl ?_
    refine SW.iload dX7_mostFrom_29 rfl ?_
    refine SW.iload_n dX7_mostFrom_31 rfl ?_
    refine SW.cvi3 kV_X7_41 (by omega) aw_cl7 kp_69 (by decide) (hW.le (by decide)) rfl (Nat.le_of_ble_eq_true rfl) dX7_mostFrom_32 (SMi.mono vc ?_)
    intro a1 n1 σ1 τ1 θ1 vc
    obtain ⟨hW, vc⟩ := vc
    refine SW.if_eq 65 dX7_mostFrom_35 (by decide) (fun hbr => ?_) (fun hbr => ?_)
    · replace vc := vc.1 hbr
      refine SW.iinc (v := (x5 + (1 : Int32))) dX7_mostFrom_65 rfl rfl (by decide) rfl rfl ?_
      refine SW.goto 18 dX7_mostFrom_68 (by decide) ?_
      exact vc
    · replace vc := vc.2 hbr
      refine SW.iload dX7_mostFrom_38 rfl ?_
      refine SW.iconst (v := (1 : Int32)) dX7_mostFrom_40 (by decide) ?_
      refine SW.aload_n dX7_mostFrom_41 rfl ?_
      refine SW.getS (f := 2) (r := 72) aw_cl7 kp_69 (by decide) (hW.le (by decide)) (by decide) ww_250 dX7_mostFrom_42 rfl hW.t69_2 ?_
      refine SW.iload_n dX7_mostFrom_45 rfl ?_
      refine SW.iconst (v := (1 : Int32)) dX7_mostFrom_46 (by decide) ?_
      refine SW.iadd dX7_mostFrom_47 ?_
      refine SW.bipush (v := (16 : Int32)) dX7_mostFrom_48 (by decide) ?_
      refine SW.imul dX7_mostFrom_50 ?_
      refine SW.iload_n dX7_mostFrom_51 rfl ?_
      refine SW.iconst (v := (1 : Int32)) dX7_mostFrom_52 (by decide) ?_
      refine SW.iload dX7_mostFrom_53 rfl ?_
      refine SW.ishl dX7_mostFrom_55 ?_
      refine SW.ior dX7_mostFrom_56 ?_
      refine SW.iadd dX7_mostFrom_57 ?_
      refine SW.iald kp_72 (by decide) (hW.le (by decide)) vc.1 dX7_mostFrom_58 ?_
      replace vc := vc.2
      refine SW.iadd dX7_mostFrom_59 ?_
      refine SW.mmax ww_899 ww_527 ww_123 ww_528 (by omega) (Nat.le_of_ble_eq_true rfl) dX7_mostFrom_60 ?_
      refine SW.istore dX7_mostFrom_63 (by decide) rfl rfl ?_
      refine SW.iinc (v := (x5 + (1 : Int32))) dX7_mostFrom_65 rfl rfl (by decide) rfl rfl ?_
      refine SW.goto 18 dX7_mostFrom_68 (by decide) ?_
      exact vc
theorem ctX7_mostFrom {G : GG} {q : Int32 → Nat → SG → TU → TH → Prop} {n : Nat} {σ : SG} {τ : TU} {θ : TH} (f : Nat) (x2 : Int32) (x3 : Int32) (h : SW G 2 mX7_mostFrom (aw_qi q) 0 0 0 [some (.ref 69), some (.ref f), some (.int x2), some (.int x3), none, none] [] (n, σ, τ, θ)) : SMi G 2 mX7_mostFrom 0 0 [.ref 69, .ref f, .int x2, .int x3] n σ τ θ q := SM.of _ rfl rfl (Nat.le_of_ble_eq_true rfl) h
