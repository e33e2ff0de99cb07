set_option maxHeartbeats 4000000 in
set_option maxRecDepth 20000 in
theorem sgX0_isFull_0 {G : GG} {k : Nat} {q : Int32 → Nat → SG → TU → TH → Prop} {n : Nat} {σ : SG} {τ : TU} {θ : TH} (c cn : Nat)  (hk : 1 ≤ k) (hc : isC c cn) (hW : aw_WT n θ) (vc : (((σ c 4) < (Int32.ofNat cn)) → (q (0 : Int32) n σ τ θ)) ∧ ((¬ (σ c 4) < (Int32.ofNat cn)) → (q (1 : Int32) n σ τ θ))) : SW G k mX0_isFull (aw_qi q) 0 0 0 [some (.ref c)] [] (n, σ, τ, θ) := by
  refine SW.aload_n dX0_isFull_0 rfl ?_
  refine SW.getI (f := 4) aw_cl0 (kpC_0 hc) (leC_0 hc).1 (hW.le (leC_0 hc).2) (by decide) ww_353 dX0_isFull_1 rfl ?_
  refine SW.aload_n dX0_isFull_4 rfl ?_
  refine SW.getS (f := 0) (r := c + 1) aw_cl0 (kpC_0 hc) (leC_0 hc).1 (hW.le (leC_0 hc).2) (by decide) ww_332 dX0_isFull_5 rfl (hW.c0 hc) ?_
  refine SW.alen (kpC_1 hc) (by decide) (leC_1 hc).1 (hW.le (leC_1 hc).2) dX0_isFull_8 ?_
  refine SW.icmp_lt 16 dX0_isFull_9 (by decide) (fun hbr => ?_) (fun hbr => ?_)
  · replace vc := vc.1 hbr
    refine SW.iconst (v := (0 : Int32)) dX0_isFull_16 (by decide) ?_
    exact SW.iret dX0_isFull_17 rfl rfl ⟨_, rfl, vc⟩
  · replace vc := vc.2 hbr
    refine SW.iconst (v := (1 : Int32)) dX0_isFull_12 (by decide) ?_
    refine SW.goto 17 dX0_isFull_13 (by decide) ?_
    exact SW.iret dX0_isFull_17 rfl rfl ⟨_, rfl, vc⟩
theorem ctX0_isFull {G : GG} {q : Int32 → Nat → SG → TU → TH → Prop} {n : Nat} {σ : SG} {τ : TU} {θ : TH} (c cn : Nat) (h : SW G 1 mX0_isFull (aw_qi q) 0 0 0 [some (.ref c)] [] (n, σ, τ, θ)) : SMi G 1 mX0_isFull 0 0 [.ref c] n σ τ θ q := SM.of _ rfl rfl (Nat.le_of_ble_eq_true rfl) h
set_option maxHeartbeats 4000000 in
set_option maxRecDepth 20000 in
theorem sgX1_allHeads_0 {G : GG} {k : Nat} {q : Int32 → Nat → SG → TU → TH → Prop} {n : Nat} {σ : SG} {τ : TU} {θ : TH} (f : Nat) (t1 : Nat) (x2 : Int32) (hk : 4 ≤ k) (hf : isF f) (ht1 : isM t1) (hW : aw_WT n θ) (vc : SW G k mX1_allHeads (aw_qi q) 0 0 5 [some (.ref f), some (.ref t1), some (.int x2), some (.int (0 : Int32)), some (.int (0 : Int32))] [] (n, σ, τ, θ)) : SW G k mX1_allHeads (aw_qi q) 0 0 0 [some (.ref f), some (.ref t1), some (.int x2), none, none] [] (n, σ, τ, θ) := by
  refine SW.iconst (v := (0 : Int32)) dX1_allHeads_0 (by decide) ?_
  refine SW.istore_n dX1_allHeads_1 (by decide) rfl rfl ?_
  refine SW.iconst (v := (0 : Int32)) dX1_allHeads_2 (by decide) ?_
  refine SW.istore dX1_allHeads_3 (by decide) rfl rfl ?_
  exact vc
set_option maxHeartbeats 4000000 in
set_option maxRecDepth 20000 in
theorem sgX1_allHeads_5 {G : GG} {k : Nat} {q : Int32 → Nat → SG → TU → TH → Prop} {n : Nat} {σ : SG} {τ : TU} {θ : TH} (f : Nat) (t1 : Nat) (x2 : Int32) (x3 : Int32) (x4 : Int32) (hk : 4 ≤ k) (hf : isF f) (ht1 : isM t1) (hW : aw_WT n θ) (vc : (((σ f 13) ≤ x4) → (q x3 n σ τ θ)) ∧ ((¬ (σ f 13) ≤ x4) → (SMi G 3 mX1_headOf 0 0 [.ref f, .ref t1, .int x4, .int x2] n σ τ θ (fun a1 n1 σ1 τ1 θ1 => aw_WT n1 θ1 ∧ (SW G k mX1_allHeads (aw_qi q) 0 0 5 [some (.ref f), some (.ref t1), some (.int x2), some (.int (x3 + a1)), some (.int (x4 + (1 : Int32)))] [] (n1, σ1, τ1, θ1)))))) : SW G k mX1_allHeads (aw_qi q) 0 0 5 [some (.ref f), some (.ref t1), some (.int x2), some (.int x3), some (.int x4)] [] (n, σ, τ, θ) := by
  refine SW.iload dX1_allHeads_5 rfl ?_
  refine SW.aload_n dX1_allHeads_7 rfl ?_
  refine SW.getI (f := 13) aw_cl1 (kpF_0 hf) (leF_0 hf).1 (hW.le (leF_0 hf).2) (by decide) ww_417 dX1_allHeads_8 rfl ?_
  refine SW.icmp_ge 31 dX1_allHeads_11 (by decide) (fun hbr => ?_) (fun hbr => ?_)
  · replace vc := vc.1 hbr
    refine SW.iload_n dX1_allHeads_31 rfl ?_
    exact SW.iret dX1_allHeads_32 rfl rfl ⟨_, rfl, vc⟩
  · replace vc := vc.2 hbr
    refine SW.iload_n dX1_allHeads_14 rfl ?_
    refine SW.aload_n dX1_allHeads_15 rfl ?_
    refine SW.aload_n dX1_allHeads_16 rfl ?_
    refine SW.iload dX1_allHeads_17 rfl ?_
    refine SW.iload_n dX1_allHeads_19 rfl ?_
    refine SW.cvi3 kV_X1_97 (by omega) aw_cl1 (kpF_0 hf) (leF_0 hf).1 (hW.le (leF_0 hf).2) rfl (Nat.le_of_ble_eq_true rfl) dX1_allHeads_20 (SMi.mono vc ?_)
    intro a1 n1 σ1 τ1 θ1 vc
    obtain ⟨hW, vc⟩ := vc
    refine SW.iadd dX1_allHeads_23 ?_
    refine SW.istore_n dX1_allHeads_24 (by decide) rfl rfl ?_
    refine SW.iinc (v := (x4 + (1 : Int32))) dX1_allHeads_25 rfl rfl (by decide) rfl rfl ?_
    refine SW.goto 5 dX1_allHeads_28 (by decide) ?_
    exact vc
theorem ctX1_allHeads {G : GG} {q : Int32 → Nat → SG → TU → TH → Prop} {n : Nat} {σ : SG} {τ : TU} {θ : TH} (f : Nat) (t1 : Nat) (x2 : Int32) (h : SW G 4 mX1_allHeads (aw_qi q) 0 0 0 [some (.ref f), some (.ref t1), some (.int x2), none, none] [] (n, σ, τ, θ)) : SMi G 4 mX1_allHeads 0 0 [.ref f, .ref t1, .int x2] n σ τ θ q := SM.of _ rfl rfl (Nat.le_of_ble_eq_true rfl) h
set_option maxHeartbeats 4000000 in
set_option maxRecDepth 20000 in
theorem sgX1_burdenOf_0 {G : GG} {k : Nat} {q : Int32 → Nat → SG → TU → TH → Prop} {n : Nat} {σ : SG} {τ : TU} {θ : TH} (f : Nat) (t1 : Nat) (x2 : Int32) (x3 : Int32) (hk : 2 ≤ k) (hf : isF f) (ht1 : isM t1) (hW : aw_WT n θ) (vc : SW G k mX1_burdenOf (aw_qi q) 0 0 6 [some (.ref f), some (.ref t1), some (.int x2), some (.int x3), some (.int (0 : Int32)), some (.int (0 : Int32))] [] (n, σ, τ, θ)) : SW G k mX1_burdenOf (aw_qi q) 0 0 0 [some (.ref f), some (.ref t1), some (.int x2), some (.int x3), none, none] [] (n, σ, τ, θ) := by
  refine SW.iconst (v := (0 : Int32)) dX1_burdenOf_0 (by decide) ?_
  refine SW.istore dX1_burdenOf_1 (by decide) rfl rfl ?_
  refine SW.iconst (v := (0 : Int32)) dX1_burdenOf_3 (by decide) ?_
  refine SW.istore dX1_burdenOf_4 (by decide) rfl rfl ?_
  exact vc
set_option maxHeartbeats 4000000 in
set_option maxRecDepth 20000 in
theorem sgX1_burdenOf_6 {G : GG} {k : Nat} {q : Int32 → Nat → SG → TU → TH → Prop} {n : Nat} {σ : SG} {τ : TU} {θ : TH} (f : Nat) (t1 : Nat) (x2 : Int32) (x3 : Int32) (x4 : Int32) (x5 : Int32) (hk : 2 ≤ k) (hf : isF f) (ht1 : isM t1) (hW : aw_WT n θ) (vc : (((σ (f + 8) 4) ≤ x5) → (q x4 n σ τ θ)) ∧ ((¬ (σ (f + 8) 4) ≤ x5) → (vp_in x5 7 ∧ (((¬ (σ (f + 9) x5.toNatClampNeg) = x2) → (SW G k mX1_burdenOf (aw_qi q) 0 0 6 [some (.ref f), some (.ref t1), some (.int x2), some (.int x3), some (.int x4), some (.int (x5 + (1 : Int32)))] [] (n, σ, τ, θ))) ∧ (((σ (f + 9) x5.toNatClampNeg) = x2) → (SMi G 1 mX1_isDue 0 0 [.ref f, .ref t1, .int x5, .int x3] n σ τ θ (fun a1 n1 σ1 τ1 θ1 => aw_WT n1 θ1 ∧ (((a1 = 0) → (SW G k mX1_burdenOf (aw_qi q) 0 0 6 [some (.ref f), some (.ref t1), some (.int x2), some (.int x3), some (.int x4), some (.int (x5 + (1 : Int32)))] [] (n1, σ1, τ1, θ1))) ∧ ((¬ a1 = 0) → (vp_in x5 7 ∧ (SMi G 1 mX1_tinesFor 0 0 [.ref f, .int (σ1 (t1 + 2) x5.toNatClampNeg)] n1 σ1 τ1 θ1 (fun a2 n2 σ2 τ2 θ2 => aw_WT n2 θ2 ∧ (SW G k mX1_burdenOf (aw_qi q) 0 0 6 [some (.ref f), some (.ref t1), some (.int x2), some (.int x3), some (.int (x4 + a2)), some (.int (x5 + (1 : Int32)))] [] (n2, σ2, τ2, θ2)))))))))))))) : SW G k mX1_burdenOf (aw_qi q) 0 0 6 [some (.ref f), some (.ref t1), some (.int x2), some (.int x3), some (.int x4), some (.int x5)] [] (n, σ, τ, θ) := by
  refine SW.iload dX1_burdenOf_6 rfl ?_
  refine SW.aload_n dX1_burdenOf_8 rfl ?_
  refine SW.getS (f := 7) (r := f + 8) aw_cl1 (kpF_0 hf) (leF_0 hf).1 (hW.le (leF_0 hf).2) (by decide) ww_393 dX1_burdenOf_9 rfl (hW.f7 hf) ?_
  refine SW.getI (f := 4) aw_cl0 (kpF_8 hf) (leF_8 hf).1 (hW.le (leF_8 hf).2) (by decide) ww_354 dX1_burdenOf_12 rfl ?_
  refine SW.icmp_ge 65 dX1_burdenOf_15 (by decide) (fun hbr => ?_) (fun hbr => ?_)
  · replace vc := vc.1 hbr
    refine SW.iload dX1_burdenOf_65 rfl ?_
    exact SW.iret dX1_burdenOf_67 rfl rfl ⟨_, rfl, vc⟩
  · replace vc := vc.2 hbr
    refine SW.aload_n dX1_burdenOf_18 rfl ?_
    refine SW.getS (f := 7) (r := f + 8) aw_cl1 (kpF_0 hf) (leF_0 hf).1 (hW.le (leF_0 hf).2) (by decide) ww_393 dX1_burdenOf_19 rfl (hW.f7 hf) ?_
    refine SW.getS (f := 0) (r := f + 9) aw_cl0 (kpF_8 hf) (leF_8 hf).1 (hW.le (leF_8 hf).2) (by decide) ww_335 dX1_burdenOf_22 rfl (hW.f8_0 hf) ?_
    refine SW.iload dX1_burdenOf_25 rfl ?_
    refine SW.iald (kpF_9 hf) (leF_9 hf).1 (hW.le (leF_9 hf).2) vc.1 dX1_burdenOf_27 ?_
    replace vc := vc.2
    refine SW.iload_n dX1_burdenOf_28 rfl ?_
    refine SW.icmp_ne 59 dX1_burdenOf_29 (by decide) (fun hbr => ?_) (fun hbr => ?_)
    · replace vc := vc.1 hbr
      refine SW.iinc (v := (x5 + (1 : Int32))) dX1_burdenOf_59 rfl rfl (by decide) rfl rfl ?_
      refine SW.goto 6 dX1_burdenOf_62 (by decide) ?_
      exact vc
    · replace vc := vc.2 hbr
      refine SW.aload_n dX1_burdenOf_32 rfl ?_
      refine SW.aload_n dX1_burdenOf_33 rfl ?_
      refine SW.iload dX1_burdenOf_34 rfl ?_
      refine SW.iload_n dX1_burdenOf_36 rfl ?_
      refine SW.cvi3 kV_X1_78 (by omega) aw_cl1 (kpF_0 hf) (leF_0 hf).1 (hW.le (leF_0 hf).2) rfl (Nat.le_of_ble_eq_true rfl) dX1_burdenOf_37 (SMi.mono vc ?_)
      intro a1 n1 σ1 τ1 θ1 vc
      obtain ⟨hW, vc⟩ := vc
      refine SW.if_eq 59 dX1_burdenOf_40 (by decide) (fun hbr => ?_) (fun hbr => ?_)
      · replace vc := vc.1 hbr
        refine SW.iinc (v := (x5 + (1 : Int32))) dX1_burdenOf_59 rfl rfl (by decide) rfl rfl ?_
        refine SW.goto 6 dX1_burdenOf_62 (by decide) ?_
        exact vc
      · replace vc := vc.2 hbr
        refine SW.iload dX1_burdenOf_43 rfl ?_
        refine SW.aload_n dX1_burdenOf_45 rfl ?_
        refine SW.aload_n dX1_burdenOf_46 rfl ?_
        refine SW.getS (f := 1) (r := t1 + 2) aw_cl2 (kpM_0 ht1) (leM_0 ht1).1 (hW.le (leM_0 ht1).2) (by decide) ww_196 dX1_burdenOf_47 rfl (hW.m1 ht1) ?_
        refine SW.iload dX1_burdenOf_50 rfl ?_
        refine SW.iald (kpM_2 ht1) (leM_2 ht1).1 (hW.le (leM_2 ht1).2) vc.1 dX1_burdenOf_52 ?_
        replace vc := vc.2
        refine SW.cvi1 kV_X1_82 (by omega) aw_cl1 (kpF_0 hf) (leF_0 hf).1 (hW.le (leF_0 hf).2) rfl (Nat.le_of_ble_eq_true rfl) dX1_burdenOf_53 (SMi.mono vc ?_)
        intro a2 n2 σ2 τ2 θ2 vc
        obtain ⟨hW, vc⟩ := vc
        refine SW.iadd dX1_burdenOf_56 ?_
        refine SW.istore dX1_burdenOf_57 (by decide) rfl rfl ?_
        refine SW.iinc (v := (x5 + (1 : Int32))) dX1_burdenOf_59 rfl rfl (by decide) rfl rfl ?_
        refine SW.goto 6 dX1_burdenOf_62 (by decide) ?_
        exact vc
theorem ctX1_burdenOf {G : GG} {q : Int32 → Nat → SG → TU → TH → Prop} {n : Nat} {σ : SG} {τ : TU} {θ : TH} (f : Nat) (t1 : Nat) (x2 : Int32) (x3 : Int32) (h : SW G 2 mX1_burdenOf (aw_qi q) 0 0 0 [some (.ref f), some (.ref t1), some (.int x2), some (.int x3), none, none] [] (n, σ, τ, θ)) : SMi G 2 mX1_burdenOf 0 0 [.ref f, .ref t1, .int x2, .int x3] n σ τ θ q := SM.of _ rfl rfl (Nat.le_of_ble_eq_true rfl) h
set_option maxHeartbeats 4000000 in
set_option maxRecDepth 20000 in
theorem sgX1_burdenWithin_0 {G : GG} {k : Nat} {q : Int32 → Nat → SG → TU → TH → Prop} {n : Nat} {σ : SG} {τ : TU} {θ : TH} (f : Nat) (x1 : Int32) (x2 : Int32) (hk : 1 ≤ k) (hf : isF f) (hW : aw_WT n θ) (vc : vp_in x1 5 ∧ ((((σ (f + 1) x1.toNatClampNeg) = (2 : Int32)) → (q (x2 / (2 : Int32)) n σ τ θ)) ∧ (((σ (f + 1) x1.toNatClampNeg) = (3 : Int32)) → (q ((2 : Int32) * x2) n σ τ θ)) ∧ ((¬ (σ (f + 1) x1.toNatClampNeg) = (2 : Int32) ∧ ¬ (σ (f + 1) x1.toNatClampNeg) = (3 : Int32)) → (q x2 n σ τ θ)))) : SW G k mX1_burdenWithin (aw_qi q) 0 0 0 [some (.ref f), some (.int x1), some (.int x2)] [] (n, σ, τ, θ) := by
  refine SW.aload_n dX1_burdenWithin_0 rfl ?_
  refine SW.getS (f := 0) (r := f + 1) aw_cl1 (kpF_0 hf) (leF_0 hf).1 (hW.le (leF_0 hf).2) (by decide) ww_372 dX1_burdenWithin_1 rfl (hW.f0 hf) ?_
  refine SW.iload_n dX1_burdenWithin_4 rfl ?_
  refine SW.iald (kpF_1 hf) (leF_1 hf).1 (hW.le (leF_1 hf).2) vc.1 dX1_burdenWithin_5 ?_
  replace vc := vc.2
  by_cases hsw0 : (σ (f + 1) x1.toNatClampNeg) = (2 : Int32)
  · replace vc := vc.1 hsw0
    refine SW.look (off := 26) 32 dX1_burdenWithin_6 (by decide) (by rw [hsw0] <;> decide) (by decide) ?_
    refine SW.iload_n dX1_burdenWithin_32 rfl ?_
    refine SW.iconst (v := (2 : Int32)) dX1_burdenWithin_33 (by decide) ?_
    refine SW.idiv dX1_burdenWithin_34 (by decide) ?_
    exact SW.iret dX1_burdenWithin_35 rfl rfl ⟨_, rfl, vc⟩
  replace vc := vc.2
  by_cases hsw1 : (σ (f + 1) x1.toNatClampNeg) = (3 : Int32)
  · replace vc := vc.1 hsw1
    refine SW.look (off := 30) 36 dX1_burdenWithin_6 (by decide) (by rw [hsw1] <;> decide) (by decide) ?_
    refine SW.iconst (v := (2 : Int32)) dX1_burdenWithin_36 (by decide) ?_
    refine SW.iload_n dX1_burdenWithin_37 rfl ?_
    refine SW.imul dX1_burdenWithin_38 ?_
    exact SW.iret dX1_burdenWithin_39 rfl rfl ⟨_, rfl, vc⟩
  replace vc := vc.2
  replace vc := vc ⟨hsw0, hsw1⟩
  refine SW.look (off := 34) 40 dX1_burdenWithin_6 (by decide) (by simp only [lv_osw hsw0 (by decide : ((2 : Int32)).toInt = 2), lv_osw hsw1 (by decide : ((3 : Int32)).toInt = 3)]; rfl) (by decide) ?_
  refine SW.iload_n dX1_burdenWithin_40 rfl ?_
  exact SW.iret dX1_burdenWithin_41 rfl rfl ⟨_, rfl, vc⟩
theorem ctX1_burdenWithin {G : GG} {q : Int32 → Nat → SG → TU → TH → Prop} {n : Nat} {σ : SG} {τ : TU} {θ : TH} (f : Nat) (x1 : Int32) (x2 : Int32) (h : SW G 1 mX1_burdenWithin (aw_qi q) 0 0 0 [some (.ref f), some (.int x1), some (.int x2)] [] (n, σ, τ, θ)) : SMi G 1 mX1_burdenWithin 0 0 [.ref f, .int x1, .int x2] n σ τ θ q := SM.of _ rfl rfl (Nat.le_of_ble_eq_true rfl) h
set_option maxHeartbeats 4000000 in
set_option maxRecDepth 20000 in
theorem sgX1_clear_0 {G : GG} {k : Nat} {q : Nat → SG → TU → TH → Prop} {n : Nat} {σ : SG} {τ : TU} {θ : TH} (f : Nat)  (hk : 1 ≤ k) (hf : isF f) (hW : aw_WT n θ) (vc : q n (aw_u (aw_u (aw_u (aw_u (aw_u (aw_u (aw_u (aw_u (aw_u σ (f + 8) 4 (0 : Int32)) (f + 13) 4 (0 : Int32)) f 9 (0 : Int32)) f 10 (0 : Int32)) f 11 (0 : Int32)) f 12 (0 : Int32)) f 13 (0 : Int32)) f 14 (0 : Int32)) f 15 (0 : Int32)) τ θ) : SW G k mX1_clear (aw_qv q) 0 0 0 [some (.ref f)] [] (n, σ, τ, θ) := by
  refine SW.aload_n dX1_clear_0 rfl ?_
  refine SW.getS (f := 7) (r := f + 8) aw_cl1 (kpF_0 hf) (leF_0 hf).1 (hW.le (leF_0 hf).2) (by decide) ww_393 dX1_clear_1 rfl (hW.f7 hf) ?_
  refine SW.iconst (v := (0 : Int32)) dX1_clear_4 (by decide) ?_
  refine SW.putI (f := 4) aw_cl0 (kpF_8 hf) (leF_8 hf).1 (hW.le (leF_8 hf).2) (by decide) ww_354 (Or.inl rfl) dX1_clear_5 rfl rfl rfl ?_
  refine SW.aload_n dX1_clear_8 rfl ?_
  refine SW.getS (f := 8) (r := f + 13) aw_cl1 (kpF_0 hf) (leF_0 hf).1 (hW.le (leF_0 hf).2) (by decide) ww_399 dX1_clear_9 rfl (hW.f8 hf) ?_
  refine SW.iconst (v := (0 : Int32)) dX1_clear_12 (by decide) ?_
  refine SW.putI (f := 4) aw_cl0 (kpF_13 hf) (leF_13 hf).1 (hW.le (leF_13 hf).2) (by decide) ww_354 (Or.inl rfl) dX1_clear_13 rfl rfl rfl ?_
  refine SW.aload_n dX1_clear_16 rfl ?_
  refine SW.iconst (v := (0 : Int32)) dX1_clear_17 (by decide) ?_
  refine SW.putI (f := 9) aw_cl1 (kpF_0 hf) (leF_0 hf).1 (hW.le (leF_0 hf).2) (by decide) ww_403 (Or.inl rfl) dX1_clear_18 rfl rfl rfl ?_
  refine SW.aload_n dX1_clear_21 rfl ?_
  refine SW.iconst (v := (0 : Int32)) dX1_clear_22 (by decide) ?_
  refine SW.putI (f := 10) aw_cl1 (kpF_0 hf) (leF_0 hf).1 (hW.le (leF_0 hf).2) (by decide) ww_407 (Or.inl rfl) dX1_clear_23 rfl rfl rfl ?_
  refine SW.aload_n dX1_clear_26 rfl ?_
  refine SW.iconst (v := (0 : Int32)) dX1_clear_27 (by decide) ?_
  refine SW.putI (f := 11) aw_cl1 (kpF_0 hf) (leF_0 hf).1 (hW.le (leF_0 hf).2) (by decide) ww_410 (Or.inl rfl) dX1_clear_28 rfl rfl rfl ?_
  refine SW.aload_n dX1_clear_31 rfl ?_
  refine SW.iconst (v := (0 : Int32)) dX1_clear_32 (by decide) ?_
  refine SW.putI (f := 12) aw_cl1 (kpF_0 hf) (leF_0 hf).1 (hW.le (leF_0 hf).2) (by decide) ww_413 (Or.inl rfl) dX1_clear_33 rfl rfl rfl ?_
  refine SW.aload_n dX1_clear_36 rfl ?_
  refine SW.iconst (v := (0 : Int32)) dX1_clear_37 (by decide) ?_
  refine SW.putI (f := 13) aw_cl1 (kpF_0 hf) (leF_0 hf).1 (hW.le (leF_0 hf).2) (by decide) ww_417 (Or.inl rfl) dX1_clear_38 rfl rfl rfl ?_
  refine SW.aload_n dX1_clear_41 rfl ?_
  refine SW.iconst (v := (0 : Int32)) dX1_clear_42 (by decide) ?_
  refine SW.putI (f := 14) aw_cl1 (kpF_0 hf) (leF_0 hf).1 (hW.le (leF_0 hf).2) (by decide) ww_425 (Or.inl rfl) dX1_clear_43 rfl rfl rfl ?_
  refine SW.aload_n dX1_clear_46 rfl ?_
  refine SW.iconst (v := (0 : Int32)) dX1_clear_47 (by decide) ?_
  refine SW.putI (f := 15) aw_cl1 (kpF_0 hf) (leF_0 hf).1 (hW.le (leF_0 hf).2) (by decide) ww_429 (Or.inl rfl) dX1_clear_48 rfl rfl rfl ?_
  exact SW.vret dX1_clear_51 rfl ⟨rfl, vc⟩
theorem ctX1_clear {G : GG} {q : Nat → SG → TU → TH → Prop} {n : Nat} {σ : SG} {τ : TU} {θ : TH} (f : Nat) (h : SW G 1 mX1_clear (aw_qv q) 0 0 0 [some (.ref f)] [] (n, σ, τ, θ)) : SMv G 1 mX1_clear 0 0 [.ref f] n σ τ θ q := SM.of _ rfl rfl (Nat.le_of_ble_eq_true rfl) h
set_option maxHeartbeats 4000000 in
set_option maxRecDepth 20000 in
theorem sgX1_dueBetween_0 {G : GG} {k : Nat} {q : Int32 → Nat → SG → TU → TH → Prop} {n : Nat} {σ : SG} {τ : TU} {θ : TH} (f : Nat) (t1 : Nat) (x2 : Int32) (x3 : Int32) (hk : 2 ≤ k) (hf : isF f) (ht1 : isM t1) (hW : aw_WT n θ) (vc : SW G k mX1_dueBetween (aw_qi q) 0 0 6 [some (.ref f), some (.ref t1), some (.int x2), some (.int x3), some (.int (0 : Int32)), some (.int (0 : Int32))] [] (n, σ, τ, θ)) : SW G k mX1_dueBetween (aw_qi q) 0 0 0 [some (.ref f), some (.ref t1), some (.int x2), some (.int x3), none, none] [] (n, σ, τ, θ) := by
  refine SW.iconst (v := (0 : Int32)) dX1_dueBetween_0 (by decide) ?_
  refine SW.istore dX1_dueBetween_1 (by decide) rfl rfl ?_
  refine SW.iconst (v := (0 : Int32)) dX1_dueBetween_3 (by decide) ?_
  refine SW.istore dX1_dueBetween_4 (by decide) rfl rfl ?_
  exact vc
set_option maxHeartbeats 4000000 in
set_option maxRecDepth 20000 in
theorem sgX1_dueBetween_6 {G : GG} {k : Nat} {q : Int32 → Nat → SG → TU → TH → Prop} {n : Nat} {σ : SG} {τ : TU} {θ : TH} (f : Nat) (t1 : Nat) (x2 : Int32) (x3 : Int32) (x4 : Int32) (x5 : Int32) (hk : 2 ≤ k) (hf : isF f) (ht1 : isM t1) (hW : aw_WT n θ) (vc : (((σ (f + 8) 4) ≤ x5) → (q x4 n σ τ θ)) ∧ ((¬ (σ (f + 8) 4) ≤ x5) → (vp_in x5 7 ∧ (((¬ (σ (f + 9) x5.toNatClampNeg) = x2) → (SW G k mX1_dueBetween (aw_qi q) 0 0 6 [some (.ref f), some (.ref t1), some (.int x2), some (.int x3), some (.int x4), some (.int (x5 + (1 : Int32)))] [] (n, σ, τ, θ))) ∧ (((σ (f + 9) x5.toNatClampNeg) = x2) → (vp_in x5 7 ∧ (((¬ (σ (f + 10) x5.toNatClampNeg) = x3) → (SW G k mX1_dueBetween (aw_qi q) 0 0 6 [some (.ref f), some (.ref t1), some (.int x2), some (.int x3), some (.int x4), some (.int (x5 + (1 : Int32)))] [] (n, σ, τ, θ))) ∧ (((σ (f + 10) x5.toNatClampNeg) = x3) → (SMi G 1 mX1_isDue 0 0 [.ref f, .ref t1, .int x5, .int (σ t1 2)] n σ τ θ (fun a1 n1 σ1 τ1 θ1 => aw_WT n1 θ1 ∧ (((a1 = 0) → (SW G k mX1_dueBetween (aw_qi q) 0 0 6 [some (.ref f), some (.ref t1), some (.int x2), some (.int x3), some (.int x4), some (.int (x5 + (1 : Int32)))] [] (n1, σ1, τ1, θ1))) ∧ ((¬ a1 = 0) → (vp_in x5 7 ∧ (SW G k mX1_dueBetween (aw_qi q) 0 0 6 [some (.ref f), some (.ref t1), some (.int x2), some (.int x3), some (.int (x4 + (σ1 (t1 + 2) x5.toNatClampNeg))), some (.int (x5 + (1 : Int32)))] [] (n1, σ1, τ1, θ1))))))))))))))) : SW G k mX1_dueBetween (aw_qi q) 0 0 6 [some (.ref f), some (.ref t1), some (.int x2), some (.int x3), some (.int x4), some (.int x5)] [] (n, σ, τ, θ) := by
  refine SW.iload dX1_dueBetween_6 rfl ?_
  refine SW.aload_n dX1_dueBetween_8 rfl ?_
  refine SW.getS (f := 7) (r := f + 8) aw_cl1 (kpF_0 hf) (leF_0 hf).1 (hW.le (leF_0 hf).2) (by decide) ww_393 dX1_dueBetween_9 rfl (hW.f7 hf) ?_
  refine SW.getI (f := 4) aw_cl0 (kpF_8 hf) (leF_8 hf).1 (hW.le (leF_8 hf).2) (by decide) ww_354 dX1_dueBetween_12 rfl ?_
  refine SW.icmp_ge 78 dX1_dueBetween_15 (by decide) (fun hbr => ?_) (fun hbr => ?_)
  · replace vc := vc.1 hbr
    refine SW.iload dX1_dueBetween_78 rfl ?_
    exact SW.iret dX1_dueBetween_80 rfl rfl ⟨_, rfl, vc⟩
  · replace vc := vc.2 hbr
    refine SW.aload_n dX1_dueBetween_18 rfl ?_
    refine SW.getS (f := 7) (r := f + 8) aw_cl1 (kpF_0 hf) (leF_0 hf).1 (hW.le (leF_0 hf).2) (by decide) ww_393 dX1_dueBetween_19 rfl (hW.f7 hf) ?_
    refine SW.getS (f := 0) (r := f + 9) aw_cl0 (kpF_8 hf) (leF_8 hf).1 (hW.le (leF_8 hf).2) (by decide) ww_335 dX1_dueBetween_22 rfl (hW.f8_0 hf) ?_
    refine SW.iload dX1_dueBetween_25 rfl ?_
    refine SW.iald (kpF_9 hf) (leF_9 hf).1 (hW.le (leF_9 hf).2) vc.1 dX1_dueBetween_27 ?_
    replace vc := vc.2
    refine SW.iload_n dX1_dueBetween_28 rfl ?_
    refine SW.icmp_ne 72 dX1_dueBetween_29 (by decide) (fun hbr => ?_) (fun hbr => ?_)
    · replace vc := vc.1 hbr
      refine SW.iinc (v := (x5 + (1 : Int32))) dX1_dueBetween_72 rfl rfl (by decide) rfl rfl ?_
      refine SW.goto 6 dX1_dueBetween_75 (by decide) ?_
      exact vc
    · replace vc := vc.2 hbr
      refine SW.aload_n dX1_dueBetween_32 rfl ?_
      refine SW.getS (f := 7) (r := f + 8) aw_cl1 (kpF_0 hf) (leF_0 hf).1 (hW.le (leF_0 hf).2) (by decide) ww_393 dX1_dueBetween_33 rfl (hW.f7 hf) ?_
      refine SW.getS (f := 1) (r := f + 10) aw_cl0 (kpF_8 hf) (leF_8 hf).1 (hW.le (leF_8 hf).2) (by decide) ww_342 dX1_dueBetween_36 rfl (hW.f8_1 hf) ?_
      refine SW.iload dX1_dueBetween_39 rfl ?_
      refine SW.iald (kpF_10 hf) (leF_10 hf).1 (hW.le (leF_10 hf).2) vc.1 dX1_dueBetween_41 ?_
      replace vc := vc.2
      refine SW.iload_n dX1_dueBetween_42 rfl ?_
      refine SW.icmp_ne 72 dX1_dueBetween_43 (by decide) (fun hbr => ?_) (fun hbr => ?_)
      · replace vc := vc.1 hbr
        refine SW.iinc (v := (x5 + (1 : Int32))) dX1_dueBetween_72 rfl rfl (by decide) rfl rfl ?_
        refine SW.goto 6 dX1_dueBetween_75 (by decide) ?_
        exact vc
      · replace vc := vc.2 hbr
        refine SW.aload_n dX1_dueBetween_46 rfl ?_
        refine SW.aload_n dX1_dueBetween_47 rfl ?_
        refine SW.iload dX1_dueBetween_48 rfl ?_
        refine SW.aload_n dX1_dueBetween_50 rfl ?_
        refine SW.getI (f := 2) aw_cl2 (kpM_0 ht1) (leM_0 ht1).1 (hW.le (leM_0 ht1).2) (by decide) ww_205 dX1_dueBetween_51 rfl ?_
        refine SW.cvi3 kV_X1_78 (by omega) aw_cl1 (kpF_0 hf) (leF_0 hf).1 (hW.le (leF_0 hf).2) rfl (Nat.le_of_ble_eq_true rfl) dX1_dueBetween_54 (SMi.mono vc ?_)
        intro a1 n1 σ1 τ1 θ1 vc
        obtain ⟨hW, vc⟩ := vc
        refine SW.if_eq 72 dX1_dueBetween_57 (by decide) (fun hbr => ?_) (fun hbr => ?_)
        · replace vc := vc.1 hbr
          refine SW.iinc (v := (x5 + (1 : Int32))) dX1_dueBetween_72 rfl rfl (by decide) rfl rfl ?_
          refine SW.goto 6 dX1_dueBetween_75 (by decide) ?_
          exact vc
        · replace vc := vc.2 hbr
          refine SW.iload dX1_dueBetween_60 rfl ?_
          refine SW.aload_n dX1_dueBetween_62 rfl ?_
          refine SW.getS (f := 1) (r := t1 + 2) aw_cl2 (kpM_0 ht1) (leM_0 ht1).1 (hW.le (leM_0 ht1).2) (by decide) ww_196 dX1_dueBetween_63 rfl (hW.m1 ht1) ?_
          refine SW.iload dX1_dueBetween_66 rfl ?_
          refine SW.iald (kpM_2 ht1) (leM_2 ht1).1 (hW.le (leM_2 ht1).2) vc.1 dX1_dueBetween_68 ?_
          replace vc := vc.2
          refine SW.iadd dX1_dueBetween_69 ?_
          refine SW.istore dX1_dueBetween_70 (by decide) rfl rfl ?_
          refine SW.iinc (v := (x5 + (1 : Int32))) dX1_dueBetween_72 rfl rfl (by decide) rfl rfl ?_
          refine SW.goto 6 dX1_dueBetween_75 (by decide) ?_
          exact vc
theorem ctX1_dueBetween {G : GG} {q : Int32 → Nat → SG → TU → TH → Prop} {n : Nat} {σ : SG} {τ : TU} {θ : TH} (f : Nat) (t1 : Nat) (x2 : Int32) (x3 : Int32) (h : SW G 2 mX1_dueBetween (aw_qi q) 0 0 0 [some (.ref f), some (.ref t1), some (.int x2), some (.int x3), none, none] [] (n, σ, τ, θ)) : SMi G 2 mX1_dueBetween 0 0 [.ref f, .ref t1, .int x2, .int x3] n σ τ θ q := SM.of _ rfl rfl (Nat.le_of_ble_eq_true rfl) h
set_option maxHeartbeats 4000000 in
set_option maxRecDepth 20000 in
theorem sgX1_dueFrom_0 {G : GG} {k : Nat} {q : Int32 → Nat → SG → TU → TH → Prop} {n : Nat} {σ : SG} {τ : TU} {θ : TH} (f : Nat) (t1 : Nat) (x2 : Int32) (hk : 2 ≤ k) (hf : isF f) (ht1 : isM t1) (hW : aw_WT n θ) (vc : SW G k mX1_dueFrom (aw_qi q) 0 0 5 [some (.ref f), some (.ref t1), some (.int x2), some (.int (0 : Int32)), some (.int (0 : Int32))] [] (n, σ, τ, θ)) : SW G k mX1_dueFrom (aw_qi q) 0 0 0 [some (.ref f), some (.ref t1), some (.int x2), none, none] [] (n, σ, τ, θ) := by
  refine SW.iconst (v := (0 : Int32)) dX1_dueFrom_0 (by decide) ?_
  refine SW.istore_n dX1_dueFrom_1 (by decide) rfl rfl ?_
  refine SW.iconst (v := (0 : Int32)) dX1_dueFrom_2 (by decide) ?_
  refine SW.istore dX1_dueFrom_3 (by decide) rfl rfl ?_
  exact vc
set_option maxHeartbeats 4000000 in
set_option maxRecDepth 20000 in
theorem sgX1_dueFrom_5 {G : GG} {k : Nat} {q : Int32 → Nat → SG → TU → TH → Prop} {n : Nat} {σ : SG} {τ : TU} {θ : TH} (f : Nat) (t1 : Nat) (x2 : Int32) (x3 : Int32) (x4 : Int32) (hk : 2 ≤ k) (hf : isF f) (ht1 : isM t1) (hW : aw_WT n θ) (vc : (((σ (f + 8) 4) ≤ x4) → (q x3 n σ τ θ)) ∧ ((¬ (σ (f + 8) 4) ≤ x4) → (vp_in x4 7 ∧ (((¬ (σ (f + 9) x4.toNatClampNeg) = x2) → (SW G k mX1_dueFrom (aw_qi q) 0 0 5 [some (.ref f), some (.ref t1), some (.int x2), some (.int x3), some (.int (x4 + (1 : Int32)))] [] (n, σ, τ, θ))) ∧ (((σ (f + 9) x4.toNatClampNeg) = x2) → (SMi G 1 mX1_isDue 0 0 [.ref f, .ref t1, .int x4, .int (σ t1 2)] n σ τ θ (fun a1 n1 σ1 τ1 θ1 => aw_WT n1 θ1 ∧ (((a1 = 0) → (SW G k mX1_dueFrom (aw_qi q) 0 0 5 [some (.ref f), some (.ref t1), some (.int x2), some (.int x3), some (.int (x4 + (1 : Int32)))] [] (n1, σ1, τ1, θ1))) ∧ ((¬ a1 = 0) → (vp_in x4 7 ∧ (SW G k mX1_dueFrom (aw_qi q) 0 0 5 [some (.ref f), some (.ref t1), some (.int x2), some (.int (x3 + (σ1 (t1 + 2) x4.toNatClampNeg))), some (.int (x4 + (1 : Int32)))] [] (n1, σ1, τ1, θ1)))))))))))) : SW G k mX1_dueFrom (aw_qi q) 0 0 5 [some (.ref f), some (.ref t1), some (.int x2), some (.int x3), some (.int x4)] [] (n, σ, τ, θ) := by
  refine SW.iload dX1_dueFrom_5 rfl ?_
  refine SW.aload_n dX1_dueFrom_7 rfl ?_
  refine SW.getS (f := 7) (r := f + 8) aw_cl1 (kpF_0 hf) (leF_0 hf).1 (hW.le (leF_0 hf).2) (by decide) ww_393 dX1_dueFrom_8 rfl (hW.f7 hf) ?_
  refine SW.getI (f := 4) aw_cl0 (kpF_8 hf) (leF_8 hf).1 (hW.le (leF_8 hf).2) (by decide) ww_354 dX1_dueFrom_11 rfl ?_
  refine SW.icmp_ge 61 dX1_dueFrom_14 (by decide) (fun hbr => ?_) (fun hbr => ?_)
  · replace vc := vc.1 hbr
    refine SW.iload_n dX1_dueFrom_61 rfl ?_
    exact SW.iret dX1_dueFrom_62 rfl rfl ⟨_, rfl, vc⟩
  · replace vc := vc.2 hbr
    refine SW.aload_n dX1_dueFrom_17 rfl ?_
    refine SW.getS (f := 7) (r := f + 8) aw_cl1 (kpF_0 hf) (leF_0 hf).1 (hW.le (leF_0 hf).2) (by decide) ww_393 dX1_dueFrom_18 rfl (hW.f7 hf) ?_
    refine SW.getS (f := 0) (r := f + 9) aw_cl0 (kpF_8 hf) (leF_8 hf).1 (hW.le (leF_8 hf).2) (by decide) ww_335 dX1_dueFrom_21 rfl (hW.f8_0 hf) ?_
    refine SW.iload dX1_dueFrom_24 rfl ?_
    refine SW.iald (kpF_9 hf) (leF_9 hf).1 (hW.le (leF_9 hf).2) vc.1 dX1_dueFrom_26 ?_
    replace vc := vc.2
    refine SW.iload_n dX1_dueFrom_27 rfl ?_
    refine SW.icmp_ne 55 dX1_dueFrom_28 (by decide) (fun hbr => ?_) (fun hbr => ?_)
    · replace vc := vc.1 hbr
      refine SW.iinc (v := (x4 + (1 : Int32))) dX1_dueFrom_55 rfl rfl (by decide) rfl rfl ?_
      refine SW.goto 5 dX1_dueFrom_58 (by decide) ?_
      exact vc
    · replace vc := vc.2 hbr
      refine SW.aload_n dX1_dueFrom_31 rfl ?_
      refine SW.aload_n dX1_dueFrom_32 rfl ?_
      refine SW.iload dX1_dueFrom_33 rfl ?_
      refine SW.aload_n dX1_dueFrom_35 rfl ?_
      refine SW.getI (f := 2) aw_cl2 (kpM_0 ht1) (leM_0 ht1).1 (hW.le (leM_0 ht1).2) (by decide) ww_205 dX1_dueFrom_36 rfl ?_
      refine SW.cvi3 kV_X1_78 (by omega) aw_cl1 (kpF_0 hf) (leF_0 hf).1 (hW.le (leF_0 hf).2) rfl (Nat.le_of_ble_eq_true rfl) dX1_dueFrom_39 (SMi.mono vc ?_)
      intro a1 n1 σ1 τ1 θ1 vc
      obtain ⟨hW, vc⟩ := vc
      refine SW.if_eq 55 dX1_dueFrom_42 (by decide) (fun hbr => ?_) (fun hbr => ?_)
      · replace vc := vc.1 hbr
        refine SW.iinc (v := (x4 + (1 : Int32))) dX1_dueFrom_55 rfl rfl (by decide) rfl rfl ?_
        refine SW.goto 5 dX1_dueFrom_58 (by decide) ?_
        exact vc
      · replace vc := vc.2 hbr
        refine SW.iload_n dX1_dueFrom_45 rfl ?_
        refine SW.aload_n dX1_dueFrom_46 rfl ?_
        refine SW.getS (f := 1) (r := t1 + 2) aw_cl2 (kpM_0 ht1) (leM_0 ht1).1 (hW.le (leM_0 ht1).2) (by decide) ww_196 dX1_dueFrom_47 rfl (hW.m1 ht1) ?_
        refine SW.iload dX1_dueFrom_50 rfl ?_
        refine SW.iald (kpM_2 ht1) (leM_2 ht1).1 (hW.le (leM_2 ht1).2) vc.1 dX1_dueFrom_52 ?_
        replace vc := vc.2
        refine SW.iadd dX1_dueFrom_53 ?_
        refine SW.istore_n dX1_dueFrom_54 (by decide) rfl rfl ?_
        refine SW.iinc (v := (x4 + (1 : Int32))) dX1_dueFrom_55 rfl rfl (by decide) rfl rfl ?_
        refine SW.goto 5 dX1_dueFrom_58 (by decide) ?_
        exact vc
theorem ctX1_dueFrom {G : GG} {q : Int32 → Nat → SG → TU → TH → Prop} {n : Nat} {σ : SG} {τ : TU} {θ : TH} (f : Nat) (t1 : Nat) (x2 : Int32) (h : SW G 2 mX1_dueFrom (aw_qi q) 0 0 0 [some (.ref f), some (.ref t1), some (.int x2), none, none] [] (n, σ, τ, θ)) : SMi G 2 mX1_dueFrom 0 0 [.ref f, .ref t1, .int x2] n σ τ θ q := SM.of _ rfl rfl (Nat.le_of_ble_eq_true rfl) h
set_option maxHeartbeats 4000000 in
set_option maxRecDepth 20000 in
theorem sgX1_dueTo_0 {G : GG} {k : Nat} {q : Int32 → Nat → SG → TU → TH → Prop} {n : Nat} {σ : SG} {τ : TU} {θ : TH} (f : Nat) (t1 : Nat) (x2 : Int32) (hk : 2 ≤ k) (hf : isF f) (ht1 : isM t1) (hW : aw_WT n θ) (vc : SW G k mX1_dueTo (aw_qi q) 0 0 5 [some (.ref f), some (.ref t1), some (.int x2), some (.int (0 : Int32)), some (.int (0 : Int32))] [] (n, σ, τ, θ)) : SW G k mX1_dueTo (aw_qi q) 0 0 0 [some (.ref f), some (.ref t1), some (.int x2), none, none] [] (n, σ, τ, θ) := by
  refine SW.iconst (v := (0 : Int32)) dX1_dueTo_0 (by decide) ?_
  refine SW.istore_n dX1_dueTo_1 (by decide) rfl rfl ?_
  refine SW.iconst (v := (0 : Int32)) dX1_dueTo_2 (by decide) ?_
  refine SW.istore dX1_dueTo_3 (by decide) rfl rfl ?_
  exact vc
set_option maxHeartbeats 4000000 in
set_option maxRecDepth 20000 in
theorem sgX1_dueTo_5 {G : GG} {k : Nat} {q : Int32 → Nat → SG → TU → TH → Prop} {n : Nat} {σ : SG} {τ : TU} {θ : TH} (f : Nat) (t1 : Nat) (x2 : Int32) (x3 : Int32) (x4 : Int32) (hk : 2 ≤ k) (hf : isF f) (ht1 : isM t1) (hW : aw_WT n θ) (vc : (((σ (f + 8) 4) ≤ x4) → (q x3 n σ τ θ)) ∧ ((¬ (σ (f + 8) 4) ≤ x4) → (vp_in x4 7 ∧ (((¬ (σ (f + 10) x4.toNatClampNeg) = x2) → (SW G k mX1_dueTo (aw_qi q) 0 0 5 [some (.ref f), some (.ref t1), some (.int x2), some (.int x3), some (.int (x4 + (1 : Int32)))] [] (n, σ, τ, θ))) ∧ (((σ (f + 10) x4.toNatClampNeg) = x2) → (SMi G 1 mX1_isDue 0 0 [.ref f, .ref t1, .int x4, .int (σ t1 2)] n σ τ θ (fun a1 n1 σ1 τ1 θ1 => aw_WT n1 θ1 ∧ (((a1 = 0) → (SW G k mX1_dueTo (aw_qi q) 0 0 5 [some (.ref f), some (.ref t1), some (.int x2), some (.int x3), some (.int (x4 + (1 : Int32)))] [] (n1, σ1, τ1, θ1))) ∧ ((¬ a1 = 0) → (vp_in x4 7 ∧ (SW G k mX1_dueTo (aw_qi q) 0 0 5 [some (.ref f), some (.ref t1), some (.int x2), some (.int (x3 + (σ1 (t1 + 2) x4.toNatClampNeg))), some (.int (x4 + (1 : Int32)))] [] (n1, σ1, τ1, θ1)))))))))))) : SW G k mX1_dueTo (aw_qi q) 0 0 5 [some (.ref f), some (.ref t1), some (.int x2), some (.int x3), some (.int x4)] [] (n, σ, τ, θ) := by
  refine SW.iload dX1_dueTo_5 rfl ?_
  refine SW.aload_n dX1_dueTo_7 rfl ?_
  refine SW.getS (f := 7) (r := f + 8) aw_cl1 (kpF_0 hf) (leF_0 hf).1 (hW.le (leF_0 hf).2) (by decide) ww_393 dX1_dueTo_8 rfl (hW.f7 hf) ?_
  refine SW.getI (f := 4) aw_cl0 (kpF_8 hf) (leF_8 hf).1 (hW.le (leF_8 hf).2) (by decide) ww_354 dX1_dueTo_11 rfl ?_
  refine SW.icmp_ge 61 dX1_dueTo_14 (by decide) (fun hbr => ?_) (fun hbr => ?_)
  · replace vc := vc.1 hbr
    refine SW.iload_n dX1_dueTo_61 rfl ?_
    exact SW.iret dX1_dueTo_62 rfl rfl ⟨_, rfl, vc⟩
  · replace vc := vc.2 hbr
    refine SW.aload_n dX1_dueTo_17 rfl ?_
    refine SW.getS (f := 7) (r := f + 8) aw_cl1 (kpF_0 hf) (leF_0 hf).1 (hW.le (leF_0 hf).2) (by decide) ww_393 dX1_dueTo_18 rfl (hW.f7 hf) ?_
    refine SW.getS (f := 1) (r := f + 10) aw_cl0 (kpF_8 hf) (leF_8 hf).1 (hW.le (leF_8 hf).2) (by decide) ww_342 dX1_dueTo_21 rfl (hW.f8_1 hf) ?_
    refine SW.iload dX1_dueTo_24 rfl ?_
    refine SW.iald (kpF_10 hf) (leF_10 hf).1 (hW.le (leF_10 hf).2) vc.1 dX1_dueTo_26 ?_
    replace vc := vc.2
    refine SW.iload_n dX1_dueTo_27 rfl ?_
    refine SW.icmp_ne 55 dX1_dueTo_28 (by decide) (fun hbr => ?_) (fun hbr => ?_)
    · replace vc := vc.1 hbr
      refine SW.iinc (v := (x4 + (1 : Int32))) dX1_dueTo_55 rfl rfl (by decide) rfl rfl ?_
      refine SW.goto 5 dX1_dueTo_58 (by decide) ?_
      exact vc
    · replace vc := vc.2 hbr
      refine SW.aload_n dX1_dueTo_31 rfl ?_
      refine SW.aload_n dX1_dueTo_32 rfl ?_
      refine SW.iload dX1_dueTo_33 rfl ?_
      refine SW.aload_n dX1_dueTo_35 rfl ?_
      refine SW.getI (f := 2) aw_cl2 (kpM_0 ht1) (leM_0 ht1).1 (hW.le (leM_0 ht1).2) (by decide) ww_205 dX1_dueTo_36 rfl ?_
      refine SW.cvi3 kV_X1_78 (by omega) aw_cl1 (kpF_0 hf) (leF_0 hf).1 (hW.le (leF_0 hf).2) rfl (Nat.le_of_ble_eq_true rfl) dX1_dueTo_39 (SMi.mono vc ?_)
      intro a1 n1 σ1 τ1 θ1 vc
      obtain ⟨hW, vc⟩ := vc
      refine SW.if_eq 55 dX1_dueTo_42 (by decide) (fun hbr => ?_) (fun hbr => ?_)
      · replace vc := vc.1 hbr
        refine SW.iinc (v := (x4 + (1 : Int32))) dX1_dueTo_55 rfl rfl (by decide) rfl rfl ?_
        refine SW.goto 5 dX1_dueTo_58 (by decide) ?_
        exact vc
      · replace vc := vc.2 hbr
        refine SW.iload_n dX1_dueTo_45 rfl ?_
        refine SW.aload_n dX1_dueTo_46 rfl ?_
        refine SW.getS (f := 1) (r := t1 + 2) aw_cl2 (kpM_0 ht1) (leM_0 ht1).1 (hW.le (leM_0 ht1).2) (by decide) ww_196 dX1_dueTo_47 rfl (hW.m1 ht1) ?_
        refine SW.iload dX1_dueTo_50 rfl ?_
        refine SW.iald (kpM_2 ht1) (leM_2 ht1).1 (hW.le (leM_2 ht1).2) vc.1 dX1_dueTo_52 ?_
        replace vc := vc.2
        refine SW.iadd dX1_dueTo_53 ?_
        refine SW.istore_n dX1_dueTo_54 (by decide) rfl rfl ?_
        refine SW.iinc (v := (x4 + (1 : Int32))) dX1_dueTo_55 rfl rfl (by decide) rfl rfl ?_
        refine SW.goto 5 dX1_dueTo_58 (by decide) ?_
        exact vc
theorem ctX1_dueTo {G : GG} {q : Int32 → Nat → SG → TU → TH → Prop} {n : Nat} {σ : SG} {τ : TU} {θ : TH} (f : Nat) (t1 : Nat) (x2 : Int32) (h : SW G 2 mX1_dueTo (aw_qi q) 0 0 0 [some (.ref f), some (.ref t1), some (.int x2), none, none] [] (n, σ, τ, θ)) : SMi G 2 mX1_dueTo 0 0 [.ref f, .ref t1, .int x2] n σ τ θ q := SM.of _ rfl rfl (Nat.le_of_ble_eq_true rfl) h
set_option maxHeartbeats 4000000 in
set_option maxRecDepth 20000 in
theorem sgX1_firstTinesAt_0 {G : GG} {k : Nat} {q : Int32 → Nat → SG → TU → TH → Prop} {n : Nat} {σ : SG} {τ : TU} {θ : TH} (f : Nat) (t1 : Nat) (x2 : Int32) (x3 : Int32) (hk : 2 ≤ k) (hf : isF f) (ht1 : isM t1) (hW : aw_WT n θ) (vc : SW G k mX1_firstTinesAt (aw_qi q) 0 0 6 [some (.ref f), some (.ref t1), some (.int x2), some (.int x3), some (.int (0 : Int32)), some (.int (0 : Int32))] [] (n, σ, τ, θ)) : SW G k mX1_firstTinesAt (aw_qi q) 0 0 0 [some (.ref f), some (.ref t1), some (.int x2), some (.int x3), none, none] [] (n, σ, τ, θ) := by
  refine SW.iconst (v := (0 : Int32)) dX1_firstTinesAt_0 (by decide) ?_
  refine SW.istore dX1_firstTinesAt_1 (by decide) rfl rfl ?_
  refine SW.iconst (v := (0 : Int32)) dX1_firstTinesAt_3 (by decide) ?_
  refine SW.istore dX1_firstTinesAt_4 (by decide) rfl rfl ?_
  exact vc
set_option maxHeartbeats 4000000 in
set_option maxRecDepth 20000 in
theorem sgX1_firstTinesAt_6 {G : GG} {k : Nat} {q : Int32 → Nat → SG → TU → TH → Prop} {n : Nat} {σ : SG} {τ : TU} {θ : TH} (f : Nat) (t1 : Nat) (x2 : Int32) (x3 : Int32) (x4 : Int32) (x5 : Int32) (hk : 2 ≤ k) (hf : isF f) (ht1 : isM t1) (hW : aw_WT n θ) (vc : (((σ (f + 8) 4) ≤ x5) → (q x4 n σ τ θ)) ∧ ((¬ (σ (f + 8) 4) ≤ x5) → (vp_in x5 7 ∧ (((¬ (σ (f + 9) x5.toNatClampNeg) = x2) → (SW G k mX1_firstTinesAt (aw_qi q) 0 0 6 [some (.ref f), some (.ref t1), some (.int x2), some (.int x3), some (.int x4), some (.int (x5 + (1 : Int32)))] [] (n, σ, τ, θ))) ∧ (((σ (f + 9) x5.toNatClampNeg) = x2) → (SMi G 1 mX1_isDue 0 0 [.ref f, .ref t1, .int x5, .int (σ t1 2)] n σ τ θ (fun a1 n1 σ1 τ1 θ1 => aw_WT n1 θ1 ∧ (((a1 = 0) → (SW G k mX1_firstTinesAt (aw_qi q) 0 0 6 [some (.ref f), some (.ref t1), some (.int x2), some (.int x3), some (.int x4), some (.int (x5 + (1 : Int32)))] [] (n1, σ1, τ1, θ1))) ∧ ((¬ a1 = 0) → (vp_in x5 7 ∧ (SMi G 1 mX1_nextTineCosts 0 0 [.ref f, .int (σ1 (t1 + 2) x5.toNatClampNeg)] n1 σ1 τ1 θ1 (fun a2 n2 σ2 τ2 θ2 => aw_WT n2 θ2 ∧ (((¬ a2 = x3) → (SW G k mX1_firstTinesAt (aw_qi q) 0 0 6 [some (.ref f), some (.ref t1), some (.int x2), some (.int x3), some (.int x4), some (.int (x5 + (1 : Int32)))] [] (n2, σ2, τ2, θ2))) ∧ ((a2 = x3) → (SW G k mX1_firstTinesAt (aw_qi q) 0 0 6 [some (.ref f), some (.ref t1), some (.int x2), some (.int x3), some (.int (x4 + (1 : Int32))), some (.int (x5 + (1 : Int32)))] [] (n2, σ2, τ2, θ2)))))))))))))))) : SW G k mX1_firstTinesAt (aw_qi q) 0 0 6 [some (.ref f), some (.ref t1), some (.int x2), some (.int x3), some (.int x4), some (.int x5)] [] (n, σ, τ, θ) := by
  refine SW.iload dX1_firstTinesAt_6 rfl ?_
  refine SW.aload_n dX1_firstTinesAt_8 rfl ?_
  refine SW.getS (f := 7) (r := f + 8) aw_cl1 (kpF_0 hf) (leF_0 hf).1 (hW.le (leF_0 hf).2) (by decide) ww_393 dX1_firstTinesAt_9 rfl (hW.f7 hf) ?_
  refine SW.getI (f := 4) aw_cl0 (kpF_8 hf) (leF_8 hf).1 (hW.le (leF_8 hf).2) (by decide) ww_354 dX1_firstTinesAt_12 rfl ?_
  refine SW.icmp_ge 70 dX1_firstTinesAt_15 (by decide) (fun hbr => ?_) (fun hbr => ?_)
  · replace vc := vc.1 hbr
    refine SW.iload dX1_firstTinesAt_70 rfl ?_
    exact SW.iret dX1_firstTinesAt_72 rfl rfl ⟨_, rfl, vc⟩
  · replace vc := vc.2 hbr
    refine SW.aload_n dX1_firstTinesAt_18 rfl ?_
    refine SW.getS (f := 7) (r := f + 8) aw_cl1 (kpF_0 hf) (leF_0 hf).1 (hW.le (leF_0 hf).2) (by decide) ww_393 dX1_firstTinesAt_19 rfl (hW.f7 hf) ?_
    refine SW.getS (f := 0) (r := f + 9) aw_cl0 (kpF_8 hf) (leF_8 hf).1 (hW.le (leF_8 hf).2) (by decide) ww_335 dX1_firstTinesAt_22 rfl (hW.f8_0 hf) ?_
    refine SW.iload dX1_firstTinesAt_25 rfl ?_
    refine SW.iald (kpF_9 hf) (leF_9 hf).1 (hW.le (leF_9 hf).2) vc.1 dX1_firstTinesAt_27 ?_
    replace vc := vc.2
    refine SW.iload_n dX1_firstTinesAt_28 rfl ?_
    refine SW.icmp_ne 64 dX1_firstTinesAt_29 (by decide) (fun hbr => ?_) (fun hbr => ?_)
    · replace vc := vc.1 hbr
      refine SW.iinc (v := (x5 + (1 : Int32))) dX1_firstTinesAt_64 rfl rfl (by decide) rfl rfl ?_
      refine SW.goto 6 dX1_firstTinesAt_67 (by decide) ?_
      exact vc
    · replace vc := vc.2 hbr
      refine SW.aload_n dX1_firstTinesAt_32 rfl ?_
      refine SW.aload_n dX1_firstTinesAt_33 rfl ?_
      refine SW.iload dX1_firstTinesAt_34 rfl ?_
      refine SW.aload_n dX1_firstTinesAt_36 rfl ?_
      refine SW.getI (f := 2) aw_cl2 (kpM_0 ht1) (leM_0 ht1).1 (hW.le (leM_0 ht1).2) (by decide) ww_205 dX1_firstTinesAt_37 rfl ?_
      refine SW.cvi3 kV_X1_78 (by omega) aw_cl1 (kpF_0 hf) (leF_0 hf).1 (hW.le (leF_0 hf).2) rfl (Nat.le_of_ble_eq_true rfl) dX1_firstTinesAt_40 (SMi.mono vc ?_)
      intro a1 n1 σ1 τ1 θ1 vc
      obtain ⟨hW, vc⟩ := vc
      refine SW.if_eq 64 dX1_firstTinesAt_43 (by decide) (fun hbr => ?_) (fun hbr => ?_)
      · replace vc := vc.1 hbr
        refine SW.iinc (v := (x5 + (1 : Int32))) dX1_firstTinesAt_64 rfl rfl (by decide) rfl rfl ?_
        refine SW.goto 6 dX1_firstTinesAt_67 (by decide) ?_
        exact vc
      · replace vc := vc.2 hbr
        refine SW.aload_n dX1_firstTinesAt_46 rfl ?_
        refine SW.aload_n dX1_firstTinesAt_47 rfl ?_
        refine SW.getS (f := 1) (r := t1 + 2) aw_cl2 (kpM_0 ht1) (leM_0 ht1).1 (hW.le (leM_0 ht1).2) (by decide) ww_196 dX1_firstTinesAt_48 rfl (hW.m1 ht1) ?_
        refine SW.iload dX1_firstTinesAt_51 rfl ?_
        refine SW.iald (kpM_2 ht1) (leM_2 ht1).1 (hW.le (leM_2 ht1).2) vc.1 dX1_firstTinesAt_53 ?_
        replace vc := vc.2
        refine SW.cvi1 kV_X1_119 (by omega) aw_cl1 (kpF_0 hf) (leF_0 hf).1 (hW.le (leF_0 hf).2) rfl (Nat.le_of_ble_eq_true rfl) dX1_firstTinesAt_54 (SMi.mono vc ?_)
        intro a2 n2 σ2 τ2 θ2 vc
        obtain ⟨hW, vc⟩ := vc
        refine SW.iload_n dX1_firstTinesAt_57 rfl ?_
        refine SW.icmp_ne 64 dX1_firstTinesAt_58 (by decide) (fun hbr => ?_) (fun hbr => ?_)
        · replace vc := vc.1 hbr
          refine SW.iinc (v := (x5 + (1 : Int32))) dX1_firstTinesAt_64 rfl rfl (by decide) rfl rfl ?_
          refine SW.goto 6 dX1_firstTinesAt_67 (by decide) ?_
          exact vc
        · replace vc := vc.2 hbr
          refine SW.iinc (v := (x4 + (1 : Int32))) dX1_firstTinesAt_61 rfl rfl (by decide) rfl rfl ?_
          refine SW.iinc (v := (x5 + (1 : Int32))) dX1_firstTinesAt_64 rfl rfl (by decide) rfl rfl ?_
          refine SW.goto 6 dX1_firstTinesAt_67 (by decide) ?_
          exact vc
theorem ctX1_firstTinesAt {G : GG} {q : Int32 → Nat → SG → TU → TH → Prop} {n : Nat} {σ : SG} {τ : TU} {θ : TH} (f : Nat) (t1 : Nat) (x2 : Int32) (x3 : Int32) (h : SW G 2 mX1_firstTinesAt (aw_qi q) 0 0 0 [some (.ref f), some (.ref t1), some (.int x2), some (.int x3), none, none] [] (n, σ, τ, θ)) : SMi G 2 mX1_firstTinesAt 0 0 [.ref f, .ref t1, .int x2, .int x3] n σ τ θ q := SM.of _ rfl rfl (Nat.le_of_ble_eq_true rfl) h
set_option maxHeartbeats 4000000 in
set_option maxRecDepth 20000 in
theorem sgX1_headBy_0 {G : GG} {k : Nat} {q : Int32 → Nat → SG → TU → TH → Prop} {n : Nat} {σ : SG} {τ : TU} {θ : TH} (f : Nat) (x1 : Int32) (x2 : Int32) (hk : 1 ≤ k) (hf : isF f) (hW : aw_WT n θ) (vc : vp_in x1 5 ∧ ((((σ (f + 1) x1.toNatClampNeg).toInt < (1 : Int) ∨ (3 : Int) < (σ (f + 1) x1.toNatClampNeg).toInt) → (q x2 n σ τ θ)) ∧ (((σ (f + 1) x1.toNatClampNeg) = (1 : Int32)) → (q (0 : Int32) n σ τ θ)) ∧ (((σ (f + 1) x1.toNatClampNeg) = (2 : Int32)) → (q ((2 : Int32) * x2) n σ τ θ)) ∧ (((σ (f + 1) x1.toNatClampNeg) = (3 : Int32)) → (q ((x2 + (1 : Int32)) / (2 : Int32)) n σ τ θ)))) : SW G k mX1_headBy (aw_qi q) 0 0 0 [some (.ref f), some (.int x1), some (.int x2)] [] (n, σ, τ, θ) := by
  refine SW.aload_n dX1_headBy_0 rfl ?_
  refine SW.getS (f := 0) (r := f + 1) aw_cl1 (kpF_0 hf) (leF_0 hf).1 (hW.le (leF_0 hf).2) (by decide) ww_372 dX1_headBy_1 rfl (hW.f0 hf) ?_
  refine SW.iload_n dX1_headBy_4 rfl ?_
  refine SW.iald (kpF_1 hf) (leF_1 hf).1 (hW.le (leF_1 hf).2) vc.1 dX1_headBy_5 ?_
  replace vc := vc.2
  by_cases hsw : (σ (f + 1) x1.toNatClampNeg).toInt < (1 : Int) ∨ (3 : Int) < (σ (f + 1) x1.toNatClampNeg).toInt
  · replace vc := vc.1 hsw
    refine SW.tabOut 44 dX1_headBy_6 hsw (by decide) ?_
    refine SW.iload_n dX1_headBy_44 rfl ?_
    exact SW.iret dX1_headBy_45 rfl rfl ⟨_, rfl, vc⟩
  replace vc := vc.2
  have hsw2 := aw_sw_1_3 hsw
  rcases hsw2 with hsw2 | hsw2
  · replace vc := vc.1 hsw2
    refine SW.tabIn (off := 26) 32 dX1_headBy_6 (aw_si1 hsw2 (by decide)) (aw_si2 hsw2 (by decide)) (aw_si3 hsw2 (by decide)) (by decide) ?_
    refine SW.iconst (v := (0 : Int32)) dX1_headBy_32 (by decide) ?_
    exact SW.iret dX1_headBy_33 rfl rfl ⟨_, rfl, vc⟩
  replace vc := vc.2
  rcases hsw2 with hsw2 | hsw2
  · replace vc := vc.1 hsw2
    refine SW.tabIn (off := 28) 34 dX1_headBy_6 (aw_si1 hsw2 (by decide)) (aw_si2 hsw2 (by decide)) (aw_si3 hsw2 (by decide)) (by decide) ?_
    refine SW.iconst (v := (2 : Int32)) dX1_headBy_34 (by decide) ?_
    refine SW.iload_n dX1_headBy_35 rfl ?_
    refine SW.imul dX1_headBy_36 ?_
    exact SW.iret dX1_headBy_37 rfl rfl ⟨_, rfl, vc⟩
  replace vc := vc.2
  replace vc := vc hsw2
  refine SW.tabIn (off := 32) 38 dX1_headBy_6 (aw_si1 hsw2 (by decide)) (aw_si2 hsw2 (by decide)) (aw_si3 hsw2 (by decide)) (by decide) ?_
  refine SW.iload_n dX1_headBy_38 rfl ?_
  refine SW.iconst (v := (1 : Int32)) dX1_headBy_39 (by decide) ?_
  refine SW.iadd dX1_headBy_40 ?_
  refine SW.iconst (v := (2 : Int32)) dX1_headBy_41 (by decide) ?_
  refine SW.idiv dX1_headBy_42 (by decide) ?_
  exact SW.iret dX1_headBy_43 rfl rfl ⟨_, rfl, vc⟩
theorem ctX1_headBy {G : GG} {q : Int32 → Nat → SG → TU → TH → Prop} {n : Nat} {σ : SG} {τ : TU} {θ : TH} (f : Nat) (x1 : Int32) (x2 : Int32) (h : SW G 1 mX1_headBy (aw_qi q) 0 0 0 [some (.ref f), some (.int x1), some (.int x2)] [] (n, σ, τ, θ)) : SMi G 1 mX1_headBy 0 0 [.ref f, .int x1, .int x2] n σ τ θ q := SM.of _ rfl rfl (Nat.le_of_ble_eq_true rfl) h
set_option maxHeartbeats 4000000 in
set_option maxRecDepth 20000 in
theorem sgX1_headOf_0 {G : GG} {k : Nat} {q : Int32 → Nat → SG → TU → TH → Prop} {n : Nat} {σ : SG} {τ : TU} {θ : TH} (f : Nat) (t1 : Nat) (x2 : Int32) (x3 : Int32) (hk : 3 ≤ k) (hf : isF f) (ht1 : isM t1) (hW : aw_WT n θ) (vc : SMi G 2 mX1_burdenOf 0 0 [.ref f, .ref t1, .int x2, .int x3] n σ τ θ (fun a1 n1 σ1 τ1 θ1 => aw_WT n1 θ1 ∧ (SMi G 1 mX1_headBy 0 0 [.ref f, .int x2, .int a1] n1 σ1 τ1 θ1 (fun a2 n2 σ2 τ2 θ2 => aw_WT n2 θ2 ∧ (q a2 n2 σ2 τ2 θ2))))) : SW G k mX1_headOf (aw_qi q) 0 0 0 [some (.ref f), some (.ref t1), some (.int x2), some (.int x3)] [] (n, σ, τ, θ) := by
  refine SW.aload_n dX1_headOf_0 rfl ?_
  refine SW.iload_n dX1_headOf_1 rfl ?_
  refine SW.aload_n dX1_headOf_2 rfl ?_
  refine SW.aload_n dX1_headOf_3 rfl ?_
  refine SW.iload_n dX1_headOf_4 rfl ?_
  refine SW.iload_n dX1_headOf_5 rfl ?_
  refine SW.cvi3 kV_X1_89 (by omega) aw_cl1 (kpF_0 hf) (leF_0 hf).1 (hW.le (leF_0 hf).2) rfl (Nat.le_of_ble_eq_true rfl) dX1_headOf_6 (SMi.mono vc ?_)
  intro a1 n1 σ1 τ1 θ1 vc
  obtain ⟨hW, vc⟩ := vc
  refine SW.cvi2 kV_X1_93 (by omega) aw_cl1 (kpF_0 hf) (leF_0 hf).1 (hW.le (leF_0 hf).2) rfl (Nat.le_of_ble_eq_true rfl) dX1_headOf_9 (SMi.mono vc ?_)
  intro a2 n2 σ2 τ2 θ2 vc
  obtain ⟨hW, vc⟩ := vc
  exact SW.iret dX1_headOf_12 rfl rfl ⟨_, rfl, vc⟩
theorem ctX1_headOf {G : GG} {q : Int32 → Nat → SG → TU → TH → Prop} {n : Nat} {σ : SG} {τ : TU} {θ : TH} (f : Nat) (t1 : Nat) (x2 : Int32) (x3 : Int32) (h : SW G 3 mX1_headOf (aw_qi q) 0 0 0 [some (.ref f), some (.ref t1), some (.int x2), some (.int x3)] [] (n, σ, τ, θ)) : SMi G 3 mX1_headOf 0 0 [.ref f, .ref t1, .int x2, .int x3] n σ τ θ q := SM.of _ rfl rfl (Nat.le_of_ble_eq_true rfl) h
set_option maxHeartbeats 4000000 in
set_option maxRecDepth 20000 in
theorem sgX1_invitedBits_0 {G : GG} {k : Nat} {q : Int32 → Nat → SG → TU → TH → Prop} {n : Nat} {σ : SG} {τ : TU} {θ : TH} (f : Nat) (x1 : Int32) (hk : 1 ≤ k) (hf : isF f) (hW : aw_WT n θ) (vc : SW G k mX1_invitedBits (aw_qi q) 0 0 4 [some (.ref f), some (.int x1), some (.int (0 : Int32)), some (.int (0 : Int32))] [] (n, σ, τ, θ)) : SW G k mX1_invitedBits (aw_qi q) 0 0 0 [some (.ref f), some (.int x1), none, none] [] (n, σ, τ, θ) := by
  refine SW.iconst (v := (0 : Int32)) dX1_invitedBits_0 (by decide) ?_
  refine SW.istore_n dX1_invitedBits_1 (by decide) rfl rfl ?_
  refine SW.iconst (v := (0 : Int32)) dX1_invitedBits_2 (by decide) ?_
  refine SW.istore_n dX1_invitedBits_3 (by decide) rfl rfl ?_
  exact vc
set_option maxHeartbeats 4000000 in
set_option maxRecDepth 20000 in
theorem sgX1_invitedBits_4 {G : GG} {k : Nat} {q : Int32 → Nat → SG → TU → TH → Prop} {n : Nat} {σ : SG} {τ : TU} {θ : TH} (f : Nat) (x1 : Int32) (x2 : Int32) (x3 : Int32) (hk : 1 ≤ k) (hf : isF f) (hW : aw_WT n θ) (vc : (((σ f 13) ≤ x3) → (q x2 n σ τ θ)) ∧ ((¬ (σ f 13) ≤ x3) → (vp_in x3 5 ∧ (((¬ (σ (f + 4) x3.toNatClampNeg) = x1) → (SW G k mX1_invitedBits (aw_qi q) 0 0 4 [some (.ref f), some (.int x1), some (.int x2), some (.int (x3 + (1 : Int32)))] [] (n, σ, τ, θ))) ∧ (((σ (f + 4) x3.toNatClampNeg) = x1) → (SW G k mX1_invitedBits (aw_qi q) 0 0 4 [some (.ref f), some (.int x1), some (.int (x2 ||| ((1 : Int32) <<< (x3 &&& 31)))), some (.int (x3 + (1 : Int32)))] [] (n, σ, τ, θ))))))) : SW G k mX1_invitedBits (aw_qi q) 0 0 4 [some (.ref f), some (.int x1), some (.int x2), some (.int x3)] [] (n, σ, τ, θ) := by
  refine SW.iload_n dX1_invitedBits_4 rfl ?_
  refine SW.aload_n dX1_invitedBits_5 rfl ?_
  refine SW.getI (f := 13) aw_cl1 (kpF_0 hf) (leF_0 hf).1 (hW.le (leF_0 hf).2) (by decide) ww_417 dX1_invitedBits_6 rfl ?_
  refine SW.icmp_ge 34 dX1_invitedBits_9 (by decide) (fun hbr => ?_) (fun hbr => ?_)
  · replace vc := vc.1 hbr
    refine SW.iload_n dX1_invitedBits_34 rfl ?_
    exact SW.iret dX1_invitedBits_35 rfl rfl ⟨_, rfl, vc⟩
  · replace vc := vc.2 hbr
    refine SW.aload_n dX1_invitedBits_12 rfl ?_
    refine SW.getS (f := 3) (r := f + 4) aw_cl1 (kpF_0 hf) (leF_0 hf).1 (hW.le (leF_0 hf).2) (by decide) ww_381 dX1_invitedBits_13 rfl (hW.f3 hf) ?_
    refine SW.iload_n dX1_invitedBits_16 rfl ?_
    refine SW.iald (kpF_4 hf) (leF_4 hf).1 (hW.le (leF_4 hf).2) vc.1 dX1_invitedBits_17 ?_
    replace vc := vc.2
    refine SW.iload_n dX1_invitedBits_18 rfl ?_
    refine SW.icmp_ne 28 dX1_invitedBits_19 (by decide) (fun hbr => ?_) (fun hbr => ?_)
    · replace vc := vc.1 hbr
      refine SW.iinc (v := (x3 + (1 : Int32))) dX1_invitedBits_28 rfl rfl (by decide) rfl rfl ?_
      refine SW.goto 4 dX1_invitedBits_31 (by decide) ?_
      exact vc
    · replace vc := vc.2 hbr
      refine SW.iload_n dX1_invitedBits_22 rfl ?_
      refine SW.iconst (v := (1 : Int32)) dX1_invitedBits_23 (by decide) ?_
      refine SW.iload_n dX1_invitedBits_24 rfl ?_
      refine SW.ishl dX1_invitedBits_25 ?_
      refine SW.ior dX1_invitedBits_26 ?_
      refine SW.istore_n dX1_invitedBits_27 (by decide) rfl rfl ?_
      refine SW.iinc (v := (x3 + (1 : Int32))) dX1_invitedBits_28 rfl rfl (by decide) rfl rfl ?_
      refine SW.goto 4 dX1_invitedBits_31 (by decide) ?_
      exact vc
theorem ctX1_invitedBits {G : GG} {q : Int32 → Nat → SG → TU → TH → Prop} {n : Nat} {σ : SG} {τ : TU} {θ : TH} (f : Nat) (x1 : Int32) (h : SW G 1 mX1_invitedBits (aw_qi q) 0 0 0 [some (.ref f), some (.int x1), none, none] [] (n, σ, τ, θ)) : SMi G 1 mX1_invitedBits 0 0 [.ref f, .int x1] n σ τ θ q := SM.of _ rfl rfl (Nat.le_of_ble_eq_true rfl) h
set_option maxHeartbeats 4000000 in
set_option maxRecDepth 20000 in
theorem sgX1_invitedCount_0 {G : GG} {k : Nat} {q : Int32 → Nat → SG → TU → TH → Prop} {n : Nat} {σ : SG} {τ : TU} {θ : TH} (f : Nat)  (hk : 1 ≤ k) (hf : isF f) (hW : aw_WT n θ) (vc : SW G k mX1_invitedCount (aw_qi q) 0 0 4 [some (.ref f), some (.int (0 : Int32)), some (.int (0 : Int32))] [] (n, σ, τ, θ)) : SW G k mX1_invitedCount (aw_qi q) 0 0 0 [some (.ref f), none, none] [] (n, σ, τ, θ) := by
  refine SW.iconst (v := (0 : Int32)) dX1_invitedCount_0 (by decide) ?_
  refine SW.istore_n dX1_invitedCount_1 (by decide) rfl rfl ?_
  refine SW.iconst (v := (0 : Int32)) dX1_invitedCount_2 (by decide) ?_
  refine SW.istore_n dX1_invitedCount_3 (by decide) rfl rfl ?_
  exact vc
set_option maxHeartbeats 4000000 in
set_option maxRecDepth 20000 in
theorem sgX1_invitedCount_4 {G : GG} {k : Nat} {q : Int32 → Nat → SG → TU → TH → Prop} {n : Nat} {σ : SG} {τ : TU} {θ : TH} (f : Nat) (x1 : Int32) (x2 : Int32) (hk : 1 ≤ k) (hf : isF f) (hW : aw_WT n θ) (vc : (((σ f 13) ≤ x2) → (q x1 n σ τ θ)) ∧ ((¬ (σ f 13) ≤ x2) → (vp_in x2 5 ∧ ((((σ (f + 4) x2.toNatClampNeg) = (-1 : Int32)) → (SW G k mX1_invitedCount (aw_qi q) 0 0 4 [some (.ref f), some (.int x1), some (.int (x2 + (1 : Int32)))] [] (n, σ, τ, θ))) ∧ ((¬ (σ (f + 4) x2.toNatClampNeg) = (-1 : Int32)) → (SW G k mX1_invitedCount (aw_qi q) 0 0 4 [some (.ref f), some (.int (x1 + (1 : Int32))), some (.int (x2 + (1 : Int32)))] [] (n, σ, τ, θ))))))) : SW G k mX1_invitedCount (aw_qi q) 0 0 4 [some (.ref f), some (.int x1), some (.int x2)] [] (n, σ, τ, θ) := by
  refine SW.iload_n dX1_invitedCount_4 rfl ?_
  refine SW.aload_n dX1_invitedCount_5 rfl ?_
  refine SW.getI (f := 13) aw_cl1 (kpF_0 hf) (leF_0 hf).1 (hW.le (leF_0 hf).2) (by decide) ww_417 dX1_invitedCount_6 rfl ?_
  refine SW.icmp_ge 31 dX1_invitedCount_9 (by decide) (fun hbr => ?_) (fun hbr => ?_)
  · replace vc := vc.1 hbr
    refine SW.iload_n dX1_invitedCount_31 rfl ?_
    exact SW.iret dX1_invitedCount_32 rfl rfl ⟨_, rfl, vc⟩
  · replace vc := vc.2 hbr
    refine SW.aload_n dX1_invitedCount_12 rfl ?_
    refine SW.getS (f := 3) (r := f + 4) aw_cl1 (kpF_0 hf) (leF_0 hf).1 (hW.le (leF_0 hf).2) (by decide) ww_381 dX1_invitedCount_13 rfl (hW.f3 hf) ?_
    refine SW.iload_n dX1_invitedCount_16 rfl ?_
    refine SW.iald (kpF_4 hf) (leF_4 hf).1 (hW.le (leF_4 hf).2) vc.1 dX1_invitedCount_17 ?_
    replace vc := vc.2
    refine SW.iconst (v := (-1 : Int32)) dX1_invitedCount_18 (by decide) ?_
    refine SW.icmp_eq 25 dX1_invitedCount_19 (by decide) (fun hbr => ?_) (fun hbr => ?_)
    · replace vc := vc.1 hbr
      refine SW.iinc (v := (x2 + (1 : Int32))) dX1_invitedCount_25 rfl rfl (by decide) rfl rfl ?_
      refine SW.goto 4 dX1_invitedCount_28 (by decide) ?_
      exact vc
    · replace vc := vc.2 hbr
      refine SW.iinc (v := (x1 + (1 : Int32))) dX1_invitedCount_22 rfl rfl (by decide) rfl rfl ?_
      refine SW.iinc (v := (x2 + (1 : Int32))) dX1_invitedCount_25 rfl rfl (by decide) rfl rfl ?_
      refine SW.goto 4 dX1_invitedCount_28 (by decide) ?_
      exact vc
theorem ctX1_invitedCount {G : GG} {q : Int32 → Nat → SG → TU → TH → Prop} {n : Nat} {σ : SG} {τ : TU} {θ : TH} (f : Nat) (h : SW G 1 mX1_invitedCount (aw_qi q) 0 0 0 [some (.ref f), none, none] [] (n, σ, τ, θ)) : SMi G 1 mX1_invitedCount 0 0 [.ref f] n σ τ θ q := SM.of _ rfl rfl (Nat.le_of_ble_eq_true rfl) h
set_option maxHeartbeats 4000000 in
set_option maxRecDepth 20000 in
theorem sgX1_isDue_0 {G : GG} {k : Nat} {q : Int32 → Nat → SG → TU → TH → Prop} {n : Nat} {σ : SG} {τ : TU} {θ : TH} (f : Nat) (t1 : Nat) (x2 : Int32) (x3 : Int32) (hk : 1 ≤ k) (hf : isF f) (ht1 : isM t1) (hW : aw_WT n θ) (vc : vp_in x2 7 ∧ (((x3 < (σ (f + 12) x2.toNatClampNeg)) → (q (0 : Int32) n σ τ θ)) ∧ ((¬ x3 < (σ (f + 12) x2.toNatClampNeg)) → (vp_in x2 7 ∧ ((((σ (t1 + 2) x2.toNatClampNeg) ≤ 0) → (q (0 : Int32) n σ τ θ)) ∧ ((¬ (σ (t1 + 2) x2.toNatClampNeg) ≤ 0) → (q (1 : Int32) n σ τ θ))))))) : SW G k mX1_isDue (aw_qi q) 0 0 0 [some (.ref f), some (.ref t1), some (.int x2), some (.int x3)] [] (n, σ, τ, θ) := by
  refine SW.aload_n dX1_isDue_0 rfl ?_
  refine SW.getS (f := 7) (r := f + 8) aw_cl1 (kpF_0 hf) (leF_0 hf).1 (hW.le (leF_0 hf).2) (by decide) ww_393 dX1_isDue_1 rfl (hW.f7 hf) ?_
  refine SW.getS (f := 3) (r := f + 12) aw_cl0 (kpF_8 hf) (leF_8 hf).1 (hW.le (leF_8 hf).2) (by decide) ww_349 dX1_isDue_4 rfl (hW.f8_3 hf) ?_
  refine SW.iload_n dX1_isDue_7 rfl ?_
  refine SW.iald (kpF_12 hf) (leF_12 hf).1 (hW.le (leF_12 hf).2) vc.1 dX1_isDue_8 ?_
  replace vc := vc.2
  refine SW.iload_n dX1_isDue_9 rfl ?_
  refine SW.icmp_gt 26 dX1_isDue_10 (by decide) (fun hbr => ?_) (fun hbr => ?_)
  · replace vc := vc.1 hbr
    refine SW.iconst (v := (0 : Int32)) dX1_isDue_26 (by decide) ?_
    exact SW.iret dX1_isDue_27 rfl rfl ⟨_, rfl, vc⟩
  · replace vc := vc.2 hbr
    refine SW.aload_n dX1_isDue_13 rfl ?_
    refine SW.getS (f := 1) (r := t1 + 2) aw_cl2 (kpM_0 ht1) (leM_0 ht1).1 (hW.le (leM_0 ht1).2) (by decide) ww_196 dX1_isDue_14 rfl (hW.m1 ht1) ?_
    refine SW.iload_n dX1_isDue_17 rfl ?_
    refine SW.iald (kpM_2 ht1) (leM_2 ht1).1 (hW.le (leM_2 ht1).2) vc.1 dX1_isDue_18 ?_
    replace vc := vc.2
    refine SW.if_le 26 dX1_isDue_19 (by decide) (fun hbr => ?_) (fun hbr => ?_)
    · replace vc := vc.1 hbr
      refine SW.iconst (v := (0 : Int32)) dX1_isDue_26 (by decide) ?_
      exact SW.iret dX1_isDue_27 rfl rfl ⟨_, rfl, vc⟩
    · replace vc := vc.2 hbr
      refine SW.iconst (v := (1 : Int32)) dX1_isDue_22 (by decide) ?_
      refine SW.goto 27 dX1_isDue_23 (by decide) ?_
      exact SW.iret dX1_isDue_27 rfl rfl ⟨_, rfl, vc⟩
theorem ctX1_isDue {G : GG} {q : Int32 → Nat → SG → TU → TH → Prop} {n : Nat} {σ : SG} {τ : TU} {θ : TH} (f : Nat) (t1 : Nat) (x2 : Int32) (x3 : Int32) (h : SW G 1 mX1_isDue (aw_qi q) 0 0 0 [some (.ref f), some (.ref t1), some (.int x2), some (.int x3)] [] (n, σ, τ, θ)) : SMi G 1 mX1_isDue 0 0 [.ref f, .ref t1, .int x2, .int x3] n σ τ θ q := SM.of _ rfl rfl (Nat.le_of_ble_eq_true rfl) h
set_option maxHeartbeats 4000000 in
set_option maxRecDepth 20000 in
theorem sgX1_menWithin_0 {G : GG} {k : Nat} {q : Int32 → Nat → SG → TU → TH → Prop} {n : Nat} {σ : SG} {τ : TU} {θ : TH} (f : Nat) (t1 : Nat) (x2 : Int32) (hk : 4 ≤ k) (hf : isF f) (ht1 : isM t1) (hW : aw_WT n θ) (vc : SW G k mX1_menWithin (aw_qi q) 0 0 5 [some (.ref f), some (.ref t1), some (.int x2), some (.int (0 : Int32)), some (.int (0 : Int32))] [] (n, σ, τ, θ)) : SW G k mX1_menWithin (aw_qi q) 0 0 0 [some (.ref f), some (.ref t1), some (.int x2), none, none] [] (n, σ, τ, θ) := by
  refine SW.iconst (v := (0 : Int32)) dX1_menWithin_0 (by decide) ?_
  refine SW.istore_n dX1_menWithin_1 (by decide) rfl rfl ?_
  refine SW.iconst (v := (0 : Int32)) dX1_menWithin_2 (by decide) ?_
  refine SW.istore dX1_menWithin_3 (by decide) rfl rfl ?_
  exact vc
set_option maxHeartbeats 4000000 in
set_option maxRecDepth 20000 in
theorem sgX1_menWithin_5 {G : GG} {k : Nat} {q : Int32 → Nat → SG → TU → TH → Prop} {n : Nat} {σ : SG} {τ : TU} {θ : TH} (f : Nat) (t1 : Nat) (x2 : Int32) (x3 : Int32) (x4 : Int32) (hk : 4 ≤ k) (hf : isF f) (ht1 : isM t1) (hW : aw_WT n θ) (vc : (((σ f 13) ≤ x4) → (q x3 n σ τ θ)) ∧ ((¬ (σ f 13) ≤ x4) → (SMi G 3 mX1_headOf 0 0 [.ref f, .ref t1, .int x4, .int (σ t1 2)] n σ τ θ (fun a1 n1 σ1 τ1 θ1 => aw_WT n1 θ1 ∧ (((x2 < a1) → (SW G k mX1_menWithin (aw_qi q) 0 0 5 [some (.ref f), some (.ref t1), some (.int x2), some (.int x3), some (.int (x4 + (1 : Int32)))] [] (n1, σ1, τ1, θ1))) ∧ ((¬ x2 < a1) → (SW G k mX1_menWithin (aw_qi q) 0 0 5 [some (.ref f), some (.ref t1), some (.int x2), some (.int (x3 + (1 : Int32))), some (.int (x4 + (1 : Int32)))] [] (n1, σ1, τ1, θ1)))))))) : SW G k mX1_menWithin (aw_qi q) 0 0 5 [some (.ref f), some (.ref t1), some (.int x2), some (.int x3), some (.int x4)] [] (n, σ, τ, θ) := by
  refine SW.iload dX1_menWithin_5 rfl ?_
  refine SW.aload_n dX1_menWithin_7 rfl ?_
  refine SW.getI (f := 13) aw_cl1 (kpF_0 hf) (leF_0 hf).1 (hW.le (leF_0 hf).2) (by decide) ww_417 dX1_menWithin_8 rfl ?_
  refine SW.icmp_ge 38 dX1_menWithin_11 (by decide) (fun hbr => ?_) (fun hbr => ?_)
  · replace vc := vc.1 hbr
    refine SW.iload_n dX1_menWithin_38 rfl ?_
    exact SW.iret dX1_menWithin_39 rfl rfl ⟨_, rfl, vc⟩
  · replace vc := vc.2 hbr
    refine SW.aload_n dX1_menWithin_14 rfl ?_
    refine SW.aload_n dX1_menWithin_15 rfl ?_
    refine SW.iload dX1_menWithin_16 rfl ?_
    refine SW.aload_n dX1_menWithin_18 rfl ?_
    refine SW.getI (f := 2) aw_cl2 (kpM_0 ht1) (leM_0 ht1).1 (hW.le (leM_0 ht1).2) (by decide) ww_205 dX1_menWithin_19 rfl ?_
    refine SW.cvi3 kV_X1_97 (by omega) aw_cl1 (kpF_0 hf) (leF_0 hf).1 (hW.le (leF_0 hf).2) rfl (Nat.le_of_ble_eq_true rfl) dX1_menWithin_22 (SMi.mono vc ?_)
    intro a1 n1 σ1 τ1 θ1 vc
    obtain ⟨hW, vc⟩ := vc
    refine SW.iload_n dX1_menWithin_25 rfl ?_
    refine SW.icmp_gt 32 dX1_menWithin_26 (by decide) (fun hbr => ?_) (fun hbr => ?_)
    · replace vc := vc.1 hbr
      refine SW.iinc (v := (x4 + (1 : Int32))) dX1_menWithin_32 rfl rfl (by decide) rfl rfl ?_
      refine SW.goto 5 dX1_menWithin_35 (by decide) ?_
      exact vc
    · replace vc := vc.2 hbr
      refine SW.iinc (v := (x3 + (1 : Int32))) dX1_menWithin_29 rfl rfl (by decide) rfl rfl ?_
      refine SW.iinc (v := (x4 + (1 : Int32))) dX1_menWithin_32 rfl rfl (by decide) rfl rfl ?_
      refine SW.goto 5 dX1_menWithin_35 (by decide) ?_
      exact vc
theorem ctX1_menWithin {G : GG} {q : Int32 → Nat → SG → TU → TH → Prop} {n : Nat} {σ : SG} {τ : TU} {θ : TH} (f : Nat) (t1 : Nat) (x2 : Int32) (h : SW G 4 mX1_menWithin (aw_qi q) 0 0 0 [some (.ref f), some (.ref t1), some (.int x2), none, none] [] (n, σ, τ, θ)) : SMi G 4 mX1_menWithin 0 0 [.ref f, .ref t1, .int x2] n σ τ θ q := SM.of _ rfl rfl (Nat.le_of_ble_eq_true rfl) h
set_option maxHeartbeats 4000000 in
set_option maxRecDepth 20000 in
theorem sgX1_nextTineCosts_0 {G : GG} {k : Nat} {q : Int32 → Nat → SG → TU → TH → Prop} {n : Nat} {σ : SG} {τ : TU} {θ : TH} (f : Nat) (x1 : Int32) (hk : 1 ≤ k) (hf : isF f) (hW : aw_WT n θ) (vc : ((x1 ≤ 0) → (q (0 : Int32) n σ τ θ)) ∧ ((¬ x1 ≤ 0) → (((0 < (σ f 9)) → ((¬ (σ f 9) = 0) ∧ (q (((x1 - (1 : Int32)) - (x1 - (1 : Int32)) / (σ f 9) * (σ f 9)) + (1 : Int32)) n σ τ θ))) ∧ ((¬ 0 < (σ f 9)) → (q (0 : Int32) n σ τ θ))))) : SW G k mX1_nextTineCosts (aw_qi q) 0 0 0 [some (.ref f), some (.int x1)] [] (n, σ, τ, θ) := by
  refine SW.iload_n dX1_nextTineCosts_0 rfl ?_
  refine SW.if_le 11 dX1_nextTineCosts_1 (by decide) (fun hbr => ?_) (fun hbr => ?_)
  · replace vc := vc.1 hbr
    refine SW.iconst (v := (0 : Int32)) dX1_nextTineCosts_11 (by decide) ?_
    exact SW.iret dX1_nextTineCosts_12 rfl rfl ⟨_, rfl, vc⟩
  · replace vc := vc.2 hbr
    refine SW.aload_n dX1_nextTineCosts_4 rfl ?_
    refine SW.getI (f := 9) aw_cl1 (kpF_0 hf) (leF_0 hf).1 (hW.le (leF_0 hf).2) (by decide) ww_403 dX1_nextTineCosts_5 rfl ?_
    refine SW.if_gt 13 dX1_nextTineCosts_8 (by decide) (fun hbr => ?_) (fun hbr => ?_)
    · replace vc := vc.1 hbr
      refine SW.iload_n dX1_nextTineCosts_13 rfl ?_
      refine SW.iconst (v := (1 : Int32)) dX1_nextTineCosts_14 (by decide) ?_
      refine SW.isub dX1_nextTineCosts_15 ?_
      refine SW.aload_n dX1_nextTineCosts_16 rfl ?_
      refine SW.getI (f := 9) aw_cl1 (kpF_0 hf) (leF_0 hf).1 (hW.le (leF_0 hf).2) (by decide) ww_403 dX1_nextTineCosts_17 rfl ?_
      refine SW.irem dX1_nextTineCosts_20 vc.1 ?_
      replace vc := vc.2
      refine SW.iconst (v := (1 : Int32)) dX1_nextTineCosts_21 (by decide) ?_
      refine SW.iadd dX1_nextTineCosts_22 ?_
      exact SW.iret dX1_nextTineCosts_23 rfl rfl ⟨_, rfl, vc⟩
    · replace vc := vc.2 hbr
      refine SW.iconst (v := (0 : Int32)) dX1_nextTineCosts_11 (by decide) ?_
      exact SW.iret dX1_nextTineCosts_12 rfl rfl ⟨_, rfl, vc⟩
theorem ctX1_nextTineCosts {G : GG} {q : Int32 → Nat → SG → TU → TH → Prop} {n : Nat} {σ : SG} {τ : TU} {θ : TH} (f : Nat) (x1 : Int32) (h : SW G 1 mX1_nextTineCosts (aw_qi q) 0 0 0 [some (.ref f), some (.int x1)] [] (n, σ, τ, θ)) : SMi G 1 mX1_nextTineCosts 0 0 [.ref f, .int x1] n σ τ θ q := SM.of _ rfl rfl (Nat.le_of_ble_eq_true rfl) h
set_option maxHeartbeats 4000000 in
set_option maxRecDepth 20000 in
theorem sgX1_owedBits_0 {G : GG} {k : Nat} {q : Int32 → Nat → SG → TU → TH → Prop} {n : Nat} {σ : SG} {τ : TU} {θ : TH} (f : Nat) (t1 : Nat) (x2 : Int32) (hk : 2 ≤ k) (hf : isF f) (ht1 : isM t1) (hW : aw_WT n θ) (vc : SW G k mX1_owedBits (aw_qi q) 0 0 5 [some (.ref f), some (.ref t1), some (.int x2), some (.int (0 : Int32)), some (.int (0 : Int32))] [] (n, σ, τ, θ)) : SW G k mX1_owedBits (aw_qi q) 0 0 0 [some (.ref f), some (.ref t1), some (.int x2), none, none] [] (n, σ, τ, θ) := by
  refine SW.iconst (v := (0 : Int32)) dX1_owedBits_0 (by decide) ?_
  refine SW.istore_n dX1_owedBits_1 (by decide) rfl rfl ?_
  refine SW.iconst (v := (0 : Int32)) dX1_owedBits_2 (by decide) ?_
  refine SW.istore dX1_owedBits_3 (by decide) rfl rfl ?_
  exact vc
set_option maxHeartbeats 4000000 in
set_option maxRecDepth 20000 in
theorem sgX1_owedBits_5 {G : GG} {k : Nat} {q : Int32 → Nat → SG → TU → TH → Prop} {n : Nat} {σ : SG} {τ : TU} {θ : TH} (f : Nat) (t1 : Nat) (x2 : Int32) (x3 : Int32) (x4 : Int32) (hk : 2 ≤ k) (hf : isF f) (ht1 : isM t1) (hW : aw_WT n θ) (vc : (((σ (f + 8) 4) ≤ x4) → (q x3 n σ τ θ)) ∧ ((¬ (σ (f + 8) 4) ≤ x4) → (vp_in x4 7 ∧ (((¬ (σ (f + 9) x4.toNatClampNeg) = x2) → (SW G k mX1_owedBits (aw_qi q) 0 0 5 [some (.ref f), some (.ref t1), some (.int x2), some (.int x3), some (.int (x4 + (1 : Int32)))] [] (n, σ, τ, θ))) ∧ (((σ (f + 9) x4.toNatClampNeg) = x2) → (SMi G 1 mX1_isDue 0 0 [.ref f, .ref t1, .int x4, .int (σ t1 2)] n σ τ θ (fun a1 n1 σ1 τ1 θ1 => aw_WT n1 θ1 ∧ (((a1 = 0) → (SW G k mX1_owedBits (aw_qi q) 0 0 5 [some (.ref f), some (.ref t1), some (.int x2), some (.int x3), some (.int (x4 + (1 : Int32)))] [] (n1, σ1, τ1, θ1))) ∧ ((¬ a1 = 0) → (vp_in x4 7 ∧ (SW G k mX1_owedBits (aw_qi q) 0 0 5 [some (.ref f), some (.ref t1), some (.int x2), some (.int (x3 ||| ((1 : Int32) <<< ((σ1 (f + 10) x4.toNatClampNeg) &&& 31)))), some (.int (x4 + (1 : Int32)))] [] (n1, σ1, τ1, θ1)))))))))))) : SW G k mX1_owedBits (aw_qi q) 0 0 5 [some (.ref f), some (.ref t1), some (.int x2), some (.int x3), some (.int x4)] [] (n, σ, τ, θ) := by
  refine SW.iload dX1_owedBits_5 rfl ?_
  refine SW.aload_n dX1_owedBits_7 rfl ?_
  refine SW.getS (f := 7) (r := f + 8) aw_cl1 (kpF_0 hf) (leF_0 hf).1 (hW.le (leF_0 hf).2) (by decide) ww_393 dX1_owedBits_8 rfl (hW.f7 hf) ?_
  refine SW.getI (f := 4) aw_cl0 (kpF_8 hf) (leF_8 hf).1 (hW.le (leF_8 hf).2) (by decide) ww_354 dX1_owedBits_11 rfl ?_
  refine SW.icmp_ge 66 dX1_owedBits_14 (by decide) (fun hbr => ?_) (fun hbr => ?_)
  · replace vc := vc.1 hbr
    refine SW.iload_n dX1_owedBits_66 rfl ?_
    exact SW.iret dX1_owedBits_67 rfl rfl ⟨_, rfl, vc⟩
  · replace vc := vc.2 hbr
    refine SW.aload_n dX1_owedBits_17 rfl ?_
    refine SW.getS (f := 7) (r := f + 8) aw_cl1 (kpF_0 hf) (leF_0 hf).1 (hW.le (leF_0 hf).2) (by decide) ww_393 dX1_owedBits_18 rfl (hW.f7 hf) ?_
    refine SW.getS (f := 0) (r := f + 9) aw_cl0 (kpF_8 hf) (leF_8 hf).1 (hW.le (leF_8 hf).2) (by decide) ww_335 dX1_owedBits_21 rfl (hW.f8_0 hf) ?_
    refine SW.iload dX1_owedBits_24 rfl ?_
    refine SW.iald (kpF_9 hf) (leF_9 hf).1 (hW.le (leF_9 hf).2) vc.1 dX1_owedBits_26 ?_
    replace vc := vc.2
    refine SW.iload_n dX1_owedBits_27 rfl ?_
    refine SW.icmp_ne 60 dX1_owedBits_28 (by decide) (fun hbr => ?_) (fun hbr => ?_)
    · replace vc := vc.1 hbr
      refine SW.iinc (v := (x4 + (1 : Int32))) dX1_owedBits_60 rfl rfl (by decide) rfl rfl ?_
      refine SW.goto 5 dX1_owedBits_63 (by decide) ?_
      exact vc
    · replace vc := vc.2 hbr
      refine SW.aload_n dX1_owedBits_31 rfl ?_
      refine SW.aload_n dX1_owedBits_32 rfl ?_
      refine SW.iload dX1_owedBits_33 rfl ?_
      refine SW.aload_n dX1_owedBits_35 rfl ?_
      refine SW.getI (f := 2) aw_cl2 (kpM_0 ht1) (leM_0 ht1).1 (hW.le (leM_0 ht1).2) (by decide) ww_205 dX1_owedBits_36 rfl ?_
      refine SW.cvi3 kV_X1_78 (by omega) aw_cl1 (kpF_0 hf) (leF_0 hf).1 (hW.le (leF_0 hf).2) rfl (Nat.le_of_ble_eq_true rfl) dX1_owedBits_39 (SMi.mono vc ?_)
      intro a1 n1 σ1 τ1 θ1 vc
      obtain ⟨hW, vc⟩ := vc
      refine SW.if_eq 60 dX1_owedBits_42 (by decide) (fun hbr => ?_) (fun hbr => ?_)
      · replace vc := vc.1 hbr
        refine SW.iinc (v := (x4 + (1 : Int32))) dX1_owedBits_60 rfl rfl (by decide) rfl rfl ?_
        refine SW.goto 5 dX1_owedBits_63 (by decide) ?_
        exact vc
      · replace vc := vc.2 hbr
        refine SW.iload_n dX1_owedBits_45 rfl ?_
        refine SW.iconst (v := (1 : Int32)) dX1_owedBits_46 (by decide) ?_
        refine SW.aload_n dX1_owedBits_47 rfl ?_
        refine SW.getS (f := 7) (r := f + 8) aw_cl1 (kpF_0 hf) (leF_0 hf).1 (hW.le (leF_0 hf).2) (by decide) ww_393 dX1_owedBits_48 rfl (hW.f7 hf) ?_
        refine SW.getS (f := 1) (r := f + 10) aw_cl0 (kpF_8 hf) (leF_8 hf).1 (hW.le (leF_8 hf).2) (by decide) ww_342 dX1_owedBits_51 rfl (hW.f8_1 hf) ?_
        refine SW.iload dX1_owedBits_54 rfl ?_
        refine SW.iald (kpF_10 hf) (leF_10 hf).1 (hW.le (leF_10 hf).2) vc.1 dX1_owedBits_56 ?_
        replace vc := vc.2
        refine SW.ishl dX1_owedBits_57 ?_
        refine SW.ior dX1_owedBits_58 ?_
        refine SW.istore_n dX1_owedBits_59 (by decide) rfl rfl ?_
        refine SW.iinc (v := (x4 + (1 : Int32))) dX1_owedBits_60 rfl rfl (by decide) rfl rfl ?_
        refine SW.goto 5 dX1_owedBits_63 (by decide) ?_
        exact vc
theorem ctX1_owedBits {G : GG} {q : Int32 → Nat → SG → TU → TH → Prop} {n : Nat} {σ : SG} {τ : TU} {θ : TH} (f : Nat) (t1 : Nat) (x2 : Int32) (h : SW G 2 mX1_owedBits (aw_qi q) 0 0 0 [some (.ref f), some (.ref t1), some (.int x2), none, none] [] (n, σ, τ, θ)) : SMi G 2 mX1_owedBits 0 0 [.ref f, .ref t1, .int x2] n σ τ θ q := SM.of _ rfl rfl (Nat.le_of_ble_eq_true rfl) h
set_option maxHeartbeats 4000000 in
set_option maxRecDepth 20000 in
theorem sgX1_passes_0 {G : GG} {k : Nat} {q : Int32 → Nat → SG → TU → TH → Prop} {n : Nat} {σ : SG} {τ : TU} {θ : TH} (f : Nat) (t1 : Nat) (x2 : Int32) (x3 : Int32) (hk : 4 ≤ k) (hf : isF f) (ht1 : isM t1) (hW : aw_WT n θ) (vc : SMi G 3 mX1_headOf 0 0 [.ref f, .ref t1, .int x2, .int (σ t1 2)] n σ τ θ (fun a1 n1 σ1 τ1 θ1 => aw_WT n1 θ1 ∧ (vp_in x3 4 ∧ ((((σ1 (f + 5) x3.toNatClampNeg) < a1) → (q (0 : Int32) n1 σ1 τ1 θ1)) ∧ ((¬ (σ1 (f + 5) x3.toNatClampNeg) < a1) → (q (1 : Int32) n1 σ1 τ1 θ1)))))) : SW G k mX1_passes (aw_qi q) 0 0 0 [some (.ref f), some (.ref t1), some (.int x2), some (.int x3)] [] (n, σ, τ, θ) := by
  refine SW.aload_n dX1_passes_0 rfl ?_
  refine SW.aload_n dX1_passes_1 rfl ?_
  refine SW.iload_n dX1_passes_2 rfl ?_
  refine SW.aload_n dX1_passes_3 rfl ?_
  refine SW.getI (f := 2) aw_cl2 (kpM_0 ht1) (leM_0 ht1).1 (hW.le (leM_0 ht1).2) (by decide) ww_205 dX1_passes_4 rfl ?_
  refine SW.cvi3 kV_X1_97 (by omega) aw_cl1 (kpF_0 hf) (leF_0 hf).1 (hW.le (leF_0 hf).2) rfl (Nat.le_of_ble_eq_true rfl) dX1_passes_7 (SMi.mono vc ?_)
  intro a1 n1 σ1 τ1 θ1 vc
  obtain ⟨hW, vc⟩ := vc
  refine SW.aload_n dX1_passes_10 rfl ?_
  refine SW.getS (f := 4) (r := f + 5) aw_cl1 (kpF_0 hf) (leF_0 hf).1 (hW.le (leF_0 hf).2) (by decide) ww_384 dX1_passes_11 rfl (hW.f4 hf) ?_
  refine SW.iload_n dX1_passes_14 rfl ?_
  refine SW.iald (kpF_5 hf) (leF_5 hf).1 (hW.le (leF_5 hf).2) vc.1 dX1_passes_15 ?_
  replace vc := vc.2
  refine SW.icmp_gt 23 dX1_passes_16 (by decide) (fun hbr => ?_) (fun hbr => ?_)
  · replace vc := vc.1 hbr
    refine SW.iconst (v := (0 : Int32)) dX1_passes_23 (by decide) ?_
    exact SW.iret dX1_passes_24 rfl rfl ⟨_, rfl, vc⟩
  · replace vc := vc.2 hbr
    refine SW.iconst (v := (1 : Int32)) dX1_passes_19 (by decide) ?_
    refine SW.goto 24 dX1_passes_20 (by decide) ?_
    exact SW.iret dX1_passes_24 rfl rfl ⟨_, rfl, vc⟩
theorem ctX1_passes {G : GG} {q : Int32 → Nat → SG → TU → TH → Prop} {n : Nat} {σ : SG} {τ : TU} {θ : TH} (f : Nat) (t1 : Nat) (x2 : Int32) (x3 : Int32) (h : SW G 4 mX1_passes (aw_qi q) 0 0 0 [some (.ref f), some (.ref t1), some (.int x2), some (.int x3)] [] (n, σ, τ, θ)) : SMi G 4 mX1_passes 0 0 [.ref f, .ref t1, .int x2, .int x3] n σ τ θ q := SM.of _ rfl rfl (Nat.le_of_ble_eq_true rfl) h
set_option maxHeartbeats 4000000 in
set_option maxRecDepth 20000 in
theorem sgX1_passingBits_0 {G : GG} {k : Nat} {q : Int32 → Nat → SG → TU → TH → Prop} {n : Nat} {σ : SG} {τ : TU} {θ : TH} (f : Nat) (t1 : Nat) (x2 : Int32) (hk : 5 ≤ k) (hf : isF f) (ht1 : isM t1) (hW : aw_WT n θ) (vc : SW G k mX1_passingBits (aw_qi q) 0 0 5 [some (.ref f), some (.ref t1), some (.int x2), some (.int (0 : Int32)), some (.int (0 : Int32))] [] (n, σ, τ, θ)) : SW G k mX1_passingBits (aw_qi q) 0 0 0 [some (.ref f), some (.ref t1), some (.int x2), none, none] [] (n, σ, τ, θ) := by
  refine SW.iconst (v := (0 : Int32)) dX1_passingBits_0 (by decide) ?_
  refine SW.istore_n dX1_passingBits_1 (by decide) rfl rfl ?_
  refine SW.iconst (v := (0 : Int32)) dX1_passingBits_2 (by decide) ?_
  refine SW.istore dX1_passingBits_3 (by decide) rfl rfl ?_
  exact vc
set_option maxHeartbeats 4000000 in
set_option maxRecDepth 20000 in
theorem sgX1_passingBits_5 {G : GG} {k : Nat} {q : Int32 → Nat → SG → TU → TH → Prop} {n : Nat} {σ : SG} {τ : TU} {θ : TH} (f : Nat) (t1 : Nat) (x2 : Int32) (x3 : Int32) (x4 : Int32) (hk : 5 ≤ k) (hf : isF f) (ht1 : isM t1) (hW : aw_WT n θ) (vc : (((σ f 13) ≤ x4) → (q x3 n σ τ θ)) ∧ ((¬ (σ f 13) ≤ x4) → (SMi G 4 mX1_passes 0 0 [.ref f, .ref t1, .int x4, .int x2] n σ τ θ (fun a1 n1 σ1 τ1 θ1 => aw_WT n1 θ1 ∧ (((a1 = 0) → (SW G k mX1_passingBits (aw_qi q) 0 0 5 [some (.ref f), some (.ref t1), some (.int x2), some (.int x3), some (.int (x4 + (1 : Int32)))] [] (n1, σ1, τ1, θ1))) ∧ ((¬ a1 = 0) → (SW G k mX1_passingBits (aw_qi q) 0 0 5 [some (.ref f), some (.ref t1), some (.int x2), some (.int (x3 ||| ((1 : Int32) <<< (x4 &&& 31)))), some (.int (x4 + (1 : Int32)))] [] (n1, σ1, τ1, θ1)))))))) : SW G k mX1_passingBits (aw_qi q) 0 0 5 [some (.ref f), some (.ref t1), some (.int x2), some (.int x3), some (.int x4)] [] (n, σ, τ, θ) := by
  refine SW.iload dX1_passingBits_5 rfl ?_
  refine SW.aload_n dX1_passingBits_7 rfl ?_
  refine SW.getI (f := 13) aw_cl1 (kpF_0 hf) (leF_0 hf).1 (hW.le (leF_0 hf).2) (by decide) ww_417 dX1_passingBits_8 rfl ?_
  refine SW.icmp_ge 38 dX1_passingBits_11 (by decide) (fun hbr => ?_) (fun hbr => ?_)
  · replace vc := vc.1 hbr
    refine SW.iload_n dX1_passingBits_38 rfl ?_
    exact SW.iret dX1_passingBits_39 rfl rfl ⟨_, rfl, vc⟩
  · replace vc := vc.2 hbr
    refine SW.aload_n dX1_passingBits_14 rfl ?_
    refine SW.aload_n dX1_passingBits_15 rfl ?_
    refine SW.iload dX1_passingBits_16 rfl ?_
    refine SW.iload_n dX1_passingBits_18 rfl ?_
    refine SW.cvi3 kV_X1_105 (by omega) aw_cl1 (kpF_0 hf) (leF_0 hf).1 (hW.le (leF_0 hf).2) rfl (Nat.le_of_ble_eq_true rfl) dX1_passingBits_19 (SMi.mono vc ?_)
    intro a1 n1 σ1 τ1 θ1 vc
    obtain ⟨hW, vc⟩ := vc
    refine SW.if_eq 32 dX1_passingBits_22 (by decide) (fun hbr => ?_) (fun hbr => ?_)
    · replace vc := vc.1 hbr
      refine SW.iinc (v := (x4 + (1 : Int32))) dX1_passingBits_32 rfl rfl (by decide) rfl rfl ?_
      refine SW.goto 5 dX1_passingBits_35 (by decide) ?_
      exact vc
    · replace vc := vc.2 hbr
      refine SW.iload_n dX1_passingBits_25 rfl ?_
      refine SW.iconst (v := (1 : Int32)) dX1_passingBits_26 (by decide) ?_
      refine SW.iload dX1_passingBits_27 rfl ?_
      refine SW.ishl dX1_passingBits_29 ?_
      refine SW.ior dX1_passingBits_30 ?_
      refine SW.istore_n dX1_passingBits_31 (by decide) rfl rfl ?_
      refine SW.iinc (v := (x4 + (1 : Int32))) dX1_passingBits_32 rfl rfl (by decide) rfl rfl ?_
      refine SW.goto 5 dX1_passingBits_35 (by decide) ?_
      exact vc
theorem ctX1_passingBits {G : GG} {q : Int32 → Nat → SG → TU → TH → Prop} {n : Nat} {σ : SG} {τ : TU} {θ : TH} (f : Nat) (t1 : Nat) (x2 : Int32) (h : SW G 5 mX1_passingBits (aw_qi q) 0 0 0 [some (.ref f), some (.ref t1), some (.int x2), none, none] [] (n, σ, τ, θ)) : SMi G 5 mX1_passingBits 0 0 [.ref f, .ref t1, .int x2] n σ τ θ q := SM.of _ rfl rfl (Nat.le_of_ble_eq_true rfl) h
set_option maxHeartbeats 4000000 in
set_option maxRecDepth 20000 in
theorem sgX1_readingWeight_0 {G : GG} {k : Nat} {q : Int32 → Nat → SG → TU → TH → Prop} {n : Nat} {σ : SG} {τ : TU} {θ : TH} (f : Nat) (x1 : Int32) (x2 : Int32) (hk : 1 ≤ k) (hf : isF f) (hW : aw_WT n θ) (vc : vp_in x1 4 ∧ (((¬ ((σ (f + 7) x1.toNatClampNeg) - x2) = 0) → (((¬ x2 = 0) → (((((σ (f + 7) x1.toNatClampNeg) - x2) = (1 : Int32)) → (q (σ f 10) n σ τ θ)) ∧ ((¬ ((σ (f + 7) x1.toNatClampNeg) - x2) = (1 : Int32)) → (((¬ ((σ (f + 7) x1.toNatClampNeg) - x2) = (-1 : Int32)) → (q (0 : Int32) n σ τ θ)) ∧ ((((σ (f + 7) x1.toNatClampNeg) - x2) = (-1 : Int32)) → (q (σ f 10) n σ τ θ)))))) ∧ ((x2 = 0) → (((¬ ((σ (f + 7) x1.toNatClampNeg) - x2) = (1 : Int32)) → (q (0 : Int32) n σ τ θ)) ∧ ((((σ (f + 7) x1.toNatClampNeg) - x2) = (1 : Int32)) → (q ((2 : Int32) * (σ f 10)) n σ τ θ)))))) ∧ ((((σ (f + 7) x1.toNatClampNeg) - x2) = 0) → (q ((200 : Int32) - ((2 : Int32) * (σ f 10))) n σ τ θ)))) : SW G k mX1_readingWeight (aw_qi q) 0 0 0 [some (.ref f), some (.int x1), some (.int x2), none] [] (n, σ, τ, θ) := by
  refine SW.aload_n dX1_readingWeight_0 rfl ?_
  refine SW.getS (f := 6) (r := f + 7) aw_cl1 (kpF_0 hf) (leF_0 hf).1 (hW.le (leF_0 hf).2) (by decide) ww_391 dX1_readingWeight_1 rfl (hW.f6 hf) ?_
  refine SW.iload_n dX1_readingWeight_4 rfl ?_
  refine SW.iald (kpF_7 hf) (leF_7 hf).1 (hW.le (leF_7 hf).2) vc.1 dX1_readingWeight_5 ?_
  replace vc := vc.2
  refine SW.iload_n dX1_readingWeight_6 rfl ?_
  refine SW.isub dX1_readingWeight_7 ?_
  refine SW.istore_n dX1_readingWeight_8 (by decide) rfl rfl ?_
  refine SW.iload_n dX1_readingWeight_9 rfl ?_
  refine SW.if_ne 24 dX1_readingWeight_10 (by decide) (fun hbr => ?_) (fun hbr => ?_)
  · replace vc := vc.1 hbr
    refine SW.iload_n dX1_readingWeight_24 rfl ?_
    refine SW.if_ne 44 dX1_readingWeight_25 (by decide) (fun hbr => ?_) (fun hbr => ?_)
    · replace vc := vc.1 hbr
      refine SW.iload_n dX1_readingWeight_44 rfl ?_
      refine SW.iconst (v := (1 : Int32)) dX1_readingWeight_45 (by decide) ?_
      refine SW.icmp_eq 54 dX1_readingWeight_46 (by decide) (fun hbr => ?_) (fun hbr => ?_)
      · replace vc := vc.1 hbr
        refine SW.aload_n dX1_readingWeight_54 rfl ?_
        refine SW.getI (f := 10) aw_cl1 (kpF_0 hf) (leF_0 hf).1 (hW.le (leF_0 hf).2) (by decide) ww_407 dX1_readingWeight_55 rfl ?_
        refine SW.goto 62 dX1_readingWeight_58 (by decide) ?_
        exact SW.iret dX1_readingWeight_62 rfl rfl ⟨_, rfl, vc⟩
      · replace vc := vc.2 hbr
        refine SW.iload_n dX1_readingWeight_49 rfl ?_
        refine SW.iconst (v := (-1 : Int32)) dX1_readingWeight_50 (by decide) ?_
        refine SW.icmp_ne 61 dX1_readingWeight_51 (by decide) (fun hbr => ?_) (fun hbr => ?_)
        · replace vc := vc.1 hbr
          refine SW.iconst (v := (0 : Int32)) dX1_readingWeight_61 (by decide) ?_
          exact SW.iret dX1_readingWeight_62 rfl rfl ⟨_, rfl, vc⟩
        · replace vc := vc.2 hbr
          refine SW.aload_n dX1_readingWeight_54 rfl ?_
          refine SW.getI (f := 10) aw_cl1 (kpF_0 hf) (leF_0 hf).1 (hW.le (leF_0 hf).2) (by decide) ww_407 dX1_readingWeight_55 rfl ?_
          refine SW.goto 62 dX1_readingWeight_58 (by decide) ?_
          exact SW.iret dX1_readingWeight_62 rfl rfl ⟨_, rfl, vc⟩
    · replace vc := vc.2 hbr
      refine SW.iload_n dX1_readingWeight_28 rfl ?_
      refine SW.iconst (v := (1 : Int32)) dX1_readingWeight_29 (by decide) ?_
      refine SW.icmp_ne 42 dX1_readingWeight_30 (by decide) (fun hbr => ?_) (fun hbr => ?_)
      · replace vc := vc.1 hbr
        refine SW.iconst (v := (0 : Int32)) dX1_readingWeight_42 (by decide) ?_
        exact SW.iret dX1_readingWeight_43 rfl rfl ⟨_, rfl, vc⟩
      · replace vc := vc.2 hbr
        refine SW.iconst (v := (2 : Int32)) dX1_readingWeight_33 (by decide) ?_
        refine SW.aload_n dX1_readingWeight_34 rfl ?_
        refine SW.getI (f := 10) aw_cl1 (kpF_0 hf) (leF_0 hf).1 (hW.le (leF_0 hf).2) (by decide) ww_407 dX1_readingWeight_35 rfl ?_
        refine SW.imul dX1_readingWeight_38 ?_
        refine SW.goto 43 dX1_readingWeight_39 (by decide) ?_
        exact SW.iret dX1_readingWeight_43 rfl rfl ⟨_, rfl, vc⟩
  · replace vc := vc.2 hbr
    refine SW.sipush (v := (200 : Int32)) dX1_readingWeight_13 (by decide) ?_
    refine SW.iconst (v := (2 : Int32)) dX1_readingWeight_16 (by decide) ?_
    refine SW.aload_n dX1_readingWeight_17 rfl ?_
    refine SW.getI (f := 10) aw_cl1 (kpF_0 hf) (leF_0 hf).1 (hW.le (leF_0 hf).2) (by decide) ww_407 dX1_readingWeight_18 rfl ?_
    refine SW.imul dX1_readingWeight_21 ?_
    refine SW.isub dX1_readingWeight_22 ?_
    exact SW.iret dX1_readingWeight_23 rfl rfl ⟨_, rfl, vc⟩
theorem ctX1_readingWeight {G : GG} {q : Int32 → Nat → SG → TU → TH → Prop} {n : Nat} {σ : SG} {τ : TU} {θ : TH} (f : Nat) (x1 : Int32) (x2 : Int32) (h : SW G 1 mX1_readingWeight (aw_qi q) 0 0 0 [some (.ref f), some (.int x1), some (.int x2), none] [] (n, σ, τ, θ)) : SMi G 1 mX1_readingWeight 0 0 [.ref f, .int x1, .int x2] n σ τ θ q := SM.of _ rfl rfl (Nat.le_of_ble_eq_true rfl) h
set_option maxHeartbeats 4000000 in
set_option maxRecDepth 20000 in
theorem sgX1_tinesFor_0 {G : GG} {k : Nat} {q : Int32 → Nat → SG → TU → TH → Prop} {n : Nat} {σ : SG} {τ : TU} {θ : TH} (f : Nat) (x1 : Int32) (hk : 1 ≤ k) (hf : isF f) (hW : aw_WT n θ) (vc : ((x1 ≤ 0) → (q (0 : Int32) n σ τ θ)) ∧ ((¬ x1 ≤ 0) → (((0 < (σ f 9)) → ((¬ (σ f 9) = 0) ∧ (q (((x1 + (σ f 9)) - (1 : Int32)) / (σ f 9)) n σ τ θ))) ∧ ((¬ 0 < (σ f 9)) → (q (0 : Int32) n σ τ θ))))) : SW G k mX1_tinesFor (aw_qi q) 0 0 0 [some (.ref f), some (.int x1)] [] (n, σ, τ, θ) := by
  refine SW.iload_n dX1_tinesFor_0 rfl ?_
  refine SW.if_le 11 dX1_tinesFor_1 (by decide) (fun hbr => ?_) (fun hbr => ?_)
  · replace vc := vc.1 hbr
    refine SW.iconst (v := (0 : Int32)) dX1_tinesFor_11 (by decide) ?_
    exact SW.iret dX1_tinesFor_12 rfl rfl ⟨_, rfl, vc⟩
  · replace vc := vc.2 hbr
    refine SW.aload_n dX1_tinesFor_4 rfl ?_
    refine SW.getI (f := 9) aw_cl1 (kpF_0 hf) (leF_0 hf).1 (hW.le (leF_0 hf).2) (by decide) ww_403 dX1_tinesFor_5 rfl ?_
    refine SW.if_gt 13 dX1_tinesFor_8 (by decide) (fun hbr => ?_) (fun hbr => ?_)
    · replace vc := vc.1 hbr
      refine SW.iload_n dX1_tinesFor_13 rfl ?_
      refine SW.aload_n dX1_tinesFor_14 rfl ?_
      refine SW.getI (f := 9) aw_cl1 (kpF_0 hf) (leF_0 hf).1 (hW.le (leF_0 hf).2) (by decide) ww_403 dX1_tinesFor_15 rfl ?_
      refine SW.iadd dX1_tinesFor_18 ?_
      refine SW.iconst (v := (1 : Int32)) dX1_tinesFor_19 (by decide) ?_
      refine SW.isub dX1_tinesFor_20 ?_
      refine SW.aload_n dX1_tinesFor_21 rfl ?_
      refine SW.getI (f := 9) aw_cl1 (kpF_0 hf) (leF_0 hf).1 (hW.le (leF_0 hf).2) (by decide) ww_403 dX1_tinesFor_22 rfl ?_
      refine SW.idiv dX1_tinesFor_25 vc.1 ?_
      replace vc := vc.2
      exact SW.iret dX1_tinesFor_26 rfl rfl ⟨_, rfl, vc⟩
    · replace vc := vc.2 hbr
      refine SW.iconst (v := (0 : Int32)) dX1_tinesFor_11 (by decide) ?_
      exact SW.iret dX1_tinesFor_12 rfl rfl ⟨_, rfl, vc⟩
theorem ctX1_tinesFor {G : GG} {q : Int32 → Nat → SG → TU → TH → Prop} {n : Nat} {σ : SG} {τ : TU} {θ : TH} (f : Nat) (x1 : Int32) (h : SW G 1 mX1_tinesFor (aw_qi q) 0 0 0 [some (.ref f), some (.int x1)] [] (n, σ, τ, θ)) : SMi G 1 mX1_tinesFor 0 0 [.ref f, .int x1] n σ τ θ q := SM.of _ rfl rfl (Nat.le_of_ble_eq_true rfl) h
set_option maxHeartbeats 4000000 in
set_option maxRecDepth 20000 in
theorem sgX1_tinesOf_0 {G : GG} {k : Nat} {q : Int32 → Nat → SG → TU → TH → Prop} {n : Nat} {σ : SG} {τ : TU} {θ : TH} (f : Nat) (t1 : Nat) (x2 : Int32) (x3 : Int32) (hk : 2 ≤ k) (hf : isF f) (ht1 : isM t1) (hW : aw_WT n θ) (vc : SMi G 1 mX1_isDue 0 0 [.ref f, .ref t1, .int x2, .int x3] n σ τ θ (fun a1 n1 σ1 τ1 θ1 => aw_WT n1 θ1 ∧ (((a1 = 0) → (q (0 : Int32) n1 σ1 τ1 θ1)) ∧ ((¬ a1 = 0) → (vp_in x2 7 ∧ (SMi G 1 mX1_tinesFor 0 0 [.ref f, .int (σ1 (t1 + 2) x2.toNatClampNeg)] n1 σ1 τ1 θ1 (fun a2 n2 σ2 τ2 θ2 => aw_WT n2 θ2 ∧ (q a2 n2 σ2 τ2 θ2)))))))) : SW G k mX1_tinesOf (aw_qi q) 0 0 0 [some (.ref f), some (.ref t1), some (.int x2), some (.int x3)] [] (n, σ, τ, θ) := by
  refine SW.aload_n dX1_tinesOf_0 rfl ?_
  refine SW.aload_n dX1_tinesOf_1 rfl ?_
  refine SW.iload_n dX1_tinesOf_2 rfl ?_
  refine SW.iload_n dX1_tinesOf_3 rfl ?_
  refine SW.cvi3 kV_X1_78 (by omega) aw_cl1 (kpF_0 hf) (leF_0 hf).1 (hW.le (leF_0 hf).2) rfl (Nat.le_of_ble_eq_true rfl) dX1_tinesOf_4 (SMi.mono vc ?_)
  intro a1 n1 σ1 τ1 θ1 vc
  obtain ⟨hW, vc⟩ := vc
  refine SW.if_eq 23 dX1_tinesOf_7 (by decide) (fun hbr => ?_) (fun hbr => ?_)
  · replace vc := vc.1 hbr
    refine SW.iconst (v := (0 : Int32)) dX1_tinesOf_23 (by decide) ?_
    exact SW.iret dX1_tinesOf_24 rfl rfl ⟨_, rfl, vc⟩
  · replace vc := vc.2 hbr
    refine SW.aload_n dX1_tinesOf_10 rfl ?_
    refine SW.aload_n dX1_tinesOf_11 rfl ?_
    refine SW.getS (f := 1) (r := t1 + 2) aw_cl2 (kpM_0 ht1) (leM_0 ht1).1 (hW.le (leM_0 ht1).2) (by decide) ww_196 dX1_tinesOf_12 rfl (hW.m1 ht1) ?_
    refine SW.iload_n dX1_tinesOf_15 rfl ?_
    refine SW.iald (kpM_2 ht1) (leM_2 ht1).1 (hW.le (leM_2 ht1).2) vc.1 dX1_tinesOf_16 ?_
    replace vc := vc.2
    refine SW.cvi1 kV_X1_82 (by omega) aw_cl1 (kpF_0 hf) (leF_0 hf).1 (hW.le (leF_0 hf).2) rfl (Nat.le_of_ble_eq_true rfl) dX1_tinesOf_17 (SMi.mono vc ?_)
    intro a2 n2 σ2 τ2 θ2 vc
    obtain ⟨hW, vc⟩ := vc
    refine SW.goto 24 dX1_tinesOf_20 (by decide) ?_
    exact SW.iret dX1_tinesOf_24 rfl rfl ⟨_, rfl, vc⟩
theorem ctX1_tinesOf {G : GG} {q : Int32 → Nat → SG → TU → TH → Prop} {n : Nat} {σ : SG} {τ : TU} {θ : TH} (f : Nat) (t1 : Nat) (x2 : Int32) (x3 : Int32) (h : SW G 2 mX1_tinesOf (aw_qi q) 0 0 0 [some (.ref f), some (.ref t1), some (.int x2), some (.int x3)] [] (n, σ, τ, θ)) : SMi G 2 mX1_tinesOf 0 0 [.ref f, .ref t1, .int x2, .int x3] n σ τ θ q := SM.of _ rfl rfl (Nat.le_of_ble_eq_true rfl) h
set_option maxHeartbeats 4000000 in
set_option maxRecDepth 20000 in
theorem sgX1_tollFor_0 {G : GG} {k : Nat} {q : Int32 → Nat → SG → TU → TH → Prop} {n : Nat} {σ : SG} {τ : TU} {θ : TH} (f : Nat) (t1 : Nat) (x2 : Int32) (x3 : Int32) (hk : 3 ≤ k) (hf : isF f) (ht1 : isM t1) (hW : aw_WT n θ) (vc : vp_in x2 5 ∧ (((¬ (σ (f + 1) x2.toNatClampNeg) = (1 : Int32)) → (SMi G 2 mX1_burdenOf 0 0 [.ref f, .ref t1, .int x2, .int (σ t1 2)] n σ τ θ (fun a1 n1 σ1 τ1 θ1 => aw_WT n1 θ1 ∧ (SMi G 1 mX1_burdenWithin 0 0 [.ref f, .int x2, .int x3] n1 σ1 τ1 θ1 (fun a2 n2 σ2 τ2 θ2 => aw_WT n2 θ2 ∧ (SW G k mX1_tollFor (aw_qi q) 0 0 37 [some (.ref f), some (.ref t1), some (.int x2), none, some (.int (a1 - a2)), some (.int (0 : Int32)), some (.int (1 : Int32)), none] [] (n2, σ2, τ2, θ2))))))) ∧ (((σ (f + 1) x2.toNatClampNeg) = (1 : Int32)) → (q (0 : Int32) n σ τ θ)))) : SW G k mX1_tollFor (aw_qi q) 0 0 0 [some (.ref f), some (.ref t1), some (.int x2), some (.int x3), none, none, none, none] [] (n, σ, τ, θ) := by
  refine SW.aload_n dX1_tollFor_0 rfl ?_
  refine SW.getS (f := 0) (r := f + 1) aw_cl1 (kpF_0 hf) (leF_0 hf).1 (hW.le (leF_0 hf).2) (by decide) ww_372 dX1_tollFor_1 rfl (hW.f0 hf) ?_
  refine SW.iload_n dX1_tollFor_4 rfl ?_
  refine SW.iald (kpF_1 hf) (leF_1 hf).1 (hW.le (leF_1 hf).2) vc.1 dX1_tollFor_5 ?_
  replace vc := vc.2
  refine SW.iconst (v := (1 : Int32)) dX1_tollFor_6 (by decide) ?_
  refine SW.icmp_ne 12 dX1_tollFor_7 (by decide) (fun hbr => ?_) (fun hbr => ?_)
  · replace vc := vc.1 hbr
    refine SW.aload_n dX1_tollFor_12 rfl ?_
    refine SW.aload_n dX1_tollFor_13 rfl ?_
    refine SW.iload_n dX1_tollFor_14 rfl ?_
    refine SW.aload_n dX1_tollFor_15 rfl ?_
    refine SW.getI (f := 2) aw_cl2 (kpM_0 ht1) (leM_0 ht1).1 (hW.le (leM_0 ht1).2) (by decide) ww_205 dX1_tollFor_16 rfl ?_
    refine SW.cvi3 kV_X1_89 (by omega) aw_cl1 (kpF_0 hf) (leF_0 hf).1 (hW.le (leF_0 hf).2) rfl (Nat.le_of_ble_eq_true rfl) dX1_tollFor_19 (SMi.mono vc ?_)
    intro a1 n1 σ1 τ1 θ1 vc
    obtain ⟨hW, vc⟩ := vc
    refine SW.aload_n dX1_tollFor_22 rfl ?_
    refine SW.iload_n dX1_tollFor_23 rfl ?_
    refine SW.iload_n dX1_tollFor_24 rfl ?_
    refine SW.cvi2 kV_X1_108 (by omega) aw_cl1 (kpF_0 hf) (leF_0 hf).1 (hW.le (leF_0 hf).2) rfl (Nat.le_of_ble_eq_true rfl) dX1_tollFor_25 (SMi.mono vc ?_)
    intro a2 n2 σ2 τ2 θ2 vc
    obtain ⟨hW, vc⟩ := vc
    refine SW.isub dX1_tollFor_28 ?_
    refine SW.istore dX1_tollFor_29 (by decide) rfl rfl ?_
    refine SW.iconst (v := (0 : Int32)) dX1_tollFor_31 (by decide) ?_
    refine SW.istore dX1_tollFor_32 (by decide) rfl rfl ?_
    refine SW.iconst (v := (1 : Int32)) dX1_tollFor_34 (by decide) ?_
    refine SW.istore dX1_tollFor_35 (by decide) rfl rfl ?_
    refine SW.msk [true, true, true, false, true, true, true, true] rfl ?_
    exact vc
  · replace vc := vc.2 hbr
    refine SW.iconst (v := (0 : Int32)) dX1_tollFor_10 (by decide) ?_
    exact SW.iret dX1_tollFor_11 rfl rfl ⟨_, rfl, vc⟩
set_option maxHeartbeats 4000000 in
set_option maxRecDepth 20000 in
theorem sgX1_tollFor_37 {G : GG} {k : Nat} {q : Int32 → Nat → SG → TU → TH → Prop} {n : Nat} {σ : SG} {τ : TU} {θ : TH} (f : Nat) (t1 : Nat) (x2 : Int32) (x4 : Int32) (x5 : Int32) (x6 : Int32) (hk : 3 ≤ k) (hf : isF f) (ht1 : isM t1) (hW : aw_WT n θ) (vc : (((σ f 9) ≤ x6) → (((x4 ≤ 0) → (q x5 n σ τ θ)) ∧ ((¬ x4 ≤ 0) → (q (x5 + (x4 * (σ f 9))) n σ τ θ)))) ∧ ((¬ (σ f 9) ≤ x6) → (((x4 ≤ 0) → (((x4 ≤ 0) → (q x5 n σ τ θ)) ∧ ((¬ x4 ≤ 0) → (q (x5 + (x4 * (σ f 9))) n σ τ θ)))) ∧ ((¬ x4 ≤ 0) → (SMi G 2 mX1_firstTinesAt 0 0 [.ref f, .ref t1, .int x2, .int x6] n σ τ θ (fun a1 n1 σ1 τ1 θ1 => aw_WT n1 θ1 ∧ (SW G k mX1_tollFor (aw_qi q) 0 0 37 [some (.ref f), some (.ref t1), some (.int x2), none, some (.int (x4 - (if a1 < x4 then a1 else x4))), some (.int (x5 + ((if a1 < x4 then a1 else x4) * x6))), some (.int (x6 + (1 : Int32))), none] [] (n1, σ1, τ1, θ1)))))))) : SW G k mX1_tollFor (aw_qi q) 0 0 37 [some (.ref f), some (.ref t1), some (.int x2), none, some (.int x4), some (.int x5), some (.int x6), none] [] (n, σ, τ, θ) := by
  refine SW.iload dX1_tollFor_37 rfl ?_
  refine SW.aload_n dX1_tollFor_39 rfl ?_
  refine SW.getI (f := 9) aw_cl1 (kpF_0 hf) (leF_0 hf).1 (hW.le (leF_0 hf).2) (by decide) ww_403 dX1_tollFor_40 rfl ?_
  refine SW.icmp_ge 89 dX1_tollFor_43 (by decide) (fun hbr => ?_) (fun hbr => ?_)
  · replace vc := vc.1 hbr
    refine SW.iload dX1_tollFor_89 rfl ?_
    refine SW.if_le 107 dX1_tollFor_91 (by decide) (fun hbr => ?_) (fun hbr => ?_)
    · replace vc := vc.1 hbr
      refine SW.iload dX1_tollFor_107 rfl ?_
      exact SW.iret dX1_tollFor_109 rfl rfl ⟨_, rfl, vc⟩
    · replace vc := vc.2 hbr
      refine SW.iload dX1_tollFor_94 rfl ?_
      refine SW.iload dX1_tollFor_96 rfl ?_
      refine SW.aload_n dX1_tollFor_98 rfl ?_
      refine SW.getI (f := 9) aw_cl1 (kpF_0 hf) (leF_0 hf).1 (hW.le (leF_0 hf).2) (by decide) ww_403 dX1_tollFor_99 rfl ?_
      refine SW.imul dX1_tollFor_102 ?_
      refine SW.iadd dX1_tollFor_103 ?_
      refine SW.goto 109 dX1_tollFor_104 (by decide) ?_
      exact SW.iret dX1_tollFor_109 rfl rfl ⟨_, rfl, vc⟩
  · replace vc := vc.2 hbr
    refine SW.iload dX1_tollFor_46 rfl ?_
    refine SW.if_le 89 dX1_tollFor_48 (by decide) (fun hbr => ?_) (fun hbr => ?_)
    · replace vc := vc.1 hbr
      refine SW.iload dX1_tollFor_89 rfl ?_
      refine SW.if_le 107 dX1_tollFor_91 (by decide) (fun hbr => ?_) (fun hbr => ?_)
      · replace vc := vc.1 hbr
        refine SW.iload dX1_tollFor_107 rfl ?_
        exact SW.iret dX1_tollFor_109 rfl rfl ⟨_, rfl, vc⟩
      · replace vc := vc.2 hbr
        refine SW.iload dX1_tollFor_94 rfl ?_
        refine SW.iload dX1_tollFor_96 rfl ?_
        refine SW.aload_n dX1_tollFor_98 rfl ?_
        refine SW.getI (f := 9) aw_cl1 (kpF_0 hf) (leF_0 hf).1 (hW.le (leF_0 hf).2) (by decide) ww_403 dX1_tollFor_99 rfl ?_
        refine SW.imul dX1_tollFor_102 ?_
        refine SW.iadd dX1_tollFor_103 ?_
        refine SW.goto 109 dX1_tollFor_104 (by decide) ?_
        exact SW.iret dX1_tollFor_109 rfl rfl ⟨_, rfl, vc⟩
    · replace vc := vc.2 hbr
      refine SW.iload dX1_tollFor_51 rfl ?_
      refine SW.aload_n dX1_tollFor_53 rfl ?_
      refine SW.aload_n dX1_tollFor_54 rfl ?_
      refine SW.iload_n dX1_tollFor_55 rfl ?_
      refine SW.iload dX1_tollFor_56 rfl ?_
      refine SW.cvi3 kV_X1_111 (by omega) aw_cl1 (kpF_0 hf) (leF_0 hf).1 (hW.le (leF_0 hf).2) rfl (Nat.le_of_ble_eq_true rfl) dX1_tollFor_58 (SMi.mono vc ?_)
      intro a1 n1 σ1 τ1 θ1 vc
      obtain ⟨hW, vc⟩ := vc
      refine SW.mmin ww_851 ww_524 ww_123 ww_525 (by omega) (Nat.le_of_ble_eq_true rfl) dX1_tollFor_61 ?_
      refine SW.istore dX1_tollFor_64 (by decide) rfl rfl ?_
      refine SW.iload dX1_tollFor_66 rfl ?_
      refine SW.iload dX1_tollFor_68 rfl ?_
      refine SW.iload dX1_tollFor_70 rfl ?_
      refine SW.imul dX1_tollFor_72 ?_
      refine SW.iadd dX1_tollFor_73 ?_
      refine SW.istore dX1_tollFor_74 (by decide) rfl rfl ?_
      refine SW.iload dX1_tollFor_76 rfl ?_
      refine SW.iload dX1_tollFor_78 rfl ?_
      refine SW.isub dX1_tollFor_80 ?_
      refine SW.istore dX1_tollFor_81 (by decide) rfl rfl ?_
      refine SW.iinc (v := (x6 + (1 : Int32))) dX1_tollFor_83 rfl rfl (by decide) rfl rfl ?_
      refine SW.goto 37 dX1_tollFor_86 (by decide) ?_
      refine SW.msk [true, true, true, true, true, true, true, false] rfl ?_
      exact vc
theorem ctX1_tollFor {G : GG} {q : Int32 → Nat → SG → TU → TH → Prop} {n : Nat} {σ : SG} {τ : TU} {θ : TH} (f : Nat) (t1 : Nat) (x2 : Int32) (x3 : Int32) (h : SW G 3 mX1_tollFor (aw_qi q) 0 0 0 [some (.ref f), some (.ref t1), some (.int x2), some (.int x3), none, none, none, none] [] (n, σ, τ, θ)) : SMi G 3 mX1_tollFor 0 0 [.ref f, .ref t1, .int x2, .int x3] n σ τ θ q := SM.of _ rfl rfl (Nat.le_of_ble_eq_true rfl) h
set_option maxHeartbeats 4000000 in
set_option maxRecDepth 20000 in
theorem sgX2_beginWith_0 {G : GG} {k : Nat} {q : Nat → SG → TU → TH → Prop} {n : Nat} {σ : SG} {τ : TU} {θ : TH} (t : Nat) (f : Nat)  (hk : 1 ≤ k) (ht : isM t) (hf : isF f) (hW : aw_WT n θ) (vc : SW G k mX2_beginWith (aw_qv q) 0 0 2 [some (.ref t), some (.ref f), some (.int (0 : Int32))] [] (n, σ, τ, θ)) : SW G k mX2_beginWith (aw_qv q) 0 0 0 [some (.ref t), some (.ref f), none] [] (n, σ, τ, θ) := by
  refine SW.iconst (v := (0 : Int32)) dX2_beginWith_0 (by decide) ?_
  refine SW.istore_n dX2_beginWith_1 (by decide) rfl rfl ?_
  exact vc
set_option maxHeartbeats 4000000 in
set_option maxRecDepth 20000 in
theorem sgX2_beginWith_2 {G : GG} {k : Nat} {q : Nat → SG → TU → TH → Prop} {n : Nat} {σ : SG} {τ : TU} {θ : TH} (t : Nat) (f : Nat) (x2 : Int32) (hk : 1 ≤ k) (ht : isM t) (hf : isF f) (hW : aw_WT n θ) (vc : (((5 : Int32) ≤ x2) → (SW G k mX2_beginWith (aw_qv q) 0 0 39 [some (.ref t), some (.ref f), some (.int (0 : Int32))] [] (n, σ, τ, θ))) ∧ ((¬ (5 : Int32) ≤ x2) → ((((σ f 13) ≤ x2) → (vp_in x2 5 ∧ (SW G k mX2_beginWith (aw_qv q) 0 0 2 [some (.ref t), some (.ref f), some (.int (x2 + (1 : Int32)))] [] (n, (aw_u σ (t + 1) x2.toNatClampNeg (0 : Int32)), τ, θ)))) ∧ ((¬ (σ f 13) ≤ x2) → (vp_in x2 5 ∧ (vp_in x2 5 ∧ (SW G k mX2_beginWith (aw_qv q) 0 0 2 [some (.ref t), some (.ref f), some (.int (x2 + (1 : Int32)))] [] (n, (aw_u σ (t + 1) x2.toNatClampNeg (σ (f + 2) x2.toNatClampNeg)), τ, θ)))))))) : SW G k mX2_beginWith (aw_qv q) 0 0 2 [some (.ref t), some (.ref f), some (.int x2)] [] (n, σ, τ, θ) := by
  refine SW.iload_n dX2_beginWith_2 rfl ?_
  refine SW.iconst (v := (5 : Int32)) dX2_beginWith_3 (by decide) ?_
  refine SW.icmp_ge 37 dX2_beginWith_4 (by decide) (fun hbr => ?_) (fun hbr => ?_)
  · replace vc := vc.1 hbr
    refine SW.iconst (v := (0 : Int32)) dX2_beginWith_37 (by decide) ?_
    refine SW.istore_n dX2_beginWith_38 (by decide) rfl rfl ?_
    exact vc
  · replace vc := vc.2 hbr
    refine SW.aload_n dX2_beginWith_7 rfl ?_
    refine SW.getS (f := 0) (r := t + 1) aw_cl2 (kpM_0 ht) (leM_0 ht).1 (hW.le (leM_0 ht).2) (by decide) ww_193 dX2_beginWith_8 rfl (hW.m0 ht) ?_
    refine SW.iload_n dX2_beginWith_11 rfl ?_
    refine SW.iload_n dX2_beginWith_12 rfl ?_
    refine SW.aload_n dX2_beginWith_13 rfl ?_
    refine SW.getI (f := 13) aw_cl1 (kpF_0 hf) (leF_0 hf).1 (hW.le (leF_0 hf).2) (by decide) ww_421 dX2_beginWith_14 rfl ?_
    refine SW.icmp_ge 29 dX2_beginWith_17 (by decide) (fun hbr => ?_) (fun hbr => ?_)
    · replace vc := vc.1 hbr
      refine SW.iconst (v := (0 : Int32)) dX2_beginWith_29 (by decide) ?_
      refine SW.iast (kpM_1 ht) (leM_1 ht).1 (hW.le (leM_1 ht).2) vc.1 dX2_beginWith_30 ?_
      replace vc := vc.2
      refine SW.iinc (v := (x2 + (1 : Int32))) dX2_beginWith_31 rfl rfl (by decide) rfl rfl ?_
      refine SW.goto 2 dX2_beginWith_34 (by decide) ?_
      exact vc
    · replace vc := vc.2 hbr
      refine SW.aload_n dX2_beginWith_20 rfl ?_
      refine SW.getS (f := 1) (r := f + 2) aw_cl1 (kpF_0 hf) (leF_0 hf).1 (hW.le (leF_0 hf).2) (by decide) ww_376 dX2_beginWith_21 rfl (hW.f1 hf) ?_
      refine SW.iload_n dX2_beginWith_24 rfl ?_
      refine SW.iald (kpF_2 hf) (leF_2 hf).1 (hW.le (leF_2 hf).2) vc.1 dX2_beginWith_25 ?_
      replace vc := vc.2
      refine SW.goto 30 dX2_beginWith_26 (by decide) ?_
      refine SW.iast (kpM_1 ht) (leM_1 ht).1 (hW.le (leM_1 ht).2) vc.1 dX2_beginWith_30 ?_
      replace vc := vc.2
      refine SW.iinc (v := (x2 + (1 : Int32))) dX2_beginWith_31 rfl rfl (by decide) rfl rfl ?_
      refine SW.goto 2 dX2_beginWith_34 (by decide) ?_
      exact vc
set_option maxHeartbeats 4000000 in
set_option maxRecDepth 20000 in
theorem sgX2_beginWith_39 {G : GG} {k : Nat} {q : Nat → SG → TU → TH → Prop} {n : Nat} {σ : SG} {τ : TU} {θ : TH} (t : Nat) (f : Nat) (x2 : Int32) (hk : 1 ≤ k) (ht : isM t) (hf : isF f) (hW : aw_WT n θ) (vc : (((7 : Int32) ≤ x2) → (q n (aw_u σ t 2 (0 : Int32)) τ θ)) ∧ ((¬ (7 : Int32) ≤ x2) → ((((σ (f + 8) 4) ≤ x2) → (vp_in x2 7 ∧ (SW G k mX2_beginWith (aw_qv q) 0 0 39 [some (.ref t), some (.ref f), some (.int (x2 + (1 : Int32)))] [] (n, (aw_u σ (t + 2) x2.toNatClampNeg (0 : Int32)), τ, θ)))) ∧ ((¬ (σ (f + 8) 4) ≤ x2) → (vp_in x2 7 ∧ (vp_in x2 7 ∧ (SW G k mX2_beginWith (aw_qv q) 0 0 39 [some (.ref t), some (.ref f), some (.int (x2 + (1 : Int32)))] [] (n, (aw_u σ (t + 2) x2.toNatClampNeg (σ (f + 11) x2.toNatClampNeg)), τ, θ)))))))) : SW G k mX2_beginWith (aw_qv q) 0 0 39 [some (.ref t), some (.ref f), some (.int x2)] [] (n, σ, τ, θ) := by
  refine SW.iload_n dX2_beginWith_39 rfl ?_
  refine SW.bipush (v := (7 : Int32)) dX2_beginWith_40 (by decide) ?_
  refine SW.icmp_ge 81 dX2_beginWith_42 (by decide) (fun hbr => ?_) (fun hbr => ?_)
  · replace vc := vc.1 hbr
    refine SW.aload_n dX2_beginWith_81 rfl ?_
    refine SW.iconst (v := (0 : Int32)) dX2_beginWith_82 (by decide) ?_
    refine SW.putI (f := 2) aw_cl2 (kpM_0 ht) (leM_0 ht).1 (hW.le (leM_0 ht).2) (by decide) ww_201 (Or.inl rfl) dX2_beginWith_83 rfl rfl rfl ?_
    exact SW.vret dX2_beginWith_86 rfl ⟨rfl, vc⟩
  · replace vc := vc.2 hbr
    refine SW.aload_n dX2_beginWith_45 rfl ?_
    refine SW.getS (f := 1) (r := t + 2) aw_cl2 (kpM_0 ht) (leM_0 ht).1 (hW.le (leM_0 ht).2) (by decide) ww_195 dX2_beginWith_46 rfl (hW.m1 ht) ?_
    refine SW.iload_n dX2_beginWith_49 rfl ?_
    refine SW.iload_n dX2_beginWith_50 rfl ?_
    refine SW.aload_n dX2_beginWith_51 rfl ?_
    refine SW.getS (f := 7) (r := f + 8) aw_cl1 (kpF_0 hf) (leF_0 hf).1 (hW.le (leF_0 hf).2) (by decide) ww_395 dX2_beginWith_52 rfl (hW.f7 hf) ?_
    refine SW.getI (f := 4) aw_cl0 (kpF_8 hf) (leF_8 hf).1 (hW.le (leF_8 hf).2) (by decide) ww_357 dX2_beginWith_55 rfl ?_
    refine SW.icmp_ge 73 dX2_beginWith_58 (by decide) (fun hbr => ?_) (fun hbr => ?_)
    · replace vc := vc.1 hbr
      refine SW.iconst (v := (0 : Int32)) dX2_beginWith_73 (by decide) ?_
      refine SW.iast (kpM_2 ht) (leM_2 ht).1 (hW.le (leM_2 ht).2) vc.1 dX2_beginWith_74 ?_
      replace vc := vc.2
      refine SW.iinc (v := (x2 + (1 : Int32))) dX2_beginWith_75 rfl rfl (by decide) rfl rfl ?_
      refine SW.goto 39 dX2_beginWith_78 (by decide) ?_
      exact vc
    · replace vc := vc.2 hbr
      refine SW.aload_n dX2_beginWith_61 rfl ?_
      refine SW.getS (f := 7) (r := f + 8) aw_cl1 (kpF_0 hf) (leF_0 hf).1 (hW.le (leF_0 hf).2) (by decide) ww_395 dX2_beginWith_62 rfl (hW.f7 hf) ?_
      refine SW.getS (f := 2) (r := f + 11) aw_cl0 (kpF_8 hf) (leF_8 hf).1 (hW.le (leF_8 hf).2) (by decide) ww_345 dX2_beginWith_65 rfl (hW.f8_2 hf) ?_
      refine SW.iload_n dX2_beginWith_68 rfl ?_
      refine SW.iald (kpF_11 hf) (leF_11 hf).1 (hW.le (leF_11 hf).2) vc.1 dX2_beginWith_69 ?_
      replace vc := vc.2
      refine SW.goto 74 dX2_beginWith_70 (by decide) ?_
      refine SW.iast (kpM_2 ht) (leM_2 ht).1 (hW.le (leM_2 ht).2) vc.1 dX2_beginWith_74 ?_
      replace vc := vc.2
      refine SW.iinc (v := (x2 + (1 : Int32))) dX2_beginWith_75 rfl rfl (by decide) rfl rfl ?_
      refine SW.goto 39 dX2_beginWith_78 (by decide) ?_
      exact vc
theorem ctX2_beginWith {G : GG} {q : Nat → SG → TU → TH → Prop} {n : Nat} {σ : SG} {τ : TU} {θ : TH} (t : Nat) (f : Nat) (h : SW G 1 mX2_beginWith (aw_qv q) 0 0 0 [some (.ref t), some (.ref f), none] [] (n, σ, τ, θ)) : SMv G 1 mX2_beginWith 0 0 [.ref t, .ref f] n σ τ θ q := SM.of _ rfl rfl (Nat.le_of_ble_eq_true rfl) h
set_option maxHeartbeats 4000000 in
set_option maxRecDepth 20000 in
theorem sgX2_copyOf_0 {G : GG} {k : Nat} {q : Nat → SG → TU → TH → Prop} {n : Nat} {σ : SG} {τ : TU} {θ : TH} (t : Nat) (t1 : Nat)  (hk : 1 ≤ k) (ht : isM t) (ht1 : isM t1) (hW : aw_WT n θ) (vc : SW G k mX2_copyOf (aw_qv q) 0 0 2 [some (.ref t), some (.ref t1), some (.int (0 : Int32))] [] (n, σ, τ, θ)) : SW G k mX2_copyOf (aw_qv q) 0 0 0 [some (.ref t), some (.ref t1), none] [] (n, σ, τ, θ) := by
  refine SW.iconst (v := (0 : Int32)) dX2_copyOf_0 (by decide) ?_
  refine SW.istore_n dX2_copyOf_1 (by decide) rfl rfl ?_
  exact vc
set_option maxHeartbeats 4000000 in
set_option maxRecDepth 20000 in
theorem sgX2_copyOf_2 {G : GG} {k : Nat} {q : Nat → SG → TU → TH → Prop} {n : Nat} {σ : SG} {τ : TU} {θ : TH} (t : Nat) (t1 : Nat) (x2 : Int32) (hk : 1 ≤ k) (ht : isM t) (ht1 : isM t1) (hW : aw_WT n θ) (vc : (((5 : Int32) ≤ x2) → (SW G k mX2_copyOf (aw_qv q) 0 0 27 [some (.ref t), some (.ref t1), some (.int (0 : Int32))] [] (n, σ, τ, θ))) ∧ ((¬ (5 : Int32) ≤ x2) → (vp_in x2 5 ∧ (vp_in x2 5 ∧ (SW G k mX2_copyOf (aw_qv q) 0 0 2 [some (.ref t), some (.ref t1), some (.int (x2 + (1 : Int32)))] [] (n, (aw_u σ (t + 1) x2.toNatClampNeg (σ (t1 + 1) x2.toNatClampNeg)), τ, θ)))))) : SW G k mX2_copyOf (aw_qv q) 0 0 2 [some (.ref t), some (.ref t1), some (.int x2)] [] (n, σ, τ, θ) := by
  refine SW.iload_n dX2_copyOf_2 rfl ?_
  refine SW.iconst (v := (5 : Int32)) dX2_copyOf_3 (by decide) ?_
  refine SW.icmp_ge 25 dX2_copyOf_4 (by decide) (fun hbr => ?_) (fun hbr => ?_)
  · replace vc := vc.1 hbr
    refine SW.iconst (v := (0 : Int32)) dX2_copyOf_25 (by decide) ?_
    refine SW.istore_n dX2_copyOf_26 (by decide) rfl rfl ?_
    exact vc
  · replace vc := vc.2 hbr
    refine SW.aload_n dX2_copyOf_7 rfl ?_
    refine SW.getS (f := 0) (r := t + 1) aw_cl2 (kpM_0 ht) (leM_0 ht).1 (hW.le (leM_0 ht).2) (by decide) ww_193 dX2_copyOf_8 rfl (hW.m0 ht) ?_
    refine SW.iload_n dX2_copyOf_11 rfl ?_
    refine SW.aload_n dX2_copyOf_12 rfl ?_
    refine SW.getS (f := 0) (r := t1 + 1) aw_cl2 (kpM_0 ht1) (leM_0 ht1).1 (hW.le (leM_0 ht1).2) (by decide) ww_193 dX2_copyOf_13 rfl (hW.m0 ht1) ?_
    refine SW.iload_n dX2_copyOf_16 rfl ?_
    refine SW.iald (kpM_1 ht1) (leM_1 ht1).1 (hW.le (leM_1 ht1).2) vc.1 dX2_copyOf_17 ?_
    replace vc := vc.2
    refine SW.iast (kpM_1 ht) (leM_1 ht).1 (hW.le (leM_1 ht).2) vc.1 dX2_copyOf_18 ?_
    replace vc := vc.2
    refine SW.iinc (v := (x2 + (1 : Int32))) dX2_copyOf_19 rfl rfl (by decide) rfl rfl ?_
    refine SW.goto 2 dX2_copyOf_22 (by decide) ?_
    exact vc
set_option maxHeartbeats 4000000 in
set_option maxRecDepth 20000 in
theorem sgX2_copyOf_27 {G : GG} {k : Nat} {q : Nat → SG → TU → TH → Prop} {n : Nat} {σ : SG} {τ : TU} {θ : TH} (t : Nat) (t1 : Nat) (x2 : Int32) (hk : 1 ≤ k) (ht : isM t) (ht1 : isM t1) (hW : aw_WT n θ) (vc : (((7 : Int32) ≤ x2) → (q n (aw_u σ t 2 (σ t1 2)) τ θ)) ∧ ((¬ (7 : Int32) ≤ x2) → (vp_in x2 7 ∧ (vp_in x2 7 ∧ (SW G k mX2_copyOf (aw_qv q) 0 0 27 [some (.ref t), some (.ref t1), some (.int (x2 + (1 : Int32)))] [] (n, (aw_u σ (t + 2) x2.toNatClampNeg (σ (t1 + 2) x2.toNatClampNeg)), τ, θ)))))) : SW G k mX2_copyOf (aw_qv q) 0 0 27 [some (.ref t), some (.ref t1), some (.int x2)] [] (n, σ, τ, θ) := by
  refine SW.iload_n dX2_copyOf_27 rfl ?_
  refine SW.bipush (v := (7 : Int32)) dX2_copyOf_28 (by decide) ?_
  refine SW.icmp_ge 51 dX2_copyOf_30 (by decide) (fun hbr => ?_) (fun hbr => ?_)
  · replace vc := vc.1 hbr
    refine SW.aload_n dX2_copyOf_51 rfl ?_
    refine SW.aload_n dX2_copyOf_52 rfl ?_
    refine SW.getI (f := 2) aw_cl2 (kpM_0 ht1) (leM_0 ht1).1 (hW.le (leM_0 ht1).2) (by decide) ww_201 dX2_copyOf_53 rfl ?_
    refine SW.putI (f := 2) aw_cl2 (kpM_0 ht) (leM_0 ht).1 (hW.le (leM_0 ht).2) (by decide) ww_201 (Or.inl rfl) dX2_copyOf_56 rfl rfl rfl ?_
    exact SW.vret dX2_copyOf_59 rfl ⟨rfl, vc⟩
  · replace vc := vc.2 hbr
    refine SW.aload_n dX2_copyOf_33 rfl ?_
    refine SW.getS (f := 1) (r := t + 2) aw_cl2 (kpM_0 ht) (leM_0 ht).1 (hW.le (leM_0 ht).2) (by decide) ww_195 dX2_copyOf_34 rfl (hW.m1 ht) ?_
    refine SW.iload_n dX2_copyOf_37 rfl ?_
    refine SW.aload_n dX2_copyOf_38 rfl ?_
    refine SW.getS (f := 1) (r := t1 + 2) aw_cl2 (kpM_0 ht1) (leM_0 ht1).1 (hW.le (leM_0 ht1).2) (by decide) ww_195 dX2_copyOf_39 rfl (hW.m1 ht1) ?_
    refine SW.iload_n dX2_copyOf_42 rfl ?_
    refine SW.iald (kpM_2 ht1) (leM_2 ht1).1 (hW.le (leM_2 ht1).2) vc.1 dX2_copyOf_43 ?_
    replace vc := vc.2
    refine SW.iast (kpM_2 ht) (leM_2 ht).1 (hW.le (leM_2 ht).2) vc.1 dX2_copyOf_44 ?_
    replace vc := vc.2
    refine SW.iinc (v := (x2 + (1 : Int32))) dX2_copyOf_45 rfl rfl (by decide) rfl rfl ?_
    refine SW.goto 27 dX2_copyOf_48 (by decide) ?_
    exact vc
theorem ctX2_copyOf {G : GG} {q : Nat → SG → TU → TH → Prop} {n : Nat} {σ : SG} {τ : TU} {θ : TH} (t : Nat) (t1 : Nat) (h : SW G 1 mX2_copyOf (aw_qv q) 0 0 0 [some (.ref t), some (.ref t1), none] [] (n, σ, τ, θ)) : SMv G 1 mX2_copyOf 0 0 [.ref t, .ref t1] n σ τ θ q := SM.of _ rfl rfl (Nat.le_of_ble_eq_true rfl) h
set_option maxHeartbeats 4000000 in
set_option maxRecDepth 20000 in
theorem sgX3_eatFirst_0 {G : GG} {k : Nat} {q : Nat → SG → TU → TH → Prop} {n : Nat} {σ : SG} {τ : TU} {θ : TH} (f : Nat) (x2 : Int32) (hk : 2 ≤ k) (hf : isF f) (hW : aw_WT n θ) (vc : SW G k mX3_eatFirst (aw_qv q) 0 0 2 [some (.ref 80), some (.ref f), some (.int x2), some (.int (0 : Int32)), none] [] (n, σ, τ, θ)) : SW G k mX3_eatFirst (aw_qv q) 0 0 0 [some (.ref 80), some (.ref f), some (.int x2), none, none] [] (n, σ, τ, θ) := by
  refine SW.iconst (v := (0 : Int32)) dX3_eatFirst_0 (by decide) ?_
  refine SW.istore_n dX3_eatFirst_1 (by decide) rfl rfl ?_
  exact vc
set_option maxHeartbeats 4000000 in
set_option maxRecDepth 20000 in
theorem sgX3_eatFirst_2 {G : GG} {k : Nat} {q : Nat → SG → TU → TH → Prop} {n : Nat} {σ : SG} {τ : TU} {θ : TH} (f : Nat) (x2 : Int32) (x3 : Int32) (hk : 2 ≤ k) (hf : isF f) (hW : aw_WT n θ) (vc : (((σ (f + 8) 4) ≤ x3) → (q n σ τ θ)) ∧ ((¬ (σ (f + 8) 4) ≤ x3) → (vp_in x3 7 ∧ (((¬ (σ (f + 9) x3.toNatClampNeg) = x2) → (SW G k mX3_eatFirst (aw_qv q) 0 0 2 [some (.ref 80), some (.ref f), some (.int x2), some (.int (x3 + (1 : Int32))), none] [] (n, σ, τ, θ))) ∧ (((σ (f + 9) x3.toNatClampNeg) = x2) → (SMi G 1 mX1_isDue 0 0 [.ref f, .ref 81, .int x3, .int (σ 81 2)] n σ τ θ (fun a1 n1 σ1 τ1 θ1 => aw_WT n1 θ1 ∧ (((a1 = 0) → (SW G k mX3_eatFirst (aw_qv q) 0 0 2 [some (.ref 80), some (.ref f), some (.int x2), some (.int (x3 + (1 : Int32))), none] [] (n1, σ1, τ1, θ1))) ∧ ((¬ a1 = 0) → (vp_in x3 7 ∧ (vp_in x3 7 ∧ (vp_in x3 7 ∧ (q n1 (aw_u (aw_u σ1 83 x3.toNatClampNeg ((σ1 83 x3.toNatClampNeg) - (if (σ1 83 x3.toNatClampNeg) < (σ1 f 9) then (σ1 83 x3.toNatClampNeg) else (σ1 f 9)))) 80 1 (((aw_u σ1 83 x3.toNatClampNeg ((σ1 83 x3.toNatClampNeg) - (if (σ1 83 x3.toNatClampNeg) < (σ1 f 9) then (σ1 83 x3.toNatClampNeg) else (σ1 f 9)))) 80 1) + (if (σ1 83 x3.toNatClampNeg) < (σ1 f 9) then (σ1 83 x3.toNatClampNeg) else (σ1 f 9)))) τ1 θ1))))))))))))) : SW G k mX3_eatFirst (aw_qv q) 0 0 2 [some (.ref 80), some (.ref f), some (.int x2), some (.int x3), none] [] (n, σ, τ, θ) := by
  refine SW.iload_n dX3_eatFirst_2 rfl ?_
  refine SW.aload_n dX3_eatFirst_3 rfl ?_
  refine SW.getS (f := 7) (r := f + 8) aw_cl1 (kpF_0 hf) (leF_0 hf).1 (hW.le (leF_0 hf).2) (by decide) ww_394 dX3_eatFirst_4 rfl (hW.f7 hf) ?_
  refine SW.getI (f := 4) aw_cl0 (kpF_8 hf) (leF_8 hf).1 (hW.le (leF_8 hf).2) (by decide) ww_356 dX3_eatFirst_7 rfl ?_
  refine SW.icmp_ge 95 dX3_eatFirst_10 (by decide) (fun hbr => ?_) (fun hbr => ?_)
  · replace vc := vc.1 hbr
    exact SW.vret dX3_eatFirst_95 rfl ⟨rfl, vc⟩
  · replace vc := vc.2 hbr
    refine SW.aload_n dX3_eatFirst_13 rfl ?_
    refine SW.getS (f := 7) (r := f + 8) aw_cl1 (kpF_0 hf) (leF_0 hf).1 (hW.le (leF_0 hf).2) (by decide) ww_394 dX3_eatFirst_14 rfl (hW.f7 hf) ?_
    refine SW.getS (f := 0) (r := f + 9) aw_cl0 (kpF_8 hf) (leF_8 hf).1 (hW.le (leF_8 hf).2) (by decide) ww_333 dX3_eatFirst_17 rfl (hW.f8_0 hf) ?_
    refine SW.iload_n dX3_eatFirst_20 rfl ?_
    refine SW.iald (kpF_9 hf) (leF_9 hf).1 (hW.le (leF_9 hf).2) vc.1 dX3_eatFirst_21 ?_
    replace vc := vc.2
    refine SW.iload_n dX3_eatFirst_22 rfl ?_
    refine SW.icmp_ne 89 dX3_eatFirst_23 (by decide) (fun hbr => ?_) (fun hbr => ?_)
    · replace vc := vc.1 hbr
      refine SW.iinc (v := (x3 + (1 : Int32))) dX3_eatFirst_89 rfl rfl (by decide) rfl rfl ?_
      refine SW.goto 2 dX3_eatFirst_92 (by decide) ?_
      exact vc
    · replace vc := vc.2 hbr
      refine SW.aload_n dX3_eatFirst_26 rfl ?_
      refine SW.aload_n dX3_eatFirst_27 rfl ?_
      refine SW.getS (f := 0) (r := 81) aw_cl3 kp_80 (by decide) (hW.le (by decide)) (by decide) ww_311 dX3_eatFirst_28 rfl hW.t80_0 ?_
      refine SW.iload_n dX3_eatFirst_31 rfl ?_
      refine SW.aload_n dX3_eatFirst_32 rfl ?_
      refine SW.getS (f := 0) (r := 81) aw_cl3 kp_80 (by decide) (hW.le (by decide)) (by decide) ww_311 dX3_eatFirst_33 rfl hW.t80_0 ?_
      refine SW.getI (f := 2) aw_cl2 kp_81 (by decide) (hW.le (by decide)) (by decide) ww_200 dX3_eatFirst_36 rfl ?_
      refine SW.cvi3 kV_X3_57 (by omega) aw_cl1 (kpF_0 hf) (leF_0 hf).1 (hW.le (leF_0 hf).2) rfl (Nat.le_of_ble_eq_true rfl) dX3_eatFirst_39 (SMi.mono vc ?_)
      intro a1 n1 σ1 τ1 θ1 vc
      obtain ⟨hW, vc⟩ := vc
      refine SW.if_eq 89 dX3_eatFirst_42 (by decide) (fun hbr => ?_) (fun hbr => ?_)
      · replace vc := vc.1 hbr
        refine SW.iinc (v := (x3 + (1 : Int32))) dX3_eatFirst_89 rfl rfl (by decide) rfl rfl ?_
        refine SW.goto 2 dX3_eatFirst_92 (by decide) ?_
        exact vc
      · replace vc := vc.2 hbr
        refine SW.aload_n dX3_eatFirst_45 rfl ?_
        refine SW.getI (f := 9) aw_cl1 (kpF_0 hf) (leF_0 hf).1 (hW.le (leF_0 hf).2) (by decide) ww_404 dX3_eatFirst_46 rfl ?_
        refine SW.aload_n dX3_eatFirst_49 rfl ?_
        refine SW.getS (f := 0) (r := 81) aw_cl3 kp_80 (by decide) (hW.le (by decide)) (by decide) ww_311 dX3_eatFirst_50 rfl hW.t80_0 ?_
        refine SW.getS (f := 1) (r := 83) aw_cl2 kp_81 (by decide) (hW.le (by decide)) (by decide) ww_197 dX3_eatFirst_53 rfl hW.t81_1 ?_
        refine SW.iload_n dX3_eatFirst_56 rfl ?_
        refine SW.iald kp_83 (by decide) (hW.le (by decide)) vc.1 dX3_eatFirst_57 ?_
        replace vc := vc.2
        refine SW.mmin ww_1095 ww_524 ww_123 ww_525 (by omega) (Nat.le_of_ble_eq_true rfl) dX3_eatFirst_58 ?_
        refine SW.istore dX3_eatFirst_61 (by decide) rfl rfl ?_
        refine SW.aload_n dX3_eatFirst_63 rfl ?_
        refine SW.getS (f := 0) (r := 81) aw_cl3 kp_80 (by decide) (hW.le (by decide)) (by decide) ww_311 dX3_eatFirst_64 rfl hW.t80_0 ?_
        refine SW.getS (f := 1) (r := 83) aw_cl2 kp_81 (by decide) (hW.le (by decide)) (by decide) ww_197 dX3_eatFirst_67 rfl hW.t81_1 ?_
        refine SW.iload_n dX3_eatFirst_70 rfl ?_
        refine SW.dup2 dX3_eatFirst_71 rfl rfl ?_
        refine SW.iald kp_83 (by decide) (hW.le (by decide)) vc.1 dX3_eatFirst_72 ?_
        replace vc := vc.2
        refine SW.iload dX3_eatFirst_73 rfl ?_
        refine SW.isub dX3_eatFirst_75 ?_
        refine SW.iast kp_83 (by decide) (hW.le (by decide)) vc.1 dX3_eatFirst_76 ?_
        replace vc := vc.2
        refine SW.aload_n dX3_eatFirst_77 rfl ?_
        refine SW.dup dX3_eatFirst_78 rfl ?_
        refine SW.getI (f := 1) aw_cl3 kp_80 (by decide) (hW.le (by decide)) (by decide) ww_313 dX3_eatFirst_79 rfl ?_
        refine SW.iload dX3_eatFirst_82 rfl ?_
        refine SW.iadd dX3_eatFirst_84 ?_
        refine SW.putI (f := 1) aw_cl3 kp_80 (by decide) (hW.le (by decide)) (by decide) ww_313 (Or.inl rfl) dX3_eatFirst_85 rfl rfl rfl ?_
        exact SW.vret dX3_eatFirst_88 rfl ⟨rfl, vc⟩
theorem ctX3_eatFirst {G : GG} {q : Nat → SG → TU → TH → Prop} {n : Nat} {σ : SG} {τ : TU} {θ : TH} (f : Nat) (x2 : Int32) (h : SW G 2 mX3_eatFirst (aw_qv q) 0 0 0 [some (.ref 80), some (.ref f), some (.int x2), none, none] [] (n, σ, τ, θ)) : SMv G 2 mX3_eatFirst 0 0 [.ref 80, .ref f, .int x2] n σ τ θ q := SM.of _ rfl rfl (Nat.le_of_ble_eq_true rfl) h
set_option maxHeartbeats 4000000 in
set_option maxRecDepth 20000 in
theorem sgX3_fly_0 {G : GG} {k : Nat} {q : Nat → SG → TU → TH → Prop} {n : Nat} {σ : SG} {τ : TU} {θ : TH} (f : Nat) (t2 : Nat) (x3 : Int32) (x4 : Int32) (hk : 4 ≤ k) (hf : isF f) (ht2 : isM t2) (hW : aw_WT n θ) (vc : SMv G 1 mX2_copyOf 0 0 [.ref 81, .ref t2] n σ τ θ (fun n1 σ1 τ1 θ1 => aw_WT n1 θ1 ∧ (SW G k mX3_fly (aw_qv q) 0 0 19 [some (.ref 80), some (.ref f), none, none, some (.int x4), some (.int x3), some (.int (0 : Int32)), none] [] (n1, (aw_u σ1 80 1 (0 : Int32)), τ1, θ1)))) : SW G k mX3_fly (aw_qv q) 0 0 0 [some (.ref 80), some (.ref f), some (.ref t2), some (.int x3), some (.int x4), none, none, none] [] (n, σ, τ, θ) := by
  refine SW.aload_n dX3_fly_0 rfl ?_
  refine SW.getS (f := 0) (r := 81) aw_cl3 kp_80 (by decide) (hW.le (by decide)) (by decide) ww_311 dX3_fly_1 rfl hW.t80_0 ?_
  refine SW.aload_n dX3_fly_4 rfl ?_
  refine SW.cvv1 kV_X3_16 (by omega) aw_cl2 kp_81 (by decide) (hW.le (by decide)) rfl (Nat.le_of_ble_eq_true rfl) dX3_fly_5 (SMv.mono vc ?_)
  intro n1 σ1 τ1 θ1 vc
  obtain ⟨hW, vc⟩ := vc
  refine SW.aload_n dX3_fly_8 rfl ?_
  refine SW.iconst (v := (0 : Int32)) dX3_fly_9 (by decide) ?_
  refine SW.putI (f := 1) aw_cl3 kp_80 (by decide) (hW.le (by decide)) (by decide) ww_313 (Or.inl rfl) dX3_fly_10 rfl rfl rfl ?_
  refine SW.iload_n dX3_fly_13 rfl ?_
  refine SW.istore dX3_fly_14 (by decide) rfl rfl ?_
  refine SW.iconst (v := (0 : Int32)) dX3_fly_16 (by decide) ?_
  refine SW.istore dX3_fly_17 (by decide) rfl rfl ?_
  refine SW.msk [true, true, false, false, true, true, true, true] rfl ?_
  exact vc
set_option maxHeartbeats 4000000 in
set_option maxRecDepth 20000 in
theorem sgX3_fly_19 {G : GG} {k : Nat} {q : Nat → SG → TU → TH → Prop} {n : Nat} {σ : SG} {τ : TU} {θ : TH} (f : Nat) (t2 : Nat) (x4 : Int32) (x5 : Int32) (x6 : Int32) (hk : 4 ≤ k) (hf : isF f) (ht2 : isM t2) (hW : aw_WT n θ) (vc : ((x4 ≤ x6) → (q n σ τ θ)) ∧ ((¬ x4 ≤ x6) → (SW G k mX3_fly (aw_qv q) 0 0 42 [some (.ref 80), some (.ref f), none, none, some (.int x4), some (.int x5), some (.int x6), some (.int (0 : Int32))] [] (n, (aw_u σ 81 2 ((σ 81 2) + (1 : Int32))), τ, θ)))) : SW G k mX3_fly (aw_qv q) 0 0 19 [some (.ref 80), some (.ref f), none, none, some (.int x4), some (.int x5), some (.int x6), none] [] (n, σ, τ, θ) := by
  refine SW.iload dX3_fly_19 rfl ?_
  refine SW.iload dX3_fly_21 rfl ?_
  refine SW.icmp_ge 115 dX3_fly_23 (by decide) (fun hbr => ?_) (fun hbr => ?_)
  · replace vc := vc.1 hbr
    exact SW.vret dX3_fly_115 rfl ⟨rfl, vc⟩
  · replace vc := vc.2 hbr
    refine SW.aload_n dX3_fly_26 rfl ?_
    refine SW.getS (f := 0) (r := 81) aw_cl3 kp_80 (by decide) (hW.le (by decide)) (by decide) ww_311 dX3_fly_27 rfl hW.t80_0 ?_
    refine SW.dup dX3_fly_30 rfl ?_
    refine SW.getI (f := 2) aw_cl2 kp_81 (by decide) (hW.le (by decide)) (by decide) ww_200 dX3_fly_31 rfl ?_
    refine SW.iconst (v := (1 : Int32)) dX3_fly_34 (by decide) ?_
    refine SW.iadd dX3_fly_35 ?_
    refine SW.putI (f := 2) aw_cl2 kp_81 (by decide) (hW.le (by decide)) (by decide) ww_200 (Or.inl rfl) dX3_fly_36 rfl rfl rfl ?_
    refine SW.iconst (v := (0 : Int32)) dX3_fly_39 (by decide) ?_
    refine SW.istore dX3_fly_40 (by decide) rfl rfl ?_
    exact vc
set_option maxHeartbeats 4000000 in
set_option maxRecDepth 20000 in
theorem sgX3_fly_42 {G : GG} {k : Nat} {q : Nat → SG → TU → TH → Prop} {n : Nat} {σ : SG} {τ : TU} {θ : TH} (f : Nat) (t2 : Nat) (x4 : Int32) (x5 : Int32) (x6 : Int32) (x7 : Int32) (hk : 4 ≤ k) (hf : isF f) (ht2 : isM t2) (hW : aw_WT n θ) (vc : (((σ f 13) ≤ x7) → (SW G k mX3_fly (aw_qv q) 0 0 19 [some (.ref 80), some (.ref f), none, none, some (.int x4), some (.int x5), some (.int (x6 + (1 : Int32))), none] [] (n, σ, τ, θ))) ∧ ((¬ (σ f 13) ≤ x7) → (SMi G 3 mX1_headOf 0 0 [.ref f, .ref 81, .int x7, .int (σ 81 2)] n σ τ θ (fun a1 n1 σ1 τ1 θ1 => aw_WT n1 θ1 ∧ (((a1 ≤ 0) → (SW G k mX3_fly (aw_qv q) 0 0 42 [some (.ref 80), some (.ref f), none, none, some (.int x4), some (.int x5), some (.int x6), some (.int (x7 + (1 : Int32)))] [] (n1, σ1, τ1, θ1))) ∧ ((¬ a1 ≤ 0) → ((((σ1 f 12) ≤ (((((75 : Int32) * x5) + (74 : Int32)) - (((75 : Int32) * x5) + (74 : Int32)) / (65537 : Int32) * (65537 : Int32)) - ((((75 : Int32) * x5) + (74 : Int32)) - (((75 : Int32) * x5) + (74 : Int32)) / (65537 : Int32) * (65537 : Int32)) / (100 : Int32) * (100 : Int32))) → (SW G k mX3_fly (aw_qv q) 0 0 42 [some (.ref 80), some (.ref f), none, none, some (.int x4), some (.int ((((75 : Int32) * x5) + (74 : Int32)) - (((75 : Int32) * x5) + (74 : Int32)) / (65537 : Int32) * (65537 : Int32))), some (.int x6), some (.int (x7 + (1 : Int32)))] [] (n1, σ1, τ1, θ1))) ∧ ((¬ (σ1 f 12) ≤ (((((75 : Int32) * x5) + (74 : Int32)) - (((75 : Int32) * x5) + (74 : Int32)) / (65537 : Int32) * (65537 : Int32)) - ((((75 : Int32) * x5) + (74 : Int32)) - (((75 : Int32) * x5) + (74 : Int32)) / (65537 : Int32) * (65537 : Int32)) / (100 : Int32) * (100 : Int32))) → (SMv G 2 mX3_eatFirst 0 0 [.ref 80, .ref f, .int x7] n1 σ1 τ1 θ1 (fun n2 σ2 τ2 θ2 => aw_WT n2 θ2 ∧ (SW G k mX3_fly (aw_qv q) 0 0 42 [some (.ref 80), some (.ref f), none, none, some (.int x4), some (.int ((((75 : Int32) * x5) + (74 : Int32)) - (((75 : Int32) * x5) + (74 : Int32)) / (65537 : Int32) * (65537 : Int32))), some (.int x6), some (.int (x7 + (1 : Int32)))] [] (n2, σ2, τ2, θ2)))))))))))) : SW G k mX3_fly (aw_qv q) 0 0 42 [some (.ref 80), some (.ref f), none, none, some (.int x4), some (.int x5), some (.int x6), some (.int x7)] [] (n, σ, τ, θ) := by
  refine SW.iload dX3_fly_42 rfl ?_
  refine SW.aload_n dX3_fly_44 rfl ?_
  refine SW.getI (f := 13) aw_cl1 (kpF_0 hf) (leF_0 hf).1 (hW.le (leF_0 hf).2) (by decide) ww_419 dX3_fly_45 rfl ?_
  refine SW.icmp_ge 109 dX3_fly_48 (by decide) (fun hbr => ?_) (fun hbr => ?_)
  · replace vc := vc.1 hbr
    refine SW.iinc (v := (x6 + (1 : Int32))) dX3_fly_109 rfl rfl (by decide) rfl rfl ?_
    refine SW.goto 19 dX3_fly_112 (by decide) ?_
    refine SW.msk [true, true, true, true, true, true, true, false] rfl ?_
    exact vc
  · replace vc := vc.2 hbr
    refine SW.aload_n dX3_fly_51 rfl ?_
    refine SW.aload_n dX3_fly_52 rfl ?_
    refine SW.getS (f := 0) (r := 81) aw_cl3 kp_80 (by decide) (hW.le (by decide)) (by decide) ww_311 dX3_fly_53 rfl hW.t80_0 ?_
    refine SW.iload dX3_fly_56 rfl ?_
    refine SW.aload_n dX3_fly_58 rfl ?_
    refine SW.getS (f := 0) (r := 81) aw_cl3 kp_80 (by decide) (hW.le (by decide)) (by decide) ww_311 dX3_fly_59 rfl hW.t80_0 ?_
    refine SW.getI (f := 2) aw_cl2 kp_81 (by decide) (hW.le (by decide)) (by decide) ww_200 dX3_fly_62 rfl ?_
    refine SW.cvi3 kV_X3_32 (by omega) aw_cl1 (kpF_0 hf) (leF_0 hf).1 (hW.le (leF_0 hf).2) rfl (Nat.le_of_ble_eq_true rfl) dX3_fly_65 (SMi.mono vc ?_)
    intro a1 n1 σ1 τ1 θ1 vc
    obtain ⟨hW, vc⟩ := vc
    refine SW.if_le 103 dX3_fly_68 (by decide) (fun hbr => ?_) (fun hbr => ?_)
    · replace vc := vc.1 hbr
      refine SW.iinc (v := (x7 + (1 : Int32))) dX3_fly_103 rfl rfl (by decide) rfl rfl ?_
      refine SW.goto 42 dX3_fly_106 (by decide) ?_
      exact vc
    · replace vc := vc.2 hbr
      refine SW.bipush (v := (75 : Int32)) dX3_fly_71 (by decide) ?_
      refine SW.iload dX3_fly_73 rfl ?_
      refine SW.imul dX3_fly_75 ?_
      refine SW.bipush (v := (74 : Int32)) dX3_fly_76 (by decide) ?_
      refine SW.iadd dX3_fly_78 ?_
      refine SW.ldc (v := (65537 : Int32)) ww_1089 dX3_fly_79 ?_
      refine SW.irem dX3_fly_81 (by decide) ?_
      refine SW.istore dX3_fly_82 (by decide) rfl rfl ?_
      refine SW.iload dX3_fly_84 rfl ?_
      refine SW.bipush (v := (100 : Int32)) dX3_fly_86 (by decide) ?_
      refine SW.irem dX3_fly_88 (by decide) ?_
      refine SW.aload_n dX3_fly_89 rfl ?_
      refine SW.getI (f := 12) aw_cl1 (kpF_0 hf) (leF_0 hf).1 (hW.le (leF_0 hf).2) (by decide) ww_414 dX3_fly_90 rfl ?_
      refine SW.icmp_ge 103 dX3_fly_93 (by decide) (fun hbr => ?_) (fun hbr => ?_)
      · replace vc := vc.1 hbr
        refine SW.iinc (v := (x7 + (1 : Int32))) dX3_fly_103 rfl rfl (by decide) rfl rfl ?_
        refine SW.goto 42 dX3_fly_106 (by decide) ?_
        exact vc
      · replace vc := vc.2 hbr
        refine SW.aload_n dX3_fly_96 rfl ?_
        refine SW.aload_n dX3_fly_97 rfl ?_
        refine SW.iload dX3_fly_98 rfl ?_
        refine SW.cvv2 kV_X3_40 (by omega) aw_cl3 kp_80 (by decide) (hW.le (by decide)) rfl (Nat.le_of_ble_eq_true rfl) dX3_fly_100 (SMv.mono vc ?_)
        intro n2 σ2 τ2 θ2 vc
        obtain ⟨hW, vc⟩ := vc
        refine SW.iinc (v := (x7 + (1 : Int32))) dX3_fly_103 rfl rfl (by decide) rfl rfl ?_
        refine SW.goto 42 dX3_fly_106 (by decide) ?_
        exact vc
theorem ctX3_fly {G : GG} {q : Nat → SG → TU → TH → Prop} {n : Nat} {σ : SG} {τ : TU} {θ : TH} (f : Nat) (t2 : Nat) (x3 : Int32) (x4 : Int32) (h : SW G 4 mX3_fly (aw_qv q) 0 0 0 [some (.ref 80), some (.ref f), some (.ref t2), some (.int x3), some (.int x4), none, none, none] [] (n, σ, τ, θ)) : SMv G 4 mX3_fly 0 0 [.ref 80, .ref f, .ref t2, .int x3, .int x4] n σ τ θ q := SM.of _ rfl rfl (Nat.le_of_ble_eq_true rfl) h
