set_option maxHeartbeats 4000000 in
set_option maxRecDepth 20000 in
theorem sgX10_after_0 {G : GG} {k : Nat} {q : Int32 → Nat → SG → TU → TH → Prop} {n : Nat} {σ : SG} {τ : TU} {θ : TH} (j : Nat) (st : String × Nat × String × List Int32) (x2 : Int32) (x3 : Int32) (hk : 8 ≤ k) (hj : aw_strs[j]? = some st) (hW : aw_WT n θ) (vc : SMv G 7 mX10_must 0 0 [.ref 120, .ref (1000 + j)] n σ τ θ (fun n1 σ1 τ1 θ1 => aw_WT n1 θ1 ∧ (SMi G 3 mX10_number 0 0 [.ref 120, .int x2, .int x3] n1 σ1 τ1 θ1 (fun a2 n2 σ2 τ2 θ2 => aw_WT n2 θ2 ∧ (q a2 n2 σ2 τ2 θ2))))) : SW G k mX10_after (aw_qi q) 0 0 0 [some (.ref 120), some (.ref (1000 + j)), some (.int x2), some (.int x3)] [] (n, σ, τ, θ) := by
  refine SW.aload_n dX10_after_0 rfl ?_
  refine SW.aload_n dX10_after_1 rfl ?_
  refine SW.cvv1 kV_X10_147 (by omega) aw_cl10 kp_120 (by decide) (hW.le (by decide)) rfl (Nat.le_of_ble_eq_true rfl) dX10_after_2 (SMv.mono vc ?_)
  intro n1 σ1 τ1 θ1 vc
  obtain ⟨hW, vc⟩ := vc
  refine SW.aload_n dX10_after_5 rfl ?_
  refine SW.iload_n dX10_after_6 rfl ?_
  refine SW.iload_n dX10_after_7 rfl ?_
  refine SW.cvi2 kV_X10_151 (by omega) aw_cl10 kp_120 (by decide) (hW.le (by decide)) rfl (Nat.le_of_ble_eq_true rfl) dX10_after_8 (SMi.mono vc ?_)
  intro a2 n2 σ2 τ2 θ2 vc
  obtain ⟨hW, vc⟩ := vc
  exact SW.iret dX10_after_11 rfl rfl ⟨_, rfl, vc⟩
theorem ctX10_after {G : GG} {q : Int32 → Nat → SG → TU → TH → Prop} {n : Nat} {σ : SG} {τ : TU} {θ : TH} (j : Nat) (x2 : Int32) (x3 : Int32) (h : SW G 8 mX10_after (aw_qi q) 0 0 0 [some (.ref 120), some (.ref (1000 + j)), some (.int x2), some (.int x3)] [] (n, σ, τ, θ)) : SMi G 8 mX10_after 0 0 [.ref 120, .ref (1000 + j), .int x2, .int x3] n σ τ θ q := SM.of _ rfl rfl (Nat.le_of_ble_eq_true rfl) h
set_option maxHeartbeats 4000000 in
set_option maxRecDepth 20000 in
theorem sgX10_allSets_0 {G : GG} {k : Nat} {q : Int32 → Nat → SG → TU → TH → Prop} {n : Nat} {σ : SG} {τ : TU} {θ : TH}   (hk : 1 ≤ k)  (hW : aw_WT n θ) (vc : q ((1 : Int32) <<< ((σ 123 6) &&& 31)) n σ τ θ) : SW G k mX10_allSets (aw_qi q) 0 0 0 [some (.ref 120)] [] (n, σ, τ, θ) := by
  refine SW.iconst (v := (1 : Int32)) dX10_allSets_0 (by decide) ?_
  refine SW.aload_n dX10_allSets_1 rfl ?_
  refine SW.getS (f := 15) (r := 123) aw_cl10 kp_120 (by decide) (hW.le (by decide)) (by decide) ww_1257 dX10_allSets_2 rfl hW.t120_15 ?_
  refine SW.bipush (v := (6 : Int32)) dX10_allSets_5 (by decide) ?_
  refine SW.iald kp_123 (by decide) (hW.le (by decide)) (vp_in_nI (n := 6) (by decide) (by decide)) dX10_allSets_7 ?_
  refine SW.ishl dX10_allSets_8 ?_
  exact SW.iret dX10_allSets_9 rfl rfl ⟨_, rfl, vc⟩
theorem ctX10_allSets {G : GG} {q : Int32 → Nat → SG → TU → TH → Prop} {n : Nat} {σ : SG} {τ : TU} {θ : TH}  (h : SW G 1 mX10_allSets (aw_qi q) 0 0 0 [some (.ref 120)] [] (n, σ, τ, θ)) : SMi G 1 mX10_allSets 0 0 [.ref 120] n σ τ θ q := SM.of _ rfl rfl (Nat.le_of_ble_eq_true rfl) h
set_option maxHeartbeats 4000000 in
set_option maxRecDepth 20000 in
theorem sgX10_allWeight_0 {G : GG} {k : Nat} {q : Int64 → Nat → SG → TU → TH → Prop} {n : Nat} {σ : SG} {τ : TU} {θ : TH}   (hk : 6 ≤ k)  (hW : aw_WT n θ) (vc : SW G k mX10_allWeight (aw_ql q) 0 0 4 [some (.ref 120), some (.long (0 : Int64)), none, some (.int (0 : Int32))] [] (n, σ, τ, θ)) : SW G k mX10_allWeight (aw_ql q) 0 0 0 [some (.ref 120), none, none, none] [] (n, σ, τ, θ) := by
  refine SW.lconst (v := (0 : Int64)) dX10_allWeight_0 (by decide) ?_
  refine SW.lstore_n dX10_allWeight_1 (by decide) rfl rfl ?_
  refine SW.iconst (v := (0 : Int32)) dX10_allWeight_2 (by decide) ?_
  refine SW.istore_n dX10_allWeight_3 (by decide) rfl rfl ?_
  exact vc
set_option maxHeartbeats 4000000 in
set_option maxRecDepth 20000 in
theorem sgX10_allWeight_4 {G : GG} {k : Nat} {q : Int64 → Nat → SG → TU → TH → Prop} {n : Nat} {σ : SG} {τ : TU} {θ : TH}  (x1 : Int64) (x3 : Int32) (hk : 6 ≤ k)  (hW : aw_WT n θ) (vc : SMi G 1 mX10_allSets 0 0 [.ref 120] n σ τ θ (fun a1 n1 σ1 τ1 θ1 => aw_WT n1 θ1 ∧ (((a1 ≤ x3) → (q x1 n1 σ1 τ1 θ1)) ∧ ((¬ a1 ≤ x3) → (SMl G 5 mX10_weightOf 0 0 [.ref 120, .int x3] n1 σ1 τ1 θ1 (fun a2 n2 σ2 τ2 θ2 => aw_WT n2 θ2 ∧ (SW G k mX10_allWeight (aw_ql q) 0 0 4 [some (.ref 120), some (.long (x1 + a2)), none, some (.int (x3 + (1 : Int32)))] [] (n2, σ2, τ2, θ2)))))))) : SW G k mX10_allWeight (aw_ql q) 0 0 4 [some (.ref 120), some (.long x1), none, some (.int x3)] [] (n, σ, τ, θ) := by
  refine SW.iload_n dX10_allWeight_4 rfl ?_
  refine SW.aload_n dX10_allWeight_5 rfl ?_
  refine SW.cvi0 kV_X10_337 (by omega) aw_cl10 kp_120 (by decide) (hW.le (by decide)) rfl (Nat.le_of_ble_eq_true rfl) dX10_allWeight_6 (SMi.mono vc ?_)
  intro a1 n1 σ1 τ1 θ1 vc
  obtain ⟨hW, vc⟩ := vc
  refine SW.icmp_ge 26 dX10_allWeight_9 (by decide) (fun hbr => ?_) (fun hbr => ?_)
  · replace vc := vc.1 hbr
    refine SW.lload_n dX10_allWeight_26 rfl ?_
    exact SW.lret dX10_allWeight_27 rfl ⟨_, rfl, vc⟩
  · replace vc := vc.2 hbr
    refine SW.lload_n dX10_allWeight_12 rfl ?_
    refine SW.aload_n dX10_allWeight_13 rfl ?_
    refine SW.iload_n dX10_allWeight_14 rfl ?_
    refine SW.cvl1 kV_X10_340 (by omega) aw_cl10 kp_120 (by decide) (hW.le (by decide)) rfl (Nat.le_of_ble_eq_true rfl) dX10_allWeight_15 (SMl.mono vc ?_)
    intro a2 n2 σ2 τ2 θ2 vc
    obtain ⟨hW, vc⟩ := vc
    refine SW.ladd dX10_allWeight_18 ?_
    refine SW.lstore_n dX10_allWeight_19 (by decide) rfl rfl ?_
    refine SW.iinc (v := (x3 + (1 : Int32))) dX10_allWeight_20 rfl rfl (by decide) rfl rfl ?_
    refine SW.goto 4 dX10_allWeight_23 (by decide) ?_
    exact vc
theorem ctX10_allWeight {G : GG} {q : Int64 → Nat → SG → TU → TH → Prop} {n : Nat} {σ : SG} {τ : TU} {θ : TH}  (h : SW G 6 mX10_allWeight (aw_ql q) 0 0 0 [some (.ref 120), none, none, none] [] (n, σ, τ, θ)) : SMl G 6 mX10_allWeight 0 0 [.ref 120] n σ τ θ q := SM.of _ rfl rfl (Nat.le_of_ble_eq_true rfl) h
set_option maxHeartbeats 4000000 in
set_option maxRecDepth 20000 in
theorem sgX10_back_0 {G : GG} {k : Nat} {q : Int32 → Nat → SG → TU → TH → Prop} {n : Nat} {σ : SG} {τ : TU} {θ : TH}  (x1 : Int32) (hk : 2 ≤ k)  (hW : aw_WT n θ) (vc : SMv G 1 mX10_good 0 0 [.ref 120] n σ τ θ (fun n1 σ1 τ1 θ1 => aw_WT n1 θ1 ∧ (SMi G 1 mX10_in 0 0 [.int x1, .int (0 : Int32), .int ((σ1 120 21) - (1 : Int32))] n1 σ1 τ1 θ1 (fun a2 n2 σ2 τ2 θ2 => aw_WT n2 θ2 ∧ (((¬ a2 = 0) → (SMv G 1 mX10_copy 0 0 [.ref 127, .int ((13 : Int32) * x1), .ref 125, .int (0 : Int32), .int (13 : Int32)] n2 σ2 τ2 θ2 (fun n3 σ3 τ3 θ3 => aw_WT n3 θ3 ∧ (q (1 : Int32) n3 (aw_u σ3 120 20 (0 : Int32)) τ3 θ3)))) ∧ ((a2 = 0) → (SMi G 1 mX10_isNot 0 0 [.ref 120, .int (1 : Int32)] n2 σ2 τ2 θ2 (fun a4 n4 σ4 τ4 θ4 => aw_WT n4 θ4 ∧ ((a4 = 0 ∨ a4 = 1) ∧ q a4 n4 σ4 τ4 θ4))))))))) : SW G k mX10_back (aw_qi q) 0 0 0 [some (.ref 120), some (.int x1)] [] (n, σ, τ, θ) := by
  refine SW.aload_n dX10_back_0 rfl ?_
  refine SW.cvv0 kV_X10_154 (by omega) aw_cl10 kp_120 (by decide) (hW.le (by decide)) rfl (Nat.le_of_ble_eq_true rfl) dX10_back_1 (SMv.mono vc ?_)
  intro n1 σ1 τ1 θ1 vc
  obtain ⟨hW, vc⟩ := vc
  refine SW.iload_n dX10_back_4 rfl ?_
  refine SW.iconst (v := (0 : Int32)) dX10_back_5 (by decide) ?_
  refine SW.aload_n dX10_back_6 rfl ?_
  refine SW.getI (f := 21) aw_cl10 kp_120 (by decide) (hW.le (by decide)) (by decide) ww_1263 dX10_back_7 rfl ?_
  refine SW.iconst (v := (1 : Int32)) dX10_back_10 (by decide) ?_
  refine SW.isub dX10_back_11 ?_
  refine SW.csi3 kS_X10_139 (by omega) (Nat.le_of_ble_eq_true rfl) dX10_back_12 (SMi.mono vc ?_)
  intro a2 n2 σ2 τ2 θ2 vc
  obtain ⟨hW, vc⟩ := vc
  refine SW.if_ne 24 dX10_back_15 (by decide) (fun hbr => ?_) (fun hbr => ?_)
  · replace vc := vc.1 hbr
    refine SW.aload_n dX10_back_24 rfl ?_
    refine SW.getS (f := 19) (r := 127) aw_cl10 kp_120 (by decide) (hW.le (by decide)) (by decide) ww_1261 dX10_back_25 rfl hW.t120_19 ?_
    refine SW.bipush (v := (13 : Int32)) dX10_back_28 (by decide) ?_
    refine SW.iload_n dX10_back_30 rfl ?_
    refine SW.imul dX10_back_31 ?_
    refine SW.aload_n dX10_back_32 rfl ?_
    refine SW.getS (f := 17) (r := 125) aw_cl10 kp_120 (by decide) (hW.le (by decide)) (by decide) ww_1259 dX10_back_33 rfl hW.t120_17 ?_
    refine SW.iconst (v := (0 : Int32)) dX10_back_36 (by decide) ?_
    refine SW.bipush (v := (13 : Int32)) dX10_back_37 (by decide) ?_
    refine SW.csv5 kS_X10_163 (by omega) (Nat.le_of_ble_eq_true rfl) dX10_back_39 (SMv.mono vc ?_)
    intro n3 σ3 τ3 θ3 vc
    obtain ⟨hW, vc⟩ := vc
    refine SW.aload_n dX10_back_42 rfl ?_
    refine SW.iconst (v := (0 : Int32)) dX10_back_43 (by decide) ?_
    refine SW.putI (f := 20) aw_cl10 kp_120 (by decide) (hW.le (by decide)) (by decide) ww_1262 (Or.inl rfl) dX10_back_44 rfl rfl rfl ?_
    refine SW.iconst (v := (1 : Int32)) dX10_back_47 (by decide) ?_
    exact SW.iret dX10_back_48 rfl rfl ⟨_, rfl, vc⟩
  · replace vc := vc.2 hbr
    refine SW.aload_n dX10_back_18 rfl ?_
    refine SW.iconst (v := (1 : Int32)) dX10_back_19 (by decide) ?_
    refine SW.cvi1 kV_X10_412 (by omega) aw_cl10 kp_120 (by decide) (hW.le (by decide)) rfl (Nat.le_of_ble_eq_true rfl) dX10_back_20 (SMi.mono vc ?_)
    intro a4 n4 σ4 τ4 θ4 vc
    obtain ⟨hW, vc⟩ := vc
    exact SW.iret dX10_back_23 rfl (aw_nb vc.1) ⟨_, rfl, vc.2⟩
theorem ctX10_back {G : GG} {q : Int32 → Nat → SG → TU → TH → Prop} {n : Nat} {σ : SG} {τ : TU} {θ : TH} (x1 : Int32) (h : SW G 2 mX10_back (aw_qi q) 0 0 0 [some (.ref 120), some (.int x1)] [] (n, σ, τ, θ)) : SMi G 2 mX10_back 0 0 [.ref 120, .int x1] n σ τ θ q := SM.of _ rfl rfl (Nat.le_of_ble_eq_true rfl) h
set_option maxHeartbeats 4000000 in
set_option maxRecDepth 20000 in
theorem sgX10_bald_0 {G : GG} {k : Nat} {q : Int32 → Nat → SG → TU → TH → Prop} {n : Nat} {σ : SG} {τ : TU} {θ : TH}   (hk : 5 ≤ k)  (hW : aw_WT n θ) (vc : SMv G 1 mX10_good 0 0 [.ref 120] n σ τ θ (fun n1 σ1 τ1 θ1 => aw_WT n1 θ1 ∧ (((¬ ((aw_u σ1 120 22 (0 : Int32)) 120 14) = 0) → (SW G k mX10_bald (aw_qi q) 0 0 26 [some (.ref 120), some (.int (0 : Int32)), some (.int (0 : Int32))] [] (n1, (aw_u σ1 120 22 (0 : Int32)), τ1, θ1))) ∧ ((((aw_u σ1 120 22 (0 : Int32)) 120 14) = 0) → (SMi G 1 mX10_no 0 0 [.ref 120, .int (1 : Int32)] n1 (aw_u σ1 120 22 (0 : Int32)) τ1 θ1 (fun a2 n2 σ2 τ2 θ2 => aw_WT n2 θ2 ∧ (q a2 n2 σ2 τ2 θ2))))))) : SW G k mX10_bald (aw_qi q) 0 0 0 [some (.ref 120), none, none] [] (n, σ, τ, θ) := by
  refine SW.aload_n dX10_bald_0 rfl ?_
  refine SW.cvv0 kV_X10_154 (by omega) aw_cl10 kp_120 (by decide) (hW.le (by decide)) rfl (Nat.le_of_ble_eq_true rfl) dX10_bald_1 (SMv.mono vc ?_)
  intro n1 σ1 τ1 θ1 vc
  obtain ⟨hW, vc⟩ := vc
  refine SW.aload_n dX10_bald_4 rfl ?_
  refine SW.iconst (v := (0 : Int32)) dX10_bald_5 (by decide) ?_
  refine SW.putI (f := 22) aw_cl10 kp_120 (by decide) (hW.le (by decide)) (by decide) ww_1264 (Or.inl rfl) dX10_bald_6 rfl rfl rfl ?_
  refine SW.aload_n dX10_bald_9 rfl ?_
  refine SW.getI (f := 14) aw_cl10 kp_120 (by decide) (hW.le (by decide)) (by decide) ww_1256 dX10_bald_10 rfl ?_
  refine SW.if_ne 22 dX10_bald_13 (by decide) (fun hbr => ?_) (fun hbr => ?_)
  · replace vc := vc.1 hbr
    refine SW.iconst (v := (0 : Int32)) dX10_bald_22 (by decide) ?_
    refine SW.istore_n dX10_bald_23 (by decide) rfl rfl ?_
    refine SW.iconst (v := (0 : Int32)) dX10_bald_24 (by decide) ?_
    refine SW.istore_n dX10_bald_25 (by decide) rfl rfl ?_
    exact vc
  · replace vc := vc.2 hbr
    refine SW.aload_n dX10_bald_16 rfl ?_
    refine SW.iconst (v := (1 : Int32)) dX10_bald_17 (by decide) ?_
    refine SW.cvi1 kV_X10_157 (by omega) aw_cl10 kp_120 (by decide) (hW.le (by decide)) rfl (Nat.le_of_ble_eq_true rfl) dX10_bald_18 (SMi.mono vc ?_)
    intro a2 n2 σ2 τ2 θ2 vc
    obtain ⟨hW, vc⟩ := vc
    exact SW.iret dX10_bald_21 rfl rfl ⟨_, rfl, vc⟩
set_option maxHeartbeats 4000000 in
set_option maxRecDepth 20000 in
theorem sgX10_bald_26 {G : GG} {k : Nat} {q : Int32 → Nat → SG → TU → TH → Prop} {n : Nat} {σ : SG} {τ : TU} {θ : TH}  (x1 : Int32) (x2 : Int32) (hk : 5 ≤ k)  (hW : aw_WT n θ) (vc : (((σ 123 4) ≤ x2) → (q x1 n σ τ θ)) ∧ ((¬ (σ 123 4) ≤ x2) → (SMi G 4 mX10_headOf 0 0 [.ref 120, .ref 125, .int x2] n σ τ θ (fun a1 n1 σ1 τ1 θ1 => aw_WT n1 θ1 ∧ (((¬ a1 = 0) → (SW G k mX10_bald (aw_qi q) 0 0 26 [some (.ref 120), some (.int (x1 ||| (0 : Int32))), some (.int (x2 + (1 : Int32)))] [] (n1, σ1, τ1, θ1))) ∧ ((a1 = 0) → (SW G k mX10_bald (aw_qi q) 0 0 26 [some (.ref 120), some (.int (x1 ||| ((1 : Int32) <<< (x2 &&& 31)))), some (.int (x2 + (1 : Int32)))] [] (n1, σ1, τ1, θ1)))))))) : SW G k mX10_bald (aw_qi q) 0 0 26 [some (.ref 120), some (.int x1), some (.int x2)] [] (n, σ, τ, θ) := by
  refine SW.iload_n dX10_bald_26 rfl ?_
  refine SW.aload_n dX10_bald_27 rfl ?_
  refine SW.getS (f := 15) (r := 123) aw_cl10 kp_120 (by decide) (hW.le (by decide)) (by decide) ww_1257 dX10_bald_28 rfl hW.t120_15 ?_
  refine SW.iconst (v := (4 : Int32)) dX10_bald_31 (by decide) ?_
  refine SW.iald kp_123 (by decide) (hW.le (by decide)) (vp_in_nI (n := 4) (by decide) (by decide)) dX10_bald_32 ?_
  refine SW.icmp_ge 64 dX10_bald_33 (by decide) (fun hbr => ?_) (fun hbr => ?_)
  · replace vc := vc.1 hbr
    refine SW.iload_n dX10_bald_64 rfl ?_
    exact SW.iret dX10_bald_65 rfl rfl ⟨_, rfl, vc⟩
  · replace vc := vc.2 hbr
    refine SW.iload_n dX10_bald_36 rfl ?_
    refine SW.aload_n dX10_bald_37 rfl ?_
    refine SW.aload_n dX10_bald_38 rfl ?_
    refine SW.getS (f := 17) (r := 125) aw_cl10 kp_120 (by decide) (hW.le (by decide)) (by decide) ww_1259 dX10_bald_39 rfl hW.t120_17 ?_
    refine SW.iload_n dX10_bald_42 rfl ?_
    refine SW.cvi2 kV_X10_261 (by omega) aw_cl10 kp_120 (by decide) (hW.le (by decide)) rfl (Nat.le_of_ble_eq_true rfl) dX10_bald_43 (SMi.mono vc ?_)
    intro a1 n1 σ1 τ1 θ1 vc
    obtain ⟨hW, vc⟩ := vc
    refine SW.if_ne 55 dX10_bald_46 (by decide) (fun hbr => ?_) (fun hbr => ?_)
    · replace vc := vc.1 hbr
      refine SW.iconst (v := (0 : Int32)) dX10_bald_55 (by decide) ?_
      refine SW.ior dX10_bald_56 ?_
      refine SW.istore_n dX10_bald_57 (by decide) rfl rfl ?_
      refine SW.iinc (v := (x2 + (1 : Int32))) dX10_bald_58 rfl rfl (by decide) rfl rfl ?_
      refine SW.goto 26 dX10_bald_61 (by decide) ?_
      exact vc
    · replace vc := vc.2 hbr
      refine SW.iconst (v := (1 : Int32)) dX10_bald_49 (by decide) ?_
      refine SW.iload_n dX10_bald_50 rfl ?_
      refine SW.ishl dX10_bald_51 ?_
      refine SW.goto 56 dX10_bald_52 (by decide) ?_
      refine SW.ior dX10_bald_56 ?_
      refine SW.istore_n dX10_bald_57 (by decide) rfl rfl ?_
      refine SW.iinc (v := (x2 + (1 : Int32))) dX10_bald_58 rfl rfl (by decide) rfl rfl ?_
      refine SW.goto 26 dX10_bald_61 (by decide) ?_
      exact vc
theorem ctX10_bald {G : GG} {q : Int32 → Nat → SG → TU → TH → Prop} {n : Nat} {σ : SG} {τ : TU} {θ : TH}  (h : SW G 5 mX10_bald (aw_qi q) 0 0 0 [some (.ref 120), none, none] [] (n, σ, τ, θ)) : SMi G 5 mX10_bald 0 0 [.ref 120] n σ τ θ q := SM.of _ rfl rfl (Nat.le_of_ble_eq_true rfl) h
set_option maxHeartbeats 4000000 in
set_option maxRecDepth 20000 in
theorem sgX10_begins_0 {G : GG} {k : Nat} {q : Int32 → Nat → SG → TU → TH → Prop} {n : Nat} {σ : SG} {τ : TU} {θ : TH} (j : Nat) (st : String × Nat × String × List Int32) (x2 : Int32) (hk : 6 ≤ k) (hj : aw_strs[j]? = some st) (hW : aw_WT n θ) (vc : SMi G 5 mX10_isWord 0 0 [.ref 120, .ref (1000 + j)] n σ τ θ (fun a1 n1 σ1 τ1 θ1 => aw_WT n1 θ1 ∧ (((¬ a1 = 0) → (((¬ x2 = 0) → (((¬ (σ1 124 0) = 0) → (SMv G 3 mX10_pass 0 0 [.ref 120] n1 σ1 τ1 θ1 (fun n2 σ2 τ2 θ2 => aw_WT n2 θ2 ∧ (q (1 : Int32) n2 σ2 τ2 θ2)))) ∧ (((σ1 124 0) = 0) → (SMv G 1 mX10_wrong 0 0 [.ref 120, .int (6 : Int32), .int (σ1 120 4)] n1 σ1 τ1 θ1 (fun n3 σ3 τ3 θ3 => aw_WT n3 θ3 ∧ (SMv G 3 mX10_pass 0 0 [.ref 120] n3 σ3 τ3 θ3 (fun n4 σ4 τ4 θ4 => aw_WT n4 θ4 ∧ (q (1 : Int32) n4 σ4 τ4 θ4)))))))) ∧ ((x2 = 0) → (SMv G 1 mX10_wrong 0 0 [.ref 120, .int (5 : Int32), .int (σ1 120 4)] n1 σ1 τ1 θ1 (fun n5 σ5 τ5 θ5 => aw_WT n5 θ5 ∧ (((¬ (σ5 124 0) = 0) → (SMv G 3 mX10_pass 0 0 [.ref 120] n5 σ5 τ5 θ5 (fun n6 σ6 τ6 θ6 => aw_WT n6 θ6 ∧ (q (1 : Int32) n6 σ6 τ6 θ6)))) ∧ (((σ5 124 0) = 0) → (SMv G 1 mX10_wrong 0 0 [.ref 120, .int (6 : Int32), .int (σ5 120 4)] n5 σ5 τ5 θ5 (fun n7 σ7 τ7 θ7 => aw_WT n7 θ7 ∧ (SMv G 3 mX10_pass 0 0 [.ref 120] n7 σ7 τ7 θ7 (fun n8 σ8 τ8 θ8 => aw_WT n8 θ8 ∧ (q (1 : Int32) n8 σ8 τ8 θ8)))))))))))) ∧ ((a1 = 0) → (q (0 : Int32) n1 σ1 τ1 θ1))))) : SW G k mX10_begins (aw_qi q) 0 0 0 [some (.ref 120), some (.ref (1000 + j)), some (.int x2)] [] (n, σ, τ, θ) := by
  refine SW.aload_n dX10_begins_0 rfl ?_
  refine SW.aload_n dX10_begins_1 rfl ?_
  refine SW.cvi1 kV_X10_105 (by omega) aw_cl10 kp_120 (by decide) (hW.le (by decide)) rfl (Nat.le_of_ble_eq_true rfl) dX10_begins_2 (SMi.mono vc ?_)
  intro a1 n1 σ1 τ1 θ1 vc
  obtain ⟨hW, vc⟩ := vc
  refine SW.if_ne 10 dX10_begins_5 (by decide) (fun hbr => ?_) (fun hbr => ?_)
  · replace vc := vc.1 hbr
    refine SW.iload_n dX10_begins_10 rfl ?_
    refine SW.if_ne 23 dX10_begins_11 (by decide) (fun hbr => ?_) (fun hbr => ?_)
    · replace vc := vc.1 hbr
      refine SW.aload_n dX10_begins_23 rfl ?_
      refine SW.getS (f := 16) (r := 124) aw_cl10 kp_120 (by decide) (hW.le (by decide)) (by decide) ww_1258 dX10_begins_24 rfl hW.t120_16 ?_
      refine SW.iconst (v := (0 : Int32)) dX10_begins_27 (by decide) ?_
      refine SW.iald kp_124 (by decide) (hW.le (by decide)) (vp_in_nI (n := 0) (by decide) (by decide)) dX10_begins_28 ?_
      refine SW.if_ne 42 dX10_begins_29 (by decide) (fun hbr => ?_) (fun hbr => ?_)
      · replace vc := vc.1 hbr
        refine SW.aload_n dX10_begins_42 rfl ?_
        refine SW.cvv0 kV_X10_176 (by omega) aw_cl10 kp_120 (by decide) (hW.le (by decide)) rfl (Nat.le_of_ble_eq_true rfl) dX10_begins_43 (SMv.mono vc ?_)
        intro n2 σ2 τ2 θ2 vc
        obtain ⟨hW, vc⟩ := vc
        refine SW.iconst (v := (1 : Int32)) dX10_begins_46 (by decide) ?_
        exact SW.iret dX10_begins_47 rfl rfl ⟨_, rfl, vc⟩
      · replace vc := vc.2 hbr
        refine SW.aload_n dX10_begins_32 rfl ?_
        refine SW.bipush (v := (6 : Int32)) dX10_begins_33 (by decide) ?_
        refine SW.aload_n dX10_begins_35 rfl ?_
        refine SW.getI (f := 4) aw_cl10 kp_120 (by decide) (hW.le (by decide)) (by decide) ww_1246 dX10_begins_36 rfl ?_
        refine SW.cvv2 kV_X10_115 (by omega) aw_cl10 kp_120 (by decide) (hW.le (by decide)) rfl (Nat.le_of_ble_eq_true rfl) dX10_begins_39 (SMv.mono vc ?_)
        intro n3 σ3 τ3 θ3 vc
        obtain ⟨hW, vc⟩ := vc
        refine SW.aload_n dX10_begins_42 rfl ?_
        refine SW.cvv0 kV_X10_176 (by omega) aw_cl10 kp_120 (by decide) (hW.le (by decide)) rfl (Nat.le_of_ble_eq_true rfl) dX10_begins_43 (SMv.mono vc ?_)
        intro n4 σ4 τ4 θ4 vc
        obtain ⟨hW, vc⟩ := vc
        refine SW.iconst (v := (1 : Int32)) dX10_begins_46 (by decide) ?_
        exact SW.iret dX10_begins_47 rfl rfl ⟨_, rfl, vc⟩
    · replace vc := vc.2 hbr
      refine SW.aload_n dX10_begins_14 rfl ?_
      refine SW.iconst (v := (5 : Int32)) dX10_begins_15 (by decide) ?_
      refine SW.aload_n dX10_begins_16 rfl ?_
      refine SW.getI (f := 4) aw_cl10 kp_120 (by decide) (hW.le (by decide)) (by decide) ww_1246 dX10_begins_17 rfl ?_
      refine SW.cvv2 kV_X10_115 (by omega) aw_cl10 kp_120 (by decide) (hW.le (by decide)) rfl (Nat.le_of_ble_eq_true rfl) dX10_begins_20 (SMv.mono vc ?_)
      intro n5 σ5 τ5 θ5 vc
      obtain ⟨hW, vc⟩ := vc
      refine SW.aload_n dX10_begins_23 rfl ?_
      refine SW.getS (f := 16) (r := 124) aw_cl10 kp_120 (by decide) (hW.le (by decide)) (by decide) ww_1258 dX10_begins_24 rfl hW.t120_16 ?_
      refine SW.iconst (v := (0 : Int32)) dX10_begins_27 (by decide) ?_
      refine SW.iald kp_124 (by decide) (hW.le (by decide)) (vp_in_nI (n := 0) (by decide) (by decide)) dX10_begins_28 ?_
      refine SW.if_ne 42 dX10_begins_29 (by decide) (fun hbr => ?_) (fun hbr => ?_)
      · replace vc := vc.1 hbr
        refine SW.aload_n dX10_begins_42 rfl ?_
        refine SW.cvv0 kV_X10_176 (by omega) aw_cl10 kp_120 (by decide) (hW.le (by decide)) rfl (Nat.le_of_ble_eq_true rfl) dX10_begins_43 (SMv.mono vc ?_)
        intro n6 σ6 τ6 θ6 vc
        obtain ⟨hW, vc⟩ := vc
        refine SW.iconst (v := (1 : Int32)) dX10_begins_46 (by decide) ?_
        exact SW.iret dX10_begins_47 rfl rfl ⟨_, rfl, vc⟩
      · replace vc := vc.2 hbr
        refine SW.aload_n dX10_begins_32 rfl ?_
        refine SW.bipush (v := (6 : Int32)) dX10_begins_33 (by decide) ?_
        refine SW.aload_n dX10_begins_35 rfl ?_
        refine SW.getI (f := 4) aw_cl10 kp_120 (by decide) (hW.le (by decide)) (by decide) ww_1246 dX10_begins_36 rfl ?_
        refine SW.cvv2 kV_X10_115 (by omega) aw_cl10 kp_120 (by decide) (hW.le (by decide)) rfl (Nat.le_of_ble_eq_true rfl) dX10_begins_39 (SMv.mono vc ?_)
        intro n7 σ7 τ7 θ7 vc
        obtain ⟨hW, vc⟩ := vc
        refine SW.aload_n dX10_begins_42 rfl ?_
        refine SW.cvv0 kV_X10_176 (by omega) aw_cl10 kp_120 (by decide) (hW.le (by decide)) rfl (Nat.le_of_ble_eq_true rfl) dX10_begins_43 (SMv.mono vc ?_)
        intro n8 σ8 τ8 θ8 vc
        obtain ⟨hW, vc⟩ := vc
        refine SW.iconst (v := (1 : Int32)) dX10_begins_46 (by decide) ?_
        exact SW.iret dX10_begins_47 rfl rfl ⟨_, rfl, vc⟩
  · replace vc := vc.2 hbr
    refine SW.iconst (v := (0 : Int32)) dX10_begins_8 (by decide) ?_
    exact SW.iret dX10_begins_9 rfl rfl ⟨_, rfl, vc⟩
theorem ctX10_begins {G : GG} {q : Int32 → Nat → SG → TU → TH → Prop} {n : Nat} {σ : SG} {τ : TU} {θ : TH} (j : Nat) (x2 : Int32) (h : SW G 6 mX10_begins (aw_qi q) 0 0 0 [some (.ref 120), some (.ref (1000 + j)), some (.int x2)] [] (n, σ, τ, θ)) : SMi G 6 mX10_begins 0 0 [.ref 120, .ref (1000 + j), .int x2] n σ τ θ q := SM.of _ rfl rfl (Nat.le_of_ble_eq_true rfl) h
set_option maxHeartbeats 4000000 in
set_option maxRecDepth 20000 in
theorem sgX10_bestRing_0 {G : GG} {k : Nat} {q : Int32 → Nat → SG → TU → TH → Prop} {n : Nat} {σ : SG} {τ : TU} {θ : TH}   (hk : 13 ≤ k)  (hW : aw_WT n θ) (vc : SMv G 1 mX10_good 0 0 [.ref 120] n σ τ θ (fun n1 σ1 τ1 θ1 => aw_WT n1 θ1 ∧ (((¬ (σ1 120 14) = 0) → (SW G k mX10_bestRing (aw_qi q) 0 0 24 [some (.ref 120), some (.int (-2 : Int32)), some (.int (-1 : Int32)), some (.int (0 : Int32)), none] [] (n1, σ1, τ1, θ1))) ∧ (((σ1 120 14) = 0) → (SMi G 1 mX10_no 0 0 [.ref 120, .int (1 : Int32)] n1 σ1 τ1 θ1 (fun a2 n2 σ2 τ2 θ2 => aw_WT n2 θ2 ∧ (q a2 n2 σ2 τ2 θ2))))))) : SW G k mX10_bestRing (aw_qi q) 0 0 0 [some (.ref 120), none, none, none, none] [] (n, σ, τ, θ) := by
  refine SW.aload_n dX10_bestRing_0 rfl ?_
  refine SW.cvv0 kV_X10_154 (by omega) aw_cl10 kp_120 (by decide) (hW.le (by decide)) rfl (Nat.le_of_ble_eq_true rfl) dX10_bestRing_1 (SMv.mono vc ?_)
  intro n1 σ1 τ1 θ1 vc
  obtain ⟨hW, vc⟩ := vc
  refine SW.aload_n dX10_bestRing_4 rfl ?_
  refine SW.getI (f := 14) aw_cl10 kp_120 (by decide) (hW.le (by decide)) (by decide) ww_1256 dX10_bestRing_5 rfl ?_
  refine SW.if_ne 17 dX10_bestRing_8 (by decide) (fun hbr => ?_) (fun hbr => ?_)
  · replace vc := vc.1 hbr
    refine SW.bipush (v := (-2 : Int32)) dX10_bestRing_17 (by decide) ?_
    refine SW.istore_n dX10_bestRing_19 (by decide) rfl rfl ?_
    refine SW.iconst (v := (-1 : Int32)) dX10_bestRing_20 (by decide) ?_
    refine SW.istore_n dX10_bestRing_21 (by decide) rfl rfl ?_
    refine SW.iconst (v := (0 : Int32)) dX10_bestRing_22 (by decide) ?_
    refine SW.istore_n dX10_bestRing_23 (by decide) rfl rfl ?_
    exact vc
  · replace vc := vc.2 hbr
    refine SW.aload_n dX10_bestRing_11 rfl ?_
    refine SW.iconst (v := (1 : Int32)) dX10_bestRing_12 (by decide) ?_
    refine SW.cvi1 kV_X10_157 (by omega) aw_cl10 kp_120 (by decide) (hW.le (by decide)) rfl (Nat.le_of_ble_eq_true rfl) dX10_bestRing_13 (SMi.mono vc ?_)
    intro a2 n2 σ2 τ2 θ2 vc
    obtain ⟨hW, vc⟩ := vc
    exact SW.iret dX10_bestRing_16 rfl rfl ⟨_, rfl, vc⟩
set_option maxHeartbeats 4000000 in
set_option maxRecDepth 20000 in
theorem sgX10_bestRing_24 {G : GG} {k : Nat} {q : Int32 → Nat → SG → TU → TH → Prop} {n : Nat} {σ : SG} {τ : TU} {θ : TH}  (x1 : Int32) (x2 : Int32) (x3 : Int32) (hk : 13 ≤ k)  (hW : aw_WT n θ) (vc : (((σ 123 4) ≤ x3) → (q x1 n σ τ θ)) ∧ ((¬ (σ 123 4) ≤ x3) → (SMi G 12 mX10_seekRing 0 0 [.ref 120, .int x3] n σ τ θ (fun a1 n1 σ1 τ1 θ1 => aw_WT n1 θ1 ∧ (((a1 = 0) → (((x2 < (-1 : Int32)) → (SW G k mX10_bestRing (aw_qi q) 0 0 24 [some (.ref 120), some (.int x3), some (.int (-1 : Int32)), some (.int (x3 + (1 : Int32))), none] [] (n1, σ1, τ1, θ1))) ∧ ((¬ x2 < (-1 : Int32)) → (SW G k mX10_bestRing (aw_qi q) 0 0 24 [some (.ref 120), some (.int x1), some (.int x2), some (.int (x3 + (1 : Int32))), none] [] (n1, σ1, τ1, θ1))))) ∧ ((¬ a1 = 0) → (SMi G 4 mX10_sumOf 0 0 [.ref 120] n1 σ1 τ1 θ1 (fun a2 n2 σ2 τ2 θ2 => aw_WT n2 θ2 ∧ (((x2 < (a2 * (σ2 120 29))) → (SW G k mX10_bestRing (aw_qi q) 0 0 24 [some (.ref 120), some (.int x3), some (.int (a2 * (σ2 120 29))), some (.int (x3 + (1 : Int32))), none] [] (n2, σ2, τ2, θ2))) ∧ ((¬ x2 < (a2 * (σ2 120 29))) → (SW G k mX10_bestRing (aw_qi q) 0 0 24 [some (.ref 120), some (.int x1), some (.int x2), some (.int (x3 + (1 : Int32))), none] [] (n2, σ2, τ2, θ2)))))))))))) : SW G k mX10_bestRing (aw_qi q) 0 0 24 [some (.ref 120), some (.int x1), some (.int x2), some (.int x3), none] [] (n, σ, τ, θ) := by
  refine SW.iload_n dX10_bestRing_24 rfl ?_
  refine SW.aload_n dX10_bestRing_25 rfl ?_
  refine SW.getS (f := 15) (r := 123) aw_cl10 kp_120 (by decide) (hW.le (by decide)) (by decide) ww_1257 dX10_bestRing_26 rfl hW.t120_15 ?_
  refine SW.iconst (v := (4 : Int32)) dX10_bestRing_29 (by decide) ?_
  refine SW.iald kp_123 (by decide) (hW.le (by decide)) (vp_in_nI (n := 4) (by decide) (by decide)) dX10_bestRing_30 ?_
  refine SW.icmp_ge 77 dX10_bestRing_31 (by decide) (fun hbr => ?_) (fun hbr => ?_)
  · replace vc := vc.1 hbr
    refine SW.iload_n dX10_bestRing_77 rfl ?_
    exact SW.iret dX10_bestRing_78 rfl rfl ⟨_, rfl, vc⟩
  · replace vc := vc.2 hbr
    refine SW.aload_n dX10_bestRing_34 rfl ?_
    refine SW.iload_n dX10_bestRing_35 rfl ?_
    refine SW.cvi1 kV_X10_325 (by omega) aw_cl10 kp_120 (by decide) (hW.le (by decide)) rfl (Nat.le_of_ble_eq_true rfl) dX10_bestRing_36 (SMi.mono vc ?_)
    intro a1 n1 σ1 τ1 θ1 vc
    obtain ⟨hW, vc⟩ := vc
    refine SW.if_eq 54 dX10_bestRing_39 (by decide) (fun hbr => ?_) (fun hbr => ?_)
    · replace vc := vc.1 hbr
      refine SW.iconst (v := (-1 : Int32)) dX10_bestRing_54 (by decide) ?_
      refine SW.istore dX10_bestRing_55 (by decide) rfl rfl ?_
      refine SW.iload dX10_bestRing_57 rfl ?_
      refine SW.iload_n dX10_bestRing_59 rfl ?_
      refine SW.icmp_gt 66 dX10_bestRing_60 (by decide) (fun hbr => ?_) (fun hbr => ?_)
      · replace vc := vc.1 hbr
        refine SW.iload_n dX10_bestRing_66 rfl ?_
        refine SW.istore_n dX10_bestRing_67 (by decide) rfl rfl ?_
        refine SW.iload dX10_bestRing_68 rfl ?_
        refine SW.istore_n dX10_bestRing_70 (by decide) rfl rfl ?_
        refine SW.iinc (v := (x3 + (1 : Int32))) dX10_bestRing_71 rfl rfl (by decide) rfl rfl ?_
        refine SW.goto 24 dX10_bestRing_74 (by decide) ?_
        refine SW.msk [true, true, true, true, false] rfl ?_
        exact vc
      · replace vc := vc.2 hbr
        refine SW.goto 71 dX10_bestRing_63 (by decide) ?_
        refine SW.iinc (v := (x3 + (1 : Int32))) dX10_bestRing_71 rfl rfl (by decide) rfl rfl ?_
        refine SW.goto 24 dX10_bestRing_74 (by decide) ?_
        refine SW.msk [true, true, true, true, false] rfl ?_
        exact vc
    · replace vc := vc.2 hbr
      refine SW.aload_n dX10_bestRing_42 rfl ?_
      refine SW.cvi0 kV_X10_328 (by omega) aw_cl10 kp_120 (by decide) (hW.le (by decide)) rfl (Nat.le_of_ble_eq_true rfl) dX10_bestRing_43 (SMi.mono vc ?_)
      intro a2 n2 σ2 τ2 θ2 vc
      obtain ⟨hW, vc⟩ := vc
      refine SW.aload_n dX10_bestRing_46 rfl ?_
      refine SW.getI (f := 29) aw_cl10 kp_120 (by decide) (hW.le (by decide)) (by decide) ww_1271 dX10_bestRing_47 rfl ?_
      refine SW.imul dX10_bestRing_50 ?_
      refine SW.goto 55 dX10_bestRing_51 (by decide) ?_
      refine SW.istore dX10_bestRing_55 (by decide) rfl rfl ?_
      refine SW.iload dX10_bestRing_57 rfl ?_
      refine SW.iload_n dX10_bestRing_59 rfl ?_
      refine SW.icmp_gt 66 dX10_bestRing_60 (by decide) (fun hbr => ?_) (fun hbr => ?_)
      · replace vc := vc.1 hbr
        refine SW.iload_n dX10_bestRing_66 rfl ?_
        refine SW.istore_n dX10_bestRing_67 (by decide) rfl rfl ?_
        refine SW.iload dX10_bestRing_68 rfl ?_
        refine SW.istore_n dX10_bestRing_70 (by decide) rfl rfl ?_
        refine SW.iinc (v := (x3 + (1 : Int32))) dX10_bestRing_71 rfl rfl (by decide) rfl rfl ?_
        refine SW.goto 24 dX10_bestRing_74 (by decide) ?_
        refine SW.msk [true, true, true, true, false] rfl ?_
        exact vc
      · replace vc := vc.2 hbr
        refine SW.goto 71 dX10_bestRing_63 (by decide) ?_
        refine SW.iinc (v := (x3 + (1 : Int32))) dX10_bestRing_71 rfl rfl (by decide) rfl rfl ?_
        refine SW.goto 24 dX10_bestRing_74 (by decide) ?_
        refine SW.msk [true, true, true, true, false] rfl ?_
        exact vc
theorem ctX10_bestRing {G : GG} {q : Int32 → Nat → SG → TU → TH → Prop} {n : Nat} {σ : SG} {τ : TU} {θ : TH}  (h : SW G 13 mX10_bestRing (aw_qi q) 0 0 0 [some (.ref 120), none, none, none, none] [] (n, σ, τ, θ)) : SMi G 13 mX10_bestRing 0 0 [.ref 120] n σ τ θ q := SM.of _ rfl rfl (Nat.le_of_ble_eq_true rfl) h
set_option maxHeartbeats 4000000 in
set_option maxRecDepth 20000 in
theorem sgX10_burdenOf_0 {G : GG} {k : Nat} {q : Int32 → Nat → SG → TU → TH → Prop} {n : Nat} {σ : SG} {τ : TU} {θ : TH} (r1 rn1 : Nat) (x2 : Int32) (hk : 3 ≤ k) (hr1 : isA r1 rn1) (hW : aw_WT n θ) (vc : SW G k mX10_burdenOf (aw_qi q) 0 0 5 [some (.ref 120), some (.ref r1), some (.int x2), some (.int (0 : Int32)), some (.int (0 : Int32)), none] [] (n, σ, τ, θ)) : SW G k mX10_burdenOf (aw_qi q) 0 0 0 [some (.ref 120), some (.ref r1), some (.int x2), none, none, none] [] (n, σ, τ, θ) := by
  refine SW.iconst (v := (0 : Int32)) dX10_burdenOf_0 (by decide) ?_
  refine SW.istore_n dX10_burdenOf_1 (by decide) rfl rfl ?_
  refine SW.iconst (v := (0 : Int32)) dX10_burdenOf_2 (by decide) ?_
  refine SW.istore dX10_burdenOf_3 (by decide) rfl rfl ?_
  exact vc
set_option maxHeartbeats 4000000 in
set_option maxRecDepth 20000 in
theorem sgX10_burdenOf_5 {G : GG} {k : Nat} {q : Int32 → Nat → SG → TU → TH → Prop} {n : Nat} {σ : SG} {τ : TU} {θ : TH} (r1 rn1 : Nat) (x2 : Int32) (x3 : Int32) (x4 : Int32) (hk : 3 ≤ k) (hr1 : isA r1 rn1) (hW : aw_WT n θ) (vc : (((σ 123 5) ≤ x4) → (SW G k mX10_burdenOf (aw_qi q) 0 0 56 [some (.ref 120), some (.ref r1), some (.int x2), some (.int x3), some (.int (0 : Int32)), none] [] (n, σ, τ, θ))) ∧ ((¬ (σ 123 5) ≤ x4) → (SMi G 2 mX10_isOf 0 0 [.ref 120, .ref r1, .int x4, .int x2] n σ τ θ (fun a1 n1 σ1 τ1 θ1 => aw_WT n1 θ1 ∧ (((a1 = 0) → (SW G k mX10_burdenOf (aw_qi q) 0 0 5 [some (.ref 120), some (.ref r1), some (.int x2), some (.int (x3 + (0 : Int32))), some (.int (x4 + (1 : Int32))), none] [] (n1, σ1, τ1, θ1))) ∧ ((¬ a1 = 0) → (vp_in x4 rn1 ∧ (SMi G 1 mX10_upwards 0 0 [.int (σ1 r1 x4.toNatClampNeg), .int (σ1 123 0)] n1 σ1 τ1 θ1 (fun a2 n2 σ2 τ2 θ2 => aw_WT n2 θ2 ∧ (SW G k mX10_burdenOf (aw_qi q) 0 0 5 [some (.ref 120), some (.ref r1), some (.int x2), some (.int (x3 + a2)), some (.int (x4 + (1 : Int32))), none] [] (n2, σ2, τ2, θ2))))))))))) : SW G k mX10_burdenOf (aw_qi q) 0 0 5 [some (.ref 120), some (.ref r1), some (.int x2), some (.int x3), some (.int x4), none] [] (n, σ, τ, θ) := by
  refine SW.iload dX10_burdenOf_5 rfl ?_
  refine SW.aload_n dX10_burdenOf_7 rfl ?_
  refine SW.getS (f := 15) (r := 123) aw_cl10 kp_120 (by decide) (hW.le (by decide)) (by decide) ww_1257 dX10_burdenOf_8 rfl hW.t120_15 ?_
  refine SW.iconst (v := (5 : Int32)) dX10_burdenOf_11 (by decide) ?_
  refine SW.iald kp_123 (by decide) (hW.le (by decide)) (vp_in_nI (n := 5) (by decide) (by decide)) dX10_burdenOf_12 ?_
  refine SW.icmp_ge 53 dX10_burdenOf_13 (by decide) (fun hbr => ?_) (fun hbr => ?_)
  · replace vc := vc.1 hbr
    refine SW.iconst (v := (0 : Int32)) dX10_burdenOf_53 (by decide) ?_
    refine SW.istore dX10_burdenOf_54 (by decide) rfl rfl ?_
    exact vc
  · replace vc := vc.2 hbr
    refine SW.iload_n dX10_burdenOf_16 rfl ?_
    refine SW.aload_n dX10_burdenOf_17 rfl ?_
    refine SW.aload_n dX10_burdenOf_18 rfl ?_
    refine SW.iload dX10_burdenOf_19 rfl ?_
    refine SW.iload_n dX10_burdenOf_21 rfl ?_
    refine SW.cvi3 kV_X10_240 (by omega) aw_cl10 kp_120 (by decide) (hW.le (by decide)) rfl (Nat.le_of_ble_eq_true rfl) dX10_burdenOf_22 (SMi.mono vc ?_)
    intro a1 n1 σ1 τ1 θ1 vc
    obtain ⟨hW, vc⟩ := vc
    refine SW.if_eq 44 dX10_burdenOf_25 (by decide) (fun hbr => ?_) (fun hbr => ?_)
    · replace vc := vc.1 hbr
      refine SW.iconst (v := (0 : Int32)) dX10_burdenOf_44 (by decide) ?_
      refine SW.iadd dX10_burdenOf_45 ?_
      refine SW.istore_n dX10_burdenOf_46 (by decide) rfl rfl ?_
      refine SW.iinc (v := (x4 + (1 : Int32))) dX10_burdenOf_47 rfl rfl (by decide) rfl rfl ?_
      refine SW.goto 5 dX10_burdenOf_50 (by decide) ?_
      exact vc
    · replace vc := vc.2 hbr
      refine SW.aload_n dX10_burdenOf_28 rfl ?_
      refine SW.iload dX10_burdenOf_29 rfl ?_
      refine SW.iald hr1.1 hr1.2.1 (hW.le hr1.2.2) vc.1 dX10_burdenOf_31 ?_
      replace vc := vc.2
      refine SW.aload_n dX10_burdenOf_32 rfl ?_
      refine SW.getS (f := 15) (r := 123) aw_cl10 kp_120 (by decide) (hW.le (by decide)) (by decide) ww_1257 dX10_burdenOf_33 rfl hW.t120_15 ?_
      refine SW.iconst (v := (0 : Int32)) dX10_burdenOf_36 (by decide) ?_
      refine SW.iald kp_123 (by decide) (hW.le (by decide)) (vp_in_nI (n := 0) (by decide) (by decide)) dX10_burdenOf_37 ?_
      refine SW.csi2 kS_X10_244 (by omega) (Nat.le_of_ble_eq_true rfl) dX10_burdenOf_38 (SMi.mono vc ?_)
      intro a2 n2 σ2 τ2 θ2 vc
      obtain ⟨hW, vc⟩ := vc
      refine SW.goto 45 dX10_burdenOf_41 (by decide) ?_
      refine SW.iadd dX10_burdenOf_45 ?_
      refine SW.istore_n dX10_burdenOf_46 (by decide) rfl rfl ?_
      refine SW.iinc (v := (x4 + (1 : Int32))) dX10_burdenOf_47 rfl rfl (by decide) rfl rfl ?_
      refine SW.goto 5 dX10_burdenOf_50 (by decide) ?_
      exact vc
set_option maxHeartbeats 4000000 in
set_option maxRecDepth 20000 in
theorem sgX10_burdenOf_56 {G : GG} {k : Nat} {q : Int32 → Nat → SG → TU → TH → Prop} {n : Nat} {σ : SG} {τ : TU} {θ : TH} (r1 rn1 : Nat) (x2 : Int32) (x3 : Int32) (x4 : Int32) (hk : 3 ≤ k) (hr1 : isA r1 rn1) (hW : aw_WT n θ) (vc : (((σ 123 6) ≤ x4) → (q x3 n σ τ θ)) ∧ ((¬ (σ 123 6) ≤ x4) → (SMi G 1 mX10_hasBit 0 0 [.int (σ 120 22), .int x4] n σ τ θ (fun a1 n1 σ1 τ1 θ1 => aw_WT n1 θ1 ∧ (((a1 = 0) → (SW G k mX10_burdenOf (aw_qi q) 0 0 56 [some (.ref 120), some (.ref r1), some (.int x2), some (.int (x3 + (0 : Int32))), some (.int (x4 + (1 : Int32))), none] [] (n1, σ1, τ1, θ1))) ∧ ((¬ a1 = 0) → (vp_in ((53 : Int32) + ((4 : Int32) * x4)) 167 ∧ (((¬ (σ1 123 ((53 : Int32) + ((4 : Int32) * x4)).toNatClampNeg) = x2) → (SW G k mX10_burdenOf (aw_qi q) 0 0 56 [some (.ref 120), some (.ref r1), some (.int x2), some (.int (x3 + (0 : Int32))), some (.int (x4 + (1 : Int32))), none] [] (n1, σ1, τ1, θ1))) ∧ (((σ1 123 ((53 : Int32) + ((4 : Int32) * x4)).toNatClampNeg) = x2) → (vp_in (((53 : Int32) + ((4 : Int32) * x4)) + (3 : Int32)) 167 ∧ (vp_in (12 : Int32) rn1 ∧ ((((σ1 r1 12) < (σ1 123 (((53 : Int32) + ((4 : Int32) * x4)) + (3 : Int32)).toNatClampNeg)) → (SW G k mX10_burdenOf (aw_qi q) 0 0 56 [some (.ref 120), some (.ref r1), some (.int x2), some (.int (x3 + (0 : Int32))), some (.int (x4 + (1 : Int32))), none] [] (n1, σ1, τ1, θ1))) ∧ ((¬ (σ1 r1 12) < (σ1 123 (((53 : Int32) + ((4 : Int32) * x4)) + (3 : Int32)).toNatClampNeg)) → (vp_in (((53 : Int32) + ((4 : Int32) * x4)) + (2 : Int32)) 167 ∧ (SMi G 1 mX10_upwards 0 0 [.int (σ1 123 (((53 : Int32) + ((4 : Int32) * x4)) + (2 : Int32)).toNatClampNeg), .int (σ1 123 0)] n1 σ1 τ1 θ1 (fun a2 n2 σ2 τ2 θ2 => aw_WT n2 θ2 ∧ (SW G k mX10_burdenOf (aw_qi q) 0 0 56 [some (.ref 120), some (.ref r1), some (.int x2), some (.int (x3 + a2)), some (.int (x4 + (1 : Int32))), none] [] (n2, σ2, τ2, θ2)))))))))))))))))) : SW G k mX10_burdenOf (aw_qi q) 0 0 56 [some (.ref 120), some (.ref r1), some (.int x2), some (.int x3), some (.int x4), none] [] (n, σ, τ, θ) := by
  refine SW.iload dX10_burdenOf_56 rfl ?_
  refine SW.aload_n dX10_burdenOf_58 rfl ?_
  refine SW.getS (f := 15) (r := 123) aw_cl10 kp_120 (by decide) (hW.le (by decide)) (by decide) ww_1257 dX10_burdenOf_59 rfl hW.t120_15 ?_
  refine SW.bipush (v := (6 : Int32)) dX10_burdenOf_62 (by decide) ?_
  refine SW.iald kp_123 (by decide) (hW.le (by decide)) (vp_in_nI (n := 6) (by decide) (by decide)) dX10_burdenOf_64 ?_
  refine SW.icmp_ge 147 dX10_burdenOf_65 (by decide) (fun hbr => ?_) (fun hbr => ?_)
  · replace vc := vc.1 hbr
    refine SW.iload_n dX10_burdenOf_147 rfl ?_
    exact SW.iret dX10_burdenOf_148 rfl rfl ⟨_, rfl, vc⟩
  · replace vc := vc.2 hbr
    refine SW.bipush (v := (53 : Int32)) dX10_burdenOf_68 (by decide) ?_
    refine SW.iconst (v := (4 : Int32)) dX10_burdenOf_70 (by decide) ?_
    refine SW.iload dX10_burdenOf_71 rfl ?_
    refine SW.imul dX10_burdenOf_73 ?_
    refine SW.iadd dX10_burdenOf_74 ?_
    refine SW.istore dX10_burdenOf_75 (by decide) rfl rfl ?_
    refine SW.iload_n dX10_burdenOf_77 rfl ?_
    refine SW.aload_n dX10_burdenOf_78 rfl ?_
    refine SW.getI (f := 22) aw_cl10 kp_120 (by decide) (hW.le (by decide)) (by decide) ww_1264 dX10_burdenOf_79 rfl ?_
    refine SW.iload dX10_burdenOf_82 rfl ?_
    refine SW.csi2 kS_X10_250 (by omega) (Nat.le_of_ble_eq_true rfl) dX10_burdenOf_84 (SMi.mono vc ?_)
    intro a1 n1 σ1 τ1 θ1 vc
    obtain ⟨hW, vc⟩ := vc
    refine SW.if_eq 138 dX10_burdenOf_87 (by decide) (fun hbr => ?_) (fun hbr => ?_)
    · replace vc := vc.1 hbr
      refine SW.iconst (v := (0 : Int32)) dX10_burdenOf_138 (by decide) ?_
      refine SW.iadd dX10_burdenOf_139 ?_
      refine SW.istore_n dX10_burdenOf_140 (by decide) rfl rfl ?_
      refine SW.iinc (v := (x4 + (1 : Int32))) dX10_burdenOf_141 rfl rfl (by decide) rfl rfl ?_
      refine SW.goto 56 dX10_burdenOf_144 (by decide) ?_
      refine SW.msk [true, true, true, true, true, false] rfl ?_
      exact vc
    · replace vc := vc.2 hbr
      refine SW.aload_n dX10_burdenOf_90 rfl ?_
      refine SW.getS (f := 15) (r := 123) aw_cl10 kp_120 (by decide) (hW.le (by decide)) (by decide) ww_1257 dX10_burdenOf_91 rfl hW.t120_15 ?_
      refine SW.iload dX10_burdenOf_94 rfl ?_
      refine SW.iald kp_123 (by decide) (hW.le (by decide)) vc.1 dX10_burdenOf_96 ?_
      replace vc := vc.2
      refine SW.iload_n dX10_burdenOf_97 rfl ?_
      refine SW.icmp_ne 138 dX10_burdenOf_98 (by decide) (fun hbr => ?_) (fun hbr => ?_)
      · replace vc := vc.1 hbr
        refine SW.iconst (v := (0 : Int32)) dX10_burdenOf_138 (by decide) ?_
        refine SW.iadd dX10_burdenOf_139 ?_
        refine SW.istore_n dX10_burdenOf_140 (by decide) rfl rfl ?_
        refine SW.iinc (v := (x4 + (1 : Int32))) dX10_burdenOf_141 rfl rfl (by decide) rfl rfl ?_
        refine SW.goto 56 dX10_burdenOf_144 (by decide) ?_
        refine SW.msk [true, true, true, true, true, false] rfl ?_
        exact vc
      · replace vc := vc.2 hbr
        refine SW.aload_n dX10_burdenOf_101 rfl ?_
        refine SW.getS (f := 15) (r := 123) aw_cl10 kp_120 (by decide) (hW.le (by decide)) (by decide) ww_1257 dX10_burdenOf_102 rfl hW.t120_15 ?_
        refine SW.iload dX10_burdenOf_105 rfl ?_
        refine SW.iconst (v := (3 : Int32)) dX10_burdenOf_107 (by decide) ?_
        refine SW.iadd dX10_burdenOf_108 ?_
        refine SW.iald kp_123 (by decide) (hW.le (by decide)) vc.1 dX10_burdenOf_109 ?_
        replace vc := vc.2
        refine SW.aload_n dX10_burdenOf_110 rfl ?_
        refine SW.bipush (v := (12 : Int32)) dX10_burdenOf_111 (by decide) ?_
        refine SW.iald hr1.1 hr1.2.1 (hW.le hr1.2.2) vc.1 dX10_burdenOf_113 ?_
        replace vc := vc.2
        refine SW.icmp_gt 138 dX10_burdenOf_114 (by decide) (fun hbr => ?_) (fun hbr => ?_)
        · replace vc := vc.1 hbr
          refine SW.iconst (v := (0 : Int32)) dX10_burdenOf_138 (by decide) ?_
          refine SW.iadd dX10_burdenOf_139 ?_
          refine SW.istore_n dX10_burdenOf_140 (by decide) rfl rfl ?_
          refine SW.iinc (v := (x4 + (1 : Int32))) dX10_burdenOf_141 rfl rfl (by decide) rfl rfl ?_
          refine SW.goto 56 dX10_burdenOf_144 (by decide) ?_
          refine SW.msk [true, true, true, true, true, false] rfl ?_
          exact vc
        · replace vc := vc.2 hbr
          refine SW.aload_n dX10_burdenOf_117 rfl ?_
          refine SW.getS (f := 15) (r := 123) aw_cl10 kp_120 (by decide) (hW.le (by decide)) (by decide) ww_1257 dX10_burdenOf_118 rfl hW.t120_15 ?_
          refine SW.iload dX10_burdenOf_121 rfl ?_
          refine SW.iconst (v := (2 : Int32)) dX10_burdenOf_123 (by decide) ?_
          refine SW.iadd dX10_burdenOf_124 ?_
          refine SW.iald kp_123 (by decide) (hW.le (by decide)) vc.1 dX10_burdenOf_125 ?_
          replace vc := vc.2
          refine SW.aload_n dX10_burdenOf_126 rfl ?_
          refine SW.getS (f := 15) (r := 123) aw_cl10 kp_120 (by decide) (hW.le (by decide)) (by decide) ww_1257 dX10_burdenOf_127 rfl hW.t120_15 ?_
          refine SW.iconst (v := (0 : Int32)) dX10_burdenOf_130 (by decide) ?_
          refine SW.iald kp_123 (by decide) (hW.le (by decide)) (vp_in_nI (n := 0) (by decide) (by decide)) dX10_burdenOf_131 ?_
          refine SW.csi2 kS_X10_244 (by omega) (Nat.le_of_ble_eq_true rfl) dX10_burdenOf_132 (SMi.mono vc ?_)
          intro a2 n2 σ2 τ2 θ2 vc
          obtain ⟨hW, vc⟩ := vc
          refine SW.goto 139 dX10_burdenOf_135 (by decide) ?_
          refine SW.iadd dX10_burdenOf_139 ?_
          refine SW.istore_n dX10_burdenOf_140 (by decide) rfl rfl ?_
          refine SW.iinc (v := (x4 + (1 : Int32))) dX10_burdenOf_141 rfl rfl (by decide) rfl rfl ?_
          refine SW.goto 56 dX10_burdenOf_144 (by decide) ?_
          refine SW.msk [true, true, true, true, true, false] rfl ?_
          exact vc
theorem ctX10_burdenOf {G : GG} {q : Int32 → Nat → SG → TU → TH → Prop} {n : Nat} {σ : SG} {τ : TU} {θ : TH} (r1 rn1 : Nat) (x2 : Int32) (h : SW G 3 mX10_burdenOf (aw_qi q) 0 0 0 [some (.ref 120), some (.ref r1), some (.int x2), none, none, none] [] (n, σ, τ, θ)) : SMi G 3 mX10_burdenOf 0 0 [.ref 120, .ref r1, .int x2] n σ τ θ q := SM.of _ rfl rfl (Nat.le_of_ble_eq_true rfl) h
set_option maxHeartbeats 4000000 in
set_option maxRecDepth 20000 in
theorem sgX10_cheapest_0 {G : GG} {k : Nat} {q : Int32 → Nat → SG → TU → TH → Prop} {n : Nat} {σ : SG} {τ : TU} {θ : TH}  (x1 : Int32) (hk : 4 ≤ k)  (hW : aw_WT n θ) (vc : SMv G 1 mX10_good 0 0 [.ref 120] n σ τ θ (fun n1 σ1 τ1 θ1 => aw_WT n1 θ1 ∧ (SMi G 2 mX10_isMan 0 0 [.ref 120, .int x1] n1 σ1 τ1 θ1 (fun a2 n2 σ2 τ2 θ2 => aw_WT n2 θ2 ∧ (((a2 = 0) → (SMi G 1 mX10_no 0 0 [.ref 120, .int (1 : Int32)] n2 σ2 τ2 θ2 (fun a3 n3 σ3 τ3 θ3 => aw_WT n3 θ3 ∧ (q a3 n3 σ3 τ3 θ3)))) ∧ ((¬ a2 = 0) → (SMi G 3 mX10_cheapestOf 0 0 [.ref 120, .ref 125, .int x1] n2 σ2 τ2 θ2 (fun a4 n4 σ4 τ4 θ4 => aw_WT n4 θ4 ∧ (q a4 n4 σ4 τ4 θ4))))))))) : SW G k mX10_cheapest (aw_qi q) 0 0 0 [some (.ref 120), some (.int x1)] [] (n, σ, τ, θ) := by
  refine SW.aload_n dX10_cheapest_0 rfl ?_
  refine SW.cvv0 kV_X10_154 (by omega) aw_cl10 kp_120 (by decide) (hW.le (by decide)) rfl (Nat.le_of_ble_eq_true rfl) dX10_cheapest_1 (SMv.mono vc ?_)
  intro n1 σ1 τ1 θ1 vc
  obtain ⟨hW, vc⟩ := vc
  refine SW.aload_n dX10_cheapest_4 rfl ?_
  refine SW.iload_n dX10_cheapest_5 rfl ?_
  refine SW.cvi1 kV_X10_264 (by omega) aw_cl10 kp_120 (by decide) (hW.le (by decide)) rfl (Nat.le_of_ble_eq_true rfl) dX10_cheapest_6 (SMi.mono vc ?_)
  intro a2 n2 σ2 τ2 θ2 vc
  obtain ⟨hW, vc⟩ := vc
  refine SW.if_eq 24 dX10_cheapest_9 (by decide) (fun hbr => ?_) (fun hbr => ?_)
  · replace vc := vc.1 hbr
    refine SW.aload_n dX10_cheapest_24 rfl ?_
    refine SW.iconst (v := (1 : Int32)) dX10_cheapest_25 (by decide) ?_
    refine SW.cvi1 kV_X10_157 (by omega) aw_cl10 kp_120 (by decide) (hW.le (by decide)) rfl (Nat.le_of_ble_eq_true rfl) dX10_cheapest_26 (SMi.mono vc ?_)
    intro a3 n3 σ3 τ3 θ3 vc
    obtain ⟨hW, vc⟩ := vc
    exact SW.iret dX10_cheapest_29 rfl rfl ⟨_, rfl, vc⟩
  · replace vc := vc.2 hbr
    refine SW.aload_n dX10_cheapest_12 rfl ?_
    refine SW.aload_n dX10_cheapest_13 rfl ?_
    refine SW.getS (f := 17) (r := 125) aw_cl10 kp_120 (by decide) (hW.le (by decide)) (by decide) ww_1259 dX10_cheapest_14 rfl hW.t120_17 ?_
    refine SW.iload_n dX10_cheapest_17 rfl ?_
    refine SW.cvi2 kV_X10_299 (by omega) aw_cl10 kp_120 (by decide) (hW.le (by decide)) rfl (Nat.le_of_ble_eq_true rfl) dX10_cheapest_18 (SMi.mono vc ?_)
    intro a4 n4 σ4 τ4 θ4 vc
    obtain ⟨hW, vc⟩ := vc
    refine SW.goto 29 dX10_cheapest_21 (by decide) ?_
    exact SW.iret dX10_cheapest_29 rfl rfl ⟨_, rfl, vc⟩
theorem ctX10_cheapest {G : GG} {q : Int32 → Nat → SG → TU → TH → Prop} {n : Nat} {σ : SG} {τ : TU} {θ : TH} (x1 : Int32) (h : SW G 4 mX10_cheapest (aw_qi q) 0 0 0 [some (.ref 120), some (.int x1)] [] (n, σ, τ, θ)) : SMi G 4 mX10_cheapest 0 0 [.ref 120, .int x1] n σ τ θ q := SM.of _ rfl rfl (Nat.le_of_ble_eq_true rfl) h
set_option maxHeartbeats 4000000 in
set_option maxRecDepth 20000 in
theorem sgX10_cheapestOf_0 {G : GG} {k : Nat} {q : Int32 → Nat → SG → TU → TH → Prop} {n : Nat} {σ : SG} {τ : TU} {θ : TH} (r1 rn1 : Nat) (x2 : Int32) (hk : 3 ≤ k) (hr1 : isA r1 rn1) (hW : aw_WT n θ) (vc : SW G k mX10_cheapestOf (aw_qi q) 0 0 6 [some (.ref 120), some (.ref r1), some (.int x2), some (.int (-2 : Int32)), some (.int (0 : Int32))] [] (n, σ, τ, θ)) : SW G k mX10_cheapestOf (aw_qi q) 0 0 0 [some (.ref 120), some (.ref r1), some (.int x2), none, none] [] (n, σ, τ, θ) := by
  refine SW.bipush (v := (-2 : Int32)) dX10_cheapestOf_0 (by decide) ?_
  refine SW.istore_n dX10_cheapestOf_2 (by decide) rfl rfl ?_
  refine SW.iconst (v := (0 : Int32)) dX10_cheapestOf_3 (by decide) ?_
  refine SW.istore dX10_cheapestOf_4 (by decide) rfl rfl ?_
  exact vc
set_option maxHeartbeats 4000000 in
set_option maxRecDepth 20000 in
theorem sgX10_cheapestOf_6 {G : GG} {k : Nat} {q : Int32 → Nat → SG → TU → TH → Prop} {n : Nat} {σ : SG} {τ : TU} {θ : TH} (r1 rn1 : Nat) (x2 : Int32) (x3 : Int32) (x4 : Int32) (hk : 3 ≤ k) (hr1 : isA r1 rn1) (hW : aw_WT n θ) (vc : (((σ 123 5) ≤ x4) → (q x3 n σ τ θ)) ∧ ((¬ (σ 123 5) ≤ x4) → (SMi G 2 mX10_isOf 0 0 [.ref 120, .ref r1, .int x4, .int x2] n σ τ θ (fun a1 n1 σ1 τ1 θ1 => aw_WT n1 θ1 ∧ (((a1 = 0) → (SW G k mX10_cheapestOf (aw_qi q) 0 0 6 [some (.ref 120), some (.ref r1), some (.int x2), some (.int x3), some (.int (x4 + (1 : Int32)))] [] (n1, σ1, τ1, θ1))) ∧ ((¬ a1 = 0) → (((x3 < 0) → (SW G k mX10_cheapestOf (aw_qi q) 0 0 6 [some (.ref 120), some (.ref r1), some (.int x2), some (.int x4), some (.int (x4 + (1 : Int32)))] [] (n1, σ1, τ1, θ1))) ∧ ((¬ x3 < 0) → (SMi G 2 mX10_nextTine 0 0 [.ref 120, .ref r1, .int x4] n1 σ1 τ1 θ1 (fun a2 n2 σ2 τ2 θ2 => aw_WT n2 θ2 ∧ (SMi G 2 mX10_nextTine 0 0 [.ref 120, .ref r1, .int x3] n2 σ2 τ2 θ2 (fun a3 n3 σ3 τ3 θ3 => aw_WT n3 θ3 ∧ (((a3 ≤ a2) → (SW G k mX10_cheapestOf (aw_qi q) 0 0 6 [some (.ref 120), some (.ref r1), some (.int x2), some (.int x3), some (.int (x4 + (1 : Int32)))] [] (n3, σ3, τ3, θ3))) ∧ ((¬ a3 ≤ a2) → (SW G k mX10_cheapestOf (aw_qi q) 0 0 6 [some (.ref 120), some (.ref r1), some (.int x2), some (.int x4), some (.int (x4 + (1 : Int32)))] [] (n3, σ3, τ3, θ3)))))))))))))))) : SW G k mX10_cheapestOf (aw_qi q) 0 0 6 [some (.ref 120), some (.ref r1), some (.int x2), some (.int x3), some (.int x4)] [] (n, σ, τ, θ) := by
  refine SW.iload dX10_cheapestOf_6 rfl ?_
  refine SW.aload_n dX10_cheapestOf_8 rfl ?_
  refine SW.getS (f := 15) (r := 123) aw_cl10 kp_120 (by decide) (hW.le (by decide)) (by decide) ww_1257 dX10_cheapestOf_9 rfl hW.t120_15 ?_
  refine SW.iconst (v := (5 : Int32)) dX10_cheapestOf_12 (by decide) ?_
  refine SW.iald kp_123 (by decide) (hW.le (by decide)) (vp_in_nI (n := 5) (by decide) (by decide)) dX10_cheapestOf_13 ?_
  refine SW.icmp_ge 57 dX10_cheapestOf_14 (by decide) (fun hbr => ?_) (fun hbr => ?_)
  · replace vc := vc.1 hbr
    refine SW.iload_n dX10_cheapestOf_57 rfl ?_
    exact SW.iret dX10_cheapestOf_58 rfl rfl ⟨_, rfl, vc⟩
  · replace vc := vc.2 hbr
    refine SW.aload_n dX10_cheapestOf_17 rfl ?_
    refine SW.aload_n dX10_cheapestOf_18 rfl ?_
    refine SW.iload dX10_cheapestOf_19 rfl ?_
    refine SW.iload_n dX10_cheapestOf_21 rfl ?_
    refine SW.cvi3 kV_X10_240 (by omega) aw_cl10 kp_120 (by decide) (hW.le (by decide)) rfl (Nat.le_of_ble_eq_true rfl) dX10_cheapestOf_22 (SMi.mono vc ?_)
    intro a1 n1 σ1 τ1 θ1 vc
    obtain ⟨hW, vc⟩ := vc
    refine SW.if_eq 51 dX10_cheapestOf_25 (by decide) (fun hbr => ?_) (fun hbr => ?_)
    · replace vc := vc.1 hbr
      refine SW.iinc (v := (x4 + (1 : Int32))) dX10_cheapestOf_51 rfl rfl (by decide) rfl rfl ?_
      refine SW.goto 6 dX10_cheapestOf_54 (by decide) ?_
      exact vc
    · replace vc := vc.2 hbr
      refine SW.iload_n dX10_cheapestOf_28 rfl ?_
      refine SW.if_lt 48 dX10_cheapestOf_29 (by decide) (fun hbr => ?_) (fun hbr => ?_)
      · replace vc := vc.1 hbr
        refine SW.iload dX10_cheapestOf_48 rfl ?_
        refine SW.istore_n dX10_cheapestOf_50 (by decide) rfl rfl ?_
        refine SW.iinc (v := (x4 + (1 : Int32))) dX10_cheapestOf_51 rfl rfl (by decide) rfl rfl ?_
        refine SW.goto 6 dX10_cheapestOf_54 (by decide) ?_
        exact vc
      · replace vc := vc.2 hbr
        refine SW.aload_n dX10_cheapestOf_32 rfl ?_
        refine SW.aload_n dX10_cheapestOf_33 rfl ?_
        refine SW.iload dX10_cheapestOf_34 rfl ?_
        refine SW.cvi2 kV_X10_296 (by omega) aw_cl10 kp_120 (by decide) (hW.le (by decide)) rfl (Nat.le_of_ble_eq_true rfl) dX10_cheapestOf_36 (SMi.mono vc ?_)
        intro a2 n2 σ2 τ2 θ2 vc
        obtain ⟨hW, vc⟩ := vc
        refine SW.aload_n dX10_cheapestOf_39 rfl ?_
        refine SW.aload_n dX10_cheapestOf_40 rfl ?_
        refine SW.iload_n dX10_cheapestOf_41 rfl ?_
        refine SW.cvi2 kV_X10_296 (by omega) aw_cl10 kp_120 (by decide) (hW.le (by decide)) rfl (Nat.le_of_ble_eq_true rfl) dX10_cheapestOf_42 (SMi.mono vc ?_)
        intro a3 n3 σ3 τ3 θ3 vc
        obtain ⟨hW, vc⟩ := vc
        refine SW.icmp_ge 51 dX10_cheapestOf_45 (by decide) (fun hbr => ?_) (fun hbr => ?_)
        · replace vc := vc.1 hbr
          refine SW.iinc (v := (x4 + (1 : Int32))) dX10_cheapestOf_51 rfl rfl (by decide) rfl rfl ?_
          refine SW.goto 6 dX10_cheapestOf_54 (by decide) ?_
          exact vc
        · replace vc := vc.2 hbr
          refine SW.iload dX10_cheapestOf_48 rfl ?_
          refine SW.istore_n dX10_cheapestOf_50 (by decide) rfl rfl ?_
          refine SW.iinc (v := (x4 + (1 : Int32))) dX10_cheapestOf_51 rfl rfl (by decide) rfl rfl ?_
          refine SW.goto 6 dX10_cheapestOf_54 (by decide) ?_
          exact vc
theorem ctX10_cheapestOf {G : GG} {q : Int32 → Nat → SG → TU → TH → Prop} {n : Nat} {σ : SG} {τ : TU} {θ : TH} (r1 rn1 : Nat) (x2 : Int32) (h : SW G 3 mX10_cheapestOf (aw_qi q) 0 0 0 [some (.ref 120), some (.ref r1), some (.int x2), none, none] [] (n, σ, τ, θ)) : SMi G 3 mX10_cheapestOf 0 0 [.ref 120, .ref r1, .int x2] n σ τ θ q := SM.of _ rfl rfl (Nat.le_of_ble_eq_true rfl) h
set_option maxHeartbeats 4000000 in
set_option maxRecDepth 20000 in
theorem sgX10_copy_0 {G : GG} {k : Nat} {q : Nat → SG → TU → TH → Prop} {n : Nat} {σ : SG} {τ : TU} {θ : TH} (r0 rn0 : Nat) (r2 rn2 : Nat) (x1 : Int32) (x3 : Int32) (x4 : Int32) (hk : 1 ≤ k) (hr0 : isA r0 rn0) (hr2 : isA r2 rn2) (hW : aw_WT n θ) (vc : SW G k mX10_copy (aw_qv q) 0 0 3 [some (.ref r0), some (.int x1), some (.ref r2), some (.int x3), some (.int x4), some (.int (0 : Int32))] [] (n, σ, τ, θ)) : SW G k mX10_copy (aw_qv q) 0 0 0 [some (.ref r0), some (.int x1), some (.ref r2), some (.int x3), some (.int x4), none] [] (n, σ, τ, θ) := by
  refine SW.iconst (v := (0 : Int32)) dX10_copy_0 (by decide) ?_
  refine SW.istore dX10_copy_1 (by decide) rfl rfl ?_
  exact vc
set_option maxHeartbeats 4000000 in
set_option maxRecDepth 20000 in
theorem sgX10_copy_3 {G : GG} {k : Nat} {q : Nat → SG → TU → TH → Prop} {n : Nat} {σ : SG} {τ : TU} {θ : TH} (r0 rn0 : Nat) (r2 rn2 : Nat) (x1 : Int32) (x3 : Int32) (x4 : Int32) (x5 : Int32) (hk : 1 ≤ k) (hr0 : isA r0 rn0) (hr2 : isA r2 rn2) (hW : aw_WT n θ) (vc : ((x4 ≤ x5) → (q n σ τ θ)) ∧ ((¬ x4 ≤ x5) → (vp_in (x1 + x5) rn0 ∧ (vp_in (x3 + x5) rn2 ∧ (SW G k mX10_copy (aw_qv q) 0 0 3 [some (.ref r0), some (.int x1), some (.ref r2), some (.int x3), some (.int x4), some (.int (x5 + (1 : Int32)))] [] (n, (aw_u σ r2 (x3 + x5).toNatClampNeg (σ r0 (x1 + x5).toNatClampNeg)), τ, θ)))))) : SW G k mX10_copy (aw_qv q) 0 0 3 [some (.ref r0), some (.int x1), some (.ref r2), some (.int x3), some (.int x4), some (.int x5)] [] (n, σ, τ, θ) := by
  refine SW.iload dX10_copy_3 rfl ?_
  refine SW.iload dX10_copy_5 rfl ?_
  refine SW.icmp_ge 28 dX10_copy_7 (by decide) (fun hbr => ?_) (fun hbr => ?_)
  · replace vc := vc.1 hbr
    exact SW.vret dX10_copy_28 rfl ⟨rfl, vc⟩
  · replace vc := vc.2 hbr
    refine SW.aload_n dX10_copy_10 rfl ?_
    refine SW.iload_n dX10_copy_11 rfl ?_
    refine SW.iload dX10_copy_12 rfl ?_
    refine SW.iadd dX10_copy_14 ?_
    refine SW.aload_n dX10_copy_15 rfl ?_
    refine SW.iload_n dX10_copy_16 rfl ?_
    refine SW.iload dX10_copy_17 rfl ?_
    refine SW.iadd dX10_copy_19 ?_
    refine SW.iald hr0.1 hr0.2.1 (hW.le hr0.2.2) vc.1 dX10_copy_20 ?_
    replace vc := vc.2
    refine SW.iast hr2.1 hr2.2.1 (hW.le hr2.2.2) vc.1 dX10_copy_21 ?_
    replace vc := vc.2
    refine SW.iinc (v := (x5 + (1 : Int32))) dX10_copy_22 rfl rfl (by decide) rfl rfl ?_
    refine SW.goto 3 dX10_copy_25 (by decide) ?_
    exact vc
theorem ctX10_copy {G : GG} {q : Nat → SG → TU → TH → Prop} {n : Nat} {σ : SG} {τ : TU} {θ : TH} (r0 rn0 : Nat) (x1 : Int32) (r2 rn2 : Nat) (x3 : Int32) (x4 : Int32) (h : SW G 1 mX10_copy (aw_qv q) 0 0 0 [some (.ref r0), some (.int x1), some (.ref r2), some (.int x3), some (.int x4), none] [] (n, σ, τ, θ)) : SMv G 1 mX10_copy 0 0 [.ref r0, .int x1, .ref r2, .int x3, .int x4] n σ τ θ q := SM.of _ rfl rfl (Nat.le_of_ble_eq_true rfl) h
set_option maxHeartbeats 4000000 in
set_option maxRecDepth 20000 in
theorem sgX10_creditors_0 {G : GG} {k : Nat} {q : Int32 → Nat → SG → TU → TH → Prop} {n : Nat} {σ : SG} {τ : TU} {θ : TH}  (x1 : Int32) (hk : 3 ≤ k)  (hW : aw_WT n θ) (vc : SW G k mX10_creditors (aw_qi q) 0 0 4 [some (.ref 120), some (.int x1), some (.int (0 : Int32)), some (.int (0 : Int32))] [] (n, σ, τ, θ)) : SW G k mX10_creditors (aw_qi q) 0 0 0 [some (.ref 120), some (.int x1), none, none] [] (n, σ, τ, θ) := by
  refine SW.iconst (v := (0 : Int32)) dX10_creditors_0 (by decide) ?_
  refine SW.istore_n dX10_creditors_1 (by decide) rfl rfl ?_
  refine SW.iconst (v := (0 : Int32)) dX10_creditors_2 (by decide) ?_
  refine SW.istore_n dX10_creditors_3 (by decide) rfl rfl ?_
  exact vc
set_option maxHeartbeats 4000000 in
set_option maxRecDepth 20000 in
theorem sgX10_creditors_4 {G : GG} {k : Nat} {q : Int32 → Nat → SG → TU → TH → Prop} {n : Nat} {σ : SG} {τ : TU} {θ : TH}  (x1 : Int32) (x2 : Int32) (x3 : Int32) (hk : 3 ≤ k)  (hW : aw_WT n θ) (vc : (((σ 123 5) ≤ x3) → (q x2 n σ τ θ)) ∧ ((¬ (σ 123 5) ≤ x3) → (SMi G 2 mX10_isOf 0 0 [.ref 120, .ref 125, .int x3, .int x1] n σ τ θ (fun a1 n1 σ1 τ1 θ1 => aw_WT n1 θ1 ∧ (((a1 = 0) → (SW G k mX10_creditors (aw_qi q) 0 0 4 [some (.ref 120), some (.int x1), some (.int (x2 ||| (0 : Int32))), some (.int (x3 + (1 : Int32)))] [] (n1, σ1, τ1, θ1))) ∧ ((¬ a1 = 0) → (vp_in (((25 : Int32) + ((4 : Int32) * x3)) + (1 : Int32)) 167 ∧ (SW G k mX10_creditors (aw_qi q) 0 0 4 [some (.ref 120), some (.int x1), some (.int (x2 ||| ((1 : Int32) <<< ((σ1 123 (((25 : Int32) + ((4 : Int32) * x3)) + (1 : Int32)).toNatClampNeg) &&& 31)))), some (.int (x3 + (1 : Int32)))] [] (n1, σ1, τ1, θ1))))))))) : SW G k mX10_creditors (aw_qi q) 0 0 4 [some (.ref 120), some (.int x1), some (.int x2), some (.int x3)] [] (n, σ, τ, θ) := by
  refine SW.iload_n dX10_creditors_4 rfl ?_
  refine SW.aload_n dX10_creditors_5 rfl ?_
  refine SW.getS (f := 15) (r := 123) aw_cl10 kp_120 (by decide) (hW.le (by decide)) (by decide) ww_1257 dX10_creditors_6 rfl hW.t120_15 ?_
  refine SW.iconst (v := (5 : Int32)) dX10_creditors_9 (by decide) ?_
  refine SW.iald kp_123 (by decide) (hW.le (by decide)) (vp_in_nI (n := 5) (by decide) (by decide)) dX10_creditors_10 ?_
  refine SW.icmp_ge 55 dX10_creditors_11 (by decide) (fun hbr => ?_) (fun hbr => ?_)
  · replace vc := vc.1 hbr
    refine SW.iload_n dX10_creditors_55 rfl ?_
    exact SW.iret dX10_creditors_56 rfl rfl ⟨_, rfl, vc⟩
  · replace vc := vc.2 hbr
    refine SW.iload_n dX10_creditors_14 rfl ?_
    refine SW.aload_n dX10_creditors_15 rfl ?_
    refine SW.aload_n dX10_creditors_16 rfl ?_
    refine SW.getS (f := 17) (r := 125) aw_cl10 kp_120 (by decide) (hW.le (by decide)) (by decide) ww_1259 dX10_creditors_17 rfl hW.t120_17 ?_
    refine SW.iload_n dX10_creditors_20 rfl ?_
    refine SW.iload_n dX10_creditors_21 rfl ?_
    refine SW.cvi3 kV_X10_240 (by omega) aw_cl10 kp_120 (by decide) (hW.le (by decide)) rfl (Nat.le_of_ble_eq_true rfl) dX10_creditors_22 (SMi.mono vc ?_)
    intro a1 n1 σ1 τ1 θ1 vc
    obtain ⟨hW, vc⟩ := vc
    refine SW.if_eq 46 dX10_creditors_25 (by decide) (fun hbr => ?_) (fun hbr => ?_)
    · replace vc := vc.1 hbr
      refine SW.iconst (v := (0 : Int32)) dX10_creditors_46 (by decide) ?_
      refine SW.ior dX10_creditors_47 ?_
      refine SW.istore_n dX10_creditors_48 (by decide) rfl rfl ?_
      refine SW.iinc (v := (x3 + (1 : Int32))) dX10_creditors_49 rfl rfl (by decide) rfl rfl ?_
      refine SW.goto 4 dX10_creditors_52 (by decide) ?_
      exact vc
    · replace vc := vc.2 hbr
      refine SW.iconst (v := (1 : Int32)) dX10_creditors_28 (by decide) ?_
      refine SW.aload_n dX10_creditors_29 rfl ?_
      refine SW.getS (f := 15) (r := 123) aw_cl10 kp_120 (by decide) (hW.le (by decide)) (by decide) ww_1257 dX10_creditors_30 rfl hW.t120_15 ?_
      refine SW.bipush (v := (25 : Int32)) dX10_creditors_33 (by decide) ?_
      refine SW.iconst (v := (4 : Int32)) dX10_creditors_35 (by decide) ?_
      refine SW.iload_n dX10_creditors_36 rfl ?_
      refine SW.imul dX10_creditors_37 ?_
      refine SW.iadd dX10_creditors_38 ?_
      refine SW.iconst (v := (1 : Int32)) dX10_creditors_39 (by decide) ?_
      refine SW.iadd dX10_creditors_40 ?_
      refine SW.iald kp_123 (by decide) (hW.le (by decide)) vc.1 dX10_creditors_41 ?_
      replace vc := vc.2
      refine SW.ishl dX10_creditors_42 ?_
      refine SW.goto 47 dX10_creditors_43 (by decide) ?_
      refine SW.ior dX10_creditors_47 ?_
      refine SW.istore_n dX10_creditors_48 (by decide) rfl rfl ?_
      refine SW.iinc (v := (x3 + (1 : Int32))) dX10_creditors_49 rfl rfl (by decide) rfl rfl ?_
      refine SW.goto 4 dX10_creditors_52 (by decide) ?_
      exact vc
theorem ctX10_creditors {G : GG} {q : Int32 → Nat → SG → TU → TH → Prop} {n : Nat} {σ : SG} {τ : TU} {θ : TH} (x1 : Int32) (h : SW G 3 mX10_creditors (aw_qi q) 0 0 0 [some (.ref 120), some (.int x1), none, none] [] (n, σ, τ, θ)) : SMi G 3 mX10_creditors 0 0 [.ref 120, .int x1] n σ τ θ q := SM.of _ rfl rfl (Nat.le_of_ble_eq_true rfl) h
set_option maxHeartbeats 4000000 in
set_option maxRecDepth 20000 in
theorem sgX10_debt_0 {G : GG} {k : Nat} {q : Int32 → Nat → SG → TU → TH → Prop} {n : Nat} {σ : SG} {τ : TU} {θ : TH}  (x1 : Int32) (x2 : Int32) (hk : 3 ≤ k)  (hW : aw_WT n θ) (vc : SMv G 1 mX10_good 0 0 [.ref 120] n σ τ θ (fun n1 σ1 τ1 θ1 => aw_WT n1 θ1 ∧ (SMi G 2 mX10_isDebt 0 0 [.ref 120, .int x1] n1 σ1 τ1 θ1 (fun a2 n2 σ2 τ2 θ2 => aw_WT n2 θ2 ∧ (((a2 = 0) → (SMi G 1 mX10_no 0 0 [.ref 120, .int (1 : Int32)] n2 σ2 τ2 θ2 (fun a3 n3 σ3 τ3 θ3 => aw_WT n3 θ3 ∧ (q a3 n3 σ3 τ3 θ3)))) ∧ ((¬ a2 = 0) → (SMi G 1 mX10_in 0 0 [.int x2, .int (0 : Int32), .int (5 : Int32)] n2 σ2 τ2 θ2 (fun a4 n4 σ4 τ4 θ4 => aw_WT n4 θ4 ∧ (((¬ a4 = 0) → (((x2.toInt < (0 : Int) ∨ (4 : Int) < x2.toInt) → (SMi G 1 mX10_isDue 0 0 [.ref 120, .ref 125, .int x1] n4 σ4 τ4 θ4 (fun a5 n5 σ5 τ5 θ5 => aw_WT n5 θ5 ∧ (((a5 = 0) → (q (0 : Int32) n5 σ5 τ5 θ5)) ∧ ((¬ a5 = 0) → (vp_in x1 13 ∧ (SMi G 1 mX10_upwards 0 0 [.int (σ5 125 x1.toNatClampNeg), .int (σ5 123 0)] n5 σ5 τ5 θ5 (fun a6 n6 σ6 τ6 θ6 => aw_WT n6 θ6 ∧ (q a6 n6 σ6 τ6 θ6))))))))) ∧ ((x2 = (0 : Int32)) → (vp_in ((25 : Int32) + ((4 : Int32) * x1)) 167 ∧ (q (σ4 123 ((25 : Int32) + ((4 : Int32) * x1)).toNatClampNeg) n4 σ4 τ4 θ4))) ∧ ((x2 = (1 : Int32)) → (vp_in (((25 : Int32) + ((4 : Int32) * x1)) + (1 : Int32)) 167 ∧ (q (σ4 123 (((25 : Int32) + ((4 : Int32) * x1)) + (1 : Int32)).toNatClampNeg) n4 σ4 τ4 θ4))) ∧ ((x2 = (2 : Int32)) → (vp_in x1 13 ∧ (q (σ4 125 x1.toNatClampNeg) n4 σ4 τ4 θ4))) ∧ ((x2 = (3 : Int32)) → (vp_in (((25 : Int32) + ((4 : Int32) * x1)) + (3 : Int32)) 167 ∧ (q (σ4 123 (((25 : Int32) + ((4 : Int32) * x1)) + (3 : Int32)).toNatClampNeg) n4 σ4 τ4 θ4))) ∧ ((x2 = (4 : Int32)) → (SMi G 1 mX10_isDue 0 0 [.ref 120, .ref 125, .int x1] n4 σ4 τ4 θ4 (fun a7 n7 σ7 τ7 θ7 => aw_WT n7 θ7 ∧ (((a7 = 0) → (q (0 : Int32) n7 σ7 τ7 θ7)) ∧ ((¬ a7 = 0) → (q (1 : Int32) n7 σ7 τ7 θ7)))))))) ∧ ((a4 = 0) → (SMi G 1 mX10_no 0 0 [.ref 120, .int (1 : Int32)] n4 σ4 τ4 θ4 (fun a8 n8 σ8 τ8 θ8 => aw_WT n8 θ8 ∧ (q a8 n8 σ8 τ8 θ8))))))))))))) : SW G k mX10_debt (aw_qi q) 0 0 0 [some (.ref 120), some (.int x1), some (.int x2)] [] (n, σ, τ, θ) := by
  refine SW.aload_n dX10_debt_0 rfl ?_
  refine SW.cvv0 kV_X10_154 (by omega) aw_cl10 kp_120 (by decide) (hW.le (by decide)) rfl (Nat.le_of_ble_eq_true rfl) dX10_debt_1 (SMv.mono vc ?_)
  intro n1 σ1 τ1 θ1 vc
  obtain ⟨hW, vc⟩ := vc
  refine SW.aload_n dX10_debt_4 rfl ?_
  refine SW.iload_n dX10_debt_5 rfl ?_
  refine SW.cvi1 kV_X10_276 (by omega) aw_cl10 kp_120 (by decide) (hW.le (by decide)) rfl (Nat.le_of_ble_eq_true rfl) dX10_debt_6 (SMi.mono vc ?_)
  intro a2 n2 σ2 τ2 θ2 vc
  obtain ⟨hW, vc⟩ := vc
  refine SW.if_eq 21 dX10_debt_9 (by decide) (fun hbr => ?_) (fun hbr => ?_)
  · replace vc := vc.1 hbr
    refine SW.aload_n dX10_debt_21 rfl ?_
    refine SW.iconst (v := (1 : Int32)) dX10_debt_22 (by decide) ?_
    refine SW.cvi1 kV_X10_157 (by omega) aw_cl10 kp_120 (by decide) (hW.le (by decide)) rfl (Nat.le_of_ble_eq_true rfl) dX10_debt_23 (SMi.mono vc ?_)
    intro a3 n3 σ3 τ3 θ3 vc
    obtain ⟨hW, vc⟩ := vc
    exact SW.iret dX10_debt_26 rfl rfl ⟨_, rfl, vc⟩
  · replace vc := vc.2 hbr
    refine SW.iload_n dX10_debt_12 rfl ?_
    refine SW.iconst (v := (0 : Int32)) dX10_debt_13 (by decide) ?_
    refine SW.iconst (v := (5 : Int32)) dX10_debt_14 (by decide) ?_
    refine SW.csi3 kS_X10_139 (by omega) (Nat.le_of_ble_eq_true rfl) dX10_debt_15 (SMi.mono vc ?_)
    intro a4 n4 σ4 τ4 θ4 vc
    obtain ⟨hW, vc⟩ := vc
    refine SW.if_ne 27 dX10_debt_18 (by decide) (fun hbr => ?_) (fun hbr => ?_)
    · replace vc := vc.1 hbr
      refine SW.iload_n dX10_debt_27 rfl ?_
      by_cases hsw : x2.toInt < (0 : Int) ∨ (4 : Int) < x2.toInt
      · replace vc := vc.1 hsw
        refine SW.tabOut 129 dX10_debt_28 hsw (by decide) ?_
        refine SW.aload_n dX10_debt_129 rfl ?_
        refine SW.aload_n dX10_debt_130 rfl ?_
        refine SW.getS (f := 17) (r := 125) aw_cl10 kp_120 (by decide) (hW.le (by decide)) (by decide) ww_1259 dX10_debt_131 rfl hW.t120_17 ?_
        refine SW.iload_n dX10_debt_134 rfl ?_
        refine SW.cvi2 kV_X10_236 (by omega) aw_cl10 kp_120 (by decide) (hW.le (by decide)) rfl (Nat.le_of_ble_eq_true rfl) dX10_debt_135 (SMi.mono vc ?_)
        intro a5 n5 σ5 τ5 θ5 vc
        obtain ⟨hW, vc⟩ := vc
        refine SW.if_eq 159 dX10_debt_138 (by decide) (fun hbr => ?_) (fun hbr => ?_)
        · replace vc := vc.1 hbr
          refine SW.iconst (v := (0 : Int32)) dX10_debt_159 (by decide) ?_
          exact SW.iret dX10_debt_160 rfl rfl ⟨_, rfl, vc⟩
        · replace vc := vc.2 hbr
          refine SW.aload_n dX10_debt_141 rfl ?_
          refine SW.getS (f := 17) (r := 125) aw_cl10 kp_120 (by decide) (hW.le (by decide)) (by decide) ww_1259 dX10_debt_142 rfl hW.t120_17 ?_
          refine SW.iload_n dX10_debt_145 rfl ?_
          refine SW.iald kp_125 (by decide) (hW.le (by decide)) vc.1 dX10_debt_146 ?_
          replace vc := vc.2
          refine SW.aload_n dX10_debt_147 rfl ?_
          refine SW.getS (f := 15) (r := 123) aw_cl10 kp_120 (by decide) (hW.le (by decide)) (by decide) ww_1257 dX10_debt_148 rfl hW.t120_15 ?_
          refine SW.iconst (v := (0 : Int32)) dX10_debt_151 (by decide) ?_
          refine SW.iald kp_123 (by decide) (hW.le (by decide)) (vp_in_nI (n := 0) (by decide) (by decide)) dX10_debt_152 ?_
          refine SW.csi2 kS_X10_244 (by omega) (Nat.le_of_ble_eq_true rfl) dX10_debt_153 (SMi.mono vc ?_)
          intro a6 n6 σ6 τ6 θ6 vc
          obtain ⟨hW, vc⟩ := vc
          refine SW.goto 160 dX10_debt_156 (by decide) ?_
          exact SW.iret dX10_debt_160 rfl rfl ⟨_, rfl, vc⟩
      replace vc := vc.2
      have hsw2 := aw_sw_0_4 hsw
      rcases hsw2 with hsw2 | hsw2
      · replace vc := vc.1 hsw2
        refine SW.tabIn (off := 36) 64 dX10_debt_28 (aw_si1 hsw2 (by decide)) (aw_si2 hsw2 (by decide)) (aw_si3 hsw2 (by decide)) (by decide) ?_
        refine SW.aload_n dX10_debt_64 rfl ?_
        refine SW.getS (f := 15) (r := 123) aw_cl10 kp_120 (by decide) (hW.le (by decide)) (by decide) ww_1257 dX10_debt_65 rfl hW.t120_15 ?_
        refine SW.bipush (v := (25 : Int32)) dX10_debt_68 (by decide) ?_
        refine SW.iconst (v := (4 : Int32)) dX10_debt_70 (by decide) ?_
        refine SW.iload_n dX10_debt_71 rfl ?_
        refine SW.imul dX10_debt_72 ?_
        refine SW.iadd dX10_debt_73 ?_
        refine SW.iald kp_123 (by decide) (hW.le (by decide)) vc.1 dX10_debt_74 ?_
        replace vc := vc.2
        exact SW.iret dX10_debt_75 rfl rfl ⟨_, rfl, vc⟩
      replace vc := vc.2
      rcases hsw2 with hsw2 | hsw2
      · replace vc := vc.1 hsw2
        refine SW.tabIn (off := 48) 76 dX10_debt_28 (aw_si1 hsw2 (by decide)) (aw_si2 hsw2 (by decide)) (aw_si3 hsw2 (by decide)) (by decide) ?_
        refine SW.aload_n dX10_debt_76 rfl ?_
        refine SW.getS (f := 15) (r := 123) aw_cl10 kp_120 (by decide) (hW.le (by decide)) (by decide) ww_1257 dX10_debt_77 rfl hW.t120_15 ?_
        refine SW.bipush (v := (25 : Int32)) dX10_debt_80 (by decide) ?_
        refine SW.iconst (v := (4 : Int32)) dX10_debt_82 (by decide) ?_
        refine SW.iload_n dX10_debt_83 rfl ?_
        refine SW.imul dX10_debt_84 ?_
        refine SW.iadd dX10_debt_85 ?_
        refine SW.iconst (v := (1 : Int32)) dX10_debt_86 (by decide) ?_
        refine SW.iadd dX10_debt_87 ?_
        refine SW.iald kp_123 (by decide) (hW.le (by decide)) vc.1 dX10_debt_88 ?_
        replace vc := vc.2
        exact SW.iret dX10_debt_89 rfl rfl ⟨_, rfl, vc⟩
      replace vc := vc.2
      rcases hsw2 with hsw2 | hsw2
      · replace vc := vc.1 hsw2
        refine SW.tabIn (off := 62) 90 dX10_debt_28 (aw_si1 hsw2 (by decide)) (aw_si2 hsw2 (by decide)) (aw_si3 hsw2 (by decide)) (by decide) ?_
        refine SW.aload_n dX10_debt_90 rfl ?_
        refine SW.getS (f := 17) (r := 125) aw_cl10 kp_120 (by decide) (hW.le (by decide)) (by decide) ww_1259 dX10_debt_91 rfl hW.t120_17 ?_
        refine SW.iload_n dX10_debt_94 rfl ?_
        refine SW.iald kp_125 (by decide) (hW.le (by decide)) vc.1 dX10_debt_95 ?_
        replace vc := vc.2
        exact SW.iret dX10_debt_96 rfl rfl ⟨_, rfl, vc⟩
      replace vc := vc.2
      rcases hsw2 with hsw2 | hsw2
      · replace vc := vc.1 hsw2
        refine SW.tabIn (off := 69) 97 dX10_debt_28 (aw_si1 hsw2 (by decide)) (aw_si2 hsw2 (by decide)) (aw_si3 hsw2 (by decide)) (by decide) ?_
        refine SW.aload_n dX10_debt_97 rfl ?_
        refine SW.getS (f := 15) (r := 123) aw_cl10 kp_120 (by decide) (hW.le (by decide)) (by decide) ww_1257 dX10_debt_98 rfl hW.t120_15 ?_
        refine SW.bipush (v := (25 : Int32)) dX10_debt_101 (by decide) ?_
        refine SW.iconst (v := (4 : Int32)) dX10_debt_103 (by decide) ?_
        refine SW.iload_n dX10_debt_104 rfl ?_
        refine SW.imul dX10_debt_105 ?_
        refine SW.iadd dX10_debt_106 ?_
        refine SW.iconst (v := (3 : Int32)) dX10_debt_107 (by decide) ?_
        refine SW.iadd dX10_debt_108 ?_
        refine SW.iald kp_123 (by decide) (hW.le (by decide)) vc.1 dX10_debt_109 ?_
        replace vc := vc.2
        exact SW.iret dX10_debt_110 rfl rfl ⟨_, rfl, vc⟩
      replace vc := vc.2
      replace vc := vc hsw2
      refine SW.tabIn (off := 83) 111 dX10_debt_28 (aw_si1 hsw2 (by decide)) (aw_si2 hsw2 (by decide)) (aw_si3 hsw2 (by decide)) (by decide) ?_
      refine SW.aload_n dX10_debt_111 rfl ?_
      refine SW.aload_n dX10_debt_112 rfl ?_
      refine SW.getS (f := 17) (r := 125) aw_cl10 kp_120 (by decide) (hW.le (by decide)) (by decide) ww_1259 dX10_debt_113 rfl hW.t120_17 ?_
      refine SW.iload_n dX10_debt_116 rfl ?_
      refine SW.cvi2 kV_X10_236 (by omega) aw_cl10 kp_120 (by decide) (hW.le (by decide)) rfl (Nat.le_of_ble_eq_true rfl) dX10_debt_117 (SMi.mono vc ?_)
      intro a7 n7 σ7 τ7 θ7 vc
      obtain ⟨hW, vc⟩ := vc
      refine SW.if_eq 127 dX10_debt_120 (by decide) (fun hbr => ?_) (fun hbr => ?_)
      · replace vc := vc.1 hbr
        refine SW.iconst (v := (0 : Int32)) dX10_debt_127 (by decide) ?_
        exact SW.iret dX10_debt_128 rfl rfl ⟨_, rfl, vc⟩
      · replace vc := vc.2 hbr
        refine SW.iconst (v := (1 : Int32)) dX10_debt_123 (by decide) ?_
        refine SW.goto 128 dX10_debt_124 (by decide) ?_
        exact SW.iret dX10_debt_128 rfl rfl ⟨_, rfl, vc⟩
    · replace vc := vc.2 hbr
      refine SW.aload_n dX10_debt_21 rfl ?_
      refine SW.iconst (v := (1 : Int32)) dX10_debt_22 (by decide) ?_
      refine SW.cvi1 kV_X10_157 (by omega) aw_cl10 kp_120 (by decide) (hW.le (by decide)) rfl (Nat.le_of_ble_eq_true rfl) dX10_debt_23 (SMi.mono vc ?_)
      intro a8 n8 σ8 τ8 θ8 vc
      obtain ⟨hW, vc⟩ := vc
      exact SW.iret dX10_debt_26 rfl rfl ⟨_, rfl, vc⟩
theorem ctX10_debt {G : GG} {q : Int32 → Nat → SG → TU → TH → Prop} {n : Nat} {σ : SG} {τ : TU} {θ : TH} (x1 : Int32) (x2 : Int32) (h : SW G 3 mX10_debt (aw_qi q) 0 0 0 [some (.ref 120), some (.int x1), some (.int x2)] [] (n, σ, τ, θ)) : SMi G 3 mX10_debt 0 0 [.ref 120, .int x1, .int x2] n σ τ θ q := SM.of _ rfl rfl (Nat.le_of_ble_eq_true rfl) h
set_option maxHeartbeats 4000000 in
set_option maxRecDepth 20000 in
theorem sgX10_doesPass_0 {G : GG} {k : Nat} {q : Int32 → Nat → SG → TU → TH → Prop} {n : Nat} {σ : SG} {τ : TU} {θ : TH} (r1 rn1 : Nat) (x2 : Int32) (x3 : Int32) (hk : 5 ≤ k) (hr1 : isA r1 rn1) (hW : aw_WT n θ) (vc : SMi G 4 mX10_headOf 0 0 [.ref 120, .ref r1, .int x2] n σ τ θ (fun a1 n1 σ1 τ1 θ1 => aw_WT n1 θ1 ∧ (vp_in ((69 : Int32) + x3) 167 ∧ ((((σ1 123 ((69 : Int32) + x3).toNatClampNeg) < a1) → (q (0 : Int32) n1 σ1 τ1 θ1)) ∧ ((¬ (σ1 123 ((69 : Int32) + x3).toNatClampNeg) < a1) → (q (1 : Int32) n1 σ1 τ1 θ1)))))) : SW G k mX10_doesPass (aw_qi q) 0 0 0 [some (.ref 120), some (.ref r1), some (.int x2), some (.int x3)] [] (n, σ, τ, θ) := by
  refine SW.aload_n dX10_doesPass_0 rfl ?_
  refine SW.aload_n dX10_doesPass_1 rfl ?_
  refine SW.iload_n dX10_doesPass_2 rfl ?_
  refine SW.cvi2 kV_X10_261 (by omega) aw_cl10 kp_120 (by decide) (hW.le (by decide)) rfl (Nat.le_of_ble_eq_true rfl) dX10_doesPass_3 (SMi.mono vc ?_)
  intro a1 n1 σ1 τ1 θ1 vc
  obtain ⟨hW, vc⟩ := vc
  refine SW.aload_n dX10_doesPass_6 rfl ?_
  refine SW.getS (f := 15) (r := 123) aw_cl10 kp_120 (by decide) (hW.le (by decide)) (by decide) ww_1257 dX10_doesPass_7 rfl hW.t120_15 ?_
  refine SW.bipush (v := (69 : Int32)) dX10_doesPass_10 (by decide) ?_
  refine SW.iload_n dX10_doesPass_12 rfl ?_
  refine SW.iadd dX10_doesPass_13 ?_
  refine SW.iald kp_123 (by decide) (hW.le (by decide)) vc.1 dX10_doesPass_14 ?_
  replace vc := vc.2
  refine SW.icmp_gt 22 dX10_doesPass_15 (by decide) (fun hbr => ?_) (fun hbr => ?_)
  · replace vc := vc.1 hbr
    refine SW.iconst (v := (0 : Int32)) dX10_doesPass_22 (by decide) ?_
    exact SW.iret dX10_doesPass_23 rfl rfl ⟨_, rfl, vc⟩
  · replace vc := vc.2 hbr
    refine SW.iconst (v := (1 : Int32)) dX10_doesPass_18 (by decide) ?_
    refine SW.goto 23 dX10_doesPass_19 (by decide) ?_
    exact SW.iret dX10_doesPass_23 rfl rfl ⟨_, rfl, vc⟩
theorem ctX10_doesPass {G : GG} {q : Int32 → Nat → SG → TU → TH → Prop} {n : Nat} {σ : SG} {τ : TU} {θ : TH} (r1 rn1 : Nat) (x2 : Int32) (x3 : Int32) (h : SW G 5 mX10_doesPass (aw_qi q) 0 0 0 [some (.ref 120), some (.ref r1), some (.int x2), some (.int x3)] [] (n, σ, τ, θ)) : SMi G 5 mX10_doesPass 0 0 [.ref 120, .ref r1, .int x2, .int x3] n σ τ θ q := SM.of _ rfl rfl (Nat.le_of_ble_eq_true rfl) h
set_option maxHeartbeats 4000000 in
set_option maxRecDepth 20000 in
theorem sgX10_door_0 {G : GG} {k : Nat} {q : Int32 → Nat → SG → TU → TH → Prop} {n : Nat} {σ : SG} {τ : TU} {θ : TH}  (x1 : Int32) (x2 : Int32) (hk : 6 ≤ k)  (hW : aw_WT n θ) (vc : SMv G 1 mX10_good 0 0 [.ref 120] n σ τ θ (fun n1 σ1 τ1 θ1 => aw_WT n1 θ1 ∧ (SMi G 2 mX10_isDoor 0 0 [.ref 120, .int x1] n1 (aw_u σ1 120 22 (0 : Int32)) τ1 θ1 (fun a2 n2 σ2 τ2 θ2 => aw_WT n2 θ2 ∧ (((a2 = 0) → (SMi G 1 mX10_no 0 0 [.ref 120, .int (1 : Int32)] n2 σ2 τ2 θ2 (fun a3 n3 σ3 τ3 θ3 => aw_WT n3 θ3 ∧ (q a3 n3 σ3 τ3 θ3)))) ∧ ((¬ a2 = 0) → (SMi G 1 mX10_in 0 0 [.int x2, .int (0 : Int32), .int (2 : Int32)] n2 σ2 τ2 θ2 (fun a4 n4 σ4 τ4 θ4 => aw_WT n4 θ4 ∧ (((¬ a4 = 0) → (((¬ x2 = 0) → (SW G k mX10_door (aw_qi q) 0 0 51 [some (.ref 120), some (.int x1), some (.int x2), some (.int (0 : Int32)), some (.int (0 : Int32))] [] (n4, σ4, τ4, θ4))) ∧ ((x2 = 0) → (vp_in ((69 : Int32) + x1) 167 ∧ (q (σ4 123 ((69 : Int32) + x1).toNatClampNeg) n4 σ4 τ4 θ4))))) ∧ ((a4 = 0) → (SMi G 1 mX10_no 0 0 [.ref 120, .int (1 : Int32)] n4 σ4 τ4 θ4 (fun a5 n5 σ5 τ5 θ5 => aw_WT n5 θ5 ∧ (q a5 n5 σ5 τ5 θ5))))))))))))) : SW G k mX10_door (aw_qi q) 0 0 0 [some (.ref 120), some (.int x1), some (.int x2), none, none] [] (n, σ, τ, θ) := by
  refine SW.aload_n dX10_door_0 rfl ?_
  refine SW.cvv0 kV_X10_154 (by omega) aw_cl10 kp_120 (by decide) (hW.le (by decide)) rfl (Nat.le_of_ble_eq_true rfl) dX10_door_1 (SMv.mono vc ?_)
  intro n1 σ1 τ1 θ1 vc
  obtain ⟨hW, vc⟩ := vc
  refine SW.aload_n dX10_door_4 rfl ?_
  refine SW.iconst (v := (0 : Int32)) dX10_door_5 (by decide) ?_
  refine SW.putI (f := 22) aw_cl10 kp_120 (by decide) (hW.le (by decide)) (by decide) ww_1264 (Or.inl rfl) dX10_door_6 rfl rfl rfl ?_
  refine SW.aload_n dX10_door_9 rfl ?_
  refine SW.iload_n dX10_door_10 rfl ?_
  refine SW.cvi1 kV_X10_279 (by omega) aw_cl10 kp_120 (by decide) (hW.le (by decide)) rfl (Nat.le_of_ble_eq_true rfl) dX10_door_11 (SMi.mono vc ?_)
  intro a2 n2 σ2 τ2 θ2 vc
  obtain ⟨hW, vc⟩ := vc
  refine SW.if_eq 26 dX10_door_14 (by decide) (fun hbr => ?_) (fun hbr => ?_)
  · replace vc := vc.1 hbr
    refine SW.aload_n dX10_door_26 rfl ?_
    refine SW.iconst (v := (1 : Int32)) dX10_door_27 (by decide) ?_
    refine SW.cvi1 kV_X10_157 (by omega) aw_cl10 kp_120 (by decide) (hW.le (by decide)) rfl (Nat.le_of_ble_eq_true rfl) dX10_door_28 (SMi.mono vc ?_)
    intro a3 n3 σ3 τ3 θ3 vc
    obtain ⟨hW, vc⟩ := vc
    exact SW.iret dX10_door_31 rfl rfl ⟨_, rfl, vc⟩
  · replace vc := vc.2 hbr
    refine SW.iload_n dX10_door_17 rfl ?_
    refine SW.iconst (v := (0 : Int32)) dX10_door_18 (by decide) ?_
    refine SW.iconst (v := (2 : Int32)) dX10_door_19 (by decide) ?_
    refine SW.csi3 kS_X10_139 (by omega) (Nat.le_of_ble_eq_true rfl) dX10_door_20 (SMi.mono vc ?_)
    intro a4 n4 σ4 τ4 θ4 vc
    obtain ⟨hW, vc⟩ := vc
    refine SW.if_ne 32 dX10_door_23 (by decide) (fun hbr => ?_) (fun hbr => ?_)
    · replace vc := vc.1 hbr
      refine SW.iload_n dX10_door_32 rfl ?_
      refine SW.if_ne 46 dX10_door_33 (by decide) (fun hbr => ?_) (fun hbr => ?_)
      · replace vc := vc.1 hbr
        refine SW.iconst (v := (0 : Int32)) dX10_door_46 (by decide) ?_
        refine SW.istore_n dX10_door_47 (by decide) rfl rfl ?_
        refine SW.iconst (v := (0 : Int32)) dX10_door_48 (by decide) ?_
        refine SW.istore dX10_door_49 (by decide) rfl rfl ?_
        exact vc
      · replace vc := vc.2 hbr
        refine SW.aload_n dX10_door_36 rfl ?_
        refine SW.getS (f := 15) (r := 123) aw_cl10 kp_120 (by decide) (hW.le (by decide)) (by decide) ww_1257 dX10_door_37 rfl hW.t120_15 ?_
        refine SW.bipush (v := (69 : Int32)) dX10_door_40 (by decide) ?_
        refine SW.iload_n dX10_door_42 rfl ?_
        refine SW.iadd dX10_door_43 ?_
        refine SW.iald kp_123 (by decide) (hW.le (by decide)) vc.1 dX10_door_44 ?_
        replace vc := vc.2
        exact SW.iret dX10_door_45 rfl rfl ⟨_, rfl, vc⟩
    · replace vc := vc.2 hbr
      refine SW.aload_n dX10_door_26 rfl ?_
      refine SW.iconst (v := (1 : Int32)) dX10_door_27 (by decide) ?_
      refine SW.cvi1 kV_X10_157 (by omega) aw_cl10 kp_120 (by decide) (hW.le (by decide)) rfl (Nat.le_of_ble_eq_true rfl) dX10_door_28 (SMi.mono vc ?_)
      intro a5 n5 σ5 τ5 θ5 vc
      obtain ⟨hW, vc⟩ := vc
      exact SW.iret dX10_door_31 rfl rfl ⟨_, rfl, vc⟩
set_option maxHeartbeats 4000000 in
set_option maxRecDepth 20000 in
theorem sgX10_door_51 {G : GG} {k : Nat} {q : Int32 → Nat → SG → TU → TH → Prop} {n : Nat} {σ : SG} {τ : TU} {θ : TH}  (x1 : Int32) (x2 : Int32) (x3 : Int32) (x4 : Int32) (hk : 6 ≤ k)  (hW : aw_WT n θ) (vc : (((σ 123 4) ≤ x4) → (q x3 n σ τ θ)) ∧ ((¬ (σ 123 4) ≤ x4) → (((¬ x2 = (1 : Int32)) → (vp_in ((73 : Int32) + x4) 167 ∧ (((¬ (σ 123 ((73 : Int32) + x4).toNatClampNeg) = (x1 + (1 : Int32))) → (SW G k mX10_door (aw_qi q) 0 0 51 [some (.ref 120), some (.int x1), some (.int x2), some (.int (x3 ||| (0 : Int32))), some (.int (x4 + (1 : Int32)))] [] (n, σ, τ, θ))) ∧ (((σ 123 ((73 : Int32) + x4).toNatClampNeg) = (x1 + (1 : Int32))) → (SW G k mX10_door (aw_qi q) 0 0 51 [some (.ref 120), some (.int x1), some (.int x2), some (.int (x3 ||| ((1 : Int32) <<< (x4 &&& 31)))), some (.int (x4 + (1 : Int32)))] [] (n, σ, τ, θ)))))) ∧ ((x2 = (1 : Int32)) → (SMi G 5 mX10_doesPass 0 0 [.ref 120, .ref 125, .int x4, .int x1] n σ τ θ (fun a1 n1 σ1 τ1 θ1 => aw_WT n1 θ1 ∧ (((a1 = 0) → (SW G k mX10_door (aw_qi q) 0 0 51 [some (.ref 120), some (.int x1), some (.int x2), some (.int (x3 ||| (0 : Int32))), some (.int (x4 + (1 : Int32)))] [] (n1, σ1, τ1, θ1))) ∧ ((¬ a1 = 0) → (SW G k mX10_door (aw_qi q) 0 0 51 [some (.ref 120), some (.int x1), some (.int x2), some (.int (x3 ||| ((1 : Int32) <<< (x4 &&& 31)))), some (.int (x4 + (1 : Int32)))] [] (n1, σ1, τ1, θ1)))))))))) : SW G k mX10_door (aw_qi q) 0 0 51 [some (.ref 120), some (.int x1), some (.int x2), some (.int x3), some (.int x4)] [] (n, σ, τ, θ) := by
  refine SW.iload dX10_door_51 rfl ?_
  refine SW.aload_n dX10_door_53 rfl ?_
  refine SW.getS (f := 15) (r := 123) aw_cl10 kp_120 (by decide) (hW.le (by decide)) (by decide) ww_1257 dX10_door_54 rfl hW.t120_15 ?_
  refine SW.iconst (v := (4 : Int32)) dX10_door_57 (by decide) ?_
  refine SW.iald kp_123 (by decide) (hW.le (by decide)) (vp_in_nI (n := 4) (by decide) (by decide)) dX10_door_58 ?_
  refine SW.icmp_ge 117 dX10_door_59 (by decide) (fun hbr => ?_) (fun hbr => ?_)
  · replace vc := vc.1 hbr
    refine SW.iload_n dX10_door_117 rfl ?_
    exact SW.iret dX10_door_118 rfl rfl ⟨_, rfl, vc⟩
  · replace vc := vc.2 hbr
    refine SW.iload_n dX10_door_62 rfl ?_
    refine SW.iload_n dX10_door_63 rfl ?_
    refine SW.iconst (v := (1 : Int32)) dX10_door_64 (by decide) ?_
    refine SW.icmp_ne 85 dX10_door_65 (by decide) (fun hbr => ?_) (fun hbr => ?_)
    · replace vc := vc.1 hbr
      refine SW.aload_n dX10_door_85 rfl ?_
      refine SW.getS (f := 15) (r := 123) aw_cl10 kp_120 (by decide) (hW.le (by decide)) (by decide) ww_1257 dX10_door_86 rfl hW.t120_15 ?_
      refine SW.bipush (v := (73 : Int32)) dX10_door_89 (by decide) ?_
      refine SW.iload dX10_door_91 rfl ?_
      refine SW.iadd dX10_door_93 ?_
      refine SW.iald kp_123 (by decide) (hW.le (by decide)) vc.1 dX10_door_94 ?_
      replace vc := vc.2
      refine SW.iload_n dX10_door_95 rfl ?_
      refine SW.iconst (v := (1 : Int32)) dX10_door_96 (by decide) ?_
      refine SW.iadd dX10_door_97 ?_
      refine SW.icmp_ne 108 dX10_door_98 (by decide) (fun hbr => ?_) (fun hbr => ?_)
      · replace vc := vc.1 hbr
        refine SW.iconst (v := (0 : Int32)) dX10_door_108 (by decide) ?_
        refine SW.ior dX10_door_109 ?_
        refine SW.istore_n dX10_door_110 (by decide) rfl rfl ?_
        refine SW.iinc (v := (x4 + (1 : Int32))) dX10_door_111 rfl rfl (by decide) rfl rfl ?_
        refine SW.goto 51 dX10_door_114 (by decide) ?_
        exact vc
      · replace vc := vc.2 hbr
        refine SW.iconst (v := (1 : Int32)) dX10_door_101 (by decide) ?_
        refine SW.iload dX10_door_102 rfl ?_
        refine SW.ishl dX10_door_104 ?_
        refine SW.goto 109 dX10_door_105 (by decide) ?_
        refine SW.ior dX10_door_109 ?_
        refine SW.istore_n dX10_door_110 (by decide) rfl rfl ?_
        refine SW.iinc (v := (x4 + (1 : Int32))) dX10_door_111 rfl rfl (by decide) rfl rfl ?_
        refine SW.goto 51 dX10_door_114 (by decide) ?_
        exact vc
    · replace vc := vc.2 hbr
      refine SW.aload_n dX10_door_68 rfl ?_
      refine SW.aload_n dX10_door_69 rfl ?_
      refine SW.getS (f := 17) (r := 125) aw_cl10 kp_120 (by decide) (hW.le (by decide)) (by decide) ww_1259 dX10_door_70 rfl hW.t120_17 ?_
      refine SW.iload dX10_door_73 rfl ?_
      refine SW.iload_n dX10_door_75 rfl ?_
      refine SW.cvi3 kV_X10_282 (by omega) aw_cl10 kp_120 (by decide) (hW.le (by decide)) rfl (Nat.le_of_ble_eq_true rfl) dX10_door_76 (SMi.mono vc ?_)
      intro a1 n1 σ1 τ1 θ1 vc
      obtain ⟨hW, vc⟩ := vc
      refine SW.if_eq 108 dX10_door_79 (by decide) (fun hbr => ?_) (fun hbr => ?_)
      · replace vc := vc.1 hbr
        refine SW.iconst (v := (0 : Int32)) dX10_door_108 (by decide) ?_
        refine SW.ior dX10_door_109 ?_
        refine SW.istore_n dX10_door_110 (by decide) rfl rfl ?_
        refine SW.iinc (v := (x4 + (1 : Int32))) dX10_door_111 rfl rfl (by decide) rfl rfl ?_
        refine SW.goto 51 dX10_door_114 (by decide) ?_
        exact vc
      · replace vc := vc.2 hbr
        refine SW.goto 101 dX10_door_82 (by decide) ?_
        refine SW.iconst (v := (1 : Int32)) dX10_door_101 (by decide) ?_
        refine SW.iload dX10_door_102 rfl ?_
        refine SW.ishl dX10_door_104 ?_
        refine SW.goto 109 dX10_door_105 (by decide) ?_
        refine SW.ior dX10_door_109 ?_
        refine SW.istore_n dX10_door_110 (by decide) rfl rfl ?_
        refine SW.iinc (v := (x4 + (1 : Int32))) dX10_door_111 rfl rfl (by decide) rfl rfl ?_
        refine SW.goto 51 dX10_door_114 (by decide) ?_
        exact vc
theorem ctX10_door {G : GG} {q : Int32 → Nat → SG → TU → TH → Prop} {n : Nat} {σ : SG} {τ : TU} {θ : TH} (x1 : Int32) (x2 : Int32) (h : SW G 6 mX10_door (aw_qi q) 0 0 0 [some (.ref 120), some (.int x1), some (.int x2), none, none] [] (n, σ, τ, θ)) : SMi G 6 mX10_door 0 0 [.ref 120, .int x1, .int x2] n σ τ θ q := SM.of _ rfl rfl (Nat.le_of_ble_eq_true rfl) h
set_option maxHeartbeats 4000000 in
set_option maxRecDepth 20000 in
theorem sgX10_doorLine_0 {G : GG} {k : Nat} {q : Nat → SG → TU → TH → Prop} {n : Nat} {σ : SG} {τ : TU} {θ : TH}   (hk : 9 ≤ k)  (hW : aw_WT n θ) (vc : (((σ 120 13) = 0) → (SMv G 7 mX10_newName 0 0 [.ref 120, .int ((5 : Int32) + (σ 124 7))] n σ τ θ (fun n1 σ1 τ1 θ1 => aw_WT n1 θ1 ∧ (SMi G 8 mX10_after 0 0 [.ref 120, .ref (1000 + 38), .int (0 : Int32), .int (40 : Int32)] n1 σ1 τ1 θ1 (fun a2 n2 σ2 τ2 θ2 => aw_WT n2 θ2 ∧ (vp_in ((69 : Int32) + (σ1 124 7)) 167 ∧ (((¬ ((aw_u σ2 124 ((69 : Int32) + (σ1 124 7)).toNatClampNeg a2) 120 13) = 0) → (q n2 (aw_u σ2 124 ((69 : Int32) + (σ1 124 7)).toNatClampNeg a2) τ2 θ2)) ∧ ((((aw_u σ2 124 ((69 : Int32) + (σ1 124 7)).toNatClampNeg a2) 120 13) = 0) → (q n2 (aw_u (aw_u σ2 124 ((69 : Int32) + (σ1 124 7)).toNatClampNeg a2) 124 7 (((aw_u σ2 124 ((69 : Int32) + (σ1 124 7)).toNatClampNeg a2) 124 7) + (1 : Int32))) τ2 θ2))))))))) ∧ ((¬ (σ 120 13) = 0) → (q n σ τ θ))) : SW G k mX10_doorLine (aw_qv q) 0 0 0 [some (.ref 120)] [] (n, σ, τ, θ) := by
  refine SW.aload_n dX10_doorLine_0 rfl ?_
  refine SW.getI (f := 13) aw_cl10 kp_120 (by decide) (hW.le (by decide)) (by decide) ww_1255 dX10_doorLine_1 rfl ?_
  refine SW.if_eq 8 dX10_doorLine_4 (by decide) (fun hbr => ?_) (fun hbr => ?_)
  · replace vc := vc.1 hbr
    refine SW.aload_n dX10_doorLine_8 rfl ?_
    refine SW.iconst (v := (5 : Int32)) dX10_doorLine_9 (by decide) ?_
    refine SW.aload_n dX10_doorLine_10 rfl ?_
    refine SW.getS (f := 16) (r := 124) aw_cl10 kp_120 (by decide) (hW.le (by decide)) (by decide) ww_1258 dX10_doorLine_11 rfl hW.t120_16 ?_
    refine SW.bipush (v := (7 : Int32)) dX10_doorLine_14 (by decide) ?_
    refine SW.iald kp_124 (by decide) (hW.le (by decide)) (vp_in_nI (n := 7) (by decide) (by decide)) dX10_doorLine_16 ?_
    refine SW.iadd dX10_doorLine_17 ?_
    refine SW.cvv1 kV_X10_213 (by omega) aw_cl10 kp_120 (by decide) (hW.le (by decide)) rfl (Nat.le_of_ble_eq_true rfl) dX10_doorLine_18 (SMv.mono vc ?_)
    intro n1 σ1 τ1 θ1 vc
    obtain ⟨hW, vc⟩ := vc
    refine SW.aload_n dX10_doorLine_21 rfl ?_
    refine SW.getS (f := 16) (r := 124) aw_cl10 kp_120 (by decide) (hW.le (by decide)) (by decide) ww_1258 dX10_doorLine_22 rfl hW.t120_16 ?_
    refine SW.bipush (v := (69 : Int32)) dX10_doorLine_25 (by decide) ?_
    refine SW.aload_n dX10_doorLine_27 rfl ?_
    refine SW.getS (f := 16) (r := 124) aw_cl10 kp_120 (by decide) (hW.le (by decide)) (by decide) ww_1258 dX10_doorLine_28 rfl hW.t120_16 ?_
    refine SW.bipush (v := (7 : Int32)) dX10_doorLine_31 (by decide) ?_
    refine SW.iald kp_124 (by decide) (hW.le (by decide)) (vp_in_nI (n := 7) (by decide) (by decide)) dX10_doorLine_33 ?_
    refine SW.iadd dX10_doorLine_34 ?_
    refine SW.aload_n dX10_doorLine_35 rfl ?_
    refine SW.ldcS (j := 38) rfl dX10_doorLine_36 ?_
    refine SW.iconst (v := (0 : Int32)) dX10_doorLine_38 (by decide) ?_
    refine SW.bipush (v := (40 : Int32)) dX10_doorLine_39 (by decide) ?_
    refine SW.cvi3 kV_X10_203 (by omega) aw_cl10 kp_120 (by decide) (hW.le (by decide)) rfl (Nat.le_of_ble_eq_true rfl) dX10_doorLine_41 (SMi.mono vc ?_)
    intro a2 n2 σ2 τ2 θ2 vc
    obtain ⟨hW, vc⟩ := vc
    refine SW.iast kp_124 (by decide) (hW.le (by decide)) vc.1 dX10_doorLine_44 ?_
    replace vc := vc.2
    refine SW.aload_n dX10_doorLine_45 rfl ?_
    refine SW.getI (f := 13) aw_cl10 kp_120 (by decide) (hW.le (by decide)) (by decide) ww_1255 dX10_doorLine_46 rfl ?_
    refine SW.if_ne 63 dX10_doorLine_49 (by decide) (fun hbr => ?_) (fun hbr => ?_)
    · replace vc := vc.1 hbr
      exact SW.vret dX10_doorLine_63 rfl ⟨rfl, vc⟩
    · replace vc := vc.2 hbr
      refine SW.aload_n dX10_doorLine_52 rfl ?_
      refine SW.getS (f := 16) (r := 124) aw_cl10 kp_120 (by decide) (hW.le (by decide)) (by decide) ww_1258 dX10_doorLine_53 rfl hW.t120_16 ?_
      refine SW.bipush (v := (7 : Int32)) dX10_doorLine_56 (by decide) ?_
      refine SW.dup2 dX10_doorLine_58 rfl rfl ?_
      refine SW.iald kp_124 (by decide) (hW.le (by decide)) (vp_in_nI (n := 7) (by decide) (by decide)) dX10_doorLine_59 ?_
      refine SW.iconst (v := (1 : Int32)) dX10_doorLine_60 (by decide) ?_
      refine SW.iadd dX10_doorLine_61 ?_
      refine SW.iast kp_124 (by decide) (hW.le (by decide)) (vp_in_nI (n := 7) (by decide) (by decide)) dX10_doorLine_62 ?_
      exact SW.vret dX10_doorLine_63 rfl ⟨rfl, vc⟩
  · replace vc := vc.2 hbr
    exact SW.vret dX10_doorLine_7 rfl ⟨rfl, vc⟩
theorem ctX10_doorLine {G : GG} {q : Nat → SG → TU → TH → Prop} {n : Nat} {σ : SG} {τ : TU} {θ : TH}  (h : SW G 9 mX10_doorLine (aw_qv q) 0 0 0 [some (.ref 120)] [] (n, σ, τ, θ)) : SMv G 9 mX10_doorLine 0 0 [.ref 120] n σ τ θ q := SM.of _ rfl rfl (Nat.le_of_ble_eq_true rfl) h
set_option maxHeartbeats 4000000 in
set_option maxRecDepth 20000 in
theorem sgX10_doorOf_0 {G : GG} {k : Nat} {q : Int32 → Nat → SG → TU → TH → Prop} {n : Nat} {σ : SG} {τ : TU} {θ : TH}  (x1 : Int32) (hk : 14 ≤ k)  (hW : aw_WT n θ) (vc : SMv G 1 mX10_good 0 0 [.ref 120] n σ τ θ (fun n1 σ1 τ1 θ1 => aw_WT n1 θ1 ∧ (SMi G 2 mX10_isMan 0 0 [.ref 120, .int x1] n1 σ1 τ1 θ1 (fun a2 n2 σ2 τ2 θ2 => aw_WT n2 θ2 ∧ (((¬ a2 = 0) → (SMv G 13 mX10_seekGuests 0 0 [.ref 120] n2 σ2 τ2 θ2 (fun n3 σ3 τ3 θ3 => aw_WT n3 θ3 ∧ (vp_in x1 5 ∧ (q (σ3 130 x1.toNatClampNeg) n3 σ3 τ3 θ3))))) ∧ ((a2 = 0) → (SMi G 1 mX10_no 0 0 [.ref 120, .int (1 : Int32)] n2 σ2 τ2 θ2 (fun a4 n4 σ4 τ4 θ4 => aw_WT n4 θ4 ∧ (q a4 n4 σ4 τ4 θ4))))))))) : SW G k mX10_doorOf (aw_qi q) 0 0 0 [some (.ref 120), some (.int x1)] [] (n, σ, τ, θ) := by
  refine SW.aload_n dX10_doorOf_0 rfl ?_
  refine SW.cvv0 kV_X10_154 (by omega) aw_cl10 kp_120 (by decide) (hW.le (by decide)) rfl (Nat.le_of_ble_eq_true rfl) dX10_doorOf_1 (SMv.mono vc ?_)
  intro n1 σ1 τ1 θ1 vc
  obtain ⟨hW, vc⟩ := vc
  refine SW.aload_n dX10_doorOf_4 rfl ?_
  refine SW.iload_n dX10_doorOf_5 rfl ?_
  refine SW.cvi1 kV_X10_264 (by omega) aw_cl10 kp_120 (by decide) (hW.le (by decide)) rfl (Nat.le_of_ble_eq_true rfl) dX10_doorOf_6 (SMi.mono vc ?_)
  intro a2 n2 σ2 τ2 θ2 vc
  obtain ⟨hW, vc⟩ := vc
  refine SW.if_ne 18 dX10_doorOf_9 (by decide) (fun hbr => ?_) (fun hbr => ?_)
  · replace vc := vc.1 hbr
    refine SW.aload_n dX10_doorOf_18 rfl ?_
    refine SW.cvv0 kV_X10_312 (by omega) aw_cl10 kp_120 (by decide) (hW.le (by decide)) rfl (Nat.le_of_ble_eq_true rfl) dX10_doorOf_19 (SMv.mono vc ?_)
    intro n3 σ3 τ3 θ3 vc
    obtain ⟨hW, vc⟩ := vc
    refine SW.aload_n dX10_doorOf_22 rfl ?_
    refine SW.getS (f := 25) (r := 130) aw_cl10 kp_120 (by decide) (hW.le (by decide)) (by decide) ww_1267 dX10_doorOf_23 rfl hW.t120_25 ?_
    refine SW.iload_n dX10_doorOf_26 rfl ?_
    refine SW.iald kp_130 (by decide) (hW.le (by decide)) vc.1 dX10_doorOf_27 ?_
    replace vc := vc.2
    exact SW.iret dX10_doorOf_28 rfl rfl ⟨_, rfl, vc⟩
  · replace vc := vc.2 hbr
    refine SW.aload_n dX10_doorOf_12 rfl ?_
    refine SW.iconst (v := (1 : Int32)) dX10_doorOf_13 (by decide) ?_
    refine SW.cvi1 kV_X10_157 (by omega) aw_cl10 kp_120 (by decide) (hW.le (by decide)) rfl (Nat.le_of_ble_eq_true rfl) dX10_doorOf_14 (SMi.mono vc ?_)
    intro a4 n4 σ4 τ4 θ4 vc
    obtain ⟨hW, vc⟩ := vc
    exact SW.iret dX10_doorOf_17 rfl rfl ⟨_, rfl, vc⟩
theorem ctX10_doorOf {G : GG} {q : Int32 → Nat → SG → TU → TH → Prop} {n : Nat} {σ : SG} {τ : TU} {θ : TH} (x1 : Int32) (h : SW G 14 mX10_doorOf (aw_qi q) 0 0 0 [some (.ref 120), some (.int x1)] [] (n, σ, τ, θ)) : SMi G 14 mX10_doorOf 0 0 [.ref 120, .int x1] n σ τ θ q := SM.of _ rfl rfl (Nat.le_of_ble_eq_true rfl) h
set_option maxHeartbeats 4000000 in
set_option maxRecDepth 20000 in
theorem sgX10_duchy_0 {G : GG} {k : Nat} {q : Int32 → Nat → SG → TU → TH → Prop} {n : Nat} {σ : SG} {τ : TU} {θ : TH}  (x1 : Int32) (hk : 11 ≤ k)  (hW : aw_WT n θ) (vc : SMv G 1 mX10_good 0 0 [.ref 120] n σ τ θ (fun n1 σ1 τ1 θ1 => aw_WT n1 θ1 ∧ (SMi G 1 mX10_in 0 0 [.int x1, .int (0 : Int32), .int (σ1 120 2)] n1 σ1 τ1 θ1 (fun a2 n2 σ2 τ2 θ2 => aw_WT n2 θ2 ∧ (((¬ a2 = 0) → (SW G k mX10_duchy (aw_qi q) 0 0 39 [some (.ref 120), some (.int x1), some (.int (0 : Int32))] [] (n2, (aw_u (aw_u (aw_u σ2 120 2 (0 : Int32)) 120 9 (0 : Int32)) 120 13 (0 : Int32)), τ2, θ2))) ∧ ((a2 = 0) → (SMi G 1 mX10_no 0 0 [.ref 120, .int (2 : Int32)] n2 σ2 τ2 θ2 (fun a3 n3 σ3 τ3 θ3 => aw_WT n3 θ3 ∧ (q a3 n3 σ3 τ3 θ3))))))))) : SW G k mX10_duchy (aw_qi q) 0 0 0 [some (.ref 120), some (.int x1), none] [] (n, σ, τ, θ) := by
  refine SW.aload_n dX10_duchy_0 rfl ?_
  refine SW.cvv0 kV_X10_154 (by omega) aw_cl10 kp_120 (by decide) (hW.le (by decide)) rfl (Nat.le_of_ble_eq_true rfl) dX10_duchy_1 (SMv.mono vc ?_)
  intro n1 σ1 τ1 θ1 vc
  obtain ⟨hW, vc⟩ := vc
  refine SW.iload_n dX10_duchy_4 rfl ?_
  refine SW.iconst (v := (0 : Int32)) dX10_duchy_5 (by decide) ?_
  refine SW.aload_n dX10_duchy_6 rfl ?_
  refine SW.getI (f := 2) aw_cl10 kp_120 (by decide) (hW.le (by decide)) (by decide) ww_1244 dX10_duchy_7 rfl ?_
  refine SW.csi3 kS_X10_139 (by omega) (Nat.le_of_ble_eq_true rfl) dX10_duchy_10 (SMi.mono vc ?_)
  intro a2 n2 σ2 τ2 θ2 vc
  obtain ⟨hW, vc⟩ := vc
  refine SW.if_ne 22 dX10_duchy_13 (by decide) (fun hbr => ?_) (fun hbr => ?_)
  · replace vc := vc.1 hbr
    refine SW.aload_n dX10_duchy_22 rfl ?_
    refine SW.iconst (v := (0 : Int32)) dX10_duchy_23 (by decide) ?_
    refine SW.putI (f := 2) aw_cl10 kp_120 (by decide) (hW.le (by decide)) (by decide) ww_1244 (Or.inl rfl) dX10_duchy_24 rfl rfl rfl ?_
    refine SW.aload_n dX10_duchy_27 rfl ?_
    refine SW.iconst (v := (0 : Int32)) dX10_duchy_28 (by decide) ?_
    refine SW.putI (f := 9) aw_cl10 kp_120 (by decide) (hW.le (by decide)) (by decide) ww_1251 (Or.inl rfl) dX10_duchy_29 rfl rfl rfl ?_
    refine SW.aload_n dX10_duchy_32 rfl ?_
    refine SW.iconst (v := (0 : Int32)) dX10_duchy_33 (by decide) ?_
    refine SW.putI (f := 13) aw_cl10 kp_120 (by decide) (hW.le (by decide)) (by decide) ww_1255 (Or.inl rfl) dX10_duchy_34 rfl rfl rfl ?_
    refine SW.iconst (v := (0 : Int32)) dX10_duchy_37 (by decide) ?_
    refine SW.istore_n dX10_duchy_38 (by decide) rfl rfl ?_
    exact vc
  · replace vc := vc.2 hbr
    refine SW.aload_n dX10_duchy_16 rfl ?_
    refine SW.iconst (v := (2 : Int32)) dX10_duchy_17 (by decide) ?_
    refine SW.cvi1 kV_X10_157 (by omega) aw_cl10 kp_120 (by decide) (hW.le (by decide)) rfl (Nat.le_of_ble_eq_true rfl) dX10_duchy_18 (SMi.mono vc ?_)
    intro a3 n3 σ3 τ3 θ3 vc
    obtain ⟨hW, vc⟩ := vc
    exact SW.iret dX10_duchy_21 rfl rfl ⟨_, rfl, vc⟩
set_option maxHeartbeats 4000000 in
set_option maxRecDepth 20000 in
theorem sgX10_duchy_39 {G : GG} {k : Nat} {q : Int32 → Nat → SG → TU → TH → Prop} {n : Nat} {σ : SG} {τ : TU} {θ : TH}  (x1 : Int32) (x2 : Int32) (hk : 11 ≤ k)  (hW : aw_WT n θ) (vc : (((167 : Int32) ≤ x2) → (SMv G 2 mX10_next 0 0 [.ref 120] n (aw_u (aw_u σ 120 3 x1) 120 5 (0 : Int32)) τ θ (fun n1 σ1 τ1 θ1 => aw_WT n1 θ1 ∧ (SMv G 10 mX10_readLine 0 0 [.ref 120] n1 σ1 τ1 θ1 (fun n2 σ2 τ2 θ2 => aw_WT n2 θ2 ∧ (SW G k mX10_duchy (aw_qi q) 0 0 77 [some (.ref 120), none, none] [] (n2, σ2, τ2, θ2))))))) ∧ ((¬ (167 : Int32) ≤ x2) → (vp_in x2 167 ∧ (SW G k mX10_duchy (aw_qi q) 0 0 39 [some (.ref 120), some (.int x1), some (.int (x2 + (1 : Int32)))] [] (n, (aw_u σ 124 x2.toNatClampNeg (0 : Int32)), τ, θ))))) : SW G k mX10_duchy (aw_qi q) 0 0 39 [some (.ref 120), some (.int x1), some (.int x2)] [] (n, σ, τ, θ) := by
  refine SW.iload_n dX10_duchy_39 rfl ?_
  refine SW.sipush (v := (167 : Int32)) dX10_duchy_40 (by decide) ?_
  refine SW.icmp_ge 59 dX10_duchy_43 (by decide) (fun hbr => ?_) (fun hbr => ?_)
  · replace vc := vc.1 hbr
    refine SW.aload_n dX10_duchy_59 rfl ?_
    refine SW.iload_n dX10_duchy_60 rfl ?_
    refine SW.putI (f := 3) aw_cl10 kp_120 (by decide) (hW.le (by decide)) (by decide) ww_1245 (Or.inl rfl) dX10_duchy_61 rfl rfl rfl ?_
    refine SW.aload_n dX10_duchy_64 rfl ?_
    refine SW.iconst (v := (0 : Int32)) dX10_duchy_65 (by decide) ?_
    refine SW.putI (f := 5) aw_cl10 kp_120 (by decide) (hW.le (by decide)) (by decide) ww_1247 (Or.inl rfl) dX10_duchy_66 rfl rfl rfl ?_
    refine SW.aload_n dX10_duchy_69 rfl ?_
    refine SW.cvv0 kV_X10_109 (by omega) aw_cl10 kp_120 (by decide) (hW.le (by decide)) rfl (Nat.le_of_ble_eq_true rfl) dX10_duchy_70 (SMv.mono vc ?_)
    intro n1 σ1 τ1 θ1 vc
    obtain ⟨hW, vc⟩ := vc
    refine SW.aload_n dX10_duchy_73 rfl ?_
    refine SW.cvv0 kV_X10_160 (by omega) aw_cl10 kp_120 (by decide) (hW.le (by decide)) rfl (Nat.le_of_ble_eq_true rfl) dX10_duchy_74 (SMv.mono vc ?_)
    intro n2 σ2 τ2 θ2 vc
    obtain ⟨hW, vc⟩ := vc
    refine SW.msk [true, false, false] rfl ?_
    exact vc
  · replace vc := vc.2 hbr
    refine SW.aload_n dX10_duchy_46 rfl ?_
    refine SW.getS (f := 16) (r := 124) aw_cl10 kp_120 (by decide) (hW.le (by decide)) (by decide) ww_1258 dX10_duchy_47 rfl hW.t120_16 ?_
    refine SW.iload_n dX10_duchy_50 rfl ?_
    refine SW.iconst (v := (0 : Int32)) dX10_duchy_51 (by decide) ?_
    refine SW.iast kp_124 (by decide) (hW.le (by decide)) vc.1 dX10_duchy_52 ?_
    replace vc := vc.2
    refine SW.iinc (v := (x2 + (1 : Int32))) dX10_duchy_53 rfl rfl (by decide) rfl rfl ?_
    refine SW.goto 39 dX10_duchy_56 (by decide) ?_
    exact vc
set_option maxHeartbeats 4000000 in
set_option maxRecDepth 20000 in
theorem sgX10_duchy_77 {G : GG} {k : Nat} {q : Int32 → Nat → SG → TU → TH → Prop} {n : Nat} {σ : SG} {τ : TU} {θ : TH}   (hk : 11 ≤ k)  (hW : aw_WT n θ) (vc : ((¬ (σ 120 13) = 0) → (SW G k mX10_duchy (aw_qi q) 0 0 104 [some (.ref 120), none, none] [] (n, σ, τ, θ))) ∧ (((σ 120 13) = 0) → (((¬ (σ 120 6) = (59 : Int32)) → (SW G k mX10_duchy (aw_qi q) 0 0 104 [some (.ref 120), none, none] [] (n, σ, τ, θ))) ∧ (((σ 120 6) = (59 : Int32)) → (SMv G 2 mX10_next 0 0 [.ref 120] n σ τ θ (fun n1 σ1 τ1 θ1 => aw_WT n1 θ1 ∧ (SMv G 10 mX10_readLine 0 0 [.ref 120] n1 σ1 τ1 θ1 (fun n2 σ2 τ2 θ2 => aw_WT n2 θ2 ∧ (SW G k mX10_duchy (aw_qi q) 0 0 77 [some (.ref 120), none, none] [] (n2, σ2, τ2, θ2)))))))))) : SW G k mX10_duchy (aw_qi q) 0 0 77 [some (.ref 120), none, none] [] (n, σ, τ, θ) := by
  refine SW.aload_n dX10_duchy_77 rfl ?_
  refine SW.getI (f := 13) aw_cl10 kp_120 (by decide) (hW.le (by decide)) (by decide) ww_1255 dX10_duchy_78 rfl ?_
  refine SW.if_ne 104 dX10_duchy_81 (by decide) (fun hbr => ?_) (fun hbr => ?_)
  · replace vc := vc.1 hbr
    exact vc
  · replace vc := vc.2 hbr
    refine SW.aload_n dX10_duchy_84 rfl ?_
    refine SW.getI (f := 6) aw_cl10 kp_120 (by decide) (hW.le (by decide)) (by decide) ww_1248 dX10_duchy_85 rfl ?_
    refine SW.bipush (v := (59 : Int32)) dX10_duchy_88 (by decide) ?_
    refine SW.icmp_ne 104 dX10_duchy_90 (by decide) (fun hbr => ?_) (fun hbr => ?_)
    · replace vc := vc.1 hbr
      exact vc
    · replace vc := vc.2 hbr
      refine SW.aload_n dX10_duchy_93 rfl ?_
      refine SW.cvv0 kV_X10_109 (by omega) aw_cl10 kp_120 (by decide) (hW.le (by decide)) rfl (Nat.le_of_ble_eq_true rfl) dX10_duchy_94 (SMv.mono vc ?_)
      intro n1 σ1 τ1 θ1 vc
      obtain ⟨hW, vc⟩ := vc
      refine SW.aload_n dX10_duchy_97 rfl ?_
      refine SW.cvv0 kV_X10_160 (by omega) aw_cl10 kp_120 (by decide) (hW.le (by decide)) rfl (Nat.le_of_ble_eq_true rfl) dX10_duchy_98 (SMv.mono vc ?_)
      intro n2 σ2 τ2 θ2 vc
      obtain ⟨hW, vc⟩ := vc
      refine SW.goto 77 dX10_duchy_101 (by decide) ?_
      exact vc
set_option maxHeartbeats 4000000 in
set_option maxRecDepth 20000 in
theorem sgX10_duchy_104 {G : GG} {k : Nat} {q : Int32 → Nat → SG → TU → TH → Prop} {n : Nat} {σ : SG} {τ : TU} {θ : TH}   (hk : 11 ≤ k)  (hW : aw_WT n θ) (vc : ((¬ (σ 120 13) = 0) → (SW G k mX10_duchy (aw_qi q) 0 0 127 [some (.ref 120), none, none] [] (n, σ, τ, θ))) ∧ (((σ 120 13) = 0) → ((((σ 120 6) = 0) → (SW G k mX10_duchy (aw_qi q) 0 0 127 [some (.ref 120), none, none] [] (n, σ, τ, θ))) ∧ ((¬ (σ 120 6) = 0) → (SMv G 1 mX10_wrong 0 0 [.ref 120, .int (1 : Int32), .int (σ 120 4)] n σ τ θ (fun n1 σ1 τ1 θ1 => aw_WT n1 θ1 ∧ (SW G k mX10_duchy (aw_qi q) 0 0 127 [some (.ref 120), none, none] [] (n1, σ1, τ1, θ1)))))))) : SW G k mX10_duchy (aw_qi q) 0 0 104 [some (.ref 120), none, none] [] (n, σ, τ, θ) := by
  refine SW.aload_n dX10_duchy_104 rfl ?_
  refine SW.getI (f := 13) aw_cl10 kp_120 (by decide) (hW.le (by decide)) (by decide) ww_1255 dX10_duchy_105 rfl ?_
  refine SW.if_ne 127 dX10_duchy_108 (by decide) (fun hbr => ?_) (fun hbr => ?_)
  · replace vc := vc.1 hbr
    exact vc
  · replace vc := vc.2 hbr
    refine SW.aload_n dX10_duchy_111 rfl ?_
    refine SW.getI (f := 6) aw_cl10 kp_120 (by decide) (hW.le (by decide)) (by decide) ww_1248 dX10_duchy_112 rfl ?_
    refine SW.if_eq 127 dX10_duchy_115 (by decide) (fun hbr => ?_) (fun hbr => ?_)
    · replace vc := vc.1 hbr
      exact vc
    · replace vc := vc.2 hbr
      refine SW.aload_n dX10_duchy_118 rfl ?_
      refine SW.iconst (v := (1 : Int32)) dX10_duchy_119 (by decide) ?_
      refine SW.aload_n dX10_duchy_120 rfl ?_
      refine SW.getI (f := 4) aw_cl10 kp_120 (by decide) (hW.le (by decide)) (by decide) ww_1246 dX10_duchy_121 rfl ?_
      refine SW.cvv2 kV_X10_115 (by omega) aw_cl10 kp_120 (by decide) (hW.le (by decide)) rfl (Nat.le_of_ble_eq_true rfl) dX10_duchy_124 (SMv.mono vc ?_)
      intro n1 σ1 τ1 θ1 vc
      obtain ⟨hW, vc⟩ := vc
      exact vc
set_option maxHeartbeats 4000000 in
set_option maxRecDepth 20000 in
theorem sgX10_duchy_127 {G : GG} {k : Nat} {q : Int32 → Nat → SG → TU → TH → Prop} {n : Nat} {σ : SG} {τ : TU} {θ : TH}   (hk : 11 ≤ k)  (hW : aw_WT n θ) (vc : ((¬ (σ 120 13) = 0) → (SW G k mX10_duchy (aw_qi q) 0 0 162 [some (.ref 120), none, none] [] (n, σ, τ, θ))) ∧ (((σ 120 13) = 0) → ((((σ 124 0) = 0) → (SW G k mX10_duchy (aw_qi q) 0 0 152 [some (.ref 120), none, none] [] (n, σ, τ, θ))) ∧ ((¬ (σ 124 0) = 0) → (((¬ (σ 124 4) = 0) → (SW G k mX10_duchy (aw_qi q) 0 0 162 [some (.ref 120), none, none] [] (n, σ, τ, θ))) ∧ (((σ 124 4) = 0) → (SW G k mX10_duchy (aw_qi q) 0 0 152 [some (.ref 120), none, none] [] (n, σ, τ, θ)))))))) : SW G k mX10_duchy (aw_qi q) 0 0 127 [some (.ref 120), none, none] [] (n, σ, τ, θ) := by
  refine SW.aload_n dX10_duchy_127 rfl ?_
  refine SW.getI (f := 13) aw_cl10 kp_120 (by decide) (hW.le (by decide)) (by decide) ww_1255 dX10_duchy_128 rfl ?_
  refine SW.if_ne 162 dX10_duchy_131 (by decide) (fun hbr => ?_) (fun hbr => ?_)
  · replace vc := vc.1 hbr
    exact vc
  · replace vc := vc.2 hbr
    refine SW.aload_n dX10_duchy_134 rfl ?_
    refine SW.getS (f := 16) (r := 124) aw_cl10 kp_120 (by decide) (hW.le (by decide)) (by decide) ww_1258 dX10_duchy_135 rfl hW.t120_16 ?_
    refine SW.iconst (v := (0 : Int32)) dX10_duchy_138 (by decide) ?_
    refine SW.iald kp_124 (by decide) (hW.le (by decide)) (vp_in_nI (n := 0) (by decide) (by decide)) dX10_duchy_139 ?_
    refine SW.if_eq 152 dX10_duchy_140 (by decide) (fun hbr => ?_) (fun hbr => ?_)
    · replace vc := vc.1 hbr
      exact vc
    · replace vc := vc.2 hbr
      refine SW.aload_n dX10_duchy_143 rfl ?_
      refine SW.getS (f := 16) (r := 124) aw_cl10 kp_120 (by decide) (hW.le (by decide)) (by decide) ww_1258 dX10_duchy_144 rfl hW.t120_16 ?_
      refine SW.iconst (v := (4 : Int32)) dX10_duchy_147 (by decide) ?_
      refine SW.iald kp_124 (by decide) (hW.le (by decide)) (vp_in_nI (n := 4) (by decide) (by decide)) dX10_duchy_148 ?_
      refine SW.if_ne 162 dX10_duchy_149 (by decide) (fun hbr => ?_) (fun hbr => ?_)
      · replace vc := vc.1 hbr
        exact vc
      · replace vc := vc.2 hbr
        exact vc
set_option maxHeartbeats 4000000 in
set_option maxRecDepth 20000 in
theorem sgX10_duchy_152 {G : GG} {k : Nat} {q : Int32 → Nat → SG → TU → TH → Prop} {n : Nat} {σ : SG} {τ : TU} {θ : TH}   (hk : 11 ≤ k)  (hW : aw_WT n θ) (vc : SMv G 1 mX10_wrong 0 0 [.ref 120, .int (6 : Int32), .int (σ 120 4)] n σ τ θ (fun n1 σ1 τ1 θ1 => aw_WT n1 θ1 ∧ (SW G k mX10_duchy (aw_qi q) 0 0 162 [some (.ref 120), none, none] [] (n1, σ1, τ1, θ1)))) : SW G k mX10_duchy (aw_qi q) 0 0 152 [some (.ref 120), none, none] [] (n, σ, τ, θ) := by
  refine SW.aload_n dX10_duchy_152 rfl ?_
  refine SW.bipush (v := (6 : Int32)) dX10_duchy_153 (by decide) ?_
  refine SW.aload_n dX10_duchy_155 rfl ?_
  refine SW.getI (f := 4) aw_cl10 kp_120 (by decide) (hW.le (by decide)) (by decide) ww_1246 dX10_duchy_156 rfl ?_
  refine SW.cvv2 kV_X10_115 (by omega) aw_cl10 kp_120 (by decide) (hW.le (by decide)) rfl (Nat.le_of_ble_eq_true rfl) dX10_duchy_159 (SMv.mono vc ?_)
  intro n1 σ1 τ1 θ1 vc
  obtain ⟨hW, vc⟩ := vc
  exact vc
set_option maxHeartbeats 4000000 in
set_option maxRecDepth 20000 in
theorem sgX10_duchy_162 {G : GG} {k : Nat} {q : Int32 → Nat → SG → TU → TH → Prop} {n : Nat} {σ : SG} {τ : TU} {θ : TH}   (hk : 11 ≤ k)  (hW : aw_WT n θ) (vc : (((σ 120 13) = 0) → (SMv G 1 mX10_copy 0 0 [.ref 124, .int (0 : Int32), .ref 123, .int (0 : Int32), .int (167 : Int32)] n σ τ θ (fun n1 σ1 τ1 θ1 => aw_WT n1 θ1 ∧ (SW G k mX10_duchy (aw_qi q) 0 0 193 [some (.ref 120), none, some (.int (0 : Int32))] [] (n1, σ1, τ1, θ1))))) ∧ ((¬ (σ 120 13) = 0) → (SMi G 1 mX10_no 0 0 [.ref 120, .int (4 : Int32)] n σ τ θ (fun a2 n2 σ2 τ2 θ2 => aw_WT n2 θ2 ∧ (q a2 n2 σ2 τ2 θ2))))) : SW G k mX10_duchy (aw_qi q) 0 0 162 [some (.ref 120), none, none] [] (n, σ, τ, θ) := by
  refine SW.aload_n dX10_duchy_162 rfl ?_
  refine SW.getI (f := 13) aw_cl10 kp_120 (by decide) (hW.le (by decide)) (by decide) ww_1255 dX10_duchy_163 rfl ?_
  refine SW.if_eq 175 dX10_duchy_166 (by decide) (fun hbr => ?_) (fun hbr => ?_)
  · replace vc := vc.1 hbr
    refine SW.aload_n dX10_duchy_175 rfl ?_
    refine SW.getS (f := 16) (r := 124) aw_cl10 kp_120 (by decide) (hW.le (by decide)) (by decide) ww_1258 dX10_duchy_176 rfl hW.t120_16 ?_
    refine SW.iconst (v := (0 : Int32)) dX10_duchy_179 (by decide) ?_
    refine SW.aload_n dX10_duchy_180 rfl ?_
    refine SW.getS (f := 15) (r := 123) aw_cl10 kp_120 (by decide) (hW.le (by decide)) (by decide) ww_1257 dX10_duchy_181 rfl hW.t120_15 ?_
    refine SW.iconst (v := (0 : Int32)) dX10_duchy_184 (by decide) ?_
    refine SW.sipush (v := (167 : Int32)) dX10_duchy_185 (by decide) ?_
    refine SW.csv5 kS_X10_163 (by omega) (Nat.le_of_ble_eq_true rfl) dX10_duchy_188 (SMv.mono vc ?_)
    intro n1 σ1 τ1 θ1 vc
    obtain ⟨hW, vc⟩ := vc
    refine SW.iconst (v := (0 : Int32)) dX10_duchy_191 (by decide) ?_
    refine SW.istore_n dX10_duchy_192 (by decide) rfl rfl ?_
    exact vc
  · replace vc := vc.2 hbr
    refine SW.aload_n dX10_duchy_169 rfl ?_
    refine SW.iconst (v := (4 : Int32)) dX10_duchy_170 (by decide) ?_
    refine SW.cvi1 kV_X10_157 (by omega) aw_cl10 kp_120 (by decide) (hW.le (by decide)) rfl (Nat.le_of_ble_eq_true rfl) dX10_duchy_171 (SMi.mono vc ?_)
    intro a2 n2 σ2 τ2 θ2 vc
    obtain ⟨hW, vc⟩ := vc
    exact SW.iret dX10_duchy_174 rfl rfl ⟨_, rfl, vc⟩
set_option maxHeartbeats 4000000 in
set_option maxRecDepth 20000 in
theorem sgX10_duchy_193 {G : GG} {k : Nat} {q : Int32 → Nat → SG → TU → TH → Prop} {n : Nat} {σ : SG} {τ : TU} {θ : TH}  (x2 : Int32) (hk : 11 ≤ k)  (hW : aw_WT n θ) (vc : (((13 : Int32) ≤ x2) → (SW G k mX10_duchy (aw_qi q) 0 0 214 [some (.ref 120), none, some (.int (0 : Int32))] [] (n, σ, τ, θ))) ∧ ((¬ (13 : Int32) ≤ x2) → (vp_in x2 13 ∧ (SW G k mX10_duchy (aw_qi q) 0 0 193 [some (.ref 120), none, some (.int (x2 + (1 : Int32)))] [] (n, (aw_u σ 125 x2.toNatClampNeg (0 : Int32)), τ, θ))))) : SW G k mX10_duchy (aw_qi q) 0 0 193 [some (.ref 120), none, some (.int x2)] [] (n, σ, τ, θ) := by
  refine SW.iload_n dX10_duchy_193 rfl ?_
  refine SW.bipush (v := (13 : Int32)) dX10_duchy_194 (by decide) ?_
  refine SW.icmp_ge 212 dX10_duchy_196 (by decide) (fun hbr => ?_) (fun hbr => ?_)
  · replace vc := vc.1 hbr
    refine SW.iconst (v := (0 : Int32)) dX10_duchy_212 (by decide) ?_
    refine SW.istore_n dX10_duchy_213 (by decide) rfl rfl ?_
    exact vc
  · replace vc := vc.2 hbr
    refine SW.aload_n dX10_duchy_199 rfl ?_
    refine SW.getS (f := 17) (r := 125) aw_cl10 kp_120 (by decide) (hW.le (by decide)) (by decide) ww_1259 dX10_duchy_200 rfl hW.t120_17 ?_
    refine SW.iload_n dX10_duchy_203 rfl ?_
    refine SW.iconst (v := (0 : Int32)) dX10_duchy_204 (by decide) ?_
    refine SW.iast kp_125 (by decide) (hW.le (by decide)) vc.1 dX10_duchy_205 ?_
    replace vc := vc.2
    refine SW.iinc (v := (x2 + (1 : Int32))) dX10_duchy_206 rfl rfl (by decide) rfl rfl ?_
    refine SW.goto 193 dX10_duchy_209 (by decide) ?_
    exact vc
set_option maxHeartbeats 4000000 in
set_option maxRecDepth 20000 in
theorem sgX10_duchy_214 {G : GG} {k : Nat} {q : Int32 → Nat → SG → TU → TH → Prop} {n : Nat} {σ : SG} {τ : TU} {θ : TH}  (x2 : Int32) (hk : 11 ≤ k)  (hW : aw_WT n θ) (vc : (((σ 123 5) ≤ x2) → (SW G k mX10_duchy (aw_qi q) 0 0 251 [some (.ref 120), none, some (.int (0 : Int32))] [] (n, σ, τ, θ))) ∧ ((¬ (σ 123 5) ≤ x2) → (vp_in (((25 : Int32) + ((4 : Int32) * x2)) + (2 : Int32)) 167 ∧ (vp_in x2 13 ∧ (SW G k mX10_duchy (aw_qi q) 0 0 214 [some (.ref 120), none, some (.int (x2 + (1 : Int32)))] [] (n, (aw_u σ 125 x2.toNatClampNeg (σ 123 (((25 : Int32) + ((4 : Int32) * x2)) + (2 : Int32)).toNatClampNeg)), τ, θ)))))) : SW G k mX10_duchy (aw_qi q) 0 0 214 [some (.ref 120), none, some (.int x2)] [] (n, σ, τ, θ) := by
  refine SW.iload_n dX10_duchy_214 rfl ?_
  refine SW.aload_n dX10_duchy_215 rfl ?_
  refine SW.getS (f := 15) (r := 123) aw_cl10 kp_120 (by decide) (hW.le (by decide)) (by decide) ww_1257 dX10_duchy_216 rfl hW.t120_15 ?_
  refine SW.iconst (v := (5 : Int32)) dX10_duchy_219 (by decide) ?_
  refine SW.iald kp_123 (by decide) (hW.le (by decide)) (vp_in_nI (n := 5) (by decide) (by decide)) dX10_duchy_220 ?_
  refine SW.icmp_ge 249 dX10_duchy_221 (by decide) (fun hbr => ?_) (fun hbr => ?_)
  · replace vc := vc.1 hbr
    refine SW.iconst (v := (0 : Int32)) dX10_duchy_249 (by decide) ?_
    refine SW.istore_n dX10_duchy_250 (by decide) rfl rfl ?_
    exact vc
  · replace vc := vc.2 hbr
    refine SW.aload_n dX10_duchy_224 rfl ?_
    refine SW.getS (f := 17) (r := 125) aw_cl10 kp_120 (by decide) (hW.le (by decide)) (by decide) ww_1259 dX10_duchy_225 rfl hW.t120_17 ?_
    refine SW.iload_n dX10_duchy_228 rfl ?_
    refine SW.aload_n dX10_duchy_229 rfl ?_
    refine SW.getS (f := 15) (r := 123) aw_cl10 kp_120 (by decide) (hW.le (by decide)) (by decide) ww_1257 dX10_duchy_230 rfl hW.t120_15 ?_
    refine SW.bipush (v := (25 : Int32)) dX10_duchy_233 (by decide) ?_
    refine SW.iconst (v := (4 : Int32)) dX10_duchy_235 (by decide) ?_
    refine SW.iload_n dX10_duchy_236 rfl ?_
    refine SW.imul dX10_duchy_237 ?_
    refine SW.iadd dX10_duchy_238 ?_
    refine SW.iconst (v := (2 : Int32)) dX10_duchy_239 (by decide) ?_
    refine SW.iadd dX10_duchy_240 ?_
    refine SW.iald kp_123 (by decide) (hW.le (by decide)) vc.1 dX10_duchy_241 ?_
    replace vc := vc.2
    refine SW.iast kp_125 (by decide) (hW.le (by decide)) vc.1 dX10_duchy_242 ?_
    replace vc := vc.2
    refine SW.iinc (v := (x2 + (1 : Int32))) dX10_duchy_243 rfl rfl (by decide) rfl rfl ?_
    refine SW.goto 214 dX10_duchy_246 (by decide) ?_
    exact vc
set_option maxHeartbeats 4000000 in
set_option maxRecDepth 20000 in
theorem sgX10_duchy_251 {G : GG} {k : Nat} {q : Int32 → Nat → SG → TU → TH → Prop} {n : Nat} {σ : SG} {τ : TU} {θ : TH}  (x2 : Int32) (hk : 11 ≤ k)  (hW : aw_WT n θ) (vc : (((σ 123 4) ≤ x2) → (q ((aw_u (aw_u (aw_u σ 120 14 (1 : Int32)) 120 20 (0 : Int32)) 120 21 (0 : Int32)) 123 4) n (aw_u (aw_u (aw_u σ 120 14 (1 : Int32)) 120 20 (0 : Int32)) 120 21 (0 : Int32)) τ θ)) ∧ ((¬ (σ 123 4) ≤ x2) → (vp_in (((10 : Int32) + ((3 : Int32) * x2)) + (1 : Int32)) 167 ∧ (vp_in ((7 : Int32) + x2) 13 ∧ (SW G k mX10_duchy (aw_qi q) 0 0 251 [some (.ref 120), none, some (.int (x2 + (1 : Int32)))] [] (n, (aw_u σ 125 ((7 : Int32) + x2).toNatClampNeg (σ 123 (((10 : Int32) + ((3 : Int32) * x2)) + (1 : Int32)).toNatClampNeg)), τ, θ)))))) : SW G k mX10_duchy (aw_qi q) 0 0 251 [some (.ref 120), none, some (.int x2)] [] (n, σ, τ, θ) := by
  refine SW.iload_n dX10_duchy_251 rfl ?_
  refine SW.aload_n dX10_duchy_252 rfl ?_
  refine SW.getS (f := 15) (r := 123) aw_cl10 kp_120 (by decide) (hW.le (by decide)) (by decide) ww_1257 dX10_duchy_253 rfl hW.t120_15 ?_
  refine SW.iconst (v := (4 : Int32)) dX10_duchy_256 (by decide) ?_
  refine SW.iald kp_123 (by decide) (hW.le (by decide)) (vp_in_nI (n := 4) (by decide) (by decide)) dX10_duchy_257 ?_
  refine SW.icmp_ge 289 dX10_duchy_258 (by decide) (fun hbr => ?_) (fun hbr => ?_)
  · replace vc := vc.1 hbr
    refine SW.aload_n dX10_duchy_289 rfl ?_
    refine SW.iconst (v := (1 : Int32)) dX10_duchy_290 (by decide) ?_
    refine SW.putI (f := 14) aw_cl10 kp_120 (by decide) (hW.le (by decide)) (by decide) ww_1256 (Or.inl rfl) dX10_duchy_291 rfl rfl rfl ?_
    refine SW.aload_n dX10_duchy_294 rfl ?_
    refine SW.iconst (v := (0 : Int32)) dX10_duchy_295 (by decide) ?_
    refine SW.putI (f := 20) aw_cl10 kp_120 (by decide) (hW.le (by decide)) (by decide) ww_1262 (Or.inl rfl) dX10_duchy_296 rfl rfl rfl ?_
    refine SW.aload_n dX10_duchy_299 rfl ?_
    refine SW.iconst (v := (0 : Int32)) dX10_duchy_300 (by decide) ?_
    refine SW.putI (f := 21) aw_cl10 kp_120 (by decide) (hW.le (by decide)) (by decide) ww_1263 (Or.inl rfl) dX10_duchy_301 rfl rfl rfl ?_
    refine SW.aload_n dX10_duchy_304 rfl ?_
    refine SW.getS (f := 15) (r := 123) aw_cl10 kp_120 (by decide) (hW.le (by decide)) (by decide) ww_1257 dX10_duchy_305 rfl hW.t120_15 ?_
    refine SW.iconst (v := (4 : Int32)) dX10_duchy_308 (by decide) ?_
    refine SW.iald kp_123 (by decide) (hW.le (by decide)) (vp_in_nI (n := 4) (by decide) (by decide)) dX10_duchy_309 ?_
    exact SW.iret dX10_duchy_310 rfl rfl ⟨_, rfl, vc⟩
  · replace vc := vc.2 hbr
    refine SW.aload_n dX10_duchy_261 rfl ?_
    refine SW.getS (f := 17) (r := 125) aw_cl10 kp_120 (by decide) (hW.le (by decide)) (by decide) ww_1259 dX10_duchy_262 rfl hW.t120_17 ?_
    refine SW.bipush (v := (7 : Int32)) dX10_duchy_265 (by decide) ?_
    refine SW.iload_n dX10_duchy_267 rfl ?_
    refine SW.iadd dX10_duchy_268 ?_
    refine SW.aload_n dX10_duchy_269 rfl ?_
    refine SW.getS (f := 15) (r := 123) aw_cl10 kp_120 (by decide) (hW.le (by decide)) (by decide) ww_1257 dX10_duchy_270 rfl hW.t120_15 ?_
    refine SW.bipush (v := (10 : Int32)) dX10_duchy_273 (by decide) ?_
    refine SW.iconst (v := (3 : Int32)) dX10_duchy_275 (by decide) ?_
    refine SW.iload_n dX10_duchy_276 rfl ?_
    refine SW.imul dX10_duchy_277 ?_
    refine SW.iadd dX10_duchy_278 ?_
    refine SW.iconst (v := (1 : Int32)) dX10_duchy_279 (by decide) ?_
    refine SW.iadd dX10_duchy_280 ?_
    refine SW.iald kp_123 (by decide) (hW.le (by decide)) vc.1 dX10_duchy_281 ?_
    replace vc := vc.2
    refine SW.iast kp_125 (by decide) (hW.le (by decide)) vc.1 dX10_duchy_282 ?_
    replace vc := vc.2
    refine SW.iinc (v := (x2 + (1 : Int32))) dX10_duchy_283 rfl rfl (by decide) rfl rfl ?_
    refine SW.goto 251 dX10_duchy_286 (by decide) ?_
    exact vc
theorem ctX10_duchy {G : GG} {q : Int32 → Nat → SG → TU → TH → Prop} {n : Nat} {σ : SG} {τ : TU} {θ : TH} (x1 : Int32) (h : SW G 11 mX10_duchy (aw_qi q) 0 0 0 [some (.ref 120), some (.int x1), none] [] (n, σ, τ, θ)) : SMi G 11 mX10_duchy 0 0 [.ref 120, .int x1] n σ τ θ q := SM.of _ rfl rfl (Nat.le_of_ble_eq_true rfl) h
set_option maxHeartbeats 4000000 in
set_option maxRecDepth 20000 in
theorem sgX10_duchyLine_0 {G : GG} {k : Nat} {q : Nat → SG → TU → TH → Prop} {n : Nat} {σ : SG} {τ : TU} {θ : TH}   (hk : 9 ≤ k)  (hW : aw_WT n θ) (vc : (((σ 124 0) ≤ 0) → ((((σ 120 13) = 0) → (SMv G 2 mX10_next 0 0 [.ref 120] n σ τ θ (fun n1 σ1 τ1 θ1 => aw_WT n1 θ1 ∧ (SMi G 8 mX10_after 0 0 [.ref 120, .ref (1000 + 21), .int (1 : Int32), .int (20 : Int32)] n1 σ1 τ1 θ1 (fun a2 n2 σ2 τ2 θ2 => aw_WT n2 θ2 ∧ (SMi G 8 mX10_after 0 0 [.ref 120, .ref (1000 + 22), .int (0 : Int32), .int (100 : Int32)] n2 σ2 τ2 θ2 (fun a3 n3 σ3 τ3 θ3 => aw_WT n3 θ3 ∧ (SMi G 8 mX10_after 0 0 [.ref 120, .ref (1000 + 23), .int (0 : Int32), .int (100 : Int32)] n3 (aw_u σ3 124 1 a3) τ3 θ3 (fun a4 n4 σ4 τ4 θ4 => aw_WT n4 θ4 ∧ (SMi G 8 mX10_after 0 0 [.ref 120, .ref (1000 + 24), .int (0 : Int32), .int (100 : Int32)] n4 (aw_u σ4 124 2 a4) τ4 θ4 (fun a5 n5 σ5 τ5 θ5 => aw_WT n5 θ5 ∧ (((¬ ((aw_u σ5 124 3 a5) 120 13) = 0) → (q n5 (aw_u σ5 124 3 a5) τ5 θ5)) ∧ ((((aw_u σ5 124 3 a5) 120 13) = 0) → (q n5 (aw_u (aw_u σ5 124 3 a5) 124 0 a2) τ5 θ5)))))))))))))) ∧ ((¬ (σ 120 13) = 0) → (q n σ τ θ)))) ∧ ((¬ (σ 124 0) ≤ 0) → (SMv G 1 mX10_wrong 0 0 [.ref 120, .int (3 : Int32), .int (σ 120 4)] n σ τ θ (fun n6 σ6 τ6 θ6 => aw_WT n6 θ6 ∧ ((((σ6 120 13) = 0) → (SMv G 2 mX10_next 0 0 [.ref 120] n6 σ6 τ6 θ6 (fun n7 σ7 τ7 θ7 => aw_WT n7 θ7 ∧ (SMi G 8 mX10_after 0 0 [.ref 120, .ref (1000 + 21), .int (1 : Int32), .int (20 : Int32)] n7 σ7 τ7 θ7 (fun a8 n8 σ8 τ8 θ8 => aw_WT n8 θ8 ∧ (SMi G 8 mX10_after 0 0 [.ref 120, .ref (1000 + 22), .int (0 : Int32), .int (100 : Int32)] n8 σ8 τ8 θ8 (fun a9 n9 σ9 τ9 θ9 => aw_WT n9 θ9 ∧ (SMi G 8 mX10_after 0 0 [.ref 120, .ref (1000 + 23), .int (0 : Int32), .int (100 : Int32)] n9 (aw_u σ9 124 1 a9) τ9 θ9 (fun a10 n10 σ10 τ10 θ10 => aw_WT n10 θ10 ∧ (SMi G 8 mX10_after 0 0 [.ref 120, .ref (1000 + 24), .int (0 : Int32), .int (100 : Int32)] n10 (aw_u σ10 124 2 a10) τ10 θ10 (fun a11 n11 σ11 τ11 θ11 => aw_WT n11 θ11 ∧ (((¬ ((aw_u σ11 124 3 a11) 120 13) = 0) → (q n11 (aw_u σ11 124 3 a11) τ11 θ11)) ∧ ((((aw_u σ11 124 3 a11) 120 13) = 0) → (q n11 (aw_u (aw_u σ11 124 3 a11) 124 0 a8) τ11 θ11)))))))))))))) ∧ ((¬ (σ6 120 13) = 0) → (q n6 σ6 τ6 θ6))))))) : SW G k mX10_duchyLine (aw_qv q) 0 0 0 [some (.ref 120), none] [] (n, σ, τ, θ) := by
  refine SW.aload_n dX10_duchyLine_0 rfl ?_
  refine SW.getS (f := 16) (r := 124) aw_cl10 kp_120 (by decide) (hW.le (by decide)) (by decide) ww_1258 dX10_duchyLine_1 rfl hW.t120_16 ?_
  refine SW.iconst (v := (0 : Int32)) dX10_duchyLine_4 (by decide) ?_
  refine SW.iald kp_124 (by decide) (hW.le (by decide)) (vp_in_nI (n := 0) (by decide) (by decide)) dX10_duchyLine_5 ?_
  refine SW.if_le 18 dX10_duchyLine_6 (by decide) (fun hbr => ?_) (fun hbr => ?_)
  · replace vc := vc.1 hbr
    refine SW.aload_n dX10_duchyLine_18 rfl ?_
    refine SW.getI (f := 13) aw_cl10 kp_120 (by decide) (hW.le (by decide)) (by decide) ww_1255 dX10_duchyLine_19 rfl ?_
    refine SW.if_eq 26 dX10_duchyLine_22 (by decide) (fun hbr => ?_) (fun hbr => ?_)
    · replace vc := vc.1 hbr
      refine SW.aload_n dX10_duchyLine_26 rfl ?_
      refine SW.cvv0 kV_X10_109 (by omega) aw_cl10 kp_120 (by decide) (hW.le (by decide)) rfl (Nat.le_of_ble_eq_true rfl) dX10_duchyLine_27 (SMv.mono vc ?_)
      intro n1 σ1 τ1 θ1 vc
      obtain ⟨hW, vc⟩ := vc
      refine SW.aload_n dX10_duchyLine_30 rfl ?_
      refine SW.ldcS (j := 21) rfl dX10_duchyLine_31 ?_
      refine SW.iconst (v := (1 : Int32)) dX10_duchyLine_33 (by decide) ?_
      refine SW.bipush (v := (20 : Int32)) dX10_duchyLine_34 (by decide) ?_
      refine SW.cvi3 kV_X10_203 (by omega) aw_cl10 kp_120 (by decide) (hW.le (by decide)) rfl (Nat.le_of_ble_eq_true rfl) dX10_duchyLine_36 (SMi.mono vc ?_)
      intro a2 n2 σ2 τ2 θ2 vc
      obtain ⟨hW, vc⟩ := vc
      refine SW.istore_n dX10_duchyLine_39 (by decide) rfl rfl ?_
      refine SW.aload_n dX10_duchyLine_40 rfl ?_
      refine SW.getS (f := 16) (r := 124) aw_cl10 kp_120 (by decide) (hW.le (by decide)) (by decide) ww_1258 dX10_duchyLine_41 rfl hW.t120_16 ?_
      refine SW.iconst (v := (1 : Int32)) dX10_duchyLine_44 (by decide) ?_
      refine SW.aload_n dX10_duchyLine_45 rfl ?_
      refine SW.ldcS (j := 22) rfl dX10_duchyLine_46 ?_
      refine SW.iconst (v := (0 : Int32)) dX10_duchyLine_48 (by decide) ?_
      refine SW.bipush (v := (100 : Int32)) dX10_duchyLine_49 (by decide) ?_
      refine SW.cvi3 kV_X10_203 (by omega) aw_cl10 kp_120 (by decide) (hW.le (by decide)) rfl (Nat.le_of_ble_eq_true rfl) dX10_duchyLine_51 (SMi.mono vc ?_)
      intro a3 n3 σ3 τ3 θ3 vc
      obtain ⟨hW, vc⟩ := vc
      refine SW.iast kp_124 (by decide) (hW.le (by decide)) (vp_in_nI (n := 1) (by decide) (by decide)) dX10_duchyLine_54 ?_
      refine SW.aload_n dX10_duchyLine_55 rfl ?_
      refine SW.getS (f := 16) (r := 124) aw_cl10 kp_120 (by decide) (hW.le (by decide)) (by decide) ww_1258 dX10_duchyLine_56 rfl hW.t120_16 ?_
      refine SW.iconst (v := (2 : Int32)) dX10_duchyLine_59 (by decide) ?_
      refine SW.aload_n dX10_duchyLine_60 rfl ?_
      refine SW.ldcS (j := 23) rfl dX10_duchyLine_61 ?_
      refine SW.iconst (v := (0 : Int32)) dX10_duchyLine_63 (by decide) ?_
      refine SW.bipush (v := (100 : Int32)) dX10_duchyLine_64 (by decide) ?_
      refine SW.cvi3 kV_X10_203 (by omega) aw_cl10 kp_120 (by decide) (hW.le (by decide)) rfl (Nat.le_of_ble_eq_true rfl) dX10_duchyLine_66 (SMi.mono vc ?_)
      intro a4 n4 σ4 τ4 θ4 vc
      obtain ⟨hW, vc⟩ := vc
      refine SW.iast kp_124 (by decide) (hW.le (by decide)) (vp_in_nI (n := 2) (by decide) (by decide)) dX10_duchyLine_69 ?_
      refine SW.aload_n dX10_duchyLine_70 rfl ?_
      refine SW.getS (f := 16) (r := 124) aw_cl10 kp_120 (by decide) (hW.le (by decide)) (by decide) ww_1258 dX10_duchyLine_71 rfl hW.t120_16 ?_
      refine SW.iconst (v := (3 : Int32)) dX10_duchyLine_74 (by decide) ?_
      refine SW.aload_n dX10_duchyLine_75 rfl ?_
      refine SW.ldcS (j := 24) rfl dX10_duchyLine_76 ?_
      refine SW.iconst (v := (0 : Int32)) dX10_duchyLine_78 (by decide) ?_
      refine SW.bipush (v := (100 : Int32)) dX10_duchyLine_79 (by decide) ?_
      refine SW.cvi3 kV_X10_203 (by omega) aw_cl10 kp_120 (by decide) (hW.le (by decide)) rfl (Nat.le_of_ble_eq_true rfl) dX10_duchyLine_81 (SMi.mono vc ?_)
      intro a5 n5 σ5 τ5 θ5 vc
      obtain ⟨hW, vc⟩ := vc
      refine SW.iast kp_124 (by decide) (hW.le (by decide)) (vp_in_nI (n := 3) (by decide) (by decide)) dX10_duchyLine_84 ?_
      refine SW.aload_n dX10_duchyLine_85 rfl ?_
      refine SW.getI (f := 13) aw_cl10 kp_120 (by decide) (hW.le (by decide)) (by decide) ww_1255 dX10_duchyLine_86 rfl ?_
      refine SW.if_ne 99 dX10_duchyLine_89 (by decide) (fun hbr => ?_) (fun hbr => ?_)
      · replace vc := vc.1 hbr
        exact SW.vret dX10_duchyLine_99 rfl ⟨rfl, vc⟩
      · replace vc := vc.2 hbr
        refine SW.aload_n dX10_duchyLine_92 rfl ?_
        refine SW.getS (f := 16) (r := 124) aw_cl10 kp_120 (by decide) (hW.le (by decide)) (by decide) ww_1258 dX10_duchyLine_93 rfl hW.t120_16 ?_
        refine SW.iconst (v := (0 : Int32)) dX10_duchyLine_96 (by decide) ?_
        refine SW.iload_n dX10_duchyLine_97 rfl ?_
        refine SW.iast kp_124 (by decide) (hW.le (by decide)) (vp_in_nI (n := 0) (by decide) (by decide)) dX10_duchyLine_98 ?_
        exact SW.vret dX10_duchyLine_99 rfl ⟨rfl, vc⟩
    · replace vc := vc.2 hbr
      exact SW.vret dX10_duchyLine_25 rfl ⟨rfl, vc⟩
  · replace vc := vc.2 hbr
    refine SW.aload_n dX10_duchyLine_9 rfl ?_
    refine SW.iconst (v := (3 : Int32)) dX10_duchyLine_10 (by decide) ?_
    refine SW.aload_n dX10_duchyLine_11 rfl ?_
    refine SW.getI (f := 4) aw_cl10 kp_120 (by decide) (hW.le (by decide)) (by decide) ww_1246 dX10_duchyLine_12 rfl ?_
    refine SW.cvv2 kV_X10_115 (by omega) aw_cl10 kp_120 (by decide) (hW.le (by decide)) rfl (Nat.le_of_ble_eq_true rfl) dX10_duchyLine_15 (SMv.mono vc ?_)
    intro n6 σ6 τ6 θ6 vc
    obtain ⟨hW, vc⟩ := vc
    refine SW.aload_n dX10_duchyLine_18 rfl ?_
    refine SW.getI (f := 13) aw_cl10 kp_120 (by decide) (hW.le (by decide)) (by decide) ww_1255 dX10_duchyLine_19 rfl ?_
    refine SW.if_eq 26 dX10_duchyLine_22 (by decide) (fun hbr => ?_) (fun hbr => ?_)
    · replace vc := vc.1 hbr
      refine SW.aload_n dX10_duchyLine_26 rfl ?_
      refine SW.cvv0 kV_X10_109 (by omega) aw_cl10 kp_120 (by decide) (hW.le (by decide)) rfl (Nat.le_of_ble_eq_true rfl) dX10_duchyLine_27 (SMv.mono vc ?_)
      intro n7 σ7 τ7 θ7 vc
      obtain ⟨hW, vc⟩ := vc
      refine SW.aload_n dX10_duchyLine_30 rfl ?_
      refine SW.ldcS (j := 21) rfl dX10_duchyLine_31 ?_
      refine SW.iconst (v := (1 : Int32)) dX10_duchyLine_33 (by decide) ?_
      refine SW.bipush (v := (20 : Int32)) dX10_duchyLine_34 (by decide) ?_
      refine SW.cvi3 kV_X10_203 (by omega) aw_cl10 kp_120 (by decide) (hW.le (by decide)) rfl (Nat.le_of_ble_eq_true rfl) dX10_duchyLine_36 (SMi.mono vc ?_)
      intro a8 n8 σ8 τ8 θ8 vc
      obtain ⟨hW, vc⟩ := vc
      refine SW.istore_n dX10_duchyLine_39 (by decide) rfl rfl ?_
      refine SW.aload_n dX10_duchyLine_40 rfl ?_
      refine SW.getS (f := 16) (r := 124) aw_cl10 kp_120 (by decide) (hW.le (by decide)) (by decide) ww_1258 dX10_duchyLine_41 rfl hW.t120_16 ?_
      refine SW.iconst (v := (1 : Int32)) dX10_duchyLine_44 (by decide) ?_
      refine SW.aload_n dX10_duchyLine_45 rfl ?_
      refine SW.ldcS (j := 22) rfl dX10_duchyLine_46 ?_
      refine SW.iconst (v := (0 : Int32)) dX10_duchyLine_48 (by decide) ?_
      refine SW.bipush (v := (100 : Int32)) dX10_duchyLine_49 (by decide) ?_
      refine SW.cvi3 kV_X10_203 (by omega) aw_cl10 kp_120 (by decide) (hW.le (by decide)) rfl (Nat.le_of_ble_eq_true rfl) dX10_duchyLine_51 (SMi.mono vc ?_)
      intro a9 n9 σ9 τ9 θ9 vc
      obtain ⟨hW, vc⟩ := vc
      refine SW.iast kp_124 (by decide) (hW.le (by decide)) (vp_in_nI (n := 1) (by decide) (by decide)) dX10_duchyLine_54 ?_
      refine SW.aload_n dX10_duchyLine_55 rfl ?_
      refine SW.getS (f := 16) (r := 124) aw_cl10 kp_120 (by decide) (hW.le (by decide)) (by decide) ww_1258 dX10_duchyLine_56 rfl hW.t120_16 ?_
      refine SW.iconst (v := (2 : Int32)) dX10_duchyLine_59 (by decide) ?_
      refine SW.aload_n dX10_duchyLine_60 rfl ?_
      refine SW.ldcS (j := 23) rfl dX10_duchyLine_61 ?_
      refine SW.iconst (v := (0 : Int32)) dX10_duchyLine_63 (by decide) ?_
      refine SW.bipush (v := (100 : Int32)) dX10_duchyLine_64 (by decide) ?_
      refine SW.cvi3 kV_X10_203 (by omega) aw_cl10 kp_120 (by decide) (hW.le (by decide)) rfl (Nat.le_of_ble_eq_true rfl) dX10_duchyLine_66 (SMi.mono vc ?_)
      intro a10 n10 σ10 τ10 θ10 vc
      obtain ⟨hW, vc⟩ := vc
      refine SW.iast kp_124 (by decide) (hW.le (by decide)) (vp_in_nI (n := 2) (by decide) (by decide)) dX10_duchyLine_69 ?_
      refine SW.aload_n dX10_duchyLine_70 rfl ?_
      refine SW.getS (f := 16) (r := 124) aw_cl10 kp_120 (by decide) (hW.le (by decide)) (by decide) ww_1258 dX10_duchyLine_71 rfl hW.t120_16 ?_
      refine SW.iconst (v := (3 : Int32)) dX10_duchyLine_74 (by decide) ?_
      refine SW.aload_n dX10_duchyLine_75 rfl ?_
      refine SW.ldcS (j := 24) rfl dX10_duchyLine_76 ?_
      refine SW.iconst (v := (0 : Int32)) dX10_duchyLine_78 (by decide) ?_
      refine SW.bipush (v := (100 : Int32)) dX10_duchyLine_79 (by decide) ?_
      refine SW.cvi3 kV_X10_203 (by omega) aw_cl10 kp_120 (by decide) (hW.le (by decide)) rfl (Nat.le_of_ble_eq_true rfl) dX10_duchyLine_81 (SMi.mono vc ?_)
      intro a11 n11 σ11 τ11 θ11 vc
      obtain ⟨hW, vc⟩ := vc
      refine SW.iast kp_124 (by decide) (hW.le (by decide)) (vp_in_nI (n := 3) (by decide) (by decide)) dX10_duchyLine_84 ?_
      refine SW.aload_n dX10_duchyLine_85 rfl ?_
      refine SW.getI (f := 13) aw_cl10 kp_120 (by decide) (hW.le (by decide)) (by decide) ww_1255 dX10_duchyLine_86 rfl ?_
      refine SW.if_ne 99 dX10_duchyLine_89 (by decide) (fun hbr => ?_) (fun hbr => ?_)
      · replace vc := vc.1 hbr
        exact SW.vret dX10_duchyLine_99 rfl ⟨rfl, vc⟩
      · replace vc := vc.2 hbr
        refine SW.aload_n dX10_duchyLine_92 rfl ?_
        refine SW.getS (f := 16) (r := 124) aw_cl10 kp_120 (by decide) (hW.le (by decide)) (by decide) ww_1258 dX10_duchyLine_93 rfl hW.t120_16 ?_
        refine SW.iconst (v := (0 : Int32)) dX10_duchyLine_96 (by decide) ?_
        refine SW.iload_n dX10_duchyLine_97 rfl ?_
        refine SW.iast kp_124 (by decide) (hW.le (by decide)) (vp_in_nI (n := 0) (by decide) (by decide)) dX10_duchyLine_98 ?_
        exact SW.vret dX10_duchyLine_99 rfl ⟨rfl, vc⟩
    · replace vc := vc.2 hbr
      exact SW.vret dX10_duchyLine_25 rfl ⟨rfl, vc⟩
theorem ctX10_duchyLine {G : GG} {q : Nat → SG → TU → TH → Prop} {n : Nat} {σ : SG} {τ : TU} {θ : TH}  (h : SW G 9 mX10_duchyLine (aw_qv q) 0 0 0 [some (.ref 120), none] [] (n, σ, τ, θ)) : SMv G 9 mX10_duchyLine 0 0 [.ref 120] n σ τ θ q := SM.of _ rfl rfl (Nat.le_of_ble_eq_true rfl) h
set_option maxHeartbeats 4000000 in
set_option maxRecDepth 20000 in
theorem sgX10_duel_0 {G : GG} {k : Nat} {q : Int32 → Nat → SG → TU → TH → Prop} {n : Nat} {σ : SG} {τ : TU} {θ : TH}  (x1 : Int32) (x2 : Int32) (x3 : Int32) (x4 : Int32) (x5 : Int32) (x6 : Int32) (hk : 4 ≤ k)  (hW : aw_WT n θ) (vc : SMv G 1 mX10_good 0 0 [.ref 120] n σ τ θ (fun n1 σ1 τ1 θ1 => aw_WT n1 θ1 ∧ (SMi G 3 mX10_duelWhy 0 0 [.ref 120, .int x1, .int x2, .int x3] n1 σ1 τ1 θ1 (fun a2 n2 σ2 τ2 θ2 => aw_WT n2 θ2 ∧ (((¬ a2 = 0) → (q (-100 : Int32) n2 (aw_u σ2 120 11 a2) τ2 θ2)) ∧ ((a2 = 0) → (((x6 = 0) → (SMi G 2 mX10_hasBy 0 0 [.ref 120, .int x1, .int x2, .int x3, .int x4, .int x5] n2 σ2 τ2 θ2 (fun a3 n3 σ3 τ3 θ3 => aw_WT n3 θ3 ∧ (q a3 n3 σ3 τ3 θ3)))) ∧ ((¬ x6 = 0) → (SMi G 2 mX10_hasBy 0 0 [.ref 120, .int x2, .int x1, .int x3, .int x5, .int x4] n2 σ2 τ2 θ2 (fun a4 n4 σ4 τ4 θ4 => aw_WT n4 θ4 ∧ (q a4 n4 σ4 τ4 θ4))))))))))) : SW G k mX10_duel (aw_qi q) 0 0 0 [some (.ref 120), some (.int x1), some (.int x2), some (.int x3), some (.int x4), some (.int x5), some (.int x6), none] [] (n, σ, τ, θ) := by
  refine SW.aload_n dX10_duel_0 rfl ?_
  refine SW.cvv0 kV_X10_154 (by omega) aw_cl10 kp_120 (by decide) (hW.le (by decide)) rfl (Nat.le_of_ble_eq_true rfl) dX10_duel_1 (SMv.mono vc ?_)
  intro n1 σ1 τ1 θ1 vc
  obtain ⟨hW, vc⟩ := vc
  refine SW.aload_n dX10_duel_4 rfl ?_
  refine SW.iload_n dX10_duel_5 rfl ?_
  refine SW.iload_n dX10_duel_6 rfl ?_
  refine SW.iload_n dX10_duel_7 rfl ?_
  refine SW.cvi3 kV_X10_375 (by omega) aw_cl10 kp_120 (by decide) (hW.le (by decide)) rfl (Nat.le_of_ble_eq_true rfl) dX10_duel_8 (SMi.mono vc ?_)
  intro a2 n2 σ2 τ2 θ2 vc
  obtain ⟨hW, vc⟩ := vc
  refine SW.istore dX10_duel_11 (by decide) rfl rfl ?_
  refine SW.iload dX10_duel_13 rfl ?_
  refine SW.if_ne 49 dX10_duel_15 (by decide) (fun hbr => ?_) (fun hbr => ?_)
  · replace vc := vc.1 hbr
    refine SW.aload_n dX10_duel_49 rfl ?_
    refine SW.iload dX10_duel_50 rfl ?_
    refine SW.putI (f := 11) aw_cl10 kp_120 (by decide) (hW.le (by decide)) (by decide) ww_1253 (Or.inl rfl) dX10_duel_52 rfl rfl rfl ?_
    refine SW.bipush (v := (-100 : Int32)) dX10_duel_55 (by decide) ?_
    exact SW.iret dX10_duel_57 rfl rfl ⟨_, rfl, vc⟩
  · replace vc := vc.2 hbr
    refine SW.iload dX10_duel_18 rfl ?_
    refine SW.if_eq 37 dX10_duel_20 (by decide) (fun hbr => ?_) (fun hbr => ?_)
    · replace vc := vc.1 hbr
      refine SW.aload_n dX10_duel_37 rfl ?_
      refine SW.iload_n dX10_duel_38 rfl ?_
      refine SW.iload_n dX10_duel_39 rfl ?_
      refine SW.iload_n dX10_duel_40 rfl ?_
      refine SW.iload dX10_duel_41 rfl ?_
      refine SW.iload dX10_duel_43 rfl ?_
      refine SW.cvi5 kV_X10_379 (by omega) aw_cl10 kp_120 (by decide) (hW.le (by decide)) rfl (Nat.le_of_ble_eq_true rfl) dX10_duel_45 (SMi.mono vc ?_)
      intro a3 n3 σ3 τ3 θ3 vc
      obtain ⟨hW, vc⟩ := vc
      exact SW.iret dX10_duel_48 rfl rfl ⟨_, rfl, vc⟩
    · replace vc := vc.2 hbr
      refine SW.aload_n dX10_duel_23 rfl ?_
      refine SW.iload_n dX10_duel_24 rfl ?_
      refine SW.iload_n dX10_duel_25 rfl ?_
      refine SW.iload_n dX10_duel_26 rfl ?_
      refine SW.iload dX10_duel_27 rfl ?_
      refine SW.iload dX10_duel_29 rfl ?_
      refine SW.cvi5 kV_X10_379 (by omega) aw_cl10 kp_120 (by decide) (hW.le (by decide)) rfl (Nat.le_of_ble_eq_true rfl) dX10_duel_31 (SMi.mono vc ?_)
      intro a4 n4 σ4 τ4 θ4 vc
      obtain ⟨hW, vc⟩ := vc
      refine SW.goto 48 dX10_duel_34 (by decide) ?_
      exact SW.iret dX10_duel_48 rfl rfl ⟨_, rfl, vc⟩
theorem ctX10_duel {G : GG} {q : Int32 → Nat → SG → TU → TH → Prop} {n : Nat} {σ : SG} {τ : TU} {θ : TH} (x1 : Int32) (x2 : Int32) (x3 : Int32) (x4 : Int32) (x5 : Int32) (x6 : Int32) (h : SW G 4 mX10_duel (aw_qi q) 0 0 0 [some (.ref 120), some (.int x1), some (.int x2), some (.int x3), some (.int x4), some (.int x5), some (.int x6), none] [] (n, σ, τ, θ)) : SMi G 4 mX10_duel 0 0 [.ref 120, .int x1, .int x2, .int x3, .int x4, .int x5, .int x6] n σ τ θ q := SM.of _ rfl rfl (Nat.le_of_ble_eq_true rfl) h
set_option maxHeartbeats 4000000 in
set_option maxRecDepth 20000 in
theorem sgX10_duelOf_0 {G : GG} {k : Nat} {q : Int32 → Nat → SG → TU → TH → Prop} {n : Nat} {σ : SG} {τ : TU} {θ : TH}  (x0 : Int32) (x1 : Int32) (x2 : Int32) (x3 : Int32) (x4 : Int32) (hk : 1 ≤ k)  (hW : aw_WT n θ) (vc : ((¬ x3 = 0) → (((¬ x4 = 0) → (((x0 ≤ x1) → (q (-3 : Int32) n σ τ θ)) ∧ ((¬ x0 ≤ x1) → (q (x2 - (3 : Int32)) n σ τ θ)))) ∧ ((x4 = 0) → (q x2 n σ τ θ)))) ∧ ((x3 = 0) → (((x4 = 0) → (q (x2 / (2 : Int32)) n σ τ θ)) ∧ ((¬ x4 = 0) → (q (0 : Int32) n σ τ θ))))) : SW G k mX10_duelOf (aw_qi q) 0 0 0 [some (.int x0), some (.int x1), some (.int x2), some (.int x3), some (.int x4)] [] (n, σ, τ, θ) := by
  refine SW.iload_n dX10_duelOf_0 rfl ?_
  refine SW.if_ne 17 dX10_duelOf_1 (by decide) (fun hbr => ?_) (fun hbr => ?_)
  · replace vc := vc.1 hbr
    refine SW.iload dX10_duelOf_17 rfl ?_
    refine SW.if_ne 26 dX10_duelOf_19 (by decide) (fun hbr => ?_) (fun hbr => ?_)
    · replace vc := vc.1 hbr
      refine SW.iload_n dX10_duelOf_26 rfl ?_
      refine SW.iload_n dX10_duelOf_27 rfl ?_
      refine SW.icmp_le 37 dX10_duelOf_28 (by decide) (fun hbr => ?_) (fun hbr => ?_)
      · replace vc := vc.1 hbr
        refine SW.bipush (v := (-3 : Int32)) dX10_duelOf_37 (by decide) ?_
        exact SW.iret dX10_duelOf_39 rfl rfl ⟨_, rfl, vc⟩
      · replace vc := vc.2 hbr
        refine SW.iload_n dX10_duelOf_31 rfl ?_
        refine SW.iconst (v := (3 : Int32)) dX10_duelOf_32 (by decide) ?_
        refine SW.isub dX10_duelOf_33 ?_
        refine SW.goto 39 dX10_duelOf_34 (by decide) ?_
        exact SW.iret dX10_duelOf_39 rfl rfl ⟨_, rfl, vc⟩
    · replace vc := vc.2 hbr
      refine SW.iload_n dX10_duelOf_22 rfl ?_
      refine SW.goto 39 dX10_duelOf_23 (by decide) ?_
      exact SW.iret dX10_duelOf_39 rfl rfl ⟨_, rfl, vc⟩
  · replace vc := vc.2 hbr
    refine SW.iload dX10_duelOf_4 rfl ?_
    refine SW.if_eq 13 dX10_duelOf_6 (by decide) (fun hbr => ?_) (fun hbr => ?_)
    · replace vc := vc.1 hbr
      refine SW.iload_n dX10_duelOf_13 rfl ?_
      refine SW.iconst (v := (2 : Int32)) dX10_duelOf_14 (by decide) ?_
      refine SW.idiv dX10_duelOf_15 (by decide) ?_
      exact SW.iret dX10_duelOf_16 rfl rfl ⟨_, rfl, vc⟩
    · replace vc := vc.2 hbr
      refine SW.iconst (v := (0 : Int32)) dX10_duelOf_9 (by decide) ?_
      refine SW.goto 16 dX10_duelOf_10 (by decide) ?_
      exact SW.iret dX10_duelOf_16 rfl rfl ⟨_, rfl, vc⟩
theorem ctX10_duelOf {G : GG} {q : Int32 → Nat → SG → TU → TH → Prop} {n : Nat} {σ : SG} {τ : TU} {θ : TH} (x0 : Int32) (x1 : Int32) (x2 : Int32) (x3 : Int32) (x4 : Int32) (h : SW G 1 mX10_duelOf (aw_qi q) 0 0 0 [some (.int x0), some (.int x1), some (.int x2), some (.int x3), some (.int x4)] [] (n, σ, τ, θ)) : SMi G 1 mX10_duelOf 0 0 [.int x0, .int x1, .int x2, .int x3, .int x4] n σ τ θ q := SM.of _ rfl rfl (Nat.le_of_ble_eq_true rfl) h
set_option maxHeartbeats 4000000 in
set_option maxRecDepth 20000 in
theorem sgX10_duelWhy_0 {G : GG} {k : Nat} {q : Int32 → Nat → SG → TU → TH → Prop} {n : Nat} {σ : SG} {τ : TU} {θ : TH}  (x1 : Int32) (x2 : Int32) (x3 : Int32) (hk : 3 ≤ k)  (hW : aw_WT n θ) (vc : SMi G 2 mX10_isMan 0 0 [.ref 120, .int x1] n σ τ θ (fun a1 n1 σ1 τ1 θ1 => aw_WT n1 θ1 ∧ (((a1 = 0) → (SMi G 1 mX10_in 0 0 [.int x3, .int (0 : Int32), .int (99 : Int32)] n1 σ1 τ1 θ1 (fun a2 n2 σ2 τ2 θ2 => aw_WT n2 θ2 ∧ (SMi G 1 mX10_why 0 0 [.ref 120, .int (0 : Int32), .int a2] n2 σ2 τ2 θ2 (fun a3 n3 σ3 τ3 θ3 => aw_WT n3 θ3 ∧ (q a3 n3 σ3 τ3 θ3)))))) ∧ ((¬ a1 = 0) → (SMi G 2 mX10_isMan 0 0 [.ref 120, .int x2] n1 σ1 τ1 θ1 (fun a4 n4 σ4 τ4 θ4 => aw_WT n4 θ4 ∧ (((a4 = 0) → (SMi G 1 mX10_in 0 0 [.int x3, .int (0 : Int32), .int (99 : Int32)] n4 σ4 τ4 θ4 (fun a5 n5 σ5 τ5 θ5 => aw_WT n5 θ5 ∧ (SMi G 1 mX10_why 0 0 [.ref 120, .int (0 : Int32), .int a5] n5 σ5 τ5 θ5 (fun a6 n6 σ6 τ6 θ6 => aw_WT n6 θ6 ∧ (q a6 n6 σ6 τ6 θ6)))))) ∧ ((¬ a4 = 0) → (((x1 = x2) → (SMi G 1 mX10_in 0 0 [.int x3, .int (0 : Int32), .int (99 : Int32)] n4 σ4 τ4 θ4 (fun a7 n7 σ7 τ7 θ7 => aw_WT n7 θ7 ∧ (SMi G 1 mX10_why 0 0 [.ref 120, .int (0 : Int32), .int a7] n7 σ7 τ7 θ7 (fun a8 n8 σ8 τ8 θ8 => aw_WT n8 θ8 ∧ (q a8 n8 σ8 τ8 θ8)))))) ∧ ((¬ x1 = x2) → (SMi G 1 mX10_in 0 0 [.int x3, .int (0 : Int32), .int (99 : Int32)] n4 σ4 τ4 θ4 (fun a9 n9 σ9 τ9 θ9 => aw_WT n9 θ9 ∧ (SMi G 1 mX10_why 0 0 [.ref 120, .int (1 : Int32), .int a9] n9 σ9 τ9 θ9 (fun a10 n10 σ10 τ10 θ10 => aw_WT n10 θ10 ∧ (q a10 n10 σ10 τ10 θ10))))))))))))))) : SW G k mX10_duelWhy (aw_qi q) 0 0 0 [some (.ref 120), some (.int x1), some (.int x2), some (.int x3)] [] (n, σ, τ, θ) := by
  refine SW.aload_n dX10_duelWhy_0 rfl ?_
  refine SW.aload_n dX10_duelWhy_1 rfl ?_
  refine SW.iload_n dX10_duelWhy_2 rfl ?_
  refine SW.cvi1 kV_X10_264 (by omega) aw_cl10 kp_120 (by decide) (hW.le (by decide)) rfl (Nat.le_of_ble_eq_true rfl) dX10_duelWhy_3 (SMi.mono vc ?_)
  intro a1 n1 σ1 τ1 θ1 vc
  obtain ⟨hW, vc⟩ := vc
  refine SW.if_eq 26 dX10_duelWhy_6 (by decide) (fun hbr => ?_) (fun hbr => ?_)
  · replace vc := vc.1 hbr
    refine SW.iconst (v := (0 : Int32)) dX10_duelWhy_26 (by decide) ?_
    refine SW.iload_n dX10_duelWhy_27 rfl ?_
    refine SW.iconst (v := (0 : Int32)) dX10_duelWhy_28 (by decide) ?_
    refine SW.bipush (v := (99 : Int32)) dX10_duelWhy_29 (by decide) ?_
    refine SW.csi3 kS_X10_139 (by omega) (Nat.le_of_ble_eq_true rfl) dX10_duelWhy_31 (SMi.mono vc ?_)
    intro a2 n2 σ2 τ2 θ2 vc
    obtain ⟨hW, vc⟩ := vc
    refine SW.cvi2 kV_X10_289 (by omega) aw_cl10 kp_120 (by decide) (hW.le (by decide)) rfl (Nat.le_of_ble_eq_true rfl) dX10_duelWhy_34 (SMi.mono vc ?_)
    intro a3 n3 σ3 τ3 θ3 vc
    obtain ⟨hW, vc⟩ := vc
    exact SW.iret dX10_duelWhy_37 rfl rfl ⟨_, rfl, vc⟩
  · replace vc := vc.2 hbr
    refine SW.aload_n dX10_duelWhy_9 rfl ?_
    refine SW.iload_n dX10_duelWhy_10 rfl ?_
    refine SW.cvi1 kV_X10_264 (by omega) aw_cl10 kp_120 (by decide) (hW.le (by decide)) rfl (Nat.le_of_ble_eq_true rfl) dX10_duelWhy_11 (SMi.mono vc ?_)
    intro a4 n4 σ4 τ4 θ4 vc
    obtain ⟨hW, vc⟩ := vc
    refine SW.if_eq 26 dX10_duelWhy_14 (by decide) (fun hbr => ?_) (fun hbr => ?_)
    · replace vc := vc.1 hbr
      refine SW.iconst (v := (0 : Int32)) dX10_duelWhy_26 (by decide) ?_
      refine SW.iload_n dX10_duelWhy_27 rfl ?_
      refine SW.iconst (v := (0 : Int32)) dX10_duelWhy_28 (by decide) ?_
      refine SW.bipush (v := (99 : Int32)) dX10_duelWhy_29 (by decide) ?_
      refine SW.csi3 kS_X10_139 (by omega) (Nat.le_of_ble_eq_true rfl) dX10_duelWhy_31 (SMi.mono vc ?_)
      intro a5 n5 σ5 τ5 θ5 vc
      obtain ⟨hW, vc⟩ := vc
      refine SW.cvi2 kV_X10_289 (by omega) aw_cl10 kp_120 (by decide) (hW.le (by decide)) rfl (Nat.le_of_ble_eq_true rfl) dX10_duelWhy_34 (SMi.mono vc ?_)
      intro a6 n6 σ6 τ6 θ6 vc
      obtain ⟨hW, vc⟩ := vc
      exact SW.iret dX10_duelWhy_37 rfl rfl ⟨_, rfl, vc⟩
    · replace vc := vc.2 hbr
      refine SW.iload_n dX10_duelWhy_17 rfl ?_
      refine SW.iload_n dX10_duelWhy_18 rfl ?_
      refine SW.icmp_eq 26 dX10_duelWhy_19 (by decide) (fun hbr => ?_) (fun hbr => ?_)
      · replace vc := vc.1 hbr
        refine SW.iconst (v := (0 : Int32)) dX10_duelWhy_26 (by decide) ?_
        refine SW.iload_n dX10_duelWhy_27 rfl ?_
        refine SW.iconst (v := (0 : Int32)) dX10_duelWhy_28 (by decide) ?_
        refine SW.bipush (v := (99 : Int32)) dX10_duelWhy_29 (by decide) ?_
        refine SW.csi3 kS_X10_139 (by omega) (Nat.le_of_ble_eq_true rfl) dX10_duelWhy_31 (SMi.mono vc ?_)
        intro a7 n7 σ7 τ7 θ7 vc
        obtain ⟨hW, vc⟩ := vc
        refine SW.cvi2 kV_X10_289 (by omega) aw_cl10 kp_120 (by decide) (hW.le (by decide)) rfl (Nat.le_of_ble_eq_true rfl) dX10_duelWhy_34 (SMi.mono vc ?_)
        intro a8 n8 σ8 τ8 θ8 vc
        obtain ⟨hW, vc⟩ := vc
        exact SW.iret dX10_duelWhy_37 rfl rfl ⟨_, rfl, vc⟩
      · replace vc := vc.2 hbr
        refine SW.iconst (v := (1 : Int32)) dX10_duelWhy_22 (by decide) ?_
        refine SW.goto 27 dX10_duelWhy_23 (by decide) ?_
        refine SW.iload_n dX10_duelWhy_27 rfl ?_
        refine SW.iconst (v := (0 : Int32)) dX10_duelWhy_28 (by decide) ?_
        refine SW.bipush (v := (99 : Int32)) dX10_duelWhy_29 (by decide) ?_
        refine SW.csi3 kS_X10_139 (by omega) (Nat.le_of_ble_eq_true rfl) dX10_duelWhy_31 (SMi.mono vc ?_)
        intro a9 n9 σ9 τ9 θ9 vc
        obtain ⟨hW, vc⟩ := vc
        refine SW.cvi2 kV_X10_289 (by omega) aw_cl10 kp_120 (by decide) (hW.le (by decide)) rfl (Nat.le_of_ble_eq_true rfl) dX10_duelWhy_34 (SMi.mono vc ?_)
        intro a10 n10 σ10 τ10 θ10 vc
        obtain ⟨hW, vc⟩ := vc
        exact SW.iret dX10_duelWhy_37 rfl rfl ⟨_, rfl, vc⟩
theorem ctX10_duelWhy {G : GG} {q : Int32 → Nat → SG → TU → TH → Prop} {n : Nat} {σ : SG} {τ : TU} {θ : TH} (x1 : Int32) (x2 : Int32) (x3 : Int32) (h : SW G 3 mX10_duelWhy (aw_qi q) 0 0 0 [some (.ref 120), some (.int x1), some (.int x2), some (.int x3)] [] (n, σ, τ, θ)) : SMi G 3 mX10_duelWhy 0 0 [.ref 120, .int x1, .int x2, .int x3] n σ τ θ q := SM.of _ rfl rfl (Nat.le_of_ble_eq_true rfl) h
set_option maxHeartbeats 4000000 in
set_option maxRecDepth 20000 in
theorem sgX10_eat_0 {G : GG} {k : Nat} {q : Nat → SG → TU → TH → Prop} {n : Nat} {σ : SG} {τ : TU} {θ : TH}  (x1 : Int32) (hk : 3 ≤ k)  (hW : aw_WT n θ) (vc : SW G k mX10_eat (aw_qv q) 0 0 2 [some (.ref 120), some (.int x1), some (.int (0 : Int32)), none] [] (n, σ, τ, θ)) : SW G k mX10_eat (aw_qv q) 0 0 0 [some (.ref 120), some (.int x1), none, none] [] (n, σ, τ, θ) := by
  refine SW.iconst (v := (0 : Int32)) dX10_eat_0 (by decide) ?_
  refine SW.istore_n dX10_eat_1 (by decide) rfl rfl ?_
  exact vc
set_option maxHeartbeats 4000000 in
set_option maxRecDepth 20000 in
theorem sgX10_eat_2 {G : GG} {k : Nat} {q : Nat → SG → TU → TH → Prop} {n : Nat} {σ : SG} {τ : TU} {θ : TH}  (x1 : Int32) (x2 : Int32) (hk : 3 ≤ k)  (hW : aw_WT n θ) (vc : (((σ 123 5) ≤ x2) → (q n σ τ θ)) ∧ ((¬ (σ 123 5) ≤ x2) → (SMi G 2 mX10_isOf 0 0 [.ref 120, .ref 128, .int x2, .int x1] n σ τ θ (fun a1 n1 σ1 τ1 θ1 => aw_WT n1 θ1 ∧ (((¬ a1 = 0) → (vp_in x2 13 ∧ ((((σ1 123 0) ≤ (σ1 128 x2.toNatClampNeg)) → (vp_in x2 13 ∧ (vp_in x2 13 ∧ (q n1 (aw_u (aw_u σ1 128 x2.toNatClampNeg ((σ1 128 x2.toNatClampNeg) - (σ1 123 0))) 120 32 (((aw_u σ1 128 x2.toNatClampNeg ((σ1 128 x2.toNatClampNeg) - (σ1 123 0))) 120 32) + (σ1 123 0))) τ1 θ1)))) ∧ ((¬ (σ1 123 0) ≤ (σ1 128 x2.toNatClampNeg)) → (vp_in x2 13 ∧ (vp_in x2 13 ∧ (vp_in x2 13 ∧ (q n1 (aw_u (aw_u σ1 128 x2.toNatClampNeg ((σ1 128 x2.toNatClampNeg) - (σ1 128 x2.toNatClampNeg))) 120 32 (((aw_u σ1 128 x2.toNatClampNeg ((σ1 128 x2.toNatClampNeg) - (σ1 128 x2.toNatClampNeg))) 120 32) + (σ1 128 x2.toNatClampNeg))) τ1 θ1)))))))) ∧ ((a1 = 0) → (SW G k mX10_eat (aw_qv q) 0 0 2 [some (.ref 120), some (.int x1), some (.int (x2 + (1 : Int32))), none] [] (n1, σ1, τ1, θ1)))))))) : SW G k mX10_eat (aw_qv q) 0 0 2 [some (.ref 120), some (.int x1), some (.int x2), none] [] (n, σ, τ, θ) := by
  refine SW.iload_n dX10_eat_2 rfl ?_
  refine SW.aload_n dX10_eat_3 rfl ?_
  refine SW.getS (f := 15) (r := 123) aw_cl10 kp_120 (by decide) (hW.le (by decide)) (by decide) ww_1257 dX10_eat_4 rfl hW.t120_15 ?_
  refine SW.iconst (v := (5 : Int32)) dX10_eat_7 (by decide) ?_
  refine SW.iald kp_123 (by decide) (hW.le (by decide)) (vp_in_nI (n := 5) (by decide) (by decide)) dX10_eat_8 ?_
  refine SW.icmp_ge 86 dX10_eat_9 (by decide) (fun hbr => ?_) (fun hbr => ?_)
  · replace vc := vc.1 hbr
    exact SW.vret dX10_eat_86 rfl ⟨rfl, vc⟩
  · replace vc := vc.2 hbr
    refine SW.aload_n dX10_eat_12 rfl ?_
    refine SW.aload_n dX10_eat_13 rfl ?_
    refine SW.getS (f := 23) (r := 128) aw_cl10 kp_120 (by decide) (hW.le (by decide)) (by decide) ww_1265 dX10_eat_14 rfl hW.t120_23 ?_
    refine SW.iload_n dX10_eat_17 rfl ?_
    refine SW.iload_n dX10_eat_18 rfl ?_
    refine SW.cvi3 kV_X10_240 (by omega) aw_cl10 kp_120 (by decide) (hW.le (by decide)) rfl (Nat.le_of_ble_eq_true rfl) dX10_eat_19 (SMi.mono vc ?_)
    intro a1 n1 σ1 τ1 θ1 vc
    obtain ⟨hW, vc⟩ := vc
    refine SW.if_ne 28 dX10_eat_22 (by decide) (fun hbr => ?_) (fun hbr => ?_)
    · replace vc := vc.1 hbr
      refine SW.aload_n dX10_eat_28 rfl ?_
      refine SW.getS (f := 23) (r := 128) aw_cl10 kp_120 (by decide) (hW.le (by decide)) (by decide) ww_1265 dX10_eat_29 rfl hW.t120_23 ?_
      refine SW.iload_n dX10_eat_32 rfl ?_
      refine SW.iald kp_128 (by decide) (hW.le (by decide)) vc.1 dX10_eat_33 ?_
      replace vc := vc.2
      refine SW.aload_n dX10_eat_34 rfl ?_
      refine SW.getS (f := 15) (r := 123) aw_cl10 kp_120 (by decide) (hW.le (by decide)) (by decide) ww_1257 dX10_eat_35 rfl hW.t120_15 ?_
      refine SW.iconst (v := (0 : Int32)) dX10_eat_38 (by decide) ?_
      refine SW.iald kp_123 (by decide) (hW.le (by decide)) (vp_in_nI (n := 0) (by decide) (by decide)) dX10_eat_39 ?_
      refine SW.icmp_ge 52 dX10_eat_40 (by decide) (fun hbr => ?_) (fun hbr => ?_)
      · replace vc := vc.1 hbr
        refine SW.aload_n dX10_eat_52 rfl ?_
        refine SW.getS (f := 15) (r := 123) aw_cl10 kp_120 (by decide) (hW.le (by decide)) (by decide) ww_1257 dX10_eat_53 rfl hW.t120_15 ?_
        refine SW.iconst (v := (0 : Int32)) dX10_eat_56 (by decide) ?_
        refine SW.iald kp_123 (by decide) (hW.le (by decide)) (vp_in_nI (n := 0) (by decide) (by decide)) dX10_eat_57 ?_
        refine SW.istore_n dX10_eat_58 (by decide) rfl rfl ?_
        refine SW.aload_n dX10_eat_59 rfl ?_
        refine SW.getS (f := 23) (r := 128) aw_cl10 kp_120 (by decide) (hW.le (by decide)) (by decide) ww_1265 dX10_eat_60 rfl hW.t120_23 ?_
        refine SW.iload_n dX10_eat_63 rfl ?_
        refine SW.dup2 dX10_eat_64 rfl rfl ?_
        refine SW.iald kp_128 (by decide) (hW.le (by decide)) vc.1 dX10_eat_65 ?_
        replace vc := vc.2
        refine SW.iload_n dX10_eat_66 rfl ?_
        refine SW.isub dX10_eat_67 ?_
        refine SW.iast kp_128 (by decide) (hW.le (by decide)) vc.1 dX10_eat_68 ?_
        replace vc := vc.2
        refine SW.aload_n dX10_eat_69 rfl ?_
        refine SW.dup dX10_eat_70 rfl ?_
        refine SW.getI (f := 32) aw_cl10 kp_120 (by decide) (hW.le (by decide)) (by decide) ww_1274 dX10_eat_71 rfl ?_
        refine SW.iload_n dX10_eat_74 rfl ?_
        refine SW.iadd dX10_eat_75 ?_
        refine SW.putI (f := 32) aw_cl10 kp_120 (by decide) (hW.le (by decide)) (by decide) ww_1274 (Or.inl rfl) dX10_eat_76 rfl rfl rfl ?_
        exact SW.vret dX10_eat_79 rfl ⟨rfl, vc⟩
      · replace vc := vc.2 hbr
        refine SW.aload_n dX10_eat_43 rfl ?_
        refine SW.getS (f := 23) (r := 128) aw_cl10 kp_120 (by decide) (hW.le (by decide)) (by decide) ww_1265 dX10_eat_44 rfl hW.t120_23 ?_
        refine SW.iload_n dX10_eat_47 rfl ?_
        refine SW.iald kp_128 (by decide) (hW.le (by decide)) vc.1 dX10_eat_48 ?_
        replace vc := vc.2
        refine SW.goto 58 dX10_eat_49 (by decide) ?_
        refine SW.istore_n dX10_eat_58 (by decide) rfl rfl ?_
        refine SW.aload_n dX10_eat_59 rfl ?_
        refine SW.getS (f := 23) (r := 128) aw_cl10 kp_120 (by decide) (hW.le (by decide)) (by decide) ww_1265 dX10_eat_60 rfl hW.t120_23 ?_
        refine SW.iload_n dX10_eat_63 rfl ?_
        refine SW.dup2 dX10_eat_64 rfl rfl ?_
        refine SW.iald kp_128 (by decide) (hW.le (by decide)) vc.1 dX10_eat_65 ?_
        replace vc := vc.2
        refine SW.iload_n dX10_eat_66 rfl ?_
        refine SW.isub dX10_eat_67 ?_
        refine SW.iast kp_128 (by decide) (hW.le (by decide)) vc.1 dX10_eat_68 ?_
        replace vc := vc.2
        refine SW.aload_n dX10_eat_69 rfl ?_
        refine SW.dup dX10_eat_70 rfl ?_
        refine SW.getI (f := 32) aw_cl10 kp_120 (by decide) (hW.le (by decide)) (by decide) ww_1274 dX10_eat_71 rfl ?_
        refine SW.iload_n dX10_eat_74 rfl ?_
        refine SW.iadd dX10_eat_75 ?_
        refine SW.putI (f := 32) aw_cl10 kp_120 (by decide) (hW.le (by decide)) (by decide) ww_1274 (Or.inl rfl) dX10_eat_76 rfl rfl rfl ?_
        exact SW.vret dX10_eat_79 rfl ⟨rfl, vc⟩
    · replace vc := vc.2 hbr
      refine SW.goto 80 dX10_eat_25 (by decide) ?_
      refine SW.iinc (v := (x2 + (1 : Int32))) dX10_eat_80 rfl rfl (by decide) rfl rfl ?_
      refine SW.goto 2 dX10_eat_83 (by decide) ?_
      exact vc
theorem ctX10_eat {G : GG} {q : Nat → SG → TU → TH → Prop} {n : Nat} {σ : SG} {τ : TU} {θ : TH} (x1 : Int32) (h : SW G 3 mX10_eat (aw_qv q) 0 0 0 [some (.ref 120), some (.int x1), none, none] [] (n, σ, τ, θ)) : SMv G 3 mX10_eat 0 0 [.ref 120, .int x1] n σ τ θ q := SM.of _ rfl rfl (Nat.le_of_ble_eq_true rfl) h
set_option maxHeartbeats 4000000 in
set_option maxRecDepth 20000 in
theorem sgX10_eaten_0 {G : GG} {k : Nat} {q : Int32 → Nat → SG → TU → TH → Prop} {n : Nat} {σ : SG} {τ : TU} {θ : TH}  (x1 : Int32) (x2 : Int32) (hk : 6 ≤ k)  (hW : aw_WT n θ) (vc : SMv G 1 mX10_good 0 0 [.ref 120] n σ τ θ (fun n1 σ1 τ1 θ1 => aw_WT n1 θ1 ∧ (SMi G 5 mX10_mothsWhy 0 0 [.ref 120, .int (σ1 120 14), .int x1, .int x2] n1 σ1 τ1 θ1 (fun a2 n2 σ2 τ2 θ2 => aw_WT n2 θ2 ∧ (((a2 = 0) → (q (σ2 120 32) n2 σ2 τ2 θ2)) ∧ ((¬ a2 = 0) → (SMi G 1 mX10_no 0 0 [.ref 120, .int a2] n2 σ2 τ2 θ2 (fun a3 n3 σ3 τ3 θ3 => aw_WT n3 θ3 ∧ (q a3 n3 σ3 τ3 θ3))))))))) : SW G k mX10_eaten (aw_qi q) 0 0 0 [some (.ref 120), some (.int x1), some (.int x2), none] [] (n, σ, τ, θ) := by
  refine SW.aload_n dX10_eaten_0 rfl ?_
  refine SW.cvv0 kV_X10_154 (by omega) aw_cl10 kp_120 (by decide) (hW.le (by decide)) rfl (Nat.le_of_ble_eq_true rfl) dX10_eaten_1 (SMv.mono vc ?_)
  intro n1 σ1 τ1 θ1 vc
  obtain ⟨hW, vc⟩ := vc
  refine SW.aload_n dX10_eaten_4 rfl ?_
  refine SW.aload_n dX10_eaten_5 rfl ?_
  refine SW.getI (f := 14) aw_cl10 kp_120 (by decide) (hW.le (by decide)) (by decide) ww_1256 dX10_eaten_6 rfl ?_
  refine SW.iload_n dX10_eaten_9 rfl ?_
  refine SW.iload_n dX10_eaten_10 rfl ?_
  refine SW.cvi3 kV_X10_402 (by omega) aw_cl10 kp_120 (by decide) (hW.le (by decide)) rfl (Nat.le_of_ble_eq_true rfl) dX10_eaten_11 (SMi.mono vc ?_)
  intro a2 n2 σ2 τ2 θ2 vc
  obtain ⟨hW, vc⟩ := vc
  refine SW.istore_n dX10_eaten_14 (by decide) rfl rfl ?_
  refine SW.iload_n dX10_eaten_15 rfl ?_
  refine SW.if_eq 27 dX10_eaten_16 (by decide) (fun hbr => ?_) (fun hbr => ?_)
  · replace vc := vc.1 hbr
    refine SW.aload_n dX10_eaten_27 rfl ?_
    refine SW.getI (f := 32) aw_cl10 kp_120 (by decide) (hW.le (by decide)) (by decide) ww_1274 dX10_eaten_28 rfl ?_
    exact SW.iret dX10_eaten_31 rfl rfl ⟨_, rfl, vc⟩
  · replace vc := vc.2 hbr
    refine SW.aload_n dX10_eaten_19 rfl ?_
    refine SW.iload_n dX10_eaten_20 rfl ?_
    refine SW.cvi1 kV_X10_157 (by omega) aw_cl10 kp_120 (by decide) (hW.le (by decide)) rfl (Nat.le_of_ble_eq_true rfl) dX10_eaten_21 (SMi.mono vc ?_)
    intro a3 n3 σ3 τ3 θ3 vc
    obtain ⟨hW, vc⟩ := vc
    refine SW.goto 31 dX10_eaten_24 (by decide) ?_
    exact SW.iret dX10_eaten_31 rfl rfl ⟨_, rfl, vc⟩
theorem ctX10_eaten {G : GG} {q : Int32 → Nat → SG → TU → TH → Prop} {n : Nat} {σ : SG} {τ : TU} {θ : TH} (x1 : Int32) (x2 : Int32) (h : SW G 6 mX10_eaten (aw_qi q) 0 0 0 [some (.ref 120), some (.int x1), some (.int x2), none] [] (n, σ, τ, θ)) : SMi G 6 mX10_eaten 0 0 [.ref 120, .int x1, .int x2] n σ τ θ q := SM.of _ rfl rfl (Nat.le_of_ble_eq_true rfl) h
set_option maxHeartbeats 4000000 in
set_option maxRecDepth 20000 in
theorem sgX10_fault_0 {G : GG} {k : Nat} {q : Int32 → Nat → SG → TU → TH → Prop} {n : Nat} {σ : SG} {τ : TU} {θ : TH}   (hk : 1 ≤ k)  (hW : aw_WT n θ) (vc : q ((aw_u σ 120 0 (0 : Int32)) 120 9) n (aw_u σ 120 0 (0 : Int32)) τ θ) : SW G k mX10_fault (aw_qi q) 0 0 0 [some (.ref 120)] [] (n, σ, τ, θ) := by
  refine SW.aload_n dX10_fault_0 rfl ?_
  refine SW.iconst (v := (0 : Int32)) dX10_fault_1 (by decide) ?_
  refine SW.putI (f := 0) aw_cl10 kp_120 (by decide) (hW.le (by decide)) (by decide) ww_1242 (Or.inl rfl) dX10_fault_2 rfl rfl rfl ?_
  refine SW.aload_n dX10_fault_5 rfl ?_
  refine SW.getI (f := 9) aw_cl10 kp_120 (by decide) (hW.le (by decide)) (by decide) ww_1251 dX10_fault_6 rfl ?_
  exact SW.iret dX10_fault_9 rfl rfl ⟨_, rfl, vc⟩
theorem ctX10_fault {G : GG} {q : Int32 → Nat → SG → TU → TH → Prop} {n : Nat} {σ : SG} {τ : TU} {θ : TH}  (h : SW G 1 mX10_fault (aw_qi q) 0 0 0 [some (.ref 120)] [] (n, σ, τ, θ)) : SMi G 1 mX10_fault 0 0 [.ref 120] n σ τ θ q := SM.of _ rfl rfl (Nat.le_of_ble_eq_true rfl) h
set_option maxHeartbeats 4000000 in
set_option maxRecDepth 20000 in
theorem sgX10_feed_0 {G : GG} {k : Nat} {q : Int32 → Nat → SG → TU → TH → Prop} {n : Nat} {σ : SG} {τ : TU} {θ : TH}  (x1 : Int32) (x2 : Int32) (x3 : Int32) (x4 : Int32) (x5 : Int32) (hk : 1 ≤ k)  (hW : aw_WT n θ) (vc : (((((aw_u σ 120 0 (0 : Int32)) 120 2) + (20 : Int32)) ≤ (900 : Int32)) → (SW G k mX10_feed (aw_qi q) 0 0 23 [some (.ref 120), some (.int x1), some (.int x2), some (.int x3), some (.int x4), some (.int x5), some (.int (0 : Int32)), none] [] (n, (aw_u σ 120 0 (0 : Int32)), τ, θ))) ∧ ((¬ (((aw_u σ 120 0 (0 : Int32)) 120 2) + (20 : Int32)) ≤ (900 : Int32)) → (q (-1 : Int32) n (aw_u σ 120 0 (0 : Int32)) τ θ))) : SW G k mX10_feed (aw_qi q) 0 0 0 [some (.ref 120), some (.int x1), some (.int x2), some (.int x3), some (.int x4), some (.int x5), none, none] [] (n, σ, τ, θ) := by
  refine SW.aload_n dX10_feed_0 rfl ?_
  refine SW.iconst (v := (0 : Int32)) dX10_feed_1 (by decide) ?_
  refine SW.putI (f := 0) aw_cl10 kp_120 (by decide) (hW.le (by decide)) (by decide) ww_1242 (Or.inl rfl) dX10_feed_2 rfl rfl rfl ?_
  refine SW.aload_n dX10_feed_5 rfl ?_
  refine SW.getI (f := 2) aw_cl10 kp_120 (by decide) (hW.le (by decide)) (by decide) ww_1244 dX10_feed_6 rfl ?_
  refine SW.bipush (v := (20 : Int32)) dX10_feed_9 (by decide) ?_
  refine SW.iadd dX10_feed_11 ?_
  refine SW.sipush (v := (900 : Int32)) dX10_feed_12 (by decide) ?_
  refine SW.icmp_le 20 dX10_feed_15 (by decide) (fun hbr => ?_) (fun hbr => ?_)
  · replace vc := vc.1 hbr
    refine SW.iconst (v := (0 : Int32)) dX10_feed_20 (by decide) ?_
    refine SW.istore dX10_feed_21 (by decide) rfl rfl ?_
    exact vc
  · replace vc := vc.2 hbr
    refine SW.iconst (v := (-1 : Int32)) dX10_feed_18 (by decide) ?_
    exact SW.iret dX10_feed_19 rfl rfl ⟨_, rfl, vc⟩
set_option maxHeartbeats 4000000 in
set_option maxRecDepth 20000 in
theorem sgX10_feed_23 {G : GG} {k : Nat} {q : Int32 → Nat → SG → TU → TH → Prop} {n : Nat} {σ : SG} {τ : TU} {θ : TH}  (x1 : Int32) (x2 : Int32) (x3 : Int32) (x4 : Int32) (x5 : Int32) (x6 : Int32) (hk : 1 ≤ k)  (hW : aw_WT n θ) (vc : (((20 : Int32) ≤ x6) → (q (σ 120 2) n σ τ θ)) ∧ ((¬ (20 : Int32) ≤ x6) → ((((4 : Int32) ≤ x6) → ((((8 : Int32) ≤ x6) → ((((12 : Int32) ≤ x6) → ((((16 : Int32) ≤ x6) → (vp_in (σ 120 2) 900 ∧ (SW G k mX10_feed (aw_qi q) 0 0 23 [some (.ref 120), some (.int x1), some (.int x2), some (.int x3), some (.int x4), some (.int x5), some (.int (x6 + (1 : Int32))), none] [] (n, (aw_u (aw_u σ 121 (σ 120 2).toNatClampNeg ((x5 >>> (((24 : Int32) - ((8 : Int32) * (x6 - x6 / (4 : Int32) * (4 : Int32)))) &&& 31)) &&& (255 : Int32))) 120 2 (((aw_u σ 121 (σ 120 2).toNatClampNeg ((x5 >>> (((24 : Int32) - ((8 : Int32) * (x6 - x6 / (4 : Int32) * (4 : Int32)))) &&& 31)) &&& (255 : Int32))) 120 2) + (1 : Int32))), τ, θ)))) ∧ ((¬ (16 : Int32) ≤ x6) → (vp_in (σ 120 2) 900 ∧ (SW G k mX10_feed (aw_qi q) 0 0 23 [some (.ref 120), some (.int x1), some (.int x2), some (.int x3), some (.int x4), some (.int x5), some (.int (x6 + (1 : Int32))), none] [] (n, (aw_u (aw_u σ 121 (σ 120 2).toNatClampNeg ((x4 >>> (((24 : Int32) - ((8 : Int32) * (x6 - x6 / (4 : Int32) * (4 : Int32)))) &&& 31)) &&& (255 : Int32))) 120 2 (((aw_u σ 121 (σ 120 2).toNatClampNeg ((x4 >>> (((24 : Int32) - ((8 : Int32) * (x6 - x6 / (4 : Int32) * (4 : Int32)))) &&& 31)) &&& (255 : Int32))) 120 2) + (1 : Int32))), τ, θ)))))) ∧ ((¬ (12 : Int32) ≤ x6) → (vp_in (σ 120 2) 900 ∧ (SW G k mX10_feed (aw_qi q) 0 0 23 [some (.ref 120), some (.int x1), some (.int x2), some (.int x3), some (.int x4), some (.int x5), some (.int (x6 + (1 : Int32))), none] [] (n, (aw_u (aw_u σ 121 (σ 120 2).toNatClampNeg ((x3 >>> (((24 : Int32) - ((8 : Int32) * (x6 - x6 / (4 : Int32) * (4 : Int32)))) &&& 31)) &&& (255 : Int32))) 120 2 (((aw_u σ 121 (σ 120 2).toNatClampNeg ((x3 >>> (((24 : Int32) - ((8 : Int32) * (x6 - x6 / (4 : Int32) * (4 : Int32)))) &&& 31)) &&& (255 : Int32))) 120 2) + (1 : Int32))), τ, θ)))))) ∧ ((¬ (8 : Int32) ≤ x6) → (vp_in (σ 120 2) 900 ∧ (SW G k mX10_feed (aw_qi q) 0 0 23 [some (.ref 120), some (.int x1), some (.int x2), some (.int x3), some (.int x4), some (.int x5), some (.int (x6 + (1 : Int32))), none] [] (n, (aw_u (aw_u σ 121 (σ 120 2).toNatClampNeg ((x2 >>> (((24 : Int32) - ((8 : Int32) * (x6 - x6 / (4 : Int32) * (4 : Int32)))) &&& 31)) &&& (255 : Int32))) 120 2 (((aw_u σ 121 (σ 120 2).toNatClampNeg ((x2 >>> (((24 : Int32) - ((8 : Int32) * (x6 - x6 / (4 : Int32) * (4 : Int32)))) &&& 31)) &&& (255 : Int32))) 120 2) + (1 : Int32))), τ, θ)))))) ∧ ((¬ (4 : Int32) ≤ x6) → (vp_in (σ 120 2) 900 ∧ (SW G k mX10_feed (aw_qi q) 0 0 23 [some (.ref 120), some (.int x1), some (.int x2), some (.int x3), some (.int x4), some (.int x5), some (.int (x6 + (1 : Int32))), none] [] (n, (aw_u (aw_u σ 121 (σ 120 2).toNatClampNeg ((x1 >>> (((24 : Int32) - ((8 : Int32) * (x6 - x6 / (4 : Int32) * (4 : Int32)))) &&& 31)) &&& (255 : Int32))) 120 2 (((aw_u σ 121 (σ 120 2).toNatClampNeg ((x1 >>> (((24 : Int32) - ((8 : Int32) * (x6 - x6 / (4 : Int32) * (4 : Int32)))) &&& 31)) &&& (255 : Int32))) 120 2) + (1 : Int32))), τ, θ))))))) : SW G k mX10_feed (aw_qi q) 0 0 23 [some (.ref 120), some (.int x1), some (.int x2), some (.int x3), some (.int x4), some (.int x5), some (.int x6), none] [] (n, σ, τ, θ) := by
  refine SW.iload dX10_feed_23 rfl ?_
  refine SW.bipush (v := (20 : Int32)) dX10_feed_25 (by decide) ?_
  refine SW.icmp_ge 120 dX10_feed_27 (by decide) (fun hbr => ?_) (fun hbr => ?_)
  · replace vc := vc.1 hbr
    refine SW.aload_n dX10_feed_120 rfl ?_
    refine SW.getI (f := 2) aw_cl10 kp_120 (by decide) (hW.le (by decide)) (by decide) ww_1244 dX10_feed_121 rfl ?_
    exact SW.iret dX10_feed_124 rfl rfl ⟨_, rfl, vc⟩
  · replace vc := vc.2 hbr
    refine SW.iload dX10_feed_30 rfl ?_
    refine SW.iconst (v := (4 : Int32)) dX10_feed_32 (by decide) ?_
    refine SW.icmp_ge 40 dX10_feed_33 (by decide) (fun hbr => ?_) (fun hbr => ?_)
    · replace vc := vc.1 hbr
      refine SW.iload dX10_feed_40 rfl ?_
      refine SW.bipush (v := (8 : Int32)) dX10_feed_42 (by decide) ?_
      refine SW.icmp_ge 51 dX10_feed_44 (by decide) (fun hbr => ?_) (fun hbr => ?_)
      · replace vc := vc.1 hbr
        refine SW.iload dX10_feed_51 rfl ?_
        refine SW.bipush (v := (12 : Int32)) dX10_feed_53 (by decide) ?_
        refine SW.icmp_ge 62 dX10_feed_55 (by decide) (fun hbr => ?_) (fun hbr => ?_)
        · replace vc := vc.1 hbr
          refine SW.iload dX10_feed_62 rfl ?_
          refine SW.bipush (v := (16 : Int32)) dX10_feed_64 (by decide) ?_
          refine SW.icmp_ge 74 dX10_feed_66 (by decide) (fun hbr => ?_) (fun hbr => ?_)
          · replace vc := vc.1 hbr
            refine SW.iload dX10_feed_74 rfl ?_
            refine SW.istore dX10_feed_76 (by decide) rfl rfl ?_
            refine SW.aload_n dX10_feed_78 rfl ?_
            refine SW.getS (f := 1) (r := 121) aw_cl10 kp_120 (by decide) (hW.le (by decide)) (by decide) ww_1243 dX10_feed_79 rfl hW.t120_1 ?_
            refine SW.aload_n dX10_feed_82 rfl ?_
            refine SW.getI (f := 2) aw_cl10 kp_120 (by decide) (hW.le (by decide)) (by decide) ww_1244 dX10_feed_83 rfl ?_
            refine SW.iload dX10_feed_86 rfl ?_
            refine SW.bipush (v := (24 : Int32)) dX10_feed_88 (by decide) ?_
            refine SW.bipush (v := (8 : Int32)) dX10_feed_90 (by decide) ?_
            refine SW.iload dX10_feed_92 rfl ?_
            refine SW.iconst (v := (4 : Int32)) dX10_feed_94 (by decide) ?_
            refine SW.irem dX10_feed_95 (by decide) ?_
            refine SW.imul dX10_feed_96 ?_
            refine SW.isub dX10_feed_97 ?_
            refine SW.ishr dX10_feed_98 ?_
            refine SW.sipush (v := (255 : Int32)) dX10_feed_99 (by decide) ?_
            refine SW.iand dX10_feed_102 ?_
            refine SW.iast kp_121 (by decide) (hW.le (by decide)) vc.1 dX10_feed_103 ?_
            replace vc := vc.2
            refine SW.aload_n dX10_feed_104 rfl ?_
            refine SW.dup dX10_feed_105 rfl ?_
            refine SW.getI (f := 2) aw_cl10 kp_120 (by decide) (hW.le (by decide)) (by decide) ww_1244 dX10_feed_106 rfl ?_
            refine SW.iconst (v := (1 : Int32)) dX10_feed_109 (by decide) ?_
            refine SW.iadd dX10_feed_110 ?_
            refine SW.putI (f := 2) aw_cl10 kp_120 (by decide) (hW.le (by decide)) (by decide) ww_1244 (Or.inl rfl) dX10_feed_111 rfl rfl rfl ?_
            refine SW.iinc (v := (x6 + (1 : Int32))) dX10_feed_114 rfl rfl (by decide) rfl rfl ?_
            refine SW.goto 23 dX10_feed_117 (by decide) ?_
            refine SW.msk [true, true, true, true, true, true, true, false] rfl ?_
            exact vc
          · replace vc := vc.2 hbr
            refine SW.iload dX10_feed_69 rfl ?_
            refine SW.goto 76 dX10_feed_71 (by decide) ?_
            refine SW.istore dX10_feed_76 (by decide) rfl rfl ?_
            refine SW.aload_n dX10_feed_78 rfl ?_
            refine SW.getS (f := 1) (r := 121) aw_cl10 kp_120 (by decide) (hW.le (by decide)) (by decide) ww_1243 dX10_feed_79 rfl hW.t120_1 ?_
            refine SW.aload_n dX10_feed_82 rfl ?_
            refine SW.getI (f := 2) aw_cl10 kp_120 (by decide) (hW.le (by decide)) (by decide) ww_1244 dX10_feed_83 rfl ?_
            refine SW.iload dX10_feed_86 rfl ?_
            refine SW.bipush (v := (24 : Int32)) dX10_feed_88 (by decide) ?_
            refine SW.bipush (v := (8 : Int32)) dX10_feed_90 (by decide) ?_
            refine SW.iload dX10_feed_92 rfl ?_
            refine SW.iconst (v := (4 : Int32)) dX10_feed_94 (by decide) ?_
            refine SW.irem dX10_feed_95 (by decide) ?_
            refine SW.imul dX10_feed_96 ?_
            refine SW.isub dX10_feed_97 ?_
            refine SW.ishr dX10_feed_98 ?_
            refine SW.sipush (v := (255 : Int32)) dX10_feed_99 (by decide) ?_
            refine SW.iand dX10_feed_102 ?_
            refine SW.iast kp_121 (by decide) (hW.le (by decide)) vc.1 dX10_feed_103 ?_
            replace vc := vc.2
            refine SW.aload_n dX10_feed_104 rfl ?_
            refine SW.dup dX10_feed_105 rfl ?_
            refine SW.getI (f := 2) aw_cl10 kp_120 (by decide) (hW.le (by decide)) (by decide) ww_1244 dX10_feed_106 rfl ?_
            refine SW.iconst (v := (1 : Int32)) dX10_feed_109 (by decide) ?_
            refine SW.iadd dX10_feed_110 ?_
            refine SW.putI (f := 2) aw_cl10 kp_120 (by decide) (hW.le (by decide)) (by decide) ww_1244 (Or.inl rfl) dX10_feed_111 rfl rfl rfl ?_
            refine SW.iinc (v := (x6 + (1 : Int32))) dX10_feed_114 rfl rfl (by decide) rfl rfl ?_
            refine SW.goto 23 dX10_feed_117 (by decide) ?_
            refine SW.msk [true, true, true, true, true, true, true, false] rfl ?_
            exact vc
        · replace vc := vc.2 hbr
          refine SW.iload_n dX10_feed_58 rfl ?_
          refine SW.goto 76 dX10_feed_59 (by decide) ?_
          refine SW.istore dX10_feed_76 (by decide) rfl rfl ?_
          refine SW.aload_n dX10_feed_78 rfl ?_
          refine SW.getS (f := 1) (r := 121) aw_cl10 kp_120 (by decide) (hW.le (by decide)) (by decide) ww_1243 dX10_feed_79 rfl hW.t120_1 ?_
          refine SW.aload_n dX10_feed_82 rfl ?_
          refine SW.getI (f := 2) aw_cl10 kp_120 (by decide) (hW.le (by decide)) (by decide) ww_1244 dX10_feed_83 rfl ?_
          refine SW.iload dX10_feed_86 rfl ?_
          refine SW.bipush (v := (24 : Int32)) dX10_feed_88 (by decide) ?_
          refine SW.bipush (v := (8 : Int32)) dX10_feed_90 (by decide) ?_
          refine SW.iload dX10_feed_92 rfl ?_
          refine SW.iconst (v := (4 : Int32)) dX10_feed_94 (by decide) ?_
          refine SW.irem dX10_feed_95 (by decide) ?_
          refine SW.imul dX10_feed_96 ?_
          refine SW.isub dX10_feed_97 ?_
          refine SW.ishr dX10_feed_98 ?_
          refine SW.sipush (v := (255 : Int32)) dX10_feed_99 (by decide) ?_
          refine SW.iand dX10_feed_102 ?_
          refine SW.iast kp_121 (by decide) (hW.le (by decide)) vc.1 dX10_feed_103 ?_
          replace vc := vc.2
          refine SW.aload_n dX10_feed_104 rfl ?_
          refine SW.dup dX10_feed_105 rfl ?_
          refine SW.getI (f := 2) aw_cl10 kp_120 (by decide) (hW.le (by decide)) (by decide) ww_1244 dX10_feed_106 rfl ?_
          refine SW.iconst (v := (1 : Int32)) dX10_feed_109 (by decide) ?_
          refine SW.iadd dX10_feed_110 ?_
          refine SW.putI (f := 2) aw_cl10 kp_120 (by decide) (hW.le (by decide)) (by decide) ww_1244 (Or.inl rfl) dX10_feed_111 rfl rfl rfl ?_
          refine SW.iinc (v := (x6 + (1 : Int32))) dX10_feed_114 rfl rfl (by decide) rfl rfl ?_
          refine SW.goto 23 dX10_feed_117 (by decide) ?_
          refine SW.msk [true, true, true, true, true, true, true, false] rfl ?_
          exact vc
      · replace vc := vc.2 hbr
        refine SW.iload_n dX10_feed_47 rfl ?_
        refine SW.goto 76 dX10_feed_48 (by decide) ?_
        refine SW.istore dX10_feed_76 (by decide) rfl rfl ?_
        refine SW.aload_n dX10_feed_78 rfl ?_
        refine SW.getS (f := 1) (r := 121) aw_cl10 kp_120 (by decide) (hW.le (by decide)) (by decide) ww_1243 dX10_feed_79 rfl hW.t120_1 ?_
        refine SW.aload_n dX10_feed_82 rfl ?_
        refine SW.getI (f := 2) aw_cl10 kp_120 (by decide) (hW.le (by decide)) (by decide) ww_1244 dX10_feed_83 rfl ?_
        refine SW.iload dX10_feed_86 rfl ?_
        refine SW.bipush (v := (24 : Int32)) dX10_feed_88 (by decide) ?_
        refine SW.bipush (v := (8 : Int32)) dX10_feed_90 (by decide) ?_
        refine SW.iload dX10_feed_92 rfl ?_
        refine SW.iconst (v := (4 : Int32)) dX10_feed_94 (by decide) ?_
        refine SW.irem dX10_feed_95 (by decide) ?_
        refine SW.imul dX10_feed_96 ?_
        refine SW.isub dX10_feed_97 ?_
        refine SW.ishr dX10_feed_98 ?_
        refine SW.sipush (v := (255 : Int32)) dX10_feed_99 (by decide) ?_
        refine SW.iand dX10_feed_102 ?_
        refine SW.iast kp_121 (by decide) (hW.le (by decide)) vc.1 dX10_feed_103 ?_
        replace vc := vc.2
        refine SW.aload_n dX10_feed_104 rfl ?_
        refine SW.dup dX10_feed_105 rfl ?_
        refine SW.getI (f := 2) aw_cl10 kp_120 (by decide) (hW.le (by decide)) (by decide) ww_1244 dX10_feed_106 rfl ?_
        refine SW.iconst (v := (1 : Int32)) dX10_feed_109 (by decide) ?_
        refine SW.iadd dX10_feed_110 ?_
        refine SW.putI (f := 2) aw_cl10 kp_120 (by decide) (hW.le (by decide)) (by decide) ww_1244 (Or.inl rfl) dX10_feed_111 rfl rfl rfl ?_
        refine SW.iinc (v := (x6 + (1 : Int32))) dX10_feed_114 rfl rfl (by decide) rfl rfl ?_
        refine SW.goto 23 dX10_feed_117 (by decide) ?_
        refine SW.msk [true, true, true, true, true, true, true, false] rfl ?_
        exact vc
    · replace vc := vc.2 hbr
      refine SW.iload_n dX10_feed_36 rfl ?_
      refine SW.goto 76 dX10_feed_37 (by decide) ?_
      refine SW.istore dX10_feed_76 (by decide) rfl rfl ?_
      refine SW.aload_n dX10_feed_78 rfl ?_
      refine SW.getS (f := 1) (r := 121) aw_cl10 kp_120 (by decide) (hW.le (by decide)) (by decide) ww_1243 dX10_feed_79 rfl hW.t120_1 ?_
      refine SW.aload_n dX10_feed_82 rfl ?_
      refine SW.getI (f := 2) aw_cl10 kp_120 (by decide) (hW.le (by decide)) (by decide) ww_1244 dX10_feed_83 rfl ?_
      refine SW.iload dX10_feed_86 rfl ?_
      refine SW.bipush (v := (24 : Int32)) dX10_feed_88 (by decide) ?_
      refine SW.bipush (v := (8 : Int32)) dX10_feed_90 (by decide) ?_
      refine SW.iload dX10_feed_92 rfl ?_
      refine SW.iconst (v := (4 : Int32)) dX10_feed_94 (by decide) ?_
      refine SW.irem dX10_feed_95 (by decide) ?_
      refine SW.imul dX10_feed_96 ?_
      refine SW.isub dX10_feed_97 ?_
      refine SW.ishr dX10_feed_98 ?_
      refine SW.sipush (v := (255 : Int32)) dX10_feed_99 (by decide) ?_
      refine SW.iand dX10_feed_102 ?_
      refine SW.iast kp_121 (by decide) (hW.le (by decide)) vc.1 dX10_feed_103 ?_
      replace vc := vc.2
      refine SW.aload_n dX10_feed_104 rfl ?_
      refine SW.dup dX10_feed_105 rfl ?_
      refine SW.getI (f := 2) aw_cl10 kp_120 (by decide) (hW.le (by decide)) (by decide) ww_1244 dX10_feed_106 rfl ?_
      refine SW.iconst (v := (1 : Int32)) dX10_feed_109 (by decide) ?_
      refine SW.iadd dX10_feed_110 ?_
      refine SW.putI (f := 2) aw_cl10 kp_120 (by decide) (hW.le (by decide)) (by decide) ww_1244 (Or.inl rfl) dX10_feed_111 rfl rfl rfl ?_
      refine SW.iinc (v := (x6 + (1 : Int32))) dX10_feed_114 rfl rfl (by decide) rfl rfl ?_
      refine SW.goto 23 dX10_feed_117 (by decide) ?_
      refine SW.msk [true, true, true, true, true, true, true, false] rfl ?_
      exact vc
theorem ctX10_feed {G : GG} {q : Int32 → Nat → SG → TU → TH → Prop} {n : Nat} {σ : SG} {τ : TU} {θ : TH} (x1 : Int32) (x2 : Int32) (x3 : Int32) (x4 : Int32) (x5 : Int32) (h : SW G 1 mX10_feed (aw_qi q) 0 0 0 [some (.ref 120), some (.int x1), some (.int x2), some (.int x3), some (.int x4), some (.int x5), none, none] [] (n, σ, τ, θ)) : SMi G 1 mX10_feed 0 0 [.ref 120, .int x1, .int x2, .int x3, .int x4, .int x5] n σ τ θ q := SM.of _ rfl rfl (Nat.le_of_ble_eq_true rfl) h
set_option maxHeartbeats 4000000 in
set_option maxRecDepth 20000 in
theorem sgX10_find_0 {G : GG} {k : Nat} {q : Int32 → Nat → SG → TU → TH → Prop} {n : Nat} {σ : SG} {τ : TU} {θ : TH}   (hk : 1 ≤ k)  (hW : aw_WT n θ) (vc : SW G k mX10_find (aw_qi q) 0 0 2 [some (.ref 120), some (.int (0 : Int32)), none, none] [] (n, σ, τ, θ)) : SW G k mX10_find (aw_qi q) 0 0 0 [some (.ref 120), none, none, none] [] (n, σ, τ, θ) := by
  refine SW.iconst (v := (0 : Int32)) dX10_find_0 (by decide) ?_
  refine SW.istore_n dX10_find_1 (by decide) rfl rfl ?_
  exact vc
set_option maxHeartbeats 4000000 in
set_option maxRecDepth 20000 in
theorem sgX10_find_2 {G : GG} {k : Nat} {q : Int32 → Nat → SG → TU → TH → Prop} {n : Nat} {σ : SG} {τ : TU} {θ : TH}  (x1 : Int32) (hk : 1 ≤ k)  (hW : aw_WT n θ) (vc : (((9 : Int32) ≤ x1) → (q (-1 : Int32) n σ τ θ)) ∧ ((¬ (9 : Int32) ≤ x1) → (vp_in ((86 : Int32) + x1) 167 ∧ ((((σ 124 ((86 : Int32) + x1).toNatClampNeg) ≤ 0) → (SW G k mX10_find (aw_qi q) 0 0 44 [some (.ref 120), some (.int x1), some (.int (0 : Int32)), some (.int (0 : Int32))] [] (n, σ, τ, θ))) ∧ ((¬ (σ 124 ((86 : Int32) + x1).toNatClampNeg) ≤ 0) → (vp_in ((86 : Int32) + x1) 167 ∧ (((¬ (σ 124 ((86 : Int32) + x1).toNatClampNeg) = (σ 120 8)) → (SW G k mX10_find (aw_qi q) 0 0 44 [some (.ref 120), some (.int x1), some (.int (0 : Int32)), some (.int (0 : Int32))] [] (n, σ, τ, θ))) ∧ (((σ 124 ((86 : Int32) + x1).toNatClampNeg) = (σ 120 8)) → (SW G k mX10_find (aw_qi q) 0 0 44 [some (.ref 120), some (.int x1), some (.int (1 : Int32)), some (.int (0 : Int32))] [] (n, σ, τ, θ)))))))))) : SW G k mX10_find (aw_qi q) 0 0 2 [some (.ref 120), some (.int x1), none, none] [] (n, σ, τ, θ) := by
  refine SW.iload_n dX10_find_2 rfl ?_
  refine SW.bipush (v := (9 : Int32)) dX10_find_3 (by decide) ?_
  refine SW.icmp_ge 103 dX10_find_5 (by decide) (fun hbr => ?_) (fun hbr => ?_)
  · replace vc := vc.1 hbr
    refine SW.iconst (v := (-1 : Int32)) dX10_find_103 (by decide) ?_
    exact SW.iret dX10_find_104 rfl rfl ⟨_, rfl, vc⟩
  · replace vc := vc.2 hbr
    refine SW.aload_n dX10_find_8 rfl ?_
    refine SW.getS (f := 16) (r := 124) aw_cl10 kp_120 (by decide) (hW.le (by decide)) (by decide) ww_1258 dX10_find_9 rfl hW.t120_16 ?_
    refine SW.bipush (v := (86 : Int32)) dX10_find_12 (by decide) ?_
    refine SW.iload_n dX10_find_14 rfl ?_
    refine SW.iadd dX10_find_15 ?_
    refine SW.iald kp_124 (by decide) (hW.le (by decide)) vc.1 dX10_find_16 ?_
    replace vc := vc.2
    refine SW.if_le 40 dX10_find_17 (by decide) (fun hbr => ?_) (fun hbr => ?_)
    · replace vc := vc.1 hbr
      refine SW.iconst (v := (0 : Int32)) dX10_find_40 (by decide) ?_
      refine SW.istore_n dX10_find_41 (by decide) rfl rfl ?_
      refine SW.iconst (v := (0 : Int32)) dX10_find_42 (by decide) ?_
      refine SW.istore_n dX10_find_43 (by decide) rfl rfl ?_
      exact vc
    · replace vc := vc.2 hbr
      refine SW.aload_n dX10_find_20 rfl ?_
      refine SW.getS (f := 16) (r := 124) aw_cl10 kp_120 (by decide) (hW.le (by decide)) (by decide) ww_1258 dX10_find_21 rfl hW.t120_16 ?_
      refine SW.bipush (v := (86 : Int32)) dX10_find_24 (by decide) ?_
      refine SW.iload_n dX10_find_26 rfl ?_
      refine SW.iadd dX10_find_27 ?_
      refine SW.iald kp_124 (by decide) (hW.le (by decide)) vc.1 dX10_find_28 ?_
      replace vc := vc.2
      refine SW.aload_n dX10_find_29 rfl ?_
      refine SW.getI (f := 8) aw_cl10 kp_120 (by decide) (hW.le (by decide)) (by decide) ww_1250 dX10_find_30 rfl ?_
      refine SW.icmp_ne 40 dX10_find_33 (by decide) (fun hbr => ?_) (fun hbr => ?_)
      · replace vc := vc.1 hbr
        refine SW.iconst (v := (0 : Int32)) dX10_find_40 (by decide) ?_
        refine SW.istore_n dX10_find_41 (by decide) rfl rfl ?_
        refine SW.iconst (v := (0 : Int32)) dX10_find_42 (by decide) ?_
        refine SW.istore_n dX10_find_43 (by decide) rfl rfl ?_
        exact vc
      · replace vc := vc.2 hbr
        refine SW.iconst (v := (1 : Int32)) dX10_find_36 (by decide) ?_
        refine SW.goto 41 dX10_find_37 (by decide) ?_
        refine SW.istore_n dX10_find_41 (by decide) rfl rfl ?_
        refine SW.iconst (v := (0 : Int32)) dX10_find_42 (by decide) ?_
        refine SW.istore_n dX10_find_43 (by decide) rfl rfl ?_
        exact vc
set_option maxHeartbeats 4000000 in
set_option maxRecDepth 20000 in
theorem sgX10_find_44 {G : GG} {k : Nat} {q : Int32 → Nat → SG → TU → TH → Prop} {n : Nat} {σ : SG} {τ : TU} {θ : TH}  (x1 : Int32) (x2 : Int32) (x3 : Int32) (hk : 1 ≤ k)  (hW : aw_WT n θ) (vc : (((σ 120 8) ≤ x3) → (((x2 = 0) → (SW G k mX10_find (aw_qi q) 0 0 2 [some (.ref 120), some (.int (x1 + (1 : Int32))), none, none] [] (n, σ, τ, θ))) ∧ ((¬ x2 = 0) → (q x1 n σ τ θ)))) ∧ ((¬ (σ 120 8) ≤ x3) → (((x2 = 0) → (((x2 = 0) → (SW G k mX10_find (aw_qi q) 0 0 2 [some (.ref 120), some (.int (x1 + (1 : Int32))), none, none] [] (n, σ, τ, θ))) ∧ ((¬ x2 = 0) → (q x1 n σ τ θ)))) ∧ ((¬ x2 = 0) → (vp_in (((95 : Int32) + ((8 : Int32) * x1)) + x3) 167 ∧ (vp_in x3 8 ∧ (((¬ (σ 124 (((95 : Int32) + ((8 : Int32) * x1)) + x3).toNatClampNeg) = (σ 122 x3.toNatClampNeg)) → (SW G k mX10_find (aw_qi q) 0 0 44 [some (.ref 120), some (.int x1), some (.int (0 : Int32)), some (.int (x3 + (1 : Int32)))] [] (n, σ, τ, θ))) ∧ (((σ 124 (((95 : Int32) + ((8 : Int32) * x1)) + x3).toNatClampNeg) = (σ 122 x3.toNatClampNeg)) → (SW G k mX10_find (aw_qi q) 0 0 44 [some (.ref 120), some (.int x1), some (.int (1 : Int32)), some (.int (x3 + (1 : Int32)))] [] (n, σ, τ, θ)))))))))) : SW G k mX10_find (aw_qi q) 0 0 44 [some (.ref 120), some (.int x1), some (.int x2), some (.int x3)] [] (n, σ, τ, θ) := by
  refine SW.iload_n dX10_find_44 rfl ?_
  refine SW.aload_n dX10_find_45 rfl ?_
  refine SW.getI (f := 8) aw_cl10 kp_120 (by decide) (hW.le (by decide)) (by decide) ww_1250 dX10_find_46 rfl ?_
  refine SW.icmp_ge 91 dX10_find_49 (by decide) (fun hbr => ?_) (fun hbr => ?_)
  · replace vc := vc.1 hbr
    refine SW.iload_n dX10_find_91 rfl ?_
    refine SW.if_eq 97 dX10_find_92 (by decide) (fun hbr => ?_) (fun hbr => ?_)
    · replace vc := vc.1 hbr
      refine SW.iinc (v := (x1 + (1 : Int32))) dX10_find_97 rfl rfl (by decide) rfl rfl ?_
      refine SW.goto 2 dX10_find_100 (by decide) ?_
      refine SW.msk [true, true, false, false] rfl ?_
      exact vc
    · replace vc := vc.2 hbr
      refine SW.iload_n dX10_find_95 rfl ?_
      exact SW.iret dX10_find_96 rfl rfl ⟨_, rfl, vc⟩
  · replace vc := vc.2 hbr
    refine SW.iload_n dX10_find_52 rfl ?_
    refine SW.if_eq 91 dX10_find_53 (by decide) (fun hbr => ?_) (fun hbr => ?_)
    · replace vc := vc.1 hbr
      refine SW.iload_n dX10_find_91 rfl ?_
      refine SW.if_eq 97 dX10_find_92 (by decide) (fun hbr => ?_) (fun hbr => ?_)
      · replace vc := vc.1 hbr
        refine SW.iinc (v := (x1 + (1 : Int32))) dX10_find_97 rfl rfl (by decide) rfl rfl ?_
        refine SW.goto 2 dX10_find_100 (by decide) ?_
        refine SW.msk [true, true, false, false] rfl ?_
        exact vc
      · replace vc := vc.2 hbr
        refine SW.iload_n dX10_find_95 rfl ?_
        exact SW.iret dX10_find_96 rfl rfl ⟨_, rfl, vc⟩
    · replace vc := vc.2 hbr
      refine SW.aload_n dX10_find_56 rfl ?_
      refine SW.getS (f := 16) (r := 124) aw_cl10 kp_120 (by decide) (hW.le (by decide)) (by decide) ww_1258 dX10_find_57 rfl hW.t120_16 ?_
      refine SW.bipush (v := (95 : Int32)) dX10_find_60 (by decide) ?_
      refine SW.bipush (v := (8 : Int32)) dX10_find_62 (by decide) ?_
      refine SW.iload_n dX10_find_64 rfl ?_
      refine SW.imul dX10_find_65 ?_
      refine SW.iadd dX10_find_66 ?_
      refine SW.iload_n dX10_find_67 rfl ?_
      refine SW.iadd dX10_find_68 ?_
      refine SW.iald kp_124 (by decide) (hW.le (by decide)) vc.1 dX10_find_69 ?_
      replace vc := vc.2
      refine SW.aload_n dX10_find_70 rfl ?_
      refine SW.getS (f := 12) (r := 122) aw_cl10 kp_120 (by decide) (hW.le (by decide)) (by decide) ww_1254 dX10_find_71 rfl hW.t120_12 ?_
      refine SW.iload_n dX10_find_74 rfl ?_
      refine SW.iald kp_122 (by decide) (hW.le (by decide)) vc.1 dX10_find_75 ?_
      replace vc := vc.2
      refine SW.icmp_ne 83 dX10_find_76 (by decide) (fun hbr => ?_) (fun hbr => ?_)
      · replace vc := vc.1 hbr
        refine SW.iconst (v := (0 : Int32)) dX10_find_83 (by decide) ?_
        refine SW.istore_n dX10_find_84 (by decide) rfl rfl ?_
        refine SW.iinc (v := (x3 + (1 : Int32))) dX10_find_85 rfl rfl (by decide) rfl rfl ?_
        refine SW.goto 44 dX10_find_88 (by decide) ?_
        exact vc
      · replace vc := vc.2 hbr
        refine SW.iconst (v := (1 : Int32)) dX10_find_79 (by decide) ?_
        refine SW.goto 84 dX10_find_80 (by decide) ?_
        refine SW.istore_n dX10_find_84 (by decide) rfl rfl ?_
        refine SW.iinc (v := (x3 + (1 : Int32))) dX10_find_85 rfl rfl (by decide) rfl rfl ?_
        refine SW.goto 44 dX10_find_88 (by decide) ?_
        exact vc
theorem ctX10_find {G : GG} {q : Int32 → Nat → SG → TU → TH → Prop} {n : Nat} {σ : SG} {τ : TU} {θ : TH}  (h : SW G 1 mX10_find (aw_qi q) 0 0 0 [some (.ref 120), none, none, none] [] (n, σ, τ, θ)) : SMi G 1 mX10_find 0 0 [.ref 120] n σ τ θ q := SM.of _ rfl rfl (Nat.le_of_ble_eq_true rfl) h
set_option maxHeartbeats 4000000 in
set_option maxRecDepth 20000 in
theorem sgX10_fitAt_0 {G : GG} {k : Nat} {q : Int32 → Nat → SG → TU → TH → Prop} {n : Nat} {σ : SG} {τ : TU} {θ : TH}  (x1 : Int32) (hk : 7 ≤ k)  (hW : aw_WT n θ) (vc : SMv G 1 mX10_good 0 0 [.ref 120] n σ τ θ (fun n1 σ1 τ1 θ1 => aw_WT n1 θ1 ∧ ((((σ1 120 14) = 0) → (SMi G 1 mX10_no 0 0 [.ref 120, .int (1 : Int32)] n1 σ1 τ1 θ1 (fun a2 n2 σ2 τ2 θ2 => aw_WT n2 θ2 ∧ (q a2 n2 σ2 τ2 θ2)))) ∧ ((¬ (σ1 120 14) = 0) → (((0 ≤ x1) → (SMi G 6 mX10_seekFits 0 0 [.ref 120, .int x1] n1 σ1 τ1 θ1 (fun a3 n3 σ3 τ3 θ3 => aw_WT n3 θ3 ∧ (((0 ≤ a3) → (q a3 n3 σ3 τ3 θ3)) ∧ ((¬ 0 ≤ a3) → (SMi G 1 mX10_no 0 0 [.ref 120, .int (1 : Int32)] n3 σ3 τ3 θ3 (fun a4 n4 σ4 τ4 θ4 => aw_WT n4 θ4 ∧ (q a4 n4 σ4 τ4 θ4)))))))) ∧ ((¬ 0 ≤ x1) → (SMi G 1 mX10_no 0 0 [.ref 120, .int (1 : Int32)] n1 σ1 τ1 θ1 (fun a5 n5 σ5 τ5 θ5 => aw_WT n5 θ5 ∧ (q a5 n5 σ5 τ5 θ5))))))))) : SW G k mX10_fitAt (aw_qi q) 0 0 0 [some (.ref 120), some (.int x1), none] [] (n, σ, τ, θ) := by
  refine SW.aload_n dX10_fitAt_0 rfl ?_
  refine SW.cvv0 kV_X10_154 (by omega) aw_cl10 kp_120 (by decide) (hW.le (by decide)) rfl (Nat.le_of_ble_eq_true rfl) dX10_fitAt_1 (SMv.mono vc ?_)
  intro n1 σ1 τ1 θ1 vc
  obtain ⟨hW, vc⟩ := vc
  refine SW.aload_n dX10_fitAt_4 rfl ?_
  refine SW.getI (f := 14) aw_cl10 kp_120 (by decide) (hW.le (by decide)) (by decide) ww_1256 dX10_fitAt_5 rfl ?_
  refine SW.if_eq 15 dX10_fitAt_8 (by decide) (fun hbr => ?_) (fun hbr => ?_)
  · replace vc := vc.1 hbr
    refine SW.aload_n dX10_fitAt_15 rfl ?_
    refine SW.iconst (v := (1 : Int32)) dX10_fitAt_16 (by decide) ?_
    refine SW.cvi1 kV_X10_157 (by omega) aw_cl10 kp_120 (by decide) (hW.le (by decide)) rfl (Nat.le_of_ble_eq_true rfl) dX10_fitAt_17 (SMi.mono vc ?_)
    intro a2 n2 σ2 τ2 θ2 vc
    obtain ⟨hW, vc⟩ := vc
    exact SW.iret dX10_fitAt_20 rfl rfl ⟨_, rfl, vc⟩
  · replace vc := vc.2 hbr
    refine SW.iload_n dX10_fitAt_11 rfl ?_
    refine SW.if_ge 21 dX10_fitAt_12 (by decide) (fun hbr => ?_) (fun hbr => ?_)
    · replace vc := vc.1 hbr
      refine SW.aload_n dX10_fitAt_21 rfl ?_
      refine SW.iload_n dX10_fitAt_22 rfl ?_
      refine SW.cvi1 kV_X10_355 (by omega) aw_cl10 kp_120 (by decide) (hW.le (by decide)) rfl (Nat.le_of_ble_eq_true rfl) dX10_fitAt_23 (SMi.mono vc ?_)
      intro a3 n3 σ3 τ3 θ3 vc
      obtain ⟨hW, vc⟩ := vc
      refine SW.istore_n dX10_fitAt_26 (by decide) rfl rfl ?_
      refine SW.iload_n dX10_fitAt_27 rfl ?_
      refine SW.if_ge 39 dX10_fitAt_28 (by decide) (fun hbr => ?_) (fun hbr => ?_)
      · replace vc := vc.1 hbr
        refine SW.iload_n dX10_fitAt_39 rfl ?_
        exact SW.iret dX10_fitAt_40 rfl rfl ⟨_, rfl, vc⟩
      · replace vc := vc.2 hbr
        refine SW.aload_n dX10_fitAt_31 rfl ?_
        refine SW.iconst (v := (1 : Int32)) dX10_fitAt_32 (by decide) ?_
        refine SW.cvi1 kV_X10_157 (by omega) aw_cl10 kp_120 (by decide) (hW.le (by decide)) rfl (Nat.le_of_ble_eq_true rfl) dX10_fitAt_33 (SMi.mono vc ?_)
        intro a4 n4 σ4 τ4 θ4 vc
        obtain ⟨hW, vc⟩ := vc
        refine SW.goto 40 dX10_fitAt_36 (by decide) ?_
        exact SW.iret dX10_fitAt_40 rfl rfl ⟨_, rfl, vc⟩
    · replace vc := vc.2 hbr
      refine SW.aload_n dX10_fitAt_15 rfl ?_
      refine SW.iconst (v := (1 : Int32)) dX10_fitAt_16 (by decide) ?_
      refine SW.cvi1 kV_X10_157 (by omega) aw_cl10 kp_120 (by decide) (hW.le (by decide)) rfl (Nat.le_of_ble_eq_true rfl) dX10_fitAt_17 (SMi.mono vc ?_)
      intro a5 n5 σ5 τ5 θ5 vc
      obtain ⟨hW, vc⟩ := vc
      exact SW.iret dX10_fitAt_20 rfl rfl ⟨_, rfl, vc⟩
theorem ctX10_fitAt {G : GG} {q : Int32 → Nat → SG → TU → TH → Prop} {n : Nat} {σ : SG} {τ : TU} {θ : TH} (x1 : Int32) (h : SW G 7 mX10_fitAt (aw_qi q) 0 0 0 [some (.ref 120), some (.int x1), none] [] (n, σ, τ, θ)) : SMi G 7 mX10_fitAt 0 0 [.ref 120, .int x1] n σ τ θ q := SM.of _ rfl rfl (Nat.le_of_ble_eq_true rfl) h
set_option maxHeartbeats 4000000 in
set_option maxRecDepth 20000 in
theorem sgX10_fits_0 {G : GG} {k : Nat} {q : Int32 → Nat → SG → TU → TH → Prop} {n : Nat} {σ : SG} {τ : TU} {θ : TH}   (hk : 7 ≤ k)  (hW : aw_WT n θ) (vc : SMv G 1 mX10_good 0 0 [.ref 120] n σ τ θ (fun n1 σ1 τ1 θ1 => aw_WT n1 θ1 ∧ (((¬ (σ1 120 14) = 0) → (SMi G 6 mX10_seekFits 0 0 [.ref 120, .int (-1 : Int32)] n1 σ1 τ1 θ1 (fun a2 n2 σ2 τ2 θ2 => aw_WT n2 θ2 ∧ (q (σ2 120 30) n2 σ2 τ2 θ2)))) ∧ (((σ1 120 14) = 0) → (SMi G 1 mX10_no 0 0 [.ref 120, .int (1 : Int32)] n1 σ1 τ1 θ1 (fun a3 n3 σ3 τ3 θ3 => aw_WT n3 θ3 ∧ (q a3 n3 σ3 τ3 θ3))))))) : SW G k mX10_fits (aw_qi q) 0 0 0 [some (.ref 120)] [] (n, σ, τ, θ) := by
  refine SW.aload_n dX10_fits_0 rfl ?_
  refine SW.cvv0 kV_X10_154 (by omega) aw_cl10 kp_120 (by decide) (hW.le (by decide)) rfl (Nat.le_of_ble_eq_true rfl) dX10_fits_1 (SMv.mono vc ?_)
  intro n1 σ1 τ1 θ1 vc
  obtain ⟨hW, vc⟩ := vc
  refine SW.aload_n dX10_fits_4 rfl ?_
  refine SW.getI (f := 14) aw_cl10 kp_120 (by decide) (hW.le (by decide)) (by decide) ww_1256 dX10_fits_5 rfl ?_
  refine SW.if_ne 17 dX10_fits_8 (by decide) (fun hbr => ?_) (fun hbr => ?_)
  · replace vc := vc.1 hbr
    refine SW.aload_n dX10_fits_17 rfl ?_
    refine SW.iconst (v := (-1 : Int32)) dX10_fits_18 (by decide) ?_
    refine SW.cvi1 kV_X10_355 (by omega) aw_cl10 kp_120 (by decide) (hW.le (by decide)) rfl (Nat.le_of_ble_eq_true rfl) dX10_fits_19 (SMi.mono vc ?_)
    intro a2 n2 σ2 τ2 θ2 vc
    obtain ⟨hW, vc⟩ := vc
    refine SW.pop dX10_fits_22 rfl ?_
    refine SW.aload_n dX10_fits_23 rfl ?_
    refine SW.getI (f := 30) aw_cl10 kp_120 (by decide) (hW.le (by decide)) (by decide) ww_1272 dX10_fits_24 rfl ?_
    exact SW.iret dX10_fits_27 rfl rfl ⟨_, rfl, vc⟩
  · replace vc := vc.2 hbr
    refine SW.aload_n dX10_fits_11 rfl ?_
    refine SW.iconst (v := (1 : Int32)) dX10_fits_12 (by decide) ?_
    refine SW.cvi1 kV_X10_157 (by omega) aw_cl10 kp_120 (by decide) (hW.le (by decide)) rfl (Nat.le_of_ble_eq_true rfl) dX10_fits_13 (SMi.mono vc ?_)
    intro a3 n3 σ3 τ3 θ3 vc
    obtain ⟨hW, vc⟩ := vc
    exact SW.iret dX10_fits_16 rfl rfl ⟨_, rfl, vc⟩
theorem ctX10_fits {G : GG} {q : Int32 → Nat → SG → TU → TH → Prop} {n : Nat} {σ : SG} {τ : TU} {θ : TH}  (h : SW G 7 mX10_fits (aw_qi q) 0 0 0 [some (.ref 120)] [] (n, σ, τ, θ)) : SMi G 7 mX10_fits 0 0 [.ref 120] n σ τ θ q := SM.of _ rfl rfl (Nat.le_of_ble_eq_true rfl) h
set_option maxHeartbeats 4000000 in
set_option maxRecDepth 20000 in
theorem sgX10_goOver_0 {G : GG} {k : Nat} {q : Nat → SG → TU → TH → Prop} {n : Nat} {σ : SG} {τ : TU} {θ : TH}  (x1 : Int32) (hk : 2 ≤ k)  (hW : aw_WT n θ) (vc : SMv G 1 mX10_copy 0 0 [.ref 125, .int (0 : Int32), .ref 128, .int (0 : Int32), .int (13 : Int32)] n (aw_u σ 120 22 (0 : Int32)) τ θ (fun n1 σ1 τ1 θ1 => aw_WT n1 θ1 ∧ (q n1 (aw_u σ1 128 12 ((σ1 128 12) + x1)) τ1 θ1))) : SW G k mX10_goOver (aw_qv q) 0 0 0 [some (.ref 120), some (.int x1)] [] (n, σ, τ, θ) := by
  refine SW.aload_n dX10_goOver_0 rfl ?_
  refine SW.iconst (v := (0 : Int32)) dX10_goOver_1 (by decide) ?_
  refine SW.putI (f := 22) aw_cl10 kp_120 (by decide) (hW.le (by decide)) (by decide) ww_1264 (Or.inl rfl) dX10_goOver_2 rfl rfl rfl ?_
  refine SW.aload_n dX10_goOver_5 rfl ?_
  refine SW.getS (f := 17) (r := 125) aw_cl10 kp_120 (by decide) (hW.le (by decide)) (by decide) ww_1259 dX10_goOver_6 rfl hW.t120_17 ?_
  refine SW.iconst (v := (0 : Int32)) dX10_goOver_9 (by decide) ?_
  refine SW.aload_n dX10_goOver_10 rfl ?_
  refine SW.getS (f := 23) (r := 128) aw_cl10 kp_120 (by decide) (hW.le (by decide)) (by decide) ww_1265 dX10_goOver_11 rfl hW.t120_23 ?_
  refine SW.iconst (v := (0 : Int32)) dX10_goOver_14 (by decide) ?_
  refine SW.bipush (v := (13 : Int32)) dX10_goOver_15 (by decide) ?_
  refine SW.csv5 kS_X10_163 (by omega) (Nat.le_of_ble_eq_true rfl) dX10_goOver_17 (SMv.mono vc ?_)
  intro n1 σ1 τ1 θ1 vc
  obtain ⟨hW, vc⟩ := vc
  refine SW.aload_n dX10_goOver_20 rfl ?_
  refine SW.getS (f := 23) (r := 128) aw_cl10 kp_120 (by decide) (hW.le (by decide)) (by decide) ww_1265 dX10_goOver_21 rfl hW.t120_23 ?_
  refine SW.bipush (v := (12 : Int32)) dX10_goOver_24 (by decide) ?_
  refine SW.dup2 dX10_goOver_26 rfl rfl ?_
  refine SW.iald kp_128 (by decide) (hW.le (by decide)) (vp_in_nI (n := 12) (by decide) (by decide)) dX10_goOver_27 ?_
  refine SW.iload_n dX10_goOver_28 rfl ?_
  refine SW.iadd dX10_goOver_29 ?_
  refine SW.iast kp_128 (by decide) (hW.le (by decide)) (vp_in_nI (n := 12) (by decide) (by decide)) dX10_goOver_30 ?_
  exact SW.vret dX10_goOver_31 rfl ⟨rfl, vc⟩
theorem ctX10_goOver {G : GG} {q : Nat → SG → TU → TH → Prop} {n : Nat} {σ : SG} {τ : TU} {θ : TH} (x1 : Int32) (h : SW G 2 mX10_goOver (aw_qv q) 0 0 0 [some (.ref 120), some (.int x1)] [] (n, σ, τ, θ)) : SMv G 2 mX10_goOver 0 0 [.ref 120, .int x1] n σ τ θ q := SM.of _ rfl rfl (Nat.le_of_ble_eq_true rfl) h
set_option maxHeartbeats 4000000 in
set_option maxRecDepth 20000 in
theorem sgX10_good_0 {G : GG} {k : Nat} {q : Nat → SG → TU → TH → Prop} {n : Nat} {σ : SG} {τ : TU} {θ : TH}   (hk : 1 ≤ k)  (hW : aw_WT n θ) (vc : q n (aw_u (aw_u σ 120 0 (0 : Int32)) 120 11 (0 : Int32)) τ θ) : SW G k mX10_good (aw_qv q) 0 0 0 [some (.ref 120)] [] (n, σ, τ, θ) := by
  refine SW.aload_n dX10_good_0 rfl ?_
  refine SW.iconst (v := (0 : Int32)) dX10_good_1 (by decide) ?_
  refine SW.putI (f := 0) aw_cl10 kp_120 (by decide) (hW.le (by decide)) (by decide) ww_1242 (Or.inl rfl) dX10_good_2 rfl rfl rfl ?_
  refine SW.aload_n dX10_good_5 rfl ?_
  refine SW.iconst (v := (0 : Int32)) dX10_good_6 (by decide) ?_
  refine SW.putI (f := 11) aw_cl10 kp_120 (by decide) (hW.le (by decide)) (by decide) ww_1253 (Or.inl rfl) dX10_good_7 rfl rfl rfl ?_
  exact SW.vret dX10_good_10 rfl ⟨rfl, vc⟩
theorem ctX10_good {G : GG} {q : Nat → SG → TU → TH → Prop} {n : Nat} {σ : SG} {τ : TU} {θ : TH}  (h : SW G 1 mX10_good (aw_qv q) 0 0 0 [some (.ref 120)] [] (n, σ, τ, θ)) : SMv G 1 mX10_good 0 0 [.ref 120] n σ τ θ q := SM.of _ rfl rfl (Nat.le_of_ble_eq_true rfl) h
set_option maxHeartbeats 4000000 in
set_option maxRecDepth 20000 in
theorem sgX10_greatest_0 {G : GG} {k : Nat} {q : Int32 → Nat → SG → TU → TH → Prop} {n : Nat} {σ : SG} {τ : TU} {θ : TH}   (hk : 5 ≤ k)  (hW : aw_WT n θ) (vc : SMv G 1 mX10_good 0 0 [.ref 120] n σ τ θ (fun n1 σ1 τ1 θ1 => aw_WT n1 θ1 ∧ (((¬ ((aw_u σ1 120 22 (0 : Int32)) 120 14) = 0) → (SW G k mX10_greatest (aw_qi q) 0 0 26 [some (.ref 120), some (.int (0 : Int32)), some (.int (1 : Int32))] [] (n1, (aw_u σ1 120 22 (0 : Int32)), τ1, θ1))) ∧ ((((aw_u σ1 120 22 (0 : Int32)) 120 14) = 0) → (SMi G 1 mX10_no 0 0 [.ref 120, .int (1 : Int32)] n1 (aw_u σ1 120 22 (0 : Int32)) τ1 θ1 (fun a2 n2 σ2 τ2 θ2 => aw_WT n2 θ2 ∧ (q a2 n2 σ2 τ2 θ2))))))) : SW G k mX10_greatest (aw_qi q) 0 0 0 [some (.ref 120), none, none] [] (n, σ, τ, θ) := by
  refine SW.aload_n dX10_greatest_0 rfl ?_
  refine SW.cvv0 kV_X10_154 (by omega) aw_cl10 kp_120 (by decide) (hW.le (by decide)) rfl (Nat.le_of_ble_eq_true rfl) dX10_greatest_1 (SMv.mono vc ?_)
  intro n1 σ1 τ1 θ1 vc
  obtain ⟨hW, vc⟩ := vc
  refine SW.aload_n dX10_greatest_4 rfl ?_
  refine SW.iconst (v := (0 : Int32)) dX10_greatest_5 (by decide) ?_
  refine SW.putI (f := 22) aw_cl10 kp_120 (by decide) (hW.le (by decide)) (by decide) ww_1264 (Or.inl rfl) dX10_greatest_6 rfl rfl rfl ?_
  refine SW.aload_n dX10_greatest_9 rfl ?_
  refine SW.getI (f := 14) aw_cl10 kp_120 (by decide) (hW.le (by decide)) (by decide) ww_1256 dX10_greatest_10 rfl ?_
  refine SW.if_ne 22 dX10_greatest_13 (by decide) (fun hbr => ?_) (fun hbr => ?_)
  · replace vc := vc.1 hbr
    refine SW.iconst (v := (0 : Int32)) dX10_greatest_22 (by decide) ?_
    refine SW.istore_n dX10_greatest_23 (by decide) rfl rfl ?_
    refine SW.iconst (v := (1 : Int32)) dX10_greatest_24 (by decide) ?_
    refine SW.istore_n dX10_greatest_25 (by decide) rfl rfl ?_
    exact vc
  · replace vc := vc.2 hbr
    refine SW.aload_n dX10_greatest_16 rfl ?_
    refine SW.iconst (v := (1 : Int32)) dX10_greatest_17 (by decide) ?_
    refine SW.cvi1 kV_X10_157 (by omega) aw_cl10 kp_120 (by decide) (hW.le (by decide)) rfl (Nat.le_of_ble_eq_true rfl) dX10_greatest_18 (SMi.mono vc ?_)
    intro a2 n2 σ2 τ2 θ2 vc
    obtain ⟨hW, vc⟩ := vc
    exact SW.iret dX10_greatest_21 rfl rfl ⟨_, rfl, vc⟩
set_option maxHeartbeats 4000000 in
set_option maxRecDepth 20000 in
theorem sgX10_greatest_26 {G : GG} {k : Nat} {q : Int32 → Nat → SG → TU → TH → Prop} {n : Nat} {σ : SG} {τ : TU} {θ : TH}  (x1 : Int32) (x2 : Int32) (hk : 5 ≤ k)  (hW : aw_WT n θ) (vc : (((σ 123 4) ≤ x2) → (q x1 n σ τ θ)) ∧ ((¬ (σ 123 4) ≤ x2) → (SMi G 4 mX10_headOf 0 0 [.ref 120, .ref 125, .int x2] n σ τ θ (fun a1 n1 σ1 τ1 θ1 => aw_WT n1 θ1 ∧ (SMi G 4 mX10_headOf 0 0 [.ref 120, .ref 125, .int x1] n1 σ1 τ1 θ1 (fun a2 n2 σ2 τ2 θ2 => aw_WT n2 θ2 ∧ (((a1 ≤ a2) → (SW G k mX10_greatest (aw_qi q) 0 0 26 [some (.ref 120), some (.int x1), some (.int (x2 + (1 : Int32)))] [] (n2, σ2, τ2, θ2))) ∧ ((¬ a1 ≤ a2) → (SW G k mX10_greatest (aw_qi q) 0 0 26 [some (.ref 120), some (.int x2), some (.int (x2 + (1 : Int32)))] [] (n2, σ2, τ2, θ2)))))))))) : SW G k mX10_greatest (aw_qi q) 0 0 26 [some (.ref 120), some (.int x1), some (.int x2)] [] (n, σ, τ, θ) := by
  refine SW.iload_n dX10_greatest_26 rfl ?_
  refine SW.aload_n dX10_greatest_27 rfl ?_
  refine SW.getS (f := 15) (r := 123) aw_cl10 kp_120 (by decide) (hW.le (by decide)) (by decide) ww_1257 dX10_greatest_28 rfl hW.t120_15 ?_
  refine SW.iconst (v := (4 : Int32)) dX10_greatest_31 (by decide) ?_
  refine SW.iald kp_123 (by decide) (hW.le (by decide)) (vp_in_nI (n := 4) (by decide) (by decide)) dX10_greatest_32 ?_
  refine SW.icmp_ge 65 dX10_greatest_33 (by decide) (fun hbr => ?_) (fun hbr => ?_)
  · replace vc := vc.1 hbr
    refine SW.iload_n dX10_greatest_65 rfl ?_
    exact SW.iret dX10_greatest_66 rfl rfl ⟨_, rfl, vc⟩
  · replace vc := vc.2 hbr
    refine SW.aload_n dX10_greatest_36 rfl ?_
    refine SW.aload_n dX10_greatest_37 rfl ?_
    refine SW.getS (f := 17) (r := 125) aw_cl10 kp_120 (by decide) (hW.le (by decide)) (by decide) ww_1259 dX10_greatest_38 rfl hW.t120_17 ?_
    refine SW.iload_n dX10_greatest_41 rfl ?_
    refine SW.cvi2 kV_X10_261 (by omega) aw_cl10 kp_120 (by decide) (hW.le (by decide)) rfl (Nat.le_of_ble_eq_true rfl) dX10_greatest_42 (SMi.mono vc ?_)
    intro a1 n1 σ1 τ1 θ1 vc
    obtain ⟨hW, vc⟩ := vc
    refine SW.aload_n dX10_greatest_45 rfl ?_
    refine SW.aload_n dX10_greatest_46 rfl ?_
    refine SW.getS (f := 17) (r := 125) aw_cl10 kp_120 (by decide) (hW.le (by decide)) (by decide) ww_1259 dX10_greatest_47 rfl hW.t120_17 ?_
    refine SW.iload_n dX10_greatest_50 rfl ?_
    refine SW.cvi2 kV_X10_261 (by omega) aw_cl10 kp_120 (by decide) (hW.le (by decide)) rfl (Nat.le_of_ble_eq_true rfl) dX10_greatest_51 (SMi.mono vc ?_)
    intro a2 n2 σ2 τ2 θ2 vc
    obtain ⟨hW, vc⟩ := vc
    refine SW.icmp_le 59 dX10_greatest_54 (by decide) (fun hbr => ?_) (fun hbr => ?_)
    · replace vc := vc.1 hbr
      refine SW.iinc (v := (x2 + (1 : Int32))) dX10_greatest_59 rfl rfl (by decide) rfl rfl ?_
      refine SW.goto 26 dX10_greatest_62 (by decide) ?_
      exact vc
    · replace vc := vc.2 hbr
      refine SW.iload_n dX10_greatest_57 rfl ?_
      refine SW.istore_n dX10_greatest_58 (by decide) rfl rfl ?_
      refine SW.iinc (v := (x2 + (1 : Int32))) dX10_greatest_59 rfl rfl (by decide) rfl rfl ?_
      refine SW.goto 26 dX10_greatest_62 (by decide) ?_
      exact vc
theorem ctX10_greatest {G : GG} {q : Int32 → Nat → SG → TU → TH → Prop} {n : Nat} {σ : SG} {τ : TU} {θ : TH}  (h : SW G 5 mX10_greatest (aw_qi q) 0 0 0 [some (.ref 120), none, none] [] (n, σ, τ, θ)) : SMi G 5 mX10_greatest 0 0 [.ref 120] n σ τ θ q := SM.of _ rfl rfl (Nat.le_of_ble_eq_true rfl) h
set_option maxHeartbeats 4000000 in
set_option maxRecDepth 20000 in
theorem sgX10_guests_0 {G : GG} {k : Nat} {q : Int32 → Nat → SG → TU → TH → Prop} {n : Nat} {σ : SG} {τ : TU} {θ : TH}   (hk : 14 ≤ k)  (hW : aw_WT n θ) (vc : SMv G 1 mX10_good 0 0 [.ref 120] n σ τ θ (fun n1 σ1 τ1 θ1 => aw_WT n1 θ1 ∧ (((¬ (σ1 120 14) = 0) → (SMv G 13 mX10_seekGuests 0 0 [.ref 120] n1 σ1 τ1 θ1 (fun n2 σ2 τ2 θ2 => aw_WT n2 θ2 ∧ (q (σ2 120 26) n2 σ2 τ2 θ2)))) ∧ (((σ1 120 14) = 0) → (SMi G 1 mX10_no 0 0 [.ref 120, .int (1 : Int32)] n1 σ1 τ1 θ1 (fun a3 n3 σ3 τ3 θ3 => aw_WT n3 θ3 ∧ (q a3 n3 σ3 τ3 θ3))))))) : SW G k mX10_guests (aw_qi q) 0 0 0 [some (.ref 120)] [] (n, σ, τ, θ) := by
  refine SW.aload_n dX10_guests_0 rfl ?_
  refine SW.cvv0 kV_X10_154 (by omega) aw_cl10 kp_120 (by decide) (hW.le (by decide)) rfl (Nat.le_of_ble_eq_true rfl) dX10_guests_1 (SMv.mono vc ?_)
  intro n1 σ1 τ1 θ1 vc
  obtain ⟨hW, vc⟩ := vc
  refine SW.aload_n dX10_guests_4 rfl ?_
  refine SW.getI (f := 14) aw_cl10 kp_120 (by decide) (hW.le (by decide)) (by decide) ww_1256 dX10_guests_5 rfl ?_
  refine SW.if_ne 17 dX10_guests_8 (by decide) (fun hbr => ?_) (fun hbr => ?_)
  · replace vc := vc.1 hbr
    refine SW.aload_n dX10_guests_17 rfl ?_
    refine SW.cvv0 kV_X10_312 (by omega) aw_cl10 kp_120 (by decide) (hW.le (by decide)) rfl (Nat.le_of_ble_eq_true rfl) dX10_guests_18 (SMv.mono vc ?_)
    intro n2 σ2 τ2 θ2 vc
    obtain ⟨hW, vc⟩ := vc
    refine SW.aload_n dX10_guests_21 rfl ?_
    refine SW.getI (f := 26) aw_cl10 kp_120 (by decide) (hW.le (by decide)) (by decide) ww_1268 dX10_guests_22 rfl ?_
    exact SW.iret dX10_guests_25 rfl rfl ⟨_, rfl, vc⟩
  · replace vc := vc.2 hbr
    refine SW.aload_n dX10_guests_11 rfl ?_
    refine SW.iconst (v := (1 : Int32)) dX10_guests_12 (by decide) ?_
    refine SW.cvi1 kV_X10_157 (by omega) aw_cl10 kp_120 (by decide) (hW.le (by decide)) rfl (Nat.le_of_ble_eq_true rfl) dX10_guests_13 (SMi.mono vc ?_)
    intro a3 n3 σ3 τ3 θ3 vc
    obtain ⟨hW, vc⟩ := vc
    exact SW.iret dX10_guests_16 rfl rfl ⟨_, rfl, vc⟩
theorem ctX10_guests {G : GG} {q : Int32 → Nat → SG → TU → TH → Prop} {n : Nat} {σ : SG} {τ : TU} {θ : TH}  (h : SW G 14 mX10_guests (aw_qi q) 0 0 0 [some (.ref 120)] [] (n, σ, τ, θ)) : SMi G 14 mX10_guests 0 0 [.ref 120] n σ τ θ q := SM.of _ rfl rfl (Nat.le_of_ble_eq_true rfl) h
set_option maxHeartbeats 4000000 in
set_option maxRecDepth 20000 in
theorem sgX10_hasBit_0 {G : GG} {k : Nat} {q : Int32 → Nat → SG → TU → TH → Prop} {n : Nat} {σ : SG} {τ : TU} {θ : TH}  (x0 : Int32) (x1 : Int32) (hk : 1 ≤ k)  (hW : aw_WT n θ) (vc : ((¬ ((x0 >>> (x1 &&& 31)) &&& (1 : Int32)) = (1 : Int32)) → (q (0 : Int32) n σ τ θ)) ∧ ((((x0 >>> (x1 &&& 31)) &&& (1 : Int32)) = (1 : Int32)) → (q (1 : Int32) n σ τ θ))) : SW G k mX10_hasBit (aw_qi q) 0 0 0 [some (.int x0), some (.int x1)] [] (n, σ, τ, θ) := by
  refine SW.iload_n dX10_hasBit_0 rfl ?_
  refine SW.iload_n dX10_hasBit_1 rfl ?_
  refine SW.ishr dX10_hasBit_2 ?_
  refine SW.iconst (v := (1 : Int32)) dX10_hasBit_3 (by decide) ?_
  refine SW.iand dX10_hasBit_4 ?_
  refine SW.iconst (v := (1 : Int32)) dX10_hasBit_5 (by decide) ?_
  refine SW.icmp_ne 13 dX10_hasBit_6 (by decide) (fun hbr => ?_) (fun hbr => ?_)
  · replace vc := vc.1 hbr
    refine SW.iconst (v := (0 : Int32)) dX10_hasBit_13 (by decide) ?_
    exact SW.iret dX10_hasBit_14 rfl rfl ⟨_, rfl, vc⟩
  · replace vc := vc.2 hbr
    refine SW.iconst (v := (1 : Int32)) dX10_hasBit_9 (by decide) ?_
    refine SW.goto 14 dX10_hasBit_10 (by decide) ?_
    exact SW.iret dX10_hasBit_14 rfl rfl ⟨_, rfl, vc⟩
theorem ctX10_hasBit {G : GG} {q : Int32 → Nat → SG → TU → TH → Prop} {n : Nat} {σ : SG} {τ : TU} {θ : TH} (x0 : Int32) (x1 : Int32) (h : SW G 1 mX10_hasBit (aw_qi q) 0 0 0 [some (.int x0), some (.int x1)] [] (n, σ, τ, θ)) : SMi G 1 mX10_hasBit 0 0 [.int x0, .int x1] n σ τ θ q := SM.of _ rfl rfl (Nat.le_of_ble_eq_true rfl) h
set_option maxHeartbeats 4000000 in
set_option maxRecDepth 20000 in
theorem sgX10_hasBy_0 {G : GG} {k : Nat} {q : Int32 → Nat → SG → TU → TH → Prop} {n : Nat} {σ : SG} {τ : TU} {θ : TH}  (x1 : Int32) (x2 : Int32) (x3 : Int32) (x4 : Int32) (x5 : Int32) (hk : 2 ≤ k)  (hW : aw_WT n θ) (vc : SMi G 1 mX10_strongOf 0 0 [.ref 120, .int x1] n σ τ θ (fun a1 n1 σ1 τ1 θ1 => aw_WT n1 θ1 ∧ (SMi G 1 mX10_strongOf 0 0 [.ref 120, .int x2] n1 σ1 τ1 θ1 (fun a2 n2 σ2 τ2 θ2 => aw_WT n2 θ2 ∧ (SMi G 1 mX10_duelOf 0 0 [.int a1, .int a2, .int x3, .int x4, .int x5] n2 σ2 τ2 θ2 (fun a3 n3 σ3 τ3 θ3 => aw_WT n3 θ3 ∧ (q a3 n3 σ3 τ3 θ3))))))) : SW G k mX10_hasBy (aw_qi q) 0 0 0 [some (.ref 120), some (.int x1), some (.int x2), some (.int x3), some (.int x4), some (.int x5)] [] (n, σ, τ, θ) := by
  refine SW.aload_n dX10_hasBy_0 rfl ?_
  refine SW.iload_n dX10_hasBy_1 rfl ?_
  refine SW.cvi1 kV_X10_368 (by omega) aw_cl10 kp_120 (by decide) (hW.le (by decide)) rfl (Nat.le_of_ble_eq_true rfl) dX10_hasBy_2 (SMi.mono vc ?_)
  intro a1 n1 σ1 τ1 θ1 vc
  obtain ⟨hW, vc⟩ := vc
  refine SW.aload_n dX10_hasBy_5 rfl ?_
  refine SW.iload_n dX10_hasBy_6 rfl ?_
  refine SW.cvi1 kV_X10_368 (by omega) aw_cl10 kp_120 (by decide) (hW.le (by decide)) rfl (Nat.le_of_ble_eq_true rfl) dX10_hasBy_7 (SMi.mono vc ?_)
  intro a2 n2 σ2 τ2 θ2 vc
  obtain ⟨hW, vc⟩ := vc
  refine SW.iload_n dX10_hasBy_10 rfl ?_
  refine SW.iload dX10_hasBy_11 rfl ?_
  refine SW.iload dX10_hasBy_13 rfl ?_
  refine SW.csi5 kS_X10_371 (by omega) (Nat.le_of_ble_eq_true rfl) dX10_hasBy_15 (SMi.mono vc ?_)
  intro a3 n3 σ3 τ3 θ3 vc
  obtain ⟨hW, vc⟩ := vc
  exact SW.iret dX10_hasBy_18 rfl rfl ⟨_, rfl, vc⟩
theorem ctX10_hasBy {G : GG} {q : Int32 → Nat → SG → TU → TH → Prop} {n : Nat} {σ : SG} {τ : TU} {θ : TH} (x1 : Int32) (x2 : Int32) (x3 : Int32) (x4 : Int32) (x5 : Int32) (h : SW G 2 mX10_hasBy (aw_qi q) 0 0 0 [some (.ref 120), some (.int x1), some (.int x2), some (.int x3), some (.int x4), some (.int x5)] [] (n, σ, τ, θ)) : SMi G 2 mX10_hasBy 0 0 [.ref 120, .int x1, .int x2, .int x3, .int x4, .int x5] n σ τ θ q := SM.of _ rfl rfl (Nat.le_of_ble_eq_true rfl) h
set_option maxHeartbeats 4000000 in
set_option maxRecDepth 20000 in
theorem sgX10_headIn_0 {G : GG} {k : Nat} {q : Int32 → Nat → SG → TU → TH → Prop} {n : Nat} {σ : SG} {τ : TU} {θ : TH}  (x1 : Int32) (x2 : Int32) (hk : 5 ≤ k)  (hW : aw_WT n θ) (vc : SMv G 1 mX10_good 0 0 [.ref 120] n σ τ θ (fun n1 σ1 τ1 θ1 => aw_WT n1 θ1 ∧ (SMi G 2 mX10_isMan 0 0 [.ref 120, .int x1] n1 σ1 τ1 θ1 (fun a2 n2 σ2 τ2 θ2 => aw_WT n2 θ2 ∧ (SMi G 1 mX10_in 0 0 [.int x2, .int (0 : Int32), .int (20 : Int32)] n2 σ2 τ2 θ2 (fun a3 n3 σ3 τ3 θ3 => aw_WT n3 θ3 ∧ (SMi G 1 mX10_why 0 0 [.ref 120, .int a2, .int a3] n3 σ3 τ3 θ3 (fun a4 n4 σ4 τ4 θ4 => aw_WT n4 θ4 ∧ (((a4 = 0) → (SMv G 2 mX10_goOver 0 0 [.ref 120, .int x2] n4 σ4 τ4 θ4 (fun n5 σ5 τ5 θ5 => aw_WT n5 θ5 ∧ (SMi G 4 mX10_headOf 0 0 [.ref 120, .ref 128, .int x1] n5 σ5 τ5 θ5 (fun a6 n6 σ6 τ6 θ6 => aw_WT n6 θ6 ∧ (q a6 n6 σ6 τ6 θ6)))))) ∧ ((¬ a4 = 0) → (SMi G 1 mX10_no 0 0 [.ref 120, .int a4] n4 σ4 τ4 θ4 (fun a7 n7 σ7 τ7 θ7 => aw_WT n7 θ7 ∧ (q a7 n7 σ7 τ7 θ7))))))))))))) : SW G k mX10_headIn (aw_qi q) 0 0 0 [some (.ref 120), some (.int x1), some (.int x2), none] [] (n, σ, τ, θ) := by
  refine SW.aload_n dX10_headIn_0 rfl ?_
  refine SW.cvv0 kV_X10_154 (by omega) aw_cl10 kp_120 (by decide) (hW.le (by decide)) rfl (Nat.le_of_ble_eq_true rfl) dX10_headIn_1 (SMv.mono vc ?_)
  intro n1 σ1 τ1 θ1 vc
  obtain ⟨hW, vc⟩ := vc
  refine SW.aload_n dX10_headIn_4 rfl ?_
  refine SW.aload_n dX10_headIn_5 rfl ?_
  refine SW.iload_n dX10_headIn_6 rfl ?_
  refine SW.cvi1 kV_X10_264 (by omega) aw_cl10 kp_120 (by decide) (hW.le (by decide)) rfl (Nat.le_of_ble_eq_true rfl) dX10_headIn_7 (SMi.mono vc ?_)
  intro a2 n2 σ2 τ2 θ2 vc
  obtain ⟨hW, vc⟩ := vc
  refine SW.iload_n dX10_headIn_10 rfl ?_
  refine SW.iconst (v := (0 : Int32)) dX10_headIn_11 (by decide) ?_
  refine SW.bipush (v := (20 : Int32)) dX10_headIn_12 (by decide) ?_
  refine SW.csi3 kS_X10_139 (by omega) (Nat.le_of_ble_eq_true rfl) dX10_headIn_14 (SMi.mono vc ?_)
  intro a3 n3 σ3 τ3 θ3 vc
  obtain ⟨hW, vc⟩ := vc
  refine SW.cvi2 kV_X10_289 (by omega) aw_cl10 kp_120 (by decide) (hW.le (by decide)) rfl (Nat.le_of_ble_eq_true rfl) dX10_headIn_17 (SMi.mono vc ?_)
  intro a4 n4 σ4 τ4 θ4 vc
  obtain ⟨hW, vc⟩ := vc
  refine SW.istore_n dX10_headIn_20 (by decide) rfl rfl ?_
  refine SW.iload_n dX10_headIn_21 rfl ?_
  refine SW.if_eq 31 dX10_headIn_22 (by decide) (fun hbr => ?_) (fun hbr => ?_)
  · replace vc := vc.1 hbr
    refine SW.aload_n dX10_headIn_31 rfl ?_
    refine SW.iload_n dX10_headIn_32 rfl ?_
    refine SW.cvv1 kV_X10_293 (by omega) aw_cl10 kp_120 (by decide) (hW.le (by decide)) rfl (Nat.le_of_ble_eq_true rfl) dX10_headIn_33 (SMv.mono vc ?_)
    intro n5 σ5 τ5 θ5 vc
    obtain ⟨hW, vc⟩ := vc
    refine SW.aload_n dX10_headIn_36 rfl ?_
    refine SW.aload_n dX10_headIn_37 rfl ?_
    refine SW.getS (f := 23) (r := 128) aw_cl10 kp_120 (by decide) (hW.le (by decide)) (by decide) ww_1265 dX10_headIn_38 rfl hW.t120_23 ?_
    refine SW.iload_n dX10_headIn_41 rfl ?_
    refine SW.cvi2 kV_X10_261 (by omega) aw_cl10 kp_120 (by decide) (hW.le (by decide)) rfl (Nat.le_of_ble_eq_true rfl) dX10_headIn_42 (SMi.mono vc ?_)
    intro a6 n6 σ6 τ6 θ6 vc
    obtain ⟨hW, vc⟩ := vc
    exact SW.iret dX10_headIn_45 rfl rfl ⟨_, rfl, vc⟩
  · replace vc := vc.2 hbr
    refine SW.aload_n dX10_headIn_25 rfl ?_
    refine SW.iload_n dX10_headIn_26 rfl ?_
    refine SW.cvi1 kV_X10_157 (by omega) aw_cl10 kp_120 (by decide) (hW.le (by decide)) rfl (Nat.le_of_ble_eq_true rfl) dX10_headIn_27 (SMi.mono vc ?_)
    intro a7 n7 σ7 τ7 θ7 vc
    obtain ⟨hW, vc⟩ := vc
    exact SW.iret dX10_headIn_30 rfl rfl ⟨_, rfl, vc⟩
theorem ctX10_headIn {G : GG} {q : Int32 → Nat → SG → TU → TH → Prop} {n : Nat} {σ : SG} {τ : TU} {θ : TH} (x1 : Int32) (x2 : Int32) (h : SW G 5 mX10_headIn (aw_qi q) 0 0 0 [some (.ref 120), some (.int x1), some (.int x2), none] [] (n, σ, τ, θ)) : SMi G 5 mX10_headIn 0 0 [.ref 120, .int x1, .int x2] n σ τ θ q := SM.of _ rfl rfl (Nat.le_of_ble_eq_true rfl) h
set_option maxHeartbeats 4000000 in
set_option maxRecDepth 20000 in
theorem sgX10_headIs_0 {G : GG} {k : Nat} {q : Int64 → Nat → SG → TU → TH → Prop} {n : Nat} {σ : SG} {τ : TU} {θ : TH}  (x1 : Int32) (x2 : Int32) (x3 : Int32) (hk : 8 ≤ k)  (hW : aw_WT n θ) (vc : SMv G 1 mX10_good 0 0 [.ref 120] n σ τ θ (fun n1 σ1 τ1 θ1 => aw_WT n1 θ1 ∧ (SMi G 2 mX10_isMan 0 0 [.ref 120, .int x1] n1 σ1 τ1 θ1 (fun a2 n2 σ2 τ2 θ2 => aw_WT n2 θ2 ∧ (SMi G 1 mX10_in 0 0 [.int x2, .int (0 : Int32), .int (99 : Int32)] n2 σ2 τ2 θ2 (fun a3 n3 σ3 τ3 θ3 => aw_WT n3 θ3 ∧ (SMi G 1 mX10_why 0 0 [.ref 120, .int a2, .int a3] n3 σ3 τ3 θ3 (fun a4 n4 σ4 τ4 θ4 => aw_WT n4 θ4 ∧ (((a4 = 0) → (SW G k mX10_headIs (aw_ql q) 0 0 41 [some (.ref 120), some (.int x1), some (.int x2), some (.int x3), none, some (.long (0 : Int64)), none, some (.int (0 : Int32)), none, none] [] (n4, σ4, τ4, θ4))) ∧ ((¬ a4 = 0) → (SMi G 1 mX10_no 0 0 [.ref 120, .int a4] n4 σ4 τ4 θ4 (fun a5 n5 σ5 τ5 θ5 => aw_WT n5 θ5 ∧ (q (a5.toInt64) n5 σ5 τ5 θ5))))))))))))) : SW G k mX10_headIs (aw_ql q) 0 0 0 [some (.ref 120), some (.int x1), some (.int x2), some (.int x3), none, none, none, none, none, none] [] (n, σ, τ, θ) := by
  refine SW.aload_n dX10_headIs_0 rfl ?_
  refine SW.cvv0 kV_X10_154 (by omega) aw_cl10 kp_120 (by decide) (hW.le (by decide)) rfl (Nat.le_of_ble_eq_true rfl) dX10_headIs_1 (SMv.mono vc ?_)
  intro n1 σ1 τ1 θ1 vc
  obtain ⟨hW, vc⟩ := vc
  refine SW.aload_n dX10_headIs_4 rfl ?_
  refine SW.aload_n dX10_headIs_5 rfl ?_
  refine SW.iload_n dX10_headIs_6 rfl ?_
  refine SW.cvi1 kV_X10_264 (by omega) aw_cl10 kp_120 (by decide) (hW.le (by decide)) rfl (Nat.le_of_ble_eq_true rfl) dX10_headIs_7 (SMi.mono vc ?_)
  intro a2 n2 σ2 τ2 θ2 vc
  obtain ⟨hW, vc⟩ := vc
  refine SW.iload_n dX10_headIs_10 rfl ?_
  refine SW.iconst (v := (0 : Int32)) dX10_headIs_11 (by decide) ?_
  refine SW.bipush (v := (99 : Int32)) dX10_headIs_12 (by decide) ?_
  refine SW.csi3 kS_X10_139 (by omega) (Nat.le_of_ble_eq_true rfl) dX10_headIs_14 (SMi.mono vc ?_)
  intro a3 n3 σ3 τ3 θ3 vc
  obtain ⟨hW, vc⟩ := vc
  refine SW.cvi2 kV_X10_289 (by omega) aw_cl10 kp_120 (by decide) (hW.le (by decide)) rfl (Nat.le_of_ble_eq_true rfl) dX10_headIs_17 (SMi.mono vc ?_)
  intro a4 n4 σ4 τ4 θ4 vc
  obtain ⟨hW, vc⟩ := vc
  refine SW.istore dX10_headIs_20 (by decide) rfl rfl ?_
  refine SW.iload dX10_headIs_22 rfl ?_
  refine SW.if_eq 35 dX10_headIs_24 (by decide) (fun hbr => ?_) (fun hbr => ?_)
  · replace vc := vc.1 hbr
    refine SW.lconst (v := (0 : Int64)) dX10_headIs_35 (by decide) ?_
    refine SW.lstore dX10_headIs_36 (by decide) rfl rfl ?_
    refine SW.iconst (v := (0 : Int32)) dX10_headIs_38 (by decide) ?_
    refine SW.istore dX10_headIs_39 (by decide) rfl rfl ?_
    refine SW.msk [true, true, true, true, false, true, true, true, true, true] rfl ?_
    exact vc
  · replace vc := vc.2 hbr
    refine SW.aload_n dX10_headIs_27 rfl ?_
    refine SW.iload dX10_headIs_28 rfl ?_
    refine SW.cvi1 kV_X10_157 (by omega) aw_cl10 kp_120 (by decide) (hW.le (by decide)) rfl (Nat.le_of_ble_eq_true rfl) dX10_headIs_30 (SMi.mono vc ?_)
    intro a5 n5 σ5 τ5 θ5 vc
    obtain ⟨hW, vc⟩ := vc
    refine SW.i2l dX10_headIs_33 ?_
    exact SW.lret dX10_headIs_34 rfl ⟨_, rfl, vc⟩
set_option maxHeartbeats 4000000 in
set_option maxRecDepth 20000 in
theorem sgX10_headIs_41 {G : GG} {k : Nat} {q : Int64 → Nat → SG → TU → TH → Prop} {n : Nat} {σ : SG} {τ : TU} {θ : TH}  (x1 : Int32) (x2 : Int32) (x3 : Int32) (x5 : Int64) (x7 : Int32) (hk : 8 ≤ k)  (hW : aw_WT n θ) (vc : SMi G 1 mX10_allSets 0 0 [.ref 120] n σ τ θ (fun a1 n1 σ1 τ1 θ1 => aw_WT n1 θ1 ∧ (((a1 ≤ x7) → (SMl G 7 mX10_odds 0 0 [.ref 120, .long x5, .int x3] n1 σ1 τ1 θ1 (fun a2 n2 σ2 τ2 θ2 => aw_WT n2 θ2 ∧ (q a2 n2 σ2 τ2 θ2)))) ∧ ((¬ a1 ≤ x7) → (SMl G 5 mX10_weightOf 0 0 [.ref 120, .int x7] n1 σ1 τ1 θ1 (fun a3 n3 σ3 τ3 θ3 => aw_WT n3 θ3 ∧ (SMi G 4 mX10_headOf 0 0 [.ref 120, .ref 125, .int x1] n3 σ3 τ3 θ3 (fun a4 n4 σ4 τ4 θ4 => aw_WT n4 θ4 ∧ (((¬ a4 = x2) → (SW G k mX10_headIs (aw_ql q) 0 0 41 [some (.ref 120), some (.int x1), some (.int x2), some (.int x3), none, some (.long (x5 + (0 : Int64))), none, some (.int (x7 + (1 : Int32))), none, none] [] (n4, σ4, τ4, θ4))) ∧ ((a4 = x2) → (SW G k mX10_headIs (aw_ql q) 0 0 41 [some (.ref 120), some (.int x1), some (.int x2), some (.int x3), none, some (.long (x5 + a3)), none, some (.int (x7 + (1 : Int32))), none, none] [] (n4, σ4, τ4, θ4)))))))))))) : SW G k mX10_headIs (aw_ql q) 0 0 41 [some (.ref 120), some (.int x1), some (.int x2), some (.int x3), none, some (.long x5), none, some (.int x7), none, none] [] (n, σ, τ, θ) := by
  refine SW.iload dX10_headIs_41 rfl ?_
  refine SW.aload_n dX10_headIs_43 rfl ?_
  refine SW.cvi0 kV_X10_337 (by omega) aw_cl10 kp_120 (by decide) (hW.le (by decide)) rfl (Nat.le_of_ble_eq_true rfl) dX10_headIs_44 (SMi.mono vc ?_)
  intro a1 n1 σ1 τ1 θ1 vc
  obtain ⟨hW, vc⟩ := vc
  refine SW.icmp_ge 88 dX10_headIs_47 (by decide) (fun hbr => ?_) (fun hbr => ?_)
  · replace vc := vc.1 hbr
    refine SW.aload_n dX10_headIs_88 rfl ?_
    refine SW.lload dX10_headIs_89 rfl ?_
    refine SW.iload_n dX10_headIs_91 rfl ?_
    refine SW.cvl2 kV_X10_358 (by omega) aw_cl10 kp_120 (by decide) (hW.le (by decide)) rfl (Nat.le_of_ble_eq_true rfl) dX10_headIs_92 (SMl.mono vc ?_)
    intro a2 n2 σ2 τ2 θ2 vc
    obtain ⟨hW, vc⟩ := vc
    exact SW.lret dX10_headIs_95 rfl ⟨_, rfl, vc⟩
  · replace vc := vc.2 hbr
    refine SW.aload_n dX10_headIs_50 rfl ?_
    refine SW.iload dX10_headIs_51 rfl ?_
    refine SW.cvl1 kV_X10_340 (by omega) aw_cl10 kp_120 (by decide) (hW.le (by decide)) rfl (Nat.le_of_ble_eq_true rfl) dX10_headIs_53 (SMl.mono vc ?_)
    intro a3 n3 σ3 τ3 θ3 vc
    obtain ⟨hW, vc⟩ := vc
    refine SW.lstore dX10_headIs_56 (by decide) rfl rfl ?_
    refine SW.lload dX10_headIs_58 rfl ?_
    refine SW.aload_n dX10_headIs_60 rfl ?_
    refine SW.aload_n dX10_headIs_61 rfl ?_
    refine SW.getS (f := 17) (r := 125) aw_cl10 kp_120 (by decide) (hW.le (by decide)) (by decide) ww_1259 dX10_headIs_62 rfl hW.t120_17 ?_
    refine SW.iload_n dX10_headIs_65 rfl ?_
    refine SW.cvi2 kV_X10_261 (by omega) aw_cl10 kp_120 (by decide) (hW.le (by decide)) rfl (Nat.le_of_ble_eq_true rfl) dX10_headIs_66 (SMi.mono vc ?_)
    intro a4 n4 σ4 τ4 θ4 vc
    obtain ⟨hW, vc⟩ := vc
    refine SW.iload_n dX10_headIs_69 rfl ?_
    refine SW.icmp_ne 78 dX10_headIs_70 (by decide) (fun hbr => ?_) (fun hbr => ?_)
    · replace vc := vc.1 hbr
      refine SW.lconst (v := (0 : Int64)) dX10_headIs_78 (by decide) ?_
      refine SW.ladd dX10_headIs_79 ?_
      refine SW.lstore dX10_headIs_80 (by decide) rfl rfl ?_
      refine SW.iinc (v := (x7 + (1 : Int32))) dX10_headIs_82 rfl rfl (by decide) rfl rfl ?_
      refine SW.goto 41 dX10_headIs_85 (by decide) ?_
      refine SW.msk [true, true, true, true, true, true, true, true, false, true] rfl ?_
      exact vc
    · replace vc := vc.2 hbr
      refine SW.lload dX10_headIs_73 rfl ?_
      refine SW.goto 79 dX10_headIs_75 (by decide) ?_
      refine SW.ladd dX10_headIs_79 ?_
      refine SW.lstore dX10_headIs_80 (by decide) rfl rfl ?_
      refine SW.iinc (v := (x7 + (1 : Int32))) dX10_headIs_82 rfl rfl (by decide) rfl rfl ?_
      refine SW.goto 41 dX10_headIs_85 (by decide) ?_
      refine SW.msk [true, true, true, true, true, true, true, true, false, true] rfl ?_
      exact vc
theorem ctX10_headIs {G : GG} {q : Int64 → Nat → SG → TU → TH → Prop} {n : Nat} {σ : SG} {τ : TU} {θ : TH} (x1 : Int32) (x2 : Int32) (x3 : Int32) (h : SW G 8 mX10_headIs (aw_ql q) 0 0 0 [some (.ref 120), some (.int x1), some (.int x2), some (.int x3), none, none, none, none, none, none] [] (n, σ, τ, θ)) : SMl G 8 mX10_headIs 0 0 [.ref 120, .int x1, .int x2, .int x3] n σ τ θ q := SM.of _ rfl rfl (Nat.le_of_ble_eq_true rfl) h
set_option maxHeartbeats 4000000 in
set_option maxRecDepth 20000 in
theorem sgX10_headOf_0 {G : GG} {k : Nat} {q : Int32 → Nat → SG → TU → TH → Prop} {n : Nat} {σ : SG} {τ : TU} {θ : TH} (r1 rn1 : Nat) (x2 : Int32) (hk : 4 ≤ k) (hr1 : isA r1 rn1) (hW : aw_WT n θ) (vc : SMi G 3 mX10_burdenOf 0 0 [.ref 120, .ref r1, .int x2] n σ τ θ (fun a1 n1 σ1 τ1 θ1 => aw_WT n1 θ1 ∧ (SMi G 1 mX10_kindOf 0 0 [.ref 120, .int x2] n1 σ1 τ1 θ1 (fun a2 n2 σ2 τ2 θ2 => aw_WT n2 θ2 ∧ (((¬ a2 = (1 : Int32)) → (SMi G 1 mX10_kindOf 0 0 [.ref 120, .int x2] n2 σ2 τ2 θ2 (fun a3 n3 σ3 τ3 θ3 => aw_WT n3 θ3 ∧ (((¬ a3 = (2 : Int32)) → (SMi G 1 mX10_kindOf 0 0 [.ref 120, .int x2] n3 σ3 τ3 θ3 (fun a4 n4 σ4 τ4 θ4 => aw_WT n4 θ4 ∧ (((¬ a4 = (3 : Int32)) → (q a1 n4 σ4 τ4 θ4)) ∧ ((a4 = (3 : Int32)) → (q ((a1 + (1 : Int32)) / (2 : Int32)) n4 σ4 τ4 θ4)))))) ∧ ((a3 = (2 : Int32)) → (q ((2 : Int32) * a1) n3 σ3 τ3 θ3)))))) ∧ ((a2 = (1 : Int32)) → (q (0 : Int32) n2 σ2 τ2 θ2))))))) : SW G k mX10_headOf (aw_qi q) 0 0 0 [some (.ref 120), some (.ref r1), some (.int x2), none] [] (n, σ, τ, θ) := by
  refine SW.aload_n dX10_headOf_0 rfl ?_
  refine SW.aload_n dX10_headOf_1 rfl ?_
  refine SW.iload_n dX10_headOf_2 rfl ?_
  refine SW.cvi2 kV_X10_254 (by omega) aw_cl10 kp_120 (by decide) (hW.le (by decide)) rfl (Nat.le_of_ble_eq_true rfl) dX10_headOf_3 (SMi.mono vc ?_)
  intro a1 n1 σ1 τ1 θ1 vc
  obtain ⟨hW, vc⟩ := vc
  refine SW.istore_n dX10_headOf_6 (by decide) rfl rfl ?_
  refine SW.aload_n dX10_headOf_7 rfl ?_
  refine SW.iload_n dX10_headOf_8 rfl ?_
  refine SW.cvi1 kV_X10_258 (by omega) aw_cl10 kp_120 (by decide) (hW.le (by decide)) rfl (Nat.le_of_ble_eq_true rfl) dX10_headOf_9 (SMi.mono vc ?_)
  intro a2 n2 σ2 τ2 θ2 vc
  obtain ⟨hW, vc⟩ := vc
  refine SW.iconst (v := (1 : Int32)) dX10_headOf_12 (by decide) ?_
  refine SW.icmp_ne 20 dX10_headOf_13 (by decide) (fun hbr => ?_) (fun hbr => ?_)
  · replace vc := vc.1 hbr
    refine SW.aload_n dX10_headOf_20 rfl ?_
    refine SW.iload_n dX10_headOf_21 rfl ?_
    refine SW.cvi1 kV_X10_258 (by omega) aw_cl10 kp_120 (by decide) (hW.le (by decide)) rfl (Nat.le_of_ble_eq_true rfl) dX10_headOf_22 (SMi.mono vc ?_)
    intro a3 n3 σ3 τ3 θ3 vc
    obtain ⟨hW, vc⟩ := vc
    refine SW.iconst (v := (2 : Int32)) dX10_headOf_25 (by decide) ?_
    refine SW.icmp_ne 35 dX10_headOf_26 (by decide) (fun hbr => ?_) (fun hbr => ?_)
    · replace vc := vc.1 hbr
      refine SW.aload_n dX10_headOf_35 rfl ?_
      refine SW.iload_n dX10_headOf_36 rfl ?_
      refine SW.cvi1 kV_X10_258 (by omega) aw_cl10 kp_120 (by decide) (hW.le (by decide)) rfl (Nat.le_of_ble_eq_true rfl) dX10_headOf_37 (SMi.mono vc ?_)
      intro a4 n4 σ4 τ4 θ4 vc
      obtain ⟨hW, vc⟩ := vc
      refine SW.iconst (v := (3 : Int32)) dX10_headOf_40 (by decide) ?_
      refine SW.icmp_ne 52 dX10_headOf_41 (by decide) (fun hbr => ?_) (fun hbr => ?_)
      · replace vc := vc.1 hbr
        refine SW.iload_n dX10_headOf_52 rfl ?_
        exact SW.iret dX10_headOf_53 rfl rfl ⟨_, rfl, vc⟩
      · replace vc := vc.2 hbr
        refine SW.iload_n dX10_headOf_44 rfl ?_
        refine SW.iconst (v := (1 : Int32)) dX10_headOf_45 (by decide) ?_
        refine SW.iadd dX10_headOf_46 ?_
        refine SW.iconst (v := (2 : Int32)) dX10_headOf_47 (by decide) ?_
        refine SW.idiv dX10_headOf_48 (by decide) ?_
        refine SW.goto 53 dX10_headOf_49 (by decide) ?_
        exact SW.iret dX10_headOf_53 rfl rfl ⟨_, rfl, vc⟩
    · replace vc := vc.2 hbr
      refine SW.iconst (v := (2 : Int32)) dX10_headOf_29 (by decide) ?_
      refine SW.iload_n dX10_headOf_30 rfl ?_
      refine SW.imul dX10_headOf_31 ?_
      refine SW.goto 53 dX10_headOf_32 (by decide) ?_
      exact SW.iret dX10_headOf_53 rfl rfl ⟨_, rfl, vc⟩
  · replace vc := vc.2 hbr
    refine SW.iconst (v := (0 : Int32)) dX10_headOf_16 (by decide) ?_
    refine SW.goto 53 dX10_headOf_17 (by decide) ?_
    exact SW.iret dX10_headOf_53 rfl rfl ⟨_, rfl, vc⟩
theorem ctX10_headOf {G : GG} {q : Int32 → Nat → SG → TU → TH → Prop} {n : Nat} {σ : SG} {τ : TU} {θ : TH} (r1 rn1 : Nat) (x2 : Int32) (h : SW G 4 mX10_headOf (aw_qi q) 0 0 0 [some (.ref 120), some (.ref r1), some (.int x2), none] [] (n, σ, τ, θ)) : SMi G 4 mX10_headOf 0 0 [.ref 120, .ref r1, .int x2] n σ τ θ q := SM.of _ rfl rfl (Nat.le_of_ble_eq_true rfl) h
set_option maxHeartbeats 4000000 in
set_option maxRecDepth 20000 in
theorem sgX10_heads_0 {G : GG} {k : Nat} {q : Int32 → Nat → SG → TU → TH → Prop} {n : Nat} {σ : SG} {τ : TU} {θ : TH}   (hk : 6 ≤ k)  (hW : aw_WT n θ) (vc : SMv G 1 mX10_good 0 0 [.ref 120] n σ τ θ (fun n1 σ1 τ1 θ1 => aw_WT n1 θ1 ∧ (((((aw_u σ1 120 22 (0 : Int32)) 120 14) = 0) → (SMi G 1 mX10_no 0 0 [.ref 120, .int (1 : Int32)] n1 (aw_u σ1 120 22 (0 : Int32)) τ1 θ1 (fun a2 n2 σ2 τ2 θ2 => aw_WT n2 θ2 ∧ (q a2 n2 σ2 τ2 θ2)))) ∧ ((¬ ((aw_u σ1 120 22 (0 : Int32)) 120 14) = 0) → (SMi G 5 mX10_headsOf 0 0 [.ref 120, .ref 125] n1 (aw_u σ1 120 22 (0 : Int32)) τ1 θ1 (fun a3 n3 σ3 τ3 θ3 => aw_WT n3 θ3 ∧ (q a3 n3 σ3 τ3 θ3))))))) : SW G k mX10_heads (aw_qi q) 0 0 0 [some (.ref 120)] [] (n, σ, τ, θ) := by
  refine SW.aload_n dX10_heads_0 rfl ?_
  refine SW.cvv0 kV_X10_154 (by omega) aw_cl10 kp_120 (by decide) (hW.le (by decide)) rfl (Nat.le_of_ble_eq_true rfl) dX10_heads_1 (SMv.mono vc ?_)
  intro n1 σ1 τ1 θ1 vc
  obtain ⟨hW, vc⟩ := vc
  refine SW.aload_n dX10_heads_4 rfl ?_
  refine SW.iconst (v := (0 : Int32)) dX10_heads_5 (by decide) ?_
  refine SW.putI (f := 22) aw_cl10 kp_120 (by decide) (hW.le (by decide)) (by decide) ww_1264 (Or.inl rfl) dX10_heads_6 rfl rfl rfl ?_
  refine SW.aload_n dX10_heads_9 rfl ?_
  refine SW.getI (f := 14) aw_cl10 kp_120 (by decide) (hW.le (by decide)) (by decide) ww_1256 dX10_heads_10 rfl ?_
  refine SW.if_eq 27 dX10_heads_13 (by decide) (fun hbr => ?_) (fun hbr => ?_)
  · replace vc := vc.1 hbr
    refine SW.aload_n dX10_heads_27 rfl ?_
    refine SW.iconst (v := (1 : Int32)) dX10_heads_28 (by decide) ?_
    refine SW.cvi1 kV_X10_157 (by omega) aw_cl10 kp_120 (by decide) (hW.le (by decide)) rfl (Nat.le_of_ble_eq_true rfl) dX10_heads_29 (SMi.mono vc ?_)
    intro a2 n2 σ2 τ2 θ2 vc
    obtain ⟨hW, vc⟩ := vc
    exact SW.iret dX10_heads_32 rfl rfl ⟨_, rfl, vc⟩
  · replace vc := vc.2 hbr
    refine SW.aload_n dX10_heads_16 rfl ?_
    refine SW.aload_n dX10_heads_17 rfl ?_
    refine SW.getS (f := 17) (r := 125) aw_cl10 kp_120 (by decide) (hW.le (by decide)) (by decide) ww_1259 dX10_heads_18 rfl hW.t120_17 ?_
    refine SW.cvi1 kV_X10_285 (by omega) aw_cl10 kp_120 (by decide) (hW.le (by decide)) rfl (Nat.le_of_ble_eq_true rfl) dX10_heads_21 (SMi.mono vc ?_)
    intro a3 n3 σ3 τ3 θ3 vc
    obtain ⟨hW, vc⟩ := vc
    refine SW.goto 32 dX10_heads_24 (by decide) ?_
    exact SW.iret dX10_heads_32 rfl rfl ⟨_, rfl, vc⟩
theorem ctX10_heads {G : GG} {q : Int32 → Nat → SG → TU → TH → Prop} {n : Nat} {σ : SG} {τ : TU} {θ : TH}  (h : SW G 6 mX10_heads (aw_qi q) 0 0 0 [some (.ref 120)] [] (n, σ, τ, θ)) : SMi G 6 mX10_heads 0 0 [.ref 120] n σ τ θ q := SM.of _ rfl rfl (Nat.le_of_ble_eq_true rfl) h
set_option maxHeartbeats 4000000 in
set_option maxRecDepth 20000 in
theorem sgX10_headsOf_0 {G : GG} {k : Nat} {q : Int32 → Nat → SG → TU → TH → Prop} {n : Nat} {σ : SG} {τ : TU} {θ : TH} (r1 rn1 : Nat)  (hk : 5 ≤ k) (hr1 : isA r1 rn1) (hW : aw_WT n θ) (vc : SW G k mX10_headsOf (aw_qi q) 0 0 4 [some (.ref 120), some (.ref r1), some (.int (0 : Int32)), some (.int (0 : Int32))] [] (n, σ, τ, θ)) : SW G k mX10_headsOf (aw_qi q) 0 0 0 [some (.ref 120), some (.ref r1), none, none] [] (n, σ, τ, θ) := by
  refine SW.iconst (v := (0 : Int32)) dX10_headsOf_0 (by decide) ?_
  refine SW.istore_n dX10_headsOf_1 (by decide) rfl rfl ?_
  refine SW.iconst (v := (0 : Int32)) dX10_headsOf_2 (by decide) ?_
  refine SW.istore_n dX10_headsOf_3 (by decide) rfl rfl ?_
  exact vc
set_option maxHeartbeats 4000000 in
set_option maxRecDepth 20000 in
theorem sgX10_headsOf_4 {G : GG} {k : Nat} {q : Int32 → Nat → SG → TU → TH → Prop} {n : Nat} {σ : SG} {τ : TU} {θ : TH} (r1 rn1 : Nat) (x2 : Int32) (x3 : Int32) (hk : 5 ≤ k) (hr1 : isA r1 rn1) (hW : aw_WT n θ) (vc : (((σ 123 4) ≤ x3) → (q x2 n σ τ θ)) ∧ ((¬ (σ 123 4) ≤ x3) → (SMi G 4 mX10_headOf 0 0 [.ref 120, .ref r1, .int x3] n σ τ θ (fun a1 n1 σ1 τ1 θ1 => aw_WT n1 θ1 ∧ (SW G k mX10_headsOf (aw_qi q) 0 0 4 [some (.ref 120), some (.ref r1), some (.int (x2 + a1)), some (.int (x3 + (1 : Int32)))] [] (n1, σ1, τ1, θ1)))))) : SW G k mX10_headsOf (aw_qi q) 0 0 4 [some (.ref 120), some (.ref r1), some (.int x2), some (.int x3)] [] (n, σ, τ, θ) := by
  refine SW.iload_n dX10_headsOf_4 rfl ?_
  refine SW.aload_n dX10_headsOf_5 rfl ?_
  refine SW.getS (f := 15) (r := 123) aw_cl10 kp_120 (by decide) (hW.le (by decide)) (by decide) ww_1257 dX10_headsOf_6 rfl hW.t120_15 ?_
  refine SW.iconst (v := (4 : Int32)) dX10_headsOf_9 (by decide) ?_
  refine SW.iald kp_123 (by decide) (hW.le (by decide)) (vp_in_nI (n := 4) (by decide) (by decide)) dX10_headsOf_10 ?_
  refine SW.icmp_ge 29 dX10_headsOf_11 (by decide) (fun hbr => ?_) (fun hbr => ?_)
  · replace vc := vc.1 hbr
    refine SW.iload_n dX10_headsOf_29 rfl ?_
    exact SW.iret dX10_headsOf_30 rfl rfl ⟨_, rfl, vc⟩
  · replace vc := vc.2 hbr
    refine SW.iload_n dX10_headsOf_14 rfl ?_
    refine SW.aload_n dX10_headsOf_15 rfl ?_
    refine SW.aload_n dX10_headsOf_16 rfl ?_
    refine SW.iload_n dX10_headsOf_17 rfl ?_
    refine SW.cvi2 kV_X10_261 (by omega) aw_cl10 kp_120 (by decide) (hW.le (by decide)) rfl (Nat.le_of_ble_eq_true rfl) dX10_headsOf_18 (SMi.mono vc ?_)
    intro a1 n1 σ1 τ1 θ1 vc
    obtain ⟨hW, vc⟩ := vc
    refine SW.iadd dX10_headsOf_21 ?_
    refine SW.istore_n dX10_headsOf_22 (by decide) rfl rfl ?_
    refine SW.iinc (v := (x3 + (1 : Int32))) dX10_headsOf_23 rfl rfl (by decide) rfl rfl ?_
    refine SW.goto 4 dX10_headsOf_26 (by decide) ?_
    exact vc
theorem ctX10_headsOf {G : GG} {q : Int32 → Nat → SG → TU → TH → Prop} {n : Nat} {σ : SG} {τ : TU} {θ : TH} (r1 rn1 : Nat) (h : SW G 5 mX10_headsOf (aw_qi q) 0 0 0 [some (.ref 120), some (.ref r1), none, none] [] (n, σ, τ, θ)) : SMi G 5 mX10_headsOf 0 0 [.ref 120, .ref r1] n σ τ θ q := SM.of _ rfl rfl (Nat.le_of_ble_eq_true rfl) h
set_option maxHeartbeats 4000000 in
set_option maxRecDepth 20000 in
theorem sgX10_image_0 {G : GG} {k : Nat} {q : Int32 → Nat → SG → TU → TH → Prop} {n : Nat} {σ : SG} {τ : TU} {θ : TH}   (hk : 2 ≤ k)  (hW : aw_WT n θ) (vc : SMv G 1 mX10_good 0 0 [.ref 120] n σ τ θ (fun n1 σ1 τ1 θ1 => aw_WT n1 θ1 ∧ (((¬ (σ1 120 14) = 0) → (((¬ (σ1 120 21) = (3 : Int32)) → (SMv G 1 mX10_copy 0 0 [.ref 125, .int (0 : Int32), .ref 127, .int ((13 : Int32) * (σ1 120 21)), .int (13 : Int32)] n1 σ1 τ1 θ1 (fun n2 σ2 τ2 θ2 => aw_WT n2 θ2 ∧ (q (((aw_u σ2 120 21 ((σ2 120 21) + (1 : Int32))) 120 21) - (1 : Int32)) n2 (aw_u σ2 120 21 ((σ2 120 21) + (1 : Int32))) τ2 θ2)))) ∧ (((σ1 120 21) = (3 : Int32)) → (SMi G 1 mX10_no 0 0 [.ref 120, .int (3 : Int32)] n1 σ1 τ1 θ1 (fun a3 n3 σ3 τ3 θ3 => aw_WT n3 θ3 ∧ (q a3 n3 σ3 τ3 θ3)))))) ∧ (((σ1 120 14) = 0) → (SMi G 1 mX10_no 0 0 [.ref 120, .int (1 : Int32)] n1 σ1 τ1 θ1 (fun a4 n4 σ4 τ4 θ4 => aw_WT n4 θ4 ∧ (q a4 n4 σ4 τ4 θ4))))))) : SW G k mX10_image (aw_qi q) 0 0 0 [some (.ref 120)] [] (n, σ, τ, θ) := by
  refine SW.aload_n dX10_image_0 rfl ?_
  refine SW.cvv0 kV_X10_154 (by omega) aw_cl10 kp_120 (by decide) (hW.le (by decide)) rfl (Nat.le_of_ble_eq_true rfl) dX10_image_1 (SMv.mono vc ?_)
  intro n1 σ1 τ1 θ1 vc
  obtain ⟨hW, vc⟩ := vc
  refine SW.aload_n dX10_image_4 rfl ?_
  refine SW.getI (f := 14) aw_cl10 kp_120 (by decide) (hW.le (by decide)) (by decide) ww_1256 dX10_image_5 rfl ?_
  refine SW.if_ne 17 dX10_image_8 (by decide) (fun hbr => ?_) (fun hbr => ?_)
  · replace vc := vc.1 hbr
    refine SW.aload_n dX10_image_17 rfl ?_
    refine SW.getI (f := 21) aw_cl10 kp_120 (by decide) (hW.le (by decide)) (by decide) ww_1263 dX10_image_18 rfl ?_
    refine SW.iconst (v := (3 : Int32)) dX10_image_21 (by decide) ?_
    refine SW.icmp_ne 31 dX10_image_22 (by decide) (fun hbr => ?_) (fun hbr => ?_)
    · replace vc := vc.1 hbr
      refine SW.aload_n dX10_image_31 rfl ?_
      refine SW.getS (f := 17) (r := 125) aw_cl10 kp_120 (by decide) (hW.le (by decide)) (by decide) ww_1259 dX10_image_32 rfl hW.t120_17 ?_
      refine SW.iconst (v := (0 : Int32)) dX10_image_35 (by decide) ?_
      refine SW.aload_n dX10_image_36 rfl ?_
      refine SW.getS (f := 19) (r := 127) aw_cl10 kp_120 (by decide) (hW.le (by decide)) (by decide) ww_1261 dX10_image_37 rfl hW.t120_19 ?_
      refine SW.bipush (v := (13 : Int32)) dX10_image_40 (by decide) ?_
      refine SW.aload_n dX10_image_42 rfl ?_
      refine SW.getI (f := 21) aw_cl10 kp_120 (by decide) (hW.le (by decide)) (by decide) ww_1263 dX10_image_43 rfl ?_
      refine SW.imul dX10_image_46 ?_
      refine SW.bipush (v := (13 : Int32)) dX10_image_47 (by decide) ?_
      refine SW.csv5 kS_X10_163 (by omega) (Nat.le_of_ble_eq_true rfl) dX10_image_49 (SMv.mono vc ?_)
      intro n2 σ2 τ2 θ2 vc
      obtain ⟨hW, vc⟩ := vc
      refine SW.aload_n dX10_image_52 rfl ?_
      refine SW.dup dX10_image_53 rfl ?_
      refine SW.getI (f := 21) aw_cl10 kp_120 (by decide) (hW.le (by decide)) (by decide) ww_1263 dX10_image_54 rfl ?_
      refine SW.iconst (v := (1 : Int32)) dX10_image_57 (by decide) ?_
      refine SW.iadd dX10_image_58 ?_
      refine SW.putI (f := 21) aw_cl10 kp_120 (by decide) (hW.le (by decide)) (by decide) ww_1263 (Or.inl rfl) dX10_image_59 rfl rfl rfl ?_
      refine SW.aload_n dX10_image_62 rfl ?_
      refine SW.getI (f := 21) aw_cl10 kp_120 (by decide) (hW.le (by decide)) (by decide) ww_1263 dX10_image_63 rfl ?_
      refine SW.iconst (v := (1 : Int32)) dX10_image_66 (by decide) ?_
      refine SW.isub dX10_image_67 ?_
      exact SW.iret dX10_image_68 rfl rfl ⟨_, rfl, vc⟩
    · replace vc := vc.2 hbr
      refine SW.aload_n dX10_image_25 rfl ?_
      refine SW.iconst (v := (3 : Int32)) dX10_image_26 (by decide) ?_
      refine SW.cvi1 kV_X10_157 (by omega) aw_cl10 kp_120 (by decide) (hW.le (by decide)) rfl (Nat.le_of_ble_eq_true rfl) dX10_image_27 (SMi.mono vc ?_)
      intro a3 n3 σ3 τ3 θ3 vc
      obtain ⟨hW, vc⟩ := vc
      exact SW.iret dX10_image_30 rfl rfl ⟨_, rfl, vc⟩
  · replace vc := vc.2 hbr
    refine SW.aload_n dX10_image_11 rfl ?_
    refine SW.iconst (v := (1 : Int32)) dX10_image_12 (by decide) ?_
    refine SW.cvi1 kV_X10_157 (by omega) aw_cl10 kp_120 (by decide) (hW.le (by decide)) rfl (Nat.le_of_ble_eq_true rfl) dX10_image_13 (SMi.mono vc ?_)
    intro a4 n4 σ4 τ4 θ4 vc
    obtain ⟨hW, vc⟩ := vc
    exact SW.iret dX10_image_16 rfl rfl ⟨_, rfl, vc⟩
theorem ctX10_image {G : GG} {q : Int32 → Nat → SG → TU → TH → Prop} {n : Nat} {σ : SG} {τ : TU} {θ : TH}  (h : SW G 2 mX10_image (aw_qi q) 0 0 0 [some (.ref 120)] [] (n, σ, τ, θ)) : SMi G 2 mX10_image 0 0 [.ref 120] n σ τ θ q := SM.of _ rfl rfl (Nat.le_of_ble_eq_true rfl) h
set_option maxHeartbeats 4000000 in
set_option maxRecDepth 20000 in
theorem sgX10_in_0 {G : GG} {k : Nat} {q : Int32 → Nat → SG → TU → TH → Prop} {n : Nat} {σ : SG} {τ : TU} {θ : TH}  (x0 : Int32) (x1 : Int32) (x2 : Int32) (hk : 1 ≤ k)  (hW : aw_WT n θ) (vc : ((x0 < x1) → (q (0 : Int32) n σ τ θ)) ∧ ((¬ x0 < x1) → (((x2 < x0) → (q (0 : Int32) n σ τ θ)) ∧ ((¬ x2 < x0) → (q (1 : Int32) n σ τ θ))))) : SW G k mX10_in (aw_qi q) 0 0 0 [some (.int x0), some (.int x1), some (.int x2)] [] (n, σ, τ, θ) := by
  refine SW.iload_n dX10_in_0 rfl ?_
  refine SW.iload_n dX10_in_1 rfl ?_
  refine SW.icmp_lt 14 dX10_in_2 (by decide) (fun hbr => ?_) (fun hbr => ?_)
  · replace vc := vc.1 hbr
    refine SW.iconst (v := (0 : Int32)) dX10_in_14 (by decide) ?_
    exact SW.iret dX10_in_15 rfl rfl ⟨_, rfl, vc⟩
  · replace vc := vc.2 hbr
    refine SW.iload_n dX10_in_5 rfl ?_
    refine SW.iload_n dX10_in_6 rfl ?_
    refine SW.icmp_gt 14 dX10_in_7 (by decide) (fun hbr => ?_) (fun hbr => ?_)
    · replace vc := vc.1 hbr
      refine SW.iconst (v := (0 : Int32)) dX10_in_14 (by decide) ?_
      exact SW.iret dX10_in_15 rfl rfl ⟨_, rfl, vc⟩
    · replace vc := vc.2 hbr
      refine SW.iconst (v := (1 : Int32)) dX10_in_10 (by decide) ?_
      refine SW.goto 15 dX10_in_11 (by decide) ?_
      exact SW.iret dX10_in_15 rfl rfl ⟨_, rfl, vc⟩
theorem ctX10_in {G : GG} {q : Int32 → Nat → SG → TU → TH → Prop} {n : Nat} {σ : SG} {τ : TU} {θ : TH} (x0 : Int32) (x1 : Int32) (x2 : Int32) (h : SW G 1 mX10_in (aw_qi q) 0 0 0 [some (.int x0), some (.int x1), some (.int x2)] [] (n, σ, τ, θ)) : SMi G 1 mX10_in 0 0 [.int x0, .int x1, .int x2] n σ τ θ q := SM.of _ rfl rfl (Nat.le_of_ble_eq_true rfl) h
