set_option maxHeartbeats 4000000 in
set_option maxRecDepth 20000 in
theorem sgX8_advance_0 {G : GG} {k : Nat} {q : Nat → SG → TU → TH → Prop} {n : Nat} {σ : SG} {τ : TU} {θ : TH}   (hk : 2 ≤ k)  (hW : aw_WT n θ) (vc : SW G k mX8_advance (aw_qv q) 0 0 8 [some (.ref 2), none] [] (n, (aw_u σ 2 9 (σ 2 10)), τ, θ)) : SW G k mX8_advance (aw_qv q) 0 0 0 [some (.ref 2), none] [] (n, σ, τ, θ) := by
  refine SW.aload_n dX8_advance_0 rfl ?_
  refine SW.aload_n dX8_advance_1 rfl ?_
  refine SW.getI (f := 10) aw_cl8 kp_2 (by decide) (hW.le (by decide)) (by decide) ww_158 dX8_advance_2 rfl ?_
  refine SW.putI (f := 9) aw_cl8 kp_2 (by decide) (hW.le (by decide)) (by decide) ww_157 (Or.inl rfl) dX8_advance_5 rfl rfl rfl ?_
  exact vc
set_option maxHeartbeats 4000000 in
set_option maxRecDepth 20000 in
theorem sgX8_advance_8 {G : GG} {k : Nat} {q : Nat → SG → TU → TH → Prop} {n : Nat} {σ : SG} {τ : TU} {θ : TH}   (hk : 2 ≤ k)  (hW : aw_WT n θ) (vc : (((σ 2 7) ≤ (σ 2 9)) → ((((σ 2 9) < (σ 2 7)) → (vp_in (σ 2 9) 900 ∧ ((((σ 3 (σ 2 9).toNatClampNeg) < (97 : Int32)) → ((((σ 3 (σ 2 9).toNatClampNeg) < (48 : Int32)) → (((¬ (σ 3 (σ 2 9).toNatClampNeg) = (59 : Int32)) → (q n (aw_u (aw_u σ 2 10 ((σ 2 9) + (1 : Int32))) 2 8 (4 : Int32)) τ θ)) ∧ (((σ 3 (σ 2 9).toNatClampNeg) = (59 : Int32)) → (q n (aw_u (aw_u σ 2 10 ((σ 2 9) + (1 : Int32))) 2 8 (3 : Int32)) τ θ)))) ∧ ((¬ (σ 3 (σ 2 9).toNatClampNeg) < (48 : Int32)) → ((((57 : Int32) < (σ 3 (σ 2 9).toNatClampNeg)) → (((¬ (σ 3 (σ 2 9).toNatClampNeg) = (59 : Int32)) → (q n (aw_u (aw_u σ 2 10 ((σ 2 9) + (1 : Int32))) 2 8 (4 : Int32)) τ θ)) ∧ (((σ 3 (σ 2 9).toNatClampNeg) = (59 : Int32)) → (q n (aw_u (aw_u σ 2 10 ((σ 2 9) + (1 : Int32))) 2 8 (3 : Int32)) τ θ)))) ∧ ((¬ (57 : Int32) < (σ 3 (σ 2 9).toNatClampNeg)) → (SMi G 1 mX8_runEnd 0 0 [.ref 2, .int (48 : Int32), .int (57 : Int32)] n σ τ θ (fun a1 n1 σ1 τ1 θ1 => aw_WT n1 θ1 ∧ ((((3 : Int32) < (((aw_u σ1 2 10 a1) 2 10) - ((aw_u σ1 2 10 a1) 2 9))) → (q n1 (aw_u (aw_u σ1 2 10 a1) 2 8 (4 : Int32)) τ1 θ1)) ∧ ((¬ (3 : Int32) < (((aw_u σ1 2 10 a1) 2 10) - ((aw_u σ1 2 10 a1) 2 9))) → (q n1 (aw_u (aw_u σ1 2 10 a1) 2 8 (2 : Int32)) τ1 θ1)))))))))) ∧ ((¬ (σ 3 (σ 2 9).toNatClampNeg) < (97 : Int32)) → ((((122 : Int32) < (σ 3 (σ 2 9).toNatClampNeg)) → ((((σ 3 (σ 2 9).toNatClampNeg) < (48 : Int32)) → (((¬ (σ 3 (σ 2 9).toNatClampNeg) = (59 : Int32)) → (q n (aw_u (aw_u σ 2 10 ((σ 2 9) + (1 : Int32))) 2 8 (4 : Int32)) τ θ)) ∧ (((σ 3 (σ 2 9).toNatClampNeg) = (59 : Int32)) → (q n (aw_u (aw_u σ 2 10 ((σ 2 9) + (1 : Int32))) 2 8 (3 : Int32)) τ θ)))) ∧ ((¬ (σ 3 (σ 2 9).toNatClampNeg) < (48 : Int32)) → ((((57 : Int32) < (σ 3 (σ 2 9).toNatClampNeg)) → (((¬ (σ 3 (σ 2 9).toNatClampNeg) = (59 : Int32)) → (q n (aw_u (aw_u σ 2 10 ((σ 2 9) + (1 : Int32))) 2 8 (4 : Int32)) τ θ)) ∧ (((σ 3 (σ 2 9).toNatClampNeg) = (59 : Int32)) → (q n (aw_u (aw_u σ 2 10 ((σ 2 9) + (1 : Int32))) 2 8 (3 : Int32)) τ θ)))) ∧ ((¬ (57 : Int32) < (σ 3 (σ 2 9).toNatClampNeg)) → (SMi G 1 mX8_runEnd 0 0 [.ref 2, .int (48 : Int32), .int (57 : Int32)] n σ τ θ (fun a2 n2 σ2 τ2 θ2 => aw_WT n2 θ2 ∧ ((((3 : Int32) < (((aw_u σ2 2 10 a2) 2 10) - ((aw_u σ2 2 10 a2) 2 9))) → (q n2 (aw_u (aw_u σ2 2 10 a2) 2 8 (4 : Int32)) τ2 θ2)) ∧ ((¬ (3 : Int32) < (((aw_u σ2 2 10 a2) 2 10) - ((aw_u σ2 2 10 a2) 2 9))) → (q n2 (aw_u (aw_u σ2 2 10 a2) 2 8 (2 : Int32)) τ2 θ2)))))))))) ∧ ((¬ (122 : Int32) < (σ 3 (σ 2 9).toNatClampNeg)) → (SMi G 1 mX8_runEnd 0 0 [.ref 2, .int (97 : Int32), .int (122 : Int32)] n σ τ θ (fun a3 n3 σ3 τ3 θ3 => aw_WT n3 θ3 ∧ ((((8 : Int32) < (((aw_u σ3 2 10 a3) 2 10) - ((aw_u σ3 2 10 a3) 2 9))) → (q n3 (aw_u (aw_u σ3 2 10 a3) 2 8 (4 : Int32)) τ3 θ3)) ∧ ((¬ (8 : Int32) < (((aw_u σ3 2 10 a3) 2 10) - ((aw_u σ3 2 10 a3) 2 9))) → (q n3 (aw_u (aw_u σ3 2 10 a3) 2 8 (1 : Int32)) τ3 θ3))))))))))) ∧ ((¬ (σ 2 9) < (σ 2 7)) → (q n (aw_u (aw_u σ 2 10 (σ 2 7)) 2 8 (0 : Int32)) τ θ)))) ∧ ((¬ (σ 2 7) ≤ (σ 2 9)) → (vp_in (σ 2 9) 900 ∧ (((¬ (σ 3 (σ 2 9).toNatClampNeg) = (32 : Int32)) → ((((σ 2 9) < (σ 2 7)) → (vp_in (σ 2 9) 900 ∧ ((((σ 3 (σ 2 9).toNatClampNeg) < (97 : Int32)) → ((((σ 3 (σ 2 9).toNatClampNeg) < (48 : Int32)) → (((¬ (σ 3 (σ 2 9).toNatClampNeg) = (59 : Int32)) → (q n (aw_u (aw_u σ 2 10 ((σ 2 9) + (1 : Int32))) 2 8 (4 : Int32)) τ θ)) ∧ (((σ 3 (σ 2 9).toNatClampNeg) = (59 : Int32)) → (q n (aw_u (aw_u σ 2 10 ((σ 2 9) + (1 : Int32))) 2 8 (3 : Int32)) τ θ)))) ∧ ((¬ (σ 3 (σ 2 9).toNatClampNeg) < (48 : Int32)) → ((((57 : Int32) < (σ 3 (σ 2 9).toNatClampNeg)) → (((¬ (σ 3 (σ 2 9).toNatClampNeg) = (59 : Int32)) → (q n (aw_u (aw_u σ 2 10 ((σ 2 9) + (1 : Int32))) 2 8 (4 : Int32)) τ θ)) ∧ (((σ 3 (σ 2 9).toNatClampNeg) = (59 : Int32)) → (q n (aw_u (aw_u σ 2 10 ((σ 2 9) + (1 : Int32))) 2 8 (3 : Int32)) τ θ)))) ∧ ((¬ (57 : Int32) < (σ 3 (σ 2 9).toNatClampNeg)) → (SMi G 1 mX8_runEnd 0 0 [.ref 2, .int (48 : Int32), .int (57 : Int32)] n σ τ θ (fun a4 n4 σ4 τ4 θ4 => aw_WT n4 θ4 ∧ ((((3 : Int32) < (((aw_u σ4 2 10 a4) 2 10) - ((aw_u σ4 2 10 a4) 2 9))) → (q n4 (aw_u (aw_u σ4 2 10 a4) 2 8 (4 : Int32)) τ4 θ4)) ∧ ((¬ (3 : Int32) < (((aw_u σ4 2 10 a4) 2 10) - ((aw_u σ4 2 10 a4) 2 9))) → (q n4 (aw_u (aw_u σ4 2 10 a4) 2 8 (2 : Int32)) τ4 θ4)))))))))) ∧ ((¬ (σ 3 (σ 2 9).toNatClampNeg) < (97 : Int32)) → ((((122 : Int32) < (σ 3 (σ 2 9).toNatClampNeg)) → ((((σ 3 (σ 2 9).toNatClampNeg) < (48 : Int32)) → (((¬ (σ 3 (σ 2 9).toNatClampNeg) = (59 : Int32)) → (q n (aw_u (aw_u σ 2 10 ((σ 2 9) + (1 : Int32))) 2 8 (4 : Int32)) τ θ)) ∧ (((σ 3 (σ 2 9).toNatClampNeg) = (59 : Int32)) → (q n (aw_u (aw_u σ 2 10 ((σ 2 9) + (1 : Int32))) 2 8 (3 : Int32)) τ θ)))) ∧ ((¬ (σ 3 (σ 2 9).toNatClampNeg) < (48 : Int32)) → ((((57 : Int32) < (σ 3 (σ 2 9).toNatClampNeg)) → (((¬ (σ 3 (σ 2 9).toNatClampNeg) = (59 : Int32)) → (q n (aw_u (aw_u σ 2 10 ((σ 2 9) + (1 : Int32))) 2 8 (4 : Int32)) τ θ)) ∧ (((σ 3 (σ 2 9).toNatClampNeg) = (59 : Int32)) → (q n (aw_u (aw_u σ 2 10 ((σ 2 9) + (1 : Int32))) 2 8 (3 : Int32)) τ θ)))) ∧ ((¬ (57 : Int32) < (σ 3 (σ 2 9).toNatClampNeg)) → (SMi G 1 mX8_runEnd 0 0 [.ref 2, .int (48 : Int32), .int (57 : Int32)] n σ τ θ (fun a5 n5 σ5 τ5 θ5 => aw_WT n5 θ5 ∧ ((((3 : Int32) < (((aw_u σ5 2 10 a5) 2 10) - ((aw_u σ5 2 10 a5) 2 9))) → (q n5 (aw_u (aw_u σ5 2 10 a5) 2 8 (4 : Int32)) τ5 θ5)) ∧ ((¬ (3 : Int32) < (((aw_u σ5 2 10 a5) 2 10) - ((aw_u σ5 2 10 a5) 2 9))) → (q n5 (aw_u (aw_u σ5 2 10 a5) 2 8 (2 : Int32)) τ5 θ5)))))))))) ∧ ((¬ (122 : Int32) < (σ 3 (σ 2 9).toNatClampNeg)) → (SMi G 1 mX8_runEnd 0 0 [.ref 2, .int (97 : Int32), .int (122 : Int32)] n σ τ θ (fun a6 n6 σ6 τ6 θ6 => aw_WT n6 θ6 ∧ ((((8 : Int32) < (((aw_u σ6 2 10 a6) 2 10) - ((aw_u σ6 2 10 a6) 2 9))) → (q n6 (aw_u (aw_u σ6 2 10 a6) 2 8 (4 : Int32)) τ6 θ6)) ∧ ((¬ (8 : Int32) < (((aw_u σ6 2 10 a6) 2 10) - ((aw_u σ6 2 10 a6) 2 9))) → (q n6 (aw_u (aw_u σ6 2 10 a6) 2 8 (1 : Int32)) τ6 θ6))))))))))) ∧ ((¬ (σ 2 9) < (σ 2 7)) → (q n (aw_u (aw_u σ 2 10 (σ 2 7)) 2 8 (0 : Int32)) τ θ)))) ∧ (((σ 3 (σ 2 9).toNatClampNeg) = (32 : Int32)) → (SW G k mX8_advance (aw_qv q) 0 0 8 [some (.ref 2), none] [] (n, (aw_u σ 2 9 ((σ 2 9) + (1 : Int32))), τ, θ))))))) : SW G k mX8_advance (aw_qv q) 0 0 8 [some (.ref 2), none] [] (n, σ, τ, θ) := by
  refine SW.aload_n dX8_advance_8 rfl ?_
  refine SW.getI (f := 9) aw_cl8 kp_2 (by decide) (hW.le (by decide)) (by decide) ww_157 dX8_advance_9 rfl ?_
  refine SW.aload_n dX8_advance_12 rfl ?_
  refine SW.getI (f := 7) aw_cl8 kp_2 (by decide) (hW.le (by decide)) (by decide) ww_155 dX8_advance_13 rfl ?_
  refine SW.icmp_ge 46 dX8_advance_16 (by decide) (fun hbr => ?_) (fun hbr => ?_)
  · replace vc := vc.1 hbr
    refine SW.aload_n dX8_advance_46 rfl ?_
    refine SW.getI (f := 9) aw_cl8 kp_2 (by decide) (hW.le (by decide)) (by decide) ww_157 dX8_advance_47 rfl ?_
    refine SW.aload_n dX8_advance_50 rfl ?_
    refine SW.getI (f := 7) aw_cl8 kp_2 (by decide) (hW.le (by decide)) (by decide) ww_155 dX8_advance_51 rfl ?_
    refine SW.icmp_lt 71 dX8_advance_54 (by decide) (fun hbr => ?_) (fun hbr => ?_)
    · replace vc := vc.1 hbr
      refine SW.aload_n dX8_advance_71 rfl ?_
      refine SW.getS (f := 2) (r := 3) aw_cl8 kp_2 (by decide) (hW.le (by decide)) (by decide) ww_150 dX8_advance_72 rfl hW.t2_2 ?_
      refine SW.aload_n dX8_advance_75 rfl ?_
      refine SW.getI (f := 9) aw_cl8 kp_2 (by decide) (hW.le (by decide)) (by decide) ww_157 dX8_advance_76 rfl ?_
      refine SW.bald kp_3 (by decide) (hW.le (by decide)) vc.1 dX8_advance_79 ?_
      replace vc := vc.2
      refine SW.istore_n dX8_advance_80 (by decide) rfl rfl ?_
      refine SW.iload_n dX8_advance_81 rfl ?_
      refine SW.bipush (v := (97 : Int32)) dX8_advance_82 (by decide) ?_
      refine SW.icmp_lt 131 dX8_advance_84 (by decide) (fun hbr => ?_) (fun hbr => ?_)
      · replace vc := vc.1 hbr
        refine SW.iload_n dX8_advance_131 rfl ?_
        refine SW.bipush (v := (48 : Int32)) dX8_advance_132 (by decide) ?_
        refine SW.icmp_lt 180 dX8_advance_134 (by decide) (fun hbr => ?_) (fun hbr => ?_)
        · replace vc := vc.1 hbr
          refine SW.aload_n dX8_advance_180 rfl ?_
          refine SW.aload_n dX8_advance_181 rfl ?_
          refine SW.getI (f := 9) aw_cl8 kp_2 (by decide) (hW.le (by decide)) (by decide) ww_157 dX8_advance_182 rfl ?_
          refine SW.iconst (v := (1 : Int32)) dX8_advance_185 (by decide) ?_
          refine SW.iadd dX8_advance_186 ?_
          refine SW.putI (f := 10) aw_cl8 kp_2 (by decide) (hW.le (by decide)) (by decide) ww_158 (Or.inl rfl) dX8_advance_187 rfl rfl rfl ?_
          refine SW.aload_n dX8_advance_190 rfl ?_
          refine SW.iload_n dX8_advance_191 rfl ?_
          refine SW.bipush (v := (59 : Int32)) dX8_advance_192 (by decide) ?_
          refine SW.icmp_ne 201 dX8_advance_194 (by decide) (fun hbr => ?_) (fun hbr => ?_)
          · replace vc := vc.1 hbr
            refine SW.iconst (v := (4 : Int32)) dX8_advance_201 (by decide) ?_
            refine SW.putI (f := 8) aw_cl8 kp_2 (by decide) (hW.le (by decide)) (by decide) ww_156 (Or.inl rfl) dX8_advance_202 rfl rfl rfl ?_
            exact SW.vret dX8_advance_205 rfl ⟨rfl, vc⟩
          · replace vc := vc.2 hbr
            refine SW.iconst (v := (3 : Int32)) dX8_advance_197 (by decide) ?_
            refine SW.goto 202 dX8_advance_198 (by decide) ?_
            refine SW.putI (f := 8) aw_cl8 kp_2 (by decide) (hW.le (by decide)) (by decide) ww_156 (Or.inl rfl) dX8_advance_202 rfl rfl rfl ?_
            exact SW.vret dX8_advance_205 rfl ⟨rfl, vc⟩
        · replace vc := vc.2 hbr
          refine SW.iload_n dX8_advance_137 rfl ?_
          refine SW.bipush (v := (57 : Int32)) dX8_advance_138 (by decide) ?_
          refine SW.icmp_gt 180 dX8_advance_140 (by decide) (fun hbr => ?_) (fun hbr => ?_)
          · replace vc := vc.1 hbr
            refine SW.aload_n dX8_advance_180 rfl ?_
            refine SW.aload_n dX8_advance_181 rfl ?_
            refine SW.getI (f := 9) aw_cl8 kp_2 (by decide) (hW.le (by decide)) (by decide) ww_157 dX8_advance_182 rfl ?_
            refine SW.iconst (v := (1 : Int32)) dX8_advance_185 (by decide) ?_
            refine SW.iadd dX8_advance_186 ?_
            refine SW.putI (f := 10) aw_cl8 kp_2 (by decide) (hW.le (by decide)) (by decide) ww_158 (Or.inl rfl) dX8_advance_187 rfl rfl rfl ?_
            refine SW.aload_n dX8_advance_190 rfl ?_
            refine SW.iload_n dX8_advance_191 rfl ?_
            refine SW.bipush (v := (59 : Int32)) dX8_advance_192 (by decide) ?_
            refine SW.icmp_ne 201 dX8_advance_194 (by decide) (fun hbr => ?_) (fun hbr => ?_)
            · replace vc := vc.1 hbr
              refine SW.iconst (v := (4 : Int32)) dX8_advance_201 (by decide) ?_
              refine SW.putI (f := 8) aw_cl8 kp_2 (by decide) (hW.le (by decide)) (by decide) ww_156 (Or.inl rfl) dX8_advance_202 rfl rfl rfl ?_
              exact SW.vret dX8_advance_205 rfl ⟨rfl, vc⟩
            · replace vc := vc.2 hbr
              refine SW.iconst (v := (3 : Int32)) dX8_advance_197 (by decide) ?_
              refine SW.goto 202 dX8_advance_198 (by decide) ?_
              refine SW.putI (f := 8) aw_cl8 kp_2 (by decide) (hW.le (by decide)) (by decide) ww_156 (Or.inl rfl) dX8_advance_202 rfl rfl rfl ?_
              exact SW.vret dX8_advance_205 rfl ⟨rfl, vc⟩
          · replace vc := vc.2 hbr
            refine SW.aload_n dX8_advance_143 rfl ?_
            refine SW.aload_n dX8_advance_144 rfl ?_
            refine SW.bipush (v := (48 : Int32)) dX8_advance_145 (by decide) ?_
            refine SW.bipush (v := (57 : Int32)) dX8_advance_147 (by decide) ?_
            refine SW.cvi2 kV_X8_241 (by omega) aw_cl8 kp_2 (by decide) (hW.le (by decide)) rfl (Nat.le_of_ble_eq_true rfl) dX8_advance_149 (SMi.mono vc ?_)
            intro a1 n1 σ1 τ1 θ1 vc
            obtain ⟨hW, vc⟩ := vc
            refine SW.putI (f := 10) aw_cl8 kp_2 (by decide) (hW.le (by decide)) (by decide) ww_158 (Or.inl rfl) dX8_advance_152 rfl rfl rfl ?_
            refine SW.aload_n dX8_advance_155 rfl ?_
            refine SW.aload_n dX8_advance_156 rfl ?_
            refine SW.getI (f := 10) aw_cl8 kp_2 (by decide) (hW.le (by decide)) (by decide) ww_158 dX8_advance_157 rfl ?_
            refine SW.aload_n dX8_advance_160 rfl ?_
            refine SW.getI (f := 9) aw_cl8 kp_2 (by decide) (hW.le (by decide)) (by decide) ww_157 dX8_advance_161 rfl ?_
            refine SW.isub dX8_advance_164 ?_
            refine SW.iconst (v := (3 : Int32)) dX8_advance_165 (by decide) ?_
            refine SW.icmp_gt 173 dX8_advance_166 (by decide) (fun hbr => ?_) (fun hbr => ?_)
            · replace vc := vc.1 hbr
              refine SW.iconst (v := (4 : Int32)) dX8_advance_173 (by decide) ?_
              refine SW.putI (f := 8) aw_cl8 kp_2 (by decide) (hW.le (by decide)) (by decide) ww_156 (Or.inl rfl) dX8_advance_174 rfl rfl rfl ?_
              refine SW.goto 205 dX8_advance_177 (by decide) ?_
              exact SW.vret dX8_advance_205 rfl ⟨rfl, vc⟩
            · replace vc := vc.2 hbr
              refine SW.iconst (v := (2 : Int32)) dX8_advance_169 (by decide) ?_
              refine SW.goto 174 dX8_advance_170 (by decide) ?_
              refine SW.putI (f := 8) aw_cl8 kp_2 (by decide) (hW.le (by decide)) (by decide) ww_156 (Or.inl rfl) dX8_advance_174 rfl rfl rfl ?_
              refine SW.goto 205 dX8_advance_177 (by decide) ?_
              exact SW.vret dX8_advance_205 rfl ⟨rfl, vc⟩
      · replace vc := vc.2 hbr
        refine SW.iload_n dX8_advance_87 rfl ?_
        refine SW.bipush (v := (122 : Int32)) dX8_advance_88 (by decide) ?_
        refine SW.icmp_gt 131 dX8_advance_90 (by decide) (fun hbr => ?_) (fun hbr => ?_)
        · replace vc := vc.1 hbr
          refine SW.iload_n dX8_advance_131 rfl ?_
          refine SW.bipush (v := (48 : Int32)) dX8_advance_132 (by decide) ?_
          refine SW.icmp_lt 180 dX8_advance_134 (by decide) (fun hbr => ?_) (fun hbr => ?_)
          · replace vc := vc.1 hbr
            refine SW.aload_n dX8_advance_180 rfl ?_
            refine SW.aload_n dX8_advance_181 rfl ?_
            refine SW.getI (f := 9) aw_cl8 kp_2 (by decide) (hW.le (by decide)) (by decide) ww_157 dX8_advance_182 rfl ?_
            refine SW.iconst (v := (1 : Int32)) dX8_advance_185 (by decide) ?_
            refine SW.iadd dX8_advance_186 ?_
            refine SW.putI (f := 10) aw_cl8 kp_2 (by decide) (hW.le (by decide)) (by decide) ww_158 (Or.inl rfl) dX8_advance_187 rfl rfl rfl ?_
            refine SW.aload_n dX8_advance_190 rfl ?_
            refine SW.iload_n dX8_advance_191 rfl ?_
            refine SW.bipush (v := (59 : Int32)) dX8_advance_192 (by decide) ?_
            refine SW.icmp_ne 201 dX8_advance_194 (by decide) (fun hbr => ?_) (fun hbr => ?_)
            · replace vc := vc.1 hbr
              refine SW.iconst (v := (4 : Int32)) dX8_advance_201 (by decide) ?_
              refine SW.putI (f := 8) aw_cl8 kp_2 (by decide) (hW.le (by decide)) (by decide) ww_156 (Or.inl rfl) dX8_advance_202 rfl rfl rfl ?_
              exact SW.vret dX8_advance_205 rfl ⟨rfl, vc⟩
            · replace vc := vc.2 hbr
              refine SW.iconst (v := (3 : Int32)) dX8_advance_197 (by decide) ?_
              refine SW.goto 202 dX8_advance_198 (by decide) ?_
              refine SW.putI (f := 8) aw_cl8 kp_2 (by decide) (hW.le (by decide)) (by decide) ww_156 (Or.inl rfl) dX8_advance_202 rfl rfl rfl ?_
              exact SW.vret dX8_advance_205 rfl ⟨rfl, vc⟩
          · replace vc := vc.2 hbr
            refine SW.iload_n dX8_advance_137 rfl ?_
            refine SW.bipush (v := (57 : Int32)) dX8_advance_138 (by decide) ?_
            refine SW.icmp_gt 180 dX8_advance_140 (by decide) (fun hbr => ?_) (fun hbr => ?_)
            · replace vc := vc.1 hbr
              refine SW.aload_n dX8_advance_180 rfl ?_
              refine SW.aload_n dX8_advance_181 rfl ?_
              refine SW.getI (f := 9) aw_cl8 kp_2 (by decide) (hW.le (by decide)) (by decide) ww_157 dX8_advance_182 rfl ?_
              refine SW.iconst (v := (1 : Int32)) dX8_advance_185 (by decide) ?_
              refine SW.iadd dX8_advance_186 ?_
              refine SW.putI (f := 10) aw_cl8 kp_2 (by decide) (hW.le (by decide)) (by decide) ww_158 (Or.inl rfl) dX8_advance_187 rfl rfl rfl ?_
              refine SW.aload_n dX8_advance_190 rfl ?_
              refine SW.iload_n dX8_advance_191 rfl ?_
              refine SW.bipush (v := (59 : Int32)) dX8_advance_192 (by decide) ?_
              refine SW.icmp_ne 201 dX8_advance_194 (by decide) (fun hbr => ?_) (fun hbr => ?_)
              · replace vc := vc.1 hbr
                refine SW.iconst (v := (4 : Int32)) dX8_advance_201 (by decide) ?_
                refine SW.putI (f := 8) aw_cl8 kp_2 (by decide) (hW.le (by decide)) (by decide) ww_156 (Or.inl rfl) dX8_advance_202 rfl rfl rfl ?_
                exact SW.vret dX8_advance_205 rfl ⟨rfl, vc⟩
              · replace vc := vc.2 hbr
                refine SW.iconst (v := (3 : Int32)) dX8_advance_197 (by decide) ?_
                refine SW.goto 202 dX8_advance_198 (by decide) ?_
                refine SW.putI (f := 8) aw_cl8 kp_2 (by decide) (hW.le (by decide)) (by decide) ww_156 (Or.inl rfl) dX8_advance_202 rfl rfl rfl ?_
                exact SW.vret dX8_advance_205 rfl ⟨rfl, vc⟩
            · replace vc := vc.2 hbr
              refine SW.aload_n dX8_advance_143 rfl ?_
              refine SW.aload_n dX8_advance_144 rfl ?_
              refine SW.bipush (v := (48 : Int32)) dX8_advance_145 (by decide) ?_
              refine SW.bipush (v := (57 : Int32)) dX8_advance_147 (by decide) ?_
              refine SW.cvi2 kV_X8_241 (by omega) aw_cl8 kp_2 (by decide) (hW.le (by decide)) rfl (Nat.le_of_ble_eq_true rfl) dX8_advance_149 (SMi.mono vc ?_)
              intro a2 n2 σ2 τ2 θ2 vc
              obtain ⟨hW, vc⟩ := vc
              refine SW.putI (f := 10) aw_cl8 kp_2 (by decide) (hW.le (by decide)) (by decide) ww_158 (Or.inl rfl) dX8_advance_152 rfl rfl rfl ?_
              refine SW.aload_n dX8_advance_155 rfl ?_
              refine SW.aload_n dX8_advance_156 rfl ?_
              refine SW.getI (f := 10) aw_cl8 kp_2 (by decide) (hW.le (by decide)) (by decide) ww_158 dX8_advance_157 rfl ?_
              refine SW.aload_n dX8_advance_160 rfl ?_
              refine SW.getI (f := 9) aw_cl8 kp_2 (by decide) (hW.le (by decide)) (by decide) ww_157 dX8_advance_161 rfl ?_
              refine SW.isub dX8_advance_164 ?_
              refine SW.iconst (v := (3 : Int32)) dX8_advance_165 (by decide) ?_
              refine SW.icmp_gt 173 dX8_advance_166 (by decide) (fun hbr => ?_) (fun hbr => ?_)
              · replace vc := vc.1 hbr
                refine SW.iconst (v := (4 : Int32)) dX8_advance_173 (by decide) ?_
                refine SW.putI (f := 8) aw_cl8 kp_2 (by decide) (hW.le (by decide)) (by decide) ww_156 (Or.inl rfl) dX8_advance_174 rfl rfl rfl ?_
                refine SW.goto 205 dX8_advance_177 (by decide) ?_
                exact SW.vret dX8_advance_205 rfl ⟨rfl, vc⟩
              · replace vc := vc.2 hbr
                refine SW.iconst (v := (2 : Int32)) dX8_advance_169 (by decide) ?_
                refine SW.goto 174 dX8_advance_170 (by decide) ?_
                refine SW.putI (f := 8) aw_cl8 kp_2 (by decide) (hW.le (by decide)) (by decide) ww_156 (Or.inl rfl) dX8_advance_174 rfl rfl rfl ?_
                refine SW.goto 205 dX8_advance_177 (by decide) ?_
                exact SW.vret dX8_advance_205 rfl ⟨rfl, vc⟩
        · replace vc := vc.2 hbr
          refine SW.aload_n dX8_advance_93 rfl ?_
          refine SW.aload_n dX8_advance_94 rfl ?_
          refine SW.bipush (v := (97 : Int32)) dX8_advance_95 (by decide) ?_
          refine SW.bipush (v := (122 : Int32)) dX8_advance_97 (by decide) ?_
          refine SW.cvi2 kV_X8_241 (by omega) aw_cl8 kp_2 (by decide) (hW.le (by decide)) rfl (Nat.le_of_ble_eq_true rfl) dX8_advance_99 (SMi.mono vc ?_)
          intro a3 n3 σ3 τ3 θ3 vc
          obtain ⟨hW, vc⟩ := vc
          refine SW.putI (f := 10) aw_cl8 kp_2 (by decide) (hW.le (by decide)) (by decide) ww_158 (Or.inl rfl) dX8_advance_102 rfl rfl rfl ?_
          refine SW.aload_n dX8_advance_105 rfl ?_
          refine SW.aload_n dX8_advance_106 rfl ?_
          refine SW.getI (f := 10) aw_cl8 kp_2 (by decide) (hW.le (by decide)) (by decide) ww_158 dX8_advance_107 rfl ?_
          refine SW.aload_n dX8_advance_110 rfl ?_
          refine SW.getI (f := 9) aw_cl8 kp_2 (by decide) (hW.le (by decide)) (by decide) ww_157 dX8_advance_111 rfl ?_
          refine SW.isub dX8_advance_114 ?_
          refine SW.bipush (v := (8 : Int32)) dX8_advance_115 (by decide) ?_
          refine SW.icmp_gt 124 dX8_advance_117 (by decide) (fun hbr => ?_) (fun hbr => ?_)
          · replace vc := vc.1 hbr
            refine SW.iconst (v := (4 : Int32)) dX8_advance_124 (by decide) ?_
            refine SW.putI (f := 8) aw_cl8 kp_2 (by decide) (hW.le (by decide)) (by decide) ww_156 (Or.inl rfl) dX8_advance_125 rfl rfl rfl ?_
            refine SW.goto 205 dX8_advance_128 (by decide) ?_
            exact SW.vret dX8_advance_205 rfl ⟨rfl, vc⟩
          · replace vc := vc.2 hbr
            refine SW.iconst (v := (1 : Int32)) dX8_advance_120 (by decide) ?_
            refine SW.goto 125 dX8_advance_121 (by decide) ?_
            refine SW.putI (f := 8) aw_cl8 kp_2 (by decide) (hW.le (by decide)) (by decide) ww_156 (Or.inl rfl) dX8_advance_125 rfl rfl rfl ?_
            refine SW.goto 205 dX8_advance_128 (by decide) ?_
            exact SW.vret dX8_advance_205 rfl ⟨rfl, vc⟩
    · replace vc := vc.2 hbr
      refine SW.aload_n dX8_advance_57 rfl ?_
      refine SW.aload_n dX8_advance_58 rfl ?_
      refine SW.getI (f := 7) aw_cl8 kp_2 (by decide) (hW.le (by decide)) (by decide) ww_155 dX8_advance_59 rfl ?_
      refine SW.putI (f := 10) aw_cl8 kp_2 (by decide) (hW.le (by decide)) (by decide) ww_158 (Or.inl rfl) dX8_advance_62 rfl rfl rfl ?_
      refine SW.aload_n dX8_advance_65 rfl ?_
      refine SW.iconst (v := (0 : Int32)) dX8_advance_66 (by decide) ?_
      refine SW.putI (f := 8) aw_cl8 kp_2 (by decide) (hW.le (by decide)) (by decide) ww_156 (Or.inl rfl) dX8_advance_67 rfl rfl rfl ?_
      exact SW.vret dX8_advance_70 rfl ⟨rfl, vc⟩
  · replace vc := vc.2 hbr
    refine SW.aload_n dX8_advance_19 rfl ?_
    refine SW.getS (f := 2) (r := 3) aw_cl8 kp_2 (by decide) (hW.le (by decide)) (by decide) ww_150 dX8_advance_20 rfl hW.t2_2 ?_
    refine SW.aload_n dX8_advance_23 rfl ?_
    refine SW.getI (f := 9) aw_cl8 kp_2 (by decide) (hW.le (by decide)) (by decide) ww_157 dX8_advance_24 rfl ?_
    refine SW.bald kp_3 (by decide) (hW.le (by decide)) vc.1 dX8_advance_27 ?_
    replace vc := vc.2
    refine SW.bipush (v := (32 : Int32)) dX8_advance_28 (by decide) ?_
    refine SW.icmp_ne 46 dX8_advance_30 (by decide) (fun hbr => ?_) (fun hbr => ?_)
    · replace vc := vc.1 hbr
      refine SW.aload_n dX8_advance_46 rfl ?_
      refine SW.getI (f := 9) aw_cl8 kp_2 (by decide) (hW.le (by decide)) (by decide) ww_157 dX8_advance_47 rfl ?_
      refine SW.aload_n dX8_advance_50 rfl ?_
      refine SW.getI (f := 7) aw_cl8 kp_2 (by decide) (hW.le (by decide)) (by decide) ww_155 dX8_advance_51 rfl ?_
      refine SW.icmp_lt 71 dX8_advance_54 (by decide) (fun hbr => ?_) (fun hbr => ?_)
      · replace vc := vc.1 hbr
        refine SW.aload_n dX8_advance_71 rfl ?_
        refine SW.getS (f := 2) (r := 3) aw_cl8 kp_2 (by decide) (hW.le (by decide)) (by decide) ww_150 dX8_advance_72 rfl hW.t2_2 ?_
        refine SW.aload_n dX8_advance_75 rfl ?_
        refine SW.getI (f := 9) aw_cl8 kp_2 (by decide) (hW.le (by decide)) (by decide) ww_157 dX8_advance_76 rfl ?_
        refine SW.bald kp_3 (by decide) (hW.le (by decide)) vc.1 dX8_advance_79 ?_
        replace vc := vc.2
        refine SW.istore_n dX8_advance_80 (by decide) rfl rfl ?_
        refine SW.iload_n dX8_advance_81 rfl ?_
        refine SW.bipush (v := (97 : Int32)) dX8_advance_82 (by decide) ?_
        refine SW.icmp_lt 131 dX8_advance_84 (by decide) (fun hbr => ?_) (fun hbr => ?_)
        · replace vc := vc.1 hbr
          refine SW.iload_n dX8_advance_131 rfl ?_
          refine SW.bipush (v := (48 : Int32)) dX8_advance_132 (by decide) ?_
          refine SW.icmp_lt 180 dX8_advance_134 (by decide) (fun hbr => ?_) (fun hbr => ?_)
          · replace vc := vc.1 hbr
            refine SW.aload_n dX8_advance_180 rfl ?_
            refine SW.aload_n dX8_advance_181 rfl ?_
            refine SW.getI (f := 9) aw_cl8 kp_2 (by decide) (hW.le (by decide)) (by decide) ww_157 dX8_advance_182 rfl ?_
            refine SW.iconst (v := (1 : Int32)) dX8_advance_185 (by decide) ?_
            refine SW.iadd dX8_advance_186 ?_
            refine SW.putI (f := 10) aw_cl8 kp_2 (by decide) (hW.le (by decide)) (by decide) ww_158 (Or.inl rfl) dX8_advance_187 rfl rfl rfl ?_
            refine SW.aload_n dX8_advance_190 rfl ?_
            refine SW.iload_n dX8_advance_191 rfl ?_
            refine SW.bipush (v := (59 : Int32)) dX8_advance_192 (by decide) ?_
            refine SW.icmp_ne 201 dX8_advance_194 (by decide) (fun hbr => ?_) (fun hbr => ?_)
            · replace vc := vc.1 hbr
              refine SW.iconst (v := (4 : Int32)) dX8_advance_201 (by decide) ?_
              refine SW.putI (f := 8) aw_cl8 kp_2 (by decide) (hW.le (by decide)) (by decide) ww_156 (Or.inl rfl) dX8_advance_202 rfl rfl rfl ?_
              exact SW.vret dX8_advance_205 rfl ⟨rfl, vc⟩
            · replace vc := vc.2 hbr
              refine SW.iconst (v := (3 : Int32)) dX8_advance_197 (by decide) ?_
              refine SW.goto 202 dX8_advance_198 (by decide) ?_
              refine SW.putI (f := 8) aw_cl8 kp_2 (by decide) (hW.le (by decide)) (by decide) ww_156 (Or.inl rfl) dX8_advance_202 rfl rfl rfl ?_
              exact SW.vret dX8_advance_205 rfl ⟨rfl, vc⟩
          · replace vc := vc.2 hbr
            refine SW.iload_n dX8_advance_137 rfl ?_
            refine SW.bipush (v := (57 : Int32)) dX8_advance_138 (by decide) ?_
            refine SW.icmp_gt 180 dX8_advance_140 (by decide) (fun hbr => ?_) (fun hbr => ?_)
            · replace vc := vc.1 hbr
              refine SW.aload_n dX8_advance_180 rfl ?_
              refine SW.aload_n dX8_advance_181 rfl ?_
              refine SW.getI (f := 9) aw_cl8 kp_2 (by decide) (hW.le (by decide)) (by decide) ww_157 dX8_advance_182 rfl ?_
              refine SW.iconst (v := (1 : Int32)) dX8_advance_185 (by decide) ?_
              refine SW.iadd dX8_advance_186 ?_
              refine SW.putI (f := 10) aw_cl8 kp_2 (by decide) (hW.le (by decide)) (by decide) ww_158 (Or.inl rfl) dX8_advance_187 rfl rfl rfl ?_
              refine SW.aload_n dX8_advance_190 rfl ?_
              refine SW.iload_n dX8_advance_191 rfl ?_
              refine SW.bipush (v := (59 : Int32)) dX8_advance_192 (by decide) ?_
              refine SW.icmp_ne 201 dX8_advance_194 (by decide) (fun hbr => ?_) (fun hbr => ?_)
              · replace vc := vc.1 hbr
                refine SW.iconst (v := (4 : Int32)) dX8_advance_201 (by decide) ?_
                refine SW.putI (f := 8) aw_cl8 kp_2 (by decide) (hW.le (by decide)) (by decide) ww_156 (Or.inl rfl) dX8_advance_202 rfl rfl rfl ?_
                exact SW.vret dX8_advance_205 rfl ⟨rfl, vc⟩
              · replace vc := vc.2 hbr
                refine SW.iconst (v := (3 : Int32)) dX8_advance_197 (by decide) ?_
                refine SW.goto 202 dX8_advance_198 (by decide) ?_
                refine SW.putI (f := 8) aw_cl8 kp_2 (by decide) (hW.le (by decide)) (by decide) ww_156 (Or.inl rfl) dX8_advance_202 rfl rfl rfl ?_
                exact SW.vret dX8_advance_205 rfl ⟨rfl, vc⟩
            · replace vc := vc.2 hbr
              refine SW.aload_n dX8_advance_143 rfl ?_
              refine SW.aload_n dX8_advance_144 rfl ?_
              refine SW.bipush (v := (48 : Int32)) dX8_advance_145 (by decide) ?_
              refine SW.bipush (v := (57 : Int32)) dX8_advance_147 (by decide) ?_
              refine SW.cvi2 kV_X8_241 (by omega) aw_cl8 kp_2 (by decide) (hW.le (by decide)) rfl (Nat.le_of_ble_eq_true rfl) dX8_advance_149 (SMi.mono vc ?_)
              intro a4 n4 σ4 τ4 θ4 vc
              obtain ⟨hW, vc⟩ := vc
              refine SW.putI (f := 10) aw_cl8 kp_2 (by decide) (hW.le (by decide)) (by decide) ww_158 (Or.inl rfl) dX8_advance_152 rfl rfl rfl ?_
              refine SW.aload_n dX8_advance_155 rfl ?_
              refine SW.aload_n dX8_advance_156 rfl ?_
              refine SW.getI (f := 10) aw_cl8 kp_2 (by decide) (hW.le (by decide)) (by decide) ww_158 dX8_advance_157 rfl ?_
              refine SW.aload_n dX8_advance_160 rfl ?_
              refine SW.getI (f := 9) aw_cl8 kp_2 (by decide) (hW.le (by decide)) (by decide) ww_157 dX8_advance_161 rfl ?_
              refine SW.isub dX8_advance_164 ?_
              refine SW.iconst (v := (3 : Int32)) dX8_advance_165 (by decide) ?_
              refine SW.icmp_gt 173 dX8_advance_166 (by decide) (fun hbr => ?_) (fun hbr => ?_)
              · replace vc := vc.1 hbr
                refine SW.iconst (v := (4 : Int32)) dX8_advance_173 (by decide) ?_
                refine SW.putI (f := 8) aw_cl8 kp_2 (by decide) (hW.le (by decide)) (by decide) ww_156 (Or.inl rfl) dX8_advance_174 rfl rfl rfl ?_
                refine SW.goto 205 dX8_advance_177 (by decide) ?_
                exact SW.vret dX8_advance_205 rfl ⟨rfl, vc⟩
              · replace vc := vc.2 hbr
                refine SW.iconst (v := (2 : Int32)) dX8_advance_169 (by decide) ?_
                refine SW.goto 174 dX8_advance_170 (by decide) ?_
                refine SW.putI (f := 8) aw_cl8 kp_2 (by decide) (hW.le (by decide)) (by decide) ww_156 (Or.inl rfl) dX8_advance_174 rfl rfl rfl ?_
                refine SW.goto 205 dX8_advance_177 (by decide) ?_
                exact SW.vret dX8_advance_205 rfl ⟨rfl, vc⟩
        · replace vc := vc.2 hbr
          refine SW.iload_n dX8_advance_87 rfl ?_
          refine SW.bipush (v := (122 : Int32)) dX8_advance_88 (by decide) ?_
          refine SW.icmp_gt 131 dX8_advance_90 (by decide) (fun hbr => ?_) (fun hbr => ?_)
          · replace vc := vc.1 hbr
            refine SW.iload_n dX8_advance_131 rfl ?_
            refine SW.bipush (v := (48 : Int32)) dX8_advance_132 (by decide) ?_
            refine SW.icmp_lt 180 dX8_advance_134 (by decide) (fun hbr => ?_) (fun hbr => ?_)
            · replace vc := vc.1 hbr
              refine SW.aload_n dX8_advance_180 rfl ?_
              refine SW.aload_n dX8_advance_181 rfl ?_
              refine SW.getI (f := 9) aw_cl8 kp_2 (by decide) (hW.le (by decide)) (by decide) ww_157 dX8_advance_182 rfl ?_
              refine SW.iconst (v := (1 : Int32)) dX8_advance_185 (by decide) ?_
              refine SW.iadd dX8_advance_186 ?_
              refine SW.putI (f := 10) aw_cl8 kp_2 (by decide) (hW.le (by decide)) (by decide) ww_158 (Or.inl rfl) dX8_advance_187 rfl rfl rfl ?_
              refine SW.aload_n dX8_advance_190 rfl ?_
              refine SW.iload_n dX8_advance_191 rfl ?_
              refine SW.bipush (v := (59 : Int32)) dX8_advance_192 (by decide) ?_
              refine SW.icmp_ne 201 dX8_advance_194 (by decide) (fun hbr => ?_) (fun hbr => ?_)
              · replace vc := vc.1 hbr
                refine SW.iconst (v := (4 : Int32)) dX8_advance_201 (by decide) ?_
                refine SW.putI (f := 8) aw_cl8 kp_2 (by decide) (hW.le (by decide)) (by decide) ww_156 (Or.inl rfl) dX8_advance_202 rfl rfl rfl ?_
                exact SW.vret dX8_advance_205 rfl ⟨rfl, vc⟩
              · replace vc := vc.2 hbr
                refine SW.iconst (v := (3 : Int32)) dX8_advance_197 (by decide) ?_
                refine SW.goto 202 dX8_advance_198 (by decide) ?_
                refine SW.putI (f := 8) aw_cl8 kp_2 (by decide) (hW.le (by decide)) (by decide) ww_156 (Or.inl rfl) dX8_advance_202 rfl rfl rfl ?_
                exact SW.vret dX8_advance_205 rfl ⟨rfl, vc⟩
            · replace vc := vc.2 hbr
              refine SW.iload_n dX8_advance_137 rfl ?_
              refine SW.bipush (v := (57 : Int32)) dX8_advance_138 (by decide) ?_
              refine SW.icmp_gt 180 dX8_advance_140 (by decide) (fun hbr => ?_) (fun hbr => ?_)
              · replace vc := vc.1 hbr
                refine SW.aload_n dX8_advance_180 rfl ?_
                refine SW.aload_n dX8_advance_181 rfl ?_
                refine SW.getI (f := 9) aw_cl8 kp_2 (by decide) (hW.le (by decide)) (by decide) ww_157 dX8_advance_182 rfl ?_
                refine SW.iconst (v := (1 : Int32)) dX8_advance_185 (by decide) ?_
                refine SW.iadd dX8_advance_186 ?_
                refine SW.putI (f := 10) aw_cl8 kp_2 (by decide) (hW.le (by decide)) (by decide) ww_158 (Or.inl rfl) dX8_advance_187 rfl rfl rfl ?_
                refine SW.aload_n dX8_advance_190 rfl ?_
                refine SW.iload_n dX8_advance_191 rfl ?_
                refine SW.bipush (v := (59 : Int32)) dX8_advance_192 (by decide) ?_
                refine SW.icmp_ne 201 dX8_advance_194 (by decide) (fun hbr => ?_) (fun hbr => ?_)
                · replace vc := vc.1 hbr
                  refine SW.iconst (v := (4 : Int32)) dX8_advance_201 (by decide) ?_
                  refine SW.putI (f := 8) aw_cl8 kp_2 (by decide) (hW.le (by decide)) (by decide) ww_156 (Or.inl rfl) dX8_advance_202 rfl rfl rfl ?_
                  exact SW.vret dX8_advance_205 rfl ⟨rfl, vc⟩
                · replace vc := vc.2 hbr
                  refine SW.iconst (v := (3 : Int32)) dX8_advance_197 (by decide) ?_
                  refine SW.goto 202 dX8_advance_198 (by decide) ?_
                  refine SW.putI (f := 8) aw_cl8 kp_2 (by decide) (hW.le (by decide)) (by decide) ww_156 (Or.inl rfl) dX8_advance_202 rfl rfl rfl ?_
                  exact SW.vret dX8_advance_205 rfl ⟨rfl, vc⟩
              · replace vc := vc.2 hbr
                refine SW.aload_n dX8_advance_143 rfl ?_
                refine SW.aload_n dX8_advance_144 rfl ?_
                refine SW.bipush (v := (48 : Int32)) dX8_advance_145 (by decide) ?_
                refine SW.bipush (v := (57 : Int32)) dX8_advance_147 (by decide) ?_
                refine SW.cvi2 kV_X8_241 (by omega) aw_cl8 kp_2 (by decide) (hW.le (by decide)) rfl (Nat.le_of_ble_eq_true rfl) dX8_advance_149 (SMi.mono vc ?_)
                intro a5 n5 σ5 τ5 θ5 vc
                obtain ⟨hW, vc⟩ := vc
                refine SW.putI (f := 10) aw_cl8 kp_2 (by decide) (hW.le (by decide)) (by decide) ww_158 (Or.inl rfl) dX8_advance_152 rfl rfl rfl ?_
                refine SW.aload_n dX8_advance_155 rfl ?_
                refine SW.aload_n dX8_advance_156 rfl ?_
                refine SW.getI (f := 10) aw_cl8 kp_2 (by decide) (hW.le (by decide)) (by decide) ww_158 dX8_advance_157 rfl ?_
                refine SW.aload_n dX8_advance_160 rfl ?_
                refine SW.getI (f := 9) aw_cl8 kp_2 (by decide) (hW.le (by decide)) (by decide) ww_157 dX8_advance_161 rfl ?_
                refine SW.isub dX8_advance_164 ?_
                refine SW.iconst (v := (3 : Int32)) dX8_advance_165 (by decide) ?_
                refine SW.icmp_gt 173 dX8_advance_166 (by decide) (fun hbr => ?_) (fun hbr => ?_)
                · replace vc := vc.1 hbr
                  refine SW.iconst (v := (4 : Int32)) dX8_advance_173 (by decide) ?_
                  refine SW.putI (f := 8) aw_cl8 kp_2 (by decide) (hW.le (by decide)) (by decide) ww_156 (Or.inl rfl) dX8_advance_174 rfl rfl rfl ?_
                  refine SW.goto 205 dX8_advance_177 (by decide) ?_
                  exact SW.vret dX8_advance_205 rfl ⟨rfl, vc⟩
                · replace vc := vc.2 hbr
                  refine SW.iconst (v := (2 : Int32)) dX8_advance_169 (by decide) ?_
                  refine SW.goto 174 dX8_advance_170 (by decide) ?_
                  refine SW.putI (f := 8) aw_cl8 kp_2 (by decide) (hW.le (by decide)) (by decide) ww_156 (Or.inl rfl) dX8_advance_174 rfl rfl rfl ?_
                  refine SW.goto 205 dX8_advance_177 (by decide) ?_
                  exact SW.vret dX8_advance_205 rfl ⟨rfl, vc⟩
          · replace vc := vc.2 hbr
            refine SW.aload_n dX8_advance_93 rfl ?_
            refine SW.aload_n dX8_advance_94 rfl ?_
            refine SW.bipush (v := (97 : Int32)) dX8_advance_95 (by decide) ?_
            refine SW.bipush (v := (122 : Int32)) dX8_advance_97 (by decide) ?_
            refine SW.cvi2 kV_X8_241 (by omega) aw_cl8 kp_2 (by decide) (hW.le (by decide)) rfl (Nat.le_of_ble_eq_true rfl) dX8_advance_99 (SMi.mono vc ?_)
            intro a6 n6 σ6 τ6 θ6 vc
            obtain ⟨hW, vc⟩ := vc
            refine SW.putI (f := 10) aw_cl8 kp_2 (by decide) (hW.le (by decide)) (by decide) ww_158 (Or.inl rfl) dX8_advance_102 rfl rfl rfl ?_
            refine SW.aload_n dX8_advance_105 rfl ?_
            refine SW.aload_n dX8_advance_106 rfl ?_
            refine SW.getI (f := 10) aw_cl8 kp_2 (by decide) (hW.le (by decide)) (by decide) ww_158 dX8_advance_107 rfl ?_
            refine SW.aload_n dX8_advance_110 rfl ?_
            refine SW.getI (f := 9) aw_cl8 kp_2 (by decide) (hW.le (by decide)) (by decide) ww_157 dX8_advance_111 rfl ?_
            refine SW.isub dX8_advance_114 ?_
            refine SW.bipush (v := (8 : Int32)) dX8_advance_115 (by decide) ?_
            refine SW.icmp_gt 124 dX8_advance_117 (by decide) (fun hbr => ?_) (fun hbr => ?_)
            · replace vc := vc.1 hbr
              refine SW.iconst (v := (4 : Int32)) dX8_advance_124 (by decide) ?_
              refine SW.putI (f := 8) aw_cl8 kp_2 (by decide) (hW.le (by decide)) (by decide) ww_156 (Or.inl rfl) dX8_advance_125 rfl rfl rfl ?_
              refine SW.goto 205 dX8_advance_128 (by decide) ?_
              exact SW.vret dX8_advance_205 rfl ⟨rfl, vc⟩
            · replace vc := vc.2 hbr
              refine SW.iconst (v := (1 : Int32)) dX8_advance_120 (by decide) ?_
              refine SW.goto 125 dX8_advance_121 (by decide) ?_
              refine SW.putI (f := 8) aw_cl8 kp_2 (by decide) (hW.le (by decide)) (by decide) ww_156 (Or.inl rfl) dX8_advance_125 rfl rfl rfl ?_
              refine SW.goto 205 dX8_advance_128 (by decide) ?_
              exact SW.vret dX8_advance_205 rfl ⟨rfl, vc⟩
      · replace vc := vc.2 hbr
        refine SW.aload_n dX8_advance_57 rfl ?_
        refine SW.aload_n dX8_advance_58 rfl ?_
        refine SW.getI (f := 7) aw_cl8 kp_2 (by decide) (hW.le (by decide)) (by decide) ww_155 dX8_advance_59 rfl ?_
        refine SW.putI (f := 10) aw_cl8 kp_2 (by decide) (hW.le (by decide)) (by decide) ww_158 (Or.inl rfl) dX8_advance_62 rfl rfl rfl ?_
        refine SW.aload_n dX8_advance_65 rfl ?_
        refine SW.iconst (v := (0 : Int32)) dX8_advance_66 (by decide) ?_
        refine SW.putI (f := 8) aw_cl8 kp_2 (by decide) (hW.le (by decide)) (by decide) ww_156 (Or.inl rfl) dX8_advance_67 rfl rfl rfl ?_
        exact SW.vret dX8_advance_70 rfl ⟨rfl, vc⟩
    · replace vc := vc.2 hbr
      refine SW.aload_n dX8_advance_33 rfl ?_
      refine SW.dup dX8_advance_34 rfl ?_
      refine SW.getI (f := 9) aw_cl8 kp_2 (by decide) (hW.le (by decide)) (by decide) ww_157 dX8_advance_35 rfl ?_
      refine SW.iconst (v := (1 : Int32)) dX8_advance_38 (by decide) ?_
      refine SW.iadd dX8_advance_39 ?_
      refine SW.putI (f := 9) aw_cl8 kp_2 (by decide) (hW.le (by decide)) (by decide) ww_157 (Or.inl rfl) dX8_advance_40 rfl rfl rfl ?_
      refine SW.goto 8 dX8_advance_43 (by decide) ?_
      exact vc
theorem ctX8_advance {G : GG} {q : Nat → SG → TU → TH → Prop} {n : Nat} {σ : SG} {τ : TU} {θ : TH}  (h : SW G 2 mX8_advance (aw_qv q) 0 0 0 [some (.ref 2), none] [] (n, σ, τ, θ)) : SMv G 2 mX8_advance 0 0 [.ref 2] n σ τ θ q := SM.of _ rfl rfl (Nat.le_of_ble_eq_true rfl) h
set_option maxHeartbeats 4000000 in
set_option maxRecDepth 20000 in
theorem sgX8_append_0 {G : GG} {k : Nat} {q : Nat → SG → TU → TH → Prop} {n : Nat} {σ : SG} {τ : TU} {θ : TH}  (x1 : Int32) (hk : 1 ≤ k)  (hW : aw_WT n θ) (vc : SW G k mX8_append (aw_qv q) 0 0 3 [some (.ref 2), some (.int x1), some (.int (24 : Int32))] [] (n, σ, τ, θ)) : SW G k mX8_append (aw_qv q) 0 0 0 [some (.ref 2), some (.int x1), none] [] (n, σ, τ, θ) := by
  refine SW.bipush (v := (24 : Int32)) dX8_append_0 (by decide) ?_
  refine SW.istore_n dX8_append_2 (by decide) rfl rfl ?_
  exact vc
set_option maxHeartbeats 4000000 in
set_option maxRecDepth 20000 in
theorem sgX8_append_3 {G : GG} {k : Nat} {q : Nat → SG → TU → TH → Prop} {n : Nat} {σ : SG} {τ : TU} {θ : TH}  (x1 : Int32) (x2 : Int32) (hk : 1 ≤ k)  (hW : aw_WT n θ) (vc : ((x2 < 0) → (q n σ τ θ)) ∧ ((¬ x2 < 0) → ((((900 : Int32) ≤ (σ 2 0)) → (q n σ τ θ)) ∧ ((¬ (900 : Int32) ≤ (σ 2 0)) → (vp_in (σ 2 0) 900 ∧ (SW G k mX8_append (aw_qv q) 0 0 3 [some (.ref 2), some (.int x1), some (.int (x2 + (-8 : Int32)))] [] (n, (aw_u (aw_u σ 3 (σ 2 0).toNatClampNeg ((x1 >>> (x2 &&& 31)).toInt8.toInt32).toInt8.toInt32) 2 0 (((aw_u σ 3 (σ 2 0).toNatClampNeg ((x1 >>> (x2 &&& 31)).toInt8.toInt32).toInt8.toInt32) 2 0) + (1 : Int32))), τ, θ))))))) : SW G k mX8_append (aw_qv q) 0 0 3 [some (.ref 2), some (.int x1), some (.int x2)] [] (n, σ, τ, θ) := by
  refine SW.iload_n dX8_append_3 rfl ?_
  refine SW.if_lt 46 dX8_append_4 (by decide) (fun hbr => ?_) (fun hbr => ?_)
  · replace vc := vc.1 hbr
    exact SW.vret dX8_append_46 rfl ⟨rfl, vc⟩
  · replace vc := vc.2 hbr
    refine SW.aload_n dX8_append_7 rfl ?_
    refine SW.getI (f := 0) aw_cl8 kp_2 (by decide) (hW.le (by decide)) (by decide) ww_147 dX8_append_8 rfl ?_
    refine SW.sipush (v := (900 : Int32)) dX8_append_11 (by decide) ?_
    refine SW.icmp_ge 46 dX8_append_14 (by decide) (fun hbr => ?_) (fun hbr => ?_)
    · replace vc := vc.1 hbr
      exact SW.vret dX8_append_46 rfl ⟨rfl, vc⟩
    · replace vc := vc.2 hbr
      refine SW.aload_n dX8_append_17 rfl ?_
      refine SW.getS (f := 2) (r := 3) aw_cl8 kp_2 (by decide) (hW.le (by decide)) (by decide) ww_150 dX8_append_18 rfl hW.t2_2 ?_
      refine SW.aload_n dX8_append_21 rfl ?_
      refine SW.getI (f := 0) aw_cl8 kp_2 (by decide) (hW.le (by decide)) (by decide) ww_147 dX8_append_22 rfl ?_
      refine SW.iload_n dX8_append_25 rfl ?_
      refine SW.iload_n dX8_append_26 rfl ?_
      refine SW.ishr dX8_append_27 ?_
      refine SW.i2b dX8_append_28 ?_
      refine SW.bast kp_3 (by decide) (hW.le (by decide)) vc.1 dX8_append_29 ?_
      replace vc := vc.2
      refine SW.aload_n dX8_append_30 rfl ?_
      refine SW.dup dX8_append_31 rfl ?_
      refine SW.getI (f := 0) aw_cl8 kp_2 (by decide) (hW.le (by decide)) (by decide) ww_147 dX8_append_32 rfl ?_
      refine SW.iconst (v := (1 : Int32)) dX8_append_35 (by decide) ?_
      refine SW.iadd dX8_append_36 ?_
      refine SW.putI (f := 0) aw_cl8 kp_2 (by decide) (hW.le (by decide)) (by decide) ww_147 (Or.inl rfl) dX8_append_37 rfl rfl rfl ?_
      refine SW.iinc (v := (x2 + (-8 : Int32))) dX8_append_40 rfl rfl (by decide) rfl rfl ?_
      refine SW.goto 3 dX8_append_43 (by decide) ?_
      exact vc
theorem ctX8_append {G : GG} {q : Nat → SG → TU → TH → Prop} {n : Nat} {σ : SG} {τ : TU} {θ : TH} (x1 : Int32) (h : SW G 1 mX8_append (aw_qv q) 0 0 0 [some (.ref 2), some (.int x1), none] [] (n, σ, τ, θ)) : SMv G 1 mX8_append 0 0 [.ref 2, .int x1] n σ τ θ q := SM.of _ rfl rfl (Nat.le_of_ble_eq_true rfl) h
set_option maxHeartbeats 4000000 in
set_option maxRecDepth 20000 in
theorem sgX8_blame_0 {G : GG} {k : Nat} {q : Int32 → Nat → SG → TU → TH → Prop} {n : Nat} {σ : SG} {τ : TU} {θ : TH}  (x1 : Int32) (hk : 1 ≤ k)  (hW : aw_WT n θ) (vc : q (0 : Int32) n (aw_u (aw_u σ 2 6 x1) 2 1 ((aw_u σ 2 6 x1) 2 9)) τ θ) : SW G k mX8_blame (aw_qi q) 0 0 0 [some (.ref 2), some (.int x1)] [] (n, σ, τ, θ) := by
  refine SW.aload_n dX8_blame_0 rfl ?_
  refine SW.iload_n dX8_blame_1 rfl ?_
  refine SW.putI (f := 6) aw_cl8 kp_2 (by decide) (hW.le (by decide)) (by decide) ww_154 (Or.inl rfl) dX8_blame_2 rfl rfl rfl ?_
  refine SW.aload_n dX8_blame_5 rfl ?_
  refine SW.aload_n dX8_blame_6 rfl ?_
  refine SW.getI (f := 9) aw_cl8 kp_2 (by decide) (hW.le (by decide)) (by decide) ww_157 dX8_blame_7 rfl ?_
  refine SW.putI (f := 1) aw_cl8 kp_2 (by decide) (hW.le (by decide)) (by decide) ww_148 (Or.inl rfl) dX8_blame_10 rfl rfl rfl ?_
  refine SW.iconst (v := (0 : Int32)) dX8_blame_13 (by decide) ?_
  exact SW.iret dX8_blame_14 rfl rfl ⟨_, rfl, vc⟩
theorem ctX8_blame {G : GG} {q : Int32 → Nat → SG → TU → TH → Prop} {n : Nat} {σ : SG} {τ : TU} {θ : TH} (x1 : Int32) (h : SW G 1 mX8_blame (aw_qi q) 0 0 0 [some (.ref 2), some (.int x1)] [] (n, σ, τ, θ)) : SMi G 1 mX8_blame 0 0 [.ref 2, .int x1] n σ τ θ q := SM.of _ rfl rfl (Nat.le_of_ble_eq_true rfl) h
set_option maxHeartbeats 4000000 in
set_option maxRecDepth 20000 in
theorem sgX8_blamed_0 {G : GG} {k : Nat} {q : Int32 → Nat → SG → TU → TH → Prop} {n : Nat} {σ : SG} {τ : TU} {θ : TH}  (x1 : Int32) (hk : 2 ≤ k)  (hW : aw_WT n θ) (vc : SMi G 1 mX8_blame 0 0 [.ref 2, .int x1] n σ τ θ (fun a1 n1 σ1 τ1 θ1 => aw_WT n1 θ1 ∧ (q x1 n1 σ1 τ1 θ1))) : SW G k mX8_blamed (aw_qi q) 0 0 0 [some (.ref 2), some (.int x1)] [] (n, σ, τ, θ) := by
  refine SW.aload_n dX8_blamed_0 rfl ?_
  refine SW.iload_n dX8_blamed_1 rfl ?_
  refine SW.cvi1 kV_X8_77 (by omega) aw_cl8 kp_2 (by decide) (hW.le (by decide)) rfl (Nat.le_of_ble_eq_true rfl) dX8_blamed_2 (SMi.mono vc ?_)
  intro a1 n1 σ1 τ1 θ1 vc
  obtain ⟨hW, vc⟩ := vc
  refine SW.pop dX8_blamed_5 rfl ?_
  refine SW.iload_n dX8_blamed_6 rfl ?_
  exact SW.iret dX8_blamed_7 rfl rfl ⟨_, rfl, vc⟩
theorem ctX8_blamed {G : GG} {q : Int32 → Nat → SG → TU → TH → Prop} {n : Nat} {σ : SG} {τ : TU} {θ : TH} (x1 : Int32) (h : SW G 2 mX8_blamed (aw_qi q) 0 0 0 [some (.ref 2), some (.int x1)] [] (n, σ, τ, θ)) : SMi G 2 mX8_blamed 0 0 [.ref 2, .int x1] n σ τ θ q := SM.of _ rfl rfl (Nat.le_of_ble_eq_true rfl) h
set_option maxHeartbeats 4000000 in
set_option maxRecDepth 20000 in
theorem sgX8_code_0 {G : GG} {k : Nat} {q : Int64 → Nat → SG → TU → TH → Prop} {n : Nat} {σ : SG} {τ : TU} {θ : TH}   (hk : 1 ≤ k)  (hW : aw_WT n θ) (vc : SW G k mX8_code (aw_ql q) 0 0 7 [some (.ref 2), some (.long (0 : Int64)), none, some (.int (σ 2 9))] [] (n, σ, τ, θ)) : SW G k mX8_code (aw_ql q) 0 0 0 [some (.ref 2), none, none, none] [] (n, σ, τ, θ) := by
  refine SW.lconst (v := (0 : Int64)) dX8_code_0 (by decide) ?_
  refine SW.lstore_n dX8_code_1 (by decide) rfl rfl ?_
  refine SW.aload_n dX8_code_2 rfl ?_
  refine SW.getI (f := 9) aw_cl8 kp_2 (by decide) (hW.le (by decide)) (by decide) ww_157 dX8_code_3 rfl ?_
  refine SW.istore_n dX8_code_6 (by decide) rfl rfl ?_
  exact vc
set_option maxHeartbeats 4000000 in
set_option maxRecDepth 20000 in
theorem sgX8_code_7 {G : GG} {k : Nat} {q : Int64 → Nat → SG → TU → TH → Prop} {n : Nat} {σ : SG} {τ : TU} {θ : TH}  (x1 : Int64) (x3 : Int32) (hk : 1 ≤ k)  (hW : aw_WT n θ) (vc : (((σ 2 10) ≤ x3) → (q x1 n σ τ θ)) ∧ ((¬ (σ 2 10) ≤ x3) → (vp_in x3 900 ∧ (SW G k mX8_code (aw_ql q) 0 0 7 [some (.ref 2), some (.long ((x1 * (27 : Int64)) + ((((σ 3 x3.toNatClampNeg) - (97 : Int32)) + (1 : Int32)).toInt64))), none, some (.int (x3 + (1 : Int32)))] [] (n, σ, τ, θ))))) : SW G k mX8_code (aw_ql q) 0 0 7 [some (.ref 2), some (.long x1), none, some (.int x3)] [] (n, σ, τ, θ) := by
  refine SW.iload_n dX8_code_7 rfl ?_
  refine SW.aload_n dX8_code_8 rfl ?_
  refine SW.getI (f := 10) aw_cl8 kp_2 (by decide) (hW.le (by decide)) (by decide) ww_158 dX8_code_9 rfl ?_
  refine SW.icmp_ge 40 dX8_code_12 (by decide) (fun hbr => ?_) (fun hbr => ?_)
  · replace vc := vc.1 hbr
    refine SW.lload_n dX8_code_40 rfl ?_
    exact SW.lret dX8_code_41 rfl ⟨_, rfl, vc⟩
  · replace vc := vc.2 hbr
    refine SW.lload_n dX8_code_15 rfl ?_
    refine SW.ldc2 (v := (27 : Int64)) ww_636 dX8_code_16 ?_
    refine SW.lmul dX8_code_19 ?_
    refine SW.aload_n dX8_code_20 rfl ?_
    refine SW.getS (f := 2) (r := 3) aw_cl8 kp_2 (by decide) (hW.le (by decide)) (by decide) ww_150 dX8_code_21 rfl hW.t2_2 ?_
    refine SW.iload_n dX8_code_24 rfl ?_
    refine SW.bald kp_3 (by decide) (hW.le (by decide)) vc.1 dX8_code_25 ?_
    replace vc := vc.2
    refine SW.bipush (v := (97 : Int32)) dX8_code_26 (by decide) ?_
    refine SW.isub dX8_code_28 ?_
    refine SW.iconst (v := (1 : Int32)) dX8_code_29 (by decide) ?_
    refine SW.iadd dX8_code_30 ?_
    refine SW.i2l dX8_code_31 ?_
    refine SW.ladd dX8_code_32 ?_
    refine SW.lstore_n dX8_code_33 (by decide) rfl rfl ?_
    refine SW.iinc (v := (x3 + (1 : Int32))) dX8_code_34 rfl rfl (by decide) rfl rfl ?_
    refine SW.goto 7 dX8_code_37 (by decide) ?_
    exact vc
theorem ctX8_code {G : GG} {q : Int64 → Nat → SG → TU → TH → Prop} {n : Nat} {σ : SG} {τ : TU} {θ : TH}  (h : SW G 1 mX8_code (aw_ql q) 0 0 0 [some (.ref 2), none, none, none] [] (n, σ, τ, θ)) : SMl G 1 mX8_code 0 0 [.ref 2] n σ τ θ q := SM.of _ rfl rfl (Nat.le_of_ble_eq_true rfl) h
set_option maxHeartbeats 4000000 in
set_option maxRecDepth 20000 in
theorem sgX8_expect_0 {G : GG} {k : Nat} {q : Int32 → Nat → SG → TU → TH → Prop} {n : Nat} {σ : SG} {τ : TU} {θ : TH} (j : Nat) (st : String × Nat × String × List Int32)  (hk : 6 ≤ k) (hj : aw_strs[j]? = some st) (hW : aw_WT n θ) (vc : SMi G 5 mX8_is 0 0 [.ref 2, .ref (1000 + j)] n σ τ θ (fun a1 n1 σ1 τ1 θ1 => aw_WT n1 θ1 ∧ (((¬ a1 = 0) → (SMv G 2 mX8_advance 0 0 [.ref 2] n1 σ1 τ1 θ1 (fun n2 σ2 τ2 θ2 => aw_WT n2 θ2 ∧ (q (1 : Int32) n2 σ2 τ2 θ2)))) ∧ ((a1 = 0) → (SMi G 1 mX8_blame 0 0 [.ref 2, .int (1 : Int32)] n1 σ1 τ1 θ1 (fun a3 n3 σ3 τ3 θ3 => aw_WT n3 θ3 ∧ ((a3 = 0 ∨ a3 = 1) ∧ q a3 n3 σ3 τ3 θ3))))))) : SW G k mX8_expect (aw_qi q) 0 0 0 [some (.ref 2), some (.ref (1000 + j))] [] (n, σ, τ, θ) := by
  refine SW.aload_n dX8_expect_0 rfl ?_
  refine SW.aload_n dX8_expect_1 rfl ?_
  refine SW.cvi1 kV_X8_83 (by omega) aw_cl8 kp_2 (by decide) (hW.le (by decide)) rfl (Nat.le_of_ble_eq_true rfl) dX8_expect_2 (SMi.mono vc ?_)
  intro a1 n1 σ1 τ1 θ1 vc
  obtain ⟨hW, vc⟩ := vc
  refine SW.if_ne 14 dX8_expect_5 (by decide) (fun hbr => ?_) (fun hbr => ?_)
  · replace vc := vc.1 hbr
    refine SW.aload_n dX8_expect_14 rfl ?_
    refine SW.cvv0 kV_X8_56 (by omega) aw_cl8 kp_2 (by decide) (hW.le (by decide)) rfl (Nat.le_of_ble_eq_true rfl) dX8_expect_15 (SMv.mono vc ?_)
    intro n2 σ2 τ2 θ2 vc
    obtain ⟨hW, vc⟩ := vc
    refine SW.iconst (v := (1 : Int32)) dX8_expect_18 (by decide) ?_
    exact SW.iret dX8_expect_19 rfl rfl ⟨_, rfl, vc⟩
  · replace vc := vc.2 hbr
    refine SW.aload_n dX8_expect_8 rfl ?_
    refine SW.iconst (v := (1 : Int32)) dX8_expect_9 (by decide) ?_
    refine SW.cvi1 kV_X8_77 (by omega) aw_cl8 kp_2 (by decide) (hW.le (by decide)) rfl (Nat.le_of_ble_eq_true rfl) dX8_expect_10 (SMi.mono vc ?_)
    intro a3 n3 σ3 τ3 θ3 vc
    obtain ⟨hW, vc⟩ := vc
    exact SW.iret dX8_expect_13 rfl (aw_nb vc.1) ⟨_, rfl, vc.2⟩
theorem ctX8_expect {G : GG} {q : Int32 → Nat → SG → TU → TH → Prop} {n : Nat} {σ : SG} {τ : TU} {θ : TH} (j : Nat) (h : SW G 6 mX8_expect (aw_qi q) 0 0 0 [some (.ref 2), some (.ref (1000 + j))] [] (n, σ, τ, θ)) : SMi G 6 mX8_expect 0 0 [.ref 2, .ref (1000 + j)] n σ τ θ q := SM.of _ rfl rfl (Nat.le_of_ble_eq_true rfl) h
set_option maxHeartbeats 4000000 in
set_option maxRecDepth 20000 in
theorem sgX8_indexOf_0 {G : GG} {k : Nat} {q : Int32 → Nat → SG → TU → TH → Prop} {n : Nat} {σ : SG} {τ : TU} {θ : TH} (r0 rn0 : Nat) (x1 : Int32) (x2 : Int64) (hk : 1 ≤ k) (hr0 : isB r0 rn0) (hW : aw_WT n θ) (vc : SW G k mX8_indexOf (aw_qi q) 0 0 3 [some (.ref r0), some (.int x1), some (.long x2), none, some (.int (0 : Int32))] [] (n, σ, τ, θ)) : SW G k mX8_indexOf (aw_qi q) 0 0 0 [some (.ref r0), some (.int x1), some (.long x2), none, none] [] (n, σ, τ, θ) := by
  refine SW.iconst (v := (0 : Int32)) dX8_indexOf_0 (by decide) ?_
  refine SW.istore dX8_indexOf_1 (by decide) rfl rfl ?_
  exact vc
set_option maxHeartbeats 4000000 in
set_option maxRecDepth 20000 in
theorem sgX8_indexOf_3 {G : GG} {k : Nat} {q : Int32 → Nat → SG → TU → TH → Prop} {n : Nat} {σ : SG} {τ : TU} {θ : TH} (r0 rn0 : Nat) (x1 : Int32) (x2 : Int64) (x4 : Int32) (hk : 1 ≤ k) (hr0 : isB r0 rn0) (hW : aw_WT n θ) (vc : ((x1 ≤ x4) → (q (-1 : Int32) n σ τ θ)) ∧ ((¬ x1 ≤ x4) → ((((Int32.ofNat rn0) ≤ x4) → (q (-1 : Int32) n σ τ θ)) ∧ ((¬ (Int32.ofNat rn0) ≤ x4) → (vp_in x4 rn0 ∧ (((¬ (lg_cmp (τ r0 x4.toNatClampNeg) x2) = 0) → (SW G k mX8_indexOf (aw_qi q) 0 0 3 [some (.ref r0), some (.int x1), some (.long x2), none, some (.int (x4 + (1 : Int32)))] [] (n, σ, τ, θ))) ∧ (((lg_cmp (τ r0 x4.toNatClampNeg) x2) = 0) → (q x4 n σ τ θ)))))))) : SW G k mX8_indexOf (aw_qi q) 0 0 3 [some (.ref r0), some (.int x1), some (.long x2), none, some (.int x4)] [] (n, σ, τ, θ) := by
  refine SW.iload dX8_indexOf_3 rfl ?_
  refine SW.iload_n dX8_indexOf_5 rfl ?_
  refine SW.icmp_ge 34 dX8_indexOf_6 (by decide) (fun hbr => ?_) (fun hbr => ?_)
  · replace vc := vc.1 hbr
    refine SW.iconst (v := (-1 : Int32)) dX8_indexOf_34 (by decide) ?_
    exact SW.iret dX8_indexOf_35 rfl rfl ⟨_, rfl, vc⟩
  · replace vc := vc.2 hbr
    refine SW.iload dX8_indexOf_9 rfl ?_
    refine SW.aload_n dX8_indexOf_11 rfl ?_
    refine SW.alen hr0.1 (by decide) hr0.2.1 (hW.le hr0.2.2) dX8_indexOf_12 ?_
    refine SW.icmp_ge 34 dX8_indexOf_13 (by decide) (fun hbr => ?_) (fun hbr => ?_)
    · replace vc := vc.1 hbr
      refine SW.iconst (v := (-1 : Int32)) dX8_indexOf_34 (by decide) ?_
      exact SW.iret dX8_indexOf_35 rfl rfl ⟨_, rfl, vc⟩
    · replace vc := vc.2 hbr
      refine SW.aload_n dX8_indexOf_16 rfl ?_
      refine SW.iload dX8_indexOf_17 rfl ?_
      refine SW.lald hr0.1 hr0.2.1 (hW.le hr0.2.2) vc.1 dX8_indexOf_19 ?_
      replace vc := vc.2
      refine SW.lload_n dX8_indexOf_20 rfl ?_
      refine SW.lcmp dX8_indexOf_21 ?_
      refine SW.if_ne 28 dX8_indexOf_22 (by decide) (fun hbr => ?_) (fun hbr => ?_)
      · replace vc := vc.1 hbr
        refine SW.iinc (v := (x4 + (1 : Int32))) dX8_indexOf_28 rfl rfl (by decide) rfl rfl ?_
        refine SW.goto 3 dX8_indexOf_31 (by decide) ?_
        exact vc
      · replace vc := vc.2 hbr
        refine SW.iload dX8_indexOf_25 rfl ?_
        exact SW.iret dX8_indexOf_27 rfl rfl ⟨_, rfl, vc⟩
theorem ctX8_indexOf {G : GG} {q : Int32 → Nat → SG → TU → TH → Prop} {n : Nat} {σ : SG} {τ : TU} {θ : TH} (r0 rn0 : Nat) (x1 : Int32) (x2 : Int64) (h : SW G 1 mX8_indexOf (aw_qi q) 0 0 0 [some (.ref r0), some (.int x1), some (.long x2), none, none] [] (n, σ, τ, θ)) : SMi G 1 mX8_indexOf 0 0 [.ref r0, .int x1, .long x2] n σ τ θ q := SM.of _ rfl rfl (Nat.le_of_ble_eq_true rfl) h
set_option maxHeartbeats 4000000 in
set_option maxRecDepth 20000 in
theorem sgX8_is_0 {G : GG} {k : Nat} {q : Int32 → Nat → SG → TU → TH → Prop} {n : Nat} {σ : SG} {τ : TU} {θ : TH} (j : Nat) (st : String × Nat × String × List Int32)  (hk : 5 ≤ k) (hj : aw_strs[j]? = some st) (hW : aw_WT n θ) (vc : ((¬ (σ 2 8) = (1 : Int32)) → (q (0 : Int32) n σ τ θ)) ∧ (((σ 2 8) = (1 : Int32)) → (SMi G 2 mJ0_length_8abf5 0 0 [.ref (1000 + j)] n σ τ θ (fun a1 n1 σ1 τ1 θ1 => aw_WT n1 θ1 ∧ (((((σ 2 10) - (σ 2 9)) = a1) → (SW G k mX8_is (aw_qi q) 0 0 28 [some (.ref 2), some (.ref (1000 + j)), some (.int (0 : Int32))] [] (n1, σ1, τ1, θ1))) ∧ ((¬ ((σ 2 10) - (σ 2 9)) = a1) → (q (0 : Int32) n1 σ1 τ1 θ1))))))) : SW G k mX8_is (aw_qi q) 0 0 0 [some (.ref 2), some (.ref (1000 + j)), none] [] (n, σ, τ, θ) := by
  refine SW.aload_n dX8_is_0 rfl ?_
  refine SW.getI (f := 8) aw_cl8 kp_2 (by decide) (hW.le (by decide)) (by decide) ww_156 dX8_is_1 rfl ?_
  refine SW.iconst (v := (1 : Int32)) dX8_is_4 (by decide) ?_
  refine SW.icmp_ne 24 dX8_is_5 (by decide) (fun hbr => ?_) (fun hbr => ?_)
  · replace vc := vc.1 hbr
    refine SW.iconst (v := (0 : Int32)) dX8_is_24 (by decide) ?_
    exact SW.iret dX8_is_25 rfl rfl ⟨_, rfl, vc⟩
  · replace vc := vc.2 hbr
    refine SW.aload_n dX8_is_8 rfl ?_
    refine SW.getI (f := 10) aw_cl8 kp_2 (by decide) (hW.le (by decide)) (by decide) ww_158 dX8_is_9 rfl ?_
    refine SW.aload_n dX8_is_12 rfl ?_
    refine SW.getI (f := 9) aw_cl8 kp_2 (by decide) (hW.le (by decide)) (by decide) ww_157 dX8_is_13 rfl ?_
    refine SW.isub dX8_is_16 ?_
    refine SW.aload_n dX8_is_17 rfl ?_
    refine SW.ct0 kV_X8_230 (by omega) hj rfl (Nat.le_of_ble_eq_true rfl) dX8_is_18 (SMi.mono vc ?_)
    intro a1 n1 σ1 τ1 θ1 vc
    obtain ⟨hW, vc⟩ := vc
    refine SW.icmp_eq 26 dX8_is_21 (by decide) (fun hbr => ?_) (fun hbr => ?_)
    · replace vc := vc.1 hbr
      refine SW.iconst (v := (0 : Int32)) dX8_is_26 (by decide) ?_
      refine SW.istore_n dX8_is_27 (by decide) rfl rfl ?_
      exact vc
    · replace vc := vc.2 hbr
      refine SW.iconst (v := (0 : Int32)) dX8_is_24 (by decide) ?_
      exact SW.iret dX8_is_25 rfl rfl ⟨_, rfl, vc⟩
set_option maxHeartbeats 4000000 in
set_option maxRecDepth 20000 in
theorem sgX8_is_28 {G : GG} {k : Nat} {q : Int32 → Nat → SG → TU → TH → Prop} {n : Nat} {σ : SG} {τ : TU} {θ : TH} (j : Nat) (st : String × Nat × String × List Int32) (x2 : Int32) (hk : 5 ≤ k) (hj : aw_strs[j]? = some st) (hW : aw_WT n θ) (vc : SMi G 2 mJ0_length_8abf5 0 0 [.ref (1000 + j)] n σ τ θ (fun a1 n1 σ1 τ1 θ1 => aw_WT n1 θ1 ∧ (((a1 ≤ x2) → (q (1 : Int32) n1 σ1 τ1 θ1)) ∧ ((¬ a1 ≤ x2) → (vp_in ((σ1 2 9) + x2) 900 ∧ (SMi G 4 mJ0_charAt_5068e 0 0 [.ref (1000 + j), .int x2] n1 σ1 τ1 θ1 (fun a2 n2 σ2 τ2 θ2 => aw_WT n2 θ2 ∧ ((((σ1 3 ((σ1 2 9) + x2).toNatClampNeg) = a2) → (SW G k mX8_is (aw_qi q) 0 0 28 [some (.ref 2), some (.ref (1000 + j)), some (.int (x2 + (1 : Int32)))] [] (n2, σ2, τ2, θ2))) ∧ ((¬ (σ1 3 ((σ1 2 9) + x2).toNatClampNeg) = a2) → (q (0 : Int32) n2 σ2 τ2 θ2)))))))))) : SW G k mX8_is (aw_qi q) 0 0 28 [some (.ref 2), some (.ref (1000 + j)), some (.int x2)] [] (n, σ, τ, θ) := by
  refine SW.iload_n dX8_is_28 rfl ?_
  refine SW.aload_n dX8_is_29 rfl ?_
  refine SW.ct0 kV_X8_230 (by omega) hj rfl (Nat.le_of_ble_eq_true rfl) dX8_is_30 (SMi.mono vc ?_)
  intro a1 n1 σ1 τ1 θ1 vc
  obtain ⟨hW, vc⟩ := vc
  refine SW.icmp_ge 63 dX8_is_33 (by decide) (fun hbr => ?_) (fun hbr => ?_)
  · replace vc := vc.1 hbr
    refine SW.iconst (v := (1 : Int32)) dX8_is_63 (by decide) ?_
    exact SW.iret dX8_is_64 rfl rfl ⟨_, rfl, vc⟩
  · replace vc := vc.2 hbr
    refine SW.aload_n dX8_is_36 rfl ?_
    refine SW.getS (f := 2) (r := 3) aw_cl8 kp_2 (by decide) (hW.le (by decide)) (by decide) ww_150 dX8_is_37 rfl hW.t2_2 ?_
    refine SW.aload_n dX8_is_40 rfl ?_
    refine SW.getI (f := 9) aw_cl8 kp_2 (by decide) (hW.le (by decide)) (by decide) ww_157 dX8_is_41 rfl ?_
    refine SW.iload_n dX8_is_44 rfl ?_
    refine SW.iadd dX8_is_45 ?_
    refine SW.bald kp_3 (by decide) (hW.le (by decide)) vc.1 dX8_is_46 ?_
    replace vc := vc.2
    refine SW.aload_n dX8_is_47 rfl ?_
    refine SW.iload_n dX8_is_48 rfl ?_
    refine SW.ct1 kV_X8_235 (by omega) hj rfl (Nat.le_of_ble_eq_true rfl) dX8_is_49 (SMi.mono vc ?_)
    intro a2 n2 σ2 τ2 θ2 vc
    obtain ⟨hW, vc⟩ := vc
    refine SW.icmp_eq 57 dX8_is_52 (by decide) (fun hbr => ?_) (fun hbr => ?_)
    · replace vc := vc.1 hbr
      refine SW.iinc (v := (x2 + (1 : Int32))) dX8_is_57 rfl rfl (by decide) rfl rfl ?_
      refine SW.goto 28 dX8_is_60 (by decide) ?_
      exact vc
    · replace vc := vc.2 hbr
      refine SW.iconst (v := (0 : Int32)) dX8_is_55 (by decide) ?_
      exact SW.iret dX8_is_56 rfl rfl ⟨_, rfl, vc⟩
theorem ctX8_is {G : GG} {q : Int32 → Nat → SG → TU → TH → Prop} {n : Nat} {σ : SG} {τ : TU} {θ : TH} (j : Nat) (h : SW G 5 mX8_is (aw_qi q) 0 0 0 [some (.ref 2), some (.ref (1000 + j)), none] [] (n, σ, τ, θ)) : SMi G 5 mX8_is 0 0 [.ref 2, .ref (1000 + j)] n σ τ θ q := SM.of _ rfl rfl (Nat.le_of_ble_eq_true rfl) h
set_option maxHeartbeats 4000000 in
set_option maxRecDepth 20000 in
theorem sgX8_isLineWord_0 {G : GG} {k : Nat} {q : Int32 → Nat → SG → TU → TH → Prop} {n : Nat} {σ : SG} {τ : TU} {θ : TH}   (hk : 6 ≤ k)  (hW : aw_WT n θ) (vc : SMi G 5 mX8_is 0 0 [.ref 2, .ref (1000 + 0)] n σ τ θ (fun a1 n1 σ1 τ1 θ1 => aw_WT n1 θ1 ∧ (((¬ a1 = 0) → (q (1 : Int32) n1 σ1 τ1 θ1)) ∧ ((a1 = 0) → (SMi G 5 mX8_is 0 0 [.ref 2, .ref (1000 + 1)] n1 σ1 τ1 θ1 (fun a2 n2 σ2 τ2 θ2 => aw_WT n2 θ2 ∧ (((¬ a2 = 0) → (q (1 : Int32) n2 σ2 τ2 θ2)) ∧ ((a2 = 0) → (SMi G 5 mX8_is 0 0 [.ref 2, .ref (1000 + 2)] n2 σ2 τ2 θ2 (fun a3 n3 σ3 τ3 θ3 => aw_WT n3 θ3 ∧ (((¬ a3 = 0) → (q (1 : Int32) n3 σ3 τ3 θ3)) ∧ ((a3 = 0) → (SMi G 5 mX8_is 0 0 [.ref 2, .ref (1000 + 3)] n3 σ3 τ3 θ3 (fun a4 n4 σ4 τ4 θ4 => aw_WT n4 θ4 ∧ (((¬ a4 = 0) → (q (1 : Int32) n4 σ4 τ4 θ4)) ∧ ((a4 = 0) → (SMi G 5 mX8_is 0 0 [.ref 2, .ref (1000 + 4)] n4 σ4 τ4 θ4 (fun a5 n5 σ5 τ5 θ5 => aw_WT n5 θ5 ∧ (((¬ a5 = 0) → (q (1 : Int32) n5 σ5 τ5 θ5)) ∧ ((a5 = 0) → (SMi G 5 mX8_is 0 0 [.ref 2, .ref (1000 + 5)] n5 σ5 τ5 θ5 (fun a6 n6 σ6 τ6 θ6 => aw_WT n6 θ6 ∧ (((¬ a6 = 0) → (q (1 : Int32) n6 σ6 τ6 θ6)) ∧ ((a6 = 0) → (SMi G 5 mX8_is 0 0 [.ref 2, .ref (1000 + 6)] n6 σ6 τ6 θ6 (fun a7 n7 σ7 τ7 θ7 => aw_WT n7 θ7 ∧ (((a7 = 0) → (q (0 : Int32) n7 σ7 τ7 θ7)) ∧ ((¬ a7 = 0) → (q (1 : Int32) n7 σ7 τ7 θ7))))))))))))))))))))))))))))) : SW G k mX8_isLineWord (aw_qi q) 0 0 0 [some (.ref 2)] [] (n, σ, τ, θ) := by
  refine SW.aload_n dX8_isLineWord_0 rfl ?_
  refine SW.ldcS (j := 0) rfl dX8_isLineWord_1 ?_
  refine SW.cvi1 kV_X8_83 (by omega) aw_cl8 kp_2 (by decide) (hW.le (by decide)) rfl (Nat.le_of_ble_eq_true rfl) dX8_isLineWord_3 (SMi.mono vc ?_)
  intro a1 n1 σ1 τ1 θ1 vc
  obtain ⟨hW, vc⟩ := vc
  refine SW.if_ne 63 dX8_isLineWord_6 (by decide) (fun hbr => ?_) (fun hbr => ?_)
  · replace vc := vc.1 hbr
    refine SW.iconst (v := (1 : Int32)) dX8_isLineWord_63 (by decide) ?_
    refine SW.goto 68 dX8_isLineWord_64 (by decide) ?_
    exact SW.iret dX8_isLineWord_68 rfl rfl ⟨_, rfl, vc⟩
  · replace vc := vc.2 hbr
    refine SW.aload_n dX8_isLineWord_9 rfl ?_
    refine SW.ldcS (j := 1) rfl dX8_isLineWord_10 ?_
    refine SW.cvi1 kV_X8_83 (by omega) aw_cl8 kp_2 (by decide) (hW.le (by decide)) rfl (Nat.le_of_ble_eq_true rfl) dX8_isLineWord_12 (SMi.mono vc ?_)
    intro a2 n2 σ2 τ2 θ2 vc
    obtain ⟨hW, vc⟩ := vc
    refine SW.if_ne 63 dX8_isLineWord_15 (by decide) (fun hbr => ?_) (fun hbr => ?_)
    · replace vc := vc.1 hbr
      refine SW.iconst (v := (1 : Int32)) dX8_isLineWord_63 (by decide) ?_
      refine SW.goto 68 dX8_isLineWord_64 (by decide) ?_
      exact SW.iret dX8_isLineWord_68 rfl rfl ⟨_, rfl, vc⟩
    · replace vc := vc.2 hbr
      refine SW.aload_n dX8_isLineWord_18 rfl ?_
      refine SW.ldcS (j := 2) rfl dX8_isLineWord_19 ?_
      refine SW.cvi1 kV_X8_83 (by omega) aw_cl8 kp_2 (by decide) (hW.le (by decide)) rfl (Nat.le_of_ble_eq_true rfl) dX8_isLineWord_21 (SMi.mono vc ?_)
      intro a3 n3 σ3 τ3 θ3 vc
      obtain ⟨hW, vc⟩ := vc
      refine SW.if_ne 63 dX8_isLineWord_24 (by decide) (fun hbr => ?_) (fun hbr => ?_)
      · replace vc := vc.1 hbr
        refine SW.iconst (v := (1 : Int32)) dX8_isLineWord_63 (by decide) ?_
        refine SW.goto 68 dX8_isLineWord_64 (by decide) ?_
        exact SW.iret dX8_isLineWord_68 rfl rfl ⟨_, rfl, vc⟩
      · replace vc := vc.2 hbr
        refine SW.aload_n dX8_isLineWord_27 rfl ?_
        refine SW.ldcS (j := 3) rfl dX8_isLineWord_28 ?_
        refine SW.cvi1 kV_X8_83 (by omega) aw_cl8 kp_2 (by decide) (hW.le (by decide)) rfl (Nat.le_of_ble_eq_true rfl) dX8_isLineWord_30 (SMi.mono vc ?_)
        intro a4 n4 σ4 τ4 θ4 vc
        obtain ⟨hW, vc⟩ := vc
        refine SW.if_ne 63 dX8_isLineWord_33 (by decide) (fun hbr => ?_) (fun hbr => ?_)
        · replace vc := vc.1 hbr
          refine SW.iconst (v := (1 : Int32)) dX8_isLineWord_63 (by decide) ?_
          refine SW.goto 68 dX8_isLineWord_64 (by decide) ?_
          exact SW.iret dX8_isLineWord_68 rfl rfl ⟨_, rfl, vc⟩
        · replace vc := vc.2 hbr
          refine SW.aload_n dX8_isLineWord_36 rfl ?_
          refine SW.ldcS (j := 4) rfl dX8_isLineWord_37 ?_
          refine SW.cvi1 kV_X8_83 (by omega) aw_cl8 kp_2 (by decide) (hW.le (by decide)) rfl (Nat.le_of_ble_eq_true rfl) dX8_isLineWord_39 (SMi.mono vc ?_)
          intro a5 n5 σ5 τ5 θ5 vc
          obtain ⟨hW, vc⟩ := vc
          refine SW.if_ne 63 dX8_isLineWord_42 (by decide) (fun hbr => ?_) (fun hbr => ?_)
          · replace vc := vc.1 hbr
            refine SW.iconst (v := (1 : Int32)) dX8_isLineWord_63 (by decide) ?_
            refine SW.goto 68 dX8_isLineWord_64 (by decide) ?_
            exact SW.iret dX8_isLineWord_68 rfl rfl ⟨_, rfl, vc⟩
          · replace vc := vc.2 hbr
            refine SW.aload_n dX8_isLineWord_45 rfl ?_
            refine SW.ldcS (j := 5) rfl dX8_isLineWord_46 ?_
            refine SW.cvi1 kV_X8_83 (by omega) aw_cl8 kp_2 (by decide) (hW.le (by decide)) rfl (Nat.le_of_ble_eq_true rfl) dX8_isLineWord_48 (SMi.mono vc ?_)
            intro a6 n6 σ6 τ6 θ6 vc
            obtain ⟨hW, vc⟩ := vc
            refine SW.if_ne 63 dX8_isLineWord_51 (by decide) (fun hbr => ?_) (fun hbr => ?_)
            · replace vc := vc.1 hbr
              refine SW.iconst (v := (1 : Int32)) dX8_isLineWord_63 (by decide) ?_
              refine SW.goto 68 dX8_isLineWord_64 (by decide) ?_
              exact SW.iret dX8_isLineWord_68 rfl rfl ⟨_, rfl, vc⟩
            · replace vc := vc.2 hbr
              refine SW.aload_n dX8_isLineWord_54 rfl ?_
              refine SW.ldcS (j := 6) rfl dX8_isLineWord_55 ?_
              refine SW.cvi1 kV_X8_83 (by omega) aw_cl8 kp_2 (by decide) (hW.le (by decide)) rfl (Nat.le_of_ble_eq_true rfl) dX8_isLineWord_57 (SMi.mono vc ?_)
              intro a7 n7 σ7 τ7 θ7 vc
              obtain ⟨hW, vc⟩ := vc
              refine SW.if_eq 67 dX8_isLineWord_60 (by decide) (fun hbr => ?_) (fun hbr => ?_)
              · replace vc := vc.1 hbr
                refine SW.iconst (v := (0 : Int32)) dX8_isLineWord_67 (by decide) ?_
                exact SW.iret dX8_isLineWord_68 rfl rfl ⟨_, rfl, vc⟩
              · replace vc := vc.2 hbr
                refine SW.iconst (v := (1 : Int32)) dX8_isLineWord_63 (by decide) ?_
                refine SW.goto 68 dX8_isLineWord_64 (by decide) ?_
                exact SW.iret dX8_isLineWord_68 rfl rfl ⟨_, rfl, vc⟩
theorem ctX8_isLineWord {G : GG} {q : Int32 → Nat → SG → TU → TH → Prop} {n : Nat} {σ : SG} {τ : TU} {θ : TH}  (h : SW G 6 mX8_isLineWord (aw_qi q) 0 0 0 [some (.ref 2)] [] (n, σ, τ, θ)) : SMi G 6 mX8_isLineWord 0 0 [.ref 2] n σ τ θ q := SM.of _ rfl rfl (Nat.le_of_ble_eq_true rfl) h
set_option maxHeartbeats 4000000 in
set_option maxRecDepth 20000 in
theorem sgX8_isNewName_0 {G : GG} {k : Nat} {q : Int32 → Nat → SG → TU → TH → Prop} {n : Nat} {σ : SG} {τ : TU} {θ : TH} (f : Nat)  (hk : 7 ≤ k) (hf : isF f) (hW : aw_WT n θ) (vc : ((¬ (σ 2 8) = (1 : Int32)) → (SMi G 1 mX8_blame 0 0 [.ref 2, .int (1 : Int32)] n σ τ θ (fun a1 n1 σ1 τ1 θ1 => aw_WT n1 θ1 ∧ ((a1 = 0 ∨ a1 = 1) ∧ q a1 n1 σ1 τ1 θ1)))) ∧ (((σ 2 8) = (1 : Int32)) → (SMi G 6 mX8_isLineWord 0 0 [.ref 2] n σ τ θ (fun a2 n2 σ2 τ2 θ2 => aw_WT n2 θ2 ∧ (((a2 = 0) → (SMl G 1 mX8_code 0 0 [.ref 2] n2 σ2 τ2 θ2 (fun a3 n3 σ3 τ3 θ3 => aw_WT n3 θ3 ∧ (SMi G 1 mX8_indexOf 0 0 [.ref 4, .int (σ3 f 13), .long a3] n3 σ3 τ3 θ3 (fun a4 n4 σ4 τ4 θ4 => aw_WT n4 θ4 ∧ (((¬ a4 = (-1 : Int32)) → (SMi G 1 mX8_blame 0 0 [.ref 2, .int (3 : Int32)] n4 σ4 τ4 θ4 (fun a5 n5 σ5 τ5 θ5 => aw_WT n5 θ5 ∧ ((a5 = 0 ∨ a5 = 1) ∧ q a5 n5 σ5 τ5 θ5)))) ∧ ((a4 = (-1 : Int32)) → (SMi G 1 mX8_indexOf 0 0 [.ref 5, .int (σ4 f 14), .long a3] n4 σ4 τ4 θ4 (fun a6 n6 σ6 τ6 θ6 => aw_WT n6 θ6 ∧ (((a6 = (-1 : Int32)) → (q (1 : Int32) n6 σ6 τ6 θ6)) ∧ ((¬ a6 = (-1 : Int32)) → (SMi G 1 mX8_blame 0 0 [.ref 2, .int (3 : Int32)] n6 σ6 τ6 θ6 (fun a7 n7 σ7 τ7 θ7 => aw_WT n7 θ7 ∧ ((a7 = 0 ∨ a7 = 1) ∧ q a7 n7 σ7 τ7 θ7)))))))))))))) ∧ ((¬ a2 = 0) → (SMi G 1 mX8_blame 0 0 [.ref 2, .int (1 : Int32)] n2 σ2 τ2 θ2 (fun a8 n8 σ8 τ8 θ8 => aw_WT n8 θ8 ∧ ((a8 = 0 ∨ a8 = 1) ∧ q a8 n8 σ8 τ8 θ8))))))))) : SW G k mX8_isNewName (aw_qi q) 0 0 0 [some (.ref 2), some (.ref f), none, none] [] (n, σ, τ, θ) := by
  refine SW.aload_n dX8_isNewName_0 rfl ?_
  refine SW.getI (f := 8) aw_cl8 kp_2 (by decide) (hW.le (by decide)) (by decide) ww_156 dX8_isNewName_1 rfl ?_
  refine SW.iconst (v := (1 : Int32)) dX8_isNewName_4 (by decide) ?_
  refine SW.icmp_ne 15 dX8_isNewName_5 (by decide) (fun hbr => ?_) (fun hbr => ?_)
  · replace vc := vc.1 hbr
    refine SW.aload_n dX8_isNewName_15 rfl ?_
    refine SW.iconst (v := (1 : Int32)) dX8_isNewName_16 (by decide) ?_
    refine SW.cvi1 kV_X8_77 (by omega) aw_cl8 kp_2 (by decide) (hW.le (by decide)) rfl (Nat.le_of_ble_eq_true rfl) dX8_isNewName_17 (SMi.mono vc ?_)
    intro a1 n1 σ1 τ1 θ1 vc
    obtain ⟨hW, vc⟩ := vc
    exact SW.iret dX8_isNewName_20 rfl (aw_nb vc.1) ⟨_, rfl, vc.2⟩
  · replace vc := vc.2 hbr
    refine SW.aload_n dX8_isNewName_8 rfl ?_
    refine SW.cvi0 kV_X8_73 (by omega) aw_cl8 kp_2 (by decide) (hW.le (by decide)) rfl (Nat.le_of_ble_eq_true rfl) dX8_isNewName_9 (SMi.mono vc ?_)
    intro a2 n2 σ2 τ2 θ2 vc
    obtain ⟨hW, vc⟩ := vc
    refine SW.if_eq 21 dX8_isNewName_12 (by decide) (fun hbr => ?_) (fun hbr => ?_)
    · replace vc := vc.1 hbr
      refine SW.aload_n dX8_isNewName_21 rfl ?_
      refine SW.cvl0 kV_X8_152 (by omega) aw_cl8 kp_2 (by decide) (hW.le (by decide)) rfl (Nat.le_of_ble_eq_true rfl) dX8_isNewName_22 (SMl.mono vc ?_)
      intro a3 n3 σ3 τ3 θ3 vc
      obtain ⟨hW, vc⟩ := vc
      refine SW.lstore_n dX8_isNewName_25 (by decide) rfl rfl ?_
      refine SW.aload_n dX8_isNewName_26 rfl ?_
      refine SW.getS (f := 3) (r := 4) aw_cl8 kp_2 (by decide) (hW.le (by decide)) (by decide) ww_151 dX8_isNewName_27 rfl hW.t2_3 ?_
      refine SW.aload_n dX8_isNewName_30 rfl ?_
      refine SW.getI (f := 13) aw_cl1 (kpF_0 hf) (leF_0 hf).1 (hW.le (leF_0 hf).2) (by decide) ww_422 dX8_isNewName_31 rfl ?_
      refine SW.lload_n dX8_isNewName_34 rfl ?_
      refine SW.csi3 kS_X8_205 (by omega) (Nat.le_of_ble_eq_true rfl) dX8_isNewName_35 (SMi.mono vc ?_)
      intro a4 n4 σ4 τ4 θ4 vc
      obtain ⟨hW, vc⟩ := vc
      refine SW.iconst (v := (-1 : Int32)) dX8_isNewName_38 (by decide) ?_
      refine SW.icmp_ne 58 dX8_isNewName_39 (by decide) (fun hbr => ?_) (fun hbr => ?_)
      · replace vc := vc.1 hbr
        refine SW.aload_n dX8_isNewName_58 rfl ?_
        refine SW.iconst (v := (3 : Int32)) dX8_isNewName_59 (by decide) ?_
        refine SW.cvi1 kV_X8_77 (by omega) aw_cl8 kp_2 (by decide) (hW.le (by decide)) rfl (Nat.le_of_ble_eq_true rfl) dX8_isNewName_60 (SMi.mono vc ?_)
        intro a5 n5 σ5 τ5 θ5 vc
        obtain ⟨hW, vc⟩ := vc
        exact SW.iret dX8_isNewName_63 rfl (aw_nb vc.1) ⟨_, rfl, vc.2⟩
      · replace vc := vc.2 hbr
        refine SW.aload_n dX8_isNewName_42 rfl ?_
        refine SW.getS (f := 4) (r := 5) aw_cl8 kp_2 (by decide) (hW.le (by decide)) (by decide) ww_152 dX8_isNewName_43 rfl hW.t2_4 ?_
        refine SW.aload_n dX8_isNewName_46 rfl ?_
        refine SW.getI (f := 14) aw_cl1 (kpF_0 hf) (leF_0 hf).1 (hW.le (leF_0 hf).2) (by decide) ww_426 dX8_isNewName_47 rfl ?_
        refine SW.lload_n dX8_isNewName_50 rfl ?_
        refine SW.csi3 kS_X8_205 (by omega) (Nat.le_of_ble_eq_true rfl) dX8_isNewName_51 (SMi.mono vc ?_)
        intro a6 n6 σ6 τ6 θ6 vc
        obtain ⟨hW, vc⟩ := vc
        refine SW.iconst (v := (-1 : Int32)) dX8_isNewName_54 (by decide) ?_
        refine SW.icmp_eq 64 dX8_isNewName_55 (by decide) (fun hbr => ?_) (fun hbr => ?_)
        · replace vc := vc.1 hbr
          refine SW.iconst (v := (1 : Int32)) dX8_isNewName_64 (by decide) ?_
          exact SW.iret dX8_isNewName_65 rfl rfl ⟨_, rfl, vc⟩
        · replace vc := vc.2 hbr
          refine SW.aload_n dX8_isNewName_58 rfl ?_
          refine SW.iconst (v := (3 : Int32)) dX8_isNewName_59 (by decide) ?_
          refine SW.cvi1 kV_X8_77 (by omega) aw_cl8 kp_2 (by decide) (hW.le (by decide)) rfl (Nat.le_of_ble_eq_true rfl) dX8_isNewName_60 (SMi.mono vc ?_)
          intro a7 n7 σ7 τ7 θ7 vc
          obtain ⟨hW, vc⟩ := vc
          exact SW.iret dX8_isNewName_63 rfl (aw_nb vc.1) ⟨_, rfl, vc.2⟩
    · replace vc := vc.2 hbr
      refine SW.aload_n dX8_isNewName_15 rfl ?_
      refine SW.iconst (v := (1 : Int32)) dX8_isNewName_16 (by decide) ?_
      refine SW.cvi1 kV_X8_77 (by omega) aw_cl8 kp_2 (by decide) (hW.le (by decide)) rfl (Nat.le_of_ble_eq_true rfl) dX8_isNewName_17 (SMi.mono vc ?_)
      intro a8 n8 σ8 τ8 θ8 vc
      obtain ⟨hW, vc⟩ := vc
      exact SW.iret dX8_isNewName_20 rfl (aw_nb vc.1) ⟨_, rfl, vc.2⟩
theorem ctX8_isNewName {G : GG} {q : Int32 → Nat → SG → TU → TH → Prop} {n : Nat} {σ : SG} {τ : TU} {θ : TH} (f : Nat) (h : SW G 7 mX8_isNewName (aw_qi q) 0 0 0 [some (.ref 2), some (.ref f), none, none] [] (n, σ, τ, θ)) : SMi G 7 mX8_isNewName 0 0 [.ref 2, .ref f] n σ τ θ q := SM.of _ rfl rfl (Nat.le_of_ble_eq_true rfl) h
set_option maxHeartbeats 4000000 in
set_option maxRecDepth 20000 in
theorem sgX8_kindHere_0 {G : GG} {k : Nat} {q : Int32 → Nat → SG → TU → TH → Prop} {n : Nat} {σ : SG} {τ : TU} {θ : TH}   (hk : 6 ≤ k)  (hW : aw_WT n θ) (vc : SMi G 5 mX8_is 0 0 [.ref 2, .ref (1000 + 11)] n σ τ θ (fun a1 n1 σ1 τ1 θ1 => aw_WT n1 θ1 ∧ (((a1 = 0) → (SMi G 5 mX8_is 0 0 [.ref 2, .ref (1000 + 12)] n1 σ1 τ1 θ1 (fun a2 n2 σ2 τ2 θ2 => aw_WT n2 θ2 ∧ (((a2 = 0) → (SMi G 5 mX8_is 0 0 [.ref 2, .ref (1000 + 13)] n2 σ2 τ2 θ2 (fun a3 n3 σ3 τ3 θ3 => aw_WT n3 θ3 ∧ (((a3 = 0) → (SMi G 5 mX8_is 0 0 [.ref 2, .ref (1000 + 14)] n3 σ3 τ3 θ3 (fun a4 n4 σ4 τ4 θ4 => aw_WT n4 θ4 ∧ (((a4 = 0) → (q (-1 : Int32) n4 σ4 τ4 θ4)) ∧ ((¬ a4 = 0) → (q (3 : Int32) n4 σ4 τ4 θ4)))))) ∧ ((¬ a3 = 0) → (q (2 : Int32) n3 σ3 τ3 θ3)))))) ∧ ((¬ a2 = 0) → (q (1 : Int32) n2 σ2 τ2 θ2)))))) ∧ ((¬ a1 = 0) → (q (0 : Int32) n1 σ1 τ1 θ1))))) : SW G k mX8_kindHere (aw_qi q) 0 0 0 [some (.ref 2)] [] (n, σ, τ, θ) := by
  refine SW.aload_n dX8_kindHere_0 rfl ?_
  refine SW.ldcS (j := 11) rfl dX8_kindHere_1 ?_
  refine SW.cvi1 kV_X8_83 (by omega) aw_cl8 kp_2 (by decide) (hW.le (by decide)) rfl (Nat.le_of_ble_eq_true rfl) dX8_kindHere_3 (SMi.mono vc ?_)
  intro a1 n1 σ1 τ1 θ1 vc
  obtain ⟨hW, vc⟩ := vc
  refine SW.if_eq 11 dX8_kindHere_6 (by decide) (fun hbr => ?_) (fun hbr => ?_)
  · replace vc := vc.1 hbr
    refine SW.aload_n dX8_kindHere_11 rfl ?_
    refine SW.ldcS (j := 12) rfl dX8_kindHere_12 ?_
    refine SW.cvi1 kV_X8_83 (by omega) aw_cl8 kp_2 (by decide) (hW.le (by decide)) rfl (Nat.le_of_ble_eq_true rfl) dX8_kindHere_14 (SMi.mono vc ?_)
    intro a2 n2 σ2 τ2 θ2 vc
    obtain ⟨hW, vc⟩ := vc
    refine SW.if_eq 22 dX8_kindHere_17 (by decide) (fun hbr => ?_) (fun hbr => ?_)
    · replace vc := vc.1 hbr
      refine SW.aload_n dX8_kindHere_22 rfl ?_
      refine SW.ldcS (j := 13) rfl dX8_kindHere_23 ?_
      refine SW.cvi1 kV_X8_83 (by omega) aw_cl8 kp_2 (by decide) (hW.le (by decide)) rfl (Nat.le_of_ble_eq_true rfl) dX8_kindHere_25 (SMi.mono vc ?_)
      intro a3 n3 σ3 τ3 θ3 vc
      obtain ⟨hW, vc⟩ := vc
      refine SW.if_eq 33 dX8_kindHere_28 (by decide) (fun hbr => ?_) (fun hbr => ?_)
      · replace vc := vc.1 hbr
        refine SW.aload_n dX8_kindHere_33 rfl ?_
        refine SW.ldcS (j := 14) rfl dX8_kindHere_34 ?_
        refine SW.cvi1 kV_X8_83 (by omega) aw_cl8 kp_2 (by decide) (hW.le (by decide)) rfl (Nat.le_of_ble_eq_true rfl) dX8_kindHere_36 (SMi.mono vc ?_)
        intro a4 n4 σ4 τ4 θ4 vc
        obtain ⟨hW, vc⟩ := vc
        refine SW.if_eq 46 dX8_kindHere_39 (by decide) (fun hbr => ?_) (fun hbr => ?_)
        · replace vc := vc.1 hbr
          refine SW.iconst (v := (-1 : Int32)) dX8_kindHere_46 (by decide) ?_
          exact SW.iret dX8_kindHere_47 rfl rfl ⟨_, rfl, vc⟩
        · replace vc := vc.2 hbr
          refine SW.iconst (v := (3 : Int32)) dX8_kindHere_42 (by decide) ?_
          refine SW.goto 47 dX8_kindHere_43 (by decide) ?_
          exact SW.iret dX8_kindHere_47 rfl rfl ⟨_, rfl, vc⟩
      · replace vc := vc.2 hbr
        refine SW.iconst (v := (2 : Int32)) dX8_kindHere_31 (by decide) ?_
        exact SW.iret dX8_kindHere_32 rfl rfl ⟨_, rfl, vc⟩
    · replace vc := vc.2 hbr
      refine SW.iconst (v := (1 : Int32)) dX8_kindHere_20 (by decide) ?_
      exact SW.iret dX8_kindHere_21 rfl rfl ⟨_, rfl, vc⟩
  · replace vc := vc.2 hbr
    refine SW.iconst (v := (0 : Int32)) dX8_kindHere_9 (by decide) ?_
    exact SW.iret dX8_kindHere_10 rfl rfl ⟨_, rfl, vc⟩
theorem ctX8_kindHere {G : GG} {q : Int32 → Nat → SG → TU → TH → Prop} {n : Nat} {σ : SG} {τ : TU} {θ : TH}  (h : SW G 6 mX8_kindHere (aw_qi q) 0 0 0 [some (.ref 2)] [] (n, σ, τ, θ)) : SMi G 6 mX8_kindHere 0 0 [.ref 2] n σ τ θ q := SM.of _ rfl rfl (Nat.le_of_ble_eq_true rfl) h
set_option maxHeartbeats 4000000 in
set_option maxRecDepth 20000 in
theorem sgX8_manHere_0 {G : GG} {k : Nat} {q : Int32 → Nat → SG → TU → TH → Prop} {n : Nat} {σ : SG} {τ : TU} {θ : TH} (f : Nat)  (hk : 7 ≤ k) (hf : isF f) (hW : aw_WT n θ) (vc : ((¬ (σ 2 8) = (1 : Int32)) → (SMi G 1 mX8_blame 0 0 [.ref 2, .int (1 : Int32)] n σ τ θ (fun a1 n1 σ1 τ1 θ1 => aw_WT n1 θ1 ∧ (q (-1 : Int32) n1 σ1 τ1 θ1)))) ∧ (((σ 2 8) = (1 : Int32)) → (SMi G 6 mX8_isLineWord 0 0 [.ref 2] n σ τ θ (fun a2 n2 σ2 τ2 θ2 => aw_WT n2 θ2 ∧ (((a2 = 0) → (SMl G 1 mX8_code 0 0 [.ref 2] n2 σ2 τ2 θ2 (fun a3 n3 σ3 τ3 θ3 => aw_WT n3 θ3 ∧ (SMi G 1 mX8_indexOf 0 0 [.ref 4, .int (σ2 f 13), .long a3] n3 σ3 τ3 θ3 (fun a4 n4 σ4 τ4 θ4 => aw_WT n4 θ4 ∧ (((¬ a4 = (-1 : Int32)) → (q a4 n4 σ4 τ4 θ4)) ∧ ((a4 = (-1 : Int32)) → (SMi G 1 mX8_blame 0 0 [.ref 2, .int (2 : Int32)] n4 σ4 τ4 θ4 (fun a5 n5 σ5 τ5 θ5 => aw_WT n5 θ5 ∧ (q a4 n5 σ5 τ5 θ5)))))))))) ∧ ((¬ a2 = 0) → (SMi G 1 mX8_blame 0 0 [.ref 2, .int (1 : Int32)] n2 σ2 τ2 θ2 (fun a6 n6 σ6 τ6 θ6 => aw_WT n6 θ6 ∧ (q (-1 : Int32) n6 σ6 τ6 θ6))))))))) : SW G k mX8_manHere (aw_qi q) 0 0 0 [some (.ref 2), some (.ref f), none] [] (n, σ, τ, θ) := by
  refine SW.aload_n dX8_manHere_0 rfl ?_
  refine SW.getI (f := 8) aw_cl8 kp_2 (by decide) (hW.le (by decide)) (by decide) ww_156 dX8_manHere_1 rfl ?_
  refine SW.iconst (v := (1 : Int32)) dX8_manHere_4 (by decide) ?_
  refine SW.icmp_ne 15 dX8_manHere_5 (by decide) (fun hbr => ?_) (fun hbr => ?_)
  · replace vc := vc.1 hbr
    refine SW.aload_n dX8_manHere_15 rfl ?_
    refine SW.iconst (v := (1 : Int32)) dX8_manHere_16 (by decide) ?_
    refine SW.cvi1 kV_X8_77 (by omega) aw_cl8 kp_2 (by decide) (hW.le (by decide)) rfl (Nat.le_of_ble_eq_true rfl) dX8_manHere_17 (SMi.mono vc ?_)
    intro a1 n1 σ1 τ1 θ1 vc
    obtain ⟨hW, vc⟩ := vc
    refine SW.pop dX8_manHere_20 rfl ?_
    refine SW.iconst (v := (-1 : Int32)) dX8_manHere_21 (by decide) ?_
    exact SW.iret dX8_manHere_22 rfl rfl ⟨_, rfl, vc⟩
  · replace vc := vc.2 hbr
    refine SW.aload_n dX8_manHere_8 rfl ?_
    refine SW.cvi0 kV_X8_73 (by omega) aw_cl8 kp_2 (by decide) (hW.le (by decide)) rfl (Nat.le_of_ble_eq_true rfl) dX8_manHere_9 (SMi.mono vc ?_)
    intro a2 n2 σ2 τ2 θ2 vc
    obtain ⟨hW, vc⟩ := vc
    refine SW.if_eq 23 dX8_manHere_12 (by decide) (fun hbr => ?_) (fun hbr => ?_)
    · replace vc := vc.1 hbr
      refine SW.aload_n dX8_manHere_23 rfl ?_
      refine SW.getS (f := 3) (r := 4) aw_cl8 kp_2 (by decide) (hW.le (by decide)) (by decide) ww_151 dX8_manHere_24 rfl hW.t2_3 ?_
      refine SW.aload_n dX8_manHere_27 rfl ?_
      refine SW.getI (f := 13) aw_cl1 (kpF_0 hf) (leF_0 hf).1 (hW.le (leF_0 hf).2) (by decide) ww_422 dX8_manHere_28 rfl ?_
      refine SW.aload_n dX8_manHere_31 rfl ?_
      refine SW.cvl0 kV_X8_152 (by omega) aw_cl8 kp_2 (by decide) (hW.le (by decide)) rfl (Nat.le_of_ble_eq_true rfl) dX8_manHere_32 (SMl.mono vc ?_)
      intro a3 n3 σ3 τ3 θ3 vc
      obtain ⟨hW, vc⟩ := vc
      refine SW.csi3 kS_X8_205 (by omega) (Nat.le_of_ble_eq_true rfl) dX8_manHere_35 (SMi.mono vc ?_)
      intro a4 n4 σ4 τ4 θ4 vc
      obtain ⟨hW, vc⟩ := vc
      refine SW.istore_n dX8_manHere_38 (by decide) rfl rfl ?_
      refine SW.iload_n dX8_manHere_39 rfl ?_
      refine SW.iconst (v := (-1 : Int32)) dX8_manHere_40 (by decide) ?_
      refine SW.icmp_ne 50 dX8_manHere_41 (by decide) (fun hbr => ?_) (fun hbr => ?_)
      · replace vc := vc.1 hbr
        refine SW.iload_n dX8_manHere_50 rfl ?_
        exact SW.iret dX8_manHere_51 rfl rfl ⟨_, rfl, vc⟩
      · replace vc := vc.2 hbr
        refine SW.aload_n dX8_manHere_44 rfl ?_
        refine SW.iconst (v := (2 : Int32)) dX8_manHere_45 (by decide) ?_
        refine SW.cvi1 kV_X8_77 (by omega) aw_cl8 kp_2 (by decide) (hW.le (by decide)) rfl (Nat.le_of_ble_eq_true rfl) dX8_manHere_46 (SMi.mono vc ?_)
        intro a5 n5 σ5 τ5 θ5 vc
        obtain ⟨hW, vc⟩ := vc
        refine SW.pop dX8_manHere_49 rfl ?_
        refine SW.iload_n dX8_manHere_50 rfl ?_
        exact SW.iret dX8_manHere_51 rfl rfl ⟨_, rfl, vc⟩
    · replace vc := vc.2 hbr
      refine SW.aload_n dX8_manHere_15 rfl ?_
      refine SW.iconst (v := (1 : Int32)) dX8_manHere_16 (by decide) ?_
      refine SW.cvi1 kV_X8_77 (by omega) aw_cl8 kp_2 (by decide) (hW.le (by decide)) rfl (Nat.le_of_ble_eq_true rfl) dX8_manHere_17 (SMi.mono vc ?_)
      intro a6 n6 σ6 τ6 θ6 vc
      obtain ⟨hW, vc⟩ := vc
      refine SW.pop dX8_manHere_20 rfl ?_
      refine SW.iconst (v := (-1 : Int32)) dX8_manHere_21 (by decide) ?_
      exact SW.iret dX8_manHere_22 rfl rfl ⟨_, rfl, vc⟩
theorem ctX8_manHere {G : GG} {q : Int32 → Nat → SG → TU → TH → Prop} {n : Nat} {σ : SG} {τ : TU} {θ : TH} (f : Nat) (h : SW G 7 mX8_manHere (aw_qi q) 0 0 0 [some (.ref 2), some (.ref f), none] [] (n, σ, τ, θ)) : SMi G 7 mX8_manHere 0 0 [.ref 2, .ref f] n σ τ θ q := SM.of _ rfl rfl (Nat.le_of_ble_eq_true rfl) h
set_option maxHeartbeats 4000000 in
set_option maxRecDepth 20000 in
theorem sgX8_readClaim_0 {G : GG} {k : Nat} {q : Int32 → Nat → SG → TU → TH → Prop} {n : Nat} {σ : SG} {τ : TU} {θ : TH} (f : Nat) (c cn : Nat)  (hk : 8 ≤ k) (hf : isF f) (hc : isC c cn) (hW : aw_WT n θ) (vc : SMi G 1 mX0_isFull 0 0 [.ref c] n σ τ θ (fun a1 n1 σ1 τ1 θ1 => aw_WT n1 θ1 ∧ (((a1 = 0) → (SMv G 2 mX8_advance 0 0 [.ref 2] n1 σ1 τ1 θ1 (fun n2 σ2 τ2 θ2 => aw_WT n2 θ2 ∧ (SMi G 7 mX8_manHere 0 0 [.ref 2, .ref f] n2 σ2 τ2 θ2 (fun a3 n3 σ3 τ3 θ3 => aw_WT n3 θ3 ∧ (((¬ a3 = (-1 : Int32)) → (SMv G 2 mX8_advance 0 0 [.ref 2] n3 σ3 τ3 θ3 (fun n4 σ4 τ4 θ4 => aw_WT n4 θ4 ∧ (SMi G 7 mX8_manHere 0 0 [.ref 2, .ref f] n4 σ4 τ4 θ4 (fun a5 n5 σ5 τ5 θ5 => aw_WT n5 θ5 ∧ (((¬ a5 = (-1 : Int32)) → (((¬ a5 = a3) → (SMv G 2 mX8_advance 0 0 [.ref 2] n5 σ5 τ5 θ5 (fun n6 σ6 τ6 θ6 => aw_WT n6 θ6 ∧ (SMi G 3 mX8_wholeWithin 0 0 [.ref 2, .int (1 : Int32), .int (99 : Int32)] n6 σ6 τ6 θ6 (fun a7 n7 σ7 τ7 θ7 => aw_WT n7 θ7 ∧ (((¬ a7 = 0) → (SMi G 6 mX8_expect 0 0 [.ref 2, .ref (1000 + 17)] n7 σ7 τ7 θ7 (fun a8 n8 σ8 τ8 θ8 => aw_WT n8 θ8 ∧ (((a8 = 0) → (q (0 : Int32) n8 σ8 τ8 θ8)) ∧ ((¬ a8 = 0) → (SMi G 3 mX8_wholeWithin 0 0 [.ref 2, .int (0 : Int32), .int (9 : Int32)] n8 σ8 τ8 θ8 (fun a9 n9 σ9 τ9 θ9 => aw_WT n9 θ9 ∧ (((¬ a9 = 0) → (vp_in (σ9 c 4) cn ∧ (vp_in (σ9 c 4) cn ∧ (vp_in (σ9 c 4) cn ∧ (vp_in (σ9 c 4) cn ∧ (q (1 : Int32) n9 (aw_u (aw_u (aw_u (aw_u (aw_u σ9 (c + 1) (σ9 c 4).toNatClampNeg a3) (c + 2) (σ9 c 4).toNatClampNeg a5) (c + 3) (σ9 c 4).toNatClampNeg (σ7 2 11)) (c + 4) (σ9 c 4).toNatClampNeg ((aw_u (aw_u (aw_u σ9 (c + 1) (σ9 c 4).toNatClampNeg a3) (c + 2) (σ9 c 4).toNatClampNeg a5) (c + 3) (σ9 c 4).toNatClampNeg (σ7 2 11)) 2 11)) c 4 ((σ9 c 4) + (1 : Int32))) τ9 θ9)))))) ∧ ((a9 = 0) → (q (0 : Int32) n9 σ9 τ9 θ9)))))))))) ∧ ((a7 = 0) → (q (0 : Int32) n7 σ7 τ7 θ7)))))))) ∧ ((a5 = a3) → (SMi G 1 mX8_blame 0 0 [.ref 2, .int (3 : Int32)] n5 σ5 τ5 θ5 (fun a10 n10 σ10 τ10 θ10 => aw_WT n10 θ10 ∧ ((a10 = 0 ∨ a10 = 1) ∧ q a10 n10 σ10 τ10 θ10)))))) ∧ ((a5 = (-1 : Int32)) → (q (0 : Int32) n5 σ5 τ5 θ5)))))))) ∧ ((a3 = (-1 : Int32)) → (q (0 : Int32) n3 σ3 τ3 θ3)))))))) ∧ ((¬ a1 = 0) → (SMi G 1 mX8_blame 0 0 [.ref 2, .int (5 : Int32)] n1 σ1 τ1 θ1 (fun a11 n11 σ11 τ11 θ11 => aw_WT n11 θ11 ∧ ((a11 = 0 ∨ a11 = 1) ∧ q a11 n11 σ11 τ11 θ11))))))) : SW G k mX8_readClaim (aw_qi q) 0 0 0 [some (.ref 2), some (.ref f), some (.ref c), none, none, none, none] [] (n, σ, τ, θ) := by
  refine SW.aload_n dX8_readClaim_0 rfl ?_
  refine SW.cvi0 kV_X8_175 (by omega) aw_cl0 (kpC_0 hc) (leC_0 hc).1 (hW.le (leC_0 hc).2) rfl (Nat.le_of_ble_eq_true rfl) dX8_readClaim_1 (SMi.mono vc ?_)
  intro a1 n1 σ1 τ1 θ1 vc
  obtain ⟨hW, vc⟩ := vc
  refine SW.if_eq 13 dX8_readClaim_4 (by decide) (fun hbr => ?_) (fun hbr => ?_)
  · replace vc := vc.1 hbr
    refine SW.aload_n dX8_readClaim_13 rfl ?_
    refine SW.cvv0 kV_X8_56 (by omega) aw_cl8 kp_2 (by decide) (hW.le (by decide)) rfl (Nat.le_of_ble_eq_true rfl) dX8_readClaim_14 (SMv.mono vc ?_)
    intro n2 σ2 τ2 θ2 vc
    obtain ⟨hW, vc⟩ := vc
    refine SW.aload_n dX8_readClaim_17 rfl ?_
    refine SW.aload_n dX8_readClaim_18 rfl ?_
    refine SW.cvi1 kV_X8_180 (by omega) aw_cl8 kp_2 (by decide) (hW.le (by decide)) rfl (Nat.le_of_ble_eq_true rfl) dX8_readClaim_19 (SMi.mono vc ?_)
    intro a3 n3 σ3 τ3 θ3 vc
    obtain ⟨hW, vc⟩ := vc
    refine SW.istore_n dX8_readClaim_22 (by decide) rfl rfl ?_
    refine SW.iload_n dX8_readClaim_23 rfl ?_
    refine SW.iconst (v := (-1 : Int32)) dX8_readClaim_24 (by decide) ?_
    refine SW.icmp_ne 30 dX8_readClaim_25 (by decide) (fun hbr => ?_) (fun hbr => ?_)
    · replace vc := vc.1 hbr
      refine SW.aload_n dX8_readClaim_30 rfl ?_
      refine SW.cvv0 kV_X8_56 (by omega) aw_cl8 kp_2 (by decide) (hW.le (by decide)) rfl (Nat.le_of_ble_eq_true rfl) dX8_readClaim_31 (SMv.mono vc ?_)
      intro n4 σ4 τ4 θ4 vc
      obtain ⟨hW, vc⟩ := vc
      refine SW.aload_n dX8_readClaim_34 rfl ?_
      refine SW.aload_n dX8_readClaim_35 rfl ?_
      refine SW.cvi1 kV_X8_180 (by omega) aw_cl8 kp_2 (by decide) (hW.le (by decide)) rfl (Nat.le_of_ble_eq_true rfl) dX8_readClaim_36 (SMi.mono vc ?_)
      intro a5 n5 σ5 τ5 θ5 vc
      obtain ⟨hW, vc⟩ := vc
      refine SW.istore dX8_readClaim_39 (by decide) rfl rfl ?_
      refine SW.iload dX8_readClaim_41 rfl ?_
      refine SW.iconst (v := (-1 : Int32)) dX8_readClaim_43 (by decide) ?_
      refine SW.icmp_ne 49 dX8_readClaim_44 (by decide) (fun hbr => ?_) (fun hbr => ?_)
      · replace vc := vc.1 hbr
        refine SW.iload dX8_readClaim_49 rfl ?_
        refine SW.iload_n dX8_readClaim_51 rfl ?_
        refine SW.icmp_ne 61 dX8_readClaim_52 (by decide) (fun hbr => ?_) (fun hbr => ?_)
        · replace vc := vc.1 hbr
          refine SW.aload_n dX8_readClaim_61 rfl ?_
          refine SW.cvv0 kV_X8_56 (by omega) aw_cl8 kp_2 (by decide) (hW.le (by decide)) rfl (Nat.le_of_ble_eq_true rfl) dX8_readClaim_62 (SMv.mono vc ?_)
          intro n6 σ6 τ6 θ6 vc
          obtain ⟨hW, vc⟩ := vc
          refine SW.aload_n dX8_readClaim_65 rfl ?_
          refine SW.iconst (v := (1 : Int32)) dX8_readClaim_66 (by decide) ?_
          refine SW.bipush (v := (99 : Int32)) dX8_readClaim_67 (by decide) ?_
          refine SW.cvi2 kV_X8_128 (by omega) aw_cl8 kp_2 (by decide) (hW.le (by decide)) rfl (Nat.le_of_ble_eq_true rfl) dX8_readClaim_69 (SMi.mono vc ?_)
          intro a7 n7 σ7 τ7 θ7 vc
          obtain ⟨hW, vc⟩ := vc
          refine SW.if_ne 77 dX8_readClaim_72 (by decide) (fun hbr => ?_) (fun hbr => ?_)
          · replace vc := vc.1 hbr
            refine SW.aload_n dX8_readClaim_77 rfl ?_
            refine SW.getI (f := 11) aw_cl8 kp_2 (by decide) (hW.le (by decide)) (by decide) ww_159 dX8_readClaim_78 rfl ?_
            refine SW.istore dX8_readClaim_81 (by decide) rfl rfl ?_
            refine SW.aload_n dX8_readClaim_83 rfl ?_
            refine SW.ldcS (j := 17) rfl dX8_readClaim_84 ?_
            refine SW.cvi1 kV_X8_125 (by omega) aw_cl8 kp_2 (by decide) (hW.le (by decide)) rfl (Nat.le_of_ble_eq_true rfl) dX8_readClaim_86 (SMi.mono vc ?_)
            intro a8 n8 σ8 τ8 θ8 vc
            obtain ⟨hW, vc⟩ := vc
            refine SW.if_eq 102 dX8_readClaim_89 (by decide) (fun hbr => ?_) (fun hbr => ?_)
            · replace vc := vc.1 hbr
              refine SW.iconst (v := (0 : Int32)) dX8_readClaim_102 (by decide) ?_
              exact SW.iret dX8_readClaim_103 rfl rfl ⟨_, rfl, vc⟩
            · replace vc := vc.2 hbr
              refine SW.aload_n dX8_readClaim_92 rfl ?_
              refine SW.iconst (v := (0 : Int32)) dX8_readClaim_93 (by decide) ?_
              refine SW.bipush (v := (9 : Int32)) dX8_readClaim_94 (by decide) ?_
              refine SW.cvi2 kV_X8_128 (by omega) aw_cl8 kp_2 (by decide) (hW.le (by decide)) rfl (Nat.le_of_ble_eq_true rfl) dX8_readClaim_96 (SMi.mono vc ?_)
              intro a9 n9 σ9 τ9 θ9 vc
              obtain ⟨hW, vc⟩ := vc
              refine SW.if_ne 104 dX8_readClaim_99 (by decide) (fun hbr => ?_) (fun hbr => ?_)
              · replace vc := vc.1 hbr
                refine SW.aload_n dX8_readClaim_104 rfl ?_
                refine SW.getI (f := 4) aw_cl0 (kpC_0 hc) (leC_0 hc).1 (hW.le (leC_0 hc).2) (by decide) ww_358 dX8_readClaim_105 rfl ?_
                refine SW.istore dX8_readClaim_108 (by decide) rfl rfl ?_
                refine SW.aload_n dX8_readClaim_110 rfl ?_
                refine SW.getS (f := 0) (r := c + 1) aw_cl0 (kpC_0 hc) (leC_0 hc).1 (hW.le (leC_0 hc).2) (by decide) ww_336 dX8_readClaim_111 rfl (hW.c0 hc) ?_
                refine SW.iload dX8_readClaim_114 rfl ?_
                refine SW.iload_n dX8_readClaim_116 rfl ?_
                refine SW.iast (kpC_1 hc) (leC_1 hc).1 (hW.le (leC_1 hc).2) vc.1 dX8_readClaim_117 ?_
                replace vc := vc.2
                refine SW.aload_n dX8_readClaim_118 rfl ?_
                refine SW.getS (f := 1) (r := c + 2) aw_cl0 (kpC_0 hc) (leC_0 hc).1 (hW.le (leC_0 hc).2) (by decide) ww_340 dX8_readClaim_119 rfl (hW.c1 hc) ?_
                refine SW.iload dX8_readClaim_122 rfl ?_
                refine SW.iload dX8_readClaim_124 rfl ?_
                refine SW.iast (kpC_2 hc) (leC_2 hc).1 (hW.le (leC_2 hc).2) vc.1 dX8_readClaim_126 ?_
                replace vc := vc.2
                refine SW.aload_n dX8_readClaim_127 rfl ?_
                refine SW.getS (f := 2) (r := c + 3) aw_cl0 (kpC_0 hc) (leC_0 hc).1 (hW.le (leC_0 hc).2) (by decide) ww_347 dX8_readClaim_128 rfl (hW.c2 hc) ?_
                refine SW.iload dX8_readClaim_131 rfl ?_
                refine SW.iload dX8_readClaim_133 rfl ?_
                refine SW.iast (kpC_3 hc) (leC_3 hc).1 (hW.le (leC_3 hc).2) vc.1 dX8_readClaim_135 ?_
                replace vc := vc.2
                refine SW.aload_n dX8_readClaim_136 rfl ?_
                refine SW.getS (f := 3) (r := c + 4) aw_cl0 (kpC_0 hc) (leC_0 hc).1 (hW.le (leC_0 hc).2) (by decide) ww_351 dX8_readClaim_137 rfl (hW.c3 hc) ?_
                refine SW.iload dX8_readClaim_140 rfl ?_
                refine SW.aload_n dX8_readClaim_142 rfl ?_
                refine SW.getI (f := 11) aw_cl8 kp_2 (by decide) (hW.le (by decide)) (by decide) ww_159 dX8_readClaim_143 rfl ?_
                refine SW.iast (kpC_4 hc) (leC_4 hc).1 (hW.le (leC_4 hc).2) vc.1 dX8_readClaim_146 ?_
                replace vc := vc.2
                refine SW.aload_n dX8_readClaim_147 rfl ?_
                refine SW.iload dX8_readClaim_148 rfl ?_
                refine SW.iconst (v := (1 : Int32)) dX8_readClaim_150 (by decide) ?_
                refine SW.iadd dX8_readClaim_151 ?_
                refine SW.putI (f := 4) aw_cl0 (kpC_0 hc) (leC_0 hc).1 (hW.le (leC_0 hc).2) (by decide) ww_358 (Or.inl rfl) dX8_readClaim_152 rfl rfl rfl ?_
                refine SW.iconst (v := (1 : Int32)) dX8_readClaim_155 (by decide) ?_
                exact SW.iret dX8_readClaim_156 rfl rfl ⟨_, rfl, vc⟩
              · replace vc := vc.2 hbr
                refine SW.iconst (v := (0 : Int32)) dX8_readClaim_102 (by decide) ?_
                exact SW.iret dX8_readClaim_103 rfl rfl ⟨_, rfl, vc⟩
          · replace vc := vc.2 hbr
            refine SW.iconst (v := (0 : Int32)) dX8_readClaim_75 (by decide) ?_
            exact SW.iret dX8_readClaim_76 rfl rfl ⟨_, rfl, vc⟩
        · replace vc := vc.2 hbr
          refine SW.aload_n dX8_readClaim_55 rfl ?_
          refine SW.iconst (v := (3 : Int32)) dX8_readClaim_56 (by decide) ?_
          refine SW.cvi1 kV_X8_77 (by omega) aw_cl8 kp_2 (by decide) (hW.le (by decide)) rfl (Nat.le_of_ble_eq_true rfl) dX8_readClaim_57 (SMi.mono vc ?_)
          intro a10 n10 σ10 τ10 θ10 vc
          obtain ⟨hW, vc⟩ := vc
          exact SW.iret dX8_readClaim_60 rfl (aw_nb vc.1) ⟨_, rfl, vc.2⟩
      · replace vc := vc.2 hbr
        refine SW.iconst (v := (0 : Int32)) dX8_readClaim_47 (by decide) ?_
        exact SW.iret dX8_readClaim_48 rfl rfl ⟨_, rfl, vc⟩
    · replace vc := vc.2 hbr
      refine SW.iconst (v := (0 : Int32)) dX8_readClaim_28 (by decide) ?_
      exact SW.iret dX8_readClaim_29 rfl rfl ⟨_, rfl, vc⟩
  · replace vc := vc.2 hbr
    refine SW.aload_n dX8_readClaim_7 rfl ?_
    refine SW.iconst (v := (5 : Int32)) dX8_readClaim_8 (by decide) ?_
    refine SW.cvi1 kV_X8_77 (by omega) aw_cl8 kp_2 (by decide) (hW.le (by decide)) rfl (Nat.le_of_ble_eq_true rfl) dX8_readClaim_9 (SMi.mono vc ?_)
    intro a11 n11 σ11 τ11 θ11 vc
    obtain ⟨hW, vc⟩ := vc
    exact SW.iret dX8_readClaim_12 rfl (aw_nb vc.1) ⟨_, rfl, vc.2⟩
theorem ctX8_readClaim {G : GG} {q : Int32 → Nat → SG → TU → TH → Prop} {n : Nat} {σ : SG} {τ : TU} {θ : TH} (f : Nat) (c cn : Nat) (h : SW G 8 mX8_readClaim (aw_qi q) 0 0 0 [some (.ref 2), some (.ref f), some (.ref c), none, none, none, none] [] (n, σ, τ, θ)) : SMi G 8 mX8_readClaim 0 0 [.ref 2, .ref f, .ref c] n σ τ θ q := SM.of _ rfl rfl (Nat.le_of_ble_eq_true rfl) h
set_option maxHeartbeats 4000000 in
set_option maxRecDepth 20000 in
theorem sgX8_readDoor_0 {G : GG} {k : Nat} {q : Int32 → Nat → SG → TU → TH → Prop} {n : Nat} {σ : SG} {τ : TU} {θ : TH} (f : Nat)  (hk : 8 ≤ k) (hf : isF f) (hW : aw_WT n θ) (vc : (((σ f 14) < (4 : Int32)) → (SMv G 2 mX8_advance 0 0 [.ref 2] n σ τ θ (fun n1 σ1 τ1 θ1 => aw_WT n1 θ1 ∧ (SMi G 7 mX8_isNewName 0 0 [.ref 2, .ref f] n1 σ1 τ1 θ1 (fun a2 n2 σ2 τ2 θ2 => aw_WT n2 θ2 ∧ (((¬ a2 = 0) → (SMl G 1 mX8_code 0 0 [.ref 2] n2 σ2 τ2 θ2 (fun a3 n3 σ3 τ3 θ3 => aw_WT n3 θ3 ∧ (vp_in (σ f 14) 4 ∧ (SMv G 2 mX8_advance 0 0 [.ref 2] n3 σ3 (aw_u τ3 5 (σ f 14).toNatClampNeg a3) θ3 (fun n4 σ4 τ4 θ4 => aw_WT n4 θ4 ∧ (SMi G 6 mX8_expect 0 0 [.ref 2, .ref (1000 + 18)] n4 σ4 τ4 θ4 (fun a5 n5 σ5 τ5 θ5 => aw_WT n5 θ5 ∧ (((a5 = 0) → (q (0 : Int32) n5 σ5 τ5 θ5)) ∧ ((¬ a5 = 0) → (SMi G 3 mX8_wholeWithin 0 0 [.ref 2, .int (0 : Int32), .int (40 : Int32)] n5 σ5 τ5 θ5 (fun a6 n6 σ6 τ6 θ6 => aw_WT n6 θ6 ∧ (((¬ a6 = 0) → (vp_in (σ f 14) 4 ∧ (q (1 : Int32) n6 (aw_u (aw_u σ6 (f + 5) (σ f 14).toNatClampNeg (σ6 2 11)) f 14 ((σ f 14) + (1 : Int32))) τ6 θ6))) ∧ ((a6 = 0) → (q (0 : Int32) n6 σ6 τ6 θ6))))))))))))))) ∧ ((a2 = 0) → (q (0 : Int32) n2 σ2 τ2 θ2)))))))) ∧ ((¬ (σ f 14) < (4 : Int32)) → (SMi G 1 mX8_blame 0 0 [.ref 2, .int (5 : Int32)] n σ τ θ (fun a7 n7 σ7 τ7 θ7 => aw_WT n7 θ7 ∧ ((a7 = 0 ∨ a7 = 1) ∧ q a7 n7 σ7 τ7 θ7))))) : SW G k mX8_readDoor (aw_qi q) 0 0 0 [some (.ref 2), some (.ref f), none] [] (n, σ, τ, θ) := by
  refine SW.aload_n dX8_readDoor_0 rfl ?_
  refine SW.getI (f := 14) aw_cl1 (kpF_0 hf) (leF_0 hf).1 (hW.le (leF_0 hf).2) (by decide) ww_426 dX8_readDoor_1 rfl ?_
  refine SW.istore_n dX8_readDoor_4 (by decide) rfl rfl ?_
  refine SW.iload_n dX8_readDoor_5 rfl ?_
  refine SW.iconst (v := (4 : Int32)) dX8_readDoor_6 (by decide) ?_
  refine SW.icmp_lt 16 dX8_readDoor_7 (by decide) (fun hbr => ?_) (fun hbr => ?_)
  · replace vc := vc.1 hbr
    refine SW.aload_n dX8_readDoor_16 rfl ?_
    refine SW.cvv0 kV_X8_56 (by omega) aw_cl8 kp_2 (by decide) (hW.le (by decide)) rfl (Nat.le_of_ble_eq_true rfl) dX8_readDoor_17 (SMv.mono vc ?_)
    intro n1 σ1 τ1 θ1 vc
    obtain ⟨hW, vc⟩ := vc
    refine SW.aload_n dX8_readDoor_20 rfl ?_
    refine SW.aload_n dX8_readDoor_21 rfl ?_
    refine SW.cvi1 kV_X8_149 (by omega) aw_cl8 kp_2 (by decide) (hW.le (by decide)) rfl (Nat.le_of_ble_eq_true rfl) dX8_readDoor_22 (SMi.mono vc ?_)
    intro a2 n2 σ2 τ2 θ2 vc
    obtain ⟨hW, vc⟩ := vc
    refine SW.if_ne 30 dX8_readDoor_25 (by decide) (fun hbr => ?_) (fun hbr => ?_)
    · replace vc := vc.1 hbr
      refine SW.aload_n dX8_readDoor_30 rfl ?_
      refine SW.getS (f := 4) (r := 5) aw_cl8 kp_2 (by decide) (hW.le (by decide)) (by decide) ww_152 dX8_readDoor_31 rfl hW.t2_4 ?_
      refine SW.iload_n dX8_readDoor_34 rfl ?_
      refine SW.aload_n dX8_readDoor_35 rfl ?_
      refine SW.cvl0 kV_X8_152 (by omega) aw_cl8 kp_2 (by decide) (hW.le (by decide)) rfl (Nat.le_of_ble_eq_true rfl) dX8_readDoor_36 (SMl.mono vc ?_)
      intro a3 n3 σ3 τ3 θ3 vc
      obtain ⟨hW, vc⟩ := vc
      refine SW.last kp_5 (by decide) (hW.le (by decide)) vc.1 dX8_readDoor_39 ?_
      replace vc := vc.2
      refine SW.aload_n dX8_readDoor_40 rfl ?_
      refine SW.cvv0 kV_X8_56 (by omega) aw_cl8 kp_2 (by decide) (hW.le (by decide)) rfl (Nat.le_of_ble_eq_true rfl) dX8_readDoor_41 (SMv.mono vc ?_)
      intro n4 σ4 τ4 θ4 vc
      obtain ⟨hW, vc⟩ := vc
      refine SW.aload_n dX8_readDoor_44 rfl ?_
      refine SW.ldcS (j := 18) rfl dX8_readDoor_45 ?_
      refine SW.cvi1 kV_X8_125 (by omega) aw_cl8 kp_2 (by decide) (hW.le (by decide)) rfl (Nat.le_of_ble_eq_true rfl) dX8_readDoor_47 (SMi.mono vc ?_)
      intro a5 n5 σ5 τ5 θ5 vc
      obtain ⟨hW, vc⟩ := vc
      refine SW.if_eq 63 dX8_readDoor_50 (by decide) (fun hbr => ?_) (fun hbr => ?_)
      · replace vc := vc.1 hbr
        refine SW.iconst (v := (0 : Int32)) dX8_readDoor_63 (by decide) ?_
        exact SW.iret dX8_readDoor_64 rfl rfl ⟨_, rfl, vc⟩
      · replace vc := vc.2 hbr
        refine SW.aload_n dX8_readDoor_53 rfl ?_
        refine SW.iconst (v := (0 : Int32)) dX8_readDoor_54 (by decide) ?_
        refine SW.bipush (v := (40 : Int32)) dX8_readDoor_55 (by decide) ?_
        refine SW.cvi2 kV_X8_128 (by omega) aw_cl8 kp_2 (by decide) (hW.le (by decide)) rfl (Nat.le_of_ble_eq_true rfl) dX8_readDoor_57 (SMi.mono vc ?_)
        intro a6 n6 σ6 τ6 θ6 vc
        obtain ⟨hW, vc⟩ := vc
        refine SW.if_ne 65 dX8_readDoor_60 (by decide) (fun hbr => ?_) (fun hbr => ?_)
        · replace vc := vc.1 hbr
          refine SW.aload_n dX8_readDoor_65 rfl ?_
          refine SW.getS (f := 4) (r := f + 5) aw_cl1 (kpF_0 hf) (leF_0 hf).1 (hW.le (leF_0 hf).2) (by decide) ww_386 dX8_readDoor_66 rfl (hW.f4 hf) ?_
          refine SW.iload_n dX8_readDoor_69 rfl ?_
          refine SW.aload_n dX8_readDoor_70 rfl ?_
          refine SW.getI (f := 11) aw_cl8 kp_2 (by decide) (hW.le (by decide)) (by decide) ww_159 dX8_readDoor_71 rfl ?_
          refine SW.iast (kpF_5 hf) (leF_5 hf).1 (hW.le (leF_5 hf).2) vc.1 dX8_readDoor_74 ?_
          replace vc := vc.2
          refine SW.aload_n dX8_readDoor_75 rfl ?_
          refine SW.iload_n dX8_readDoor_76 rfl ?_
          refine SW.iconst (v := (1 : Int32)) dX8_readDoor_77 (by decide) ?_
          refine SW.iadd dX8_readDoor_78 ?_
          refine SW.putI (f := 14) aw_cl1 (kpF_0 hf) (leF_0 hf).1 (hW.le (leF_0 hf).2) (by decide) ww_426 (Or.inl rfl) dX8_readDoor_79 rfl rfl rfl ?_
          refine SW.iconst (v := (1 : Int32)) dX8_readDoor_82 (by decide) ?_
          exact SW.iret dX8_readDoor_83 rfl rfl ⟨_, rfl, vc⟩
        · replace vc := vc.2 hbr
          refine SW.iconst (v := (0 : Int32)) dX8_readDoor_63 (by decide) ?_
          exact SW.iret dX8_readDoor_64 rfl rfl ⟨_, rfl, vc⟩
    · replace vc := vc.2 hbr
      refine SW.iconst (v := (0 : Int32)) dX8_readDoor_28 (by decide) ?_
      exact SW.iret dX8_readDoor_29 rfl rfl ⟨_, rfl, vc⟩
  · replace vc := vc.2 hbr
    refine SW.aload_n dX8_readDoor_10 rfl ?_
    refine SW.iconst (v := (5 : Int32)) dX8_readDoor_11 (by decide) ?_
    refine SW.cvi1 kV_X8_77 (by omega) aw_cl8 kp_2 (by decide) (hW.le (by decide)) rfl (Nat.le_of_ble_eq_true rfl) dX8_readDoor_12 (SMi.mono vc ?_)
    intro a7 n7 σ7 τ7 θ7 vc
    obtain ⟨hW, vc⟩ := vc
    exact SW.iret dX8_readDoor_15 rfl (aw_nb vc.1) ⟨_, rfl, vc.2⟩
theorem ctX8_readDoor {G : GG} {q : Int32 → Nat → SG → TU → TH → Prop} {n : Nat} {σ : SG} {τ : TU} {θ : TH} (f : Nat) (h : SW G 8 mX8_readDoor (aw_qi q) 0 0 0 [some (.ref 2), some (.ref f), none] [] (n, σ, τ, θ)) : SMi G 8 mX8_readDoor 0 0 [.ref 2, .ref f] n σ τ θ q := SM.of _ rfl rfl (Nat.le_of_ble_eq_true rfl) h
set_option maxHeartbeats 4000000 in
set_option maxRecDepth 20000 in
theorem sgX8_readDuchy_0 {G : GG} {k : Nat} {q : Int32 → Nat → SG → TU → TH → Prop} {n : Nat} {σ : SG} {τ : TU} {θ : TH} (f : Nat)  (hk : 7 ≤ k) (hf : isF f) (hW : aw_WT n θ) (vc : (((σ 2 5) = 0) → (SMv G 2 mX8_advance 0 0 [.ref 2] n (aw_u σ 2 5 (1 : Int32)) τ θ (fun n1 σ1 τ1 θ1 => aw_WT n1 θ1 ∧ (SMi G 6 mX8_expect 0 0 [.ref 2, .ref (1000 + 7)] n1 σ1 τ1 θ1 (fun a2 n2 σ2 τ2 θ2 => aw_WT n2 θ2 ∧ (((a2 = 0) → (q (0 : Int32) n2 σ2 τ2 θ2)) ∧ ((¬ a2 = 0) → (SMi G 3 mX8_wholeWithin 0 0 [.ref 2, .int (1 : Int32), .int (20 : Int32)] n2 σ2 τ2 θ2 (fun a3 n3 σ3 τ3 θ3 => aw_WT n3 θ3 ∧ (((¬ a3 = 0) → (SMi G 6 mX8_expect 0 0 [.ref 2, .ref (1000 + 8)] n3 (aw_u σ3 f 9 (σ3 2 11)) τ3 θ3 (fun a4 n4 σ4 τ4 θ4 => aw_WT n4 θ4 ∧ (((a4 = 0) → (q (0 : Int32) n4 σ4 τ4 θ4)) ∧ ((¬ a4 = 0) → (SMi G 3 mX8_wholeWithin 0 0 [.ref 2, .int (0 : Int32), .int (100 : Int32)] n4 σ4 τ4 θ4 (fun a5 n5 σ5 τ5 θ5 => aw_WT n5 θ5 ∧ (((¬ a5 = 0) → (SMi G 6 mX8_expect 0 0 [.ref 2, .ref (1000 + 9)] n5 (aw_u σ5 f 10 (σ5 2 11)) τ5 θ5 (fun a6 n6 σ6 τ6 θ6 => aw_WT n6 θ6 ∧ (((a6 = 0) → (q (0 : Int32) n6 σ6 τ6 θ6)) ∧ ((¬ a6 = 0) → (SMi G 3 mX8_wholeWithin 0 0 [.ref 2, .int (0 : Int32), .int (100 : Int32)] n6 σ6 τ6 θ6 (fun a7 n7 σ7 τ7 θ7 => aw_WT n7 θ7 ∧ (((¬ a7 = 0) → (SMi G 6 mX8_expect 0 0 [.ref 2, .ref (1000 + 10)] n7 (aw_u σ7 f 11 (σ7 2 11)) τ7 θ7 (fun a8 n8 σ8 τ8 θ8 => aw_WT n8 θ8 ∧ (((a8 = 0) → (q (0 : Int32) n8 σ8 τ8 θ8)) ∧ ((¬ a8 = 0) → (SMi G 3 mX8_wholeWithin 0 0 [.ref 2, .int (0 : Int32), .int (100 : Int32)] n8 σ8 τ8 θ8 (fun a9 n9 σ9 τ9 θ9 => aw_WT n9 θ9 ∧ (((¬ a9 = 0) → (q (1 : Int32) n9 (aw_u σ9 f 12 (σ9 2 11)) τ9 θ9)) ∧ ((a9 = 0) → (q (0 : Int32) n9 σ9 τ9 θ9)))))))))) ∧ ((a7 = 0) → (q (0 : Int32) n7 σ7 τ7 θ7)))))))))) ∧ ((a5 = 0) → (q (0 : Int32) n5 σ5 τ5 θ5)))))))))) ∧ ((a3 = 0) → (q (0 : Int32) n3 σ3 τ3 θ3)))))))))))) ∧ ((¬ (σ 2 5) = 0) → (SMi G 1 mX8_blame 0 0 [.ref 2, .int (3 : Int32)] n σ τ θ (fun a10 n10 σ10 τ10 θ10 => aw_WT n10 θ10 ∧ ((a10 = 0 ∨ a10 = 1) ∧ q a10 n10 σ10 τ10 θ10))))) : SW G k mX8_readDuchy (aw_qi q) 0 0 0 [some (.ref 2), some (.ref f)] [] (n, σ, τ, θ) := by
  refine SW.aload_n dX8_readDuchy_0 rfl ?_
  refine SW.getI (f := 5) aw_cl8 kp_2 (by decide) (hW.le (by decide)) (by decide) ww_153 dX8_readDuchy_1 rfl ?_
  refine SW.if_eq 13 dX8_readDuchy_4 (by decide) (fun hbr => ?_) (fun hbr => ?_)
  · replace vc := vc.1 hbr
    refine SW.aload_n dX8_readDuchy_13 rfl ?_
    refine SW.iconst (v := (1 : Int32)) dX8_readDuchy_14 (by decide) ?_
    refine SW.putI (f := 5) aw_cl8 kp_2 (by decide) (hW.le (by decide)) (by decide) ww_153 (Or.inl rfl) dX8_readDuchy_15 rfl rfl rfl ?_
    refine SW.aload_n dX8_readDuchy_18 rfl ?_
    refine SW.cvv0 kV_X8_56 (by omega) aw_cl8 kp_2 (by decide) (hW.le (by decide)) rfl (Nat.le_of_ble_eq_true rfl) dX8_readDuchy_19 (SMv.mono vc ?_)
    intro n1 σ1 τ1 θ1 vc
    obtain ⟨hW, vc⟩ := vc
    refine SW.aload_n dX8_readDuchy_22 rfl ?_
    refine SW.ldcS (j := 7) rfl dX8_readDuchy_23 ?_
    refine SW.cvi1 kV_X8_125 (by omega) aw_cl8 kp_2 (by decide) (hW.le (by decide)) rfl (Nat.le_of_ble_eq_true rfl) dX8_readDuchy_25 (SMi.mono vc ?_)
    intro a2 n2 σ2 τ2 θ2 vc
    obtain ⟨hW, vc⟩ := vc
    refine SW.if_eq 41 dX8_readDuchy_28 (by decide) (fun hbr => ?_) (fun hbr => ?_)
    · replace vc := vc.1 hbr
      refine SW.iconst (v := (0 : Int32)) dX8_readDuchy_41 (by decide) ?_
      exact SW.iret dX8_readDuchy_42 rfl rfl ⟨_, rfl, vc⟩
    · replace vc := vc.2 hbr
      refine SW.aload_n dX8_readDuchy_31 rfl ?_
      refine SW.iconst (v := (1 : Int32)) dX8_readDuchy_32 (by decide) ?_
      refine SW.bipush (v := (20 : Int32)) dX8_readDuchy_33 (by decide) ?_
      refine SW.cvi2 kV_X8_128 (by omega) aw_cl8 kp_2 (by decide) (hW.le (by decide)) rfl (Nat.le_of_ble_eq_true rfl) dX8_readDuchy_35 (SMi.mono vc ?_)
      intro a3 n3 σ3 τ3 θ3 vc
      obtain ⟨hW, vc⟩ := vc
      refine SW.if_ne 43 dX8_readDuchy_38 (by decide) (fun hbr => ?_) (fun hbr => ?_)
      · replace vc := vc.1 hbr
        refine SW.aload_n dX8_readDuchy_43 rfl ?_
        refine SW.aload_n dX8_readDuchy_44 rfl ?_
        refine SW.getI (f := 11) aw_cl8 kp_2 (by decide) (hW.le (by decide)) (by decide) ww_159 dX8_readDuchy_45 rfl ?_
        refine SW.putI (f := 9) aw_cl1 (kpF_0 hf) (leF_0 hf).1 (hW.le (leF_0 hf).2) (by decide) ww_405 (Or.inl rfl) dX8_readDuchy_48 rfl rfl rfl ?_
        refine SW.aload_n dX8_readDuchy_51 rfl ?_
        refine SW.ldcS (j := 8) rfl dX8_readDuchy_52 ?_
        refine SW.cvi1 kV_X8_125 (by omega) aw_cl8 kp_2 (by decide) (hW.le (by decide)) rfl (Nat.le_of_ble_eq_true rfl) dX8_readDuchy_54 (SMi.mono vc ?_)
        intro a4 n4 σ4 τ4 θ4 vc
        obtain ⟨hW, vc⟩ := vc
        refine SW.if_eq 70 dX8_readDuchy_57 (by decide) (fun hbr => ?_) (fun hbr => ?_)
        · replace vc := vc.1 hbr
          refine SW.iconst (v := (0 : Int32)) dX8_readDuchy_70 (by decide) ?_
          exact SW.iret dX8_readDuchy_71 rfl rfl ⟨_, rfl, vc⟩
        · replace vc := vc.2 hbr
          refine SW.aload_n dX8_readDuchy_60 rfl ?_
          refine SW.iconst (v := (0 : Int32)) dX8_readDuchy_61 (by decide) ?_
          refine SW.bipush (v := (100 : Int32)) dX8_readDuchy_62 (by decide) ?_
          refine SW.cvi2 kV_X8_128 (by omega) aw_cl8 kp_2 (by decide) (hW.le (by decide)) rfl (Nat.le_of_ble_eq_true rfl) dX8_readDuchy_64 (SMi.mono vc ?_)
          intro a5 n5 σ5 τ5 θ5 vc
          obtain ⟨hW, vc⟩ := vc
          refine SW.if_ne 72 dX8_readDuchy_67 (by decide) (fun hbr => ?_) (fun hbr => ?_)
          · replace vc := vc.1 hbr
            refine SW.aload_n dX8_readDuchy_72 rfl ?_
            refine SW.aload_n dX8_readDuchy_73 rfl ?_
            refine SW.getI (f := 11) aw_cl8 kp_2 (by decide) (hW.le (by decide)) (by decide) ww_159 dX8_readDuchy_74 rfl ?_
            refine SW.putI (f := 10) aw_cl1 (kpF_0 hf) (leF_0 hf).1 (hW.le (leF_0 hf).2) (by decide) ww_408 (Or.inl rfl) dX8_readDuchy_77 rfl rfl rfl ?_
            refine SW.aload_n dX8_readDuchy_80 rfl ?_
            refine SW.ldcS (j := 9) rfl dX8_readDuchy_81 ?_
            refine SW.cvi1 kV_X8_125 (by omega) aw_cl8 kp_2 (by decide) (hW.le (by decide)) rfl (Nat.le_of_ble_eq_true rfl) dX8_readDuchy_83 (SMi.mono vc ?_)
            intro a6 n6 σ6 τ6 θ6 vc
            obtain ⟨hW, vc⟩ := vc
            refine SW.if_eq 99 dX8_readDuchy_86 (by decide) (fun hbr => ?_) (fun hbr => ?_)
            · replace vc := vc.1 hbr
              refine SW.iconst (v := (0 : Int32)) dX8_readDuchy_99 (by decide) ?_
              exact SW.iret dX8_readDuchy_100 rfl rfl ⟨_, rfl, vc⟩
            · replace vc := vc.2 hbr
              refine SW.aload_n dX8_readDuchy_89 rfl ?_
              refine SW.iconst (v := (0 : Int32)) dX8_readDuchy_90 (by decide) ?_
              refine SW.bipush (v := (100 : Int32)) dX8_readDuchy_91 (by decide) ?_
              refine SW.cvi2 kV_X8_128 (by omega) aw_cl8 kp_2 (by decide) (hW.le (by decide)) rfl (Nat.le_of_ble_eq_true rfl) dX8_readDuchy_93 (SMi.mono vc ?_)
              intro a7 n7 σ7 τ7 θ7 vc
              obtain ⟨hW, vc⟩ := vc
              refine SW.if_ne 101 dX8_readDuchy_96 (by decide) (fun hbr => ?_) (fun hbr => ?_)
              · replace vc := vc.1 hbr
                refine SW.aload_n dX8_readDuchy_101 rfl ?_
                refine SW.aload_n dX8_readDuchy_102 rfl ?_
                refine SW.getI (f := 11) aw_cl8 kp_2 (by decide) (hW.le (by decide)) (by decide) ww_159 dX8_readDuchy_103 rfl ?_
                refine SW.putI (f := 11) aw_cl1 (kpF_0 hf) (leF_0 hf).1 (hW.le (leF_0 hf).2) (by decide) ww_411 (Or.inl rfl) dX8_readDuchy_106 rfl rfl rfl ?_
                refine SW.aload_n dX8_readDuchy_109 rfl ?_
                refine SW.ldcS (j := 10) rfl dX8_readDuchy_110 ?_
                refine SW.cvi1 kV_X8_125 (by omega) aw_cl8 kp_2 (by decide) (hW.le (by decide)) rfl (Nat.le_of_ble_eq_true rfl) dX8_readDuchy_112 (SMi.mono vc ?_)
                intro a8 n8 σ8 τ8 θ8 vc
                obtain ⟨hW, vc⟩ := vc
                refine SW.if_eq 128 dX8_readDuchy_115 (by decide) (fun hbr => ?_) (fun hbr => ?_)
                · replace vc := vc.1 hbr
                  refine SW.iconst (v := (0 : Int32)) dX8_readDuchy_128 (by decide) ?_
                  exact SW.iret dX8_readDuchy_129 rfl rfl ⟨_, rfl, vc⟩
                · replace vc := vc.2 hbr
                  refine SW.aload_n dX8_readDuchy_118 rfl ?_
                  refine SW.iconst (v := (0 : Int32)) dX8_readDuchy_119 (by decide) ?_
                  refine SW.bipush (v := (100 : Int32)) dX8_readDuchy_120 (by decide) ?_
                  refine SW.cvi2 kV_X8_128 (by omega) aw_cl8 kp_2 (by decide) (hW.le (by decide)) rfl (Nat.le_of_ble_eq_true rfl) dX8_readDuchy_122 (SMi.mono vc ?_)
                  intro a9 n9 σ9 τ9 θ9 vc
                  obtain ⟨hW, vc⟩ := vc
                  refine SW.if_ne 130 dX8_readDuchy_125 (by decide) (fun hbr => ?_) (fun hbr => ?_)
                  · replace vc := vc.1 hbr
                    refine SW.aload_n dX8_readDuchy_130 rfl ?_
                    refine SW.aload_n dX8_readDuchy_131 rfl ?_
                    refine SW.getI (f := 11) aw_cl8 kp_2 (by decide) (hW.le (by decide)) (by decide) ww_159 dX8_readDuchy_132 rfl ?_
                    refine SW.putI (f := 12) aw_cl1 (kpF_0 hf) (leF_0 hf).1 (hW.le (leF_0 hf).2) (by decide) ww_415 (Or.inl rfl) dX8_readDuchy_135 rfl rfl rfl ?_
                    refine SW.iconst (v := (1 : Int32)) dX8_readDuchy_138 (by decide) ?_
                    exact SW.iret dX8_readDuchy_139 rfl rfl ⟨_, rfl, vc⟩
                  · replace vc := vc.2 hbr
                    refine SW.iconst (v := (0 : Int32)) dX8_readDuchy_128 (by decide) ?_
                    exact SW.iret dX8_readDuchy_129 rfl rfl ⟨_, rfl, vc⟩
              · replace vc := vc.2 hbr
                refine SW.iconst (v := (0 : Int32)) dX8_readDuchy_99 (by decide) ?_
                exact SW.iret dX8_readDuchy_100 rfl rfl ⟨_, rfl, vc⟩
          · replace vc := vc.2 hbr
            refine SW.iconst (v := (0 : Int32)) dX8_readDuchy_70 (by decide) ?_
            exact SW.iret dX8_readDuchy_71 rfl rfl ⟨_, rfl, vc⟩
      · replace vc := vc.2 hbr
        refine SW.iconst (v := (0 : Int32)) dX8_readDuchy_41 (by decide) ?_
        exact SW.iret dX8_readDuchy_42 rfl rfl ⟨_, rfl, vc⟩
  · replace vc := vc.2 hbr
    refine SW.aload_n dX8_readDuchy_7 rfl ?_
    refine SW.iconst (v := (3 : Int32)) dX8_readDuchy_8 (by decide) ?_
    refine SW.cvi1 kV_X8_77 (by omega) aw_cl8 kp_2 (by decide) (hW.le (by decide)) rfl (Nat.le_of_ble_eq_true rfl) dX8_readDuchy_9 (SMi.mono vc ?_)
    intro a10 n10 σ10 τ10 θ10 vc
    obtain ⟨hW, vc⟩ := vc
    exact SW.iret dX8_readDuchy_12 rfl (aw_nb vc.1) ⟨_, rfl, vc.2⟩
theorem ctX8_readDuchy {G : GG} {q : Int32 → Nat → SG → TU → TH → Prop} {n : Nat} {σ : SG} {τ : TU} {θ : TH} (f : Nat) (h : SW G 7 mX8_readDuchy (aw_qi q) 0 0 0 [some (.ref 2), some (.ref f)] [] (n, σ, τ, θ)) : SMi G 7 mX8_readDuchy 0 0 [.ref 2, .ref f] n σ τ θ q := SM.of _ rfl rfl (Nat.le_of_ble_eq_true rfl) h
set_option maxHeartbeats 4000000 in
set_option maxRecDepth 20000 in
theorem sgX8_readInto_0 {G : GG} {k : Nat} {q : Int32 → Nat → SG → TU → TH → Prop} {n : Nat} {σ : SG} {τ : TU} {θ : TH} (f : Nat) (x2 : Int32) (hk : 10 ≤ k) (hf : isF f) (hW : aw_WT n θ) (vc : SMv G 1 mX1_clear 0 0 [.ref f] n σ τ θ (fun n1 σ1 τ1 θ1 => aw_WT n1 θ1 ∧ (SMv G 2 mX8_advance 0 0 [.ref 2] n1 (aw_u (aw_u (aw_u (aw_u (aw_u σ1 2 5 (0 : Int32)) 2 6 (0 : Int32)) 2 1 (-1 : Int32)) 2 7 (if (0 : Int32) < (if (900 : Int32) < x2 then (900 : Int32) else x2) then (if (900 : Int32) < x2 then (900 : Int32) else x2) else (0 : Int32))) 2 10 (0 : Int32)) τ1 θ1 (fun n2 σ2 τ2 θ2 => aw_WT n2 θ2 ∧ (SW G k mX8_readInto (aw_qi q) 0 0 45 [some (.ref 2), some (.ref f), none, some (.int (0 : Int32))] [] (n2, σ2, τ2, θ2)))))) : SW G k mX8_readInto (aw_qi q) 0 0 0 [some (.ref 2), some (.ref f), some (.int x2), none] [] (n, σ, τ, θ) := by
  refine SW.aload_n dX8_readInto_0 rfl ?_
  refine SW.cvv0 kV_X8_26 (by omega) aw_cl1 (kpF_0 hf) (leF_0 hf).1 (hW.le (leF_0 hf).2) rfl (Nat.le_of_ble_eq_true rfl) dX8_readInto_1 (SMv.mono vc ?_)
  intro n1 σ1 τ1 θ1 vc
  obtain ⟨hW, vc⟩ := vc
  refine SW.aload_n dX8_readInto_4 rfl ?_
  refine SW.iconst (v := (0 : Int32)) dX8_readInto_5 (by decide) ?_
  refine SW.putI (f := 5) aw_cl8 kp_2 (by decide) (hW.le (by decide)) (by decide) ww_153 (Or.inl rfl) dX8_readInto_6 rfl rfl rfl ?_
  refine SW.aload_n dX8_readInto_9 rfl ?_
  refine SW.iconst (v := (0 : Int32)) dX8_readInto_10 (by decide) ?_
  refine SW.putI (f := 6) aw_cl8 kp_2 (by decide) (hW.le (by decide)) (by decide) ww_154 (Or.inl rfl) dX8_readInto_11 rfl rfl rfl ?_
  refine SW.aload_n dX8_readInto_14 rfl ?_
  refine SW.iconst (v := (-1 : Int32)) dX8_readInto_15 (by decide) ?_
  refine SW.putI (f := 1) aw_cl8 kp_2 (by decide) (hW.le (by decide)) (by decide) ww_148 (Or.inl rfl) dX8_readInto_16 rfl rfl rfl ?_
  refine SW.aload_n dX8_readInto_19 rfl ?_
  refine SW.iconst (v := (0 : Int32)) dX8_readInto_20 (by decide) ?_
  refine SW.iload_n dX8_readInto_21 rfl ?_
  refine SW.sipush (v := (900 : Int32)) dX8_readInto_22 (by decide) ?_
  refine SW.mmin ww_523 ww_524 ww_123 ww_525 (by omega) (Nat.le_of_ble_eq_true rfl) dX8_readInto_25 ?_
  refine SW.mmax ww_526 ww_527 ww_123 ww_528 (by omega) (Nat.le_of_ble_eq_true rfl) dX8_readInto_28 ?_
  refine SW.putI (f := 7) aw_cl8 kp_2 (by decide) (hW.le (by decide)) (by decide) ww_155 (Or.inl rfl) dX8_readInto_31 rfl rfl rfl ?_
  refine SW.aload_n dX8_readInto_34 rfl ?_
  refine SW.iconst (v := (0 : Int32)) dX8_readInto_35 (by decide) ?_
  refine SW.putI (f := 10) aw_cl8 kp_2 (by decide) (hW.le (by decide)) (by decide) ww_158 (Or.inl rfl) dX8_readInto_36 rfl rfl rfl ?_
  refine SW.aload_n dX8_readInto_39 rfl ?_
  refine SW.cvv0 kV_X8_56 (by omega) aw_cl8 kp_2 (by decide) (hW.le (by decide)) rfl (Nat.le_of_ble_eq_true rfl) dX8_readInto_40 (SMv.mono vc ?_)
  intro n2 σ2 τ2 θ2 vc
  obtain ⟨hW, vc⟩ := vc
  refine SW.iconst (v := (0 : Int32)) dX8_readInto_43 (by decide) ?_
  refine SW.istore_n dX8_readInto_44 (by decide) rfl rfl ?_
  refine SW.msk [true, true, false, true] rfl ?_
  exact vc
set_option maxHeartbeats 4000000 in
set_option maxRecDepth 20000 in
theorem sgX8_readInto_45 {G : GG} {k : Nat} {q : Int32 → Nat → SG → TU → TH → Prop} {n : Nat} {σ : SG} {τ : TU} {θ : TH} (f : Nat) (x3 : Int32) (hk : 10 ≤ k) (hf : isF f) (hW : aw_WT n θ) (vc : (((900 : Int32) < x3) → (SMi G 2 mX8_blamed 0 0 [.ref 2, .int (1 : Int32)] n σ τ θ (fun a1 n1 σ1 τ1 θ1 => aw_WT n1 θ1 ∧ (q a1 n1 σ1 τ1 θ1)))) ∧ ((¬ (900 : Int32) < x3) → (SMi G 9 mX8_readLine 0 0 [.ref 2, .ref f] n σ τ θ (fun a2 n2 σ2 τ2 θ2 => aw_WT n2 θ2 ∧ (((¬ a2 = 0) → (((¬ (σ2 2 8) = 0) → ((((σ2 2 8) = (3 : Int32)) → (SMv G 2 mX8_advance 0 0 [.ref 2] n2 σ2 τ2 θ2 (fun n3 σ3 τ3 θ3 => aw_WT n3 θ3 ∧ (SW G k mX8_readInto (aw_qi q) 0 0 45 [some (.ref 2), some (.ref f), none, some (.int (x3 + (1 : Int32)))] [] (n3, σ3, τ3, θ3))))) ∧ ((¬ (σ2 2 8) = (3 : Int32)) → (SMi G 2 mX8_blamed 0 0 [.ref 2, .int (1 : Int32)] n2 σ2 τ2 θ2 (fun a4 n4 σ4 τ4 θ4 => aw_WT n4 θ4 ∧ (q a4 n4 σ4 τ4 θ4)))))) ∧ (((σ2 2 8) = 0) → (((¬ (σ2 f 13) = 0) → (q (0 : Int32) n2 σ2 τ2 θ2)) ∧ (((σ2 f 13) = 0) → (SMi G 2 mX8_blamed 0 0 [.ref 2, .int (6 : Int32)] n2 σ2 τ2 θ2 (fun a5 n5 σ5 τ5 θ5 => aw_WT n5 θ5 ∧ (q a5 n5 σ5 τ5 θ5)))))))) ∧ ((a2 = 0) → (q (σ2 2 6) n2 σ2 τ2 θ2))))))) : SW G k mX8_readInto (aw_qi q) 0 0 45 [some (.ref 2), some (.ref f), none, some (.int x3)] [] (n, σ, τ, θ) := by
  refine SW.iload_n dX8_readInto_45 rfl ?_
  refine SW.sipush (v := (900 : Int32)) dX8_readInto_46 (by decide) ?_
  refine SW.icmp_gt 114 dX8_readInto_49 (by decide) (fun hbr => ?_) (fun hbr => ?_)
  · replace vc := vc.1 hbr
    refine SW.aload_n dX8_readInto_114 rfl ?_
    refine SW.iconst (v := (1 : Int32)) dX8_readInto_115 (by decide) ?_
    refine SW.cvi1 kV_X8_69 (by omega) aw_cl8 kp_2 (by decide) (hW.le (by decide)) rfl (Nat.le_of_ble_eq_true rfl) dX8_readInto_116 (SMi.mono vc ?_)
    intro a1 n1 σ1 τ1 θ1 vc
    obtain ⟨hW, vc⟩ := vc
    exact SW.iret dX8_readInto_119 rfl rfl ⟨_, rfl, vc⟩
  · replace vc := vc.2 hbr
    refine SW.aload_n dX8_readInto_52 rfl ?_
    refine SW.aload_n dX8_readInto_53 rfl ?_
    refine SW.cvi1 kV_X8_59 (by omega) aw_cl8 kp_2 (by decide) (hW.le (by decide)) rfl (Nat.le_of_ble_eq_true rfl) dX8_readInto_54 (SMi.mono vc ?_)
    intro a2 n2 σ2 τ2 θ2 vc
    obtain ⟨hW, vc⟩ := vc
    refine SW.if_ne 65 dX8_readInto_57 (by decide) (fun hbr => ?_) (fun hbr => ?_)
    · replace vc := vc.1 hbr
      refine SW.aload_n dX8_readInto_65 rfl ?_
      refine SW.getI (f := 8) aw_cl8 kp_2 (by decide) (hW.le (by decide)) (by decide) ww_156 dX8_readInto_66 rfl ?_
      refine SW.if_ne 90 dX8_readInto_69 (by decide) (fun hbr => ?_) (fun hbr => ?_)
      · replace vc := vc.1 hbr
        refine SW.aload_n dX8_readInto_90 rfl ?_
        refine SW.getI (f := 8) aw_cl8 kp_2 (by decide) (hW.le (by decide)) (by decide) ww_156 dX8_readInto_91 rfl ?_
        refine SW.iconst (v := (3 : Int32)) dX8_readInto_94 (by decide) ?_
        refine SW.icmp_eq 104 dX8_readInto_95 (by decide) (fun hbr => ?_) (fun hbr => ?_)
        · replace vc := vc.1 hbr
          refine SW.aload_n dX8_readInto_104 rfl ?_
          refine SW.cvv0 kV_X8_56 (by omega) aw_cl8 kp_2 (by decide) (hW.le (by decide)) rfl (Nat.le_of_ble_eq_true rfl) dX8_readInto_105 (SMv.mono vc ?_)
          intro n3 σ3 τ3 θ3 vc
          obtain ⟨hW, vc⟩ := vc
          refine SW.iinc (v := (x3 + (1 : Int32))) dX8_readInto_108 rfl rfl (by decide) rfl rfl ?_
          refine SW.goto 45 dX8_readInto_111 (by decide) ?_
          exact vc
        · replace vc := vc.2 hbr
          refine SW.aload_n dX8_readInto_98 rfl ?_
          refine SW.iconst (v := (1 : Int32)) dX8_readInto_99 (by decide) ?_
          refine SW.cvi1 kV_X8_69 (by omega) aw_cl8 kp_2 (by decide) (hW.le (by decide)) rfl (Nat.le_of_ble_eq_true rfl) dX8_readInto_100 (SMi.mono vc ?_)
          intro a4 n4 σ4 τ4 θ4 vc
          obtain ⟨hW, vc⟩ := vc
          exact SW.iret dX8_readInto_103 rfl rfl ⟨_, rfl, vc⟩
      · replace vc := vc.2 hbr
        refine SW.aload_n dX8_readInto_72 rfl ?_
        refine SW.getI (f := 13) aw_cl1 (kpF_0 hf) (leF_0 hf).1 (hW.le (leF_0 hf).2) (by decide) ww_422 dX8_readInto_73 rfl ?_
        refine SW.if_ne 88 dX8_readInto_76 (by decide) (fun hbr => ?_) (fun hbr => ?_)
        · replace vc := vc.1 hbr
          refine SW.iconst (v := (0 : Int32)) dX8_readInto_88 (by decide) ?_
          exact SW.iret dX8_readInto_89 rfl rfl ⟨_, rfl, vc⟩
        · replace vc := vc.2 hbr
          refine SW.aload_n dX8_readInto_79 rfl ?_
          refine SW.bipush (v := (6 : Int32)) dX8_readInto_80 (by decide) ?_
          refine SW.cvi1 kV_X8_69 (by omega) aw_cl8 kp_2 (by decide) (hW.le (by decide)) rfl (Nat.le_of_ble_eq_true rfl) dX8_readInto_82 (SMi.mono vc ?_)
          intro a5 n5 σ5 τ5 θ5 vc
          obtain ⟨hW, vc⟩ := vc
          refine SW.goto 89 dX8_readInto_85 (by decide) ?_
          exact SW.iret dX8_readInto_89 rfl rfl ⟨_, rfl, vc⟩
    · replace vc := vc.2 hbr
      refine SW.aload_n dX8_readInto_60 rfl ?_
      refine SW.getI (f := 6) aw_cl8 kp_2 (by decide) (hW.le (by decide)) (by decide) ww_154 dX8_readInto_61 rfl ?_
      exact SW.iret dX8_readInto_64 rfl rfl ⟨_, rfl, vc⟩
theorem ctX8_readInto {G : GG} {q : Int32 → Nat → SG → TU → TH → Prop} {n : Nat} {σ : SG} {τ : TU} {θ : TH} (f : Nat) (x2 : Int32) (h : SW G 10 mX8_readInto (aw_qi q) 0 0 0 [some (.ref 2), some (.ref f), some (.int x2), none] [] (n, σ, τ, θ)) : SMi G 10 mX8_readInto 0 0 [.ref 2, .ref f, .int x2] n σ τ θ q := SM.of _ rfl rfl (Nat.le_of_ble_eq_true rfl) h
set_option maxHeartbeats 4000000 in
set_option maxRecDepth 20000 in
theorem sgX8_readInvited_0 {G : GG} {k : Nat} {q : Int32 → Nat → SG → TU → TH → Prop} {n : Nat} {σ : SG} {τ : TU} {θ : TH} (f : Nat)  (hk : 8 ≤ k) (hf : isF f) (hW : aw_WT n θ) (vc : SMv G 2 mX8_advance 0 0 [.ref 2] n σ τ θ (fun n1 σ1 τ1 θ1 => aw_WT n1 θ1 ∧ (SMi G 7 mX8_manHere 0 0 [.ref 2, .ref f] n1 σ1 τ1 θ1 (fun a2 n2 σ2 τ2 θ2 => aw_WT n2 θ2 ∧ (((¬ a2 = (-1 : Int32)) → (vp_in a2 5 ∧ ((((σ2 (f + 4) a2.toNatClampNeg) = (-1 : Int32)) → (SMv G 2 mX8_advance 0 0 [.ref 2] n2 σ2 τ2 θ2 (fun n3 σ3 τ3 θ3 => aw_WT n3 θ3 ∧ (((¬ (σ3 2 8) = (1 : Int32)) → (SMi G 1 mX8_blame 0 0 [.ref 2, .int (1 : Int32)] n3 σ3 τ3 θ3 (fun a4 n4 σ4 τ4 θ4 => aw_WT n4 θ4 ∧ ((a4 = 0 ∨ a4 = 1) ∧ q a4 n4 σ4 τ4 θ4)))) ∧ (((σ3 2 8) = (1 : Int32)) → (SMi G 6 mX8_isLineWord 0 0 [.ref 2] n3 σ3 τ3 θ3 (fun a5 n5 σ5 τ5 θ5 => aw_WT n5 θ5 ∧ (((a5 = 0) → (SMl G 1 mX8_code 0 0 [.ref 2] n5 σ5 τ5 θ5 (fun a6 n6 σ6 τ6 θ6 => aw_WT n6 θ6 ∧ (SMi G 1 mX8_indexOf 0 0 [.ref 5, .int (σ5 f 14), .long a6] n6 σ6 τ6 θ6 (fun a7 n7 σ7 τ7 θ7 => aw_WT n7 θ7 ∧ (((¬ a7 = (-1 : Int32)) → (vp_in a2 5 ∧ (SMv G 2 mX8_advance 0 0 [.ref 2] n7 (aw_u σ7 (f + 4) a2.toNatClampNeg a7) τ7 θ7 (fun n8 σ8 τ8 θ8 => aw_WT n8 θ8 ∧ (q (1 : Int32) n8 σ8 τ8 θ8))))) ∧ ((a7 = (-1 : Int32)) → (SMi G 1 mX8_blame 0 0 [.ref 2, .int (2 : Int32)] n7 σ7 τ7 θ7 (fun a9 n9 σ9 τ9 θ9 => aw_WT n9 θ9 ∧ ((a9 = 0 ∨ a9 = 1) ∧ q a9 n9 σ9 τ9 θ9)))))))))) ∧ ((¬ a5 = 0) → (SMi G 1 mX8_blame 0 0 [.ref 2, .int (1 : Int32)] n5 σ5 τ5 θ5 (fun a10 n10 σ10 τ10 θ10 => aw_WT n10 θ10 ∧ ((a10 = 0 ∨ a10 = 1) ∧ q a10 n10 σ10 τ10 θ10)))))))))))) ∧ ((¬ (σ2 (f + 4) a2.toNatClampNeg) = (-1 : Int32)) → (SMi G 1 mX8_blame 0 0 [.ref 2, .int (3 : Int32)] n2 σ2 τ2 θ2 (fun a11 n11 σ11 τ11 θ11 => aw_WT n11 θ11 ∧ ((a11 = 0 ∨ a11 = 1) ∧ q a11 n11 σ11 τ11 θ11))))))) ∧ ((a2 = (-1 : Int32)) → (q (0 : Int32) n2 σ2 τ2 θ2))))))) : SW G k mX8_readInvited (aw_qi q) 0 0 0 [some (.ref 2), some (.ref f), none, none] [] (n, σ, τ, θ) := by
  refine SW.aload_n dX8_readInvited_0 rfl ?_
  refine SW.cvv0 kV_X8_56 (by omega) aw_cl8 kp_2 (by decide) (hW.le (by decide)) rfl (Nat.le_of_ble_eq_true rfl) dX8_readInvited_1 (SMv.mono vc ?_)
  intro n1 σ1 τ1 θ1 vc
  obtain ⟨hW, vc⟩ := vc
  refine SW.aload_n dX8_readInvited_4 rfl ?_
  refine SW.aload_n dX8_readInvited_5 rfl ?_
  refine SW.cvi1 kV_X8_180 (by omega) aw_cl8 kp_2 (by decide) (hW.le (by decide)) rfl (Nat.le_of_ble_eq_true rfl) dX8_readInvited_6 (SMi.mono vc ?_)
  intro a2 n2 σ2 τ2 θ2 vc
  obtain ⟨hW, vc⟩ := vc
  refine SW.istore_n dX8_readInvited_9 (by decide) rfl rfl ?_
  refine SW.iload_n dX8_readInvited_10 rfl ?_
  refine SW.iconst (v := (-1 : Int32)) dX8_readInvited_11 (by decide) ?_
  refine SW.icmp_ne 17 dX8_readInvited_12 (by decide) (fun hbr => ?_) (fun hbr => ?_)
  · replace vc := vc.1 hbr
    refine SW.aload_n dX8_readInvited_17 rfl ?_
    refine SW.getS (f := 3) (r := f + 4) aw_cl1 (kpF_0 hf) (leF_0 hf).1 (hW.le (leF_0 hf).2) (by decide) ww_382 dX8_readInvited_18 rfl (hW.f3 hf) ?_
    refine SW.iload_n dX8_readInvited_21 rfl ?_
    refine SW.iald (kpF_4 hf) (leF_4 hf).1 (hW.le (leF_4 hf).2) vc.1 dX8_readInvited_22 ?_
    replace vc := vc.2
    refine SW.iconst (v := (-1 : Int32)) dX8_readInvited_23 (by decide) ?_
    refine SW.icmp_eq 33 dX8_readInvited_24 (by decide) (fun hbr => ?_) (fun hbr => ?_)
    · replace vc := vc.1 hbr
      refine SW.aload_n dX8_readInvited_33 rfl ?_
      refine SW.cvv0 kV_X8_56 (by omega) aw_cl8 kp_2 (by decide) (hW.le (by decide)) rfl (Nat.le_of_ble_eq_true rfl) dX8_readInvited_34 (SMv.mono vc ?_)
      intro n3 σ3 τ3 θ3 vc
      obtain ⟨hW, vc⟩ := vc
      refine SW.aload_n dX8_readInvited_37 rfl ?_
      refine SW.getI (f := 8) aw_cl8 kp_2 (by decide) (hW.le (by decide)) (by decide) ww_156 dX8_readInvited_38 rfl ?_
      refine SW.iconst (v := (1 : Int32)) dX8_readInvited_41 (by decide) ?_
      refine SW.icmp_ne 52 dX8_readInvited_42 (by decide) (fun hbr => ?_) (fun hbr => ?_)
      · replace vc := vc.1 hbr
        refine SW.aload_n dX8_readInvited_52 rfl ?_
        refine SW.iconst (v := (1 : Int32)) dX8_readInvited_53 (by decide) ?_
        refine SW.cvi1 kV_X8_77 (by omega) aw_cl8 kp_2 (by decide) (hW.le (by decide)) rfl (Nat.le_of_ble_eq_true rfl) dX8_readInvited_54 (SMi.mono vc ?_)
        intro a4 n4 σ4 τ4 θ4 vc
        obtain ⟨hW, vc⟩ := vc
        exact SW.iret dX8_readInvited_57 rfl (aw_nb vc.1) ⟨_, rfl, vc.2⟩
      · replace vc := vc.2 hbr
        refine SW.aload_n dX8_readInvited_45 rfl ?_
        refine SW.cvi0 kV_X8_73 (by omega) aw_cl8 kp_2 (by decide) (hW.le (by decide)) rfl (Nat.le_of_ble_eq_true rfl) dX8_readInvited_46 (SMi.mono vc ?_)
        intro a5 n5 σ5 τ5 θ5 vc
        obtain ⟨hW, vc⟩ := vc
        refine SW.if_eq 58 dX8_readInvited_49 (by decide) (fun hbr => ?_) (fun hbr => ?_)
        · replace vc := vc.1 hbr
          refine SW.aload_n dX8_readInvited_58 rfl ?_
          refine SW.getS (f := 4) (r := 5) aw_cl8 kp_2 (by decide) (hW.le (by decide)) (by decide) ww_152 dX8_readInvited_59 rfl hW.t2_4 ?_
          refine SW.aload_n dX8_readInvited_62 rfl ?_
          refine SW.getI (f := 14) aw_cl1 (kpF_0 hf) (leF_0 hf).1 (hW.le (leF_0 hf).2) (by decide) ww_426 dX8_readInvited_63 rfl ?_
          refine SW.aload_n dX8_readInvited_66 rfl ?_
          refine SW.cvl0 kV_X8_152 (by omega) aw_cl8 kp_2 (by decide) (hW.le (by decide)) rfl (Nat.le_of_ble_eq_true rfl) dX8_readInvited_67 (SMl.mono vc ?_)
          intro a6 n6 σ6 τ6 θ6 vc
          obtain ⟨hW, vc⟩ := vc
          refine SW.csi3 kS_X8_205 (by omega) (Nat.le_of_ble_eq_true rfl) dX8_readInvited_70 (SMi.mono vc ?_)
          intro a7 n7 σ7 τ7 θ7 vc
          obtain ⟨hW, vc⟩ := vc
          refine SW.istore_n dX8_readInvited_73 (by decide) rfl rfl ?_
          refine SW.iload_n dX8_readInvited_74 rfl ?_
          refine SW.iconst (v := (-1 : Int32)) dX8_readInvited_75 (by decide) ?_
          refine SW.icmp_ne 85 dX8_readInvited_76 (by decide) (fun hbr => ?_) (fun hbr => ?_)
          · replace vc := vc.1 hbr
            refine SW.aload_n dX8_readInvited_85 rfl ?_
            refine SW.getS (f := 3) (r := f + 4) aw_cl1 (kpF_0 hf) (leF_0 hf).1 (hW.le (leF_0 hf).2) (by decide) ww_382 dX8_readInvited_86 rfl (hW.f3 hf) ?_
            refine SW.iload_n dX8_readInvited_89 rfl ?_
            refine SW.iload_n dX8_readInvited_90 rfl ?_
            refine SW.iast (kpF_4 hf) (leF_4 hf).1 (hW.le (leF_4 hf).2) vc.1 dX8_readInvited_91 ?_
            replace vc := vc.2
            refine SW.aload_n dX8_readInvited_92 rfl ?_
            refine SW.cvv0 kV_X8_56 (by omega) aw_cl8 kp_2 (by decide) (hW.le (by decide)) rfl (Nat.le_of_ble_eq_true rfl) dX8_readInvited_93 (SMv.mono vc ?_)
            intro n8 σ8 τ8 θ8 vc
            obtain ⟨hW, vc⟩ := vc
            refine SW.iconst (v := (1 : Int32)) dX8_readInvited_96 (by decide) ?_
            exact SW.iret dX8_readInvited_97 rfl rfl ⟨_, rfl, vc⟩
          · replace vc := vc.2 hbr
            refine SW.aload_n dX8_readInvited_79 rfl ?_
            refine SW.iconst (v := (2 : Int32)) dX8_readInvited_80 (by decide) ?_
            refine SW.cvi1 kV_X8_77 (by omega) aw_cl8 kp_2 (by decide) (hW.le (by decide)) rfl (Nat.le_of_ble_eq_true rfl) dX8_readInvited_81 (SMi.mono vc ?_)
            intro a9 n9 σ9 τ9 θ9 vc
            obtain ⟨hW, vc⟩ := vc
            exact SW.iret dX8_readInvited_84 rfl (aw_nb vc.1) ⟨_, rfl, vc.2⟩
        · replace vc := vc.2 hbr
          refine SW.aload_n dX8_readInvited_52 rfl ?_
          refine SW.iconst (v := (1 : Int32)) dX8_readInvited_53 (by decide) ?_
          refine SW.cvi1 kV_X8_77 (by omega) aw_cl8 kp_2 (by decide) (hW.le (by decide)) rfl (Nat.le_of_ble_eq_true rfl) dX8_readInvited_54 (SMi.mono vc ?_)
          intro a10 n10 σ10 τ10 θ10 vc
          obtain ⟨hW, vc⟩ := vc
          exact SW.iret dX8_readInvited_57 rfl (aw_nb vc.1) ⟨_, rfl, vc.2⟩
    · replace vc := vc.2 hbr
      refine SW.aload_n dX8_readInvited_27 rfl ?_
      refine SW.iconst (v := (3 : Int32)) dX8_readInvited_28 (by decide) ?_
      refine SW.cvi1 kV_X8_77 (by omega) aw_cl8 kp_2 (by decide) (hW.le (by decide)) rfl (Nat.le_of_ble_eq_true rfl) dX8_readInvited_29 (SMi.mono vc ?_)
      intro a11 n11 σ11 τ11 θ11 vc
      obtain ⟨hW, vc⟩ := vc
      exact SW.iret dX8_readInvited_32 rfl (aw_nb vc.1) ⟨_, rfl, vc.2⟩
  · replace vc := vc.2 hbr
    refine SW.iconst (v := (0 : Int32)) dX8_readInvited_15 (by decide) ?_
    exact SW.iret dX8_readInvited_16 rfl rfl ⟨_, rfl, vc⟩
theorem ctX8_readInvited {G : GG} {q : Int32 → Nat → SG → TU → TH → Prop} {n : Nat} {σ : SG} {τ : TU} {θ : TH} (f : Nat) (h : SW G 8 mX8_readInvited (aw_qi q) 0 0 0 [some (.ref 2), some (.ref f), none, none] [] (n, σ, τ, θ)) : SMi G 8 mX8_readInvited 0 0 [.ref 2, .ref f] n σ τ θ q := SM.of _ rfl rfl (Nat.le_of_ble_eq_true rfl) h
set_option maxHeartbeats 4000000 in
set_option maxRecDepth 20000 in
theorem sgX8_readLine_0 {G : GG} {k : Nat} {q : Int32 → Nat → SG → TU → TH → Prop} {n : Nat} {σ : SG} {τ : TU} {θ : TH} (f : Nat)  (hk : 9 ≤ k) (hf : isF f) (hW : aw_WT n θ) (vc : SMi G 6 mX8_isLineWord 0 0 [.ref 2] n σ τ θ (fun a1 n1 σ1 τ1 θ1 => aw_WT n1 θ1 ∧ (((¬ a1 = 0) → (SMi G 5 mX8_is 0 0 [.ref 2, .ref (1000 + 0)] n1 σ1 τ1 θ1 (fun a2 n2 σ2 τ2 θ2 => aw_WT n2 θ2 ∧ (((a2 = 0) → (((¬ (σ2 2 5) = 0) → (SMi G 5 mX8_is 0 0 [.ref 2, .ref (1000 + 1)] n2 σ2 τ2 θ2 (fun a3 n3 σ3 τ3 θ3 => aw_WT n3 θ3 ∧ (((a3 = 0) → (SMi G 5 mX8_is 0 0 [.ref 2, .ref (1000 + 2)] n3 σ3 τ3 θ3 (fun a4 n4 σ4 τ4 θ4 => aw_WT n4 θ4 ∧ (((a4 = 0) → (SMi G 5 mX8_is 0 0 [.ref 2, .ref (1000 + 3)] n4 σ4 τ4 θ4 (fun a5 n5 σ5 τ5 θ5 => aw_WT n5 θ5 ∧ (((a5 = 0) → (SMi G 5 mX8_is 0 0 [.ref 2, .ref (1000 + 4)] n5 σ5 τ5 θ5 (fun a6 n6 σ6 τ6 θ6 => aw_WT n6 θ6 ∧ (((a6 = 0) → (SMi G 5 mX8_is 0 0 [.ref 2, .ref (1000 + 5)] n6 σ6 τ6 θ6 (fun a7 n7 σ7 τ7 θ7 => aw_WT n7 θ7 ∧ (((a7 = 0) → (SMi G 8 mX8_readReading 0 0 [.ref 2, .ref f] n7 σ7 τ7 θ7 (fun a8 n8 σ8 τ8 θ8 => aw_WT n8 θ8 ∧ ((a8 = 0 ∨ a8 = 1) ∧ q a8 n8 σ8 τ8 θ8)))) ∧ ((¬ a7 = 0) → (SMi G 8 mX8_readInvited 0 0 [.ref 2, .ref f] n7 σ7 τ7 θ7 (fun a9 n9 σ9 τ9 θ9 => aw_WT n9 θ9 ∧ ((a9 = 0 ∨ a9 = 1) ∧ q a9 n9 σ9 τ9 θ9)))))))) ∧ ((¬ a6 = 0) → (SMi G 8 mX8_readDoor 0 0 [.ref 2, .ref f] n6 σ6 τ6 θ6 (fun a10 n10 σ10 τ10 θ10 => aw_WT n10 θ10 ∧ ((a10 = 0 ∨ a10 = 1) ∧ q a10 n10 σ10 τ10 θ10)))))))) ∧ ((¬ a5 = 0) → (SMi G 8 mX8_readClaim 0 0 [.ref 2, .ref f, .ref (f + 13)] n5 σ5 τ5 θ5 (fun a11 n11 σ11 τ11 θ11 => aw_WT n11 θ11 ∧ ((a11 = 0 ∨ a11 = 1) ∧ q a11 n11 σ11 τ11 θ11)))))))) ∧ ((¬ a4 = 0) → (SMi G 8 mX8_readClaim 0 0 [.ref 2, .ref f, .ref (f + 8)] n4 σ4 τ4 θ4 (fun a12 n12 σ12 τ12 θ12 => aw_WT n12 θ12 ∧ ((a12 = 0 ∨ a12 = 1) ∧ q a12 n12 σ12 τ12 θ12)))))))) ∧ ((¬ a3 = 0) → (SMi G 8 mX8_readMan 0 0 [.ref 2, .ref f] n3 σ3 τ3 θ3 (fun a13 n13 σ13 τ13 θ13 => aw_WT n13 θ13 ∧ ((a13 = 0 ∨ a13 = 1) ∧ q a13 n13 σ13 τ13 θ13)))))))) ∧ (((σ2 2 5) = 0) → (SMi G 1 mX8_blame 0 0 [.ref 2, .int (6 : Int32)] n2 σ2 τ2 θ2 (fun a14 n14 σ14 τ14 θ14 => aw_WT n14 θ14 ∧ ((a14 = 0 ∨ a14 = 1) ∧ q a14 n14 σ14 τ14 θ14)))))) ∧ ((¬ a2 = 0) → (SMi G 7 mX8_readDuchy 0 0 [.ref 2, .ref f] n2 σ2 τ2 θ2 (fun a15 n15 σ15 τ15 θ15 => aw_WT n15 θ15 ∧ ((a15 = 0 ∨ a15 = 1) ∧ q a15 n15 σ15 τ15 θ15)))))))) ∧ ((a1 = 0) → (SMi G 1 mX8_blame 0 0 [.ref 2, .int (1 : Int32)] n1 σ1 τ1 θ1 (fun a16 n16 σ16 τ16 θ16 => aw_WT n16 θ16 ∧ ((a16 = 0 ∨ a16 = 1) ∧ q a16 n16 σ16 τ16 θ16))))))) : SW G k mX8_readLine (aw_qi q) 0 0 0 [some (.ref 2), some (.ref f)] [] (n, σ, τ, θ) := by
  refine SW.aload_n dX8_readLine_0 rfl ?_
  refine SW.cvi0 kV_X8_73 (by omega) aw_cl8 kp_2 (by decide) (hW.le (by decide)) rfl (Nat.le_of_ble_eq_true rfl) dX8_readLine_1 (SMi.mono vc ?_)
  intro a1 n1 σ1 τ1 θ1 vc
  obtain ⟨hW, vc⟩ := vc
  refine SW.if_ne 13 dX8_readLine_4 (by decide) (fun hbr => ?_) (fun hbr => ?_)
  · replace vc := vc.1 hbr
    refine SW.aload_n dX8_readLine_13 rfl ?_
    refine SW.ldcS (j := 0) rfl dX8_readLine_14 ?_
    refine SW.cvi1 kV_X8_83 (by omega) aw_cl8 kp_2 (by decide) (hW.le (by decide)) rfl (Nat.le_of_ble_eq_true rfl) dX8_readLine_16 (SMi.mono vc ?_)
    intro a2 n2 σ2 τ2 θ2 vc
    obtain ⟨hW, vc⟩ := vc
    refine SW.if_eq 28 dX8_readLine_19 (by decide) (fun hbr => ?_) (fun hbr => ?_)
    · replace vc := vc.1 hbr
      refine SW.aload_n dX8_readLine_28 rfl ?_
      refine SW.getI (f := 5) aw_cl8 kp_2 (by decide) (hW.le (by decide)) (by decide) ww_153 dX8_readLine_29 rfl ?_
      refine SW.if_ne 42 dX8_readLine_32 (by decide) (fun hbr => ?_) (fun hbr => ?_)
      · replace vc := vc.1 hbr
        refine SW.aload_n dX8_readLine_42 rfl ?_
        refine SW.ldcS (j := 1) rfl dX8_readLine_43 ?_
        refine SW.cvi1 kV_X8_83 (by omega) aw_cl8 kp_2 (by decide) (hW.le (by decide)) rfl (Nat.le_of_ble_eq_true rfl) dX8_readLine_45 (SMi.mono vc ?_)
        intro a3 n3 σ3 τ3 θ3 vc
        obtain ⟨hW, vc⟩ := vc
        refine SW.if_eq 57 dX8_readLine_48 (by decide) (fun hbr => ?_) (fun hbr => ?_)
        · replace vc := vc.1 hbr
          refine SW.aload_n dX8_readLine_57 rfl ?_
          refine SW.ldcS (j := 2) rfl dX8_readLine_58 ?_
          refine SW.cvi1 kV_X8_83 (by omega) aw_cl8 kp_2 (by decide) (hW.le (by decide)) rfl (Nat.le_of_ble_eq_true rfl) dX8_readLine_60 (SMi.mono vc ?_)
          intro a4 n4 σ4 τ4 θ4 vc
          obtain ⟨hW, vc⟩ := vc
          refine SW.if_eq 76 dX8_readLine_63 (by decide) (fun hbr => ?_) (fun hbr => ?_)
          · replace vc := vc.1 hbr
            refine SW.aload_n dX8_readLine_76 rfl ?_
            refine SW.ldcS (j := 3) rfl dX8_readLine_77 ?_
            refine SW.cvi1 kV_X8_83 (by omega) aw_cl8 kp_2 (by decide) (hW.le (by decide)) rfl (Nat.le_of_ble_eq_true rfl) dX8_readLine_79 (SMi.mono vc ?_)
            intro a5 n5 σ5 τ5 θ5 vc
            obtain ⟨hW, vc⟩ := vc
            refine SW.if_eq 95 dX8_readLine_82 (by decide) (fun hbr => ?_) (fun hbr => ?_)
            · replace vc := vc.1 hbr
              refine SW.aload_n dX8_readLine_95 rfl ?_
              refine SW.ldcS (j := 4) rfl dX8_readLine_96 ?_
              refine SW.cvi1 kV_X8_83 (by omega) aw_cl8 kp_2 (by decide) (hW.le (by decide)) rfl (Nat.le_of_ble_eq_true rfl) dX8_readLine_98 (SMi.mono vc ?_)
              intro a6 n6 σ6 τ6 θ6 vc
              obtain ⟨hW, vc⟩ := vc
              refine SW.if_eq 110 dX8_readLine_101 (by decide) (fun hbr => ?_) (fun hbr => ?_)
              · replace vc := vc.1 hbr
                refine SW.aload_n dX8_readLine_110 rfl ?_
                refine SW.ldcS (j := 5) rfl dX8_readLine_111 ?_
                refine SW.cvi1 kV_X8_83 (by omega) aw_cl8 kp_2 (by decide) (hW.le (by decide)) rfl (Nat.le_of_ble_eq_true rfl) dX8_readLine_113 (SMi.mono vc ?_)
                intro a7 n7 σ7 τ7 θ7 vc
                obtain ⟨hW, vc⟩ := vc
                refine SW.if_eq 127 dX8_readLine_116 (by decide) (fun hbr => ?_) (fun hbr => ?_)
                · replace vc := vc.1 hbr
                  refine SW.aload_n dX8_readLine_127 rfl ?_
                  refine SW.aload_n dX8_readLine_128 rfl ?_
                  refine SW.cvi1 kV_X8_120 (by omega) aw_cl8 kp_2 (by decide) (hW.le (by decide)) rfl (Nat.le_of_ble_eq_true rfl) dX8_readLine_129 (SMi.mono vc ?_)
                  intro a8 n8 σ8 τ8 θ8 vc
                  obtain ⟨hW, vc⟩ := vc
                  exact SW.iret dX8_readLine_132 rfl (aw_nb vc.1) ⟨_, rfl, vc.2⟩
                · replace vc := vc.2 hbr
                  refine SW.aload_n dX8_readLine_119 rfl ?_
                  refine SW.aload_n dX8_readLine_120 rfl ?_
                  refine SW.cvi1 kV_X8_117 (by omega) aw_cl8 kp_2 (by decide) (hW.le (by decide)) rfl (Nat.le_of_ble_eq_true rfl) dX8_readLine_121 (SMi.mono vc ?_)
                  intro a9 n9 σ9 τ9 θ9 vc
                  obtain ⟨hW, vc⟩ := vc
                  refine SW.goto 132 dX8_readLine_124 (by decide) ?_
                  exact SW.iret dX8_readLine_132 rfl (aw_nb vc.1) ⟨_, rfl, vc.2⟩
              · replace vc := vc.2 hbr
                refine SW.aload_n dX8_readLine_104 rfl ?_
                refine SW.aload_n dX8_readLine_105 rfl ?_
                refine SW.cvi1 kV_X8_112 (by omega) aw_cl8 kp_2 (by decide) (hW.le (by decide)) rfl (Nat.le_of_ble_eq_true rfl) dX8_readLine_106 (SMi.mono vc ?_)
                intro a10 n10 σ10 τ10 θ10 vc
                obtain ⟨hW, vc⟩ := vc
                exact SW.iret dX8_readLine_109 rfl (aw_nb vc.1) ⟨_, rfl, vc.2⟩
            · replace vc := vc.2 hbr
              refine SW.aload_n dX8_readLine_85 rfl ?_
              refine SW.aload_n dX8_readLine_86 rfl ?_
              refine SW.aload_n dX8_readLine_87 rfl ?_
              refine SW.getS (f := 8) (r := f + 13) aw_cl1 (kpF_0 hf) (leF_0 hf).1 (hW.le (leF_0 hf).2) (by decide) ww_401 dX8_readLine_88 rfl (hW.f8 hf) ?_
              refine SW.cvi2 kV_X8_101 (by omega) aw_cl8 kp_2 (by decide) (hW.le (by decide)) rfl (Nat.le_of_ble_eq_true rfl) dX8_readLine_91 (SMi.mono vc ?_)
              intro a11 n11 σ11 τ11 θ11 vc
              obtain ⟨hW, vc⟩ := vc
              exact SW.iret dX8_readLine_94 rfl (aw_nb vc.1) ⟨_, rfl, vc.2⟩
          · replace vc := vc.2 hbr
            refine SW.aload_n dX8_readLine_66 rfl ?_
            refine SW.aload_n dX8_readLine_67 rfl ?_
            refine SW.aload_n dX8_readLine_68 rfl ?_
            refine SW.getS (f := 7) (r := f + 8) aw_cl1 (kpF_0 hf) (leF_0 hf).1 (hW.le (leF_0 hf).2) (by decide) ww_396 dX8_readLine_69 rfl (hW.f7 hf) ?_
            refine SW.cvi2 kV_X8_101 (by omega) aw_cl8 kp_2 (by decide) (hW.le (by decide)) rfl (Nat.le_of_ble_eq_true rfl) dX8_readLine_72 (SMi.mono vc ?_)
            intro a12 n12 σ12 τ12 θ12 vc
            obtain ⟨hW, vc⟩ := vc
            exact SW.iret dX8_readLine_75 rfl (aw_nb vc.1) ⟨_, rfl, vc.2⟩
        · replace vc := vc.2 hbr
          refine SW.aload_n dX8_readLine_51 rfl ?_
          refine SW.aload_n dX8_readLine_52 rfl ?_
          refine SW.cvi1 kV_X8_92 (by omega) aw_cl8 kp_2 (by decide) (hW.le (by decide)) rfl (Nat.le_of_ble_eq_true rfl) dX8_readLine_53 (SMi.mono vc ?_)
          intro a13 n13 σ13 τ13 θ13 vc
          obtain ⟨hW, vc⟩ := vc
          exact SW.iret dX8_readLine_56 rfl (aw_nb vc.1) ⟨_, rfl, vc.2⟩
      · replace vc := vc.2 hbr
        refine SW.aload_n dX8_readLine_35 rfl ?_
        refine SW.bipush (v := (6 : Int32)) dX8_readLine_36 (by decide) ?_
        refine SW.cvi1 kV_X8_77 (by omega) aw_cl8 kp_2 (by decide) (hW.le (by decide)) rfl (Nat.le_of_ble_eq_true rfl) dX8_readLine_38 (SMi.mono vc ?_)
        intro a14 n14 σ14 τ14 θ14 vc
        obtain ⟨hW, vc⟩ := vc
        exact SW.iret dX8_readLine_41 rfl (aw_nb vc.1) ⟨_, rfl, vc.2⟩
    · replace vc := vc.2 hbr
      refine SW.aload_n dX8_readLine_22 rfl ?_
      refine SW.aload_n dX8_readLine_23 rfl ?_
      refine SW.cvi1 kV_X8_87 (by omega) aw_cl8 kp_2 (by decide) (hW.le (by decide)) rfl (Nat.le_of_ble_eq_true rfl) dX8_readLine_24 (SMi.mono vc ?_)
      intro a15 n15 σ15 τ15 θ15 vc
      obtain ⟨hW, vc⟩ := vc
      exact SW.iret dX8_readLine_27 rfl (aw_nb vc.1) ⟨_, rfl, vc.2⟩
  · replace vc := vc.2 hbr
    refine SW.aload_n dX8_readLine_7 rfl ?_
    refine SW.iconst (v := (1 : Int32)) dX8_readLine_8 (by decide) ?_
    refine SW.cvi1 kV_X8_77 (by omega) aw_cl8 kp_2 (by decide) (hW.le (by decide)) rfl (Nat.le_of_ble_eq_true rfl) dX8_readLine_9 (SMi.mono vc ?_)
    intro a16 n16 σ16 τ16 θ16 vc
    obtain ⟨hW, vc⟩ := vc
    exact SW.iret dX8_readLine_12 rfl (aw_nb vc.1) ⟨_, rfl, vc.2⟩
theorem ctX8_readLine {G : GG} {q : Int32 → Nat → SG → TU → TH → Prop} {n : Nat} {σ : SG} {τ : TU} {θ : TH} (f : Nat) (h : SW G 9 mX8_readLine (aw_qi q) 0 0 0 [some (.ref 2), some (.ref f)] [] (n, σ, τ, θ)) : SMi G 9 mX8_readLine 0 0 [.ref 2, .ref f] n σ τ θ q := SM.of _ rfl rfl (Nat.le_of_ble_eq_true rfl) h
set_option maxHeartbeats 4000000 in
set_option maxRecDepth 20000 in
theorem sgX8_readMan_0 {G : GG} {k : Nat} {q : Int32 → Nat → SG → TU → TH → Prop} {n : Nat} {σ : SG} {τ : TU} {θ : TH} (f : Nat)  (hk : 8 ≤ k) (hf : isF f) (hW : aw_WT n θ) (vc : (((σ f 13) < (5 : Int32)) → (SMv G 2 mX8_advance 0 0 [.ref 2] n σ τ θ (fun n1 σ1 τ1 θ1 => aw_WT n1 θ1 ∧ (SMi G 7 mX8_isNewName 0 0 [.ref 2, .ref f] n1 σ1 τ1 θ1 (fun a2 n2 σ2 τ2 θ2 => aw_WT n2 θ2 ∧ (((¬ a2 = 0) → (SMl G 1 mX8_code 0 0 [.ref 2] n2 σ2 τ2 θ2 (fun a3 n3 σ3 τ3 θ3 => aw_WT n3 θ3 ∧ (vp_in (σ f 13) 5 ∧ (SMv G 2 mX8_advance 0 0 [.ref 2] n3 σ3 (aw_u τ3 4 (σ f 13).toNatClampNeg a3) θ3 (fun n4 σ4 τ4 θ4 => aw_WT n4 θ4 ∧ (SMi G 6 mX8_kindHere 0 0 [.ref 2] n4 σ4 τ4 θ4 (fun a5 n5 σ5 τ5 θ5 => aw_WT n5 θ5 ∧ (((¬ a5 = (-1 : Int32)) → (SMv G 2 mX8_advance 0 0 [.ref 2] n5 σ5 τ5 θ5 (fun n6 σ6 τ6 θ6 => aw_WT n6 θ6 ∧ (SMi G 6 mX8_expect 0 0 [.ref 2, .ref (1000 + 15)] n6 σ6 τ6 θ6 (fun a7 n7 σ7 τ7 θ7 => aw_WT n7 θ7 ∧ (((a7 = 0) → (q (0 : Int32) n7 σ7 τ7 θ7)) ∧ ((¬ a7 = 0) → (SMi G 3 mX8_wholeWithin 0 0 [.ref 2, .int (0 : Int32), .int (99 : Int32)] n7 σ7 τ7 θ7 (fun a8 n8 σ8 τ8 θ8 => aw_WT n8 θ8 ∧ (((¬ a8 = 0) → (vp_in (σ f 13) 5 ∧ (SMi G 6 mX8_expect 0 0 [.ref 2, .ref (1000 + 16)] n8 (aw_u σ8 (f + 2) (σ f 13).toNatClampNeg (σ8 2 11)) τ8 θ8 (fun a9 n9 σ9 τ9 θ9 => aw_WT n9 θ9 ∧ (((a9 = 0) → (q (0 : Int32) n9 σ9 τ9 θ9)) ∧ ((¬ a9 = 0) → (SMi G 3 mX8_wholeWithin 0 0 [.ref 2, .int (0 : Int32), .int (9 : Int32)] n9 σ9 τ9 θ9 (fun a10 n10 σ10 τ10 θ10 => aw_WT n10 θ10 ∧ (((¬ a10 = 0) → (vp_in (σ f 13) 5 ∧ (vp_in (σ f 13) 5 ∧ (vp_in (σ f 13) 5 ∧ (q (1 : Int32) n10 (aw_u (aw_u (aw_u (aw_u σ10 (f + 3) (σ f 13).toNatClampNeg (σ10 2 11)) (f + 1) (σ f 13).toNatClampNeg a5) (f + 4) (σ f 13).toNatClampNeg (-1 : Int32)) f 13 ((σ f 13) + (1 : Int32))) τ10 θ10))))) ∧ ((a10 = 0) → (q (0 : Int32) n10 σ10 τ10 θ10))))))))))) ∧ ((a8 = 0) → (q (0 : Int32) n8 σ8 τ8 θ8)))))))))))) ∧ ((a5 = (-1 : Int32)) → (SMi G 1 mX8_blame 0 0 [.ref 2, .int (1 : Int32)] n5 σ5 τ5 θ5 (fun a11 n11 σ11 τ11 θ11 => aw_WT n11 θ11 ∧ ((a11 = 0 ∨ a11 = 1) ∧ q a11 n11 σ11 τ11 θ11))))))))))))) ∧ ((a2 = 0) → (q (0 : Int32) n2 σ2 τ2 θ2)))))))) ∧ ((¬ (σ f 13) < (5 : Int32)) → (SMi G 1 mX8_blame 0 0 [.ref 2, .int (5 : Int32)] n σ τ θ (fun a12 n12 σ12 τ12 θ12 => aw_WT n12 θ12 ∧ ((a12 = 0 ∨ a12 = 1) ∧ q a12 n12 σ12 τ12 θ12))))) : SW G k mX8_readMan (aw_qi q) 0 0 0 [some (.ref 2), some (.ref f), none, none] [] (n, σ, τ, θ) := by
  refine SW.aload_n dX8_readMan_0 rfl ?_
  refine SW.getI (f := 13) aw_cl1 (kpF_0 hf) (leF_0 hf).1 (hW.le (leF_0 hf).2) (by decide) ww_422 dX8_readMan_1 rfl ?_
  refine SW.istore_n dX8_readMan_4 (by decide) rfl rfl ?_
  refine SW.iload_n dX8_readMan_5 rfl ?_
  refine SW.iconst (v := (5 : Int32)) dX8_readMan_6 (by decide) ?_
  refine SW.icmp_lt 16 dX8_readMan_7 (by decide) (fun hbr => ?_) (fun hbr => ?_)
  · replace vc := vc.1 hbr
    refine SW.aload_n dX8_readMan_16 rfl ?_
    refine SW.cvv0 kV_X8_56 (by omega) aw_cl8 kp_2 (by decide) (hW.le (by decide)) rfl (Nat.le_of_ble_eq_true rfl) dX8_readMan_17 (SMv.mono vc ?_)
    intro n1 σ1 τ1 θ1 vc
    obtain ⟨hW, vc⟩ := vc
    refine SW.aload_n dX8_readMan_20 rfl ?_
    refine SW.aload_n dX8_readMan_21 rfl ?_
    refine SW.cvi1 kV_X8_149 (by omega) aw_cl8 kp_2 (by decide) (hW.le (by decide)) rfl (Nat.le_of_ble_eq_true rfl) dX8_readMan_22 (SMi.mono vc ?_)
    intro a2 n2 σ2 τ2 θ2 vc
    obtain ⟨hW, vc⟩ := vc
    refine SW.if_ne 30 dX8_readMan_25 (by decide) (fun hbr => ?_) (fun hbr => ?_)
    · replace vc := vc.1 hbr
      refine SW.aload_n dX8_readMan_30 rfl ?_
      refine SW.getS (f := 3) (r := 4) aw_cl8 kp_2 (by decide) (hW.le (by decide)) (by decide) ww_151 dX8_readMan_31 rfl hW.t2_3 ?_
      refine SW.iload_n dX8_readMan_34 rfl ?_
      refine SW.aload_n dX8_readMan_35 rfl ?_
      refine SW.cvl0 kV_X8_152 (by omega) aw_cl8 kp_2 (by decide) (hW.le (by decide)) rfl (Nat.le_of_ble_eq_true rfl) dX8_readMan_36 (SMl.mono vc ?_)
      intro a3 n3 σ3 τ3 θ3 vc
      obtain ⟨hW, vc⟩ := vc
      refine SW.last kp_4 (by decide) (hW.le (by decide)) vc.1 dX8_readMan_39 ?_
      replace vc := vc.2
      refine SW.aload_n dX8_readMan_40 rfl ?_
      refine SW.cvv0 kV_X8_56 (by omega) aw_cl8 kp_2 (by decide) (hW.le (by decide)) rfl (Nat.le_of_ble_eq_true rfl) dX8_readMan_41 (SMv.mono vc ?_)
      intro n4 σ4 τ4 θ4 vc
      obtain ⟨hW, vc⟩ := vc
      refine SW.aload_n dX8_readMan_44 rfl ?_
      refine SW.cvi0 kV_X8_156 (by omega) aw_cl8 kp_2 (by decide) (hW.le (by decide)) rfl (Nat.le_of_ble_eq_true rfl) dX8_readMan_45 (SMi.mono vc ?_)
      intro a5 n5 σ5 τ5 θ5 vc
      obtain ⟨hW, vc⟩ := vc
      refine SW.istore_n dX8_readMan_48 (by decide) rfl rfl ?_
      refine SW.iload_n dX8_readMan_49 rfl ?_
      refine SW.iconst (v := (-1 : Int32)) dX8_readMan_50 (by decide) ?_
      refine SW.icmp_ne 60 dX8_readMan_51 (by decide) (fun hbr => ?_) (fun hbr => ?_)
      · replace vc := vc.1 hbr
        refine SW.aload_n dX8_readMan_60 rfl ?_
        refine SW.cvv0 kV_X8_56 (by omega) aw_cl8 kp_2 (by decide) (hW.le (by decide)) rfl (Nat.le_of_ble_eq_true rfl) dX8_readMan_61 (SMv.mono vc ?_)
        intro n6 σ6 τ6 θ6 vc
        obtain ⟨hW, vc⟩ := vc
        refine SW.aload_n dX8_readMan_64 rfl ?_
        refine SW.ldcS (j := 15) rfl dX8_readMan_65 ?_
        refine SW.cvi1 kV_X8_125 (by omega) aw_cl8 kp_2 (by decide) (hW.le (by decide)) rfl (Nat.le_of_ble_eq_true rfl) dX8_readMan_67 (SMi.mono vc ?_)
        intro a7 n7 σ7 τ7 θ7 vc
        obtain ⟨hW, vc⟩ := vc
        refine SW.if_eq 83 dX8_readMan_70 (by decide) (fun hbr => ?_) (fun hbr => ?_)
        · replace vc := vc.1 hbr
          refine SW.iconst (v := (0 : Int32)) dX8_readMan_83 (by decide) ?_
          exact SW.iret dX8_readMan_84 rfl rfl ⟨_, rfl, vc⟩
        · replace vc := vc.2 hbr
          refine SW.aload_n dX8_readMan_73 rfl ?_
          refine SW.iconst (v := (0 : Int32)) dX8_readMan_74 (by decide) ?_
          refine SW.bipush (v := (99 : Int32)) dX8_readMan_75 (by decide) ?_
          refine SW.cvi2 kV_X8_128 (by omega) aw_cl8 kp_2 (by decide) (hW.le (by decide)) rfl (Nat.le_of_ble_eq_true rfl) dX8_readMan_77 (SMi.mono vc ?_)
          intro a8 n8 σ8 τ8 θ8 vc
          obtain ⟨hW, vc⟩ := vc
          refine SW.if_ne 85 dX8_readMan_80 (by decide) (fun hbr => ?_) (fun hbr => ?_)
          · replace vc := vc.1 hbr
            refine SW.aload_n dX8_readMan_85 rfl ?_
            refine SW.getS (f := 1) (r := f + 2) aw_cl1 (kpF_0 hf) (leF_0 hf).1 (hW.le (leF_0 hf).2) (by decide) ww_377 dX8_readMan_86 rfl (hW.f1 hf) ?_
            refine SW.iload_n dX8_readMan_89 rfl ?_
            refine SW.aload_n dX8_readMan_90 rfl ?_
            refine SW.getI (f := 11) aw_cl8 kp_2 (by decide) (hW.le (by decide)) (by decide) ww_159 dX8_readMan_91 rfl ?_
            refine SW.iast (kpF_2 hf) (leF_2 hf).1 (hW.le (leF_2 hf).2) vc.1 dX8_readMan_94 ?_
            replace vc := vc.2
            refine SW.aload_n dX8_readMan_95 rfl ?_
            refine SW.ldcS (j := 16) rfl dX8_readMan_96 ?_
            refine SW.cvi1 kV_X8_125 (by omega) aw_cl8 kp_2 (by decide) (hW.le (by decide)) rfl (Nat.le_of_ble_eq_true rfl) dX8_readMan_98 (SMi.mono vc ?_)
            intro a9 n9 σ9 τ9 θ9 vc
            obtain ⟨hW, vc⟩ := vc
            refine SW.if_eq 114 dX8_readMan_101 (by decide) (fun hbr => ?_) (fun hbr => ?_)
            · replace vc := vc.1 hbr
              refine SW.iconst (v := (0 : Int32)) dX8_readMan_114 (by decide) ?_
              exact SW.iret dX8_readMan_115 rfl rfl ⟨_, rfl, vc⟩
            · replace vc := vc.2 hbr
              refine SW.aload_n dX8_readMan_104 rfl ?_
              refine SW.iconst (v := (0 : Int32)) dX8_readMan_105 (by decide) ?_
              refine SW.bipush (v := (9 : Int32)) dX8_readMan_106 (by decide) ?_
              refine SW.cvi2 kV_X8_128 (by omega) aw_cl8 kp_2 (by decide) (hW.le (by decide)) rfl (Nat.le_of_ble_eq_true rfl) dX8_readMan_108 (SMi.mono vc ?_)
              intro a10 n10 σ10 τ10 θ10 vc
              obtain ⟨hW, vc⟩ := vc
              refine SW.if_ne 116 dX8_readMan_111 (by decide) (fun hbr => ?_) (fun hbr => ?_)
              · replace vc := vc.1 hbr
                refine SW.aload_n dX8_readMan_116 rfl ?_
                refine SW.getS (f := 2) (r := f + 3) aw_cl1 (kpF_0 hf) (leF_0 hf).1 (hW.le (leF_0 hf).2) (by decide) ww_379 dX8_readMan_117 rfl (hW.f2 hf) ?_
                refine SW.iload_n dX8_readMan_120 rfl ?_
                refine SW.aload_n dX8_readMan_121 rfl ?_
                refine SW.getI (f := 11) aw_cl8 kp_2 (by decide) (hW.le (by decide)) (by decide) ww_159 dX8_readMan_122 rfl ?_
                refine SW.iast (kpF_3 hf) (leF_3 hf).1 (hW.le (leF_3 hf).2) vc.1 dX8_readMan_125 ?_
                replace vc := vc.2
                refine SW.aload_n dX8_readMan_126 rfl ?_
                refine SW.getS (f := 0) (r := f + 1) aw_cl1 (kpF_0 hf) (leF_0 hf).1 (hW.le (leF_0 hf).2) (by decide) ww_373 dX8_readMan_127 rfl (hW.f0 hf) ?_
                refine SW.iload_n dX8_readMan_130 rfl ?_
                refine SW.iload_n dX8_readMan_131 rfl ?_
                refine SW.iast (kpF_1 hf) (leF_1 hf).1 (hW.le (leF_1 hf).2) vc.1 dX8_readMan_132 ?_
                replace vc := vc.2
                refine SW.aload_n dX8_readMan_133 rfl ?_
                refine SW.getS (f := 3) (r := f + 4) aw_cl1 (kpF_0 hf) (leF_0 hf).1 (hW.le (leF_0 hf).2) (by decide) ww_382 dX8_readMan_134 rfl (hW.f3 hf) ?_
                refine SW.iload_n dX8_readMan_137 rfl ?_
                refine SW.iconst (v := (-1 : Int32)) dX8_readMan_138 (by decide) ?_
                refine SW.iast (kpF_4 hf) (leF_4 hf).1 (hW.le (leF_4 hf).2) vc.1 dX8_readMan_139 ?_
                replace vc := vc.2
                refine SW.aload_n dX8_readMan_140 rfl ?_
                refine SW.iload_n dX8_readMan_141 rfl ?_
                refine SW.iconst (v := (1 : Int32)) dX8_readMan_142 (by decide) ?_
                refine SW.iadd dX8_readMan_143 ?_
                refine SW.putI (f := 13) aw_cl1 (kpF_0 hf) (leF_0 hf).1 (hW.le (leF_0 hf).2) (by decide) ww_422 (Or.inl rfl) dX8_readMan_144 rfl rfl rfl ?_
                refine SW.iconst (v := (1 : Int32)) dX8_readMan_147 (by decide) ?_
                exact SW.iret dX8_readMan_148 rfl rfl ⟨_, rfl, vc⟩
              · replace vc := vc.2 hbr
                refine SW.iconst (v := (0 : Int32)) dX8_readMan_114 (by decide) ?_
                exact SW.iret dX8_readMan_115 rfl rfl ⟨_, rfl, vc⟩
          · replace vc := vc.2 hbr
            refine SW.iconst (v := (0 : Int32)) dX8_readMan_83 (by decide) ?_
            exact SW.iret dX8_readMan_84 rfl rfl ⟨_, rfl, vc⟩
      · replace vc := vc.2 hbr
        refine SW.aload_n dX8_readMan_54 rfl ?_
        refine SW.iconst (v := (1 : Int32)) dX8_readMan_55 (by decide) ?_
        refine SW.cvi1 kV_X8_77 (by omega) aw_cl8 kp_2 (by decide) (hW.le (by decide)) rfl (Nat.le_of_ble_eq_true rfl) dX8_readMan_56 (SMi.mono vc ?_)
        intro a11 n11 σ11 τ11 θ11 vc
        obtain ⟨hW, vc⟩ := vc
        exact SW.iret dX8_readMan_59 rfl (aw_nb vc.1) ⟨_, rfl, vc.2⟩
    · replace vc := vc.2 hbr
      refine SW.iconst (v := (0 : Int32)) dX8_readMan_28 (by decide) ?_
      exact SW.iret dX8_readMan_29 rfl rfl ⟨_, rfl, vc⟩
  · replace vc := vc.2 hbr
    refine SW.aload_n dX8_readMan_10 rfl ?_
    refine SW.iconst (v := (5 : Int32)) dX8_readMan_11 (by decide) ?_
    refine SW.cvi1 kV_X8_77 (by omega) aw_cl8 kp_2 (by decide) (hW.le (by decide)) rfl (Nat.le_of_ble_eq_true rfl) dX8_readMan_12 (SMi.mono vc ?_)
    intro a12 n12 σ12 τ12 θ12 vc
    obtain ⟨hW, vc⟩ := vc
    exact SW.iret dX8_readMan_15 rfl (aw_nb vc.1) ⟨_, rfl, vc.2⟩
theorem ctX8_readMan {G : GG} {q : Int32 → Nat → SG → TU → TH → Prop} {n : Nat} {σ : SG} {τ : TU} {θ : TH} (f : Nat) (h : SW G 8 mX8_readMan (aw_qi q) 0 0 0 [some (.ref 2), some (.ref f), none, none] [] (n, σ, τ, θ)) : SMi G 8 mX8_readMan 0 0 [.ref 2, .ref f] n σ τ θ q := SM.of _ rfl rfl (Nat.le_of_ble_eq_true rfl) h
set_option maxHeartbeats 4000000 in
set_option maxRecDepth 20000 in
theorem sgX8_readReading_0 {G : GG} {k : Nat} {q : Int32 → Nat → SG → TU → TH → Prop} {n : Nat} {σ : SG} {τ : TU} {θ : TH} (f : Nat)  (hk : 8 ≤ k) (hf : isF f) (hW : aw_WT n θ) (vc : (((σ f 15) < (4 : Int32)) → (SMv G 2 mX8_advance 0 0 [.ref 2] n σ τ θ (fun n1 σ1 τ1 θ1 => aw_WT n1 θ1 ∧ (SMi G 7 mX8_manHere 0 0 [.ref 2, .ref f] n1 σ1 τ1 θ1 (fun a2 n2 σ2 τ2 θ2 => aw_WT n2 θ2 ∧ (((¬ a2 = (-1 : Int32)) → (SMv G 2 mX8_advance 0 0 [.ref 2] n2 σ2 τ2 θ2 (fun n3 σ3 τ3 θ3 => aw_WT n3 θ3 ∧ (SMi G 3 mX8_wholeWithin 0 0 [.ref 2, .int (0 : Int32), .int (40 : Int32)] n3 σ3 τ3 θ3 (fun a4 n4 σ4 τ4 θ4 => aw_WT n4 θ4 ∧ (((¬ a4 = 0) → (vp_in (σ f 15) 4 ∧ (vp_in (σ f 15) 4 ∧ (q (1 : Int32) n4 (aw_u (aw_u (aw_u σ4 (f + 6) (σ f 15).toNatClampNeg a2) (f + 7) (σ f 15).toNatClampNeg ((aw_u σ4 (f + 6) (σ f 15).toNatClampNeg a2) 2 11)) f 15 ((σ f 15) + (1 : Int32))) τ4 θ4)))) ∧ ((a4 = 0) → (q (0 : Int32) n4 σ4 τ4 θ4)))))))) ∧ ((a2 = (-1 : Int32)) → (q (0 : Int32) n2 σ2 τ2 θ2)))))))) ∧ ((¬ (σ f 15) < (4 : Int32)) → (SMi G 1 mX8_blame 0 0 [.ref 2, .int (5 : Int32)] n σ τ θ (fun a5 n5 σ5 τ5 θ5 => aw_WT n5 θ5 ∧ ((a5 = 0 ∨ a5 = 1) ∧ q a5 n5 σ5 τ5 θ5))))) : SW G k mX8_readReading (aw_qi q) 0 0 0 [some (.ref 2), some (.ref f), none, none] [] (n, σ, τ, θ) := by
  refine SW.aload_n dX8_readReading_0 rfl ?_
  refine SW.getI (f := 15) aw_cl1 (kpF_0 hf) (leF_0 hf).1 (hW.le (leF_0 hf).2) (by decide) ww_430 dX8_readReading_1 rfl ?_
  refine SW.istore_n dX8_readReading_4 (by decide) rfl rfl ?_
  refine SW.iload_n dX8_readReading_5 rfl ?_
  refine SW.iconst (v := (4 : Int32)) dX8_readReading_6 (by decide) ?_
  refine SW.icmp_lt 16 dX8_readReading_7 (by decide) (fun hbr => ?_) (fun hbr => ?_)
  · replace vc := vc.1 hbr
    refine SW.aload_n dX8_readReading_16 rfl ?_
    refine SW.cvv0 kV_X8_56 (by omega) aw_cl8 kp_2 (by decide) (hW.le (by decide)) rfl (Nat.le_of_ble_eq_true rfl) dX8_readReading_17 (SMv.mono vc ?_)
    intro n1 σ1 τ1 θ1 vc
    obtain ⟨hW, vc⟩ := vc
    refine SW.aload_n dX8_readReading_20 rfl ?_
    refine SW.aload_n dX8_readReading_21 rfl ?_
    refine SW.cvi1 kV_X8_180 (by omega) aw_cl8 kp_2 (by decide) (hW.le (by decide)) rfl (Nat.le_of_ble_eq_true rfl) dX8_readReading_22 (SMi.mono vc ?_)
    intro a2 n2 σ2 τ2 θ2 vc
    obtain ⟨hW, vc⟩ := vc
    refine SW.istore_n dX8_readReading_25 (by decide) rfl rfl ?_
    refine SW.iload_n dX8_readReading_26 rfl ?_
    refine SW.iconst (v := (-1 : Int32)) dX8_readReading_27 (by decide) ?_
    refine SW.icmp_ne 33 dX8_readReading_28 (by decide) (fun hbr => ?_) (fun hbr => ?_)
    · replace vc := vc.1 hbr
      refine SW.aload_n dX8_readReading_33 rfl ?_
      refine SW.cvv0 kV_X8_56 (by omega) aw_cl8 kp_2 (by decide) (hW.le (by decide)) rfl (Nat.le_of_ble_eq_true rfl) dX8_readReading_34 (SMv.mono vc ?_)
      intro n3 σ3 τ3 θ3 vc
      obtain ⟨hW, vc⟩ := vc
      refine SW.aload_n dX8_readReading_37 rfl ?_
      refine SW.iconst (v := (0 : Int32)) dX8_readReading_38 (by decide) ?_
      refine SW.bipush (v := (40 : Int32)) dX8_readReading_39 (by decide) ?_
      refine SW.cvi2 kV_X8_128 (by omega) aw_cl8 kp_2 (by decide) (hW.le (by decide)) rfl (Nat.le_of_ble_eq_true rfl) dX8_readReading_41 (SMi.mono vc ?_)
      intro a4 n4 σ4 τ4 θ4 vc
      obtain ⟨hW, vc⟩ := vc
      refine SW.if_ne 49 dX8_readReading_44 (by decide) (fun hbr => ?_) (fun hbr => ?_)
      · replace vc := vc.1 hbr
        refine SW.aload_n dX8_readReading_49 rfl ?_
        refine SW.getS (f := 5) (r := f + 6) aw_cl1 (kpF_0 hf) (leF_0 hf).1 (hW.le (leF_0 hf).2) (by decide) ww_389 dX8_readReading_50 rfl (hW.f5 hf) ?_
        refine SW.iload_n dX8_readReading_53 rfl ?_
        refine SW.iload_n dX8_readReading_54 rfl ?_
        refine SW.iast (kpF_6 hf) (leF_6 hf).1 (hW.le (leF_6 hf).2) vc.1 dX8_readReading_55 ?_
        replace vc := vc.2
        refine SW.aload_n dX8_readReading_56 rfl ?_
        refine SW.getS (f := 6) (r := f + 7) aw_cl1 (kpF_0 hf) (leF_0 hf).1 (hW.le (leF_0 hf).2) (by decide) ww_392 dX8_readReading_57 rfl (hW.f6 hf) ?_
        refine SW.iload_n dX8_readReading_60 rfl ?_
        refine SW.aload_n dX8_readReading_61 rfl ?_
        refine SW.getI (f := 11) aw_cl8 kp_2 (by decide) (hW.le (by decide)) (by decide) ww_159 dX8_readReading_62 rfl ?_
        refine SW.iast (kpF_7 hf) (leF_7 hf).1 (hW.le (leF_7 hf).2) vc.1 dX8_readReading_65 ?_
        replace vc := vc.2
        refine SW.aload_n dX8_readReading_66 rfl ?_
        refine SW.iload_n dX8_readReading_67 rfl ?_
        refine SW.iconst (v := (1 : Int32)) dX8_readReading_68 (by decide) ?_
        refine SW.iadd dX8_readReading_69 ?_
        refine SW.putI (f := 15) aw_cl1 (kpF_0 hf) (leF_0 hf).1 (hW.le (leF_0 hf).2) (by decide) ww_430 (Or.inl rfl) dX8_readReading_70 rfl rfl rfl ?_
        refine SW.iconst (v := (1 : Int32)) dX8_readReading_73 (by decide) ?_
        exact SW.iret dX8_readReading_74 rfl rfl ⟨_, rfl, vc⟩
      · replace vc := vc.2 hbr
        refine SW.iconst (v := (0 : Int32)) dX8_readReading_47 (by decide) ?_
        exact SW.iret dX8_readReading_48 rfl rfl ⟨_, rfl, vc⟩
    · replace vc := vc.2 hbr
      refine SW.iconst (v := (0 : Int32)) dX8_readReading_31 (by decide) ?_
      exact SW.iret dX8_readReading_32 rfl rfl ⟨_, rfl, vc⟩
  · replace vc := vc.2 hbr
    refine SW.aload_n dX8_readReading_10 rfl ?_
    refine SW.iconst (v := (5 : Int32)) dX8_readReading_11 (by decide) ?_
    refine SW.cvi1 kV_X8_77 (by omega) aw_cl8 kp_2 (by decide) (hW.le (by decide)) rfl (Nat.le_of_ble_eq_true rfl) dX8_readReading_12 (SMi.mono vc ?_)
    intro a5 n5 σ5 τ5 θ5 vc
    obtain ⟨hW, vc⟩ := vc
    exact SW.iret dX8_readReading_15 rfl (aw_nb vc.1) ⟨_, rfl, vc.2⟩
theorem ctX8_readReading {G : GG} {q : Int32 → Nat → SG → TU → TH → Prop} {n : Nat} {σ : SG} {τ : TU} {θ : TH} (f : Nat) (h : SW G 8 mX8_readReading (aw_qi q) 0 0 0 [some (.ref 2), some (.ref f), none, none] [] (n, σ, τ, θ)) : SMi G 8 mX8_readReading 0 0 [.ref 2, .ref f] n σ τ θ q := SM.of _ rfl rfl (Nat.le_of_ble_eq_true rfl) h
set_option maxHeartbeats 4000000 in
set_option maxRecDepth 20000 in
theorem sgX8_runEnd_0 {G : GG} {k : Nat} {q : Int32 → Nat → SG → TU → TH → Prop} {n : Nat} {σ : SG} {τ : TU} {θ : TH}  (x1 : Int32) (x2 : Int32) (hk : 1 ≤ k)  (hW : aw_WT n θ) (vc : SW G k mX8_runEnd (aw_qi q) 0 0 5 [some (.ref 2), some (.int x1), some (.int x2), some (.int (σ 2 9))] [] (n, σ, τ, θ)) : SW G k mX8_runEnd (aw_qi q) 0 0 0 [some (.ref 2), some (.int x1), some (.int x2), none] [] (n, σ, τ, θ) := by
  refine SW.aload_n dX8_runEnd_0 rfl ?_
  refine SW.getI (f := 9) aw_cl8 kp_2 (by decide) (hW.le (by decide)) (by decide) ww_157 dX8_runEnd_1 rfl ?_
  refine SW.istore_n dX8_runEnd_4 (by decide) rfl rfl ?_
  exact vc
set_option maxHeartbeats 4000000 in
set_option maxRecDepth 20000 in
theorem sgX8_runEnd_5 {G : GG} {k : Nat} {q : Int32 → Nat → SG → TU → TH → Prop} {n : Nat} {σ : SG} {τ : TU} {θ : TH}  (x1 : Int32) (x2 : Int32) (x3 : Int32) (hk : 1 ≤ k)  (hW : aw_WT n θ) (vc : (((σ 2 7) ≤ x3) → (q x3 n σ τ θ)) ∧ ((¬ (σ 2 7) ≤ x3) → (vp_in x3 900 ∧ ((((σ 3 x3.toNatClampNeg) < x1) → (q x3 n σ τ θ)) ∧ ((¬ (σ 3 x3.toNatClampNeg) < x1) → (vp_in x3 900 ∧ (((x2 < (σ 3 x3.toNatClampNeg)) → (q x3 n σ τ θ)) ∧ ((¬ x2 < (σ 3 x3.toNatClampNeg)) → (SW G k mX8_runEnd (aw_qi q) 0 0 5 [some (.ref 2), some (.int x1), some (.int x2), some (.int (x3 + (1 : Int32)))] [] (n, σ, τ, θ)))))))))) : SW G k mX8_runEnd (aw_qi q) 0 0 5 [some (.ref 2), some (.int x1), some (.int x2), some (.int x3)] [] (n, σ, τ, θ) := by
  refine SW.iload_n dX8_runEnd_5 rfl ?_
  refine SW.aload_n dX8_runEnd_6 rfl ?_
  refine SW.getI (f := 7) aw_cl8 kp_2 (by decide) (hW.le (by decide)) (by decide) ww_155 dX8_runEnd_7 rfl ?_
  refine SW.icmp_ge 39 dX8_runEnd_10 (by decide) (fun hbr => ?_) (fun hbr => ?_)
  · replace vc := vc.1 hbr
    refine SW.iload_n dX8_runEnd_39 rfl ?_
    exact SW.iret dX8_runEnd_40 rfl rfl ⟨_, rfl, vc⟩
  · replace vc := vc.2 hbr
    refine SW.aload_n dX8_runEnd_13 rfl ?_
    refine SW.getS (f := 2) (r := 3) aw_cl8 kp_2 (by decide) (hW.le (by decide)) (by decide) ww_150 dX8_runEnd_14 rfl hW.t2_2 ?_
    refine SW.iload_n dX8_runEnd_17 rfl ?_
    refine SW.bald kp_3 (by decide) (hW.le (by decide)) vc.1 dX8_runEnd_18 ?_
    replace vc := vc.2
    refine SW.iload_n dX8_runEnd_19 rfl ?_
    refine SW.icmp_lt 39 dX8_runEnd_20 (by decide) (fun hbr => ?_) (fun hbr => ?_)
    · replace vc := vc.1 hbr
      refine SW.iload_n dX8_runEnd_39 rfl ?_
      exact SW.iret dX8_runEnd_40 rfl rfl ⟨_, rfl, vc⟩
    · replace vc := vc.2 hbr
      refine SW.aload_n dX8_runEnd_23 rfl ?_
      refine SW.getS (f := 2) (r := 3) aw_cl8 kp_2 (by decide) (hW.le (by decide)) (by decide) ww_150 dX8_runEnd_24 rfl hW.t2_2 ?_
      refine SW.iload_n dX8_runEnd_27 rfl ?_
      refine SW.bald kp_3 (by decide) (hW.le (by decide)) vc.1 dX8_runEnd_28 ?_
      replace vc := vc.2
      refine SW.iload_n dX8_runEnd_29 rfl ?_
      refine SW.icmp_gt 39 dX8_runEnd_30 (by decide) (fun hbr => ?_) (fun hbr => ?_)
      · replace vc := vc.1 hbr
        refine SW.iload_n dX8_runEnd_39 rfl ?_
        exact SW.iret dX8_runEnd_40 rfl rfl ⟨_, rfl, vc⟩
      · replace vc := vc.2 hbr
        refine SW.iinc (v := (x3 + (1 : Int32))) dX8_runEnd_33 rfl rfl (by decide) rfl rfl ?_
        refine SW.goto 5 dX8_runEnd_36 (by decide) ?_
        exact vc
theorem ctX8_runEnd {G : GG} {q : Int32 → Nat → SG → TU → TH → Prop} {n : Nat} {σ : SG} {τ : TU} {θ : TH} (x1 : Int32) (x2 : Int32) (h : SW G 1 mX8_runEnd (aw_qi q) 0 0 0 [some (.ref 2), some (.int x1), some (.int x2), none] [] (n, σ, τ, θ)) : SMi G 1 mX8_runEnd 0 0 [.ref 2, .int x1, .int x2] n σ τ θ q := SM.of _ rfl rfl (Nat.le_of_ble_eq_true rfl) h
set_option maxHeartbeats 4000000 in
set_option maxRecDepth 20000 in
theorem sgX8_wholeWithin_0 {G : GG} {k : Nat} {q : Int32 → Nat → SG → TU → TH → Prop} {n : Nat} {σ : SG} {τ : TU} {θ : TH}  (x1 : Int32) (x2 : Int32) (hk : 3 ≤ k)  (hW : aw_WT n θ) (vc : (((σ 2 8) = (2 : Int32)) → (SW G k mX8_wholeWithin (aw_qi q) 0 0 22 [some (.ref 2), some (.int x1), some (.int x2), some (.int (0 : Int32)), some (.int (σ 2 9))] [] (n, σ, τ, θ))) ∧ ((¬ (σ 2 8) = (2 : Int32)) → (SMi G 1 mX8_blame 0 0 [.ref 2, .int (1 : Int32)] n σ τ θ (fun a1 n1 σ1 τ1 θ1 => aw_WT n1 θ1 ∧ ((a1 = 0 ∨ a1 = 1) ∧ q a1 n1 σ1 τ1 θ1))))) : SW G k mX8_wholeWithin (aw_qi q) 0 0 0 [some (.ref 2), some (.int x1), some (.int x2), none, none] [] (n, σ, τ, θ) := by
  refine SW.aload_n dX8_wholeWithin_0 rfl ?_
  refine SW.getI (f := 8) aw_cl8 kp_2 (by decide) (hW.le (by decide)) (by decide) ww_156 dX8_wholeWithin_1 rfl ?_
  refine SW.iconst (v := (2 : Int32)) dX8_wholeWithin_4 (by decide) ?_
  refine SW.icmp_eq 14 dX8_wholeWithin_5 (by decide) (fun hbr => ?_) (fun hbr => ?_)
  · replace vc := vc.1 hbr
    refine SW.iconst (v := (0 : Int32)) dX8_wholeWithin_14 (by decide) ?_
    refine SW.istore_n dX8_wholeWithin_15 (by decide) rfl rfl ?_
    refine SW.aload_n dX8_wholeWithin_16 rfl ?_
    refine SW.getI (f := 9) aw_cl8 kp_2 (by decide) (hW.le (by decide)) (by decide) ww_157 dX8_wholeWithin_17 rfl ?_
    refine SW.istore dX8_wholeWithin_20 (by decide) rfl rfl ?_
    exact vc
  · replace vc := vc.2 hbr
    refine SW.aload_n dX8_wholeWithin_8 rfl ?_
    refine SW.iconst (v := (1 : Int32)) dX8_wholeWithin_9 (by decide) ?_
    refine SW.cvi1 kV_X8_77 (by omega) aw_cl8 kp_2 (by decide) (hW.le (by decide)) rfl (Nat.le_of_ble_eq_true rfl) dX8_wholeWithin_10 (SMi.mono vc ?_)
    intro a1 n1 σ1 τ1 θ1 vc
    obtain ⟨hW, vc⟩ := vc
    exact SW.iret dX8_wholeWithin_13 rfl (aw_nb vc.1) ⟨_, rfl, vc.2⟩
set_option maxHeartbeats 4000000 in
set_option maxRecDepth 20000 in
theorem sgX8_wholeWithin_22 {G : GG} {k : Nat} {q : Int32 → Nat → SG → TU → TH → Prop} {n : Nat} {σ : SG} {τ : TU} {θ : TH}  (x1 : Int32) (x2 : Int32) (x3 : Int32) (x4 : Int32) (hk : 3 ≤ k)  (hW : aw_WT n θ) (vc : (((σ 2 10) ≤ x4) → (((x3 < x1) → (SMi G 1 mX8_blame 0 0 [.ref 2, .int (4 : Int32)] n σ τ θ (fun a1 n1 σ1 τ1 θ1 => aw_WT n1 θ1 ∧ ((a1 = 0 ∨ a1 = 1) ∧ q a1 n1 σ1 τ1 θ1)))) ∧ ((¬ x3 < x1) → (((x3 ≤ x2) → (SMv G 2 mX8_advance 0 0 [.ref 2] n (aw_u σ 2 11 x3) τ θ (fun n2 σ2 τ2 θ2 => aw_WT n2 θ2 ∧ (q (1 : Int32) n2 σ2 τ2 θ2)))) ∧ ((¬ x3 ≤ x2) → (SMi G 1 mX8_blame 0 0 [.ref 2, .int (4 : Int32)] n σ τ θ (fun a3 n3 σ3 τ3 θ3 => aw_WT n3 θ3 ∧ ((a3 = 0 ∨ a3 = 1) ∧ q a3 n3 σ3 τ3 θ3)))))))) ∧ ((¬ (σ 2 10) ≤ x4) → (vp_in x4 900 ∧ (SW G k mX8_wholeWithin (aw_qi q) 0 0 22 [some (.ref 2), some (.int x1), some (.int x2), some (.int ((x3 * (10 : Int32)) + ((σ 3 x4.toNatClampNeg) - (48 : Int32)))), some (.int (x4 + (1 : Int32)))] [] (n, σ, τ, θ))))) : SW G k mX8_wholeWithin (aw_qi q) 0 0 22 [some (.ref 2), some (.int x1), some (.int x2), some (.int x3), some (.int x4)] [] (n, σ, τ, θ) := by
  refine SW.iload dX8_wholeWithin_22 rfl ?_
  refine SW.aload_n dX8_wholeWithin_24 rfl ?_
  refine SW.getI (f := 10) aw_cl8 kp_2 (by decide) (hW.le (by decide)) (by decide) ww_158 dX8_wholeWithin_25 rfl ?_
  refine SW.icmp_ge 53 dX8_wholeWithin_28 (by decide) (fun hbr => ?_) (fun hbr => ?_)
  · replace vc := vc.1 hbr
    refine SW.iload_n dX8_wholeWithin_53 rfl ?_
    refine SW.iload_n dX8_wholeWithin_54 rfl ?_
    refine SW.icmp_lt 63 dX8_wholeWithin_55 (by decide) (fun hbr => ?_) (fun hbr => ?_)
    · replace vc := vc.1 hbr
      refine SW.aload_n dX8_wholeWithin_63 rfl ?_
      refine SW.iconst (v := (4 : Int32)) dX8_wholeWithin_64 (by decide) ?_
      refine SW.cvi1 kV_X8_77 (by omega) aw_cl8 kp_2 (by decide) (hW.le (by decide)) rfl (Nat.le_of_ble_eq_true rfl) dX8_wholeWithin_65 (SMi.mono vc ?_)
      intro a1 n1 σ1 τ1 θ1 vc
      obtain ⟨hW, vc⟩ := vc
      exact SW.iret dX8_wholeWithin_68 rfl (aw_nb vc.1) ⟨_, rfl, vc.2⟩
    · replace vc := vc.2 hbr
      refine SW.iload_n dX8_wholeWithin_58 rfl ?_
      refine SW.iload_n dX8_wholeWithin_59 rfl ?_
      refine SW.icmp_le 69 dX8_wholeWithin_60 (by decide) (fun hbr => ?_) (fun hbr => ?_)
      · replace vc := vc.1 hbr
        refine SW.aload_n dX8_wholeWithin_69 rfl ?_
        refine SW.iload_n dX8_wholeWithin_70 rfl ?_
        refine SW.putI (f := 11) aw_cl8 kp_2 (by decide) (hW.le (by decide)) (by decide) ww_159 (Or.inl rfl) dX8_wholeWithin_71 rfl rfl rfl ?_
        refine SW.aload_n dX8_wholeWithin_74 rfl ?_
        refine SW.cvv0 kV_X8_56 (by omega) aw_cl8 kp_2 (by decide) (hW.le (by decide)) rfl (Nat.le_of_ble_eq_true rfl) dX8_wholeWithin_75 (SMv.mono vc ?_)
        intro n2 σ2 τ2 θ2 vc
        obtain ⟨hW, vc⟩ := vc
        refine SW.iconst (v := (1 : Int32)) dX8_wholeWithin_78 (by decide) ?_
        exact SW.iret dX8_wholeWithin_79 rfl rfl ⟨_, rfl, vc⟩
      · replace vc := vc.2 hbr
        refine SW.aload_n dX8_wholeWithin_63 rfl ?_
        refine SW.iconst (v := (4 : Int32)) dX8_wholeWithin_64 (by decide) ?_
        refine SW.cvi1 kV_X8_77 (by omega) aw_cl8 kp_2 (by decide) (hW.le (by decide)) rfl (Nat.le_of_ble_eq_true rfl) dX8_wholeWithin_65 (SMi.mono vc ?_)
        intro a3 n3 σ3 τ3 θ3 vc
        obtain ⟨hW, vc⟩ := vc
        exact SW.iret dX8_wholeWithin_68 rfl (aw_nb vc.1) ⟨_, rfl, vc.2⟩
  · replace vc := vc.2 hbr
    refine SW.iload_n dX8_wholeWithin_31 rfl ?_
    refine SW.bipush (v := (10 : Int32)) dX8_wholeWithin_32 (by decide) ?_
    refine SW.imul dX8_wholeWithin_34 ?_
    refine SW.aload_n dX8_wholeWithin_35 rfl ?_
    refine SW.getS (f := 2) (r := 3) aw_cl8 kp_2 (by decide) (hW.le (by decide)) (by decide) ww_150 dX8_wholeWithin_36 rfl hW.t2_2 ?_
    refine SW.iload dX8_wholeWithin_39 rfl ?_
    refine SW.bald kp_3 (by decide) (hW.le (by decide)) vc.1 dX8_wholeWithin_41 ?_
    replace vc := vc.2
    refine SW.bipush (v := (48 : Int32)) dX8_wholeWithin_42 (by decide) ?_
    refine SW.isub dX8_wholeWithin_44 ?_
    refine SW.iadd dX8_wholeWithin_45 ?_
    refine SW.istore_n dX8_wholeWithin_46 (by decide) rfl rfl ?_
    refine SW.iinc (v := (x4 + (1 : Int32))) dX8_wholeWithin_47 rfl rfl (by decide) rfl rfl ?_
    refine SW.goto 22 dX8_wholeWithin_50 (by decide) ?_
    exact vc
theorem ctX8_wholeWithin {G : GG} {q : Int32 → Nat → SG → TU → TH → Prop} {n : Nat} {σ : SG} {τ : TU} {θ : TH} (x1 : Int32) (x2 : Int32) (h : SW G 3 mX8_wholeWithin (aw_qi q) 0 0 0 [some (.ref 2), some (.int x1), some (.int x2), none, none] [] (n, σ, τ, θ)) : SMi G 3 mX8_wholeWithin 0 0 [.ref 2, .int x1, .int x2] n σ τ θ q := SM.of _ rfl rfl (Nat.le_of_ble_eq_true rfl) h
