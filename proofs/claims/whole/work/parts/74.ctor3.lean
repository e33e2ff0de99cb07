/-! ===== the constructors: past ===== -/
/-- i moments, from the object b on, are put into the row s -/
def cPT (θ : TH) (s b : Nat) : Nat → TH
  | 0 => θ
  | i + 1 => aw_u (aw_u (aw_u (cPT θ s b i) (b + 3 * i) 0 (b + 3 * i + 1)) (b + 3 * i) 1 (b + 3 * i + 2)) s i (b + 3 * i)
theorem cPT_z {θ : TH} {σ : SG} {τ : TU} {s b : Nat} (hs : s < b) (h : ZO (b - 1) σ τ θ) : ∀ i, ZO (b - 1 + 3 * i) σ τ (cPT θ s b i) := by
  intro i
  induction i with
  | zero => exact h
  | succ i ih => exact (((ih.le (m' := b - 1 + 3 * (i + 1)) (by omega)).up (by omega)).up (by omega)).up (by omega)
theorem cPT_s {θ : TH} {s b o k : Nat} (h1 : o ≠ s) (h2 : o < b) : ∀ i, cPT θ s b i o k = θ o k := by
  intro i
  induction i with
  | zero => rfl
  | succ i ih =>
    show aw_u (aw_u (aw_u (cPT θ s b i) (b + 3 * i) 0 (b + 3 * i + 1)) (b + 3 * i) 1 (b + 3 * i + 2)) s i (b + 3 * i) o k = θ o k
    rw [aw_u_ne h1, aw_u_ne (by omega), aw_u_ne (by omega)]
    exact ih
section Ctor3
variable {G : GG} {σ : SG} {τ : TU} {θ : TH} {qv : Nat → SG → TU → TH → Prop}
theorem kq_m : ∀ i : Fin 19, ∀ j : Fin 3, aw_kp (12 + 3 * i.val + j.val) = aw_kp (6 + j.val) := by decide +kernel
set_option maxHeartbeats 4000000 in
theorem kC5 (hz : ZO 8 σ τ θ) (hq : qv 68 σ τ (cPT (cPT (aw_u (aw_u θ 9 2 10) 9 3 11) 10 12 16) 11 60 3)) : SMv G 2 mX5_init 59 304 [.ref 9] 9 σ τ θ qv := by
  refine SM.of [some (.ref 9), none] rfl rfl (Nat.le_of_ble_eq_true rfl) ?_
  refine SW.aload_n dX5_init_0 rfl ?_
  refine SW.oinit (by decide) ww_219 ww_138 ww_139 (by decide) (by decide) dX5_init_1 ?_
  refine SW.aload_n dX5_init_4 rfl ?_
  refine SW.bipush (v := (16 : Int32)) dX5_init_5 (by decide) ?_
  refine SW.anew (a := 58) (b := 288) (N := 16) (n0 := 9) kp_10 (ZO.at hz (by decide)) ww_220 (by decide) (by decide) (by decide) dX5_init_7 ?_
  refine SW.putR (f := 2) aw_cl5 kp_9 (by decide) (by decide) (by decide) ww_227 (by first | exact Or.inl rfl | exact Or.inr ⟨rfl, rfl, rfl⟩) dX5_init_10 rfl (fun _ => rfl) (fun _ => rfl) (by decide) ?_
  refine SW.aload_n dX5_init_13 rfl ?_
  refine SW.iconst (v := (3 : Int32)) dX5_init_14 (by decide) ?_
  refine SW.anew (a := 57) (b := 285) (N := 3) (n0 := 10) kp_11 (ZO.at ((hz.le (m' := 10) (by decide)).up (by decide)) (by decide)) ww_220 (by decide) (by decide) (by decide) dX5_init_15 ?_
  refine SW.putR (f := 3) aw_cl5 kp_9 (by decide) (by decide) (by decide) ww_228 (by first | exact Or.inl rfl | exact Or.inr ⟨rfl, rfl, rfl⟩) dX5_init_18 rfl (fun _ => rfl) (fun _ => rfl) (by decide) ?_
  have z1 : ZO 11 σ τ (aw_u (aw_u θ 9 2 10) 9 3 11) := ((hz.le (m' := 11) (by decide)).up (by decide)).up (by decide)
  have a1 : (aw_u (aw_u θ 9 2 10) 9 3 11) 9 2 = 10 := by rw [aw_u_nk (by decide), aw_u_eq]
  have a2 : (aw_u (aw_u θ 9 2 10) 9 3 11) 9 3 = 11 := aw_u_eq
  refine SW.iconst (v := (0 : Int32)) dX5_init_21 (by decide) ?_
  refine SW.istore_n dX5_init_22 (by decide) rfl rfl ?_
  generalize hg : aw_u (aw_u θ 9 2 10) 9 3 11 = θ1 at z1 a1 a2 ⊢
  rw [hg] at hq
  have l50 := ps_up (N := 3) (P := fun i => SW G 2 mX5_init (aw_qv qv) (3 * (3 - i)) (15 * (3 - i)) 50 [some (.ref 9), some (.int (nI i))] [] (59 + 3 * i, σ, τ, cPT (cPT θ1 10 12 16) 11 60 i)) ?_ ?_ 0 (Nat.zero_le _)
  have l23 := ps_up (N := 16) (P := fun i => SW G 2 mX5_init (aw_qv qv) (3 * (16 - i) + 9) (15 * (16 - i) + 45) 23 [some (.ref 9), some (.int (nI i))] [] (11 + 3 * i, σ, τ, cPT θ1 10 12 i)) ?_ ?_ 0 (Nat.zero_le _)
  · exact l23
  · refine SW.iload_n dX5_init_23 rfl ?_
    refine SW.bipush (v := (16 : Int32)) dX5_init_24 (by decide) ?_
    refine SW.icmp_ge 48 dX5_init_26 (by decide) (fun _ => ?_) (fun h => absurd (Int32.le_refl _) h)
    refine SW.iconst (v := (0 : Int32)) dX5_init_48 (by decide) ?_
    refine SW.istore_n dX5_init_49 (by decide) rfl rfl ?_
    exact l50
  · intro i hi ih
    have zi := cPT_z (s := 10) (b := 12) (by decide) z1 i
    have e1 : cPT θ1 10 12 i 9 2 = 10 := (cPT_s (by decide) (by decide) i).trans a1
    rw [show 3 * (16 - i) + 9 = (2 + (3 * (16 - (i + 1)) + 9)) + 1 by omega, show 15 * (16 - i) + 45 = (12 + (15 * (16 - (i + 1)) + 45)) + 3 by omega]
    refine SW.iload_n dX5_init_23 rfl ?_
    refine SW.bipush (v := (16 : Int32)) dX5_init_24 (by decide) ?_
    refine SW.icmp_ge 48 dX5_init_26 (by decide) (fun h => absurd h (nI_ge (a := i) (b := 16) hi (by omega))) (fun _ => ?_)
    refine SW.aload_n dX5_init_29 rfl ?_
    refine SW.getS (f := 2) (r := 10) aw_cl5 kp_9 (by decide) (by omega) (by decide) ww_227 dX5_init_30 rfl e1 ?_
    refine SW.iload_n dX5_init_33 rfl ?_
    have k0 : ∀ j, j < 3 → aw_kp (11 + 3 * i + 1 + j) = aw_kp (6 + j) := fun j hj => by
      rw [show 11 + 3 * i + 1 + j = 12 + 3 * i + j by omega]
      exact kq_m ⟨i, by omega⟩ ⟨j, hj⟩
    refine SW.new aw_cl2 ((k0 0 (by decide)).trans kp_6) (ZO.at zi (by omega)) ww_220 ww_188 ww_114 (by decide) dX5_init_34 ?_
    refine SW.dup dX5_init_37 rfl ?_
    refine SW.cn0 (y' := mX2_init) kN_X5_20.1 kN_X5_20.2 (by omega) (by omega) (Nat.le_of_ble_eq_true rfl) dX5_init_38 (kC2 (m := 11 + 3 * i) k0 zi ?_)
    refine SW.aast (o := 10) (n := 16) kp_10 (by decide) (by omega) ((k0 0 (by decide)).trans kp_6) (by omega) (by omega) (ps_in (by omega) (by decide)) dX5_init_41 ?_
    refine SW.iinc (v := nI i + (1 : Int32)) dX5_init_42 rfl rfl (by decide) rfl rfl ?_
    refine SW.goto 23 dX5_init_45 (by decide) ?_
    rw [nI_1, ps_cl (by omega)]
    have e9 : (11 + 3 * i + 3, σ, τ, aw_u (aw_u (aw_u (cPT θ1 10 12 i) (11 + 3 * i + 1) 0 (11 + 3 * i + 2)) (11 + 3 * i + 1) 1 (11 + 3 * i + 3)) 10 i (11 + 3 * i + 1)) = ((11 + 3 * (i + 1), σ, τ, cPT θ1 10 12 (i + 1)) : HH) := by
      show _ = (11 + 3 * (i + 1), σ, τ, aw_u (aw_u (aw_u (cPT θ1 10 12 i) (12 + 3 * i) 0 (12 + 3 * i + 1)) (12 + 3 * i) 1 (12 + 3 * i + 2)) 10 i (12 + 3 * i))
      rw [show 11 + 3 * i + 1 = 12 + 3 * i by omega, show 11 + 3 * i + 2 = 12 + 3 * i + 1 by omega, show 11 + 3 * i + 3 = 12 + 3 * i + 2 by omega, show 11 + 3 * (i + 1) = 12 + 3 * i + 2 by omega]
    rw [← e9] at ih
    exact ih
  · refine SW.iload_n dX5_init_50 rfl ?_
    refine SW.iconst (v := (3 : Int32)) dX5_init_51 (by decide) ?_
    refine SW.icmp_ge 74 dX5_init_52 (by decide) (fun _ => ?_) (fun h => absurd (Int32.le_refl _) h)
    exact SW.vret dX5_init_74 rfl ⟨rfl, hq⟩
  · intro i hi ih
    have z2 := cPT_z (s := 10) (b := 12) (by decide) z1 16
    have zi := cPT_z (s := 11) (b := 60) (by decide) z2 i
    have e1 : cPT (cPT θ1 10 12 16) 11 60 i 9 3 = 11 := (cPT_s (by decide) (by decide) i).trans ((cPT_s (by decide) (by decide) 16).trans a2)
    rw [show 3 * (3 - i) = (2 + (3 * (3 - (i + 1)))) + 1 by omega, show 15 * (3 - i) = (12 + (15 * (3 - (i + 1)))) + 3 by omega]
    refine SW.iload_n dX5_init_50 rfl ?_
    refine SW.iconst (v := (3 : Int32)) dX5_init_51 (by decide) ?_
    refine SW.icmp_ge 74 dX5_init_52 (by decide) (fun h => absurd h (nI_ge (a := i) (b := 3) hi (by omega))) (fun _ => ?_)
    refine SW.aload_n dX5_init_55 rfl ?_
    refine SW.getS (f := 3) (r := 11) aw_cl5 kp_9 (by decide) (by omega) (by decide) ww_228 dX5_init_56 rfl e1 ?_
    refine SW.iload_n dX5_init_59 rfl ?_
    have k0 : ∀ j, j < 3 → aw_kp (59 + 3 * i + 1 + j) = aw_kp (6 + j) := fun j hj => by
      rw [show 59 + 3 * i + 1 + j = 12 + 3 * (16 + i) + j by omega]
      exact kq_m ⟨16 + i, by omega⟩ ⟨j, hj⟩
    refine SW.new aw_cl2 ((k0 0 (by decide)).trans kp_6) (ZO.at zi (by omega)) ww_220 ww_188 ww_114 (by decide) dX5_init_60 ?_
    refine SW.dup dX5_init_63 rfl ?_
    refine SW.cn0 (y' := mX2_init) kN_X5_20.1 kN_X5_20.2 (by omega) (by omega) (Nat.le_of_ble_eq_true rfl) dX5_init_64 (kC2 (m := 59 + 3 * i) k0 zi ?_)
    refine SW.aast (o := 11) (n := 3) kp_11 (by decide) (by omega) ((k0 0 (by decide)).trans kp_6) (by omega) (by omega) (ps_in (by omega) (by decide)) dX5_init_67 ?_
    refine SW.iinc (v := nI i + (1 : Int32)) dX5_init_68 rfl rfl (by decide) rfl rfl ?_
    refine SW.goto 50 dX5_init_71 (by decide) ?_
    rw [nI_1, ps_cl (by omega)]
    have e9 : (59 + 3 * i + 3, σ, τ, aw_u (aw_u (aw_u (cPT (cPT θ1 10 12 16) 11 60 i) (59 + 3 * i + 1) 0 (59 + 3 * i + 2)) (59 + 3 * i + 1) 1 (59 + 3 * i + 3)) 11 i (59 + 3 * i + 1)) = ((59 + 3 * (i + 1), σ, τ, cPT (cPT θ1 10 12 16) 11 60 (i + 1)) : HH) := by
      show _ = (59 + 3 * (i + 1), σ, τ, aw_u (aw_u (aw_u (cPT (cPT θ1 10 12 16) 11 60 i) (60 + 3 * i) 0 (60 + 3 * i + 1)) (60 + 3 * i) 1 (60 + 3 * i + 2)) 11 i (60 + 3 * i))
      rw [show 59 + 3 * i + 1 = 60 + 3 * i by omega, show 59 + 3 * i + 2 = 60 + 3 * i + 1 by omega, show 59 + 3 * i + 3 = 60 + 3 * i + 2 by omega, show 59 + 3 * (i + 1) = 60 + 3 * i + 2 by omega]
    rw [← e9] at ih
    exact ih
end Ctor3
