/-! ===== the constructors ===== -/
/-- nothing is written beyond the objects up to m -/
def ZO (m : Nat) (σ : SG) (τ : TU) (θ : TH) : Prop := ∀ o, m < o → (∀ k, σ o k = 0) ∧ (∀ k, τ o k = 0) ∧ ∀ k, θ o k = 0
theorem ZO.at {m n o : Nat} {σ : SG} {τ : TU} {θ : TH} (h : ZO m σ τ θ) (ho : m < o) : aw_z (n, σ, τ, θ) o := h o ho
theorem ZO.le {m m' : Nat} {σ : SG} {τ : TU} {θ : TH} (h : ZO m σ τ θ) (hm : m ≤ m') : ZO m' σ τ θ := fun o ho => h o (Nat.lt_of_le_of_lt hm ho)
theorem ZO.up {m o k v : Nat} {σ : SG} {τ : TU} {θ : TH} (h : ZO m σ τ θ) (hm : o ≤ m) : ZO m σ τ (aw_u θ o k v) := fun o' ho => ⟨(h o' ho).1, (h o' ho).2.1, fun k' => by rw [aw_u_ne (by omega)]; exact (h o' ho).2.2 k'⟩
theorem ZO.upS {m o k : Nat} {v : Int32} {σ : SG} {τ : TU} {θ : TH} (h : ZO m σ τ θ) (hm : o ≤ m) : ZO m (aw_u σ o k v) τ θ := fun o' ho => ⟨fun k' => by rw [aw_u_ne (by omega)]; exact (h o' ho).1 k', (h o' ho).2⟩
section Ctor
variable {G : GG} {σ : SG} {τ : TU} {θ : TH} {qv : Nat → SG → TU → TH → Prop}
set_option maxHeartbeats 4000000 in
theorem kC2 {m : Nat} (hk : ∀ j, j < 3 → aw_kp (m + 1 + j) = aw_kp (6 + j)) (hz : ZO m σ τ θ) (hq : qv (m + 3) σ τ (aw_u (aw_u θ (m + 1) 0 (m + 2)) (m + 1) 1 (m + 3))) : SMv G 1 mX2_init 2 12 [.ref (m + 1)] (m + 1) σ τ θ qv := by
  have kp0 := (hk 0 (by decide)).trans (show aw_kp 6 = (0, 2) by decide +kernel)
  refine SM.of [some (.ref (m + 1))] rfl rfl (Nat.le_of_ble_eq_true rfl) ?_
  refine SW.aload_n dX2_init_0 rfl ?_
  refine SW.oinit (by omega) ww_192 ww_138 ww_139 (by decide) (by decide) dX2_init_1 ?_
  refine SW.aload_n dX2_init_4 rfl ?_
  refine SW.iconst (v := (5 : Int32)) dX2_init_5 (by decide) ?_
  refine SW.newa (a := 1) (b := 7) (N := 5) (t := 1) (at0 := .int) (ty := .int) rfl (Or.inl ⟨rfl, rfl⟩) ((hk 1 (by decide)).trans (by decide +kernel)) (ZO.at hz (by omega)) ww_213 (by decide) (by decide) (by decide) dX2_init_6 ?_
  refine SW.putR (f := 0) aw_cl2 kp0 (by omega) (by omega) (by decide) ww_193 (by first | exact Or.inl rfl | exact Or.inr ⟨rfl, rfl, rfl⟩) dX2_init_8 rfl (fun _ => rfl) (fun _ => rfl) (by omega) ?_
  refine SW.aload_n dX2_init_11 rfl ?_
  refine SW.bipush (v := (7 : Int32)) dX2_init_12 (by decide) ?_
  refine SW.newa (a := 0) (b := 0) (N := 7) (t := 1) (at0 := .int) (ty := .int) rfl (Or.inl ⟨rfl, rfl⟩) ((hk 2 (by decide)).trans (by decide +kernel)) (ZO.at (ZO.up (ZO.le (m' := m + 2) hz (by omega)) (by omega)) (by omega)) ww_213 (by decide) (by decide) (by decide) dX2_init_14 ?_
  refine SW.putR (f := 1) aw_cl2 kp0 (by omega) (by omega) (by decide) ww_195 (by first | exact Or.inl rfl | exact Or.inr ⟨rfl, rfl, rfl⟩) dX2_init_16 rfl (fun _ => rfl) (fun _ => rfl) (by omega) ?_
  exact SW.vret dX2_init_19 rfl ⟨rfl, hq⟩
set_option maxHeartbeats 4000000 in
theorem kC8 {m : Nat} (hk : ∀ j, j < 4 → aw_kp (m + 1 + j) = aw_kp (2 + j)) (hz : ZO m σ τ θ) (hq : qv (m + 4) σ τ (aw_u (aw_u (aw_u θ (m + 1) 2 (m + 2)) (m + 1) 3 (m + 3)) (m + 1) 4 (m + 4))) : SMv G 1 mX8_init 3 909 [.ref (m + 1)] (m + 1) σ τ θ qv := by
  have kp0 := (hk 0 (by decide)).trans (show aw_kp 2 = (0, 8) by decide +kernel)
  refine SM.of [some (.ref (m + 1))] rfl rfl (Nat.le_of_ble_eq_true rfl) ?_
  refine SW.aload_n dX8_init_0 rfl ?_
  refine SW.oinit (by omega) ww_145 ww_138 ww_139 (by decide) (by decide) dX8_init_1 ?_
  refine SW.aload_n dX8_init_4 rfl ?_
  refine SW.sipush (v := (900 : Int32)) dX8_init_5 (by decide) ?_
  refine SW.newa (a := 2) (b := 9) (N := 900) (t := 3) (at0 := .byte) (ty := .byte) rfl (Or.inr (Or.inr ⟨rfl, rfl⟩)) ((hk 1 (by decide)).trans (by decide +kernel)) (ZO.at hz (by omega)) ww_185 (by decide) (by decide) (by decide) dX8_init_8 ?_
  refine SW.putR (f := 2) aw_cl8 kp0 (by omega) (by omega) (by decide) ww_150 (by first | exact Or.inl rfl | exact Or.inr ⟨rfl, rfl, rfl⟩) dX8_init_10 rfl (fun _ => rfl) (fun _ => rfl) (by omega) ?_
  refine SW.aload_n dX8_init_13 rfl ?_
  refine SW.iconst (v := (5 : Int32)) dX8_init_14 (by decide) ?_
  refine SW.newa (a := 1) (b := 4) (N := 5) (t := 2) (at0 := .long) (ty := .long) rfl (Or.inr (Or.inl ⟨rfl, rfl⟩)) ((hk 2 (by decide)).trans (by decide +kernel)) (ZO.at (ZO.up (ZO.le (m' := m + 2) hz (by omega)) (by omega)) (by omega)) ww_186 (by decide) (by decide) (by decide) dX8_init_15 ?_
  refine SW.putR (f := 3) aw_cl8 kp0 (by omega) (by omega) (by decide) ww_151 (by first | exact Or.inl rfl | exact Or.inr ⟨rfl, rfl, rfl⟩) dX8_init_17 rfl (fun _ => rfl) (fun _ => rfl) (by omega) ?_
  refine SW.aload_n dX8_init_20 rfl ?_
  refine SW.iconst (v := (4 : Int32)) dX8_init_21 (by decide) ?_
  refine SW.newa (a := 0) (b := 0) (N := 4) (t := 2) (at0 := .long) (ty := .long) rfl (Or.inr (Or.inl ⟨rfl, rfl⟩)) ((hk 3 (by decide)).trans (by decide +kernel)) (ZO.at (ZO.up (ZO.le (m' := m + 3) (ZO.up (ZO.le (m' := m + 2) hz (by omega)) (by omega)) (by omega)) (by omega)) (by omega)) ww_186 (by decide) (by decide) (by decide) dX8_init_22 ?_
  refine SW.putR (f := 4) aw_cl8 kp0 (by omega) (by omega) (by decide) ww_152 (by first | exact Or.inl rfl | exact Or.inr ⟨rfl, rfl, rfl⟩) dX8_init_24 rfl (fun _ => rfl) (fun _ => rfl) (by omega) ?_
  exact SW.vret dX8_init_27 rfl ⟨rfl, hq⟩
set_option maxHeartbeats 4000000 in
theorem kC7 {m : Nat} (hk : ∀ j, j < 4 → aw_kp (m + 1 + j) = aw_kp (69 + j)) (hz : ZO m σ τ θ) (hq : qv (m + 4) σ τ (aw_u (aw_u (aw_u θ (m + 1) 0 (m + 2)) (m + 1) 1 (m + 3)) (m + 1) 2 (m + 4))) : SMv G 1 mX7_init 3 105 [.ref (m + 1)] (m + 1) σ τ θ qv := by
  have kp0 := (hk 0 (by decide)).trans (show aw_kp 69 = (0, 7) by decide +kernel)
  refine SM.of [some (.ref (m + 1))] rfl rfl (Nat.le_of_ble_eq_true rfl) ?_
  refine SW.aload_n dX7_init_0 rfl ?_
  refine SW.oinit (by omega) ww_246 ww_138 ww_139 (by decide) (by decide) dX7_init_1 ?_
  refine SW.aload_n dX7_init_4 rfl ?_
  refine SW.iconst (v := (5 : Int32)) dX7_init_5 (by decide) ?_
  refine SW.newa (a := 2) (b := 100) (N := 5) (t := 1) (at0 := .int) (ty := .int) rfl (Or.inl ⟨rfl, rfl⟩) ((hk 1 (by decide)).trans (by decide +kernel)) (ZO.at hz (by omega)) ww_213 (by decide) (by decide) (by decide) dX7_init_6 ?_
  refine SW.putR (f := 0) aw_cl7 kp0 (by omega) (by omega) (by decide) ww_247 (by first | exact Or.inl rfl | exact Or.inr ⟨rfl, rfl, rfl⟩) dX7_init_8 rfl (fun _ => rfl) (fun _ => rfl) (by omega) ?_
  refine SW.aload_n dX7_init_11 rfl ?_
  refine SW.iconst (v := (4 : Int32)) dX7_init_12 (by decide) ?_
  refine SW.newa (a := 1) (b := 96) (N := 4) (t := 1) (at0 := .int) (ty := .int) rfl (Or.inl ⟨rfl, rfl⟩) ((hk 2 (by decide)).trans (by decide +kernel)) (ZO.at (ZO.up (ZO.le (m' := m + 2) hz (by omega)) (by omega)) (by omega)) ww_213 (by decide) (by decide) (by decide) dX7_init_13 ?_
  refine SW.putR (f := 1) aw_cl7 kp0 (by omega) (by omega) (by decide) ww_249 (by first | exact Or.inl rfl | exact Or.inr ⟨rfl, rfl, rfl⟩) dX7_init_15 rfl (fun _ => rfl) (fun _ => rfl) (by omega) ?_
  refine SW.aload_n dX7_init_18 rfl ?_
  refine SW.bipush (v := (96 : Int32)) dX7_init_19 (by decide) ?_
  refine SW.newa (a := 0) (b := 0) (N := 96) (t := 1) (at0 := .int) (ty := .int) rfl (Or.inl ⟨rfl, rfl⟩) ((hk 3 (by decide)).trans (by decide +kernel)) (ZO.at (ZO.up (ZO.le (m' := m + 3) (ZO.up (ZO.le (m' := m + 2) hz (by omega)) (by omega)) (by omega)) (by omega)) (by omega)) ww_213 (by decide) (by decide) (by decide) dX7_init_21 ?_
  refine SW.putR (f := 2) aw_cl7 kp0 (by omega) (by omega) (by decide) ww_250 (by first | exact Or.inl rfl | exact Or.inr ⟨rfl, rfl, rfl⟩) dX7_init_23 rfl (fun _ => rfl) (fun _ => rfl) (by omega) ?_
  exact SW.vret dX7_init_26 rfl ⟨rfl, hq⟩
set_option maxHeartbeats 4000000 in
theorem kC6 {m : Nat} (hk : ∀ j, j < 4 → aw_kp (m + 1 + j) = aw_kp (73 + j)) (hz : ZO m σ τ θ) (hq : qv (m + 4) σ τ (aw_u (aw_u (aw_u θ (m + 1) 0 (m + 2)) (m + 1) 2 (m + 3)) (m + 1) 3 (m + 4))) : SMv G 1 mX6_init 3 15 [.ref (m + 1)] (m + 1) σ τ θ qv := by
  have kp0 := (hk 0 (by decide)).trans (show aw_kp 73 = (0, 6) by decide +kernel)
  refine SM.of [some (.ref (m + 1))] rfl rfl (Nat.le_of_ble_eq_true rfl) ?_
  refine SW.aload_n dX6_init_0 rfl ?_
  refine SW.oinit (by omega) ww_263 ww_138 ww_139 (by decide) (by decide) dX6_init_1 ?_
  refine SW.aload_n dX6_init_4 rfl ?_
  refine SW.iconst (v := (5 : Int32)) dX6_init_5 (by decide) ?_
  refine SW.newa (a := 2) (b := 10) (N := 5) (t := 1) (at0 := .int) (ty := .int) rfl (Or.inl ⟨rfl, rfl⟩) ((hk 1 (by decide)).trans (by decide +kernel)) (ZO.at hz (by omega)) ww_213 (by decide) (by decide) (by decide) dX6_init_6 ?_
  refine SW.putR (f := 0) aw_cl6 kp0 (by omega) (by omega) (by decide) ww_264 (by first | exact Or.inl rfl | exact Or.inr ⟨rfl, rfl, rfl⟩) dX6_init_8 rfl (fun _ => rfl) (fun _ => rfl) (by omega) ?_
  refine SW.aload_n dX6_init_11 rfl ?_
  refine SW.iconst (v := (5 : Int32)) dX6_init_12 (by decide) ?_
  refine SW.newa (a := 1) (b := 5) (N := 5) (t := 1) (at0 := .int) (ty := .int) rfl (Or.inl ⟨rfl, rfl⟩) ((hk 2 (by decide)).trans (by decide +kernel)) (ZO.at (ZO.up (ZO.le (m' := m + 2) hz (by omega)) (by omega)) (by omega)) ww_213 (by decide) (by decide) (by decide) dX6_init_13 ?_
  refine SW.putR (f := 2) aw_cl6 kp0 (by omega) (by omega) (by decide) ww_268 (by first | exact Or.inl rfl | exact Or.inr ⟨rfl, rfl, rfl⟩) dX6_init_15 rfl (fun _ => rfl) (fun _ => rfl) (by omega) ?_
  refine SW.aload_n dX6_init_18 rfl ?_
  refine SW.iconst (v := (5 : Int32)) dX6_init_19 (by decide) ?_
  refine SW.newa (a := 0) (b := 0) (N := 5) (t := 1) (at0 := .int) (ty := .int) rfl (Or.inl ⟨rfl, rfl⟩) ((hk 3 (by decide)).trans (by decide +kernel)) (ZO.at (ZO.up (ZO.le (m' := m + 3) (ZO.up (ZO.le (m' := m + 2) hz (by omega)) (by omega)) (by omega)) (by omega)) (by omega)) ww_213 (by decide) (by decide) (by decide) dX6_init_20 ?_
  refine SW.putR (f := 3) aw_cl6 kp0 (by omega) (by omega) (by decide) ww_269 (by first | exact Or.inl rfl | exact Or.inr ⟨rfl, rfl, rfl⟩) dX6_init_22 rfl (fun _ => rfl) (fun _ => rfl) (by omega) ?_
  exact SW.vret dX6_init_25 rfl ⟨rfl, hq⟩
set_option maxHeartbeats 4000000 in
theorem kC4 {m : Nat} (hk : ∀ j, j < 3 → aw_kp (m + 1 + j) = aw_kp (77 + j)) (hz : ZO m σ τ θ) (hq : qv (m + 3) σ τ (aw_u (aw_u θ (m + 1) 3 (m + 2)) (m + 1) 4 (m + 3))) : SMv G 1 mX4_init 2 32 [.ref (m + 1)] (m + 1) σ τ θ qv := by
  have kp0 := (hk 0 (by decide)).trans (show aw_kp 77 = (0, 4) by decide +kernel)
  refine SM.of [some (.ref (m + 1))] rfl rfl (Nat.le_of_ble_eq_true rfl) ?_
  refine SW.aload_n dX4_init_0 rfl ?_
  refine SW.oinit (by omega) ww_284 ww_138 ww_139 (by decide) (by decide) dX4_init_1 ?_
  refine SW.aload_n dX4_init_4 rfl ?_
  refine SW.bipush (v := (16 : Int32)) dX4_init_5 (by decide) ?_
  refine SW.newa (a := 1) (b := 16) (N := 16) (t := 2) (at0 := .long) (ty := .long) rfl (Or.inr (Or.inl ⟨rfl, rfl⟩)) ((hk 1 (by decide)).trans (by decide +kernel)) (ZO.at hz (by omega)) ww_186 (by decide) (by decide) (by decide) dX4_init_7 ?_
  refine SW.putR (f := 3) aw_cl4 kp0 (by omega) (by omega) (by decide) ww_290 (by first | exact Or.inl rfl | exact Or.inr ⟨rfl, rfl, rfl⟩) dX4_init_9 rfl (fun _ => rfl) (fun _ => rfl) (by omega) ?_
  refine SW.aload_n dX4_init_12 rfl ?_
  refine SW.bipush (v := (16 : Int32)) dX4_init_13 (by decide) ?_
  refine SW.newa (a := 0) (b := 0) (N := 16) (t := 1) (at0 := .int) (ty := .int) rfl (Or.inl ⟨rfl, rfl⟩) ((hk 2 (by decide)).trans (by decide +kernel)) (ZO.at (ZO.up (ZO.le (m' := m + 2) hz (by omega)) (by omega)) (by omega)) ww_213 (by decide) (by decide) (by decide) dX4_init_15 ?_
  refine SW.putR (f := 4) aw_cl4 kp0 (by omega) (by omega) (by decide) ww_291 (by first | exact Or.inl rfl | exact Or.inr ⟨rfl, rfl, rfl⟩) dX4_init_17 rfl (fun _ => rfl) (fun _ => rfl) (by omega) ?_
  exact SW.vret dX4_init_20 rfl ⟨rfl, hq⟩
set_option maxHeartbeats 4000000 in
theorem kC10 {m : Nat} (hk : ∀ j, j < 13 → aw_kp (m + 1 + j) = aw_kp (120 + j)) (hz : ZO m σ τ θ) (hq : qv (m + 13) (aw_u σ (m + 1) 10 (-1)) τ (aw_u (aw_u (aw_u (aw_u (aw_u (aw_u (aw_u (aw_u (aw_u (aw_u (aw_u (aw_u θ (m + 1) 1 (m + 2)) (m + 1) 12 (m + 3)) (m + 1) 15 (m + 4)) (m + 1) 16 (m + 5)) (m + 1) 17 (m + 6)) (m + 1) 18 (m + 7)) (m + 1) 19 (m + 8)) (m + 1) 23 (m + 9)) (m + 1) 24 (m + 10)) (m + 1) 25 (m + 11)) (m + 1) 27 (m + 12)) (m + 1) 28 (m + 13))) : SMv G 1 mX10_init 12 1535 [.ref (m + 1)] (m + 1) σ τ θ qv := by
  have kp0 := (hk 0 (by decide)).trans (show aw_kp 120 = (0, 10) by decide +kernel)
  refine SM.of [some (.ref (m + 1))] rfl rfl (Nat.le_of_ble_eq_true rfl) ?_
  refine SW.aload_n dX10_init_0 rfl ?_
  refine SW.oinit (by omega) ww_1241 ww_138 ww_139 (by decide) (by decide) dX10_init_1 ?_
  refine SW.aload_n dX10_init_4 rfl ?_
  refine SW.sipush (v := (900 : Int32)) dX10_init_5 (by decide) ?_
  refine SW.newa (a := 11) (b := 635) (N := 900) (t := 1) (at0 := .int) (ty := .int) rfl (Or.inl ⟨rfl, rfl⟩) ((hk 1 (by decide)).trans (by decide +kernel)) (ZO.at hz (by omega)) ww_213 (by decide) (by decide) (by decide) dX10_init_8 ?_
  refine SW.putR (f := 1) aw_cl10 kp0 (by omega) (by omega) (by decide) ww_1243 (by first | exact Or.inl rfl | exact Or.inr ⟨rfl, rfl, rfl⟩) dX10_init_10 rfl (fun _ => rfl) (fun _ => rfl) (by omega) ?_
  refine SW.aload_n dX10_init_13 rfl ?_
  refine SW.iconst (v := (-1 : Int32)) dX10_init_14 (by decide) ?_
  refine SW.putI (f := 10) aw_cl10 kp0 (by omega) (by omega) (by decide) ww_1252 (by first | exact Or.inl rfl | exact Or.inr ⟨rfl, rfl, rfl⟩) dX10_init_15 rfl rfl rfl ?_
  refine SW.aload_n dX10_init_18 rfl ?_
  refine SW.bipush (v := (8 : Int32)) dX10_init_19 (by decide) ?_
  refine SW.newa (a := 10) (b := 627) (N := 8) (t := 1) (at0 := .int) (ty := .int) rfl (Or.inl ⟨rfl, rfl⟩) ((hk 2 (by decide)).trans (by decide +kernel)) (ZO.at (ZO.upS (ZO.up (ZO.le (m' := m + 2) hz (by omega)) (by omega)) (by omega)) (by omega)) ww_213 (by decide) (by decide) (by decide) dX10_init_21 ?_
  refine SW.putR (f := 12) aw_cl10 kp0 (by omega) (by omega) (by decide) ww_1254 (by first | exact Or.inl rfl | exact Or.inr ⟨rfl, rfl, rfl⟩) dX10_init_23 rfl (fun _ => rfl) (fun _ => rfl) (by omega) ?_
  refine SW.aload_n dX10_init_26 rfl ?_
  refine SW.sipush (v := (167 : Int32)) dX10_init_27 (by decide) ?_
  refine SW.newa (a := 9) (b := 460) (N := 167) (t := 1) (at0 := .int) (ty := .int) rfl (Or.inl ⟨rfl, rfl⟩) ((hk 3 (by decide)).trans (by decide +kernel)) (ZO.at (ZO.up (ZO.le (m' := m + 3) (ZO.upS (ZO.up (ZO.le (m' := m + 2) hz (by omega)) (by omega)) (by omega)) (by omega)) (by omega)) (by omega)) ww_213 (by decide) (by decide) (by decide) dX10_init_30 ?_
  refine SW.putR (f := 15) aw_cl10 kp0 (by omega) (by omega) (by decide) ww_1257 (by first | exact Or.inl rfl | exact Or.inr ⟨rfl, rfl, rfl⟩) dX10_init_32 rfl (fun _ => rfl) (fun _ => rfl) (by omega) ?_
  refine SW.aload_n dX10_init_35 rfl ?_
  refine SW.sipush (v := (167 : Int32)) dX10_init_36 (by decide) ?_
  refine SW.newa (a := 8) (b := 293) (N := 167) (t := 1) (at0 := .int) (ty := .int) rfl (Or.inl ⟨rfl, rfl⟩) ((hk 4 (by decide)).trans (by decide +kernel)) (ZO.at (ZO.up (ZO.le (m' := m + 4) (ZO.up (ZO.le (m' := m + 3) (ZO.upS (ZO.up (ZO.le (m' := m + 2) hz (by omega)) (by omega)) (by omega)) (by omega)) (by omega)) (by omega)) (by omega)) (by omega)) ww_213 (by decide) (by decide) (by decide) dX10_init_39 ?_
  refine SW.putR (f := 16) aw_cl10 kp0 (by omega) (by omega) (by decide) ww_1258 (by first | exact Or.inl rfl | exact Or.inr ⟨rfl, rfl, rfl⟩) dX10_init_41 rfl (fun _ => rfl) (fun _ => rfl) (by omega) ?_
  refine SW.aload_n dX10_init_44 rfl ?_
  refine SW.bipush (v := (13 : Int32)) dX10_init_45 (by decide) ?_
  refine SW.newa (a := 7) (b := 280) (N := 13) (t := 1) (at0 := .int) (ty := .int) rfl (Or.inl ⟨rfl, rfl⟩) ((hk 5 (by decide)).trans (by decide +kernel)) (ZO.at (ZO.up (ZO.le (m' := m + 5) (ZO.up (ZO.le (m' := m + 4) (ZO.up (ZO.le (m' := m + 3) (ZO.upS (ZO.up (ZO.le (m' := m + 2) hz (by omega)) (by omega)) (by omega)) (by omega)) (by omega)) (by omega)) (by omega)) (by omega)) (by omega)) (by omega)) ww_213 (by decide) (by decide) (by decide) dX10_init_47 ?_
  refine SW.putR (f := 17) aw_cl10 kp0 (by omega) (by omega) (by decide) ww_1259 (by first | exact Or.inl rfl | exact Or.inr ⟨rfl, rfl, rfl⟩) dX10_init_49 rfl (fun _ => rfl) (fun _ => rfl) (by omega) ?_
  refine SW.aload_n dX10_init_52 rfl ?_
  refine SW.sipush (v := (208 : Int32)) dX10_init_53 (by decide) ?_
  refine SW.newa (a := 6) (b := 72) (N := 208) (t := 1) (at0 := .int) (ty := .int) rfl (Or.inl ⟨rfl, rfl⟩) ((hk 6 (by decide)).trans (by decide +kernel)) (ZO.at (ZO.up (ZO.le (m' := m + 6) (ZO.up (ZO.le (m' := m + 5) (ZO.up (ZO.le (m' := m + 4) (ZO.up (ZO.le (m' := m + 3) (ZO.upS (ZO.up (ZO.le (m' := m + 2) hz (by omega)) (by omega)) (by omega)) (by omega)) (by omega)) (by omega)) (by omega)) (by omega)) (by omega)) (by omega)) (by omega)) (by omega)) ww_213 (by decide) (by decide) (by decide) dX10_init_56 ?_
  refine SW.putR (f := 18) aw_cl10 kp0 (by omega) (by omega) (by decide) ww_1260 (by first | exact Or.inl rfl | exact Or.inr ⟨rfl, rfl, rfl⟩) dX10_init_58 rfl (fun _ => rfl) (fun _ => rfl) (by omega) ?_
  refine SW.aload_n dX10_init_61 rfl ?_
  refine SW.bipush (v := (39 : Int32)) dX10_init_62 (by decide) ?_
  refine SW.newa (a := 5) (b := 33) (N := 39) (t := 1) (at0 := .int) (ty := .int) rfl (Or.inl ⟨rfl, rfl⟩) ((hk 7 (by decide)).trans (by decide +kernel)) (ZO.at (ZO.up (ZO.le (m' := m + 7) (ZO.up (ZO.le (m' := m + 6) (ZO.up (ZO.le (m' := m + 5) (ZO.up (ZO.le (m' := m + 4) (ZO.up (ZO.le (m' := m + 3) (ZO.upS (ZO.up (ZO.le (m' := m + 2) hz (by omega)) (by omega)) (by omega)) (by omega)) (by omega)) (by omega)) (by omega)) (by omega)) (by omega)) (by omega)) (by omega)) (by omega)) (by omega)) (by omega)) ww_213 (by decide) (by decide) (by decide) dX10_init_64 ?_
  refine SW.putR (f := 19) aw_cl10 kp0 (by omega) (by omega) (by decide) ww_1261 (by first | exact Or.inl rfl | exact Or.inr ⟨rfl, rfl, rfl⟩) dX10_init_66 rfl (fun _ => rfl) (fun _ => rfl) (by omega) ?_
  refine SW.aload_n dX10_init_69 rfl ?_
  refine SW.bipush (v := (13 : Int32)) dX10_init_70 (by decide) ?_
  refine SW.newa (a := 4) (b := 20) (N := 13) (t := 1) (at0 := .int) (ty := .int) rfl (Or.inl ⟨rfl, rfl⟩) ((hk 8 (by decide)).trans (by decide +kernel)) (ZO.at (ZO.up (ZO.le (m' := m + 8) (ZO.up (ZO.le (m' := m + 7) (ZO.up (ZO.le (m' := m + 6) (ZO.up (ZO.le (m' := m + 5) (ZO.up (ZO.le (m' := m + 4) (ZO.up (ZO.le (m' := m + 3) (ZO.upS (ZO.up (ZO.le (m' := m + 2) hz (by omega)) (by omega)) (by omega)) (by omega)) (by omega)) (by omega)) (by omega)) (by omega)) (by omega)) (by omega)) (by omega)) (by omega)) (by omega)) (by omega)) (by omega)) (by omega)) ww_213 (by decide) (by decide) (by decide) dX10_init_72 ?_
  refine SW.putR (f := 23) aw_cl10 kp0 (by omega) (by omega) (by decide) ww_1265 (by first | exact Or.inl rfl | exact Or.inr ⟨rfl, rfl, rfl⟩) dX10_init_74 rfl (fun _ => rfl) (fun _ => rfl) (by omega) ?_
  refine SW.aload_n dX10_init_77 rfl ?_
  refine SW.iconst (v := (5 : Int32)) dX10_init_78 (by decide) ?_
  refine SW.newa (a := 3) (b := 15) (N := 5) (t := 1) (at0 := .int) (ty := .int) rfl (Or.inl ⟨rfl, rfl⟩) ((hk 9 (by decide)).trans (by decide +kernel)) (ZO.at (ZO.up (ZO.le (m' := m + 9) (ZO.up (ZO.le (m' := m + 8) (ZO.up (ZO.le (m' := m + 7) (ZO.up (ZO.le (m' := m + 6) (ZO.up (ZO.le (m' := m + 5) (ZO.up (ZO.le (m' := m + 4) (ZO.up (ZO.le (m' := m + 3) (ZO.upS (ZO.up (ZO.le (m' := m + 2) hz (by omega)) (by omega)) (by omega)) (by omega)) (by omega)) (by omega)) (by omega)) (by omega)) (by omega)) (by omega)) (by omega)) (by omega)) (by omega)) (by omega)) (by omega)) (by omega)) (by omega)) (by omega)) ww_213 (by decide) (by decide) (by decide) dX10_init_79 ?_
  refine SW.putR (f := 24) aw_cl10 kp0 (by omega) (by omega) (by decide) ww_1266 (by first | exact Or.inl rfl | exact Or.inr ⟨rfl, rfl, rfl⟩) dX10_init_81 rfl (fun _ => rfl) (fun _ => rfl) (by omega) ?_
  refine SW.aload_n dX10_init_84 rfl ?_
  refine SW.iconst (v := (5 : Int32)) dX10_init_85 (by decide) ?_
  refine SW.newa (a := 2) (b := 10) (N := 5) (t := 1) (at0 := .int) (ty := .int) rfl (Or.inl ⟨rfl, rfl⟩) ((hk 10 (by decide)).trans (by decide +kernel)) (ZO.at (ZO.up (ZO.le (m' := m + 10) (ZO.up (ZO.le (m' := m + 9) (ZO.up (ZO.le (m' := m + 8) (ZO.up (ZO.le (m' := m + 7) (ZO.up (ZO.le (m' := m + 6) (ZO.up (ZO.le (m' := m + 5) (ZO.up (ZO.le (m' := m + 4) (ZO.up (ZO.le (m' := m + 3) (ZO.upS (ZO.up (ZO.le (m' := m + 2) hz (by omega)) (by omega)) (by omega)) (by omega)) (by omega)) (by omega)) (by omega)) (by omega)) (by omega)) (by omega)) (by omega)) (by omega)) (by omega)) (by omega)) (by omega)) (by omega)) (by omega)) (by omega)) (by omega)) (by omega)) ww_213 (by decide) (by decide) (by decide) dX10_init_86 ?_
  refine SW.putR (f := 25) aw_cl10 kp0 (by omega) (by omega) (by decide) ww_1267 (by first | exact Or.inl rfl | exact Or.inr ⟨rfl, rfl, rfl⟩) dX10_init_88 rfl (fun _ => rfl) (fun _ => rfl) (by omega) ?_
  refine SW.aload_n dX10_init_91 rfl ?_
  refine SW.iconst (v := (5 : Int32)) dX10_init_92 (by decide) ?_
  refine SW.newa (a := 1) (b := 5) (N := 5) (t := 1) (at0 := .int) (ty := .int) rfl (Or.inl ⟨rfl, rfl⟩) ((hk 11 (by decide)).trans (by decide +kernel)) (ZO.at (ZO.up (ZO.le (m' := m + 11) (ZO.up (ZO.le (m' := m + 10) (ZO.up (ZO.le (m' := m + 9) (ZO.up (ZO.le (m' := m + 8) (ZO.up (ZO.le (m' := m + 7) (ZO.up (ZO.le (m' := m + 6) (ZO.up (ZO.le (m' := m + 5) (ZO.up (ZO.le (m' := m + 4) (ZO.up (ZO.le (m' := m + 3) (ZO.upS (ZO.up (ZO.le (m' := m + 2) hz (by omega)) (by omega)) (by omega)) (by omega)) (by omega)) (by omega)) (by omega)) (by omega)) (by omega)) (by omega)) (by omega)) (by omega)) (by omega)) (by omega)) (by omega)) (by omega)) (by omega)) (by omega)) (by omega)) (by omega)) (by omega)) (by omega)) ww_213 (by decide) (by decide) (by decide) dX10_init_93 ?_
  refine SW.putR (f := 27) aw_cl10 kp0 (by omega) (by omega) (by decide) ww_1269 (by first | exact Or.inl rfl | exact Or.inr ⟨rfl, rfl, rfl⟩) dX10_init_95 rfl (fun _ => rfl) (fun _ => rfl) (by omega) ?_
  refine SW.aload_n dX10_init_98 rfl ?_
  refine SW.iconst (v := (5 : Int32)) dX10_init_99 (by decide) ?_
  refine SW.newa (a := 0) (b := 0) (N := 5) (t := 1) (at0 := .int) (ty := .int) rfl (Or.inl ⟨rfl, rfl⟩) ((hk 12 (by decide)).trans (by decide +kernel)) (ZO.at (ZO.up (ZO.le (m' := m + 12) (ZO.up (ZO.le (m' := m + 11) (ZO.up (ZO.le (m' := m + 10) (ZO.up (ZO.le (m' := m + 9) (ZO.up (ZO.le (m' := m + 8) (ZO.up (ZO.le (m' := m + 7) (ZO.up (ZO.le (m' := m + 6) (ZO.up (ZO.le (m' := m + 5) (ZO.up (ZO.le (m' := m + 4) (ZO.up (ZO.le (m' := m + 3) (ZO.upS (ZO.up (ZO.le (m' := m + 2) hz (by omega)) (by omega)) (by omega)) (by omega)) (by omega)) (by omega)) (by omega)) (by omega)) (by omega)) (by omega)) (by omega)) (by omega)) (by omega)) (by omega)) (by omega)) (by omega)) (by omega)) (by omega)) (by omega)) (by omega)) (by omega)) (by omega)) (by omega)) (by omega)) ww_213 (by decide) (by decide) (by decide) dX10_init_100 ?_
  refine SW.putR (f := 28) aw_cl10 kp0 (by omega) (by omega) (by decide) ww_1270 (by first | exact Or.inl rfl | exact Or.inr ⟨rfl, rfl, rfl⟩) dX10_init_102 rfl (fun _ => rfl) (fun _ => rfl) (by omega) ?_
  exact SW.vret dX10_init_105 rfl ⟨rfl, hq⟩
end Ctor
