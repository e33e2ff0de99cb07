/-! ===== bounds ===== -/
/-- the moment's row is sound -/
def VS (st : Nat → Int32) : Prop := (∀ k, k < 7 → bI (st k) 0 99) ∧ bI (st 12) 0 999
theorem ps_up_nat {a t : Nat} (ha : a ≤ 99) (h1 : 1 ≤ t) (ht : t ≤ 20) : s_up (nI a) (nI t) = nI ((a + t - 1) / t) := by
  unfold s_up
  rw [nI_add, show nI (a + t) - 1 = nI (a + t - 1) from pk_sub (a := a + t) (b := 1) (by omega), pk_div (by omega) (by omega) (by omega)]
theorem ps_up_le {a t : Nat} (h1 : 1 ≤ t) : (a + t - 1) / t ≤ a := by
  rcases Nat.eq_zero_or_pos a with h | h
  · subst h
    rw [Nat.div_eq_of_lt (by omega)]
    exact Nat.le_refl _
  · have : a + t - 1 ≤ a * t := by
      obtain ⟨t', rfl⟩ : ∃ t', t = t' + 1 := ⟨t - 1, by omega⟩
      obtain ⟨a', rfl⟩ : ∃ a', a = a' + 1 := ⟨a - 1, by omega⟩
      rw [Nat.add_mul, Nat.mul_add]
      have := Nat.zero_le (a' * t')
      omega
    exact Nat.div_le_of_le_mul (by rw [Nat.mul_comm]; exact this)
theorem s_db_b {r L : Nat → Int32} {s m : Int32} (hv : VR r) (hL : ∀ k, k < 7 → bI (L k) 0 99) : ∀ k, k ≤ nD r → bI (s_db r L s m k) 0 (99 * k)
  | 0, _ => ⟨0, by omega, by omega, rfl⟩
  | k + 1, hk => by
    obtain ⟨x, -, hx, ex⟩ := s_db_b (s := s) (m := m) hv hL k (by omega)
    have h7 := hv.d7
    obtain ⟨a, -, ha, ea⟩ := hL k (by omega)
    show bI (s_db r L s m k + _) 0 _
    split
    · have ht := hv.t1 (hv.mD (k := k) (by omega))
      rw [ex, ea, hv.t, ps_up_nat ha ht hv.t20, nI_add]
      have := ps_up_le (a := a) ht
      exact ⟨_, Nat.zero_le _, by omega, rfl⟩
    · rw [ex, Int32.add_zero]
      exact ⟨x, by omega, by omega, rfl⟩
theorem s_hb_b {kd b : Int32} {B : Nat} (hb : bI b 0 B) (hB : B ≤ 100000) : bI (s_hb kd b) 0 (2 * B) := by
  obtain ⟨x, -, hx, rfl⟩ := hb
  unfold s_hb
  split
  · exact ⟨0, by omega, by omega, rfl⟩
  · split
    · exact ⟨2 * x, by omega, by omega, pk_mul 2 x⟩
    · split
      · refine ⟨(x + 1) / 2, by omega, by omega, ?_⟩
        rw [nI_1]
        exact pk_div (d := 2) (by omega) (by omega) (by omega)
      · exact ⟨x, by omega, by omega, rfl⟩
theorem s_hd_b {r L : Nat → Int32} {s : Int32} {m : Nat} (hv : VR r) (hL : ∀ k, k < 7 → bI (L k) 0 99) : bI (s_hd r L s m) 0 1386 := by
  have h7 := hv.d7
  obtain ⟨x, h1, h2, h3⟩ := s_hb_b (kd := r (10 + 3 * m)) (s_db_b (s := s) (m := nI m) hv hL (nD r) (Nat.le_refl _)) (by omega)
  exact ⟨x, h1, by omega, h3⟩
theorem s_all_b {r L : Nat → Int32} {s : Int32} (hv : VR r) (hL : ∀ k, k < 7 → bI (L k) 0 99) : ∀ m, m ≤ 5 → bI (s_all r L s m) 0 (1386 * m)
  | 0, _ => ⟨0, by omega, by omega, rfl⟩
  | m + 1, hm => by
    obtain ⟨x, -, hx, ex⟩ := s_all_b (s := s) hv hL m (by omega)
    obtain ⟨y, -, hy, ey⟩ := s_hd_b (s := s) (m := m) hv hL
    show bI (s_all r L s m + s_hd r L s m) 0 _
    rw [ex, ey, nI_add]
    exact ⟨_, by omega, by omega, rfl⟩
theorem s_db_c {r L L' : Nat → Int32} {s m : Int32} (hL : ∀ k, k < 7 → L k = L' k) : ∀ k, k ≤ 7 → s_db r L s m k = s_db r L' s m k
  | 0, _ => rfl
  | k + 1, hk => by
    have h1 : s_due r L s k = s_due r L' s k := by unfold s_due; rw [hL k (by omega)]
    show s_db r L s m k + _ = s_db r L' s m k + _
    rw [s_db_c (s := s) (m := m) hL k (by omega), h1, hL k (by omega)]
theorem s_hd_c {r L L' : Nat → Int32} {s : Int32} {m : Nat} (hv : VR r) (hL : ∀ k, k < 7 → L k = L' k) : s_hd r L s m = s_hd r L' s m := by
  unfold s_hd
  rw [s_db_c hL _ hv.d7]
theorem s_all_c {r L L' : Nat → Int32} {s : Int32} (hv : VR r) (hL : ∀ k, k < 7 → L k = L' k) : ∀ m, s_all r L s m = s_all r L' s m
  | 0 => rfl
  | m + 1 => by simp only [s_all, s_all_c hv hL m, s_hd_c hv hL]
/-! ===== second group of public methods ===== -/
def s_gb (f : Nat → Int32) : Nat → Nat
  | 0 => 0
  | j + 1 => if f (j + 1) ≤ f (s_gb f j) then s_gb f j else j + 1
theorem s_gb_le (f : Nat → Int32) : ∀ j, s_gb f j ≤ j
  | 0 => Nat.le_refl _
  | j + 1 => by
    show (if _ then _ else _) ≤ _
    split
    · exact Nat.le_succ_of_le (s_gb_le f j)
    · exact Nat.le_refl _
def s_bb (r L : Nat → Int32) (s : Int32) : Nat → Int32
  | 0 => 0
  | m + 1 => s_bb r L s m ||| if s_hd r L s m = 0 then 1 <<< (nI m &&& 31) else 0
def s_until (p : Nat → Bool) : Nat → Nat → Int32
  | _, 0 => -2
  | i, d + 1 => if p i = true then nI i else s_until p (i + 1) d
theorem ps_20 {A B : Prop} {j : Nat} (hj : j < 100) (f : 20 < j → A) (g : j ≤ 20 → B) : ((20 : Int32) < nI j → A) ∧ (¬ (20 : Int32) < nI j → B) := by
  have h : ((20 : Int32) < nI j) ↔ 20 < j := nI_ltI (a := 20) (by omega) (by omega)
  exact ⟨fun e => f (h.mp e), fun e => g (Nat.not_lt.mp fun e2 => e (h.mpr e2))⟩
section Pub2
variable {G : GG} {n : Nat} {σ : SG} {τ : TU} {θ : TH} {r st : Nat → Int32} {q : Int32 → Nat → SG → TU → TH → Prop} {qv : Nat → SG → TU → TH → Prop}
def sp_greatest (r st : Nat → Int32) : Int32 × Int32 := if nM r = 0 then (-1, 1) else (nI (s_gb (fun m => s_hd r st (st 12) m) (nM r - 1)), 0)
theorem p9_greatest (hW : aw_WT n θ) (hF : FR σ (θ 1 7) r) (hM : MR σ 6 st) (hv : VR r) (hq : ∀ σ' τ', CS σ σ' (sp_greatest r st).2 → q (sp_greatest r st).1 n σ' τ' θ) : SMi G 5 mX9_greatest 0 0 [.ref 1] n σ τ θ q := by
  unfold sp_greatest at hq
  have h5 := hv.m5
  have e : σ (θ 1 7) 13 = nI (nM r) := hF.1.2.2.2.2.1.trans hv.m
  refine ctX9_greatest (sgX9_greatest_0 (Nat.le_refl _) hW ?_)
  refine k9_noDuchy hW hF hv ⟨hW, ps_b (fun h => ?_) (fun h => ?_)⟩
  · rw [if_neg h] at hq
    refine ps_up (N := nM r - 1) (P := fun j => SW G 5 mX9_greatest (aw_qi q) 0 0 17 [some (.ref 1), some (.int (nI (s_gb (fun m => s_hd r st (st 12) m) j))), some (.int (nI (j + 1)))] [] (n, σ, τ, θ)) ?_ ?_ 0 (Nat.zero_le _)
    · rw [show nM r - 1 + 1 = nM r by omega]
      exact sgX9_greatest_17 _ _ (Nat.le_refl _) hW (ps_done e (k9_grant hW ⟨hW, hq _ _ (CS.tr _ _)⟩))
    · intro j hj ih
      refine sgX9_greatest_17 _ _ (Nat.le_refl _) hW (ps_br e (by omega) (by omega) (fun h => absurd hj (by omega)) (fun _ => ?_))
      rw [← nI_succ]
      simp only [s_gb] at ih
      have := s_gb_le (fun m => s_hd r st (st 12) m) j
      refine k9_headNow hW hF hM hv (by omega) ⟨hW, k9_headNow hW hF hM hv (by omega) ⟨hW, fun h2 => ?_, fun h2 => ?_⟩⟩
      · rw [if_pos h2] at ih; exact ih
      · rw [if_neg h2] at ih; exact ih
  · rw [if_pos h] at hq
    exact k9_refuse hW ⟨hW, hq _ _ (CS.tr _ _)⟩
theorem p10_greatest (hW : aw_WT n θ) (hv : VR (σ 123)) (hH : HR σ (σ 123)) (hq : ∀ σ', RS σ σ' (sp_greatest (σ 123) (σ 125)).2 → q (sp_greatest (σ 123) (σ 125)).1 n σ' τ θ) : SMi G 5 mX10_greatest 0 0 [.ref 120] n σ τ θ q := by
  unfold sp_greatest at hq
  have h5 := hv.m5
  refine ctX10_greatest (sgX10_greatest_0 (Nat.le_refl _) hW ?_)
  refine k10_good' hW (fun σ1 h1 => ⟨hW, ?_⟩)
  have h2 := h1.slot (s := 22) (x := 0) (by decide)
  have hb : (aw_u σ1 120 22 0) 120 22 = 0 := aw_u_eq
  generalize aw_u σ1 120 22 0 = σ2 at h2 hb ⊢
  rw [h2.has, hH.iff]
  refine ⟨fun h => ?_, fun h => ?_⟩
  · rw [if_neg h] at hq
    have e : σ2 123 4 = nI (nM (σ 123)) := by rw [h2.e3]; exact hv.m
    refine ps_up (N := nM (σ 123) - 1) (P := fun j => SW G 5 mX10_greatest (aw_qi q) 0 0 26 [some (.ref 120), some (.int (nI (s_gb (fun m => s_hd (σ 123) (σ 125) (σ 125 12) m) j))), some (.int (nI (j + 1)))] [] (n, σ2, τ, θ)) ?_ ?_ 0 (Nat.zero_le _)
    · rw [show nM (σ 123) - 1 + 1 = nM (σ 123) by omega]
      exact sgX10_greatest_26 _ _ (Nat.le_refl _) hW (ps_done e (hq _ h2))
    · intro j hj ih
      refine sgX10_greatest_26 _ _ (Nat.le_refl _) hW (ps_br e (by omega) (by omega) (fun h => absurd hj (by omega)) (fun _ => ?_))
      rw [← nI_succ]
      simp only [s_gb] at ih
      have := s_gb_le (fun m => s_hd (σ 123) (σ 125) (σ 125 12) m) j
      refine k10_head hW isA_st (h2.vr hv) hb (by omega) ⟨hW, k10_head hW isA_st (h2.vr hv) hb (by omega) ⟨hW, ?_⟩⟩
      rw [h2.e3, h2.e5]
      refine ⟨fun h3 => ?_, fun h3 => ?_⟩
      · rw [if_pos h3] at ih; exact ih
      · rw [if_neg h3] at ih; exact ih
  · rw [if_pos h] at hq
    exact k10_no hW ⟨hW, hq _ h2.no⟩
def sp_bald (r st : Nat → Int32) : Int32 × Int32 := if nM r = 0 then (-1, 1) else (s_bb r st (st 12) (nM r), 0)
theorem p9_bald (hW : aw_WT n θ) (hF : FR σ (θ 1 7) r) (hM : MR σ 6 st) (hv : VR r) (hq : ∀ σ' τ', CS σ σ' (sp_bald r st).2 → q (sp_bald r st).1 n σ' τ' θ) : SMi G 5 mX9_bald 0 0 [.ref 1] n σ τ θ q := by
  unfold sp_bald at hq
  have h5 := hv.m5
  have e : σ (θ 1 7) 13 = nI (nM r) := hF.1.2.2.2.2.1.trans hv.m
  refine ctX9_bald (sgX9_bald_0 (Nat.le_refl _) hW ?_)
  refine k9_noDuchy hW hF hv ⟨hW, ps_b (fun h => ?_) (fun h => ?_)⟩
  · rw [if_neg h] at hq
    refine ps_up (N := nM r) (P := fun j => SW G 5 mX9_bald (aw_qi q) 0 0 17 [some (.ref 1), some (.int (s_bb r st (st 12) j)), some (.int (nI j))] [] (n, σ, τ, θ)) ?_ ?_ 0 (Nat.zero_le _)
    · exact sgX9_bald_17 _ _ (Nat.le_refl _) hW (ps_done e (k9_grant hW ⟨hW, hq _ _ (CS.tr _ _)⟩))
    · intro j hj ih
      refine sgX9_bald_17 _ _ (Nat.le_refl _) hW (ps_br e (by omega) (by omega) (fun h => absurd hj (by omega)) (fun _ => ?_))
      rw [← nI_succ]
      simp only [s_bb] at ih
      refine k9_headNow hW hF hM hv (by omega) ⟨hW, fun h2 => ?_, fun h2 => ?_⟩
      · rw [if_neg h2, Int32.or_zero] at ih; exact ih
      · rw [if_pos h2] at ih; exact ih
  · rw [if_pos h] at hq
    exact k9_refuse hW ⟨hW, hq _ _ (CS.tr _ _)⟩
theorem p10_bald (hW : aw_WT n θ) (hv : VR (σ 123)) (hH : HR σ (σ 123)) (hq : ∀ σ', RS σ σ' (sp_bald (σ 123) (σ 125)).2 → q (sp_bald (σ 123) (σ 125)).1 n σ' τ θ) : SMi G 5 mX10_bald 0 0 [.ref 120] n σ τ θ q := by
  unfold sp_bald at hq
  have h5 := hv.m5
  refine ctX10_bald (sgX10_bald_0 (Nat.le_refl _) hW ?_)
  refine k10_good' hW (fun σ1 h1 => ⟨hW, ?_⟩)
  have h2 := h1.slot (s := 22) (x := 0) (by decide)
  have hb : (aw_u σ1 120 22 0) 120 22 = 0 := aw_u_eq
  generalize aw_u σ1 120 22 0 = σ2 at h2 hb ⊢
  rw [h2.has, hH.iff]
  refine ⟨fun h => ?_, fun h => ?_⟩
  · rw [if_neg h] at hq
    have e : σ2 123 4 = nI (nM (σ 123)) := by rw [h2.e3]; exact hv.m
    refine ps_up (N := nM (σ 123)) (P := fun j => SW G 5 mX10_bald (aw_qi q) 0 0 26 [some (.ref 120), some (.int (s_bb (σ 123) (σ 125) (σ 125 12) j)), some (.int (nI j))] [] (n, σ2, τ, θ)) ?_ ?_ 0 (Nat.zero_le _)
    · exact sgX10_bald_26 _ _ (Nat.le_refl _) hW (ps_done e (hq _ h2))
    · intro j hj ih
      refine sgX10_bald_26 _ _ (Nat.le_refl _) hW (ps_br e (by omega) (by omega) (fun h => absurd hj (by omega)) (fun _ => ?_))
      rw [← nI_succ]
      simp only [s_bb] at ih
      refine k10_head hW isA_st (h2.vr hv) hb (by omega) ⟨hW, ?_⟩
      rw [h2.e3, h2.e5]
      refine ⟨fun h3 => ?_, fun h3 => ?_⟩
      · rw [if_neg h3] at ih; exact ih
      · rw [if_pos h3] at ih; exact ih
  · rw [if_pos h] at hq
    exact k10_no hW ⟨hW, hq _ h2.no⟩
/-! looking ahead -/
theorem k10_goOver {σ0 : SG} {w x : Int32} (hW : aw_WT n θ) (hS : RS σ0 σ w) (hq : ∀ σ', RS σ0 σ' w → σ' 120 22 = 0 → (∀ k, k < 12 → σ' 128 k = σ0 125 k) → σ' 128 12 = σ0 125 12 + x → qv n σ' τ θ) : SMv G 2 mX10_goOver 0 0 [.ref 120, .int x] n σ τ θ qv := by
  refine ctX10_goOver x (sgX10_goOver_0 x (Nat.le_refl _) hW ?_)
  refine k10_copy (i := 0) (j := 0) (m := 13) hW isA_st isA_trial (by decide) (by decide) (by decide) (by decide) (by decide) ⟨hW, ?_⟩
  have h1 := hS.slot (s := 22) (x := 0) (by decide)
  have hb : (aw_u σ 120 22 0) 120 22 = 0 := aw_u_eq
  generalize aw_u σ 120 22 0 = σ1 at h1 hb ⊢
  refine hq _ (h1.obj (fun o ho => (aw_uo (by omega)).trans (funext fun k => s_cp_out (by omega)))) ?_ ?_ ?_
  · rw [aw_uo (by decide), s_cp_out (by decide)]; exact hb
  · intro k hk
    rw [aw_u_nk (by omega), s_cp_in (by omega) (by omega), h1.e5]
    congr 1
    omega
  · rw [aw_u_eq, s_cp_in (by omega) (by omega), h1.e5]
theorem k10_why {c d : Prop} [Decidable c] [Decidable d] (hW : aw_WT n θ) (hq : q (if c then (if d then 0 else 2) else 1) n σ τ θ) : SMi G 1 mX10_why 0 0 [.ref 120, .int (if c then 1 else 0), .int (if d then 1 else 0)] n σ τ θ q := by
  refine ctX10_why _ _ (sgX10_why_0 _ _ (Nat.le_refl _) hW ⟨fun h => ⟨fun h2 => ?_, fun h2 => ?_⟩, fun h => ?_⟩)
  · by_cases hc : c
    · by_cases hd : d
      · rw [if_pos hd] at h2; exact absurd h2 (by decide)
      · rwa [if_pos hc, if_neg hd] at hq
    · rw [if_neg hc] at h; exact absurd rfl h
  · by_cases hc : c
    · by_cases hd : d
      · rwa [if_pos hc, if_pos hd] at hq
      · rw [if_neg hd] at h2; exact absurd rfl h2
    · rw [if_neg hc] at h; exact absurd rfl h
  · by_cases hc : c
    · rw [if_pos hc] at h; exact absurd h (by decide)
    · rwa [if_neg hc] at hq
def sp_headIn (r st : Nat → Int32) (x y : Int32) : Int32 × Int32 := if s_in x (nM r) = true then (if ¬ y < 0 ∧ ¬ 20 < y then (s_hd r st (st 12 + y) x.toNatClampNeg, 0) else (-1, 2)) else (-1, 1)
theorem p9_headIn {x y : Int32} (hW : aw_WT n θ) (hF : FR σ (θ 1 7) r) (hM : MR σ 6 st) (hv : VR r) (hq : ∀ σ' τ', CS σ σ' (sp_headIn r st x y).2 → q (sp_headIn r st x y).1 n σ' τ' θ) : SMi G 4 mX9_headIn 0 0 [.ref 1, .int x, .int y] n σ τ θ q := by
  unfold sp_headIn at hq
  have h5 := hv.m5
  refine ctX9_headIn x y (sgX9_headIn_0 x y (Nat.le_refl _) hW ?_)
  refine k9_isMan hW hF hv ⟨hW, And.symm (ps_b (fun h => ?_) (fun h => ⟨fun h2 => ?_, fun h2 => ⟨fun h3 => ?_, fun h3 => ?_⟩⟩))⟩
  · rw [if_neg h] at hq
    exact k9_refuse hW ⟨hW, hq _ _ (CS.tr _ _)⟩
  · rw [if_pos h, if_neg (fun e => e.1 h2)] at hq
    exact k9_refuse hW ⟨hW, hq _ _ (CS.tr _ _)⟩
  · rw [if_pos h, if_pos ⟨h2, Int32.not_lt.mpr h3⟩] at hq
    obtain ⟨m, hm, rfl⟩ := (s_in_iff (by omega)).mp h
    rw [ps_cl (by omega)] at hq
    rw [hM.2.2]
    exact k1_headOf hW.f isM_now hW hF hM hv hm ⟨hW, k9_grant hW ⟨hW, hq _ _ (CS.tr _ _)⟩⟩
  · rw [if_pos h, if_neg (fun e => h3 (Int32.not_lt.mp e.2))] at hq
    exact k9_refuse hW ⟨hW, hq _ _ (CS.tr _ _)⟩
theorem p10_headIn {x y : Int32} (hW : aw_WT n θ) (hv : VR (σ 123)) (hH : HR σ (σ 123)) (hq : ∀ σ', RS σ σ' (sp_headIn (σ 123) (σ 125) x y).2 → q (sp_headIn (σ 123) (σ 125) x y).1 n σ' τ θ) : SMi G 5 mX10_headIn 0 0 [.ref 120, .int x, .int y] n σ τ θ q := by
  unfold sp_headIn at hq
  have h5 := hv.m5
  refine ctX10_headIn x y (sgX10_headIn_0 x y (Nat.le_refl _) hW ?_)
  refine k10_good' hW (fun σ1 h1 => ⟨hW, k10_isMan hW (h1.vr hv) (h1.hr hH) ⟨hW, k10_in hW ⟨hW, k10_why hW ⟨hW, ?_⟩⟩⟩⟩)
  rw [h1.e3]
  by_cases h : s_in x (nM (σ 123)) = true
  · by_cases h2 : ¬ y < 0 ∧ ¬ 20 < y
    · simp only [if_pos h, if_pos h2] at hq ⊢
      refine ⟨fun _ => ?_, fun e => absurd trivial e⟩
      refine k10_goOver hW h1 (fun σ2 h2 hb hk ht => ⟨hW, ?_⟩)
      obtain ⟨m, hm, rfl⟩ := (s_in_iff (by omega)).mp h
      refine k10_head hW isA_trial (h2.vr hv) hb (by omega) ⟨hW, ?_⟩
      rw [h2.e3, ht, s_hd_c hv (fun k hk' => hk k (by omega))]
      rw [ps_cl (by omega)] at hq
      exact hq _ h2
    · simp only [if_pos h, if_neg h2] at hq ⊢
      exact ⟨fun e => absurd e (by decide), fun _ => k10_no hW ⟨hW, hq _ h1.no⟩⟩
  · simp only [if_neg h] at hq ⊢
    exact ⟨fun e => absurd e (by decide), fun _ => k10_no hW ⟨hW, hq _ h1.no⟩⟩
theorem k9_springsUntil {m : Nat} {y : Int32} (hW : aw_WT n θ) (hF : FR σ (θ 1 7) r) (hM : MR σ 6 st) (hv : VR r) (hm : m < nM r) (hq : q (s_until (fun i => decide (y ≤ s_hd r st (st 12 + nI i) m)) 0 21) n σ τ θ) : SMi G 4 mX9_springsUntil 0 0 [.ref 1, .int (nI m), .int y] n σ τ θ q := by
  refine ctX9_springsUntil (nI m) y (sgX9_springsUntil_0 (nI m) y (Nat.le_refl _) hW ?_)
  have key : ∀ d j, j + d = 21 → q (s_until (fun i => decide (y ≤ s_hd r st (st 12 + nI i) m)) j d) n σ τ θ → SW G 4 mX9_springsUntil (aw_qi q) 0 0 2 [some (.ref 1), some (.int (nI m)), some (.int y), some (.int (nI j))] [] (n, σ, τ, θ) := by
    intro d
    induction d with
    | zero =>
      intro j hj hq
      exact sgX9_springsUntil_2 _ _ _ (Nat.le_refl _) hW (ps_20 (by omega) (fun _ => hq) (fun h => absurd h (by omega)))
    | succ d ih =>
      intro j hj hq
      refine sgX9_springsUntil_2 _ _ _ (Nat.le_refl _) hW (ps_20 (by omega) (fun h => absurd h (by omega)) (fun _ => ?_))
      rw [hM.2.2, ← nI_succ]
      simp only [s_until, decide_eq_true_eq] at hq
      refine k1_headOf hW.f isM_now hW hF hM hv hm ⟨hW, fun h => ?_, fun h => ?_⟩
      · rw [if_neg (Int32.not_le.mpr h)] at hq
        exact ih (j + 1) (by omega) hq
      · rw [if_pos (Int32.not_lt.mp h)] at hq
        exact hq
  exact key 21 0 rfl hq
def sp_when (r st : Nat → Int32) (x y : Int32) : Int32 × Int32 := if s_in x (nM r) = true then (if ¬ y < 0 ∧ ¬ 99 < y then (s_until (fun i => decide (y ≤ s_hd r st (st 12 + nI i) x.toNatClampNeg)) 0 21, 0) else (-1, 2)) else (-1, 1)
theorem p9_when {x y : Int32} (hW : aw_WT n θ) (hF : FR σ (θ 1 7) r) (hM : MR σ 6 st) (hv : VR r) (hq : ∀ σ' τ', CS σ σ' (sp_when r st x y).2 → q (sp_when r st x y).1 n σ' τ' θ) : SMi G 5 mX9_when 0 0 [.ref 1, .int x, .int y] n σ τ θ q := by
  unfold sp_when at hq
  have h5 := hv.m5
  refine ctX9_when x y (sgX9_when_0 x y (Nat.le_refl _) hW ?_)
  refine k9_isMan hW hF hv ⟨hW, And.symm (ps_b (fun h => ?_) (fun h => ⟨fun h2 => ?_, fun h2 => ⟨fun h3 => ?_, fun h3 => ?_⟩⟩))⟩
  · rw [if_neg h] at hq
    exact k9_refuse hW ⟨hW, hq _ _ (CS.tr _ _)⟩
  · rw [if_pos h, if_neg (fun e => e.1 h2)] at hq
    exact k9_refuse hW ⟨hW, hq _ _ (CS.tr _ _)⟩
  · rw [if_pos h, if_pos ⟨h2, Int32.not_lt.mpr h3⟩] at hq
    obtain ⟨m, hm, rfl⟩ := (s_in_iff (by omega)).mp h
    rw [ps_cl (by omega)] at hq
    exact k9_springsUntil hW hF hM hv hm ⟨hW, k9_grant hW ⟨hW, hq _ _ (CS.tr _ _)⟩⟩
  · rw [if_pos h, if_neg (fun e => h3 (Int32.not_lt.mp e.2))] at hq
    exact k9_refuse hW ⟨hW, hq _ _ (CS.tr _ _)⟩
theorem p10_when {x y : Int32} (hW : aw_WT n θ) (hv : VR (σ 123)) (hH : HR σ (σ 123)) (hq : ∀ σ', RS σ σ' (sp_when (σ 123) (σ 125) x y).2 → q (sp_when (σ 123) (σ 125) x y).1 n σ' τ θ) : SMi G 5 mX10_when 0 0 [.ref 120, .int x, .int y] n σ τ θ q := by
  unfold sp_when at hq
  have h5 := hv.m5
  refine ctX10_when x y (sgX10_when_0 x y (Nat.le_refl _) hW ?_)
  refine k10_good' hW (fun σ1 h1 => ⟨hW, k10_isMan hW (h1.vr hv) (h1.hr hH) ⟨hW, k10_in hW ⟨hW, k10_why hW ⟨hW, ?_⟩⟩⟩⟩)
  rw [h1.e3]
  by_cases h : s_in x (nM (σ 123)) = true
  · by_cases h2 : ¬ y < 0 ∧ ¬ 99 < y
    · simp only [if_pos h, if_pos h2] at hq ⊢
      refine ⟨fun _ => ?_, fun e => absurd trivial e⟩
      obtain ⟨m, hm, rfl⟩ := (s_in_iff (by omega)).mp h
      rw [ps_cl (by omega)] at hq
      have key : ∀ d j, j + d = 21 → (∀ σ', RS σ σ' 0 → q (s_until (fun i => decide (y ≤ s_hd (σ 123) (σ 125) (σ 125 12 + nI i) m)) j d) n σ' τ θ) → ∀ σ2, RS σ σ2 0 → SW G 5 mX10_when (aw_qi q) 0 0 34 [some (.ref 120), some (.int (nI m)), some (.int y), none, some (.int (nI j))] [] (n, σ2, τ, θ) := by
        intro d
        induction d with
        | zero =>
          intro j hj hq σ2 h2
          exact sgX10_when_34 _ _ _ (Nat.le_refl _) hW (ps_20 (by omega) (fun _ => hq _ h2) (fun h => absurd h (by omega)))
        | succ d ih =>
          intro j hj hq σ2 h2
          refine sgX10_when_34 _ _ _ (Nat.le_refl _) hW (ps_20 (by omega) (fun h => absurd h (by omega)) (fun _ => ?_))
          rw [← nI_succ]
          refine k10_goOver hW h2 (fun σ3 h3 hb hk ht => ⟨hW, ?_⟩)
          refine k10_head hW isA_trial (h3.vr hv) hb (by omega) ⟨hW, ?_⟩
          rw [h3.e3, ht, s_hd_c hv (fun k hk' => hk k (by omega))]
          simp only [s_until, decide_eq_true_eq] at hq
          refine ⟨fun h => ?_, fun h => ?_⟩
          · refine ih (j + 1) (by omega) (fun σ' hs => ?_) σ3 h3
            have := hq σ' hs
            rwa [if_neg (Int32.not_le.mpr h)] at this
          · have := hq σ3 h3
            rwa [if_pos (Int32.not_lt.mp h)] at this
      exact key 21 0 rfl hq σ1 h1
    · simp only [if_pos h, if_neg h2] at hq ⊢
      exact ⟨fun e => absurd e (by decide), fun _ => k10_no hW ⟨hW, hq _ h1.no⟩⟩
  · simp only [if_neg h] at hq ⊢
    exact ⟨fun e => absurd e (by decide), fun _ => k10_no hW ⟨hW, hq _ h1.no⟩⟩
end Pub2
