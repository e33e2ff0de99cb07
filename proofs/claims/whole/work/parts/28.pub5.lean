/-! ===== fifth group: man, debt, door, size .. ===== -/
section Pub5
variable {G : GG} {n : Nat} {σ : SG} {τ : TU} {θ : TH} {f t : Nat} {r st row : Nat → Int32} {q : Int32 → Nat → SG → TU → TH → Prop} {qv : Nat → SG → TU → TH → Prop} {ql : Int64 → Nat → SG → TU → TH → Prop}
def s_fm (r st : Nat → Int32) (m j : Nat) : Int32 := match j with
  | 0 => r (10 + 3 * m)
  | 1 => st (7 + m)
  | 2 => r (12 + 3 * m)
  | 3 => s_hd r st (st 12) m
  | 4 => s_db r st (st 12) (nI m) (nD r)
  | 5 => s_lf r st (st 12) (nI m) (-1) (nD r)
  | 6 => s_ot r st (st 12) (nI m) (nD r)
  | _ => s_ob r st (st 12) (nI m) (nD r)
theorem k9_factOfMan {m j : Nat} (hW : aw_WT n θ) (hF : FR σ (θ 1 7) r) (hM : MR σ 6 st) (hv : VR r) (hm : m < nM r) (hj : j < 8) (hq : q (s_fm r st m j) n σ τ θ) : SMi G 5 mX9_factOfMan 0 0 [.ref 1, .int (nI m), .int (nI j)] n σ τ θ q := by
  have h5 := hv.m5
  refine ctX9_factOfMan _ _ (sgX9_factOfMan_0 _ _ (Nat.le_refl _) hW ?_)
  rw [ps_cl (by omega), hM.2.2, (hF.2.1 m hm).1, (hF.2.1 m hm).2.2.1, show σ 7 m = st (7 + m) from hM.1 m (by omega)]
  rcases (show j = 0 ∨ j = 1 ∨ j = 2 ∨ j = 3 ∨ j = 4 ∨ j = 5 ∨ j = 6 ∨ j = 7 by omega) with rfl | rfl | rfl | rfl | rfl | rfl | rfl | rfl
  · exact ⟨fun h => absurd h (by decide), fun _ => ⟨ps_in (by omega) (by decide), hq⟩, fun h => absurd h (by decide), fun h => absurd h (by decide), fun h => absurd h (by decide), fun h => absurd h (by decide), fun h => absurd h (by decide), fun h => absurd h (by decide)⟩
  · exact ⟨fun h => absurd h (by decide), fun h => absurd h (by decide), fun _ => ⟨ps_in (by omega) (by decide), hq⟩, fun h => absurd h (by decide), fun h => absurd h (by decide), fun h => absurd h (by decide), fun h => absurd h (by decide), fun h => absurd h (by decide)⟩
  · exact ⟨fun h => absurd h (by decide), fun h => absurd h (by decide), fun h => absurd h (by decide), fun _ => ⟨ps_in (by omega) (by decide), hq⟩, fun h => absurd h (by decide), fun h => absurd h (by decide), fun h => absurd h (by decide), fun h => absurd h (by decide)⟩
  · exact ⟨fun h => absurd h (by decide), fun h => absurd h (by decide), fun h => absurd h (by decide), fun h => absurd h (by decide), fun _ => k9_headNow hW hF hM hv hm ⟨hW, hq⟩, fun h => absurd h (by decide), fun h => absurd h (by decide), fun h => absurd h (by decide)⟩
  · exact ⟨fun h => absurd h (by decide), fun h => absurd h (by decide), fun h => absurd h (by decide), fun h => absurd h (by decide), fun h => absurd h (by decide), fun _ => k1_burdenOf hW.f isM_now hW hF hM hv ⟨hW, hq⟩, fun h => absurd h (by decide), fun h => absurd h (by decide)⟩
  · exact ⟨fun h => absurd h (by decide), fun h => absurd h (by decide), fun h => absurd h (by decide), fun h => absurd h (by decide), fun h => absurd h (by decide), fun h => absurd h (by decide), fun _ => k1_dueFrom hW.f isM_now hW hF hM hv ⟨hW, hq⟩, fun h => absurd h (by decide)⟩
  · exact ⟨fun h => absurd h (by decide), fun h => absurd h (by decide), fun h => absurd h (by decide), fun h => absurd h (by decide), fun h => absurd h (by decide), fun h => absurd h (by decide), fun h => absurd h (by decide), fun _ => k1_dueTo hW.f isM_now hW hF hM hv ⟨hW, hq⟩⟩
  · exact ⟨fun _ => k1_owedBits hW.f isM_now hW hF hM hv ⟨hW, hq⟩, fun h => absurd h (by decide), fun h => absurd h (by decide), fun h => absurd h (by decide), fun h => absurd h (by decide), fun h => absurd h (by decide), fun h => absurd h (by decide), fun h => absurd h (by decide)⟩
def sp_man (r st : Nat → Int32) (x y : Int32) : Int32 × Int32 := if s_in x (nM r) = true ∧ s_in y 8 = true then (s_fm r st x.toNatClampNeg y.toNatClampNeg, 0) else (-1, 1)
theorem p9_man {x y : Int32} (hW : aw_WT n θ) (hF : FR σ (θ 1 7) r) (hM : MR σ 6 st) (hv : VR r) (hq : ∀ σ' τ', CS σ σ' (sp_man r st x y).2 → q (sp_man r st x y).1 n σ' τ' θ) : SMi G 6 mX9_man 0 0 [.ref 1, .int x, .int y] n σ τ θ q := by
  unfold sp_man at hq
  have h5 := hv.m5
  refine ctX9_man _ _ (sgX9_man_0 _ _ (Nat.le_refl _) hW ?_)
  refine k9_isMan hW hF hv ⟨hW, ps_b (fun h => ?_) (fun h => ⟨fun h2 => ?_, fun h2 => ⟨fun h3 => ?_, fun h3 => ?_⟩⟩)⟩
  · rw [if_neg (fun e => h e.1)] at hq
    exact k9_refuse hW ⟨hW, hq _ _ (CS.tr _ _)⟩
  · rw [if_neg (fun e => ((s_in_lt (c := 8) (by decide) rfl).mpr e.2).1 h2)] at hq
    exact k9_refuse hW ⟨hW, hq _ _ (CS.tr _ _)⟩
  · have h8 : s_in y 8 = true := (s_in_pred (by decide) (by decide)).mp ⟨h2, Int32.not_lt.mpr h3⟩
    rw [if_pos ⟨h, h8⟩] at hq
    obtain ⟨m, hm, rfl⟩ := (s_in_iff (by omega)).mp h
    obtain ⟨j, hj, rfl⟩ := (s_in_iff (by omega)).mp h8
    rw [ps_cl (by omega), ps_cl (by omega)] at hq
    exact k9_factOfMan hW hF hM hv hm hj ⟨hW, k9_grant hW ⟨hW, hq _ _ (CS.tr _ _)⟩⟩
  · rw [if_neg (fun e => h3 (Int32.not_lt.mp ((s_in_pred (N := 8) (by decide) (by decide)).mpr e.2).2))] at hq
    exact k9_refuse hW ⟨hW, hq _ _ (CS.tr _ _)⟩
theorem p10_man {x y : Int32} (hW : aw_WT n θ) (hv : VR (σ 123)) (hH : HR σ (σ 123)) (hq : ∀ σ', RS σ σ' (sp_man (σ 123) (σ 125) x y).2 → q (sp_man (σ 123) (σ 125) x y).1 n σ' τ θ) : SMi G 5 mX10_man 0 0 [.ref 120, .int x, .int y] n σ τ θ q := by
  unfold sp_man at hq
  have h5 := hv.m5
  refine ctX10_man _ _ (sgX10_man_0 _ _ (Nat.le_refl _) hW ?_)
  refine k10_good' hW (fun σ1 h1 => ⟨hW, ?_⟩)
  have h2 := h1.slot (s := 22) (x := 0) (by decide)
  have hb : (aw_u σ1 120 22 0) 120 22 = 0 := aw_u_eq
  generalize aw_u σ1 120 22 0 = σ2 at h2 hb ⊢
  refine k10_isMan hW (h2.vr hv) (h2.hr hH) ⟨hW, ?_⟩
  rw [h2.e3]
  refine ps_b (fun h => ?_) (fun h => k10_in hW ⟨hW, And.symm (ps_b (fun h3 => ?_) (fun h3 => ?_))⟩)
  · rw [if_neg (fun e => h e.1)] at hq
    exact k10_no hW ⟨hW, hq _ h2.no⟩
  · rw [if_neg (fun e => h3 ((s_in_pred (N := 8) (by decide) (by decide)).mpr e.2))] at hq
    exact k10_no hW ⟨hW, hq _ h2.no⟩
  · have h8 : s_in y 8 = true := (s_in_pred (by decide) (by decide)).mp h3
    rw [if_pos ⟨h, h8⟩] at hq
    obtain ⟨m, hm, rfl⟩ := (s_in_iff (by omega)).mp h
    obtain ⟨j, hj, rfl⟩ := (s_in_iff (by omega)).mp h8
    rw [ps_cl (by omega), ps_cl (by omega)] at hq
    rw [ix12, show (7 : Int32) + nI m = nI (7 + m) from nI_add 7 m, ps_cl (by omega), ps_cl (by omega), h2.e3, h2.e5]
    have hv2 := h2.vr hv
    have hq := hq _ h2
    rw [← h2.e3, ← h2.e5] at hq ⊢
    rcases (show j = 0 ∨ j = 1 ∨ j = 2 ∨ j = 3 ∨ j = 4 ∨ j = 5 ∨ j = 6 ∨ j = 7 by omega) with rfl | rfl | rfl | rfl | rfl | rfl | rfl | rfl
    · exact ⟨fun h => absurd h (by decide), fun _ => k10_kindOf hW (by omega) ⟨hW, hq⟩, fun h => absurd h (by decide), fun h => absurd h (by decide), fun h => absurd h (by decide), fun h => absurd h (by decide), fun h => absurd h (by decide), fun h => absurd h (by decide)⟩
    · exact ⟨fun h => absurd h (by decide), fun h => absurd h (by decide), fun _ => ⟨ps_in (by omega) (by decide), hq⟩, fun h => absurd h (by decide), fun h => absurd h (by decide), fun h => absurd h (by decide), fun h => absurd h (by decide), fun h => absurd h (by decide)⟩
    · exact ⟨fun h => absurd h (by decide), fun h => absurd h (by decide), fun h => absurd h (by decide), fun _ => ⟨ps_in (by omega) (by decide), hq⟩, fun h => absurd h (by decide), fun h => absurd h (by decide), fun h => absurd h (by decide), fun h => absurd h (by decide)⟩
    · exact ⟨fun h => absurd h (by decide), fun h => absurd h (by decide), fun h => absurd h (by decide), fun h => absurd h (by decide), fun _ => k10_head hW isA_st hv2 hb (by omega) ⟨hW, hq⟩, fun h => absurd h (by decide), fun h => absurd h (by decide), fun h => absurd h (by decide)⟩
    · exact ⟨fun h => absurd h (by decide), fun h => absurd h (by decide), fun h => absurd h (by decide), fun h => absurd h (by decide), fun h => absurd h (by decide), fun _ => k10_burdenOf hW isA_st hv2 ⟨hW, by rw [hb, s_ub0 _ _ _ _ _ (by have := hv2.u4; omega)]; exact hq⟩, fun h => absurd h (by decide), fun h => absurd h (by decide)⟩
    · exact ⟨fun h => absurd h (by decide), fun h => absurd h (by decide), fun h => absurd h (by decide), fun h => absurd h (by decide), fun h => absurd h (by decide), fun h => absurd h (by decide), fun _ => k10_leftFrom hW hv2 ⟨hW, hq⟩, fun h => absurd h (by decide)⟩
    · exact ⟨fun h => absurd h (by decide), fun h => absurd h (by decide), fun h => absurd h (by decide), fun h => absurd h (by decide), fun h => absurd h (by decide), fun h => absurd h (by decide), fun h => absurd h (by decide), fun _ => k10_owedTo hW hv2 ⟨hW, hq⟩⟩
    · exact ⟨fun _ => k10_creditors hW hv2 ⟨hW, hq⟩, fun h => absurd h (by decide), fun h => absurd h (by decide), fun h => absurd h (by decide), fun h => absurd h (by decide), fun h => absurd h (by decide), fun h => absurd h (by decide), fun h => absurd h (by decide)⟩
def s_fd (r st : Nat → Int32) (k j : Nat) : Int32 := match j with
  | 0 => r (25 + 4 * k)
  | 1 => r (26 + 4 * k)
  | 2 => st k
  | 3 => r (28 + 4 * k)
  | 4 => if s_due r st (st 12) k = true then 1 else 0
  | _ => if s_due r st (st 12) k = true then s_up (st k) (r 0) else 0
theorem k1_tinesOf {s : Int32} {j : Nat} (hf : isF f) (ht : isM t) (hW : aw_WT n θ) (hF : FR σ f r) (hM : MR σ t row) (hv : VR r) (hj : j < nD r) (hq : q (if s_due r row s j = true then s_up (row j) (r 0) else 0) n σ τ θ) : SMi G 2 mX1_tinesOf 0 0 [.ref f, .ref t, .int (nI j), .int s] n σ τ θ q := by
  have h7 := hv.d7
  refine ctX1_tinesOf f t _ _ (sgX1_tinesOf_0 f t _ _ (Nat.le_refl _) hf ht hW ?_)
  refine k1_isDue hf ht hW hF hM hv hj ⟨hW, ps_b (fun h => ?_) (fun h => ?_)⟩
  · rwa [if_neg h] at hq
  · rw [if_pos h] at hq
    rw [ps_cl (by omega), hM.2.1 j (by omega)]
    exact ⟨ps_in (by omega) (by decide), k1_tinesFor hf hW hF (s_due_iff.mp h).2 (hv.tp (hv.mD hj)) ⟨hW, hq⟩⟩
theorem k9_factOfDebt {k j : Nat} (hW : aw_WT n θ) (hF : FR σ (θ 1 7) r) (hM : MR σ 6 st) (hv : VR r) (hk : k < nD r) (hj : j < 6) (hq : q (s_fd r st k j) n σ τ θ) : SMi G 3 mX9_factOfDebt 0 0 [.ref 1, .int (nI k), .int (nI j)] n σ τ θ q := by
  have h7 := hv.d7
  refine ctX9_factOfDebt _ _ (sgX9_factOfDebt_0 _ _ (Nat.le_refl _) hW ?_)
  rw [ps_cl (by omega), hM.2.2, (hF.2.2.2.2.1 k hk).1, (hF.2.2.2.2.1 k hk).2.1, (hF.2.2.2.2.1 k hk).2.2.2, show σ 8 k = st k from hM.2.1 k (by omega)]
  rcases (show j = 0 ∨ j = 1 ∨ j = 2 ∨ j = 3 ∨ j = 4 ∨ j = 5 by omega) with rfl | rfl | rfl | rfl | rfl | rfl
  · exact ⟨fun h => absurd h (by decide), fun _ => ⟨ps_in (by omega) (by decide), hq⟩, fun h => absurd h (by decide), fun h => absurd h (by decide), fun h => absurd h (by decide), fun h => absurd h (by decide)⟩
  · exact ⟨fun h => absurd h (by decide), fun h => absurd h (by decide), fun _ => ⟨ps_in (by omega) (by decide), hq⟩, fun h => absurd h (by decide), fun h => absurd h (by decide), fun h => absurd h (by decide)⟩
  · exact ⟨fun h => absurd h (by decide), fun h => absurd h (by decide), fun h => absurd h (by decide), fun _ => ⟨ps_in (by omega) (by decide), hq⟩, fun h => absurd h (by decide), fun h => absurd h (by decide)⟩
  · exact ⟨fun h => absurd h (by decide), fun h => absurd h (by decide), fun h => absurd h (by decide), fun h => absurd h (by decide), fun _ => ⟨ps_in (by omega) (by decide), hq⟩, fun h => absurd h (by decide)⟩
  · exact ⟨fun h => absurd h (by decide), fun h => absurd h (by decide), fun h => absurd h (by decide), fun h => absurd h (by decide), fun h => absurd h (by decide), fun _ => k1_isDue hW.f isM_now hW hF hM hv hk ⟨hW, ps_b (fun h => by simp only [s_fd, if_neg h] at hq; exact hq) (fun h => by simp only [s_fd, if_pos h] at hq; exact hq)⟩⟩
  · exact ⟨fun _ => k1_tinesOf hW.f isM_now hW hF hM hv hk ⟨hW, hq⟩, fun h => absurd h (by decide), fun h => absurd h (by decide), fun h => absurd h (by decide), fun h => absurd h (by decide), fun h => absurd h (by decide)⟩
def sp_debt (r st : Nat → Int32) (x y : Int32) : Int32 × Int32 := if s_in x (nD r) = true ∧ s_in y 6 = true then (s_fd r st x.toNatClampNeg y.toNatClampNeg, 0) else (-1, 1)
theorem p9_debt {x y : Int32} (hW : aw_WT n θ) (hF : FR σ (θ 1 7) r) (hM : MR σ 6 st) (hv : VR r) (hq : ∀ σ' τ', CS σ σ' (sp_debt r st x y).2 → q (sp_debt r st x y).1 n σ' τ' θ) : SMi G 4 mX9_debt 0 0 [.ref 1, .int x, .int y] n σ τ θ q := by
  unfold sp_debt at hq
  have h7 := hv.d7
  refine ctX9_debt _ _ (sgX9_debt_0 _ _ (Nat.le_refl _) hW ?_)
  refine k9_isDebt hW hF hv ⟨hW, ps_b (fun h => ?_) (fun h => ⟨fun h2 => ?_, fun h2 => ⟨fun h3 => ?_, fun h3 => ?_⟩⟩)⟩
  · rw [if_neg (fun e => h e.1)] at hq
    exact k9_refuse hW ⟨hW, hq _ _ (CS.tr _ _)⟩
  · rw [if_neg (fun e => ((s_in_lt (c := 6) (by decide) rfl).mpr e.2).1 h2)] at hq
    exact k9_refuse hW ⟨hW, hq _ _ (CS.tr _ _)⟩
  · have h8 : s_in y 6 = true := (s_in_pred (by decide) (by decide)).mp ⟨h2, Int32.not_lt.mpr h3⟩
    rw [if_pos ⟨h, h8⟩] at hq
    obtain ⟨m, hm, rfl⟩ := (s_in_iff (by omega)).mp h
    obtain ⟨j, hj, rfl⟩ := (s_in_iff (by omega)).mp h8
    rw [ps_cl (by omega), ps_cl (by omega)] at hq
    exact k9_factOfDebt hW hF hM hv hm hj ⟨hW, k9_grant hW ⟨hW, hq _ _ (CS.tr _ _)⟩⟩
  · rw [if_neg (fun e => h3 (Int32.not_lt.mp ((s_in_pred (N := 6) (by decide) (by decide)).mpr e.2).2))] at hq
    exact k9_refuse hW ⟨hW, hq _ _ (CS.tr _ _)⟩
theorem p10_debt {x y : Int32} (hW : aw_WT n θ) (hv : VR (σ 123)) (hH : HR σ (σ 123)) (hq : ∀ σ', RS σ σ' (sp_debt (σ 123) (σ 125) x y).2 → q (sp_debt (σ 123) (σ 125) x y).1 n σ' τ θ) : SMi G 3 mX10_debt 0 0 [.ref 120, .int x, .int y] n σ τ θ q := by
  unfold sp_debt at hq
  have h7 := hv.d7
  refine ctX10_debt _ _ (sgX10_debt_0 _ _ (Nat.le_refl _) hW ?_)
  refine k10_good' hW (fun σ2 h2 => ⟨hW, ?_⟩)
  refine k10_isDebt hW (h2.vr hv) (h2.hr hH) ⟨hW, ?_⟩
  rw [h2.e3]
  refine ps_b (fun h => ?_) (fun h => k10_in hW ⟨hW, And.symm (ps_b (fun h3 => ?_) (fun h3 => ?_))⟩)
  · rw [if_neg (fun e => h e.1)] at hq
    exact k10_no hW ⟨hW, hq _ h2.no⟩
  · rw [if_neg (fun e => h3 ((s_in_pred (N := 6) (by decide) (by decide)).mpr e.2))] at hq
    exact k10_no hW ⟨hW, hq _ h2.no⟩
  · have h8 : s_in y 6 = true := (s_in_pred (by decide) (by decide)).mp h3
    rw [if_pos ⟨h, h8⟩] at hq
    obtain ⟨m, hm, rfl⟩ := (s_in_iff (by omega)).mp h
    obtain ⟨j, hj, rfl⟩ := (s_in_iff (by omega)).mp h8
    rw [ps_cl (by omega), ps_cl (by omega)] at hq
    rw [ix26, ix28, ix25, ps_cl (by omega), ps_cl (by omega), ps_cl (by omega), ps_cl (by omega)]
    have hp : ¬ σ 123 0 = 0 := hv.pos (hv.mD hm)
    have hq := hq _ h2
    rw [← h2.e3] at hp
    rw [← h2.e3, ← h2.e5] at hq
    rcases (show j = 0 ∨ j = 1 ∨ j = 2 ∨ j = 3 ∨ j = 4 ∨ j = 5 by omega) with rfl | rfl | rfl | rfl | rfl | rfl
    · exact ⟨fun h => absurd h (by decide), fun _ => ⟨ps_in (by omega) (by decide), hq⟩, fun h => absurd h (by decide), fun h => absurd h (by decide), fun h => absurd h (by decide), fun h => absurd h (by decide)⟩
    · exact ⟨fun h => absurd h (by decide), fun h => absurd h (by decide), fun _ => ⟨ps_in (by omega) (by decide), hq⟩, fun h => absurd h (by decide), fun h => absurd h (by decide), fun h => absurd h (by decide)⟩
    · exact ⟨fun h => absurd h (by decide), fun h => absurd h (by decide), fun h => absurd h (by decide), fun _ => ⟨ps_in (by omega) (by decide), hq⟩, fun h => absurd h (by decide), fun h => absurd h (by decide)⟩
    · exact ⟨fun h => absurd h (by decide), fun h => absurd h (by decide), fun h => absurd h (by decide), fun h => absurd h (by decide), fun _ => ⟨ps_in (by omega) (by decide), hq⟩, fun h => absurd h (by decide)⟩
    · exact ⟨fun h => absurd h (by decide), fun h => absurd h (by decide), fun h => absurd h (by decide), fun h => absurd h (by decide), fun h => absurd h (by decide), fun _ => k10_isDue hW isA_st (by omega) ⟨hW, ps_b (fun h => by simp only [s_fd, if_neg h] at hq; exact hq) (fun h => by simp only [s_fd, if_pos h] at hq; exact hq)⟩⟩
    · exact ⟨fun _ => k10_isDue hW isA_st (by omega) ⟨hW, ps_b (fun h => by simp only [s_fd, if_neg h] at hq; exact hq) (fun h => by simp only [s_fd, if_pos h] at hq; exact ⟨ps_in (by omega) (by decide), k10_upwards hW hp ⟨hW, hq⟩⟩)⟩, fun h => absurd h (by decide), fun h => absurd h (by decide), fun h => absurd h (by decide), fun h => absurd h (by decide), fun h => absurd h (by decide)⟩
/-- what size tells of the duchy (0 .. 9) -/
theorem p9_size {x : Int32} (hW : aw_WT n θ) (hF : FR σ (θ 1 7) r) (hM : MR σ 6 st) (hv : VR r) (hq : q (if s_in x 10 = true then r x.toNatClampNeg else if x = 10 then st 12 else if x = 11 then σ 9 0 else if x = 12 then σ 9 1 else if x = 13 then σ 2 0 else -1) n σ τ θ) : SMi G 2 mX9_size 0 0 [.ref 1, .int x] n σ τ θ q := by
  refine ctX9_size _ (sgX9_size_0 _ (Nat.le_refl _) hW ?_)
  have e := hF.1
  rw [e.1, e.2.1, e.2.2.1, e.2.2.2.1, e.2.2.2.2.1, e.2.2.2.2.2.1, e.2.2.2.2.2.2.1, e.2.2.2.2.2.2.2.1, e.2.2.2.2.2.2.2.2, hM.2.2]
  refine ⟨fun h => ?_, fun h => ?_, fun h => ?_, fun h => ?_, fun h => ?_, fun h => ?_, fun h => ?_, fun h => ?_, fun h => ?_, fun h => ?_, fun h => ?_, fun h => ?_, fun h => ?_, fun h => ?_, fun h => ?_⟩
  · rw [if_neg (fun e => by
      obtain ⟨j, hj, rfl⟩ := (s_in_iff (by decide)).mp e
      rw [nI_toInt (by omega)] at h
      omega), if_neg (fun e => by subst e; revert h; decide), if_neg (fun e => by subst e; revert h; decide), if_neg (fun e => by subst e; revert h; decide), if_neg (fun e => by subst e; revert h; decide)] at hq
    exact hq
  · subst h
    exact hq
  · subst h
    exact hq
  · subst h
    exact hq
  · subst h
    exact hq
  · subst h
    exact hq
  · subst h
    exact hq
  · subst h
    exact hq
  · subst h
    exact hq
  · subst h
    exact k1_invitedCount hW.f hW hF hv ⟨hW, by rw [← hv.i]; exact hq⟩
  · subst h
    exact hq
  · subst h
    exact hq
  · subst h
    exact hq
  · subst h
    exact hq
  · subst h
    exact hq
end Pub5
