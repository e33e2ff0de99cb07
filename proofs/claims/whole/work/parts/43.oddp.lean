/-! ===== rumours: the public methods and the reference ===== -/
def sOd (u w : Nat) (y : Int32) : Int64 := if w = 0 then (if y = 0 then 0 else 1) else sLow u w y
theorem sOd_c {u w : Nat} {y : Int32} : (if u = 0 ∨ w = 0 then (if y = 0 then 0 else 1) else sLow u w y) = sOd u w y := by
  unfold sOd
  by_cases h : w = 0
  · rw [if_pos (Or.inr h), if_pos h]
  · rw [if_neg h]
    exact ps_lock (by omega)
def sp_fits (r st : Nat → Int32) : Int32 × Int32 := if nM r = 0 then (-1, 1) else (nI (FN r st), 0)
def sp_fitAt (r st : Nat → Int32) (x : Int32) : Int32 × Int32 := if ¬ nM r = 0 ∧ 0 ≤ x ∧ ¬ fitL r st x (nS r) = -1 then (fitL r st x (nS r), 0) else (-1, 1)
def sp_likely (r st : Nat → Int32) (x y : Int32) : Int64 × Int32 := if s_in x (nU r) = true then (sOd (sm (ruN r st x.toNatClampNeg) (nS r)) (AW r st) y, 0) else (-1, 1)
def sp_headIs (r st : Nat → Int32) (x y z : Int32) : Int64 × Int32 := if s_in x (nM r) = true then (if ¬ y < 0 ∧ ¬ 99 < y then (sOd (sm (whN r st x.toNatClampNeg y) (nS r)) (AW r st) z, 0) else (-1, 2)) else (-1, 1)
def sp_likeliest (r st : Nat → Int32) : Int32 × Int32 := if nM r = 0 then (-1, 1) else ((llS r st (nS r)).1, 0)
def sp_look (r st : Nat → Int32) : Int32 × Int32 := if nM r = 0 then (-1, 1) else (lookS r st, 0)
def sp_leaves (r st : Nat → Int32) : Int32 × Int32 := if nM r = 0 then (-1, 1) else ((if FN r st = 0 then -2 else nI (lvN r st (lkS r st (nM r - 1)) (nS r))), 0)
theorem fitL_c {r st : Nat → Int32} {x : Int32} : ∀ B, fitL r st x B = -1 ∨ ∃ C, C < B ∧ fitL r st x B = nI C
  | 0 => Or.inl rfl
  | B + 1 => by
    unfold fitL
    split
    · exact Or.inr ⟨B, by omega, rfl⟩
    · rcases fitL_c (r := r) (st := st) (x := x) B with h | ⟨C, hC, h⟩
      · exact Or.inl h
      · exact Or.inr ⟨C, by omega, h⟩
theorem sm_mono {f g : Nat → Nat} (h : ∀ k, f k ≤ g k) : ∀ N, sm f N ≤ sm g N
  | 0 => Nat.le_refl _
  | N + 1 => Nat.add_le_add (sm_mono h N) (h N)
section OddP
variable {G : GG} {n : Nat} {σ : SG} {τ : TU} {θ : TH} {f t : Nat} {r st row : Nat → Int32} {q : Int32 → Nat → SG → TU → TH → Prop} {qv : Nat → SG → TU → TH → Prop} {ql : Int64 → Nat → SG → TU → TH → Prop}
theorem ru_b (hv : VR r) {j : Nat} : sm (ruN r st j) (nS r) < 2 ^ 63 := by
  have h1 := sm_mono (f := ruN r st j) (g := WN r st) (fun k => by unfold ruN; split; exact Nat.le_refl _; exact Nat.zero_le _) (nS r)
  have h2 : sm (WN r st) (nS r) < 2 ^ 63 := AW_b hv
  omega
theorem wh_b (hv : VR r) {m : Nat} {x : Int32} : sm (whN r st m x) (nS r) < 2 ^ 63 := by
  have h1 := sm_mono (f := whN r st m x) (g := WN r st) (fun k => by unfold whN; split; exact Nat.le_refl _; exact Nat.zero_le _) (nS r)
  have h2 : sm (WN r st) (nS r) < 2 ^ 63 := AW_b hv
  omega
theorem p9_fits (hW : aw_WT n θ) (hF : FR σ (θ 1 7) r) (hM : MR σ 6 st) (hv : VR r) (hq : ∀ σ' τ', CS σ σ' (sp_fits r st).2 → q (sp_fits r st).1 n σ' τ' θ) : SMi G 5 mX9_fits 0 0 [.ref 1] n σ τ θ q := by
  unfold sp_fits at hq
  refine ctX9_fits (sgX9_fits_0 (Nat.le_refl _) hW ?_)
  refine k9_noDuchy hW hF hv ⟨hW, ps_b (fun h => ?_) (fun h => ?_)⟩
  · rw [if_neg h] at hq
    refine k4_weigh hW.f hW hF hM hv (fun σ1 τ1 s1 hO => ⟨hW, ?_⟩)
    rw [hO.2.1]
    exact k9_grant hW ⟨hW, hq _ _ (s1.tr 0)⟩
  · rw [if_pos h] at hq
    exact k9_refuse hW ⟨hW, hq _ _ (CS.tr _ _)⟩
theorem p9_fitAt {x : Int32} (hW : aw_WT n θ) (hF : FR σ (θ 1 7) r) (hM : MR σ 6 st) (hv : VR r) (hq : ∀ σ' τ', CS σ σ' (sp_fitAt r st x).2 → q (sp_fitAt r st x).1 n σ' τ' θ) : SMi G 5 mX9_fitAt 0 0 [.ref 1, .int x] n σ τ θ q := by
  unfold sp_fitAt at hq
  refine ctX9_fitAt _ (sgX9_fitAt_0 _ (Nat.le_refl _) hW ?_)
  refine k9_noDuchy hW hF hv ⟨hW, And.symm (ps_b (fun h => ⟨fun h2 => ?_, fun h2 => ?_⟩) (fun h => ?_))⟩
  · refine k4_weigh hW.f hW hF hM hv (fun σ1 τ1 s1 hO => ⟨hW, k4_fitNumber hW hv hO ⟨hW, fun h3 => ?_, fun h3 => ?_⟩⟩)
    · rw [if_pos ⟨h, h2, h3⟩] at hq
      exact k9_grant hW ⟨hW, hq _ _ (s1.tr 0)⟩
    · rw [if_neg (fun e => e.2.2 h3)] at hq
      exact k9_refuse hW ⟨hW, hq _ _ (s1.tr 1)⟩
  · rw [if_neg (fun e => h2 e.2.1)] at hq
    exact k9_refuse hW ⟨hW, hq _ _ (CS.tr _ _)⟩
  · rw [if_neg (fun e => e.1 h)] at hq
    exact k9_refuse hW ⟨hW, hq _ _ (CS.tr _ _)⟩
theorem OW.tr {w : Int32} (h : OW σ τ r st) : OW (aw_u σ 1 10 w) τ r st := by
  unfold OW at h ⊢
  rw [aw_uo (by decide)]
  exact h
theorem FR.tr {w : Int32} (h : FR σ f r) (hf : isF f) : FR (aw_u σ 1 10 w) f r := h.mono (fun o h1 _ => aw_uo (by have := hf.r; omega))
theorem MR.tr {w : Int32} (h : MR σ 6 st) : MR (aw_u σ 1 10 w) 6 st := h.mono (fun o h1 _ => aw_uo (by omega))
theorem p9_likely {x y : Int32} (hW : aw_WT n θ) (hF : FR σ (θ 1 7) r) (hM : MR σ 6 st) (hv : VR r) (hq : ∀ σ' τ', CS σ σ' (sp_likely r st x y).2 → ql (sp_likely r st x y).1 n σ' τ' θ) : SMl G 5 mX9_likely 0 0 [.ref 1, .int x, .int y] n σ τ θ ql := by
  unfold sp_likely at hq
  have h4 := hv.u4
  have e4 : σ (θ 1 7 + 13) 4 = nI (nU r) := hF.1.2.2.2.2.2.2.1.trans hv.u
  refine ctX9_likely _ _ (sgX9_likely_0 _ _ (Nat.le_refl _) hW ?_)
  have si : s_in x (nU r) = true ↔ ¬ x < 0 ∧ x < nI (nU r) := by
    unfold s_in
    rw [Bool.and_eq_true, decide_eq_true_eq, decide_eq_true_eq, Int32.not_lt]
  rw [e4]
  refine ⟨fun h => ?_, fun h => ⟨fun h2 => ?_, fun h2 => ?_⟩⟩
  · rw [if_neg (fun e => (si.mp e).1 h)] at hq
    exact k9_refuse hW ⟨hW, hq _ _ (CS.tr _ _)⟩
  · have h3 := si.mpr ⟨h, h2⟩
    rw [if_pos h3] at hq
    obtain ⟨j, hj, rfl⟩ := (s_in_iff (by omega)).mp h3
    rw [ps_cl (by omega)] at hq
    refine k4_weigh hW.f hW hF hM hv (fun σ1 τ1 s1 hO => ⟨hW, k4_weightOfRumour hW hv hO.tr ⟨hW, ?_⟩⟩)
    rw [hO.2.2.1]
    refine k9_lowest hW (ru_b hv) (AW_b hv) ⟨hW, ?_⟩
    rw [sOd_c]
    exact hq _ _ (s1.tr 0)
  · rw [if_neg (fun e => h2 (si.mp e).2)] at hq
    exact k9_refuse hW ⟨hW, hq _ _ (CS.tr _ _)⟩
theorem p9_headIs {x y z : Int32} (hW : aw_WT n θ) (hF : FR σ (θ 1 7) r) (hM : MR σ 6 st) (hv : VR r) (hq : ∀ σ' τ', CS σ σ' (sp_headIs r st x y z).2 → ql (sp_headIs r st x y z).1 n σ' τ' θ) : SMl G 5 mX9_headIs 0 0 [.ref 1, .int x, .int y, .int z] n σ τ θ ql := by
  unfold sp_headIs at hq
  have h5 := hv.m5
  refine ctX9_headIs _ _ _ (sgX9_headIs_0 _ _ _ (Nat.le_refl _) hW ?_)
  refine k9_isMan hW hF hv ⟨hW, And.symm (ps_b (fun h => ?_) (fun h => ⟨fun h2 => ?_, fun h2 => ⟨fun h3 => ?_, fun h3 => ?_⟩⟩))⟩
  · rw [if_neg h] at hq
    exact k9_refuse hW ⟨hW, hq _ _ (CS.tr _ _)⟩
  · rw [if_pos h, if_neg (fun e => e.1 h2)] at hq
    exact k9_refuse hW ⟨hW, hq _ _ (CS.tr _ _)⟩
  · rw [if_pos h, if_pos ⟨h2, Int32.not_lt.mpr h3⟩] at hq
    obtain ⟨j, hj, rfl⟩ := (s_in_iff (by omega)).mp h
    rw [ps_cl (by omega)] at hq
    refine k4_weigh hW.f hW hF hM hv (fun σ1 τ1 s1 hO => ⟨hW, k4_weightOfHead hW.f hW ((s1.fr hW.f hF).tr hW.f) (s1.mr hM).tr hv hj hO.tr ⟨hW, ?_⟩⟩)
    rw [hO.2.2.1]
    refine k9_lowest hW (wh_b hv) (AW_b hv) ⟨hW, ?_⟩
    rw [sOd_c]
    exact hq _ _ (s1.tr 0)
  · rw [if_pos h, if_neg (fun e => h3 (Int32.not_lt.mp e.2))] at hq
    exact k9_refuse hW ⟨hW, hq _ _ (CS.tr _ _)⟩
theorem p9_likeliest (hW : aw_WT n θ) (hF : FR σ (θ 1 7) r) (hM : MR σ 6 st) (hv : VR r) (hq : ∀ σ' τ', CS σ σ' (sp_likeliest r st).2 → q (sp_likeliest r st).1 n σ' τ' θ) : SMi G 5 mX9_likeliest 0 0 [.ref 1] n σ τ θ q := by
  unfold sp_likeliest at hq
  refine ctX9_likeliest (sgX9_likeliest_0 (Nat.le_refl _) hW ?_)
  refine k9_noDuchy hW hF hv ⟨hW, ps_b (fun h => ?_) (fun h => ?_)⟩
  · rw [if_neg h] at hq
    exact k4_weigh hW.f hW hF hM hv (fun σ1 τ1 s1 hO => ⟨hW, k4_heaviest hW hv hO ⟨hW, k9_grant hW ⟨hW, hq _ _ (s1.tr 0)⟩⟩⟩)
  · rw [if_pos h] at hq
    exact k9_refuse hW ⟨hW, hq _ _ (CS.tr _ _)⟩
theorem p9_look (hW : aw_WT n θ) (hF : FR σ (θ 1 7) r) (hM : MR σ 6 st) (hv : VR r) (hq : ∀ σ' τ', CS σ σ' (sp_look r st).2 → q (sp_look r st).1 n σ' τ' θ) : SMi G 6 mX9_look 0 0 [.ref 1] n σ τ θ q := by
  unfold sp_look at hq
  refine ctX9_look (sgX9_look_0 (Nat.le_refl _) hW ?_)
  refine k9_noDuchy hW hF hv ⟨hW, ps_b (fun h => ?_) (fun h => ?_)⟩
  · rw [if_neg h] at hq
    refine k4_weigh hW.f hW hF hM hv (fun σ1 τ1 s1 hO => ⟨hW, k9_manToLookAt hW (s1.fr hW.f hF) (s1.mr hM) hv (by omega) hO (fun σ2 s2 _ => ⟨hW, k9_grant hW ⟨hW, hq _ _ ?_⟩⟩)⟩)
    exact SC.tr (fun o ho => (s2 o ho).trans (s1 o ho)) 0
  · rw [if_pos h] at hq
    exact k9_refuse hW ⟨hW, hq _ _ (CS.tr _ _)⟩
theorem p9_leaves (hW : aw_WT n θ) (hF : FR σ (θ 1 7) r) (hM : MR σ 6 st) (hv : VR r) (hq : ∀ σ' τ', CS σ σ' (sp_leaves r st).2 → q (sp_leaves r st).1 n σ' τ' θ) : SMi G 6 mX9_lookLeaves 0 0 [.ref 1] n σ τ θ q := by
  unfold sp_leaves at hq
  have h5 := hv.m5
  refine ctX9_lookLeaves (sgX9_lookLeaves_0 (Nat.le_refl _) hW ?_)
  refine k9_noDuchy hW hF hv ⟨hW, ps_b (fun h => ?_) (fun h => ?_)⟩
  · rw [if_neg h] at hq
    refine k4_weigh hW.f hW hF hM hv (fun σ1 τ1 s1 hO => ⟨hW, k9_manToLookAt hW (s1.fr hW.f hF) (s1.mr hM) hv (by omega) hO (fun σ2 s2 hO2 => ⟨hW, ?_⟩)⟩)
    have s3 : SC σ σ2 := fun o ho => (s2 o ho).trans (s1 o ho)
    have bl := lkS_le (r := r) (st := st) (nM r - 1)
    unfold lookS
    by_cases h0 : FN r st = 0
    · rw [if_pos h0] at hq ⊢
      exact ⟨fun h9 => absurd rfl h9, fun _ => k9_grant hW ⟨hW, hq _ _ (s3.tr 0)⟩⟩
    · rw [if_neg h0] at hq ⊢
      refine ⟨fun _ => k4_leftAtMost hW.f hW (s3.fr hW.f hF) (s3.mr hM) hv (by omega) hO2 (fun σ4 s4 _ => ⟨hW, k9_grant hW ⟨hW, hq _ _ ?_⟩⟩), fun h9 => absurd h9 (ps_neg2 (by omega))⟩
      exact SC.tr (fun o ho => (s4 o ho).trans (s3 o ho)) 0
  · rw [if_pos h] at hq
    exact k9_refuse hW ⟨hW, hq _ _ (CS.tr _ _)⟩
/-! the reference -/
theorem k10_weightOf {B : Nat} (hW : aw_WT n θ) (hv : VR (σ 123)) (hq : ql (lN (WN (σ 123) (σ 125) B)) n (aw_u σ 120 22 (nI B)) τ θ) : SMl G 5 mX10_weightOf 0 0 [.ref 120, .int (nI B)] n σ τ θ ql := by
  have h4 := hv.r4
  have h5 := hv.m5
  refine ctX10_weightOf _ (sgX10_weightOf_0 _ (Nat.le_refl _) hW ?_)
  have e3 : (aw_u σ 120 22 (nI B)) 123 = σ 123 := aw_uo (by decide)
  have e5 : (aw_u σ 120 22 (nI B)) 125 = σ 125 := aw_uo (by decide)
  have eb : (aw_u σ 120 22 (nI B)) 120 22 = nI B := aw_u_eq
  generalize aw_u σ 120 22 (nI B) = σ1 at e3 e5 eb hq ⊢
  have e9 : σ1 123 9 = nI (nR (σ 123)) := by rw [e3]; exact hv.r
  refine ps_up (N := nR (σ 123)) (P := fun k => SW G 5 mX10_weightOf (aw_ql ql) 0 0 10 [some (.ref 120), none, some (.long (lN (wN (σ 123) (σ 125) B k))), none, some (.int (nI k))] [] (n, σ1, τ, θ)) ?_ ?_ 0 (Nat.zero_le _)
  · exact sgX10_weightOf_10 _ _ (Nat.le_refl _) hW (ps_done e9 hq)
  · intro k hk ih
    refine sgX10_weightOf_10 _ _ (Nat.le_refl _) hW (ps_br e9 (by omega) (by omega) (fun h => absurd h (by omega)) (fun _ => ?_))
    obtain ⟨⟨a, ha, ea⟩, -⟩ := hv.read hk
    rw [← nI_succ k, ix79, ix78, ps_cl (by omega), ps_cl (by omega), e3, ea]
    refine ⟨ps_in (by omega) (by decide), k10_headOf hW isA_st (by rw [e3]; exact hv) (by omega) ⟨hW, ps_in (by omega) (by decide), ?_⟩⟩
    refine k10_readAs hW (by rw [e3]; exact hv) ⟨hW, ?_⟩
    rw [e3, e5, eb]
    obtain ⟨e9, b9⟩ := rwN_e hv (h := s_hB (σ 123) (σ 125) (σ 125 12) (nI B) a) (told := σ 123 (79 + 2 * k))
    rw [e9, nI_l (by omega), lN_mul]
    simp only [wN] at ih
    rw [ea, ps_cl (by omega)] at ih
    exact ih
theorem k10_allSets (hW : aw_WT n θ) (hv : VR (σ 123)) (hq : q (nI (nS (σ 123))) n σ τ θ) : SMi G 1 mX10_allSets 0 0 [.ref 120] n σ τ θ q := by
  refine ctX10_allSets (sgX10_allSets_0 (Nat.le_refl _) hW ?_)
  rw [nS_e hv]
  exact hq
theorem k10_allWeight {σ0 : SG} {w : Int32} (hW : aw_WT n θ) (hS : RS σ0 σ w) (hv : VR (σ0 123)) (hq : ∀ σ', RS σ0 σ' w → ql (lN (AW (σ0 123) (σ0 125))) n σ' τ θ) : SMl G 6 mX10_allWeight 0 0 [.ref 120] n σ τ θ ql := by
  have hb := nS_b hv
  refine ctX10_allWeight (sgX10_allWeight_0 (Nat.le_refl _) hW ?_)
  refine ps_up (N := nS (σ0 123)) (P := fun B => ∀ σ1, RS σ0 σ1 w → SW G 6 mX10_allWeight (aw_ql ql) 0 0 4 [some (.ref 120), some (.long (lN (sm (WN (σ0 123) (σ0 125)) B))), none, some (.int (nI B))] [] (n, σ1, τ, θ)) ?_ ?_ 0 (Nat.zero_le _) σ hS
  · intro σ1 h1
    refine sgX10_allWeight_4 _ _ (Nat.le_refl _) hW (k10_allSets hW (h1.vr hv) ⟨hW, ?_⟩)
    exact ps_done (by rw [h1.e3]) (hq _ h1)
  · intro B hB ih σ1 h1
    refine sgX10_allWeight_4 _ _ (Nat.le_refl _) hW (k10_allSets hW (h1.vr hv) ⟨hW, ?_⟩)
    refine ps_br (by rw [h1.e3]) (by omega) (by omega) (fun h => absurd h (by omega)) (fun _ => k10_weightOf hW (h1.vr hv) ⟨hW, ?_⟩)
    rw [h1.e3, h1.e5, lN_add, ← nI_succ]
    exact ih _ (h1.slot (by decide))
theorem k10_odds {σ0 : SG} {w y : Int32} {u : Nat} (hW : aw_WT n θ) (hS : RS σ0 σ w) (hv : VR (σ0 123)) (hu : u < 2 ^ 63) (hq : ∀ σ', RS σ0 σ' w → ql (sOd u (AW (σ0 123) (σ0 125)) y) n σ' τ θ) : SMl G 7 mX10_odds 0 0 [.ref 120, .long (lN u), .int y] n σ τ θ ql := by
  unfold sOd at hq
  have hA := AW_b (st := σ0 125) hv
  refine ctX10_odds _ _ (sgX10_odds_0 _ _ (Nat.le_refl _) hW ?_)
  refine k10_allWeight hW hS hv (fun σ1 h1 => ⟨hW, ?_⟩)
  rw [(lg_0 hA).1]
  refine ⟨fun h => ?_, fun h => ?_⟩
  · rw [if_neg h] at hq
    exact k10_lowest hW hu hA (by omega) ⟨hW, hq _ h1⟩
  · rw [if_pos h] at hq
    exact k10_lowest (u := 0) (w := 1) hW (by decide) (by decide) (by decide) ⟨hW, hq _ h1⟩
theorem k10_seekFits {σ0 : SG} {x : Int32} (hW : aw_WT n θ) (hS : RS σ0 σ 0) (hv : VR (σ0 123)) (hq : ∀ σ', RS σ0 σ' 0 → σ' 120 30 = nI (FN (σ0 123) (σ0 125)) → q (fitL (σ0 123) (σ0 125) x (nS (σ0 123))) n σ' τ θ) : SMi G 6 mX10_seekFits 0 0 [.ref 120, .int x] n σ τ θ q := by
  have hb := nS_b hv
  refine ctX10_seekFits _ (sgX10_seekFits_0 _ (Nat.le_refl _) hW ?_)
  refine ps_up (N := nS (σ0 123)) (P := fun B => ∀ σ1, RS σ0 σ1 0 → σ1 120 30 = nI (sm (fitN (σ0 123) (σ0 125)) B) → SW G 6 mX10_seekFits (aw_qi q) 0 0 9 [some (.ref 120), some (.int x), some (.int (fitL (σ0 123) (σ0 125) x B)), some (.int (nI B))] [] (n, σ1, τ, θ)) ?_ ?_ 0 (Nat.zero_le _) _ (hS.slot (by decide)) aw_u_eq
  · intro σ1 h1 e1
    refine sgX10_seekFits_9 _ _ _ (Nat.le_refl _) hW (k10_allSets hW (h1.vr hv) ⟨hW, ?_⟩)
    exact ps_done (by rw [h1.e3]) (hq _ h1 e1)
  · intro B hB ih σ1 h1 e1
    have bW := WN_b (st := σ0 125) (B := B) hv
    have bW2 : WN (σ0 123) (σ0 125) B < 2 ^ 63 := by omega
    refine sgX10_seekFits_9 _ _ _ (Nat.le_refl _) hW (k10_allSets hW (h1.vr hv) ⟨hW, ?_⟩)
    refine ps_br (by rw [h1.e3]) (by omega) (by omega) (fun h => absurd h (by omega)) (fun _ => k10_weightOf hW (h1.vr hv) ⟨hW, ?_⟩)
    rw [h1.e3, h1.e5, (lg_0 bW2).1, ← nI_succ, aw_u_nk (by decide), e1]
    have h2 : RS σ0 (aw_u σ1 120 22 (nI B)) 0 := h1.slot (by decide)
    simp only [sm, fitL] at ih
    refine ⟨fun h => ⟨fun h3 => ?_, fun h3 => ?_⟩, fun h => ?_⟩
    · rw [if_neg (fun e => h3 e.2)] at ih
      refine ih _ (h2.slot (by decide)) ?_
      rw [aw_u_eq, show fitN (σ0 123) (σ0 125) B = 1 from if_pos (by omega)]
      exact nI_1 _
    · rw [if_pos ⟨by omega, h3⟩] at ih
      refine ih _ (h2.slot (by decide)) ?_
      rw [aw_u_eq, show fitN (σ0 123) (σ0 125) B = 1 from if_pos (by omega)]
      exact nI_1 _
    · rw [if_neg (fun e => absurd e.1 (by omega))] at ih
      refine ih _ h2 ?_
      rw [aw_u_nk (by decide), e1, show fitN (σ0 123) (σ0 125) B = 0 from if_neg (by omega), Nat.add_zero]
theorem p10_fits (hW : aw_WT n θ) (hv : VR (σ 123)) (hH : HR σ (σ 123)) (hq : ∀ σ', RS σ σ' (sp_fits (σ 123) (σ 125)).2 → q (sp_fits (σ 123) (σ 125)).1 n σ' τ θ) : SMi G 7 mX10_fits 0 0 [.ref 120] n σ τ θ q := by
  unfold sp_fits at hq
  refine ctX10_fits (sgX10_fits_0 (Nat.le_refl _) hW ?_)
  refine k10_good' hW (fun σ1 h1 => ⟨hW, ?_⟩)
  rw [h1.has, hH.iff]
  refine ⟨fun h => ?_, fun h => ?_⟩
  · rw [if_neg h] at hq
    refine k10_seekFits hW h1 hv (fun σ2 h2 e2 => ⟨hW, ?_⟩)
    rw [e2]
    exact hq _ h2
  · rw [if_pos h] at hq
    exact k10_no hW ⟨hW, hq _ h1.no⟩
theorem p10_fitAt {x : Int32} (hW : aw_WT n θ) (hv : VR (σ 123)) (hH : HR σ (σ 123)) (hq : ∀ σ', RS σ σ' (sp_fitAt (σ 123) (σ 125) x).2 → q (sp_fitAt (σ 123) (σ 125) x).1 n σ' τ θ) : SMi G 7 mX10_fitAt 0 0 [.ref 120, .int x] n σ τ θ q := by
  unfold sp_fitAt at hq
  have hb := nS_b hv
  refine ctX10_fitAt _ (sgX10_fitAt_0 _ (Nat.le_refl _) hW ?_)
  refine k10_good' hW (fun σ1 h1 => ⟨hW, ?_⟩)
  rw [h1.has, hH.iff]
  refine ⟨fun h => ?_, fun h => ⟨fun h2 => ?_, fun h2 => ?_⟩⟩
  · rw [if_neg (fun e => e.1 h)] at hq
    exact k10_no hW ⟨hW, hq _ h1.no⟩
  · refine k10_seekFits hW h1 hv (fun σ2 h3 _ => ⟨hW, ?_⟩)
    rcases fitL_c (r := σ 123) (st := σ 125) (x := x) (nS (σ 123)) with e | ⟨C, hC, e⟩
    · rw [if_neg (fun e2 => e2.2.2 e)] at hq
      rw [e]
      exact ⟨fun h9 => absurd h9 (by decide), fun _ => k10_no hW ⟨hW, hq _ h3.no⟩⟩
    · have hn : ¬ nI C = -1 := by intro e2; have h1 := nI_pos (n := C) (by omega); rw [e2] at h1; exact h1 (by decide)
      rw [if_pos ⟨h, h2, by rw [e]; exact hn⟩, e] at hq
      rw [e]
      exact ⟨fun _ => hq _ h3, fun h9 => absurd (nI_pos' (by omega)) h9⟩
  · rw [if_neg (fun e => h2 e.2.1)] at hq
    exact k10_no hW ⟨hW, hq _ h1.no⟩
theorem p10_likely {x y : Int32} (hW : aw_WT n θ) (hv : VR (σ 123)) (hH : HR σ (σ 123)) (hq : ∀ σ', RS σ σ' (sp_likely (σ 123) (σ 125) x y).2 → ql (sp_likely (σ 123) (σ 125) x y).1 n σ' τ θ) : SMl G 8 mX10_likely 0 0 [.ref 120, .int x, .int y] n σ τ θ ql := by
  unfold sp_likely at hq
  have h4 := hv.u4
  have hb := nS_b hv
  refine ctX10_likely _ _ (sgX10_likely_0 _ _ (Nat.le_refl _) hW ?_)
  refine k10_good' hW (fun σ1 h1 => ⟨hW, ?_⟩)
  rw [h1.has, hH.iff]
  refine ⟨fun h => ?_, fun h => ?_⟩
  · have h0 := (hv.zero h).2.1
    rw [if_neg (fun e => by obtain ⟨j, hj, -⟩ := (s_in_iff (by omega)).mp e; omega)] at hq
    exact k10_no hW ⟨hW, hq _ h1.no⟩
  · rw [h1.e3, hv.u]
    have si : (¬ x < 0 ∧ ¬ nI (nU (σ 123)) - 1 < x) ↔ s_in x (nU (σ 123)) = true := by
      rcases Nat.eq_zero_or_pos (nU (σ 123)) with h0 | h0
      · rw [h0]
        constructor
        · rintro ⟨h3, h4⟩
          exact absurd (Int32.lt_of_lt_of_le (show nI 0 - 1 < 0 by decide) (Int32.not_lt.mp h3)) h4
        · intro e
          obtain ⟨j, hj, -⟩ := (s_in_iff (by omega)).mp e
          omega
      · exact s_in_pred (by omega) h0
    refine k10_in hW ⟨hW, And.symm (ps_b (fun h2 => ?_) (fun h2 => ?_))⟩
    · rw [if_neg (fun e => h2 (si.mpr e))] at hq
      exact k10_no hW ⟨hW, hq _ h1.no⟩
    · have h3 := si.mp h2
      rw [if_pos h3] at hq
      obtain ⟨j, hj, rfl⟩ := (s_in_iff (by omega)).mp h3
      rw [ps_cl (by omega)] at hq
      refine ps_up (N := nS (σ 123)) (P := fun B => ∀ σ2, RS σ σ2 0 → SW G 8 mX10_likely (aw_ql ql) 0 0 40 [some (.ref 120), some (.int (nI j)), some (.int y), some (.long (lN (sm (ruN (σ 123) (σ 125) j) B))), none, some (.int (nI B))] [] (n, σ2, τ, θ)) ?_ ?_ 0 (Nat.zero_le _) σ1 h1
      · intro σ2 h5
        refine sgX10_likely_40 _ _ _ _ (Nat.le_refl _) hW (k10_allSets hW (h5.vr hv) ⟨hW, ?_⟩)
        exact ps_done (by rw [h5.e3]) (k10_odds hW h5 hv (ru_b hv) (fun σ3 h6 => ⟨hW, hq _ h6⟩))
      · intro B hB ih σ2 h5
        refine sgX10_likely_40 _ _ _ _ (Nat.le_refl _) hW (k10_allSets hW (h5.vr hv) ⟨hW, ?_⟩)
        refine ps_br (by rw [h5.e3]) (by omega) (by omega) (fun h => absurd h (by omega)) (fun _ => k10_hasBit hW ⟨hW, ?_⟩)
        rw [← nI_succ]
        simp only [sm] at ih
        refine ps_b (fun h6 => ?_) (fun h6 => ?_)
        · rw [show ruN (σ 123) (σ 125) j B = 0 from if_neg h6, Nat.add_zero] at ih
          rw [show ∀ a : Int64, a + 0 = a from fun a => Int64.add_zero a]
          exact ih _ h5
        · rw [show ruN (σ 123) (σ 125) j B = WN (σ 123) (σ 125) B from if_pos h6] at ih
          refine k10_weightOf hW (h5.vr hv) ⟨hW, ?_⟩
          rw [h5.e3, h5.e5, lN_add]
          exact ih _ (h5.slot (by decide))
theorem p10_headIs {x y z : Int32} (hW : aw_WT n θ) (hv : VR (σ 123)) (hH : HR σ (σ 123)) (hq : ∀ σ', RS σ σ' (sp_headIs (σ 123) (σ 125) x y z).2 → ql (sp_headIs (σ 123) (σ 125) x y z).1 n σ' τ θ) : SMl G 8 mX10_headIs 0 0 [.ref 120, .int x, .int y, .int z] n σ τ θ ql := by
  unfold sp_headIs at hq
  have h5 := hv.m5
  have hb := nS_b hv
  refine ctX10_headIs _ _ _ (sgX10_headIs_0 _ _ _ (Nat.le_refl _) hW ?_)
  refine k10_good' hW (fun σ1 h1 => ⟨hW, k10_isMan hW (h1.vr hv) (h1.hr hH) ⟨hW, k10_in hW ⟨hW, k10_why hW ⟨hW, ?_⟩⟩⟩⟩)
  rw [h1.e3]
  by_cases h : s_in x (nM (σ 123)) = true
  · by_cases h2 : ¬ y < 0 ∧ ¬ 99 < y
    · simp only [if_pos h, if_pos h2] at hq ⊢
      refine ⟨fun _ => ?_, fun h9 => absurd trivial h9⟩
      obtain ⟨m, hm, rfl⟩ := (s_in_iff (by omega)).mp h
      rw [ps_cl (by omega)] at hq
      refine ps_up (N := nS (σ 123)) (P := fun B => ∀ σ2, RS σ σ2 0 → SW G 8 mX10_headIs (aw_ql ql) 0 0 41 [some (.ref 120), some (.int (nI m)), some (.int y), some (.int z), none, some (.long (lN (sm (whN (σ 123) (σ 125) m y) B))), none, some (.int (nI B)), none, none] [] (n, σ2, τ, θ)) ?_ ?_ 0 (Nat.zero_le _) σ1 h1
      · intro σ2 h5
        refine sgX10_headIs_41 _ _ _ _ _ (Nat.le_refl _) hW (k10_allSets hW (h5.vr hv) ⟨hW, ?_⟩)
        exact ps_done (by rw [h5.e3]) (k10_odds hW h5 hv (wh_b hv) (fun σ3 h6 => ⟨hW, hq _ h6⟩))
      · intro B hB ih σ2 h6
        refine sgX10_headIs_41 _ _ _ _ _ (Nat.le_refl _) hW (k10_allSets hW (h6.vr hv) ⟨hW, ?_⟩)
        refine ps_br (by rw [h6.e3]) (by omega) (by omega) (fun h => absurd h (by omega)) (fun _ => k10_weightOf hW (h6.vr hv) ⟨hW, ?_⟩)
        have h7 : RS σ (aw_u σ2 120 22 (nI B)) 0 := h6.slot (by decide)
        have eb : (aw_u σ2 120 22 (nI B)) 120 22 = nI B := aw_u_eq
        generalize aw_u σ2 120 22 (nI B) = σ3 at h7 eb ⊢
        refine k10_headOf hW isA_st (h7.vr hv) (by omega) ⟨hW, ?_⟩
        rw [h7.e3, h7.e5, eb, h6.e3, h6.e5, ← nI_succ, lN_add]
        simp only [sm] at ih
        refine ⟨fun h8 => ?_, fun h8 => ?_⟩
        · rw [show whN (σ 123) (σ 125) m y B = 0 from if_neg h8, Nat.add_zero] at ih
          rw [show ∀ a : Int64, a + 0 = a from fun a => Int64.add_zero a]
          exact ih _ h7
        · rw [show whN (σ 123) (σ 125) m y B = WN (σ 123) (σ 125) B from if_pos h8] at ih
          exact ih _ h7
    · simp only [if_pos h, if_neg h2] at hq ⊢
      exact ⟨fun e => absurd e (by decide), fun _ => k10_no hW ⟨hW, hq _ h1.no⟩⟩
  · simp only [if_neg h] at hq ⊢
    exact ⟨fun e => absurd e (by decide), fun _ => k10_no hW ⟨hW, hq _ h1.no⟩⟩
theorem p10_likeliest (hW : aw_WT n θ) (hv : VR (σ 123)) (hH : HR σ (σ 123)) (hq : ∀ σ', RS σ σ' (sp_likeliest (σ 123) (σ 125)).2 → q (sp_likeliest (σ 123) (σ 125)).1 n σ' τ θ) : SMi G 6 mX10_likeliest 0 0 [.ref 120] n σ τ θ q := by
  unfold sp_likeliest at hq
  have hb := nS_b hv
  refine ctX10_likeliest (sgX10_likeliest_0 (Nat.le_refl _) hW ?_)
  refine k10_good' hW (fun σ1 h1 => ⟨hW, ?_⟩)
  rw [h1.has, hH.iff]
  refine ⟨fun h => ?_, fun h => ?_⟩
  · rw [if_neg h] at hq
    refine ps_up (N := nS (σ 123)) (P := fun B => ∀ σ2, RS σ σ2 0 → SW G 6 mX10_likeliest (aw_qi q) 0 0 25 [some (.ref 120), some (.int (llS (σ 123) (σ 125) B).1), some (.long (lN (llS (σ 123) (σ 125) B).2)), none, some (.int (nI B)), none, none] [] (n, σ2, τ, θ)) ?_ ?_ 0 (Nat.zero_le _) σ1 h1
    · intro σ2 h5
      refine sgX10_likeliest_25 _ _ _ (Nat.le_refl _) hW (k10_allSets hW (h5.vr hv) ⟨hW, ?_⟩)
      exact ps_done (by rw [h5.e3]) (hq _ h5)
    · intro B hB ih σ2 h5
      have bW := WN_b (st := σ 125) (B := B) hv
      refine sgX10_likeliest_25 _ _ _ (Nat.le_refl _) hW (k10_allSets hW (h5.vr hv) ⟨hW, ?_⟩)
      refine ps_br (by rw [h5.e3]) (by omega) (by omega) (fun h => absurd h (by omega)) (fun _ => k10_weightOf hW (h5.vr hv) ⟨hW, ?_⟩)
      have h7 : RS σ (aw_u σ2 120 22 (nI B)) 0 := h5.slot (by decide)
      rw [h5.e3, h5.e5, (lg_e (by omega) (llS_b hv B)).2.2, ← nI_succ]
      simp only [llS] at ih
      refine ⟨fun h8 => ?_, fun h8 => ?_⟩
      · rw [if_pos h8] at ih; exact ih _ h7
      · rw [if_neg h8] at ih; exact ih _ h7
  · rw [if_pos h] at hq
    exact k10_no hW ⟨hW, hq _ h1.no⟩
theorem k10_leavesOf {σ0 : SG} {m : Nat} (hW : aw_WT n θ) (hS : RS σ0 σ 0) (hv : VR (σ0 123)) (hm : m < 5) (hq : ∀ σ', RS σ0 σ' 0 → σ' 120 30 = σ 120 30 → q (nI (lvN (σ0 123) (σ0 125) m (nS (σ0 123)))) n σ' τ θ) : SMi G 6 mX10_leavesOf 0 0 [.ref 120, .int (nI m)] n σ τ θ q := by
  have hb := nS_b hv
  refine ctX10_leavesOf _ (sgX10_leavesOf_0 _ (Nat.le_refl _) hW ?_)
  refine ps_up (N := nS (σ0 123)) (P := fun B => ∀ σ1, RS σ0 σ1 0 → σ1 120 30 = σ 120 30 → SW G 6 mX10_leavesOf (aw_qi q) 0 0 4 [some (.ref 120), some (.int (nI m)), some (.int (nI (lvN (σ0 123) (σ0 125) m B))), some (.int (nI B)), none, none, none] [] (n, σ1, τ, θ)) ?_ ?_ 0 (Nat.zero_le _) σ hS rfl
  · intro σ1 h1 e1
    refine sgX10_leavesOf_4 _ _ _ (Nat.le_refl _) hW (k10_allSets hW (h1.vr hv) ⟨hW, ?_⟩)
    exact ps_done (by rw [h1.e3]) (hq _ h1 e1)
  · intro B hB ih σ1 h1 e1
    have bW := WN_b (st := σ0 125) (B := B) hv
    have bW2 : WN (σ0 123) (σ0 125) B < 2 ^ 63 := by omega
    refine sgX10_leavesOf_4 _ _ _ (Nat.le_refl _) hW (k10_allSets hW (h1.vr hv) ⟨hW, ?_⟩)
    refine ps_br (by rw [h1.e3]) (by omega) (by omega) (fun h => absurd h (by omega)) (fun _ => k10_weightOf hW (h1.vr hv) ⟨hW, ?_⟩)
    have h7 : RS σ0 (aw_u σ1 120 22 (nI B)) 0 := h1.slot (by decide)
    have eb : (aw_u σ1 120 22 (nI B)) 120 22 = nI B := aw_u_eq
    have e7 : (aw_u σ1 120 22 (nI B)) 120 30 = σ 120 30 := by rw [aw_u_nk (by decide)]; exact e1
    rw [h1.e3, h1.e5, (lg_0 bW2).1, ← nI_succ]
    generalize aw_u σ1 120 22 (nI B) = σ3 at h7 eb e7 ⊢
    simp only [lvN] at ih
    refine ⟨fun h0 => ?_, fun h0 => ?_⟩
    · rw [if_pos (by omega)] at ih
      refine k10_headOf hW isA_st (h7.vr hv) hm ⟨hW, ?_⟩
      rw [h7.e3, h7.e5, eb]
      refine ps_up (N := nS (σ0 123)) (P := fun C => ∀ σ1, RS σ0 σ1 0 → σ1 120 30 = σ 120 30 → SW G 6 mX10_leavesOf (aw_qi q) 0 0 42 [some (.ref 120), some (.int (nI m)), some (.int (nI (lvN (σ0 123) (σ0 125) m B))), some (.int (nI B)), some (.int (s_hB (σ0 123) (σ0 125) (σ0 125 12) (nI B) m)), some (.int (nI (sm (alN (σ0 123) (σ0 125) m B) C))), some (.int (nI C))] [] (n, σ1, τ, θ)) ?_ ?_ 0 (Nat.zero_le _) σ3 h7 e7
      · intro σ4 h8 e8
        refine sgX10_leavesOf_42 _ _ _ _ _ _ (Nat.le_refl _) hW (k10_allSets hW (h8.vr hv) ⟨hW, ?_⟩)
        refine ps_done (by rw [h8.e3]) ?_
        have ba := sm_al_le (r := σ0 123) (st := σ0 125) (m := m) (B := B) (nS (σ0 123))
        have bl := lvN_b (st := σ0 125) (m := m) hv B
        rw [nI_leI (by omega) (by omega), ← nI_succ]
        refine ⟨fun h9 => ?_, fun h9 => ?_⟩
        · rw [Nat.max_eq_left (by omega)] at ih; exact ih _ h8 e8
        · rw [Nat.max_eq_right (by omega)] at ih; exact ih _ h8 e8
      · intro C hC ihC σ4 h8 e8
        have bC := WN_b (st := σ0 125) (B := C) hv
        have bC2 : WN (σ0 123) (σ0 125) C < 2 ^ 63 := by omega
        refine sgX10_leavesOf_42 _ _ _ _ _ _ (Nat.le_refl _) hW (k10_allSets hW (h8.vr hv) ⟨hW, ?_⟩)
        refine ps_br (by rw [h8.e3]) (by omega) (by omega) (fun h => absurd h (by omega)) (fun _ => k10_weightOf hW (h8.vr hv) ⟨hW, ?_⟩)
        have h9 : RS σ0 (aw_u σ4 120 22 (nI C)) 0 := h8.slot (by decide)
        have ec : (aw_u σ4 120 22 (nI C)) 120 22 = nI C := aw_u_eq
        have e9 : (aw_u σ4 120 22 (nI C)) 120 30 = σ 120 30 := by rw [aw_u_nk (by decide)]; exact e8
        rw [h8.e3, h8.e5, (lg_0 bC2).2.1, ← nI_succ]
        generalize aw_u σ4 120 22 (nI C) = σ5 at h9 ec e9 ⊢
        simp only [sm] at ihC
        refine ⟨fun h10 => ?_, fun h10 => k10_headOf hW isA_st (h9.vr hv) hm ⟨hW, ?_⟩⟩
        · rw [show alN (σ0 123) (σ0 125) m B C = 0 from if_neg (fun e => absurd e.1 (by omega)), Nat.add_zero] at ihC
          rw [Int32.add_zero]
          exact ihC _ h9 e9
        · rw [h9.e3, h9.e5, ec]
          refine ⟨fun h11 => ?_, fun h11 => ?_⟩
          · rw [show alN (σ0 123) (σ0 125) m B C = 0 from if_neg (fun e => h11 e.2), Nat.add_zero] at ihC
            rw [Int32.add_zero]
            exact ihC _ h9 e9
          · rw [show alN (σ0 123) (σ0 125) m B C = 1 from if_pos ⟨by omega, h11⟩] at ihC
            rw [nI_1]
            exact ihC _ h9 e9
    · rw [if_neg (by omega)] at ih
      exact ih _ h7 e7
theorem k10_lookOf {σ0 : SG} (hW : aw_WT n θ) (hS : RS σ0 σ 0) (hv : VR (σ0 123)) (h0 : 0 < nM (σ0 123)) (hq : ∀ σ', RS σ0 σ' 0 → q (lookS (σ0 123) (σ0 125)) n σ' τ θ) : SMi G 7 mX10_lookOf 0 0 [.ref 120] n σ τ θ q := by
  have hb := nS_b hv
  have h5 := hv.m5
  have bF := sm_fit_le (r := σ0 123) (st := σ0 125) (nS (σ0 123))
  have bF : FN (σ0 123) (σ0 125) ≤ nS (σ0 123) := bF
  unfold lookS at hq
  refine ctX10_lookOf (sgX10_lookOf_0 (Nat.le_refl _) hW ?_)
  refine k10_seekFits hW hS hv (fun σ1 h1 e1 => ⟨hW, ?_⟩)
  have e4 : σ1 123 4 = nI (nM (σ0 123)) := by rw [h1.e3]; exact hv.m
  refine sgX10_lookOf_11 _ _ (Nat.le_refl _) hW (ps_br (j := 0) e4 (by omega) (by omega) (fun h => absurd h (by omega)) (fun _ => ?_))
  rw [e1]
  refine ⟨fun h => ?_, fun h => ⟨fun _ => ?_, fun h2 => absurd (by decide) h2⟩⟩
  · have h : FN (σ0 123) (σ0 125) ≤ 0 := (nI_leI (b := 0) (by omega) (by omega)).mp h
    rw [if_pos (by omega)] at hq
    exact hq _ h1
  · have h : ¬ FN (σ0 123) (σ0 125) ≤ 0 := fun e => h ((nI_leI (b := 0) (by omega) (by omega)).mpr e)
    rw [if_neg (by omega)] at hq
    refine ps_up (N := nM (σ0 123) - 1) (P := fun j => ∀ σ1, RS σ0 σ1 0 → σ1 120 30 = nI (FN (σ0 123) (σ0 125)) → SW G 7 mX10_lookOf (aw_qi q) 0 0 11 [some (.ref 120), some (.int (nI (lkS (σ0 123) (σ0 125) j))), some (.int (nI (j + 1)))] [] (n, σ1, τ, θ)) ?_ ?_ 0 (Nat.zero_le _) σ1 h1 e1
    · intro σ1 h1 e1
      have e4 : σ1 123 4 = nI (nM (σ0 123)) := by rw [h1.e3]; exact hv.m
      exact sgX10_lookOf_11 _ _ (Nat.le_refl _) hW (ps_br e4 (by omega) (by omega) (fun _ => hq _ h1) (fun h => absurd h (by omega)))
    · intro j hj ih σ1 h1 e1
      have e4 : σ1 123 4 = nI (nM (σ0 123)) := by rw [h1.e3]; exact hv.m
      refine sgX10_lookOf_11 _ _ (Nat.le_refl _) hW (ps_br e4 (by omega) (by omega) (fun h => absurd h (by omega)) (fun _ => ?_))
      have bk := lkS_le (r := σ0 123) (st := σ0 125) j
      rw [e1, ← nI_succ (j + 1)]
      refine ⟨fun h9 => absurd h9 (nI_nle (by omega) (by omega)), fun _ => ⟨fun h9 => absurd h9 (nI_pos (by omega)), fun _ => ?_⟩⟩
      refine k10_leavesOf hW h1 hv (by omega) (fun σ2 h2 e2 => ⟨hW, k10_leavesOf hW h2 hv (by omega) (fun σ3 h3 e3 => ⟨hW, ?_⟩)⟩)
      have b1 := lvN_b (st := σ0 125) (m := j + 1) hv (nS (σ0 123))
      have b2 := lvN_b (st := σ0 125) (m := lkS (σ0 123) (σ0 125) j) hv (nS (σ0 123))
      have e5 : σ3 120 30 = nI (FN (σ0 123) (σ0 125)) := by rw [e3, e2, e1]
      rw [nI_leI (by omega) (by omega)]
      simp only [lkS] at ih
      refine ⟨fun h9 => ?_, fun h9 => ?_⟩
      · rw [if_neg (by omega)] at ih; exact ih _ h3 e5
      · rw [if_pos (by omega)] at ih; exact ih _ h3 e5
theorem p10_look (hW : aw_WT n θ) (hv : VR (σ 123)) (hH : HR σ (σ 123)) (hq : ∀ σ', RS σ σ' (sp_look (σ 123) (σ 125)).2 → q (sp_look (σ 123) (σ 125)).1 n σ' τ θ) : SMi G 8 mX10_look 0 0 [.ref 120] n σ τ θ q := by
  unfold sp_look at hq
  refine ctX10_look (sgX10_look_0 (Nat.le_refl _) hW ?_)
  refine k10_good' hW (fun σ1 h1 => ⟨hW, ?_⟩)
  rw [h1.has, hH.iff]
  refine ⟨fun h => ?_, fun h => ?_⟩
  · rw [if_pos h] at hq
    exact k10_no hW ⟨hW, hq _ h1.no⟩
  · rw [if_neg h] at hq
    exact k10_lookOf hW h1 hv (by omega) (fun σ2 h2 => ⟨hW, hq _ h2⟩)
theorem p10_leaves (hW : aw_WT n θ) (hv : VR (σ 123)) (hH : HR σ (σ 123)) (hq : ∀ σ', RS σ σ' (sp_leaves (σ 123) (σ 125)).2 → q (sp_leaves (σ 123) (σ 125)).1 n σ' τ θ) : SMi G 8 mX10_lookLeaves 0 0 [.ref 120] n σ τ θ q := by
  unfold sp_leaves at hq
  have h5 := hv.m5
  refine ctX10_lookLeaves (sgX10_lookLeaves_0 (Nat.le_refl _) hW ?_)
  refine k10_good' hW (fun σ1 h1 => ⟨hW, ?_⟩)
  rw [h1.has, hH.iff]
  refine ⟨fun h => ?_, fun h => ?_⟩
  · rw [if_neg h] at hq
    refine k10_lookOf hW h1 hv (by omega) (fun σ2 h2 => ⟨hW, ?_⟩)
    have bl := lkS_le (r := σ 123) (st := σ 125) (nM (σ 123) - 1)
    unfold lookS
    by_cases h0 : FN (σ 123) (σ 125) = 0
    · rw [if_pos h0] at hq ⊢
      exact ⟨fun h9 => absurd h9 (by decide), fun _ => hq _ h2⟩
    · rw [if_neg h0] at hq ⊢
      exact ⟨fun _ => k10_leavesOf hW h2 hv (by omega) (fun σ4 h4 _ => ⟨hW, hq _ h4⟩), fun h9 => absurd (nI_pos' (by omega)) h9⟩
  · rw [if_pos h] at hq
    exact k10_no hW ⟨hW, hq _ h1.no⟩
end OddP
