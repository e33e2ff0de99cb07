/-! ===== public methods, first group ===== -/
/-- the class's side after a question: told trouble w, scratch apart as before -/
def CS (σ σ' : SG) (w : Int32) : Prop := (∀ o, (o < 69 ∨ 83 < o) → o ≠ 1 → σ' o = σ o) ∧ (∀ s, s ≠ 10 → σ' 1 s = σ 1 s) ∧ σ' 1 10 = w
/-- the reference's side after a question -/
def RS (σ σ' : SG) (w : Int32) : Prop := (∀ o, (o < 120 ∨ o = 121 ∨ o = 123 ∨ o = 125 ∨ o = 126 ∨ o = 127 ∨ 132 < o) → σ' o = σ o) ∧ (∀ s, s ∈ [2, 9, 10, 14, 20, 21] → σ' 120 s = σ 120 s) ∧ σ' 120 11 = w
theorem aw_uo {α : Type} {f : Nat → Nat → α} {o k o' : Nat} {v : α} (h : o' ≠ o) : aw_u f o k v o' = f o' := funext (fun _ => aw_u_ne h)
theorem CS.tr (σ : SG) (w : Int32) : CS σ (aw_u σ 1 10 w) w := ⟨fun _ _ h => aw_uo h, fun _ h => aw_u_nk h, aw_u_eq⟩
theorem RS.e3 {σ σ' : SG} {w : Int32} (h : RS σ σ' w) : σ' 123 = σ 123 := h.1 123 (by omega)
theorem RS.e5 {σ σ' : SG} {w : Int32} (h : RS σ σ' w) : σ' 125 = σ 125 := h.1 125 (by omega)
theorem RS.has {σ σ' : SG} {w : Int32} (h : RS σ σ' w) : σ' 120 14 = σ 120 14 := h.2.1 14 (by decide)
theorem RS.no {σ σ' : SG} {w x : Int32} (h : RS σ σ' w) : RS σ (aw_u σ' 120 11 x) x := ⟨fun o ho => (aw_uo (by omega)).trans (h.1 o ho), fun s hs => (aw_u_nk (by intro e; subst e; revert hs; decide)).trans (h.2.1 s hs), aw_u_eq⟩
theorem RS.slot {σ σ' : SG} {w x : Int32} {s : Nat} (h : RS σ σ' w) (hs : s ∉ [2, 9, 10, 11, 14, 20, 21]) : RS σ (aw_u σ' 120 s x) w := ⟨fun o ho => (aw_uo (by omega)).trans (h.1 o ho), fun s' hs' => (aw_u_nk (by intro e; subst e; exact hs (by simp only [List.mem_cons, List.not_mem_nil, or_false] at hs' ⊢; omega))).trans (h.2.1 s' hs'), (aw_u_nk (by intro e; subst e; exact hs (by decide))).trans h.2.2⟩
theorem RS.obj {σ σ' σ'' : SG} {w : Int32} (h : RS σ σ' w) (ho : ∀ o, (o < 122 ∨ o = 123 ∨ o = 125 ∨ o = 126 ∨ o = 127 ∨ 132 < o) → σ'' o = σ' o) : RS σ σ'' w := ⟨fun o h1 => (ho o (by omega)).trans (h.1 o h1), fun s hs => by rw [ho 120 (by omega)]; exact h.2.1 s hs, by rw [ho 120 (by omega)]; exact h.2.2⟩
section Pub1
variable {G : GG} {n : Nat} {σ : SG} {τ : TU} {θ : TH} {r st : Nat → Int32} {q : Int32 → Nat → SG → TU → TH → Prop} {qv : Nat → SG → TU → TH → Prop}
theorem k10_good' (hW : aw_WT n θ) (hq : ∀ σ', RS σ σ' 0 → qv n σ' τ θ) : SMv G 1 mX10_good 0 0 [.ref 120] n σ τ θ qv :=
  k10_good hW (hq _ ⟨fun o ho => (aw_uo (by omega)).trans (aw_uo (by omega)), fun s hs => (aw_u_nk (by intro e; subst e; revert hs; decide)).trans (aw_u_nk (by intro e; subst e; revert hs; decide)), aw_u_eq⟩)
theorem k9_refuse {x : Int32} (hW : aw_WT n θ) (hq : q (-1) n (aw_u σ 1 10 x) τ θ) : SMi G 1 mX9_refuse 0 0 [.ref 1, .int x] n σ τ θ q := ctX9_refuse x (sgX9_refuse_0 x (Nat.le_refl _) hW hq)
theorem k9_grant {x : Int32} (hW : aw_WT n θ) (hq : q x n (aw_u σ 1 10 0) τ θ) : SMi G 1 mX9_grant 0 0 [.ref 1, .int x] n σ τ θ q := ctX9_grant x (sgX9_grant_0 x (Nat.le_refl _) hW hq)
theorem isM_now : isM 6 := by unfold isM; decide
theorem isM_dream : isM 81 := by unfold isM; decide
theorem ps_nI0 {N : Nat} (hN : N < 1000) : nI N = 0 ↔ N = 0 := by
  rw [← nI_0]
  exact nI_eq (by omega) (by omega)
theorem k9_noDuchy (hW : aw_WT n θ) (hF : FR σ (θ 1 7) r) (hv : VR r) (hq : q (if nM r = 0 then 1 else 0) n σ τ θ) : SMi G 1 mX9_noDuchy 0 0 [.ref 1] n σ τ θ q := by
  have h5 := hv.m5
  refine ctX9_noDuchy (sgX9_noDuchy_0 (Nat.le_refl _) hW ?_)
  rw [hF.1.2.2.2.2.1, hv.m, ps_nI0 (by omega)]
  refine ⟨fun h => ?_, fun h => ?_⟩
  · rwa [if_neg h] at hq
  · rwa [if_pos h] at hq
theorem s_in_lt {x c : Int32} {N : Nat} (hN : N < 1000) (hc : c = nI N) : (¬ x < 0 ∧ ¬ c ≤ x) ↔ s_in x N = true := by
  subst hc
  unfold s_in
  rw [Bool.and_eq_true, decide_eq_true_eq, decide_eq_true_eq, Int32.not_lt, Int32.not_le]
theorem k9_isMan {x : Int32} (hW : aw_WT n θ) (hF : FR σ (θ 1 7) r) (hv : VR r) (hq : q (if s_in x (nM r) = true then 1 else 0) n σ τ θ) : SMi G 1 mX9_isMan 0 0 [.ref 1, .int x] n σ τ θ q := by
  have h5 := hv.m5
  have e : σ (θ 1 7) 13 = nI (nM r) := hF.1.2.2.2.2.1.trans hv.m
  refine ctX9_isMan x (sgX9_isMan_0 x (Nat.le_refl _) hW ⟨fun h => ?_, fun h => ⟨fun h2 => ?_, fun h2 => ?_⟩⟩)
  · rwa [if_neg (fun e2 => ((s_in_lt (by omega) e).mpr e2).1 h)] at hq
  · rwa [if_neg (fun e2 => ((s_in_lt (by omega) e).mpr e2).2 h2)] at hq
  · rwa [if_pos ((s_in_lt (by omega) e).mp ⟨h, h2⟩)] at hq
theorem k9_isDebt {x : Int32} (hW : aw_WT n θ) (hF : FR σ (θ 1 7) r) (hv : VR r) (hq : q (if s_in x (nD r) = true then 1 else 0) n σ τ θ) : SMi G 1 mX9_isDebt 0 0 [.ref 1, .int x] n σ τ θ q := by
  have h5 := hv.d7
  have e : σ (θ 1 7 + 8) 4 = nI (nD r) := hF.1.2.2.2.2.2.1.trans hv.d
  refine ctX9_isDebt x (sgX9_isDebt_0 x (Nat.le_refl _) hW ⟨fun h => ?_, fun h => ⟨fun h2 => ?_, fun h2 => ?_⟩⟩)
  · rwa [if_neg (fun e2 => ((s_in_lt (by omega) e).mpr e2).1 h)] at hq
  · rwa [if_neg (fun e2 => ((s_in_lt (by omega) e).mpr e2).2 h2)] at hq
  · rwa [if_pos ((s_in_lt (by omega) e).mp ⟨h, h2⟩)] at hq
theorem k9_isDoor {x : Int32} (hW : aw_WT n θ) (hF : FR σ (θ 1 7) r) (hv : VR r) (hq : q (if s_in x (nO r) = true then 1 else 0) n σ τ θ) : SMi G 1 mX9_isDoor 0 0 [.ref 1, .int x] n σ τ θ q := by
  have h5 := hv.o4
  have e : σ (θ 1 7) 14 = nI (nO r) := hF.1.2.2.2.2.2.2.2.1.trans hv.o
  refine ctX9_isDoor x (sgX9_isDoor_0 x (Nat.le_refl _) hW ⟨fun h => ?_, fun h => ⟨fun h2 => ?_, fun h2 => ?_⟩⟩)
  · rwa [if_neg (fun e2 => ((s_in_lt (by omega) e).mpr e2).1 h)] at hq
  · rwa [if_neg (fun e2 => ((s_in_lt (by omega) e).mpr e2).2 h2)] at hq
  · rwa [if_pos ((s_in_lt (by omega) e).mp ⟨h, h2⟩)] at hq
theorem k9_headNow {m : Nat} (hW : aw_WT n θ) (hF : FR σ (θ 1 7) r) (hM : MR σ 6 st) (hv : VR r) (hm : m < nM r) (hq : q (s_hd r st (st 12) m) n σ τ θ) : SMi G 4 mX9_headNow 0 0 [.ref 1, .int (nI m)] n σ τ θ q := by
  refine ctX9_headNow (nI m) (sgX9_headNow_0 (nI m) (Nat.le_refl _) hW ?_)
  rw [hM.2.2]
  exact k1_headOf hW.f isM_now hW hF hM hv hm ⟨hW, hq⟩
theorem k10_isMan {x : Int32} (hW : aw_WT n θ) (hv : VR (σ 123)) (hH : HR σ (σ 123)) (hq : q (if s_in x (nM (σ 123)) = true then 1 else 0) n σ τ θ) : SMi G 2 mX10_isMan 0 0 [.ref 120, .int x] n σ τ θ q := by
  have h5 := hv.m5
  refine ctX10_isMan x (sgX10_isMan_0 x (Nat.le_refl _) hW ⟨fun h => ?_, fun h => ?_⟩)
  · rcases hH with ⟨-, h0⟩ | ⟨h1, -⟩
    · rwa [if_neg (fun e => by obtain ⟨j, hj, -⟩ := (s_in_iff (by omega)).mp e; omega)] at hq
    · rw [h1] at h; exact absurd h (by decide)
  · rcases hH with ⟨h1, -⟩ | ⟨-, h0⟩
    · exact absurd h1 h
    · rw [hv.m]
      refine k10_in hW ⟨hW, ps_b (fun h2 => ?_) (fun h2 => ?_)⟩
      · rwa [if_neg (fun e => h2 ((s_in_pred (by omega) h0).mpr e))] at hq
      · rwa [if_pos ((s_in_pred (by omega) h0).mp h2)] at hq
theorem k10_isDoor {x : Int32} (hW : aw_WT n θ) (hv : VR (σ 123)) (hH : HR σ (σ 123)) (hq : q (if s_in x (nO (σ 123)) = true then 1 else 0) n σ τ θ) : SMi G 2 mX10_isDoor 0 0 [.ref 120, .int x] n σ τ θ q := by
  have h5 := hv.o4
  refine ctX10_isDoor x (sgX10_isDoor_0 x (Nat.le_refl _) hW ⟨fun h => ?_, fun h => ?_⟩)
  · rcases hH with ⟨-, h0⟩ | ⟨h1, -⟩
    · have h0 := (hv.zero h0).2.2.1
      rwa [if_neg (fun e => by obtain ⟨j, hj, -⟩ := (s_in_iff (by omega)).mp e; omega)] at hq
    · rw [h1] at h; exact absurd h (by decide)
  · rw [hv.o]
    refine k10_in hW ⟨hW, ps_b (fun h2 => ?_) (fun h2 => ?_)⟩
    · rwa [if_neg (fun e => h2 (by
        obtain ⟨j, hj, -⟩ := (s_in_iff (by omega)).mp e
        exact (s_in_pred (by omega) (by omega)).mpr e))] at hq
    · rcases Nat.eq_zero_or_pos (nO (σ 123)) with h0 | h0
      · rw [h0] at h2
        exact absurd h2 (by
          rintro ⟨h3, h4⟩
          exact h4 (Int32.lt_of_lt_of_le (show nI 0 - 1 < 0 by decide) (Int32.not_lt.mp h3)))
      · rwa [if_pos ((s_in_pred (by omega) h0).mp h2)] at hq
theorem k10_isDebt {x : Int32} (hW : aw_WT n θ) (hv : VR (σ 123)) (hH : HR σ (σ 123)) (hq : q (if s_in x (nD (σ 123)) = true then 1 else 0) n σ τ θ) : SMi G 2 mX10_isDebt 0 0 [.ref 120, .int x] n σ τ θ q := by
  have h5 := hv.d7
  refine ctX10_isDebt x (sgX10_isDebt_0 x (Nat.le_refl _) hW ⟨fun h => ?_, fun h => ?_⟩)
  · rcases hH with ⟨-, h0⟩ | ⟨h1, -⟩
    · have h0 := (hv.zero h0).1
      rwa [if_neg (fun e => by obtain ⟨j, hj, -⟩ := (s_in_iff (by omega)).mp e; omega)] at hq
    · rw [h1] at h; exact absurd h (by decide)
  · rw [hv.d]
    refine k10_in hW ⟨hW, ps_b (fun h2 => ?_) (fun h2 => ?_)⟩
    · rwa [if_neg (fun e => h2 (by
        obtain ⟨j, hj, -⟩ := (s_in_iff (by omega)).mp e
        exact (s_in_pred (by omega) (by omega)).mpr e))] at hq
    · rcases Nat.eq_zero_or_pos (nD (σ 123)) with h0 | h0
      · rw [h0] at h2
        exact absurd h2 (by
          rintro ⟨h3, h4⟩
          exact h4 (Int32.lt_of_lt_of_le (show nI 0 - 1 < 0 by decide) (Int32.not_lt.mp h3)))
      · rwa [if_pos ((s_in_pred (by omega) h0).mp h2)] at hq
theorem HR.iff {r : Nat → Int32} (h : HR σ r) : σ 120 14 = 0 ↔ nM r = 0 := by
  rcases h with ⟨h1, h2⟩ | ⟨h1, h2⟩
  · exact ⟨fun _ => h2, fun _ => h1⟩
  · exact ⟨fun e => by rw [h1] at e; exact absurd e (by decide), fun e => by omega⟩
theorem RS.hr {σ' : SG} {w : Int32} (h : RS σ σ' w) (hH : HR σ (σ 123)) : HR σ' (σ' 123) := by
  unfold HR at hH ⊢
  rw [h.has, h.e3]
  exact hH
theorem RS.vr {σ' : SG} {w : Int32} (h : RS σ σ' w) (hv : VR (σ 123)) : VR (σ' 123) := by rw [h.e3]; exact hv
/-! heads, greatest, bald -/
def sp_heads (r st : Nat → Int32) : Int32 × Int32 := if nM r = 0 then (-1, 1) else (s_all r st (st 12) (nM r), 0)
theorem p9_heads (hW : aw_WT n θ) (hF : FR σ (θ 1 7) r) (hM : MR σ 6 st) (hv : VR r) (hq : ∀ σ' τ', CS σ σ' (sp_heads r st).2 → q (sp_heads r st).1 n σ' τ' θ) : SMi G 5 mX9_heads 0 0 [.ref 1] n σ τ θ q := by
  unfold sp_heads at hq
  refine ctX9_heads (sgX9_heads_0 (Nat.le_refl _) hW ?_)
  refine k9_noDuchy hW hF hv ⟨hW, ps_b (fun h => ?_) (fun h => ?_)⟩
  · rw [if_neg h] at hq
    rw [hM.2.2]
    exact k1_allHeads hW.f isM_now hW hF hM hv ⟨hW, k9_grant hW ⟨hW, hq _ _ (CS.tr _ _)⟩⟩
  · rw [if_pos h] at hq
    exact k9_refuse hW ⟨hW, hq _ _ (CS.tr _ _)⟩
theorem p10_heads (hW : aw_WT n θ) (hv : VR (σ 123)) (hH : HR σ (σ 123)) (hq : ∀ σ', RS σ σ' (sp_heads (σ 123) (σ 125)).2 → q (sp_heads (σ 123) (σ 125)).1 n σ' τ θ) : SMi G 6 mX10_heads 0 0 [.ref 120] n σ τ θ q := by
  unfold sp_heads at hq
  refine ctX10_heads (sgX10_heads_0 (Nat.le_refl _) hW ?_)
  refine k10_good' hW (fun σ1 h1 => ⟨hW, ?_⟩)
  have h2 := h1.slot (s := 22) (x := 0) (by decide)
  have hb : (aw_u σ1 120 22 0) 120 22 = 0 := aw_u_eq
  generalize aw_u σ1 120 22 0 = σ2 at h2 hb ⊢
  rw [h2.has, hH.iff]
  refine ⟨fun h => ?_, fun h => ?_⟩
  · rw [if_pos h] at hq
    exact k10_no hW ⟨hW, hq _ h2.no⟩
  · rw [if_neg h] at hq
    refine k10_headsOf hW isA_st (h2.vr hv) hb ⟨hW, ?_⟩
    rw [h2.e3, h2.e5]
    exact hq _ h2
end Pub1
