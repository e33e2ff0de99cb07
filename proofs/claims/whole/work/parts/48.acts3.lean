/-! ===== acts: undo, image, back ===== -/
theorem RI.cp {σ α : SG} (h : RI σ α) {a i b j m : Nat} (ha : a = 125 ∨ a = 126 ∨ a = 127) : RI (s_cp σ a i b j m) (s_cp α a i b j m) := by
  intro o k hk
  unfold s_cp
  split
  · exact h a _ (Or.inl (by omega))
  · exact h o k hk
theorem VS.c {row row' : Nat → Int32} (h : VS row) (e : ∀ k, k < 13 → row' k = row k) : VS row' := by
  refine ⟨fun k hk => ?_, ?_⟩
  · rw [e k (by omega)]; exact h.1 k hk
  · rw [e 12 (by omega)]; exact h.2
theorem AI.of {α β : SG} (h : AI α) (hm : 0 < nM (α 123)) (e3 : β 123 = α 123) (e14 : β 120 14 = α 120 14) (e2 : β 120 2 = α 120 2) (h5 : VS (β 125)) (hu : β 120 20 = nI (uN β) ∧ uN β ≤ 16) (hc : β 120 21 = nI (cN β) ∧ cN β ≤ 3) (hun : ∀ i, i < uN β → VS (fun k => β 126 (13 * i + k))) (him : ∀ i, i < cN β → VS (fun k => β 127 (13 * i + k))) : AI β := by
  refine ⟨?_, h5, ?_, hu, hc, hun, him, ?_, fun h0 => ?_⟩
  · rw [e3]; exact h.v
  · have := h.h
    unfold HR at this ⊢
    rw [e3, e14]; exact this
  · have := h.f
    unfold fN at this ⊢
    rw [e2]; exact this
  · rw [e3] at h0; omega
def unF (γ : SG) : SG := s_cp (aw_u γ 120 20 (γ 120 20 - 1)) 126 (13 * (uN γ - 1)) 125 0 13
def imF (γ : SG) : SG := aw_u (s_cp γ 125 0 127 (13 * cN γ) 13) 120 21 (γ 120 21 + 1)
def bkF (γ : SG) (j : Nat) : SG := aw_u (s_cp γ 127 (13 * j) 125 0 13) 120 20 0
def sp_undo (α : SG) : Int32 × SG := if uN α = 0 then (0, tr_ α 6) else (1, unF (tr_ α 0))
def sp_image (α : SG) : Int32 × SG := if nM (α 123) = 0 then (-1, tr_ α 1) else if cN α = 3 then (-1, tr_ α 3) else (nI (cN α), imF (tr_ α 0))
def sp_back (α : SG) (x : Int32) : Int32 × SG := if s_in x (cN α) = true then (1, bkF (tr_ α 0) x.toNatClampNeg) else (0, tr_ α 1)
theorem cp_o {γ : SG} {a i b j m o : Nat} (h : o ≠ b) : s_cp γ a i b j m o = γ o := funext fun _ => s_cp_out h
theorem uN_tr {α : SG} {w : Int32} : uN (tr_ α w) = uN α := by unfold uN; rw [tr_k (by omega)]
theorem cN_tr {α : SG} {w : Int32} : cN (tr_ α w) = cN α := by unfold cN; rw [tr_k (by omega)]
theorem AI.mu {α : SG} (h : AI α) (hu : ¬ uN α = 0) : 0 < nM (α 123) := by
  refine Nat.pos_of_ne_zero (fun h0 => hu ?_)
  unfold uN
  rw [(h.z h0).2.2.1]
  rfl
theorem AI.mc {α : SG} (h : AI α) (hu : ¬ cN α = 0) : 0 < nM (α 123) := by
  refine Nat.pos_of_ne_zero (fun h0 => hu ?_)
  unfold cN
  rw [(h.z h0).2.2.2]
  rfl
/-! what the three leave -/
theorem unF_p {α : SG} (hA : AI α) (hu : ¬ uN α = 0) : unF (tr_ α 0) 120 20 = nI (uN α - 1) ∧ uN (unF (tr_ α 0)) = uN α - 1 ∧ (∀ k, k ≠ 20 → k ≠ 11 → unF (tr_ α 0) 120 k = α 120 k) ∧ unF (tr_ α 0) 120 11 = 0 ∧ (∀ o, o ≠ 120 → o ≠ 125 → unF (tr_ α 0) o = α o) ∧ ∀ k, k < 13 → unF (tr_ α 0) 125 k = α 126 (13 * (uN α - 1) + k) := by
  obtain ⟨eu, hu16⟩ := hA.u
  have e20 : unF (tr_ α 0) 120 20 = nI (uN α - 1) := by
    unfold unF
    rw [s_cp_out (by omega), aw_u_eq, tr_k (by omega), eu]
    obtain ⟨c, hc⟩ := Nat.exists_eq_succ_of_ne_zero hu
    rw [hc]
    exact nI_pred c
  refine ⟨e20, ?_, fun k h1 h2 => ?_, ?_, fun o h1 h2 => ?_, fun k hk => ?_⟩
  · show (unF (tr_ α 0) 120 20).toNatClampNeg = _
    rw [e20, ps_cl (by omega)]
  · unfold unF
    rw [s_cp_out (by omega), aw_u_nk h1, tr_k h2]
  · unfold unF
    rw [s_cp_out (by omega), aw_u_nk (by omega), tr_w]
  · unfold unF
    rw [cp_o h2, aw_uo h1, tr_o h1]
  · unfold unF
    rw [s_cp_in (by omega) (by omega), aw_uo (by omega), tr_o (by omega), uN_tr]
    rfl
theorem imF_p {α : SG} (hA : AI α) (hc : ¬ cN α = 3) : imF (tr_ α 0) 120 21 = nI (cN α + 1) ∧ cN (imF (tr_ α 0)) = cN α + 1 ∧ (∀ k, k ≠ 21 → k ≠ 11 → imF (tr_ α 0) 120 k = α 120 k) ∧ imF (tr_ α 0) 120 11 = 0 ∧ (∀ o, o ≠ 120 → o ≠ 127 → imF (tr_ α 0) o = α o) ∧ (∀ i k, i < cN α → k < 13 → imF (tr_ α 0) 127 (13 * i + k) = α 127 (13 * i + k)) ∧ ∀ k, k < 13 → imF (tr_ α 0) 127 (13 * cN α + k) = α 125 k := by
  obtain ⟨ec, hc3⟩ := hA.c
  have e21 : imF (tr_ α 0) 120 21 = nI (cN α + 1) := by
    unfold imF
    rw [aw_u_eq, tr_k (by omega), ec, nI_1]
  refine ⟨e21, ?_, fun k h1 h2 => ?_, ?_, fun o h1 h2 => ?_, fun i k hi hk => ?_, fun k hk => ?_⟩
  · show (imF (tr_ α 0) 120 21).toNatClampNeg = _
    rw [e21, ps_cl (by omega)]
  · unfold imF
    rw [aw_u_nk h1, s_cp_out (by omega), tr_k h2]
  · unfold imF
    rw [aw_u_nk (by omega), s_cp_out (by omega), tr_w]
  · unfold imF
    rw [aw_uo h1, cp_o h2, tr_o h1]
  · unfold imF
    rw [aw_uo (by omega), cN_tr, s_cp_off (by omega), tr_o (by omega)]
  · unfold imF
    rw [aw_uo (by omega), cN_tr, s_cp_in (by omega) (by omega), tr_o (by omega)]
    exact congrArg (α 125) (by omega)
theorem bkF_p {α : SG} {j : Nat} : bkF (tr_ α 0) j 120 20 = 0 ∧ uN (bkF (tr_ α 0) j) = 0 ∧ (∀ k, k ≠ 20 → k ≠ 11 → bkF (tr_ α 0) j 120 k = α 120 k) ∧ bkF (tr_ α 0) j 120 11 = 0 ∧ (∀ o, o ≠ 120 → o ≠ 125 → bkF (tr_ α 0) j o = α o) ∧ ∀ k, k < 13 → bkF (tr_ α 0) j 125 k = α 127 (13 * j + k) := by
  have e20 : bkF (tr_ α 0) j 120 20 = 0 := aw_u_eq
  refine ⟨e20, ?_, fun k h1 h2 => ?_, ?_, fun o h1 h2 => ?_, fun k hk => ?_⟩
  · show (bkF (tr_ α 0) j 120 20).toNatClampNeg = _
    rw [e20]
    rfl
  · unfold bkF
    rw [aw_u_nk h1, s_cp_out (by omega), tr_k h2]
  · unfold bkF
    rw [aw_u_nk (by omega), s_cp_out (by omega), tr_w]
  · unfold bkF
    rw [aw_uo h1, cp_o h2, tr_o h1]
  · unfold bkF
    rw [aw_uo (by omega), s_cp_in (by omega) (by omega), tr_o (by omega)]
    exact congrArg (α 127) (by omega)
theorem AI.un' {α : SG} (hA : AI α) (hu : ¬ uN α = 0) : AI (unF (tr_ α 0)) := by
  obtain ⟨p1, p2, p3, p4, p5, p6⟩ := unF_p hA hu
  have hu16 := hA.u.2
  have ec : cN (unF (tr_ α 0)) = cN α := by unfold cN; rw [p3 21 (by omega) (by omega)]
  refine hA.of (hA.mu hu) (p5 123 (by omega) (by omega)) (p3 14 (by omega) (by omega)) (p3 2 (by omega) (by omega)) ?_ ⟨by rw [p2]; exact p1, by omega⟩ ?_ (fun i hi => ?_) (fun i hi => ?_)
  · exact VS.c (hA.un (i := uN α - 1) (by omega)) p6
  · rw [ec, p3 21 (by omega) (by omega)]; exact hA.c
  · rw [p5 126 (by omega) (by omega)]; exact hA.un (by omega)
  · rw [p5 127 (by omega) (by omega)]; exact hA.im (by omega)
theorem AI.im' {α : SG} (hA : AI α) (hm : 0 < nM (α 123)) (hc : ¬ cN α = 3) : AI (imF (tr_ α 0)) := by
  obtain ⟨p1, p2, p3, p4, p5, p6, p7⟩ := imF_p hA hc
  have hc3 := hA.c.2
  have eu : uN (imF (tr_ α 0)) = uN α := by unfold uN; rw [p3 20 (by omega) (by omega)]
  refine hA.of hm (p5 123 (by omega) (by omega)) (p3 14 (by omega) (by omega)) (p3 2 (by omega) (by omega)) ?_ ?_ ⟨by rw [p2]; exact p1, by omega⟩ (fun i hi => ?_) (fun i hi => ?_)
  · rw [p5 125 (by omega) (by omega)]; exact hA.m
  · rw [eu, p3 20 (by omega) (by omega)]; exact hA.u
  · rw [p5 126 (by omega) (by omega)]; exact hA.un (by omega)
  · rw [p2] at hi
    by_cases h : i = cN α
    · subst h
      exact VS.c hA.m p7
    · exact VS.c (hA.im (i := i) (by omega)) (fun k hk => p6 i k (by omega) hk)
theorem AI.bk' {α : SG} (hA : AI α) {j : Nat} (hj : j < cN α) : AI (bkF (tr_ α 0) j) := by
  obtain ⟨p1, p2, p3, p4, p5, p6⟩ := bkF_p (α := α) (j := j)
  have ec : cN (bkF (tr_ α 0) j) = cN α := by unfold cN; rw [p3 21 (by omega) (by omega)]
  refine hA.of (hA.mc (by omega)) (p5 123 (by omega) (by omega)) (p3 14 (by omega) (by omega)) (p3 2 (by omega) (by omega)) ?_ ⟨by rw [p2]; exact p1, by omega⟩ ?_ (fun i hi => ?_) (fun i hi => ?_)
  · exact VS.c (hA.im hj) p6
  · rw [ec, p3 21 (by omega) (by omega)]; exact hA.c
  · omega
  · rw [p5 127 (by omega) (by omega)]; exact hA.im (by omega)
section Acts3
variable {G : GG} {n : Nat} {σ α : SG} {τ : TU} {θ : TH} {q : Int32 → Nat → SG → TU → TH → Prop} {qv : Nat → SG → TU → TH → Prop}
theorem p9_undo (hW : aw_WT n θ) (hC : CI σ θ α) (hA : AI α) (hq : ∀ σ', CC σ σ' → CI σ' θ (sp_undo α).2 → q (sp_undo α).1 n σ' τ θ) : SMi G 3 mX9_undo 0 0 [.ref 1] n σ τ θ q := by
  unfold sp_undo at hq
  obtain ⟨nx, hnx, e4, e0, e1, hun, him⟩ := hC.2.2.1
  obtain ⟨eu, hu⟩ := hA.u
  refine ctX9_undo (sgX9_undo_0 (Nat.le_refl _) hW ?_)
  refine ctX5_takeBack 6 (sgX5_takeBack_0 6 (Nat.le_refl _) isM_now hW ?_)
  have f0 : σ 9 0 = nI (uN α) := e0.trans eu
  rw [f0, show ((0 : Int32) < nI (uN α)) ↔ 0 < uN α from nI_ltI (a := 0) (by omega) (by omega)]
  refine ⟨fun h => ?_, fun h => ?_⟩
  · rw [if_neg (by omega)] at hq
    obtain ⟨p1, p2, p3, p4, p5, p6⟩ := unF_p hA (by omega)
    have hm0 := hA.mu (by omega)
    rw [aw_u_nk (f := σ) (show (4 : Nat) ≠ 0 by decide), e4, show nI nx + 16 = nI (nx + 16) from nI_add nx 16, show nI (nx + 16) - 1 = nI (nx + 15) from nI_pred (nx + 15), ps_r16 (by omega), aw_u_eq, ps_cl (by omega)]
    have b1 : (nx + 15) % 16 < 16 := Nat.mod_lt _ (by decide)
    obtain ⟨ea, ma⟩ := aw_acts hW b1
    rw [ea]
    have fo : ∀ o, o ≠ 9 → (aw_u (aw_u σ 9 0 (nI (uN α) - 1)) 9 4 (nI ((nx + 15) % 16))) o = σ o := fun o ho => (aw_uo ho).trans (aw_uo ho)
    refine ⟨ps_in b1 (by decide), ma, ?_⟩
    have hM1 : MR (aw_u (aw_u σ 9 0 (nI (uN α) - 1)) 9 4 (nI ((nx + 15) % 16))) (12 + 3 * ((nx + 15) % 16)) (fun k => α 126 (13 * (uN α - 1) + k)) := by
      have h2 := hun (uN α - 1) (by omega)
      rw [show (nx + 16 - uN α + (uN α - 1)) % 16 = (nx + 15) % 16 by omega] at h2
      exact h2.mono (fun o _ _ => fo o (by omega))
    refine k2_copyOf isM_now ma (by omega) hW hM1 (fun σ1 h1 hM2 => ⟨hW, hW, fun h2 => absurd h2 (by decide), fun _ => ⟨Or.inr rfl, ?_⟩⟩)
    have g1 : ∀ o, o ≠ 9 → (o < 6 ∨ 8 < o) → o ≠ 1 → (aw_u σ1 1 10 0) o = σ o := fun o h2 h3 h4 => (aw_uo h4).trans ((h1 o (by omega)).trans (fo o h2))
    refine hq _ (fun o ho => g1 o (by omega) (by omega) (by omega)) ?_
    refine hC.act (β := unF (tr_ α 0)) hW.f (fun o ho => g1 o (by omega) (by omega) (by omega)) ?_ ?_ ?_ (aw_u_eq.trans p4.symm) (by rw [p4]; decide) (p5 123 (by omega) (by omega)) (p5 121 (by omega) (by omega)) (p3 2 (by omega) (by omega)) (p3 9 (by omega) (by omega))
    · rw [aw_u_nk (by decide), h1 1 (by omega), fo 1 (by omega)]
    · exact MR.c hM2.tr p6
    · have g9 : (aw_u σ1 1 10 0) 9 = (aw_u (aw_u σ 9 0 (nI (uN α) - 1)) 9 4 (nI ((nx + 15) % 16))) 9 := (aw_uo (by omega)).trans (h1 9 (by omega))
      refine ⟨(nx + 15) % 16, b1, ?_, ?_, ?_, fun i hi => ?_, fun i hi => ?_⟩
      · rw [g9, aw_u_eq]
      · rw [g9, aw_u_nk (by decide), aw_u_eq, p1]
        obtain ⟨c, hc⟩ := Nat.exists_eq_succ_of_ne_zero (show uN α ≠ 0 by omega)
        rw [hc]
        exact nI_pred c
      · rw [g9, aw_u_nk (by decide), aw_u_nk (by decide), e1, p3 21 (by omega) (by omega)]
      · rw [p2] at hi ⊢
        have h2 := hun i (by omega)
        rw [show (nx + 16 - uN α + i) % 16 = ((nx + 15) % 16 + 16 - (uN α - 1) + i) % 16 by omega] at h2
        rw [p5 126 (by omega) (by omega)]
        have b2 : ((nx + 15) % 16 + 16 - (uN α - 1) + i) % 16 < 16 := Nat.mod_lt _ (by decide)
        exact h2.mono (fun o _ _ => g1 o (by omega) (by omega) (by omega))
      · have hc3 := hA.c.2
        have ec : cN (unF (tr_ α 0)) = cN α := by unfold cN; rw [p3 21 (by omega) (by omega)]
        rw [ec] at hi
        rw [p5 127 (by omega) (by omega)]
        exact (him i hi).mono (fun o _ _ => g1 o (by omega) (by omega) (by omega))
  · rw [if_pos (by omega)] at hq
    refine ⟨hW, fun _ => ⟨Or.inl rfl, ?_⟩, fun h2 => absurd rfl h2⟩
    exact hq _ (fun o ho => aw_uo (by omega)) (hC.tr hA hW.f (by decide))
theorem k10_isNot {x : Int32} (hW : aw_WT n θ) (hq : q 0 n (aw_u σ 120 11 x) τ θ) : SMi G 1 mX10_isNot 0 0 [.ref 120, .int x] n σ τ θ q := ctX10_isNot _ (sgX10_isNot_0 _ (Nat.le_refl _) hW hq)
theorem p10_undo (hW : aw_WT n θ) (hR : RI σ α) (hA : AI α) (hq : ∀ σ', RC σ σ' → RI σ' (sp_undo α).2 → AI (sp_undo α).2 → q (sp_undo α).1 n σ' τ θ) : SMi G 2 mX10_undo 0 0 [.ref 120] n σ τ θ q := by
  unfold sp_undo at hq
  obtain ⟨eu, hu⟩ := hA.u
  refine ctX10_undo (sgX10_undo_0 (Nat.le_refl _) hW ?_)
  refine k10_good' hW (fun σ1 h1 => ⟨hW, ?_⟩)
  have r1 := hR.of h1
  have e20 : σ1 120 20 = nI (uN α) := by rw [r1.s (by omega), tr_k (by omega)]; exact eu
  have e0 : σ1 120 20 = 0 ↔ uN α = 0 := by rw [e20]; exact nI_eq (b := 0) (by omega) (by omega)
  refine ⟨fun h => ?_, fun h => ?_⟩
  · have h : ¬ uN α = 0 := fun e => h (e0.mpr e)
    rw [if_neg h] at hq
    have ep : nI (uN α) - 1 = nI (uN α - 1) := by
      obtain ⟨c, hc⟩ := Nat.exists_eq_succ_of_ne_zero h
      rw [hc]
      exact nI_pred c
    rw [aw_u_eq, e20, ep, show (13 : Int32) * nI (uN α - 1) = nI (13 * (uN α - 1)) from pk_mul 13 _]
    refine k10_copy (j := 0) (m := 13) hW isA_un isA_st (by decide) (by omega) (by decide) (by decide) (by decide) ⟨hW, ?_⟩
    refine hq _ (fun o ho => ?_) ?_ (hA.un' h)
    · rw [cp_o (by omega), aw_uo (by omega), h1.rc o ho]
    · have r2 := (r1.up 120 20 (nI (uN α - 1))).cp (a := 126) (i := 13 * (uN α - 1)) (b := 125) (j := 0) (m := 13) (by omega)
      unfold unF
      rw [uN_tr, tr_k (by omega), eu, ep]
      exact r2
  · rw [if_pos (e0.mp h)] at hq
    exact k10_isNot hW ⟨hW, Or.inl rfl, hq _ h1.no.rc (hR.of h1.no) (hA.tr _)⟩
theorem p9_image (hW : aw_WT n θ) (hC : CI σ θ α) (hA : AI α) (hq : ∀ σ', CC σ σ' → CI σ' θ (sp_image α).2 → q (sp_image α).1 n σ' τ θ) : SMi G 3 mX9_image 0 0 [.ref 1] n σ τ θ q := by
  unfold sp_image at hq
  obtain ⟨nx, hnx, e4, e0, e1, hun, him⟩ := hC.2.2.1
  obtain ⟨ec, hc⟩ := hA.c
  have hu := hA.u.2
  have hr := hW.f.r
  have f1 : σ 9 1 = nI (cN α) := e1.trans ec
  refine ctX9_image (sgX9_image_0 (Nat.le_refl _) hW ?_)
  refine k9_noDuchy hW hC.1 hA.v ⟨hW, ps_b (fun h => ?_) (fun h => ?_)⟩
  · rw [if_neg h] at hq
    refine ctX5_draw 6 (sgX5_draw_0 6 (Nat.le_refl _) isM_now hW ?_)
    rw [f1, show (nI (cN α) < 3) ↔ cN α < 3 from nI_ltI (b := 3) (by omega) (by omega)]
    refine ⟨fun h2 => ?_, fun h2 => ?_⟩
    · rw [if_neg (by omega)] at hq
      obtain ⟨p1, p2, p3, p4, p5, p6, p7⟩ := imF_p hA (by omega)
      obtain ⟨ea, ma⟩ := aw_imgs hW h2
      rw [ps_cl (by omega), ea]
      refine ⟨ps_in h2 (by decide), ma, ?_⟩
      refine k2_copyOf ma isM_now (by omega) hW hC.2.1 (fun σ1 h1 hM1 => ⟨hW, ?_⟩)
      have g1 : σ1 9 1 = nI (cN α) := by rw [h1 9 (by omega)]; exact f1
      rw [g1, aw_u_eq, nI_1, nI_pred]
      refine ⟨hW, fun _ => k9_grant hW ⟨hW, ?_⟩, fun h3 => absurd h3 (fun e => nI_pos (n := cN α) (by omega) (by rw [e]; decide))⟩
      have go : ∀ o, o ≠ 1 → o ≠ 9 → (o < 60 + 3 * cN α ∨ 60 + 3 * cN α + 2 < o) → (aw_u (aw_u σ1 9 1 (nI (cN α + 1))) 1 10 0) o = σ o := fun o o1 o9 ho => (aw_uo o1).trans ((aw_uo o9).trans (h1 o ho))
      refine hq _ (fun o ho => go o (by omega) (by omega) (by omega)) ?_
      refine hC.act (β := imF (tr_ α 0)) hW.f (fun o ho => go o (by omega) (by omega) (by omega)) ?_ ?_ ?_ (aw_u_eq.trans p4.symm) (by rw [p4]; decide) (p5 123 (by omega) (by omega)) (p5 121 (by omega) (by omega)) (p3 2 (by omega) (by omega)) (p3 9 (by omega) (by omega))
      · rw [aw_u_nk (by decide), aw_uo (by decide), h1 1 (by omega)]
      · rw [p5 125 (by omega) (by omega)]
        exact hC.2.1.mono (fun o _ _ => go o (by omega) (by omega) (by omega))
      · have g9 : (aw_u (aw_u σ1 9 1 (nI (cN α + 1))) 1 10 0) 9 = aw_u σ1 9 1 (nI (cN α + 1)) 9 := aw_uo (by omega)
        refine ⟨nx, hnx, ?_, ?_, ?_, fun i hi => ?_, fun i hi => ?_⟩
        · rw [g9, aw_u_nk (by decide), h1 9 (by omega)]; exact e4
        · rw [g9, aw_u_nk (by decide), h1 9 (by omega), e0, p3 20 (by omega) (by omega)]
        · rw [g9, aw_u_eq, p1]
        · have eu : uN (imF (tr_ α 0)) = uN α := by unfold uN; rw [p3 20 (by omega) (by omega)]
          rw [eu] at hi ⊢
          rw [p5 126 (by omega) (by omega)]
          have b2 : (nx + 16 - uN α + i) % 16 < 16 := Nat.mod_lt _ (by decide)
          exact (hun i hi).mono (fun o _ _ => go o (by omega) (by omega) (by omega))
        · rw [p2] at hi
          by_cases h3 : i = cN α
          · subst h3
            exact MR.c (hM1.mono (fun o _ _ => (aw_uo (by omega)).trans (aw_uo (by omega)))) p7
          · exact MR.c ((him i (by omega)).mono (fun o _ _ => go o (by omega) (by omega) (by omega))) (fun k hk => p6 i k (by omega) hk)
    · rw [if_pos (by omega)] at hq
      exact ⟨hW, fun h3 => absurd rfl h3, fun _ => k9_refuse hW ⟨hW, hq _ (fun o ho => aw_uo (by omega)) (hC.tr hA hW.f (by decide))⟩⟩
  · rw [if_pos h] at hq
    exact k9_refuse hW ⟨hW, hq _ (fun o ho => aw_uo (by omega)) (hC.tr hA hW.f (by decide))⟩
theorem p10_image (hW : aw_WT n θ) (hR : RI σ α) (hA : AI α) (hq : ∀ σ', RC σ σ' → RI σ' (sp_image α).2 → AI (sp_image α).2 → q (sp_image α).1 n σ' τ θ) : SMi G 2 mX10_image 0 0 [.ref 120] n σ τ θ q := by
  unfold sp_image at hq
  obtain ⟨ec, hc⟩ := hA.c
  refine ctX10_image (sgX10_image_0 (Nat.le_refl _) hW ?_)
  refine k10_good' hW (fun σ1 h1 => ⟨hW, ?_⟩)
  have r1 := hR.of h1
  have e21 : σ1 120 21 = nI (cN α) := by rw [r1.s (by omega), tr_k (by omega)]; exact ec
  have e3 : σ1 120 21 = 3 ↔ cN α = 3 := by rw [e21]; exact nI_eq (b := 3) (by omega) (by omega)
  rw [h1.has, (hR.hr hA).iff, hR.f (o := 123) (by omega)]
  refine ⟨fun h => ⟨fun h2 => ?_, fun h2 => ?_⟩, fun h => ?_⟩
  · have h2 : ¬ cN α = 3 := fun e => h2 (e3.mpr e)
    rw [if_neg h, if_neg h2] at hq
    rw [e21, show (13 : Int32) * nI (cN α) = nI (13 * cN α) from pk_mul 13 _]
    refine k10_copy (i := 0) (m := 13) hW isA_st isA_kept (by decide) (by decide) (by omega) (by decide) (by decide) ⟨hW, ?_⟩
    rw [aw_u_eq, s_cp_out (by decide), e21, nI_1, nI_pred]
    refine hq _ (fun o ho => ?_) ?_ (hA.im' (by omega) h2)
    · rw [aw_uo (by omega), cp_o (by omega), h1.rc o ho]
    · have r2 := (r1.cp (a := 125) (i := 0) (b := 127) (j := 13 * cN α) (m := 13) (by omega)).up 120 21 (nI (cN α + 1))
      unfold imF
      rw [cN_tr, tr_k (by omega), ec, nI_1]
      exact r2
  · rw [if_neg h, if_pos (e3.mp h2)] at hq
    exact k10_no hW ⟨hW, hq _ h1.no.rc (hR.of h1.no) (hA.tr _)⟩
  · rw [if_pos h] at hq
    exact k10_no hW ⟨hW, hq _ h1.no.rc (hR.of h1.no) (hA.tr _)⟩
theorem p9_back {x : Int32} (hW : aw_WT n θ) (hC : CI σ θ α) (hA : AI α) (hq : ∀ σ', CC σ σ' → CI σ' θ (sp_back α x).2 → q (sp_back α x).1 n σ' τ θ) : SMi G 3 mX9_back 0 0 [.ref 1, .int x] n σ τ θ q := by
  unfold sp_back at hq
  obtain ⟨nx, hnx, e4, e0, e1, hun, him⟩ := hC.2.2.1
  obtain ⟨ec, hc⟩ := hA.c
  have f1 : σ 9 1 = nI (cN α) := e1.trans ec
  have no : s_in x (cN α) ≠ true → (fun a n σ τ θ => aw_WT n θ ∧ ((a = 0 → (a = 0 ∨ a = 1) ∧ q a n (aw_u σ 1 10 1) τ θ) ∧ (¬ a = 0 → (a = 0 ∨ a = 1) ∧ q a n (aw_u σ 1 10 0) τ θ))) (0 : Int32) n σ τ θ := by
    intro h
    rw [if_neg h] at hq
    exact ⟨hW, fun _ => ⟨Or.inl rfl, hq _ (fun o ho => aw_uo (by omega)) (hC.tr hA hW.f (by decide))⟩, fun h2 => absurd rfl h2⟩
  refine ctX9_back _ (sgX9_back_0 _ (Nat.le_refl _) hW ?_)
  refine ctX5_goBack _ 6 (sgX5_goBack_0 6 _ (Nat.le_refl _) isM_now hW ?_)
  rw [f1]
  refine ⟨fun h => no (fun e => ?_), fun h => ⟨fun h2 => ?_, fun h2 => no (fun e => ?_)⟩⟩
  · obtain ⟨j, hj, rfl⟩ := (s_in_iff (by omega)).mp e
    exact nI_pos (by omega) h
  · have hin : s_in x (cN α) = true := (s_in_lt (by omega) rfl).mp ⟨h, Int32.not_le.mpr h2⟩
    rw [if_pos hin] at hq
    obtain ⟨j, hj, rfl⟩ := (s_in_iff (by omega)).mp hin
    obtain ⟨p1, p2, p3, p4, p5, p6⟩ := bkF_p (α := α) (j := j)
    obtain ⟨ea, ma⟩ := aw_imgs hW (i := j) (by omega)
    rw [ps_cl (by omega)] at hq ⊢
    rw [ea]
    refine ⟨ps_in (by omega) (by decide), ma, ?_⟩
    refine k2_copyOf isM_now ma (by omega) hW (him j hj) (fun σ1 h1 hM1 => ⟨hW, hW, fun h3 => absurd h3 (by decide), fun _ => ⟨Or.inr rfl, ?_⟩⟩)
    have go : ∀ o, o ≠ 1 → o ≠ 9 → (o < 6 ∨ 8 < o) → (aw_u (aw_u σ1 9 0 0) 1 10 0) o = σ o := fun o o1 o9 ho => (aw_uo o1).trans ((aw_uo o9).trans (h1 o (by omega)))
    refine hq _ (fun o ho => go o (by omega) (by omega) (by omega)) ?_
    refine hC.act (β := bkF (tr_ α 0) j) hW.f (fun o ho => go o (by omega) (by omega) (by omega)) ?_ ?_ ?_ (aw_u_eq.trans p4.symm) (by rw [p4]; decide) (p5 123 (by omega) (by omega)) (p5 121 (by omega) (by omega)) (p3 2 (by omega) (by omega)) (p3 9 (by omega) (by omega))
    · rw [aw_u_nk (by decide), aw_uo (by decide), h1 1 (by omega)]
    · exact MR.c (hM1.mono (fun o _ _ => (aw_uo (by omega)).trans (aw_uo (by omega)))) p6
    · have g9 : (aw_u (aw_u σ1 9 0 0) 1 10 0) 9 = aw_u σ1 9 0 0 9 := aw_uo (by omega)
      refine ⟨nx, hnx, ?_, ?_, ?_, fun i hi => ?_, fun i hi => ?_⟩
      · rw [g9, aw_u_nk (by decide), h1 9 (by omega)]; exact e4
      · rw [g9, aw_u_eq, p1]
      · rw [g9, aw_u_nk (by decide), h1 9 (by omega), e1, p3 21 (by omega) (by omega)]
      · omega
      · have ec2 : cN (bkF (tr_ α 0) j) = cN α := by unfold cN; rw [p3 21 (by omega) (by omega)]
        rw [ec2] at hi
        rw [p5 127 (by omega) (by omega)]
        exact (him i hi).mono (fun o _ _ => go o (by omega) (by omega) (by omega))
  · obtain ⟨j, hj, rfl⟩ := (s_in_iff (by omega)).mp e
    exact h2 (nI_lt hj (by omega))
theorem p10_back {x : Int32} (hW : aw_WT n θ) (hR : RI σ α) (hA : AI α) (hq : ∀ σ', RC σ σ' → RI σ' (sp_back α x).2 → AI (sp_back α x).2 → q (sp_back α x).1 n σ' τ θ) : SMi G 2 mX10_back 0 0 [.ref 120, .int x] n σ τ θ q := by
  unfold sp_back at hq
  obtain ⟨ec, hc⟩ := hA.c
  refine ctX10_back _ (sgX10_back_0 _ (Nat.le_refl _) hW ?_)
  refine k10_good' hW (fun σ1 h1 => ⟨hW, ?_⟩)
  have r1 := hR.of h1
  have e21 : σ1 120 21 = nI (cN α) := by rw [r1.s (by omega), tr_k (by omega)]; exact ec
  rw [e21]
  refine k10_in hW ⟨hW, And.symm (ps_b (fun h => ?_) (fun h => ?_))⟩
  · have hn : ¬ s_in x (cN α) = true := by
      intro e
      obtain ⟨j, hj, -⟩ := (s_in_iff (by omega)).mp e
      exact h ((s_in_pred (by omega) (by omega)).mpr e)
    rw [if_neg hn] at hq
    exact k10_isNot hW ⟨hW, Or.inl rfl, hq _ h1.no.rc (hR.of h1.no) (hA.tr _)⟩
  · have hc0 : 0 < cN α := by
      refine Nat.pos_of_ne_zero (fun h0 => ?_)
      rw [h0] at h
      obtain ⟨j, hj, rfl⟩ := nI_of h.1
      exact h.2 (Int32.lt_of_lt_of_le (show (nI 0 - 1 : Int32) < 0 by decide) (nI_pos' hj))
    have hin : s_in x (cN α) = true := (s_in_pred (by omega) hc0).mp h
    rw [if_pos hin] at hq
    obtain ⟨j, hj, rfl⟩ := (s_in_iff (by omega)).mp hin
    rw [ps_cl (by omega)] at hq
    rw [show (13 : Int32) * nI j = nI (13 * j) from pk_mul 13 _]
    refine k10_copy (j := 0) (m := 13) hW isA_kept isA_st (by decide) (by omega) (by decide) (by decide) (by decide) ⟨hW, ?_⟩
    refine hq _ (fun o ho => ?_) ?_ (hA.bk' hj)
    · rw [aw_uo (by omega), cp_o (by omega), h1.rc o ho]
    · exact (r1.cp (a := 127) (i := 13 * j) (b := 125) (j := 0) (m := 13) (by omega)).up 120 20 0
end Acts3
