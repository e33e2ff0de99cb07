/-! ===== acts: spring, pay, shed ===== -/
def p5 (γ : SG) (L : Nat → Int32) : SG := fun o => if o = 125 then L else γ o
def actF (α : SG) (L : Nat → Int32) : SG := p5 (noteF (tr_ α 0)) L
theorem p5_5 {γ : SG} {L : Nat → Int32} : p5 γ L 125 = L := if_pos rfl
theorem p5_o {γ : SG} {L : Nat → Int32} {o : Nat} (h : o ≠ 125) : p5 γ L o = γ o := if_neg h
theorem actF_o {α : SG} {L : Nat → Int32} {o : Nat} (h : o ≠ 125) (h2 : o ≠ 126) (h3 : o ≠ 120) : actF α L o = α o := by
  unfold actF
  rw [p5_o h, noteF_o h2 h3, tr_o h3]
theorem actF_k {α : SG} {L : Nat → Int32} {k : Nat} (h : k ≠ 20) (h2 : k ≠ 11) : actF α L 120 k = α 120 k := by
  unfold actF
  rw [p5_o (by omega), noteF_k h, tr_k h2]
theorem actF_w {α : SG} {L : Nat → Int32} : actF α L 120 11 = 0 := by
  unfold actF
  rw [p5_o (by omega), noteF_k (by omega), tr_w]
theorem AI.act {α : SG} (h : AI α) (hm : 0 < nM (α 123)) {L : Nat → Int32} (hL : VS L) : AI (actF α L) := by
  have e3 : nM ((tr_ α 0) 123) = nM (α 123) := by rw [tr_o (by omega)]
  have h2 := (h.tr 0).note (by omega)
  unfold actF
  unfold AI uN cN fN HR at h2 ⊢
  rw [p5_o (o := 123) (by omega), p5_o (o := 126) (by omega), p5_o (o := 127) (by omega), p5_o (o := 120) (by omega), p5_5]
  refine ⟨h2.1, hL, h2.2.2.1, h2.2.2.2.1, h2.2.2.2.2.1, h2.2.2.2.2.2.1, h2.2.2.2.2.2.2.1, h2.2.2.2.2.2.2.2.1, fun h0 => ?_⟩
  rw [noteF_o (by omega) (by omega), tr_o (by omega)] at h0
  omega
theorem CI.act {σ σ' : SG} {θ : TH} {α β : SG} (h : CI σ θ α) (hf : isF (θ 1 7)) (h1 : ∀ o, (2 ≤ o ∧ o ≤ 5) ∨ 84 ≤ o → σ' o = σ o) (h9 : σ' 1 9 = σ 1 9) (hM : MR σ' 6 (β 125)) (hP : PR σ' β) (hw : σ' 1 10 = β 120 11) (hw4 : β 120 11 ≠ 4) (b3 : β 123 = α 123) (b1 : β 121 = α 121) (b2 : β 120 2 = α 120 2) (b9 : β 120 9 = α 120 9) : CI σ' θ β := by
  obtain ⟨a, b, c, d, e, f, g⟩ := h
  have hr := hf.r
  refine ⟨?_, hM, hP, ?_, ?_, hw, fun h4 => absurd h4 hw4⟩
  · rw [b3]; exact a.mono (fun o _ _ => h1 o (by omega))
  · unfold TR fN at d ⊢
    rw [b1, b2, h1 2 (by omega), h1 3 (by omega)]
    exact d
  · rw [h9, e, b9]
theorem CI.af {σ σ' : SG} {θ : TH} {α : SG} {L : Nat → Int32} (h : CI σ θ α) (hf : isF (θ 1 7)) (h1 : ∀ o, (2 ≤ o ∧ o ≤ 5) ∨ 84 ≤ o → σ' o = σ o) (h9 : σ' 1 9 = σ 1 9) (hM : MR σ' 6 L) (hP : PR σ' (noteF α)) (hA : AI α) (hm : 0 < nM (α 123)) (hw : σ' 1 10 = 0) : CI σ' θ (actF α L) := by
  refine h.act hf h1 h9 ?_ ?_ ?_ ?_ (actF_o (by omega) (by omega) (by omega)) (actF_o (by omega) (by omega) (by omega)) (actF_k (by omega) (by omega)) (actF_k (by omega) (by omega))
  · unfold actF
    rw [p5_5]; exact hM
  · have eu : uN (tr_ α 0) = uN α := by unfold uN; rw [tr_k (by omega)]
    have e126 : noteF (tr_ α 0) 126 = noteF α 126 := by
      funext k
      unfold noteF
      rw [if_pos rfl, if_pos rfl, eu, tr_o (o := 126) (by omega), tr_o (o := 125) (by omega)]
    refine hP.of (by have := (hA.note hm).c.2; exact this) (fun _ _ _ => rfl) ?_ ?_ ?_ ?_
    · unfold actF; rw [p5_o (by omega)]; exact e126
    · unfold actF; rw [p5_o (by omega), noteF_o (by omega) (by omega), noteF_o (by omega) (by omega), tr_o (by omega)]
    · unfold actF; rw [p5_o (by omega), noteF_20, noteF_20, eu]
    · unfold actF; rw [p5_o (by omega), noteF_k (by omega), noteF_k (by omega), tr_k (by omega)]
  · rw [actF_w]; exact hw
  · rw [actF_w]; decide
theorem RI.af {σ σ' γ : SG} {L : Nat → Int32} (h : RI σ γ) (h1 : ∀ o, o ≠ 125 → σ' o = σ o) (h2 : σ' 125 = L) : RI σ' (p5 γ L) := by
  intro o k hk
  by_cases ho : o = 125
  · subst ho; rw [h2, p5_5]
  · rw [h1 o ho, p5_o ho]; exact h o k hk
theorem pu_ne {w : Nat → Int32} {m k : Nat} {x : Int32} (h : k ≠ m) : pu w m x k = w k := if_neg h
section Acts
variable {G : GG} {n : Nat} {σ α : SG} {τ : TU} {θ : TH} {q : Int32 → Nat → SG → TU → TH → Prop} {qv : Nat → SG → TU → TH → Prop}
def sp_spring (α : SG) : Int32 × SG := if nM (α 123) = 0 then (-1, tr_ α 1) else if α 125 12 = 999 then (-1, tr_ α 3) else (s_all (α 123) (α 125) (α 125 12 + 1) (nM (α 123)), actF α (pu (α 125) 12 (α 125 12 + 1)))
theorem p9_spring (hW : aw_WT n θ) (hC : CI σ θ α) (hA : AI α) (hq : ∀ σ', CC σ σ' → CI σ' θ (sp_spring α).2 → q (sp_spring α).1 n σ' τ θ) : SMi G 5 mX9_spring 0 0 [.ref 1] n σ τ θ q := by
  unfold sp_spring at hq
  obtain ⟨s0, -, hs0, es0⟩ := hA.m.2
  have hF := hC.1
  have hM := hC.2.1
  have hr := hW.f.r
  have e62 : σ 6 2 = α 125 12 := hM.2.2
  refine ctX9_spring (sgX9_spring_0 (Nat.le_refl _) hW ?_)
  refine k9_noDuchy hW hF hA.v ⟨hW, ps_b (fun h => ?_) (fun h => ?_)⟩
  · rw [if_neg h] at hq
    rw [e62, es0, show (nI s0 < 999) ↔ s0 < 999 from nI_ltI (b := 999) (by omega) (by omega)]
    have e999 : α 125 12 = 999 ↔ s0 = 999 := by rw [es0]; exact nI_eq (b := 999) (by omega) (by omega)
    refine ⟨fun h2 => ?_, fun h2 => ?_⟩
    · rw [if_neg (fun e => absurd (e999.mp e) (by omega))] at hq
      refine k5_keep hW hC.2.2.1 hA hM (fun σ1 hP1 h1 => ⟨hW, ?_⟩)
      have f62 : σ1 6 2 = nI s0 := by rw [h1 6 (by omega), e62, es0]
      rw [aw_u_eq, f62, ← es0]
      have hM2 : MR (aw_u σ1 6 2 (α 125 12 + 1)) 6 (pu (α 125) 12 (α 125 12 + 1)) := by
        refine ⟨fun m hm => ?_, fun k hk => ?_, ?_⟩
        · rw [aw_uo (by decide), h1 7 (by omega)]; exact (hM.1 m hm).trans (if_neg (by omega)).symm
        · rw [aw_uo (by decide), h1 8 (by omega)]; exact (hM.2.1 k hk).trans (if_neg (by omega)).symm
        · rw [aw_u_eq]; exact (if_pos rfl).symm
      have hF2 : FR (aw_u σ1 6 2 (α 125 12 + 1)) (θ 1 7) (α 123) := hF.mono (fun o _ _ => (aw_uo (by omega)).trans (h1 o (by omega)))
      refine k1_allHeads hW.f isM_now hW hF2 hM2 hA.v ⟨hW, k9_grant hW ⟨hW, ?_⟩⟩
      rw [s_all_c (L := pu (α 125) 12 (α 125 12 + 1)) (L' := α 125) hA.v (fun k hk => pu_ne (by omega))]
      refine hq _ (fun o ho => (aw_uo (by omega)).trans ((aw_uo (by omega)).trans (h1 o (by omega)))) ?_
      refine hC.af hW.f (fun o ho => (aw_uo (by omega)).trans ((aw_uo (by omega)).trans (h1 o (by omega)))) ?_ ?_ ?_ hA (by omega) aw_u_eq
      · rw [aw_u_nk (by decide), aw_uo (by decide), h1 1 (by omega)]
      · exact hM2.tr
      · exact hP1.of (hA.note (by omega)).c.2 (fun o _ _ => (aw_uo (by omega)).trans (aw_uo (by omega))) rfl rfl rfl rfl
    · rw [if_pos (e999.mpr (by omega))] at hq
      exact k9_refuse hW ⟨hW, hq _ (fun o ho => aw_uo (by omega)) (hC.tr hA hW.f (by decide))⟩
  · rw [if_pos h] at hq
    exact k9_refuse hW ⟨hW, hq _ (fun o ho => aw_uo (by omega)) (hC.tr hA hW.f (by decide))⟩
theorem p10_spring (hW : aw_WT n θ) (hR : RI σ α) (hA : AI α) (hq : ∀ σ', RC σ σ' → RI σ' (sp_spring α).2 → AI (sp_spring α).2 → q (sp_spring α).1 n σ' τ θ) : SMi G 6 mX10_spring 0 0 [.ref 120] n σ τ θ q := by
  unfold sp_spring at hq
  refine ctX10_spring (sgX10_spring_0 (Nat.le_refl _) hW ?_)
  refine k10_good' hW (fun σ1 h1 => ⟨hW, ?_⟩)
  have h2 := h1.slot (s := 22) (x := 0) (by decide)
  have hb : (aw_u σ1 120 22 0) 120 22 = 0 := aw_u_eq
  generalize aw_u σ1 120 22 0 = σ2 at h2 hb ⊢
  have r2 := hR.of h2
  rw [h2.has, (hR.hr hA).iff, hR.f (o := 123) (by omega), r2.f (o := 125) (by omega), tr_o (by omega)]
  refine ⟨fun h => ⟨fun h3 => ?_, fun h3 => ?_⟩, fun h => ?_⟩
  · rw [if_neg h, if_neg h3] at hq
    refine k10_note hW r2 (hA.tr 0) (fun σ3 r3 h4 => ⟨hW, ?_⟩)
    have e5 : σ3 125 = α 125 := by rw [r3.f (by omega), noteF_o (by omega) (by omega), tr_o (by omega)]
    have e3 : σ3 123 = α 123 := by rw [r3.f (by omega), noteF_o (by omega) (by omega), tr_o (by omega)]
    rw [e5]
    have f5 : (aw_u σ3 125 12 (α 125 12 + 1)) 125 = pu (α 125) 12 (α 125 12 + 1) := by
      funext k
      unfold aw_u pu
      by_cases hk : k = 12
      · rw [if_pos ⟨rfl, hk⟩, if_pos hk]
      · rw [if_neg (fun e => hk e.2), if_neg hk, e5]
    have f3 : (aw_u σ3 125 12 (α 125 12 + 1)) 123 = α 123 := by rw [aw_uo (by decide), e3]
    have f22 : (aw_u σ3 125 12 (α 125 12 + 1)) 120 22 = 0 := by rw [aw_uo (by decide), h4 120 22 (by omega) (by omega)]; exact hb
    refine k10_headsOf hW isA_st (by rw [f3]; exact hA.v) f22 ⟨hW, ?_⟩
    rw [f3, f5, show pu (α 125) 12 (α 125 12 + 1) 12 = α 125 12 + 1 from if_pos rfl, s_all_c (L := pu (α 125) 12 (α 125 12 + 1)) (L' := α 125) hA.v (fun k hk => pu_ne (by omega))]
    refine hq _ (fun o ho => ?_) (r3.af (fun o ho => aw_uo ho) f5) (hA.act (by omega) ⟨fun k hk => ?_, ?_⟩)
    · rw [aw_uo (by omega)]
      exact (funext fun k => h4 o k (by omega) (by omega)).trans (h2.1 o (by omega))
    · show bI (if k = 12 then _ else _) 0 99
      rw [if_neg (by omega)]; exact hA.m.1 k hk
    · show bI (if 12 = 12 then _ else _) 0 999
      rw [if_pos rfl]
      obtain ⟨s0, -, hs0, es0⟩ := hA.m.2
      rw [es0] at h3 ⊢
      have : ¬ s0 = 999 := fun e => h3 (by rw [e]; rfl)
      exact ⟨s0 + 1, by omega, by omega, nI_1 s0⟩
  · rw [if_neg h, if_pos h3] at hq
    exact k10_no hW ⟨hW, hq _ h2.no.rc (hR.of h2.no) (hA.tr _)⟩
  · rw [if_pos h] at hq
    exact k10_no hW ⟨hW, hq _ h2.no.rc (hR.of h2.no) (hA.tr _)⟩
/-! shed -/
def shL (r L : Nat → Int32) (x : Int32) : Nat → Nat → Int32
  | 0 => L
  | k + 1 => if s_due r L (L 12) k = true ∧ r (25 + 4 * k) = x then pu (shL r L x k) k 0 else shL r L x k
theorem shL_ge {r L : Nat → Int32} {x : Int32} : ∀ k j, k ≤ j → shL r L x k j = L j
  | 0, _, _ => rfl
  | k + 1, j, h => by
    unfold shL
    split
    · exact (if_neg (by omega)).trans (shL_ge k j (by omega))
    · exact shL_ge k j (by omega)
theorem shL_v {r L : Nat → Int32} {x : Int32} (h : VS L) : ∀ k, k ≤ 7 → VS (shL r L x k)
  | 0, _ => h
  | k + 1, hk => by
    have ih := shL_v (r := r) (x := x) h k (by omega)
    unfold shL
    split
    · refine ⟨fun j hj => ?_, ?_⟩
      · show bI (if j = k then _ else _) 0 99
        split
        · exact ⟨0, by omega, by omega, rfl⟩
        · exact ih.1 j hj
      · show bI (if 12 = k then _ else _) 0 999
        rw [if_neg (by omega)]; exact ih.2
    · exact ih
def sp_shed (α : SG) (x : Int32) : Int32 × SG := if s_in x (nM (α 123)) = true then (if s_lf (α 123) (α 125) (α 125 12) x (-1) (nD (α 123)) = 0 then (-1, tr_ α 5) else (s_lf (α 123) (α 125) (α 125 12) x (-1) (nD (α 123)), actF α (shL (α 123) (α 125) x (nD (α 123))))) else (-1, tr_ α 1)
theorem p9_shed {x : Int32} (hW : aw_WT n θ) (hC : CI σ θ α) (hA : AI α) (hq : ∀ σ', CC σ σ' → CI σ' θ (sp_shed α x).2 → q (sp_shed α x).1 n σ' τ θ) : SMi G 3 mX9_shed 0 0 [.ref 1, .int x] n σ τ θ q := by
  unfold sp_shed at hq
  have hF := hC.1
  have hM := hC.2.1
  have hr := hW.f.r
  have h7 := hA.v.d7
  have h5 := hA.v.m5
  refine ctX9_shed _ (sgX9_shed_0 _ (Nat.le_refl _) hW ?_)
  refine k9_isMan hW hF hA.v ⟨hW, And.symm (ps_b (fun h => ?_) (fun h => ?_))⟩
  · rw [if_neg h] at hq
    exact k9_refuse hW ⟨hW, hq _ (fun o ho => aw_uo (by omega)) (hC.tr hA hW.f (by decide))⟩
  · rw [if_pos h] at hq
    have hm0 : 0 < nM (α 123) := by obtain ⟨m, hm, -⟩ := (s_in_iff (by omega)).mp h; omega
    refine k1_dueFrom hW.f isM_now hW hF hM hA.v ⟨hW, fun h2 => ?_, fun h2 => ?_⟩
    · rw [if_neg h2] at hq
      refine k5_keep hW hC.2.2.1 hA hM (fun σ1 hP1 h1 => ⟨hW, ?_⟩)
      have hM1 : MR σ1 6 (α 125) := hM.mono (fun o _ _ => h1 o (by omega))
      refine ps_up (N := nD (α 123)) (P := fun j => ∀ σ2, (∀ o, o ≠ 8 → σ2 o = σ1 o) → MR σ2 6 (shL (α 123) (α 125) x j) → SW G 3 mX9_shed (aw_qi q) 0 0 50 [some (.ref 1), some (.int x), some (.int (s_lf (α 123) (α 125) (α 125 12) x (-1) (nD (α 123)))), some (.int (nI j))] [] (n, σ2, τ, θ)) ?_ ?_ 0 (Nat.zero_le _) σ1 (fun _ _ => rfl) hM1
      · intro σ2 h3 hM2
        have hF2 : FR σ2 (θ 1 7) (α 123) := hF.mono (fun o _ _ => (h3 o (by omega)).trans (h1 o (by omega)))
        have e5 : σ2 (θ 1 7 + 8) 4 = nI (nD (α 123)) := hF2.1.2.2.2.2.2.1.trans hA.v.d
        refine sgX9_shed_50 _ _ _ (Nat.le_refl _) hW (ps_done e5 (k9_grant hW ⟨hW, ?_⟩))
        refine hq _ (fun o ho => (aw_uo (by omega)).trans ((h3 o (by omega)).trans (h1 o (by omega)))) ?_
        refine hC.af hW.f (fun o ho => (aw_uo (by omega)).trans ((h3 o (by omega)).trans (h1 o (by omega)))) ?_ hM2.tr ?_ hA hm0 aw_u_eq
        · rw [aw_u_nk (by decide), h3 1 (by omega), h1 1 (by omega)]
        · exact hP1.of (hA.note hm0).c.2 (fun o _ _ => (aw_uo (by omega)).trans (h3 o (by omega))) rfl rfl rfl rfl
      · intro j hj ih σ2 h3 hM2
        have hF2 : FR σ2 (θ 1 7) (α 123) := hF.mono (fun o _ _ => (h3 o (by omega)).trans (h1 o (by omega)))
        have e5 : σ2 (θ 1 7 + 8) 4 = nI (nD (α 123)) := hF2.1.2.2.2.2.2.1.trans hA.v.d
        refine sgX9_shed_50 _ _ _ (Nat.le_refl _) hW (ps_br e5 (by omega) (by omega) (fun h => absurd h (by omega)) (fun _ => ⟨ps_in (by omega) (by decide), ?_⟩))
        rw [ps_cl (by omega), (hF2.2.2.2.2.1 j hj).1, hM2.2.2, ← nI_succ]
        have es : s_due (α 123) (shL (α 123) (α 125) x j) (shL (α 123) (α 125) x j 12) j = s_due (α 123) (α 125) (α 125 12) j := by
          unfold s_due
          rw [shL_ge j 12 (by omega), shL_ge j j (by omega)]
        simp only [shL] at ih
        refine ⟨fun h4 => ?_, fun h4 => k1_isDue hW.f isM_now hW hF2 hM2 hA.v hj ⟨hW, ?_⟩⟩
        · rw [if_neg (fun e => h4 e.2)] at ih
          exact ih _ h3 hM2
        · rw [es]
          refine ps_b (fun h6 => ?_) (fun h6 => ⟨ps_in (by omega) (by decide), ?_⟩)
          · rw [if_neg (fun e => h6 e.1)] at ih
            exact ih _ h3 hM2
          · rw [if_pos ⟨h6, h4⟩] at ih
            refine ih _ (fun o ho => (aw_uo ho).trans (h3 o ho)) ⟨fun m hm => ?_, fun k hk => ?_, ?_⟩
            · rw [aw_uo (by decide)]; exact (hM2.1 m hm).trans (if_neg (by omega)).symm
            · by_cases hk2 : k = j
              · rw [hk2, aw_u_eq]; exact (if_pos rfl).symm
              · rw [aw_u_nk hk2]; exact (hM2.2.1 k hk).trans (if_neg hk2).symm
            · rw [aw_uo (by decide)]; exact hM2.2.2.trans (if_neg (by omega)).symm
    · rw [if_pos h2] at hq
      exact k9_refuse hW ⟨hW, hq _ (fun o ho => aw_uo (by omega)) (hC.tr hA hW.f (by decide))⟩
theorem p10_shed {x : Int32} (hW : aw_WT n θ) (hR : RI σ α) (hA : AI α) (hq : ∀ σ', RC σ σ' → RI σ' (sp_shed α x).2 → AI (sp_shed α x).2 → q (sp_shed α x).1 n σ' τ θ) : SMi G 4 mX10_shed 0 0 [.ref 120, .int x] n σ τ θ q := by
  unfold sp_shed at hq
  have h7 := hA.v.d7
  have h5 := hA.v.m5
  refine ctX10_shed _ (sgX10_shed_0 _ (Nat.le_refl _) hW ?_)
  refine k10_good' hW (fun σ1 h1 => ⟨hW, k10_isMan hW (h1.vr (hR.vr hA)) (h1.hr (hR.hr hA)) ⟨hW, ?_⟩⟩)
  have r1 := hR.of h1
  have e3 : σ1 123 = α 123 := by rw [h1.e3]; exact hR.f (by omega)
  have e5 : σ1 125 = α 125 := by rw [h1.e5]; exact hR.f (by omega)
  rw [e3]
  refine And.symm (ps_b (fun h => ?_) (fun h => ?_))
  · rw [if_neg h] at hq
    exact k10_no hW ⟨hW, hq _ h1.no.rc (hR.of h1.no) (hA.tr _)⟩
  · rw [if_pos h] at hq
    have hm0 : 0 < nM (α 123) := by obtain ⟨m, hm, -⟩ := (s_in_iff (by omega)).mp h; omega
    refine k10_leftFrom hW (by rw [e3]; exact hA.v) ⟨hW, ?_⟩
    rw [e3, e5]
    refine ⟨fun h2 => ?_, fun h2 => ?_⟩
    · rw [if_neg h2] at hq
      refine k10_note hW r1 (hA.tr 0) (fun σ3 r3 h4 => ⟨hW, ?_⟩)
      have g5 : σ3 125 = α 125 := by rw [r3.f (by omega), noteF_o (by omega) (by omega), tr_o (by omega)]
      have g3 : σ3 123 = α 123 := by rw [r3.f (by omega), noteF_o (by omega) (by omega), tr_o (by omega)]
      refine ps_up (N := nD (α 123)) (P := fun j => ∀ σ2, (∀ o, o ≠ 125 → σ2 o = σ3 o) → σ2 125 = shL (α 123) (α 125) x j → SW G 4 mX10_shed (aw_qi q) 0 0 41 [some (.ref 120), some (.int x), some (.int (s_lf (α 123) (α 125) (α 125 12) x (-1) (nD (α 123)))), some (.int (nI j))] [] (n, σ2, τ, θ)) ?_ ?_ 0 (Nat.zero_le _) σ3 (fun _ _ => rfl) g5
      · intro σ2 h6 e6
        have f5 : σ2 123 5 = nI (nD (α 123)) := by rw [h6 123 (by omega), g3]; exact hA.v.d
        refine sgX10_shed_41 _ _ _ (Nat.le_refl _) hW (ps_done f5 ?_)
        refine hq _ (fun o ho => ?_) (r3.af h6 e6) (hA.act hm0 (shL_v hA.m _ h7))
        rw [h6 o (by omega)]
        exact (funext fun k => h4 o k (by omega) (by omega)).trans (h1.1 o (by omega))
      · intro j hj ih σ2 h6 e6
        have f5 : σ2 123 5 = nI (nD (α 123)) := by rw [h6 123 (by omega), g3]; exact hA.v.d
        refine sgX10_shed_41 _ _ _ (Nat.le_refl _) hW (ps_br f5 (by omega) (by omega) (fun h => absurd h (by omega)) (fun _ => ?_))
        have es : s_due (α 123) (shL (α 123) (α 125) x j) (shL (α 123) (α 125) x j 12) j = s_due (α 123) (α 125) (α 125 12) j := by
          unfold s_due
          rw [shL_ge j 12 (by omega), shL_ge j j (by omega)]
        refine k10_isOf hW isA_st (by omega) ⟨hW, ?_⟩
        rw [h6 123 (by omega), g3, e6, es, ps_cl (by omega), ← nI_succ]
        simp only [shL] at ih
        refine ps_b (fun h8 => ?_) (fun h8 => ⟨ps_in (by omega) (by decide), ?_⟩)
        · rw [if_neg h8] at ih
          exact ih _ h6 e6
        · rw [if_pos h8] at ih
          refine ih _ (fun o ho => (aw_uo ho).trans (h6 o ho)) ?_
          funext k
          unfold aw_u pu
          by_cases hk : k = j
          · rw [if_pos ⟨rfl, hk⟩, if_pos hk]
          · rw [if_neg (fun e => hk e.2), if_neg hk, e6]
    · rw [if_pos h2] at hq
      exact k10_no hW ⟨hW, hq _ h1.no.rc (hR.of h1.no) (hA.tr _)⟩
end Acts
