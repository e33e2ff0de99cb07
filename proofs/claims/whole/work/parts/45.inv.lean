/-! ===== what stands between the calls: α is what the reference holds ===== -/
def RK (o k : Nat) : Prop := (o = 121 ∨ o = 123 ∨ o = 125 ∨ o = 126 ∨ o = 127) ∨ (o = 120 ∧ (k = 2 ∨ k = 9 ∨ k = 10 ∨ k = 11 ∨ k = 14 ∨ k = 20 ∨ k = 21))
def RI (σ α : SG) : Prop := ∀ o k, RK o k → σ o k = α o k
def RC (σ σ' : SG) : Prop := ∀ o, (o < 120 ∨ 132 < o) → σ' o = σ o
def CC (σ σ' : SG) : Prop := ∀ o, 119 < o → σ' o = σ o
def tr_ (α : SG) (w : Int32) : SG := aw_u α 120 11 w
def uN (α : SG) : Nat := (α 120 20).toNatClampNeg
def cN (α : SG) : Nat := (α 120 21).toNatClampNeg
def fN (α : SG) : Nat := (α 120 2).toNatClampNeg
def b8 (b : Nat) : Int32 := (nI b).toInt8.toInt32
def AI (α : SG) : Prop := VR (α 123) ∧ VS (α 125) ∧ HR α (α 123) ∧ (α 120 20 = nI (uN α) ∧ uN α ≤ 16) ∧ (α 120 21 = nI (cN α) ∧ cN α ≤ 3) ∧ (∀ i, i < uN α → VS (fun k => α 126 (13 * i + k))) ∧ (∀ i, i < cN α → VS (fun k => α 127 (13 * i + k))) ∧ (α 120 2 = nI (fN α) ∧ fN α ≤ 900) ∧ (nM (α 123) = 0 → (∀ k, k < 10 → α 123 k = 0) ∧ α 125 12 = 0 ∧ α 120 20 = 0 ∧ α 120 21 = 0)
def PR (σ α : SG) : Prop := ∃ nx, nx < 16 ∧ σ 9 4 = nI nx ∧ σ 9 0 = α 120 20 ∧ σ 9 1 = α 120 21 ∧ (∀ i, i < uN α → MR σ (12 + 3 * ((nx + 16 - uN α + i) % 16)) (fun k => α 126 (13 * i + k))) ∧ ∀ i, i < cN α → MR σ (60 + 3 * i) (fun k => α 127 (13 * i + k))
def TR (σ α : SG) : Prop := σ 2 0 = α 120 2 ∧ ∀ j, j < fN α → ∃ b, b < 256 ∧ α 121 j = nI b ∧ σ 3 j = b8 b
def CI (σ : SG) (θ : TH) (α : SG) : Prop := FR σ (θ 1 7) (α 123) ∧ MR σ 6 (α 125) ∧ PR σ α ∧ TR σ α ∧ σ 1 9 = α 120 9 ∧ σ 1 10 = α 120 11 ∧ (α 120 11 = 4 → σ 2 1 = α 120 10)
theorem tr_o {α : SG} {w : Int32} {o : Nat} (h : o ≠ 120) : tr_ α w o = α o := aw_uo h
theorem tr_k {α : SG} {w : Int32} {k : Nat} (h : k ≠ 11) : tr_ α w 120 k = α 120 k := aw_u_nk h
theorem tr_w {α : SG} {w : Int32} : tr_ α w 120 11 = w := aw_u_eq
theorem tr_same {α : SG} : tr_ α (α 120 11) = α := by
  funext o k
  unfold tr_ aw_u
  split
  · rename_i h; rw [h.1, h.2]
  · rfl
theorem RI.f {σ α : SG} (h : RI σ α) {o : Nat} (ho : o = 121 ∨ o = 123 ∨ o = 125 ∨ o = 126 ∨ o = 127) : σ o = α o := funext fun k => h o k (Or.inl ho)
theorem RI.s {σ α : SG} (h : RI σ α) {k : Nat} (hk : k = 2 ∨ k = 9 ∨ k = 10 ∨ k = 11 ∨ k = 14 ∨ k = 20 ∨ k = 21) : σ 120 k = α 120 k := h 120 k (Or.inr ⟨rfl, hk⟩)
theorem RI.up {σ α : SG} (h : RI σ α) (o k : Nat) (v : Int32) : RI (aw_u σ o k v) (aw_u α o k v) := by
  intro o' k' hk
  unfold aw_u
  split
  · rfl
  · exact h o' k' hk
theorem RI.skip {σ α : SG} (h : RI σ α) {o k : Nat} {v : Int32} (hn : ¬ RK o k) : RI (aw_u σ o k v) α := by
  intro o' k' hk
  unfold aw_u
  split
  · rename_i e; rw [e.1, e.2] at hk; exact absurd hk hn
  · exact h o' k' hk
theorem RI.of {σ σ' α : SG} {w : Int32} (h : RI σ α) (hS : RS σ σ' w) : RI σ' (tr_ α w) := by
  intro o k hk
  rcases hk with ho | ⟨ho, hk⟩
  · rw [hS.1 o (by omega), tr_o (by omega)]
    exact h o k (Or.inl ho)
  · subst ho
    by_cases h11 : k = 11
    · subst h11; rw [hS.2.2, tr_w]
    · rw [hS.2.1 k (by simp only [List.mem_cons, List.not_mem_nil, or_false]; omega), tr_k h11]
      exact h 120 k (Or.inr ⟨rfl, hk⟩)
theorem RS.rc {σ σ' : SG} {w : Int32} (hS : RS σ σ' w) : RC σ σ' := fun o ho => hS.1 o (by omega)
theorem RC.trans {σ σ' σ'' : SG} (h : RC σ σ') (h' : RC σ' σ'') : RC σ σ'' := fun o ho => (h' o ho).trans (h o ho)
theorem RC.up {σ σ' : SG} {o k : Nat} {v : Int32} (h : RC σ σ') (h1 : 120 ≤ o) (h2 : o ≤ 132) : RC σ (aw_u σ' o k v) := fun o' ho => (aw_uo (by omega)).trans (h o' ho)
theorem RI.vr {σ α : SG} (h : RI σ α) (hA : AI α) : VR (σ 123) := by rw [h.f (by omega)]; exact hA.1
theorem RI.vs {σ α : SG} (h : RI σ α) (hA : AI α) : VS (σ 125) := by rw [h.f (by omega)]; exact hA.2.1
theorem RI.hr {σ α : SG} (h : RI σ α) (hA : AI α) : HR σ (σ 123) := by
  have := hA.2.2.1
  unfold HR at this ⊢
  rw [h.f (o := 123) (by omega), h.s (k := 14) (by omega)]
  exact this
theorem AI.v {α : SG} (h : AI α) : VR (α 123) := h.1
theorem AI.m {α : SG} (h : AI α) : VS (α 125) := h.2.1
theorem AI.h {α : SG} (h : AI α) : HR α (α 123) := h.2.2.1
theorem AI.u {α : SG} (h : AI α) : α 120 20 = nI (uN α) ∧ uN α ≤ 16 := h.2.2.2.1
theorem AI.c {α : SG} (h : AI α) : α 120 21 = nI (cN α) ∧ cN α ≤ 3 := h.2.2.2.2.1
theorem AI.un {α : SG} (h : AI α) {i : Nat} (hi : i < uN α) : VS (fun k => α 126 (13 * i + k)) := h.2.2.2.2.2.1 i hi
theorem AI.im {α : SG} (h : AI α) {i : Nat} (hi : i < cN α) : VS (fun k => α 127 (13 * i + k)) := h.2.2.2.2.2.2.1 i hi
theorem AI.f {α : SG} (h : AI α) : α 120 2 = nI (fN α) ∧ fN α ≤ 900 := h.2.2.2.2.2.2.2.1
theorem AI.z {α : SG} (h : AI α) (h0 : nM (α 123) = 0) : (∀ k, k < 10 → α 123 k = 0) ∧ α 125 12 = 0 ∧ α 120 20 = 0 ∧ α 120 21 = 0 := h.2.2.2.2.2.2.2.2 h0
/-- all but the trouble is the same -/
theorem AI.tr {α : SG} (h : AI α) (w : Int32) : AI (tr_ α w) := by
  unfold AI uN cN fN HR at h ⊢
  rw [tr_o (o := 123) (by omega), tr_o (o := 125) (by omega), tr_o (o := 126) (by omega), tr_o (o := 127) (by omega), tr_k (k := 20) (by omega), tr_k (k := 21) (by omega), tr_k (k := 2) (by omega), tr_k (k := 14) (by omega)]
  exact h
theorem PR.of {σ σ' α α' : SG} (h : PR σ α) (hc3 : cN α ≤ 3) (h1 : ∀ o, 9 ≤ o → o ≤ 68 → σ' o = σ o) (h2 : α' 126 = α 126) (h3 : α' 127 = α 127) (h4 : α' 120 20 = α 120 20) (h5 : α' 120 21 = α 120 21) : PR σ' α' := by
  obtain ⟨nx, a, b, c, d, e, f⟩ := h
  have eu : uN α' = uN α := by unfold uN; rw [h4]
  have ec : cN α' = cN α := by unfold cN; rw [h5]
  refine ⟨nx, a, ?_, ?_, ?_, fun i hi => ?_, fun i hi => ?_⟩
  · rw [h1 9 (by omega) (by omega)]; exact b
  · rw [h1 9 (by omega) (by omega), h4]; exact c
  · rw [h1 9 (by omega) (by omega), h5]; exact d
  · rw [eu] at hi ⊢
    rw [h2]
    have : (nx + 16 - uN α + i) % 16 < 16 := Nat.mod_lt _ (by decide)
    exact (e i hi).mono (fun o ho1 ho2 => h1 o (by omega) (by omega))
  · rw [ec] at hi
    rw [h3]
    exact (f i hi).mono (fun o ho1 ho2 => h1 o (by omega) (by omega))
theorem CI.tr {σ : SG} {θ : TH} {α : SG} {w : Int32} (h : CI σ θ α) (hA : AI α) (hf : isF (θ 1 7)) (hw : w ≠ 4) : CI (aw_u σ 1 10 w) θ (tr_ α w) := by
  obtain ⟨a, b, c, d, e, f, g⟩ := h
  refine ⟨?_, ?_, ?_, ?_, ?_, ?_, ?_⟩
  · rw [tr_o (by omega)]; exact a.tr hf
  · rw [tr_o (by omega)]; exact b.tr
  · exact c.of hA.c.2 (fun o _ _ => aw_uo (by omega)) (tr_o (by omega)) (tr_o (by omega)) (tr_k (by omega)) (tr_k (by omega))
  · unfold TR fN at d ⊢
    rw [tr_k (by omega), tr_o (by omega), aw_uo (by omega), aw_uo (by omega)]
    exact d
  · rw [aw_u_nk (by omega), tr_k (by omega)]; exact e
  · rw [aw_u_eq, tr_w]
  · intro h4; rw [tr_w] at h4; exact absurd h4 hw
/-- .. and after a question -/
theorem CI.q {σ σ' : SG} {θ : TH} {α : SG} {w : Int32} (h : CI σ θ α) (hA : AI α) (hf : isF (θ 1 7)) (hS : CS σ σ' w) (hw : w ≠ 4) : CI σ' θ (tr_ α w) := by
  obtain ⟨a, b, c, d, e, f, g⟩ := h
  have hr := hf.r
  refine ⟨?_, ?_, ?_, ?_, ?_, ?_, ?_⟩
  · rw [tr_o (by omega)]; exact a.mono (fun o _ _ => hS.1 o (by omega) (by omega))
  · rw [tr_o (by omega)]; exact b.mono (fun o _ _ => hS.1 o (by omega) (by omega))
  · exact c.of hA.c.2 (fun o _ _ => hS.1 o (by omega) (by omega)) (tr_o (by omega)) (tr_o (by omega)) (tr_k (by omega)) (tr_k (by omega))
  · unfold TR fN at d ⊢
    rw [tr_k (by omega), tr_o (by omega), hS.1 2 (by omega) (by omega), hS.1 3 (by omega) (by omega)]
    exact d
  · rw [hS.2.1 9 (by omega), tr_k (by omega)]; exact e
  · rw [hS.2.2, tr_w]
  · intro h4; rw [tr_w] at h4; exact absurd h4 hw
/-- the reference's calls touch nothing of the class -/
theorem CI.rc {σ σ' : SG} {θ : TH} {α : SG} (h : CI σ θ α) (hA : AI α) (hf : isF (θ 1 7)) (hR : RC σ σ') : CI σ' θ α := by
  obtain ⟨a, b, c, d, e, f, g⟩ := h
  have hr := hf.r
  refine ⟨a.mono (fun o _ _ => hR o (by omega)), b.mono (fun o _ _ => hR o (by omega)), c.of hA.c.2 (fun o _ _ => hR o (by omega)) rfl rfl rfl rfl, ?_, ?_, ?_, ?_⟩
  · unfold TR at d ⊢
    rw [hR 2 (by omega), hR 3 (by omega)]
    exact d
  · rw [hR 1 (by omega)]; exact e
  · rw [hR 1 (by omega)]; exact f
  · rw [hR 2 (by omega)]; exact g
/-- the class's calls touch nothing of the reference -/
theorem RI.cc {σ σ' α : SG} (h : RI σ α) (hC : CC σ σ') : RI σ' α := by
  intro o k hk
  rw [hC o (by unfold RK at hk; omega)]
  exact h o k hk
theorem CS.cc {σ σ' : SG} {w : Int32} (h : CS σ σ' w) : CC σ σ' := fun o ho => h.1 o (by omega) (by omega)
/-! what is noted, so that it can be undone -/
def noteF (α : SG) : SG := fun o k =>
  if o = 126 then (if uN α = 16 then (if k < 195 then α 126 (k + 13) else if k < 208 then α 125 (k - 195) else α 126 k) else (if 13 * uN α ≤ k ∧ k < 13 * uN α + 13 then α 125 (k - 13 * uN α) else α 126 k))
  else if o = 120 ∧ k = 20 then nI (if uN α = 16 then 16 else uN α + 1) else α o k
theorem noteF_o {α : SG} {o : Nat} (h : o ≠ 126) (h2 : o ≠ 120) : noteF α o = α o := by
  funext k
  unfold noteF
  rw [if_neg h, if_neg (fun e => h2 e.1)]
theorem noteF_k {α : SG} {k : Nat} (h : k ≠ 20) : noteF α 120 k = α 120 k := by
  unfold noteF
  rw [if_neg (by omega), if_neg (fun e => h e.2)]
theorem noteF_20 {α : SG} : noteF α 120 20 = nI (if uN α = 16 then 16 else uN α + 1) := by
  unfold noteF
  rw [if_neg (by omega), if_pos ⟨rfl, rfl⟩]
theorem noteF_u {α : SG} (h : uN α ≤ 16) : uN (noteF α) = if uN α = 16 then 16 else uN α + 1 := by
  unfold uN at h ⊢
  rw [noteF_20]
  unfold uN
  split <;> rw [ps_cl (by omega)]
/-- the i-th row that can be undone, after one was noted -/
theorem noteF_r {α : SG} {i k : Nat} (h : uN α ≤ 16) (hk : k < 13) (hi : i < uN (noteF α)) : noteF α 126 (13 * i + k) = if i + 1 = uN (noteF α) then α 125 k else if uN α = 16 then α 126 (13 * (i + 1) + k) else α 126 (13 * i + k) := by
  rw [noteF_u h] at hi ⊢
  unfold noteF
  rw [if_pos rfl]
  by_cases h16 : uN α = 16
  · rw [if_pos h16] at hi ⊢
    rw [if_pos h16, if_pos h16]
    by_cases hl : i + 1 = 16
    · rw [if_pos hl, if_neg (by omega), if_pos (by omega)]
      exact congrArg (α 125) (by omega)
    · rw [if_neg hl, if_pos (by omega)]
      exact congrArg (α 126) (by omega)
  · rw [if_neg h16] at hi ⊢
    rw [if_neg h16, if_neg h16]
    by_cases hl : i + 1 = uN α + 1
    · rw [if_pos hl, if_pos (by omega)]
      exact congrArg (α 125) (by omega)
    · rw [if_neg hl, if_neg (by omega)]
theorem AI.note {α : SG} (h : AI α) (hm : 0 < nM (α 123)) : AI (noteF α) := by
  have hu := h.u.2
  have eu := noteF_u hu
  have ec : cN (noteF α) = cN α := by unfold cN; rw [noteF_k (by omega)]
  have ef : fN (noteF α) = fN α := by unfold fN; rw [noteF_k (by omega)]
  refine ⟨?_, ?_, ?_, ?_, ?_, fun i hi => ?_, fun i hi => ?_, ?_, fun h0 => ?_⟩
  · rw [noteF_o (by omega) (by omega)]; exact h.v
  · rw [noteF_o (by omega) (by omega)]; exact h.m
  · have := h.h
    unfold HR at this ⊢
    rw [noteF_o (o := 123) (by omega) (by omega), noteF_k (by omega)]; exact this
  · rw [eu, noteF_20]
    refine ⟨rfl, ?_⟩
    split <;> omega
  · rw [ec, noteF_k (by omega)]; exact h.c
  · have key : ∀ k, k < 13 → ∃ i', (i' = 99 ∧ noteF α 126 (13 * i + k) = α 125 k) ∨ (i' < uN α ∧ noteF α 126 (13 * i + k) = α 126 (13 * i' + k)) ∧ (i' = if uN α = 16 then i + 1 else i) := by
      intro k hk
      rw [noteF_r hu hk hi]
      by_cases hl : i + 1 = uN (noteF α)
      · rw [if_pos hl]; exact ⟨99, Or.inl ⟨rfl, rfl⟩⟩
      · rw [if_neg hl]
        rw [eu] at hl hi
        by_cases h16 : uN α = 16
        · rw [if_pos h16] at hl hi ⊢
          exact ⟨i + 1, Or.inr ⟨⟨by omega, rfl⟩, by rw [if_pos h16]⟩⟩
        · rw [if_neg h16] at hl hi ⊢
          exact ⟨i, Or.inr ⟨⟨by omega, rfl⟩, by rw [if_neg h16]⟩⟩
    refine ⟨fun k hk => ?_, ?_⟩
    · obtain ⟨i', ⟨-, e⟩ | ⟨⟨hi', e⟩, -⟩⟩ := key k (by omega)
      · show bI (noteF α 126 (13 * i + k)) 0 99
        rw [e]; exact h.m.1 k hk
      · show bI (noteF α 126 (13 * i + k)) 0 99
        rw [e]; exact (h.un hi').1 k hk
    · obtain ⟨i', ⟨-, e⟩ | ⟨⟨hi', e⟩, -⟩⟩ := key 12 (by omega)
      · show bI (noteF α 126 (13 * i + 12)) 0 999
        rw [e]; exact h.m.2
      · show bI (noteF α 126 (13 * i + 12)) 0 999
        rw [e]; exact (h.un hi').2
  · rw [ec] at hi
    rw [noteF_o (by omega) (by omega)]
    exact h.im hi
  · rw [ef, noteF_k (by omega)]; exact h.f
  · rw [noteF_o (by omega) (by omega)] at h0
    omega
section Inv
variable {G : GG} {n : Nat} {σ α : SG} {τ : TU} {θ : TH} {q : Int32 → Nat → SG → TU → TH → Prop} {qv : Nat → SG → TU → TH → Prop}
theorem isA_un : isA 126 208 := ⟨kp_126, by decide, by decide⟩
theorem isA_kept : isA 127 39 := ⟨kp_127, by decide, by decide⟩
theorem k10_note (hW : aw_WT n θ) (hR : RI σ α) (hA : AI α) (hq : ∀ σ', RI σ' (noteF α) → (∀ o k, o ≠ 126 → ¬ (o = 120 ∧ k = 20) → σ' o k = σ o k) → qv n σ' τ θ) : SMv G 2 mX10_note 0 0 [.ref 120] n σ τ θ qv := by
  obtain ⟨eu, hu⟩ := hA.u
  have e20 : σ 120 20 = nI (uN α) := (hR.s (by omega)).trans eu
  refine ctX10_note (sgX10_note_0 (Nat.le_refl _) hW ?_)
  rw [e20, show (nI (uN α) = 16) ↔ uN α = 16 from nI_eq (b := 16) (by omega) (by omega)]
  refine ⟨fun h => ?_, fun h => ?_⟩
  · rw [show (13 : Int32) * nI (uN α) = nI (13 * uN α) from pk_mul 13 _]
    refine k10_copy (i := 0) (m := 13) hW isA_st isA_un (by decide) (by decide) (by omega) (by decide) (by decide) ⟨hW, ?_⟩
    rw [s_cp_out (by decide), e20, nI_1]
    refine hq _ (fun o k hk => ?_) (fun o k h1 h2 => ?_)
    · by_cases ho : o = 126
      · subst ho
        rw [aw_uo (by decide)]
        unfold noteF
        rw [if_pos rfl, if_neg h]
        by_cases hc : 13 * uN α ≤ k ∧ k < 13 * uN α + 13
        · rw [if_pos hc, s_cp_in hc.1 hc.2, hR.f (by omega), Nat.zero_add]
        · rw [if_neg hc, s_cp_off (by omega), hR.f (by omega)]
      · by_cases ho2 : o = 120 ∧ k = 20
        · obtain ⟨rfl, rfl⟩ := ho2
          rw [aw_u_eq, noteF_20, if_neg h]
        · have : (aw_u (s_cp σ 125 0 126 (13 * uN α) 13) 120 20 (nI (uN α + 1))) o k = σ o k := by
            unfold aw_u
            rw [if_neg ho2, s_cp_out ho]
          rw [this]
          unfold noteF
          rw [if_neg ho, if_neg ho2]
          exact hR o k hk
    · unfold aw_u
      rw [if_neg h2, s_cp_out h1]
  · have key := ps_up (N := 195) (P := fun j => ∀ σ1, (∀ o k, σ1 o k = if o = 126 ∧ k < j then σ 126 (k + 13) else σ o k) → SW G 2 mX10_note (aw_qv qv) 0 0 11 [some (.ref 120), some (.int (nI j))] [] (n, σ1, τ, θ)) ?_ ?_ 0 (Nat.zero_le _)
    · exact key σ (fun o k => by rw [if_neg (by omega)])
    · intro σ1 h1
      refine sgX10_note_11 _ (Nat.le_refl _) hW (ps_br (c := 195) (N := 195) rfl (by omega) (by omega) (fun _ => ?_) (fun h => absurd h (by omega)))
      have e20' : σ1 120 20 = nI 16 := by rw [h1, if_neg (by omega), e20, h]
      rw [aw_u_eq, e20', show nI 16 - 1 = nI 15 from nI_pred 15, show (13 : Int32) * nI 15 = nI 195 from pk_mul 13 15]
      refine k10_copy (i := 0) (m := 13) hW isA_st isA_un (by decide) (by decide) (by decide) (by decide) (by decide) ⟨hW, ?_⟩
      rw [s_cp_out (by decide), aw_u_eq, nI_1]
      refine hq _ (fun o k hk => ?_) (fun o k h2 h3 => ?_)
      · by_cases ho : o = 126
        · subst ho
          rw [aw_uo (by decide)]
          unfold noteF
          rw [if_pos rfl, if_pos h]
          by_cases hc : k < 195
          · rw [if_pos hc, s_cp_off (by omega), aw_uo (by decide), h1, if_pos ⟨rfl, hc⟩, hR.f (by omega)]
          · rw [if_neg hc]
            by_cases hc2 : k < 208
            · rw [if_pos hc2, s_cp_in (by omega) (by omega), aw_uo (by decide), h1, if_neg (by omega), hR.f (by omega), Nat.zero_add]
            · rw [if_neg hc2, s_cp_off (by omega), aw_uo (by decide), h1, if_neg (by omega), hR.f (by omega)]
        · by_cases ho2 : o = 120 ∧ k = 20
          · obtain ⟨rfl, rfl⟩ := ho2
            rw [aw_u_eq, noteF_20, if_pos h]
          · have : (aw_u (s_cp (aw_u σ1 120 20 (nI 15)) 125 0 126 195 13) 120 20 (nI (15 + 1))) o k = σ o k := by
              unfold aw_u
              rw [if_neg ho2, s_cp_out ho, if_neg ho2, h1, if_neg (fun e => ho e.1)]
            rw [this]
            unfold noteF
            rw [if_neg ho, if_neg ho2]
            exact hR o k hk
      · unfold aw_u
        rw [if_neg h3, s_cp_out h2, if_neg h3, h1, if_neg (fun e => h2 e.1)]
    · intro j hj ih σ1 h1
      refine sgX10_note_11 _ (Nat.le_refl _) hW (ps_br (c := 195) (N := 195) rfl (by omega) (by omega) (fun h => absurd h (by omega)) (fun _ => ?_))
      rw [show nI j + 13 = nI (j + 13) from nI_add j 13, ps_cl (by omega), ps_cl (by omega), ← nI_succ]
      refine ⟨ps_in (by omega) (by decide), ps_in (by omega) (by decide), ih _ (fun o k => ?_)⟩
      unfold aw_u
      by_cases hc : o = 126 ∧ k = j
      · rw [if_pos hc, h1, if_neg (by omega), if_pos ⟨hc.1, by omega⟩, hc.2]
      · rw [if_neg hc, h1]
        by_cases hc2 : o = 126 ∧ k < j
        · rw [if_pos hc2, if_pos ⟨hc2.1, by omega⟩]
        · rw [if_neg hc2, if_neg (fun e => ?_)]
          by_cases h3 : k = j
          · exact hc ⟨e.1, h3⟩
          · exact hc2 ⟨e.1, by omega⟩
theorem aw_acts (hW : aw_WT n θ) {i : Nat} (hi : i < 16) : θ 10 i = 12 + 3 * i ∧ isM (12 + 3 * i) := by
  have h : ∀ i : Fin 16, (10, i.val, 12 + 3 * i.val) ∈ aw_wtL ∧ (12 + 3 * i.val) ∈ [6, 12, 15, 18, 21, 24, 27, 30, 33, 36, 39, 42, 45, 48, 51, 54, 57, 60, 63, 66, 81] := by decide +kernel
  have h2 := h ⟨i, hi⟩
  exact ⟨hW.2.1 _ h2.1, h2.2⟩
theorem aw_imgs (hW : aw_WT n θ) {i : Nat} (hi : i < 3) : θ 11 i = 60 + 3 * i ∧ isM (60 + 3 * i) := by
  have h : ∀ i : Fin 3, (11, i.val, 60 + 3 * i.val) ∈ aw_wtL ∧ (60 + 3 * i.val) ∈ [6, 12, 15, 18, 21, 24, 27, 30, 33, 36, 39, 42, 45, 48, 51, 54, 57, 60, 63, 66, 81] := by decide +kernel
  have h2 := h ⟨i, hi⟩
  exact ⟨hW.2.1 _ h2.1, h2.2⟩
theorem MR.c {t : Nat} {row row' : Nat → Int32} (h : MR σ t row) (e : ∀ k, k < 13 → row' k = row k) : MR σ t row' := ⟨fun m hm => (h.1 m hm).trans (e _ (by omega)).symm, fun k hk => (h.2.1 k hk).trans (e _ (by omega)).symm, h.2.2.trans (e 12 (by omega)).symm⟩
theorem ps_r16 {a : Nat} (ha : a < 1000) : nI a - nI a / 16 * 16 = nI (a % 16) := pk_rem (d := 16) (by omega) (by omega) (by omega)
theorem k5_keep (hW : aw_WT n θ) (hP : PR σ α) (hA : AI α) (hM : MR σ 6 (α 125)) (hq : ∀ σ', PR σ' (noteF α) → (∀ o, (o < 9 ∨ 68 < o) → σ' o = σ o) → qv n σ' τ θ) : SMv G 2 mX5_keep 0 0 [.ref 9, .ref 6] n σ τ θ qv := by
  obtain ⟨nx, hnx, e4, e0, e1, hun, him⟩ := hP
  obtain ⟨eu, hu⟩ := hA.u
  have hc := hA.c.2
  have enu := noteF_u hu
  have hb16 : uN (noteF α) ≤ 16 := by rw [enu]; split <;> omega
  have enc : cN (noteF α) = cN α := by unfold cN; rw [noteF_k (by omega)]
  obtain ⟨ea, ma⟩ := aw_acts hW hnx
  refine ctX5_keep 6 (sgX5_keep_0 6 (Nat.le_refl _) isM_now hW ?_)
  rw [e4, ps_cl (by omega), ea]
  refine ⟨ps_in (by omega) (by decide), ma, ?_⟩
  refine k2_copyOf ma isM_now (by omega) hW hM (fun σ1 h1 hM1 => ⟨hW, ?_⟩)
  have f4 : σ1 9 4 = nI nx := by rw [h1 9 (by omega)]; exact e4
  have f0 : σ1 9 0 = nI (uN α) := by rw [h1 9 (by omega), e0]; exact eu
  have f1 : σ1 9 1 = α 120 21 := by rw [h1 9 (by omega)]; exact e1
  rw [f4, nI_1, ps_r16 (by omega), aw_u_nk (by decide), f0, nI_1]
  have em : (if (16 : Int32) < nI (uN α + 1) then 16 else nI (uN α + 1)) = noteF α 120 20 := by
    rw [noteF_20]
    by_cases h : uN α = 16
    · rw [if_pos h, if_pos (show (16 : Int32) < nI (uN α + 1) from nI_lt (a := 16) (by omega) (by omega))]
      rfl
    · rw [if_neg h, if_neg (show ¬ (16 : Int32) < nI (uN α + 1) from nI_nlt (a := 16) (by omega) (by omega))]
  rw [em]
  have fr : ∀ o, (o ≠ 9) → (aw_u (aw_u σ1 9 4 (nI ((nx + 1) % 16))) 9 0 (noteF α 120 20)) o = σ1 o := fun o ho => (aw_uo ho).trans (aw_uo ho)
  refine hq _ ⟨(nx + 1) % 16, Nat.mod_lt _ (by decide), ?_, aw_u_eq, ?_, fun i hi => ?_, fun i hi => ?_⟩ (fun o ho => ?_)
  · rw [aw_u_nk (by decide), aw_u_eq]
  · rw [aw_u_nk (by decide), aw_u_nk (by decide), f1, noteF_k (by omega)]
  · by_cases hl : i + 1 = uN (noteF α)
    · have hix : ((nx + 1) % 16 + 16 - uN (noteF α) + i) % 16 = nx := by omega
      rw [hix]
      refine MR.c (hM1.mono (fun o h2 h3 => fr o (by omega))) (fun k hk => ?_)
      rw [noteF_r hu hk hi, if_pos hl]
    · have hi' := hi
      rw [enu] at hi' hl
      have hix : ((nx + 1) % 16 + 16 - uN (noteF α) + i) % 16 = (nx + 16 - uN α + (if uN α = 16 then i + 1 else i)) % 16 ∧ (if uN α = 16 then i + 1 else i) < uN α ∧ (nx + 16 - uN α + (if uN α = 16 then i + 1 else i)) % 16 ≠ nx := by
        rw [enu]
        by_cases h16 : uN α = 16
        · rw [if_pos h16] at hi' hl ⊢
          rw [if_pos h16]
          omega
        · rw [if_neg h16] at hi' hl ⊢
          rw [if_neg h16]
          omega
      obtain ⟨x1, x2, x3⟩ := hix
      rw [x1]
      have x4 : (nx + 16 - uN α + (if uN α = 16 then i + 1 else i)) % 16 < 16 := Nat.mod_lt _ (by decide)
      refine MR.c ((hun _ x2).mono (fun o h2 h3 => (fr o (by omega)).trans (h1 o (by omega)))) (fun k hk => ?_)
      rw [noteF_r hu hk hi, if_neg (by rw [enu]; exact hl)]
      by_cases h16 : uN α = 16
      · rw [if_pos h16, if_pos h16]
      · rw [if_neg h16, if_neg h16]
  · rw [enc] at hi
    refine MR.c ((him i hi).mono (fun o h2 h3 => (fr o (by omega)).trans (h1 o (by omega)))) (fun k _ => ?_)
    show noteF α 127 (13 * i + k) = _
    rw [noteF_o (o := 127) (by omega) (by omega)]
  · exact (fr o (by omega)).trans (h1 o (by omega))
end Inv
