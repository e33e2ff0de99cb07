/-! ===== led: who wears more than his strength; the reference ===== -/
def s_led (r st : Nat → Int32) (x : Int32) : Nat → Int32 → Nat → Option Nat
  | 0, _, _ => none
  | k + 1, seen, j => if r (12 + 3 * j) < s_hd r st (st 12) j then (if seen = x then some j else s_led r st x k (seen + 1) (j + 1)) else s_led r st x k seen (j + 1)
def sp_led (r st : Nat → Int32) (x : Int32) : Option Nat := s_led r st x (nM r) 0 0
def ledV : Option Nat → Int32
  | none => 0
  | some m => nI m
def ledT : Option Nat → Int32
  | none => 1
  | some _ => 0
section Lr
variable {G : GG} {n : Nat} {σ α : SG} {τ : TU} {θ : TH} {q : Int32 → Nat → SG → TU → TH → Prop}
theorem p10_led {x : Int32} (hW : aw_WT n θ) (hR : RI σ α) (hA : AI α) (hq : ∀ σ', RC σ σ' → RI σ' α → σ' 120 0 = ledT (sp_led (α 123) (α 125) x) → q (ledV (sp_led (α 123) (α 125) x)) n σ' τ θ) : SMi G 5 mX10_led 0 0 [.ref 120, .int x] n σ τ θ q := by
  have hv := hA.v
  have h5 := hv.m5
  refine ctX10_led _ (sgX10_led_0 _ (Nat.le_refl _) hW ?_)
  have hR0 : RI (aw_u σ 120 22 0) α := hR.skip (by unfold RK; omega)
  have hC0 : RC σ (aw_u σ 120 22 0) := fun o ho => aw_uo (by omega)
  have hb : (aw_u σ 120 22 0) 120 22 = 0 := aw_u_eq
  generalize aw_u σ 120 22 0 = σ0 at hR0 hC0 hb ⊢
  have fin : ∀ w, ledT (sp_led (α 123) (α 125) x) = w → q (ledV (sp_led (α 123) (α 125) x)) n (aw_u σ0 120 0 w) τ θ := fun w hw => hq _ (fun o ho => (aw_uo (by omega)).trans (hC0 o ho)) (hR0.skip (by unfold RK; omega)) (by rw [aw_u_eq, hw])
  have e3 : σ0 123 = α 123 := hR0.f (by omega)
  have e5 : σ0 125 = α 125 := hR0.f (by omega)
  have e14 : σ0 120 14 = α 120 14 := hR0.s (by omega)
  have key : ∀ k seen j, j + k = nM (α 123) → sp_led (α 123) (α 125) x = s_led (α 123) (α 125) x k seen j → SW G 5 mX10_led (aw_qi q) 0 0 9 [some (.ref 120), some (.int x), some (.int seen), some (.int (nI j))] [] (n, σ0, τ, θ) := by
    intro k
    induction k with
    | zero =>
      intro seen j hj hs
      have hs0 : sp_led (α 123) (α 125) x = none := hs
      have f1 := fin 1 (by rw [hs0]; rfl)
      rw [hs0] at f1
      refine sgX10_led_9 _ _ _ (Nat.le_refl _) hW ⟨fun _ => f1, fun _ => ⟨fun _ => f1, fun h => absurd ?_ h⟩⟩
      rw [e3, hv.m, ← hj]
      exact Int32.le_refl _
    | succ k ih =>
      intro seen j hj hs
      have hs1 : sp_led (α 123) (α 125) x = if (α 123) (12 + 3 * j) < s_hd (α 123) (α 125) ((α 125) 12) j then (if seen = x then some j else s_led (α 123) (α 125) x k (seen + 1) (j + 1)) else s_led (α 123) (α 125) x k seen (j + 1) := hs
      refine sgX10_led_9 _ _ _ (Nat.le_refl _) hW ⟨fun h => ?_, fun _ => ⟨fun h => ?_, fun _ => ?_⟩⟩
      · rw [e14] at h
        rcases hA.h with ⟨-, h0⟩ | ⟨h1, -⟩
        · omega
        · rw [h1] at h; exact absurd h (by decide)
      · rw [e3, hv.m] at h
        exact absurd h (nI_ge (by omega) (by omega))
      · refine k10_head hW isA_st (hR0.vr hA) hb (by omega) ⟨hW, k10_strongOf hW (by omega) ⟨hW, ?_⟩⟩
        rw [e3, e5]
        refine ⟨fun h => ?_, fun h => ?_⟩
        · rw [if_pos h] at hs1
          refine ⟨fun h2 => ?_, fun h2 => ?_⟩
          · rw [if_neg h2] at hs1
            rw [nI_1]
            exact ih _ _ (by omega) hs1
          · rw [if_pos h2] at hs1
            have f0 := fin 0 (by rw [hs1]; rfl)
            rw [hs1] at f0
            exact f0
        · rw [if_neg h] at hs1
          rw [nI_1]
          exact ih _ _ (by omega) hs1
  exact key (nM (α 123)) 0 0 (by omega) rfl
end Lr
