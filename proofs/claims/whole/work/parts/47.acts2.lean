/-! ===== acts: pay, letOff ===== -/
def payL (L : Nat → Int32) (j a b : Nat) (y : Int32) : Nat → Int32 := pu (pu (pu L (7 + a) (L (7 + a) - y)) (7 + b) (L (7 + b) + y)) j (L j - y)
def sp_pay (α : SG) (x y : Int32) : Int32 × SG :=
  if s_in x (nD (α 123)) = true then
    (if ¬ y < 1 ∧ ¬ 99 < y then
      (if s_due (α 123) (α 125) (α 125 12) x.toNatClampNeg = true ∧ y ≤ α 125 x.toNatClampNeg then
        (if y ≤ α 125 (7 + (α 123 (25 + 4 * x.toNatClampNeg)).toNatClampNeg) then
          (α 125 x.toNatClampNeg - y, actF α (payL (α 125) x.toNatClampNeg (α 123 (25 + 4 * x.toNatClampNeg)).toNatClampNeg (α 123 (26 + 4 * x.toNatClampNeg)).toNatClampNeg y))
        else (-1, tr_ α 6))
      else (-1, tr_ α 5))
    else (-1, tr_ α 2))
  else (-1, tr_ α 1)
theorem payL_e {L : Nat → Int32} {j a b : Nat} {y : Int32} (hj : j < 7) (hab : a ≠ b) : payL L j a b y j = L j - y ∧ payL L j a b y (7 + a) = L (7 + a) - y ∧ payL L j a b y (7 + b) = L (7 + b) + y ∧ ∀ k, k ≠ j → k ≠ 7 + a → k ≠ 7 + b → payL L j a b y k = L k := by
  refine ⟨if_pos rfl, ?_, ?_, fun k h1 h2 h3 => ?_⟩
  · exact (pu_ne (by omega)).trans ((pu_ne (by omega)).trans (if_pos rfl))
  · exact (pu_ne (by omega)).trans (if_pos rfl)
  · exact (pu_ne h1).trans ((pu_ne h3).trans (pu_ne h2))
theorem payL_v {L : Nat → Int32} {j a b : Nat} {y : Int32} (h : VS L) (hj : j < 7) (ha : a < 5) (hb : b < 5) (hab : a ≠ b) (h1 : ¬ y < 1) (h2 : y ≤ L j) : VS (payL L j a b y) := by
  obtain ⟨e1, e2, e3, e4⟩ := payL_e (L := L) (y := y) hj hab
  refine ⟨fun k hk => ?_, ?_⟩
  · by_cases hkj : k = j
    · rw [hkj, e1]
      obtain ⟨d, -, hd, ed⟩ := h.1 j hj
      rw [ed] at h2 ⊢
      have h0 : ¬ y < 0 := fun e => h1 (Int32.lt_trans e (by decide))
      obtain ⟨c, hc, rfl⟩ := nI_of h0
      have := (nI_leI (by omega) (by omega)).mp h2
      rw [pk_sub this]
      exact ⟨_, Nat.zero_le _, by omega, rfl⟩
    · rw [e4 k hkj (by omega) (by omega)]; exact h.1 k hk
  · rw [e4 12 (by omega) (by omega) (by omega)]; exact h.2
section Acts2
variable {G : GG} {n : Nat} {σ α : SG} {τ : TU} {θ : TH} {q : Int32 → Nat → SG → TU → TH → Prop} {qv : Nat → SG → TU → TH → Prop}
theorem p9_pay {x y : Int32} (hW : aw_WT n θ) (hC : CI σ θ α) (hA : AI α) (hq : ∀ σ', CC σ σ' → CI σ' θ (sp_pay α x y).2 → q (sp_pay α x y).1 n σ' τ θ) : SMi G 3 mX9_pay 0 0 [.ref 1, .int x, .int y] n σ τ θ q := by
  unfold sp_pay at hq
  have hF := hC.1
  have hM := hC.2.1
  have hr := hW.f.r
  have h7 := hA.v.d7
  have h5 := hA.v.m5
  have ref : ∀ w, w ≠ 4 → (∀ σ', CC σ σ' → CI σ' θ (tr_ α w) → q (-1) n σ' τ θ) → SMi G 1 mX9_refuse 0 0 [.ref 1, .int w] n σ τ θ (fun a n τ' θ' => fun θ'' => aw_WT n θ'' ∧ q a n τ' θ' θ'') := fun w hw h => k9_refuse hW ⟨hW, h _ (fun o ho => aw_uo (by omega)) (hC.tr hA hW.f hw)⟩
  refine ctX9_pay _ _ (sgX9_pay_0 _ _ (Nat.le_refl _) hW ?_)
  refine k9_isDebt hW hF hA.v ⟨hW, And.symm (ps_b (fun h => ?_) (fun h => ⟨fun h2 => ?_, fun h2 => ⟨fun h3 => ?_, fun h3 => ?_⟩⟩))⟩
  · rw [if_neg h] at hq
    exact ref 1 (by decide) hq
  · rw [if_pos h, if_neg (fun e => e.1 h2)] at hq
    exact ref 2 (by decide) hq
  · rw [if_pos h, if_pos ⟨h2, Int32.not_lt.mpr h3⟩] at hq
    obtain ⟨j, hj, rfl⟩ := (s_in_iff (by omega)).mp h
    obtain ⟨⟨a, b, ha, hb, hab, ea, eb⟩, -⟩ := hA.v.debt hj
    rw [ps_cl (by omega), ea, eb, ps_cl (by omega), ps_cl (by omega)] at hq
    have e9 : σ (θ 1 7 + 9) j = nI a := (hF.2.2.2.2.1 j hj).1.trans ea
    have e8 : σ 8 j = α 125 j := hM.2.1 j (by omega)
    have e7 : σ 7 a = α 125 (7 + a) := hM.1 a (by omega)
    rw [hM.2.2, ps_cl (by omega)]
    refine k1_isDue hW.f isM_now hW hF hM hA.v hj ⟨hW, ps_b (fun h4 => ?_) (fun h4 => ⟨ps_in (by omega) (by decide), ?_⟩)⟩
    · rw [if_neg (fun e => h4 e.1)] at hq
      exact ref 5 (by decide) hq
    · rw [e8]
      refine ⟨fun h6 => ⟨ps_in (by omega) (by decide), ?_⟩, fun h6 => ?_⟩
      · rw [if_pos ⟨h4, h6⟩] at hq
        rw [e9, ps_cl (by omega), e7]
        refine ⟨ps_in (by omega) (by decide), fun h8 => ?_, fun h8 => ?_⟩
        · rw [if_pos h8] at hq
          refine k5_keep hW hC.2.2.1 hA hM (fun σ1 hP1 h1 => ⟨hW, ?_⟩)
          have f10 : (aw_u σ1 7 a (σ1 7 a - y)) (θ 1 7 + 10) j = nI b := by
            rw [aw_uo (by omega), h1 _ (by omega)]
            exact (hF.2.2.2.2.1 j hj).2.1.trans eb
          have f7 : ∀ m, m < 5 → σ1 7 m = α 125 (7 + m) := fun m hm => by rw [h1 7 (by omega)]; exact hM.1 m hm
          have f8 : ∀ k, k < 7 → σ1 8 k = α 125 k := fun k hk => by rw [h1 8 (by omega)]; exact hM.2.1 k hk
          rw [f10, ps_cl (by omega), aw_u_eq, aw_uo (o := 7) (o' := 8) (by decide), aw_uo (o := 7) (o' := 8) (by decide), aw_u_nk (show b ≠ a from fun e => hab e.symm), f7 a (by omega), f7 b (by omega), f8 j (by omega)]
          refine ⟨ps_in (by omega) (by decide), ps_in (by omega) (by decide), ps_in (by omega) (by decide), ps_in (by omega) (by decide), ps_in (by omega) (by decide), ps_in (by omega) (by decide), ps_in (by omega) (by decide), ps_in (by omega) (by decide), k9_grant hW ⟨hW, ?_⟩⟩
          have fo : ∀ o, o ≠ 1 → o ≠ 7 → o ≠ 8 → (aw_u (aw_u (aw_u (aw_u σ1 7 a (α 125 (7 + a) - y)) 7 b (α 125 (7 + b) + y)) 8 j (α 125 j - y)) 1 10 0) o = σ1 o := fun o o1 o7 o8 => (aw_uo o1).trans ((aw_uo o8).trans ((aw_uo o7).trans (aw_uo o7)))
          obtain ⟨l1, l2, l3, l4⟩ := payL_e (L := α 125) (j := j) (a := a) (b := b) (y := y) (by omega) hab
          refine hq _ (fun o ho => (fo o (by omega) (by omega) (by omega)).trans (h1 o (by omega))) ?_
          refine hC.af hW.f (fun o ho => (fo o (by omega) (by omega) (by omega)).trans (h1 o (by omega))) ?_ ⟨fun m hm => ?_, fun k hk => ?_, ?_⟩ ?_ hA (by omega) aw_u_eq
          · rw [aw_u_nk (by decide), aw_uo (by decide), aw_uo (by decide), aw_uo (by decide), h1 1 (by omega)]
          · show (aw_u _ 1 10 0) 7 m = _
            rw [aw_uo (by decide), aw_uo (by decide)]
            by_cases hmb : m = b
            · rw [hmb, aw_u_eq, l3]
            · rw [aw_u_nk hmb]
              by_cases hma : m = a
              · rw [hma, aw_u_eq, l2]
              · rw [aw_u_nk hma, f7 m hm, l4 (7 + m) (by omega) (by omega) (by omega)]
          · show (aw_u _ 1 10 0) 8 k = _
            rw [aw_uo (by decide)]
            by_cases hkj : k = j
            · rw [hkj, aw_u_eq, l1]
            · rw [aw_u_nk hkj, aw_uo (by decide), aw_uo (by decide), f8 k hk, l4 k hkj (by omega) (by omega)]
          · rw [fo 6 (by omega) (by omega) (by omega), h1 6 (by omega), l4 12 (by omega) (by omega) (by omega)]
            exact hM.2.2
          · exact hP1.of (hA.note (by omega)).c.2 (fun o _ _ => fo o (by omega) (by omega) (by omega)) rfl rfl rfl rfl
        · rw [if_neg h8] at hq
          exact ref 6 (by decide) hq
      · rw [if_neg (fun e => h6 e.2)] at hq
        exact ref 5 (by decide) hq
  · rw [if_pos h, if_neg (fun e => h3 (Int32.not_lt.mp e.2))] at hq
    exact ref 2 (by decide) hq
theorem p10_pay {x y : Int32} (hW : aw_WT n θ) (hR : RI σ α) (hA : AI α) (hq : ∀ σ', RC σ σ' → RI σ' (sp_pay α x y).2 → AI (sp_pay α x y).2 → q (sp_pay α x y).1 n σ' τ θ) : SMi G 3 mX10_pay 0 0 [.ref 120, .int x, .int y] n σ τ θ q := by
  unfold sp_pay at hq
  have h7 := hA.v.d7
  have h5 := hA.v.m5
  refine ctX10_pay _ _ (sgX10_pay_0 _ _ (Nat.le_refl _) hW ?_)
  refine k10_good' hW (fun σ1 h1 => ⟨hW, k10_isDebt hW (h1.vr (hR.vr hA)) (h1.hr (hR.hr hA)) ⟨hW, ?_⟩⟩)
  have r1 := hR.of h1
  have e3 : σ1 123 = α 123 := by rw [h1.e3]; exact hR.f (by omega)
  have e5 : σ1 125 = α 125 := by rw [h1.e5]; exact hR.f (by omega)
  rw [e3]
  refine And.symm (ps_b (fun h => ?_) (fun h => k10_in hW ⟨hW, And.symm (ps_b (fun h2 => ?_) (fun h2 => ?_))⟩))
  · rw [if_neg h] at hq
    exact k10_no hW ⟨hW, hq _ h1.no.rc (hR.of h1.no) (hA.tr _)⟩
  · rw [if_pos h, if_neg h2] at hq
    exact k10_no hW ⟨hW, hq _ h1.no.rc (hR.of h1.no) (hA.tr _)⟩
  · rw [if_pos h, if_pos h2] at hq
    obtain ⟨j, hj, rfl⟩ := (s_in_iff (by omega)).mp h
    obtain ⟨⟨a, b, ha, hb, hab, ea, eb⟩, -⟩ := hA.v.debt hj
    rw [ps_cl (by omega), ea, eb, ps_cl (by omega), ps_cl (by omega)] at hq
    refine k10_isDue hW isA_st (by omega) ⟨hW, ?_⟩
    rw [e3, e5, ps_cl (by omega), ix25, ps_cl (by omega), ea, show (7 : Int32) + nI a = nI (7 + a) from nI_add 7 a, ps_cl (show 7 + a < 100000 by omega)]
    refine ps_b (fun h4 => ?_) (fun h4 => ⟨ps_in (by omega) (by decide), fun h6 => ⟨ps_in (by omega) (by decide), ps_in (by omega) (by decide), fun h8 => ?_, fun h8 => ?_⟩, fun h6 => ?_⟩)
    · rw [if_neg (fun e => h4 e.1)] at hq
      exact k10_no hW ⟨hW, hq _ h1.no.rc (hR.of h1.no) (hA.tr _)⟩
    · rw [if_pos ⟨h4, h6⟩, if_pos h8] at hq
      refine k10_note hW r1 (hA.tr 0) (fun σ3 r3 h9 => ⟨hW, ?_⟩)
      have g5 : σ3 125 = α 125 := by rw [r3.f (by omega), noteF_o (by omega) (by omega), tr_o (by omega)]
      have g3 : σ3 123 = α 123 := by rw [r3.f (by omega), noteF_o (by omega) (by omega), tr_o (by omega)]
      have x26 : (25 : Int32) + (4 : Int32) * nI j + 1 = nI (26 + 4 * j) := ix26 j
      rw [← ix25 j, x26, ix25 j, g3, ea, show (7 : Int32) + nI a = nI (7 + a) from nI_add 7 a, ps_cl (show 7 + a < 100000 by omega), aw_uo (o := 125) (o' := 123) (by decide), g3, ps_cl (show 26 + 4 * j < 100000 by omega), eb, show (7 : Int32) + nI b = nI (7 + b) from nI_add 7 b, ps_cl (show 7 + b < 100000 by omega), aw_u_eq, aw_u_nk (show 7 + b ≠ 7 + a by omega), aw_u_nk (show j ≠ 7 + b by omega), aw_u_nk (show j ≠ 7 + a by omega), g5]
      refine ⟨ps_in (by omega) (by decide), ps_in (by omega) (by decide), ps_in (by omega) (by decide), ps_in (by omega) (by decide), ps_in (by omega) (by decide), ps_in (by omega) (by decide), ps_in (by omega) (by decide), ps_in (by omega) (by decide), ps_in (by omega) (by decide), ?_⟩
      obtain ⟨l1, l2, l3, l4⟩ := payL_e (L := α 125) (j := j) (a := a) (b := b) (y := y) (by omega) hab
      refine hq _ (fun o ho => ?_) (r3.af (fun o ho => (aw_uo ho).trans ((aw_uo ho).trans (aw_uo ho))) ?_) (hA.act (by omega) (payL_v hA.m (by omega) (by omega) (by omega) hab h2.1 h6))
      · rw [aw_uo (by omega), aw_uo (by omega), aw_uo (by omega)]
        exact (funext fun k => h9 o k (by omega) (by omega)).trans (h1.1 o (by omega))
      · funext k
        by_cases hkj : k = j
        · rw [hkj, aw_u_eq, l1]
        · rw [aw_u_nk hkj]
          by_cases hkb : k = 7 + b
          · rw [hkb, aw_u_eq, l3]
          · rw [aw_u_nk hkb]
            by_cases hka : k = 7 + a
            · rw [hka, aw_u_eq, l2]
            · rw [aw_u_nk hka, g5, l4 k hkj hka hkb]
    · rw [if_pos ⟨h4, h6⟩, if_neg h8] at hq
      exact k10_no hW ⟨hW, hq _ h1.no.rc (hR.of h1.no) (hA.tr _)⟩
    · rw [if_neg (fun e => h6 e.2)] at hq
      exact k10_no hW ⟨hW, hq _ h1.no.rc (hR.of h1.no) (hA.tr _)⟩
end Acts2
