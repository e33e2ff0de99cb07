/-! ===== acts: letOff ===== -/
def lsc (a b : Int32) : Int32 := if a < b then a else b
def ls1 (r : Nat → Int32) (m w : Int32) (s : (Nat → Int32) × Int32) (k : Nat) : (Nat → Int32) × Int32 := if s_due r s.1 (s.1 12) k = true ∧ r (25 + 4 * k) = m ∧ r (26 + 4 * k) = w then (pu s.1 k (s.1 k - lsc (s.1 k) s.2), s.2 - lsc (s.1 k) s.2) else s
def lsN (r : Nat → Int32) (m w : Int32) (L : Nat → Int32) (sum : Int32) : Nat → (Nat → Int32) × Int32
  | 0 => (L, sum)
  | k + 1 => ls1 r m w (lsN r m w L sum k) k
def loN (r R : Nat → Int32) (l : Nat) (sum : Int32) (L : Nat → Int32) : Nat → (Nat → Int32)
  | 0 => L
  | i + 1 => (lsN r (R i) (R ((i + 1) % l)) (loN r R l sum L i) sum (nD r)).1
theorem lsc_b {a b : Nat} (ha : a < 1000) (hb : b < 1000) : lsc (nI a) (nI b) = nI (min a b) := by
  unfold lsc
  by_cases h : a < b
  · rw [if_pos (nI_lt h (by omega)), Nat.min_eq_left (by omega)]
  · rw [if_neg (nI_nlt (by omega) (by omega)), Nat.min_eq_right (by omega)]
theorem lsN_v {r L : Nat → Int32} {m w sum : Int32} (hL : VS L) (hs : bI sum 0 693) : ∀ k, k ≤ 7 → VS (lsN r m w L sum k).1 ∧ bI (lsN r m w L sum k).2 0 693
  | 0, _ => ⟨hL, hs⟩
  | k + 1, hk => by
    obtain ⟨h1, h2⟩ := lsN_v (r := r) (m := m) (w := w) hL hs k (by omega)
    unfold lsN ls1
    split
    · obtain ⟨b, -, hb, eb⟩ := h2
      obtain ⟨a, -, ha, ea⟩ := h1.1 k (by omega)
      rw [ea, eb, lsc_b (by omega) (by omega), pk_sub (Nat.min_le_left _ _), pk_sub (Nat.min_le_right _ _)]
      refine ⟨⟨fun j hj => ?_, ?_⟩, _, Nat.zero_le _, by omega, rfl⟩
      · show bI (if j = k then _ else _) 0 99
        split
        · exact ⟨_, Nat.zero_le _, by omega, rfl⟩
        · exact h1.1 j hj
      · show bI (if 12 = k then _ else _) 0 999
        rw [if_neg (by omega)]; exact h1.2
    · exact ⟨h1, h2⟩
theorem loN_v {r R L : Nat → Int32} {l : Nat} {sum : Int32} (h7 : nD r ≤ 7) (hL : VS L) (hs : bI sum 0 693) : ∀ i, VS (loN r R l sum L i)
  | 0 => hL
  | i + 1 => (lsN_v (loN_v h7 hL hs i) hs _ h7).1
section LetOff
variable {G : GG} {n : Nat} {σ α : SG} {τ : TU} {θ : TH} {f l : Nat} {r R L : Nat → Int32} {q : Int32 → Nat → SG → TU → TH → Prop} {qv : Nat → SG → TU → TH → Prop}
theorem k6_cancel {sum : Int32} (hf : isF f) (hW : aw_WT n θ) (hF : FR σ f r) (hM : MR σ 6 L) (hv : VR r) (hl : σ 73 1 = nI l) (hl5 : l ≤ 5) (hR : ∀ j, j < l → σ 74 j = R j) (hq : ∀ σ', (∀ o, o ≠ 8 → σ' o = σ o) → MR σ' 6 (loN r R l sum L l) → qv n σ' τ θ) : SMv G 2 mX6_cancel 0 0 [.ref 73, .ref f, .ref 6, .int sum] n σ τ θ qv := by
  have h7 := hv.d7
  have hr := hf.r
  refine ctX6_cancel f 6 sum (sgX6_cancel_0 f 6 sum (Nat.le_refl _) hf isM_now hW ?_)
  refine ps_up (N := l) (P := fun i => ∀ σ1, (∀ o, o ≠ 8 → σ1 o = σ o) → MR σ1 6 (loN r R l sum L i) → SW G 2 mX6_cancel (aw_qv qv) 0 0 3 [some (.ref 73), some (.ref f), some (.ref 6), some (.int sum), some (.int (nI i)), none, none, none] [] (n, σ1, τ, θ)) ?_ ?_ 0 (Nat.zero_le _) σ (fun _ _ => rfl) hM
  · intro σ1 h1 hM1
    exact sgX6_cancel_3 f 6 _ _ (Nat.le_refl _) hf isM_now hW (ps_done (by rw [h1 73 (by omega)]; exact hl) (hq _ h1 hM1))
  · intro i hi ih σ1 h1 hM1
    refine sgX6_cancel_3 f 6 _ _ (Nat.le_refl _) hf isM_now hW (ps_br (by rw [h1 73 (by omega)]; exact hl) (by omega) (by omega) (fun h => absurd h (by omega)) (fun _ => ?_))
    refine ps_up (N := nD r) (P := fun k => ∀ σ2, (∀ o, o ≠ 8 → σ2 o = σ o) → MR σ2 6 (lsN r (R i) (R ((i + 1) % l)) (loN r R l sum L i) sum k).1 → SW G 2 mX6_cancel (aw_qv qv) 0 0 18 [some (.ref 73), some (.ref f), some (.ref 6), some (.int sum), some (.int (nI i)), some (.int (lsN r (R i) (R ((i + 1) % l)) (loN r R l sum L i) sum k).2), some (.int (nI k)), none] [] (n, σ2, τ, θ)) ?_ ?_ 0 (Nat.zero_le _) σ1 h1 hM1
    · intro σ2 h2 hM2
      have e5 : σ2 (f + 8) 4 = nI (nD r) := by rw [h2 (f + 8) (by omega)]; exact hF.1.2.2.2.2.2.1.trans hv.d
      refine sgX6_cancel_18 f 6 _ _ _ _ (Nat.le_refl _) hf isM_now hW (ps_done e5 ?_)
      rw [← nI_succ]
      exact ih σ2 h2 hM2
    · intro k hk ih2 σ2 h2 hM2
      have hF2 : FR σ2 f r := hF.mono (fun o _ _ => h2 o (by omega))
      have e5 : σ2 (f + 8) 4 = nI (nD r) := hF2.1.2.2.2.2.2.1.trans hv.d
      have e74 : σ2 74 i = R i := by rw [h2 74 (by omega)]; exact hR i hi
      refine sgX6_cancel_18 f 6 _ _ _ _ (Nat.le_refl _) hf isM_now hW (ps_br e5 (by omega) (by omega) (fun h => absurd h (by omega)) (fun _ => ⟨ps_in (by omega) (by decide), ps_in (by omega) (by decide), ?_⟩))
      rw [ps_cl (by omega), ps_cl (by omega), (hF2.2.2.2.2.1 k hk).1, (hF2.2.2.2.2.1 k hk).2.1, e74, ← nI_succ]
      simp only [lsN] at ih2
      generalize lsN r (R i) (R ((i + 1) % l)) (loN r R l sum L i) sum k = s at ih2 hM2 ⊢
      refine ⟨fun h3 => ?_, fun h3 => ⟨ps_in (by omega) (by decide), ?_⟩⟩
      · rw [show ls1 r (R i) (R ((i + 1) % l)) s k = s from if_neg (fun e => h3 e.2.1)] at ih2
        exact ih2 _ h2 hM2
      · refine k6_follower (R := R) hW (by rw [h2 73 (by omega)]; exact hl) hl5 hi (fun j hj => by rw [h2 74 (by omega)]; exact hR j hj) ⟨hW, fun h4 => ?_, fun h4 => ?_⟩
        · rw [show ls1 r (R i) (R ((i + 1) % l)) s k = s from if_neg (fun e => h4 e.2.2)] at ih2
          exact ih2 _ h2 hM2
        · rw [hM2.2.2]
          refine k1_isDue hf isM_now hW hF2 hM2 hv hk ⟨hW, ps_b (fun h6 => ?_) (fun h6 => ⟨ps_in (by omega) (by decide), ps_in (by omega) (by decide), ps_in (by omega) (by decide), ?_⟩)⟩
          · rw [show ls1 r (R i) (R ((i + 1) % l)) s k = s from if_neg (fun e => h6 e.1)] at ih2
            exact ih2 _ h2 hM2
          · rw [show ls1 r (R i) (R ((i + 1) % l)) s k = (pu s.1 k (s.1 k - lsc (s.1 k) s.2), s.2 - lsc (s.1 k) s.2) from if_pos ⟨h6, h3, h4⟩] at ih2
            rw [hM2.2.1 k (by omega)]
            refine ih2 _ (fun o ho => (aw_uo ho).trans (h2 o ho)) ⟨fun m hm => ?_, fun k' hk' => ?_, ?_⟩
            · rw [aw_uo (by decide)]; exact (hM2.1 m hm).trans (pu_ne (by omega)).symm
            · by_cases hk2 : k' = k
              · rw [hk2, aw_u_eq]; exact (if_pos rfl).symm
              · rw [aw_u_nk hk2]; exact (hM2.2.1 k' hk').trans (pu_ne hk2).symm
            · rw [aw_uo (by decide)]; exact hM2.2.2.trans (pu_ne (by omega)).symm
theorem k10_lessen {m w sum : Int32} (hW : aw_WT n θ) (hv : VR (σ 123)) (hq : ∀ σ', (∀ o, o ≠ 125 → σ' o = σ o) → σ' 125 = (lsN (σ 123) m w (σ 125) sum (nD (σ 123))).1 → qv n σ' τ θ) : SMv G 3 mX10_lessen 0 0 [.ref 120, .int m, .int w, .int sum] n σ τ θ qv := by
  have h7 := hv.d7
  refine ctX10_lessen _ _ _ (sgX10_lessen_0 _ _ _ (Nat.le_refl _) hW ?_)
  refine ps_up (N := nD (σ 123)) (P := fun k => ∀ σ2, (∀ o, o ≠ 125 → σ2 o = σ o) → σ2 125 = (lsN (σ 123) m w (σ 125) sum k).1 → SW G 3 mX10_lessen (aw_qv qv) 0 0 6 [some (.ref 120), some (.int m), some (.int w), none, some (.int (lsN (σ 123) m w (σ 125) sum k).2), some (.int (nI k)), none] [] (n, σ2, τ, θ)) ?_ ?_ 0 (Nat.zero_le _) σ (fun _ _ => rfl) rfl
  · intro σ2 h2 e2
    exact sgX10_lessen_6 _ _ _ _ (Nat.le_refl _) hW (ps_done (by rw [h2 123 (by omega)]; exact hv.d) (hq _ h2 e2))
  · intro k hk ih σ2 h2 e2
    refine sgX10_lessen_6 _ _ _ _ (Nat.le_refl _) hW (ps_br (by rw [h2 123 (by omega)]; exact hv.d) (by omega) (by omega) (fun h => absurd h (by omega)) (fun _ => ?_))
    refine k10_isOf hW isA_st (by omega) ⟨hW, ?_⟩
    rw [h2 123 (by omega), e2, ps_cl (by omega), ix26, ps_cl (show 26 + 4 * k < 100000 by omega), ← nI_succ]
    simp only [lsN] at ih
    generalize lsN (σ 123) m w (σ 125) sum k = s at ih e2 ⊢
    refine ps_b (fun h8 => ?_) (fun h8 => ⟨ps_in (by omega) (by decide), fun h9 => ⟨ps_in (by omega) (by decide), fun h10 => ⟨ps_in (by omega) (by decide), ps_in (by omega) (by decide), ?_⟩, fun h10 => ⟨ps_in (by omega) (by decide), ps_in (by omega) (by decide), ps_in (by omega) (by decide), ?_⟩⟩, fun h9 => ?_⟩)
    · rw [show ls1 (σ 123) m w s k = s from if_neg (fun e => h8 ⟨e.1, e.2.1⟩)] at ih
      exact ih _ h2 e2
    · rw [show ls1 (σ 123) m w s k = (pu s.1 k (s.1 k - lsc (s.1 k) s.2), s.2 - lsc (s.1 k) s.2) from if_pos ⟨h8.1, h8.2, h9⟩, show lsc (s.1 k) s.2 = s.2 from if_neg (Int32.not_lt.mpr h10)] at ih
      refine ih _ (fun o ho => (aw_uo ho).trans (h2 o ho)) ?_
      funext k'
      show aw_u σ2 125 k _ 125 k' = pu s.1 k _ k'
      unfold aw_u pu
      by_cases hk2 : k' = k
      · rw [if_pos ⟨rfl, hk2⟩, if_pos hk2]
      · rw [if_neg (fun e => hk2 e.2), if_neg hk2, e2]
    · rw [show ls1 (σ 123) m w s k = (pu s.1 k (s.1 k - lsc (s.1 k) s.2), s.2 - lsc (s.1 k) s.2) from if_pos ⟨h8.1, h8.2, h9⟩, show lsc (s.1 k) s.2 = s.1 k from if_pos (Int32.not_le.mp h10)] at ih
      refine ih _ (fun o ho => (aw_uo ho).trans (h2 o ho)) ?_
      funext k'
      show aw_u σ2 125 k _ 125 k' = pu s.1 k _ k'
      unfold aw_u pu
      by_cases hk2 : k' = k
      · rw [if_pos ⟨rfl, hk2⟩, if_pos hk2]
      · rw [if_neg (fun e => hk2 e.2), if_neg hk2, e2]
    · rw [show ls1 (σ 123) m w s k = s from if_neg (fun e => h9 e.2.2)] at ih
      exact ih _ h2 e2
def loT (r st : Nat → Int32) (j : Nat) : Nat → Int32 := loN r (pT r st j) (fT r st j) (nI (rsT r st j)) st (fT r st j)
def sp_letOff (α : SG) (x : Int32) : Int32 × SG := if s_in x (nM (α 123)) = true then (if fT (α 123) (α 125) x.toNatClampNeg < 1000000 then (nI (rsT (α 123) (α 125) x.toNatClampNeg), actF α (loT (α 123) (α 125) x.toNatClampNeg)) else (-1, tr_ α 6)) else (-1, tr_ α 1)
theorem p9_letOff {x : Int32} (hW : aw_WT n θ) (hC : CI σ θ α) (hA : AI α) (hq : ∀ σ', CC σ σ' → CI σ' θ (sp_letOff α x).2 → q (sp_letOff α x).1 n σ' τ θ) : SMi G 5 mX9_letOff 0 0 [.ref 1, .int x] n σ τ θ q := by
  unfold sp_letOff at hq
  have hF := hC.1
  have hM := hC.2.1
  have hr := hW.f.r
  have h5 := hA.v.m5
  refine ctX9_letOff _ (sgX9_letOff_0 _ (Nat.le_refl _) hW ?_)
  refine k9_isMan hW hF hA.v ⟨hW, And.symm (ps_b (fun h => ?_) (fun h => ?_))⟩
  · rw [if_neg h] at hq
    exact k9_refuse hW ⟨hW, hq _ (fun o ho => aw_uo (by omega)) (hC.tr hA hW.f (by decide))⟩
  · rw [if_pos h] at hq
    obtain ⟨m, hm, rfl⟩ := (s_in_iff (by omega)).mp h
    rw [ps_cl (by omega)] at hq
    refine k6_find hW.f hW hF hM hA.v hm (fun σ1 s1 hx => ⟨hW, And.symm (ps_b (fun h2 => ?_) (fun h2 => ?_))⟩)
    · rw [if_neg h2] at hq
      refine k9_refuse hW ⟨hW, hq _ (s1.tr 6).cc (hC.q hA hW.f (s1.tr 6) (by decide))⟩
    · rw [if_pos h2] at hq
      obtain ⟨x1, x2, x3, x4⟩ := hx h2
      have hP1 : PR σ1 α := hC.2.2.1.of hA.c.2 (fun o _ _ => s1 o (by omega)) rfl rfl rfl rfl
      refine k5_keep hW hP1 hA (s1.mr hM) (fun σ2 hP2 h3 => ⟨hW, ?_⟩)
      have g3 : ∀ o, (o < 9 ∨ 83 < o) → σ2 o = σ o := fun o ho => (h3 o (by omega)).trans (s1 o (by omega))
      have hF2 : FR σ2 (θ 1 7) (α 123) := hF.mono (fun o _ _ => g3 o (by omega))
      have hM2 : MR σ2 6 (α 125) := hM.mono (fun o _ _ => g3 o (by omega))
      have y1 : σ2 73 1 = nI (fT (α 123) (α 125) m) := by rw [h3 73 (by omega)]; exact x1
      have y4 : ∀ j, j < fT (α 123) (α 125) m → σ2 74 j = pT (α 123) (α 125) m j := fun j hj => by rw [h3 74 (by omega)]; exact x4 j hj
      refine k6_sum hW.f hW hF2 hM2 hA.v hA.m y1 x2 (by omega) y4 (fT_b hA.v hm h2).2.2 ⟨hW, ?_⟩
      refine k6_cancel hW.f hW hF2 hM2 hA.v y1 x2 y4 (fun σ3 h4 hM3 => ⟨hW, k9_grant hW ⟨hW, ?_⟩⟩)
      refine hq _ (fun o ho => (aw_uo (by omega)).trans ((h4 o (by omega)).trans (g3 o (by omega)))) ?_
      refine hC.af hW.f (fun o ho => (aw_uo (by omega)).trans ((h4 o (by omega)).trans (g3 o (by omega)))) ?_ hM3.tr ?_ hA (by omega) aw_u_eq
      · rw [aw_u_nk (by decide), h4 1 (by omega), g3 1 (by omega)]
      · exact hP2.of (hA.note (by omega)).c.2 (fun o _ _ => (aw_uo (by omega)).trans (h4 o (by omega))) rfl rfl rfl rfl
theorem p10_letOff {x : Int32} (hW : aw_WT n θ) (hR : RI σ α) (hA : AI α) (hq : ∀ σ', RC σ σ' → RI σ' (sp_letOff α x).2 → AI (sp_letOff α x).2 → q (sp_letOff α x).1 n σ' τ θ) : SMi G 13 mX10_letOff 0 0 [.ref 120, .int x] n σ τ θ q := by
  unfold sp_letOff at hq
  have h5 := hA.v.m5
  have e3 : σ 123 = α 123 := hR.f (by omega)
  have e5 : σ 125 = α 125 := hR.f (by omega)
  refine ctX10_letOff _ (sgX10_letOff_0 _ (Nat.le_refl _) hW ?_)
  refine k10_good' hW (fun σ1 h1 => ⟨hW, k10_isMan hW (h1.vr (hR.vr hA)) (h1.hr (hR.hr hA)) ⟨hW, ?_⟩⟩)
  rw [h1.e3, e3]
  refine And.symm (ps_b (fun h => ?_) (fun h => ?_))
  · rw [if_neg h] at hq
    exact k10_no hW ⟨hW, hq _ h1.no.rc (hR.of h1.no) (hA.tr _)⟩
  · rw [if_pos h] at hq
    obtain ⟨m, hm, rfl⟩ := (s_in_iff (by omega)).mp h
    rw [ps_cl (by omega)] at hq
    refine k10_seekRing hW h1 (hR.vr hA) (hR.vs hA) (by rw [e3]; exact hm) (fun σ2 h2 hx => ⟨hW, ?_⟩)
    rw [e3, e5] at hx ⊢
    refine And.symm (ps_b (fun h3 => ?_) (fun h3 => ?_))
    · rw [if_neg h3] at hq
      exact k10_no hW ⟨hW, hq _ h2.no.rc (hR.of h2.no) (hA.tr _)⟩
    · rw [if_pos h3] at hq
      obtain ⟨b2, b5, -⟩ := fT_b hA.v hm h3
      obtain ⟨x1, x4⟩ := hx h3
      have hsum := (rsT_b hA.v hA.m hm h3).1
      refine k10_sumOf hW h2 (hR.vr hA) (hR.vs hA) x1 b5 (by omega) x4 ⟨hW, ?_⟩
      rw [e3, e5]
      refine k10_note hW (hR.of h2) (hA.tr 0) (fun σ3 r3 h9 => ⟨hW, ?_⟩)
      have g5 : σ3 125 = α 125 := by rw [r3.f (by omega), noteF_o (by omega) (by omega), tr_o (by omega)]
      have g3 : σ3 123 = α 123 := by rw [r3.f (by omega), noteF_o (by omega) (by omega), tr_o (by omega)]
      have y1 : σ3 120 29 = nI (fT (α 123) (α 125) m) := by rw [h9 120 29 (by omega) (by omega)]; exact x1
      have y4 : ∀ j, j < fT (α 123) (α 125) m → σ3 132 j = pT (α 123) (α 125) m j := fun j hj => by rw [h9 132 j (by omega) (by omega)]; exact x4 j hj
      refine ps_up (N := fT (α 123) (α 125) m) (P := fun i => ∀ σ4, (∀ o, o ≠ 125 → σ4 o = σ3 o) → σ4 125 = loN (α 123) (pT (α 123) (α 125) m) (fT (α 123) (α 125) m) (nI (rsT (α 123) (α 125) m)) (α 125) i → SW G 13 mX10_letOff (aw_qi q) 0 0 44 [some (.ref 120), none, some (.int (nI (rsT (α 123) (α 125) m))), some (.int (nI i))] [] (n, σ4, τ, θ)) ?_ ?_ 0 (Nat.zero_le _) σ3 (fun _ _ => rfl) g5
      · intro σ4 h6 e6
        refine sgX10_letOff_44 _ _ (Nat.le_refl _) hW (ps_done (by rw [h6 120 (by omega)]; exact y1) ?_)
        refine hq _ (fun o ho => ?_) (r3.af h6 e6) (hA.act (by omega) (loN_v hA.v.d7 hA.m ⟨_, Nat.zero_le _, hsum, rfl⟩ _))
        rw [h6 o (by omega)]
        exact (funext fun k => h9 o k (by omega) (by omega)).trans (h2.1 o (by omega))
      · intro i hi ih σ4 h6 e6
        have z1 : σ4 120 29 = nI (fT (α 123) (α 125) m) := by rw [h6 120 (by omega)]; exact y1
        have b1 : (i + 1) % fT (α 123) (α 125) m < fT (α 123) (α 125) m := Nat.mod_lt _ (by omega)
        refine sgX10_letOff_44 _ _ (Nat.le_refl _) hW (ps_br z1 (by omega) (by omega) (fun h => absurd h (by omega)) (fun _ => ?_))
        rw [z1, ← nI_succ, pk_rem (by omega) (by omega) (by omega), ps_cl (by omega), ps_cl (by omega), h6 132 (by omega), y4 i hi, y4 _ b1]
        refine ⟨ps_in (by omega) (by decide), nI_ne0 (by omega) (by omega), ps_in (by omega) (by decide), ?_⟩
        have z3 : σ4 123 = α 123 := by rw [h6 123 (by omega), g3]
        refine k10_lessen hW (by rw [z3]; exact hA.v) (fun σ5 h8 e8 => ⟨hW, ih _ (fun o ho => (h8 o ho).trans (h6 o ho)) ?_⟩)
        rw [e8, z3, e6]
        rfl
end LetOff
