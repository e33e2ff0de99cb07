/-! ===== fourth group ===== -/
theorem ps_4 {A B : Prop} {j : Nat} (hj : j < 100) (f : 4 ≤ j → A) (g : j < 4 → B) : ((4 : Int32) ≤ nI j → A) ∧ (¬ (4 : Int32) ≤ nI j → B) := ps_br (c := 4) (N := 4) rfl (by omega) (by omega) f g
theorem ps_nt_all : ∀ a : Fin 100, ∀ t : Fin 21, 1 ≤ a.val → 1 ≤ t.val → (nI a.val - 1) - (nI a.val - 1) / nI t.val * nI t.val + 1 = s_nt (nI a.val) (nI t.val) := by decide +kernel
section Pub4
variable {G : GG} {n : Nat} {σ : SG} {τ : TU} {θ : TH} {f t : Nat} {r st row : Nat → Int32} {q : Int32 → Nat → SG → TU → TH → Prop} {qv : Nat → SG → TU → TH → Prop} {ql : Int64 → Nat → SG → TU → TH → Prop}
def sp_rests (r : Nat → Int32) (x y z : Int32) : Int32 × Int32 := if s_dw r x y z = 0 then (s_rc (r (12 + 3 * x.toNatClampNeg)) (r (12 + 3 * y.toNatClampNeg)) z 4, 0) else (-1, s_dw r x y z)
theorem p9_rests {x y z : Int32} (hW : aw_WT n θ) (hF : FR σ (θ 1 7) r) (hv : VR r) (hq : ∀ σ' τ', CS σ σ' (sp_rests r x y z).2 → q (sp_rests r x y z).1 n σ' τ' θ) : SMi G 3 mX9_rests 0 0 [.ref 1, .int x, .int y, .int z] n σ τ θ q := by
  unfold sp_rests at hq
  have h5 := hv.m5
  refine ctX9_rests _ _ _ (sgX9_rests_0 _ _ _ (Nat.le_refl _) hW ?_)
  refine k9_dw hW hF hv ⟨hW, fun h => ?_, fun h => ?_⟩
  · rw [if_pos h] at hq
    obtain ⟨m, o, hm, ho, rfl, rfl⟩ := s_dw0 hv h
    rw [ps_cl (by omega), ps_cl (by omega)] at hq
    refine ps_up (N := 4) (P := fun j => SW G 3 mX9_rests (aw_qi q) 0 0 27 [some (.ref 1), some (.int (nI m)), some (.int (nI o)), some (.int z), none, some (.int (s_rc (r (12 + 3 * m)) (r (12 + 3 * o)) z j)), some (.int (nI j))] [] (n, σ, τ, θ)) ?_ ?_ 0 (Nat.zero_le _)
    · exact sgX9_rests_27 _ _ _ _ _ (Nat.le_refl _) hW (ps_4 (by omega) (fun _ => k9_grant hW ⟨hW, hq _ _ (CS.tr _ _)⟩) (fun h => absurd h (by omega)))
    · intro j hj ih
      refine sgX9_rests_27 _ _ _ _ _ (Nat.le_refl _) hW (ps_4 (by omega) (fun h => absurd h (by omega)) (fun _ => ?_))
      rw [← nI_succ]
      simp only [s_rc] at ih
      refine k9_isRest hW hF hv hm ho hj ⟨hW, ps_b (fun h2 => ?_) (fun h2 => ?_)⟩
      · rw [if_neg h2, Int32.add_zero] at ih; exact ih
      · rw [if_pos h2] at ih; exact ih
  · rw [if_neg h] at hq
    exact k9_refuse hW ⟨hW, hq _ _ (CS.tr _ _)⟩
def sp_rest (r : Nat → Int32) (x y z : Int32) : Int32 × Int32 := if s_dw r x y z = 0 then (s_rp (r (12 + 3 * x.toNatClampNeg)) (r (12 + 3 * y.toNatClampNeg)) z 4, 0) else (-1, s_dw r x y z)
theorem s_cd_all : ∀ j, j < 4 → (nI j >>> ((1 : Int32) &&& 31)) * 10 + (nI j &&& 1) = s_cd j := by decide +kernel
theorem p9_rest {x y z : Int32} (hW : aw_WT n θ) (hF : FR σ (θ 1 7) r) (hv : VR r) (hq : ∀ σ' τ', CS σ σ' (sp_rest r x y z).2 → q (sp_rest r x y z).1 n σ' τ' θ) : SMi G 3 mX9_rest 0 0 [.ref 1, .int x, .int y, .int z] n σ τ θ q := by
  unfold sp_rest at hq
  have h5 := hv.m5
  refine ctX9_rest _ _ _ (sgX9_rest_0 _ _ _ (Nat.le_refl _) hW ?_)
  refine k9_dw hW hF hv ⟨hW, fun h => ?_, fun h => ?_⟩
  · rw [if_pos h, ← s_r1_p] at hq
    obtain ⟨m, o, hm, ho, rfl, rfl⟩ := s_dw0 hv h
    rw [ps_cl (by omega), ps_cl (by omega)] at hq
    have key : ∀ d j, j + d = 4 → (∀ σ' τ', CS σ σ' 0 → q (s_r1 (r (12 + 3 * m)) (r (12 + 3 * o)) z d j) n σ' τ' θ) → SW G 3 mX9_rest (aw_qi q) 0 0 24 [some (.ref 1), some (.int (nI m)), some (.int (nI o)), some (.int z), none, some (.int (nI j))] [] (n, σ, τ, θ) := by
      intro d
      induction d with
      | zero =>
        intro j hj hq
        exact sgX9_rest_24 _ _ _ _ (Nat.le_refl _) hW (ps_4 (by omega) (fun _ => k9_grant hW ⟨hW, hq _ _ (CS.tr _ _)⟩) (fun h => absurd h (by omega)))
      | succ d ih =>
        intro j hj hq
        refine sgX9_rest_24 _ _ _ _ (Nat.le_refl _) hW (ps_4 (by omega) (fun h => absurd h (by omega)) (fun _ => ?_))
        rw [← nI_succ]
        simp only [s_r1] at hq
        refine k9_isRest hW hF hv hm ho (by omega) ⟨hW, ps_b (fun h2 => ?_) (fun h2 => ?_)⟩
        · simp only [if_neg h2] at hq
          exact ih (j + 1) (by omega) hq
        · simp only [if_pos h2] at hq
          rw [s_cd_all j (by omega)]
          exact k9_grant hW ⟨hW, hq _ _ (CS.tr _ _)⟩
    exact key 4 0 rfl hq
  · rw [if_neg h] at hq
    exact k9_refuse hW ⟨hW, hq _ _ (CS.tr _ _)⟩
theorem s_cd_ref : ∀ j, j < 4 → (10 : Int32) * (nI j / 2) + (nI j - nI j / 2 * 2) = s_cd j ∧ ((nI j ≤ 1) ↔ j / 2 = 0) ∧ ((nI j - nI j / 2 * 2 = 1) ↔ j % 2 = 1) := by decide +kernel
theorem k10_seekRests {σ0 : SG} {m o : Nat} {z : Int32} (hW : aw_WT n θ) (hS : RS σ0 σ 0) (hm : m < 5) (ho : o < 5) (hq : ∀ σ', RS σ0 σ' 0 → σ' 120 31 = s_rp (σ0 123 (12 + 3 * m)) (σ0 123 (12 + 3 * o)) z 4 → q (s_rc (σ0 123 (12 + 3 * m)) (σ0 123 (12 + 3 * o)) z 4) n σ' τ θ) : SMi G 3 mX10_seekRests 0 0 [.ref 120, .int (nI m), .int (nI o), .int z] n σ τ θ q := by
  refine ctX10_seekRests _ _ _ (sgX10_seekRests_0 _ _ _ (Nat.le_refl _) hW ?_)
  have key := ps_up (N := 4) (P := fun j => ∀ σ1, RS σ0 σ1 0 → σ1 120 31 = s_rp (σ0 123 (12 + 3 * m)) (σ0 123 (12 + 3 * o)) z j → SW G 3 mX10_seekRests (aw_qi q) 0 0 12 [some (.ref 120), some (.int (nI m)), some (.int (nI o)), some (.int z), some (.int (s_rc (σ0 123 (12 + 3 * m)) (σ0 123 (12 + 3 * o)) z j)), some (.int (nI j)), none, none] [] (n, σ1, τ, θ)) ?_ ?_ 0 (Nat.zero_le _)
  · exact key _ (hS.slot (by decide)) aw_u_eq
  · intro σ1 h1 e1
    exact sgX10_seekRests_12 _ _ _ _ _ (Nat.le_refl _) hW (ps_4 (by omega) (fun _ => hq _ h1 e1) (fun h => absurd h (by omega)))
  · intro j hj ih σ1 h1 e1
    obtain ⟨c1, c2, c3⟩ := s_cd_ref j hj
    refine sgX10_seekRests_12 _ _ _ _ _ (Nat.le_refl _) hW (ps_4 (by omega) (fun h => absurd h (by omega)) (fun _ => ?_))
    rw [c2]
    have k29 : SW G 3 mX10_seekRests (aw_qi q) 0 0 29 [some (.ref 120), some (.int (nI m)), some (.int (nI o)), some (.int z), some (.int (s_rc (σ0 123 (12 + 3 * m)) (σ0 123 (12 + 3 * o)) z j)), some (.int (nI j)), none, none] [.int (nI (j / 2))] (n, σ1, τ, θ) := by
      refine sgX10_seekRests_29 _ _ _ _ _ _ (Nat.le_refl _) hW ?_
      rw [c3]
      have k44 : SW G 3 mX10_seekRests (aw_qi q) 0 0 44 [some (.ref 120), some (.int (nI m)), some (.int (nI o)), some (.int z), some (.int (s_rc (σ0 123 (12 + 3 * m)) (σ0 123 (12 + 3 * o)) z j)), some (.int (nI j)), some (.int (nI (j / 2))), none] [.int (nI (j % 2))] (n, σ1, τ, θ) := by
        refine sgX10_seekRests_44 _ _ _ _ _ _ _ (Nat.le_refl _) hW ?_
        rw [ps_nI0 (by omega)]
        have k60 : SW G 3 mX10_seekRests (aw_qi q) 0 0 60 [some (.ref 120), some (.int (nI m)), some (.int (nI o)), some (.int z), some (.int (s_rc (σ0 123 (12 + 3 * m)) (σ0 123 (12 + 3 * o)) z j)), some (.int (nI j)), some (.int (nI (j / 2))), some (.int (nI (j % 2)))] [.int (nI (1 - j / 2)), .int z, .int (nI o), .int (nI m), .ref 120] (n, σ1, τ, θ) := by
          refine sgX10_seekRests_60 _ _ _ _ _ _ _ _ _ _ _ (Nat.le_refl _) hW ?_
          refine k10_hasBy hW hm ho ⟨hW, k10_hasBy hW hm ho ⟨hW, ?_⟩⟩
          rw [h1.e3, ← nI_succ, ps_nI0 (by omega)]
          simp only [s_rc, s_rp] at ih
          refine ⟨fun h => ?_, fun h => ?_⟩
          · have hn : ¬ s_rs (σ0 123 (12 + 3 * m)) (σ0 123 (12 + 3 * o)) z j = true := fun e => (s_rs_iff.mp e).1 h
            simp only [if_neg hn, Int32.add_zero, if_neg (fun e : _ ∧ _ => hn e.2)] at ih
            exact ih _ h1 e1
          · have k93 : SW G 3 mX10_seekRests (aw_qi q) 0 0 93 [some (.ref 120), some (.int (nI m)), some (.int (nI o)), some (.int z), some (.int (s_rc (σ0 123 (12 + 3 * m)) (σ0 123 (12 + 3 * o)) z j)), some (.int (nI j)), some (.int (nI (j / 2))), some (.int (nI (j % 2)))] [.int (nI (1 - j % 2)), .int z, .int (nI m), .int (nI o), .ref 120] (n, σ1, τ, θ) := by
              refine sgX10_seekRests_93 _ _ _ _ _ _ _ _ _ _ _ (Nat.le_refl _) hW ?_
              refine k10_hasBy hW ho hm ⟨hW, k10_hasBy hW ho hm ⟨hW, ?_⟩⟩
              rw [h1.e3, ← nI_succ, c1]
              refine ⟨fun h2 => ?_, fun h2 => ?_⟩
              · have hy : s_rs (σ0 123 (12 + 3 * m)) (σ0 123 (12 + 3 * o)) z j = true := s_rs_iff.mpr ⟨h, Int32.not_lt.mpr h2⟩
                simp only [if_pos hy] at ih
                refine ⟨fun h3 => ?_, fun h3 => ?_⟩
                · refine ih _ h1 ?_
                  rw [if_neg (fun e => h3 e.1)]
                  exact e1
                · refine ih _ (h1.slot (by decide)) ?_
                  rw [if_pos ⟨h3, hy⟩, aw_u_eq]
              · have hn : ¬ s_rs (σ0 123 (12 + 3 * m)) (σ0 123 (12 + 3 * o)) z j = true := fun e => h2 (Int32.not_lt.mp (s_rs_iff.mp e).2)
                simp only [if_neg hn, Int32.add_zero, if_neg (fun e : _ ∧ _ => hn e.2)] at ih
                exact ih _ h1 e1
            refine ⟨fun h2 => ?_, fun h2 => ?_⟩
            · rw [show 1 - j % 2 = 0 by omega] at k93; exact k93
            · rw [show 1 - j % 2 = 1 by omega] at k93; exact k93
        refine ⟨fun h2 => ?_, fun h2 => ?_⟩
        · rw [show 1 - j / 2 = 0 by omega] at k60; exact k60
        · rw [show 1 - j / 2 = 1 by omega] at k60; exact k60
      refine ⟨fun h2 => ?_, fun h2 => ?_⟩
      · rw [show j % 2 = 0 by omega] at k44; exact k44
      · rw [h2] at k44; exact k44
    refine ⟨fun h2 => ?_, fun h2 => ?_⟩
    · rw [h2] at k29; exact k29
    · rw [show j / 2 = 1 by omega] at k29; exact k29
theorem p10_rests {x y z : Int32} (hW : aw_WT n θ) (hv : VR (σ 123)) (hH : HR σ (σ 123)) (hq : ∀ σ', RS σ σ' (sp_rests (σ 123) x y z).2 → q (sp_rests (σ 123) x y z).1 n σ' τ θ) : SMi G 4 mX10_rests 0 0 [.ref 120, .int x, .int y, .int z] n σ τ θ q := by
  unfold sp_rests at hq
  have h5 := hv.m5
  refine ctX10_rests _ _ _ (sgX10_rests_0 _ _ _ (Nat.le_refl _) hW ?_)
  refine k10_good' hW (fun σ1 h1 => ⟨hW, k10_dw hW (h1.vr hv) (h1.hr hH) ⟨hW, ?_⟩⟩)
  rw [h1.e3]
  refine ⟨fun h => ?_, fun h => ?_⟩
  · rw [if_pos h] at hq
    obtain ⟨m, o, hm, ho, rfl, rfl⟩ := s_dw0 hv h
    rw [ps_cl (by omega), ps_cl (by omega)] at hq
    exact k10_seekRests hW h1 (by omega) (by omega) (fun σ2 h2 _ => ⟨hW, hq _ h2⟩)
  · rw [if_neg h] at hq
    exact k10_no hW ⟨hW, hq _ h1.no⟩
theorem p10_rest {x y z : Int32} (hW : aw_WT n θ) (hv : VR (σ 123)) (hH : HR σ (σ 123)) (hq : ∀ σ', RS σ σ' (sp_rest (σ 123) x y z).2 → q (sp_rest (σ 123) x y z).1 n σ' τ θ) : SMi G 4 mX10_rest 0 0 [.ref 120, .int x, .int y, .int z] n σ τ θ q := by
  unfold sp_rest at hq
  have h5 := hv.m5
  refine ctX10_rest _ _ _ (sgX10_rest_0 _ _ _ (Nat.le_refl _) hW ?_)
  refine k10_good' hW (fun σ1 h1 => ⟨hW, k10_dw hW (h1.vr hv) (h1.hr hH) ⟨hW, ?_⟩⟩)
  rw [h1.e3]
  refine ⟨fun h => ?_, fun h => ?_⟩
  · rw [if_pos h] at hq
    obtain ⟨m, o, hm, ho, rfl, rfl⟩ := s_dw0 hv h
    rw [ps_cl (by omega), ps_cl (by omega)] at hq
    refine k10_seekRests hW h1 (by omega) (by omega) (fun σ2 h2 e2 => ⟨hW, ?_⟩)
    rw [e2]
    exact hq _ h2
  · rw [if_neg h] at hq
    exact k10_no hW ⟨hW, hq _ h1.no⟩
/-! which tine is cheapest -/
theorem k1_nextTineCosts {a : Nat} (hf : isF f) (hW : aw_WT n θ) (hF : FR σ f r) (hv : VR r) (hm : 0 < nM r) (h1 : 1 ≤ a) (ha : a ≤ 99) (hq : q (s_nt (nI a) (r 0)) n σ τ θ) : SMi G 1 mX1_nextTineCosts 0 0 [.ref f, .int (nI a)] n σ τ θ q := by
  refine ctX1_nextTineCosts f _ (sgX1_nextTineCosts_0 f _ (Nat.le_refl _) hf hW ?_)
  have t1 := hv.t1 hm
  have t2 := hv.t20
  have e := ps_nt_all ⟨a, by omega⟩ ⟨nT r, by omega⟩ h1 t1
  rw [hF.1.1, hv.t]
  rw [hv.t] at hq
  refine ⟨fun h => absurd h (nI_nle (by omega) (by omega)), fun _ => ⟨fun _ => ⟨nI_ne0 (by omega) (by omega), ?_⟩, fun h => absurd (nI_lt (a := 0) (b := nT r) (by omega) (by omega)) h⟩⟩
  have e : (nI a - 1) - (nI a - 1) / nI (nT r) * nI (nT r) + 1 = s_nt (nI a) (nI (nT r)) := e
  rw [e]
  exact hq
def s_ch (r L : Nat → Int32) (s m : Int32) : Nat → Int32
  | 0 => -2
  | k + 1 => if s_due r L s k = true ∧ r (25 + 4 * k) = m ∧ (s_ch r L s m k < 0 ∨ s_nt (L k) (r 0) < s_nt (L (s_ch r L s m k).toNatClampNeg) (r 0)) then nI k else s_ch r L s m k
theorem s_ch_c (r L : Nat → Int32) (s m : Int32) : ∀ k, s_ch r L s m k = -2 ∨ ∃ j, j < k ∧ s_ch r L s m k = nI j
  | 0 => Or.inl rfl
  | k + 1 => by
    have h0 : s_ch r L s m (k + 1) = nI k ∨ s_ch r L s m (k + 1) = s_ch r L s m k := by
      simp only [s_ch]
      split
      · exact Or.inl rfl
      · exact Or.inr rfl
    rcases h0 with h0 | h0
    · exact Or.inr ⟨k, by omega, h0⟩
    · rw [h0]
      rcases s_ch_c r L s m k with h | ⟨j, hj, h⟩
      · exact Or.inl h
      · exact Or.inr ⟨j, by omega, h⟩
theorem ps_neg2 {j : Nat} (hj : j < 1000) : ¬ nI j = -2 := by
  intro e
  have h1 := nI_pos (n := j) (by omega)
  rw [e] at h1
  exact h1 (by decide)
def sp_cheapest (r st : Nat → Int32) (x : Int32) : Int32 × Int32 := if s_in x (nM r) = true then (s_ch r st (st 12) x (nD r), 0) else (-1, 1)
theorem p9_cheapest {x : Int32} (hW : aw_WT n θ) (hF : FR σ (θ 1 7) r) (hM : MR σ 6 st) (hv : VR r) (hs : VS st) (hq : ∀ σ' τ', CS σ σ' (sp_cheapest r st x).2 → q (sp_cheapest r st x).1 n σ' τ' θ) : SMi G 2 mX9_cheapest 0 0 [.ref 1, .int x] n σ τ θ q := by
  unfold sp_cheapest at hq
  have h7 := hv.d7
  have e5 : σ (θ 1 7 + 8) 4 = nI (nD r) := hF.1.2.2.2.2.2.1.trans hv.d
  refine ctX9_cheapest _ (sgX9_cheapest_0 _ (Nat.le_refl _) hW ?_)
  refine k9_isMan hW hF hv ⟨hW, And.symm (ps_b (fun h => ?_) (fun h => ?_))⟩
  · rw [if_neg h] at hq
    exact k9_refuse hW ⟨hW, hq _ _ (CS.tr _ _)⟩
  · rw [if_pos h] at hq
    have key := ps_up (N := nD r) (P := fun j => ∀ z, (¬ s_ch r st (st 12) x j = -2 → z = s_nt (st (s_ch r st (st 12) x j).toNatClampNeg) (r 0)) → SW G 2 mX9_cheapest (aw_qi q) 0 0 22 [some (.ref 1), some (.int x), some (.int (s_ch r st (st 12) x j)), some (.int z), some (.int (nI j)), none] [] (n, σ, τ, θ)) ?_ ?_ 0 (Nat.zero_le _)
    · exact key 0 (fun e => absurd rfl e)
    · intro z hz
      exact sgX9_cheapest_22 _ _ _ _ (Nat.le_refl _) hW (ps_done e5 (k9_grant hW ⟨hW, hq _ _ (CS.tr _ _)⟩))
    · intro j hj ih z hz
      refine sgX9_cheapest_22 _ _ _ _ (Nat.le_refl _) hW (ps_br e5 (by omega) (by omega) (fun h => absurd hj (by omega)) (fun _ => ?_))
      rw [ps_cl (by omega), (hF.2.2.2.2.1 j hj).1, ← nI_succ, hM.2.2]
      simp only [s_ch] at ih
      have cs := s_ch_c r st (st 12) x j
      refine ⟨ps_in (by omega) (by decide), fun h2 => ?_, fun h2 => ?_⟩
      · rw [if_neg (fun e => h2 e.2.1)] at ih
        exact ih z hz
      · refine k1_isDue hW.f isM_now hW hF hM hv hj ⟨hW, ps_b (fun h3 => ?_) (fun h3 => ⟨ps_in (by omega) (by decide), ?_⟩)⟩
        · rw [if_neg (fun e => h3 e.1)] at ih
          exact ih z hz
        · obtain ⟨a, -, ha, ea⟩ := hs.1 j (by omega)
          have hp := (s_due_iff.mp h3).2
          rw [ea] at hp
          have hp : 0 < a := (nI_ltI (a := 0) (by omega) (by omega)).mp hp
          rw [show σ 8 j = st j from hM.2.1 j (by omega), ea]
          refine k1_nextTineCosts hW.f hW hF hv (hv.mD hj) hp ha ⟨hW, fun h4 => ?_, fun h4 => ⟨fun h5 => ?_, fun h5 => ?_⟩⟩
          · rw [if_pos ⟨h3, h2, Or.inl (by rw [h4]; decide)⟩] at ih
            exact ih _ (fun _ => by rw [ps_cl (by omega), ea])
          · rw [if_neg (fun e => e.2.2.elim (fun e2 => by
              rcases cs with c | ⟨i, hi, c⟩
              · exact h4 c
              · rw [c] at e2; exact nI_pos (by omega) e2) (fun e2 => by
              rw [ea, ← hz h4] at e2
              exact absurd h5 (Int32.not_le.mpr e2)))] at ih
            exact ih z hz
          · rw [if_pos ⟨h3, h2, Or.inr (by rw [ea, ← hz h4]; exact Int32.not_le.mp h5)⟩] at ih
            exact ih _ (fun _ => by rw [ps_cl (by omega), ea])
theorem k10_cheapestOf {a : Nat} {m : Int32} (hW : aw_WT n θ) (ha : isA a 13) (hv : VR (σ 123)) (hq : q (s_ch (σ 123) (σ a) (σ a 12) m (nD (σ 123))) n σ τ θ) : SMi G 3 mX10_cheapestOf 0 0 [.ref 120, .ref a, .int m] n σ τ θ q := by
  have h7 := hv.d7
  refine ctX10_cheapestOf a 13 m (sgX10_cheapestOf_0 a 13 m (Nat.le_refl _) ha hW ?_)
  refine ps_up (N := nD (σ 123)) (P := fun j => SW G 3 mX10_cheapestOf (aw_qi q) 0 0 6 [some (.ref 120), some (.ref a), some (.int m), some (.int (s_ch (σ 123) (σ a) (σ a 12) m j)), some (.int (nI j))] [] (n, σ, τ, θ)) ?_ ?_ 0 (Nat.zero_le _)
  · exact sgX10_cheapestOf_6 a 13 _ _ _ (Nat.le_refl _) ha hW (ps_done hv.d hq)
  · intro j hj ih
    refine sgX10_cheapestOf_6 a 13 _ _ _ (Nat.le_refl _) ha hW (ps_br hv.d (by omega) (by omega) (fun h => absurd hj (by omega)) (fun _ => ?_))
    rw [← nI_succ]
    simp only [s_ch] at ih
    have cs := s_ch_c (σ 123) (σ a) (σ a 12) m j
    refine k10_isOf hW ha (by omega) ⟨hW, ps_b (fun h => ?_) (fun h => ⟨fun h2 => ?_, fun h2 => ?_⟩)⟩
    · rw [if_neg (fun e => h ⟨e.1, e.2.1⟩)] at ih
      exact ih
    · rw [if_pos ⟨h.1, h.2, Or.inl h2⟩] at ih
      exact ih
    · rcases cs with c | ⟨i, hi, c⟩
      · rw [c] at h2; exact absurd (by decide) h2
      · have hp := hv.pos (hv.mD hj)
        refine k10_nextTine hW ha (by omega) hp ⟨hW, ?_⟩
        rw [c]
        refine k10_nextTine hW ha (by omega) hp ⟨hW, fun h3 => ?_, fun h3 => ?_⟩
        · rw [if_neg (fun e => e.2.2.elim h2 (fun e2 => by rw [c, ps_cl (by omega)] at e2; exact absurd h3 (Int32.not_le.mpr e2))), c] at ih
          exact ih
        · rw [if_pos ⟨h.1, h.2, Or.inr (by rw [c, ps_cl (by omega)]; exact Int32.not_le.mp h3)⟩] at ih
          exact ih
theorem p10_cheapest {x : Int32} (hW : aw_WT n θ) (hv : VR (σ 123)) (hH : HR σ (σ 123)) (hq : ∀ σ', RS σ σ' (sp_cheapest (σ 123) (σ 125) x).2 → q (sp_cheapest (σ 123) (σ 125) x).1 n σ' τ θ) : SMi G 4 mX10_cheapest 0 0 [.ref 120, .int x] n σ τ θ q := by
  unfold sp_cheapest at hq
  refine ctX10_cheapest _ (sgX10_cheapest_0 _ (Nat.le_refl _) hW ?_)
  refine k10_good' hW (fun σ1 h1 => ⟨hW, k10_isMan hW (h1.vr hv) (h1.hr hH) ⟨hW, ?_⟩⟩)
  rw [h1.e3]
  refine ps_b (fun h => ?_) (fun h => ?_)
  · rw [if_neg h] at hq
    exact k10_no hW ⟨hW, hq _ h1.no⟩
  · rw [if_pos h] at hq
    refine k10_cheapestOf hW isA_st (h1.vr hv) ⟨hW, ?_⟩
    rw [h1.e3, h1.e5]
    exact hq _ h1
end Pub4
