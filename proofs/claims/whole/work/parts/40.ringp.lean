section RingP
variable {G : GG} {n : Nat} {σ : SG} {τ : TU} {θ : TH} {f t : Nat} {r st row R : Nat → Int32} {l : Nat} {q : Int32 → Nat → SG → TU → TH → Prop} {qv : Nat → SG → TU → TH → Prop} {ql : Int64 → Nat → SG → TU → TH → Prop}
theorem ps_mod {i l : Nat} (hi : i < l) : (i + 1) % l = if i + 1 < l then i + 1 else 0 := by
  by_cases h : i + 1 < l
  · rw [if_pos h, Nat.mod_eq_of_lt h]
  · rw [if_neg h, show i + 1 = l by omega, Nat.mod_self]
theorem k6_follower {i : Nat} (hW : aw_WT n θ) (hl : σ 73 1 = nI l) (hl5 : l ≤ 5) (hi : i < l) (hR : ∀ j, j < l → σ 74 j = R j) (hq : q (R ((i + 1) % l)) n σ τ θ) : SMi G 1 mX6_follower 0 0 [.ref 73, .int (nI i)] n σ τ θ q := by
  refine ctX6_follower _ (sgX6_follower_0 _ (Nat.le_refl _) hW ?_)
  rw [ps_mod hi] at hq
  rw [← nI_succ]
  refine ps_br hl (by omega) (by omega) (fun h => ?_) (fun h => ⟨ps_in (by omega) (by decide), ?_⟩)
  · rw [if_neg (by omega)] at hq
    rw [hR 0 (by omega)]
    exact hq
  · rw [if_pos h] at hq
    rw [ps_cl (by omega), hR _ h]
    exact hq
theorem k6_sum (hf : isF f) (hW : aw_WT n θ) (hF : FR σ f r) (hM : MR σ 6 st) (hv : VR r) (hs : VS st) (hl : σ 73 1 = nI l) (hl5 : l ≤ 5) (hl2 : 0 < l) (hR : ∀ j, j < l → σ 74 j = R j) (hm : rM (nM r) R l) (hq : q (nI (rsm (gS r st R l) l)) n σ τ θ) : SMi G 3 mX6_sum 0 0 [.ref 73, .ref f, .ref 6] n σ τ θ q := by
  have h5 := hv.m5
  refine ctX6_sum f 6 (sgX6_sum_0 f 6 (Nat.le_refl _) hf isM_now hW ?_)
  have key := ps_up (N := l) (P := fun i => ∀ x, (if i = 0 then x = -1 else x = nI (rsm (gS r st R l) i)) → SW G 3 mX6_sum (aw_qi q) 0 0 5 [some (.ref 73), some (.ref f), some (.ref 6), some (.int x), some (.int (nI i)), none] [] (n, σ, τ, θ)) ?_ ?_ 0 (Nat.zero_le _)
  · exact key (-1) (by rw [if_pos rfl])
  · intro x hx
    rw [if_neg (by omega)] at hx
    rw [hx]
    exact sgX6_sum_5 f 6 _ _ (Nat.le_refl _) hf isM_now hW (ps_done hl hq)
  · intro i hi ih x hx
    refine sgX6_sum_5 f 6 _ _ (Nat.le_refl _) hf isM_now hW (ps_br hl (by omega) (by omega) (fun h => absurd h (by omega)) (fun _ => ⟨ps_in (by omega) (by decide), ?_⟩))
    rw [ps_cl (by omega), hR i hi, ← nI_succ]
    refine k6_follower hW hl hl5 hi hR ⟨hW, ?_⟩
    obtain ⟨e, hb⟩ := gS_b (R := R) (l := l) (i := i) hv hs
    have hw : ¬ R ((i + 1) % l) < 0 := by
      obtain ⟨m, hm1, em⟩ := hm ((i + 1) % l) (Nat.mod_lt _ hl2)
      rw [em]
      exact nI_pos (by omega)
    refine k1_dueBetween hw hf isM_now hW hF hM hv ⟨hW, ?_⟩
    rw [e]
    have b2 := (rsm_b (g := gS r st R l) (fun i => (gS_b hv hs).2) i)
    refine ⟨fun h => ih _ ?_, fun h => ⟨fun h2 => ih _ ?_, fun h2 => ih _ ?_⟩⟩
    · rw [if_neg (by omega)]
      have h0 : i = 0 := by
        apply Classical.byContradiction
        intro hc
        rw [if_neg hc] at hx
        rw [hx] at h
        have h1 := nI_pos (n := rsm (gS r st R l) i) (by omega)
        rw [h] at h1
        exact h1 (by decide)
      rw [h0]
      show _ = nI (min 1000000 (gS r st R l 0))
      rw [Nat.min_eq_right (by rw [h0] at hb; omega)]
    · have h0 : i ≠ 0 := by
        intro hc
        rw [if_pos hc] at hx
        exact h hx
      rw [if_neg h0] at hx
      rw [if_neg (by omega), hx]
      rw [hx, nI_leI (by omega) (by omega)] at h2
      show _ = nI (min _ _)
      rw [Nat.min_eq_left h2]
    · have h0 : i ≠ 0 := by
        intro hc
        rw [if_pos hc] at hx
        exact h hx
      rw [if_neg h0] at hx
      rw [if_neg (by omega)]
      rw [hx, nI_leI (by omega) (by omega)] at h2
      show _ = nI (min _ _)
      rw [Nat.min_eq_right (by omega)]
theorem k10_sumOf {σ0 : SG} {w : Int32} (hW : aw_WT n θ) (hS : RS σ0 σ w) (hv : VR (σ0 123)) (hs : VS (σ0 125)) (hl : σ 120 29 = nI l) (hl5 : l ≤ 5) (hl2 : 0 < l) (hR : ∀ j, j < l → σ 132 j = R j) (hq : q (nI (rsm (gS (σ0 123) (σ0 125) R l) l)) n σ τ θ) : SMi G 4 mX10_sumOf 0 0 [.ref 120] n σ τ θ q := by
  refine ctX10_sumOf (sgX10_sumOf_0 (Nat.le_refl _) hW ?_)
  refine ps_up (N := l) (P := fun i => SW G 4 mX10_sumOf (aw_qi q) 0 0 6 [some (.ref 120), some (.int (nI (rsm (gS (σ0 123) (σ0 125) R l) i))), some (.int (nI i)), none] [] (n, σ, τ, θ)) ?_ ?_ 0 (Nat.zero_le _)
  · exact sgX10_sumOf_6 _ _ (Nat.le_refl _) hW (ps_done hl hq)
  · intro i hi ih
    refine sgX10_sumOf_6 _ _ (Nat.le_refl _) hW (ps_br hl (by omega) (by omega) (fun h => absurd h (by omega)) (fun _ => ?_))
    have b1 : (i + 1) % l < l := Nat.mod_lt _ hl2
    rw [hl, ← nI_succ, pk_rem (by omega) hl2 (by omega), ps_cl (by omega), ps_cl (by omega), hR i hi, hR _ b1]
    refine ⟨ps_in (by omega) (by decide), nI_ne0 hl2 (by omega), ps_in (by omega) (by decide), ?_⟩
    refine k10_leftFrom hW (hS.vr hv) ⟨hW, ?_⟩
    rw [hS.e3, hS.e5]
    obtain ⟨e, hb⟩ := gS_b (R := R) (l := l) (i := i) hv hs
    have b2 := (rsm_b (g := gS (σ0 123) (σ0 125) R l) (fun i => (gS_b hv hs).2) i).2
    rw [e, nI_leI (by omega) (by omega)]
    simp only [rsm] at ih
    refine ⟨fun h => ?_, fun h => ?_⟩
    · rw [Nat.min_eq_left h] at ih; exact ih
    · rw [Nat.min_eq_right (by omega)] at ih; exact ih
def sp_ring (r st : Nat → Int32) (x : Int32) : Int32 × Int32 := if s_in x (nM r) = true then ((if fT r st x.toNatClampNeg < 1000000 then nI (fT r st x.toNatClampNeg) else -2), 0) else (-1, 1)
theorem p9_ring {x : Int32} (hW : aw_WT n θ) (hF : FR σ (θ 1 7) r) (hM : MR σ 6 st) (hv : VR r) (hq : ∀ σ' τ', CS σ σ' (sp_ring r st x).2 → q (sp_ring r st x).1 n σ' τ' θ) : SMi G 5 mX9_ring 0 0 [.ref 1, .int x] n σ τ θ q := by
  unfold sp_ring at hq
  have h5 := hv.m5
  refine ctX9_ring _ (sgX9_ring_0 _ (Nat.le_refl _) hW ?_)
  refine k9_isMan hW hF hv ⟨hW, And.symm (ps_b (fun h => ?_) (fun h => ?_))⟩
  · rw [if_neg h] at hq
    exact k9_refuse hW ⟨hW, hq _ _ (CS.tr _ _)⟩
  · rw [if_pos h] at hq
    obtain ⟨m, hm, rfl⟩ := (s_in_iff (by omega)).mp h
    rw [ps_cl (by omega)] at hq
    refine k6_find hW.f hW hF hM hv hm (fun σ1 s1 hx => ⟨hW, ps_b (fun h2 => ?_) (fun h2 => ?_)⟩)
    · rw [if_neg h2] at hq
      exact k9_grant hW ⟨hW, hq _ _ (s1.tr 0)⟩
    · rw [if_pos h2] at hq
      rw [(hx h2).1]
      exact k9_grant hW ⟨hW, hq _ _ (s1.tr 0)⟩
theorem p10_ring {x : Int32} (hW : aw_WT n θ) (hv : VR (σ 123)) (hH : HR σ (σ 123)) (hs : VS (σ 125)) (hq : ∀ σ', RS σ σ' (sp_ring (σ 123) (σ 125) x).2 → q (sp_ring (σ 123) (σ 125) x).1 n σ' τ θ) : SMi G 13 mX10_ring 0 0 [.ref 120, .int x] n σ τ θ q := by
  unfold sp_ring at hq
  have h5 := hv.m5
  refine ctX10_ring _ (sgX10_ring_0 _ (Nat.le_refl _) hW ?_)
  refine k10_good' hW (fun σ1 h1 => ⟨hW, k10_isMan hW (h1.vr hv) (h1.hr hH) ⟨hW, ?_⟩⟩)
  rw [h1.e3]
  refine And.symm (ps_b (fun h => ?_) (fun h => ?_))
  · rw [if_neg h] at hq
    exact k10_no hW ⟨hW, hq _ h1.no⟩
  · rw [if_pos h] at hq
    obtain ⟨m, hm, rfl⟩ := (s_in_iff (by omega)).mp h
    rw [ps_cl (by omega)] at hq
    refine k10_seekRing hW h1 hv hs hm (fun σ2 h2 hx => ⟨hW, ps_b (fun h3 => ?_) (fun h3 => ?_)⟩)
    · rw [if_neg h3] at hq
      exact hq _ h2
    · rw [if_pos h3] at hq
      rw [(hx h3).1]
      exact hq _ h2
def sp_ringAt (r st : Nat → Int32) (x y : Int32) : Int32 × Int32 := if s_in x (nM r) = true ∧ fT r st x.toNatClampNeg < 1000000 ∧ s_in y (fT r st x.toNatClampNeg) = true then (pT r st x.toNatClampNeg y.toNatClampNeg, 0) else (-1, 1)
theorem p9_ringAt {x y : Int32} (hW : aw_WT n θ) (hF : FR σ (θ 1 7) r) (hM : MR σ 6 st) (hv : VR r) (hq : ∀ σ' τ', CS σ σ' (sp_ringAt r st x y).2 → q (sp_ringAt r st x y).1 n σ' τ' θ) : SMi G 5 mX9_ringAt 0 0 [.ref 1, .int x, .int y] n σ τ θ q := by
  unfold sp_ringAt at hq
  have h5 := hv.m5
  refine ctX9_ringAt _ _ (sgX9_ringAt_0 _ _ (Nat.le_refl _) hW ?_)
  refine k9_isMan hW hF hv ⟨hW, ps_b (fun h => ?_) (fun h => ?_)⟩
  · rw [if_neg (fun e => h e.1)] at hq
    exact k9_refuse hW ⟨hW, hq _ _ (CS.tr _ _)⟩
  · obtain ⟨m, hm, rfl⟩ := (s_in_iff (by omega)).mp h
    rw [ps_cl (by omega)] at hq
    refine k6_find hW.f hW hF hM hv hm (fun σ1 s1 hx => ⟨hW, ps_b (fun h2 => ?_) (fun h2 => ?_)⟩)
    · rw [if_neg (fun e => h2 e.2.1)] at hq
      exact k9_refuse hW ⟨hW, hq _ _ (s1.tr 1)⟩
    · obtain ⟨x1, x2, x3, x4⟩ := hx h2
      have si : s_in y (fT r st m) = true ↔ ¬ y < 0 ∧ y < nI (fT r st m) := by
        unfold s_in
        rw [Bool.and_eq_true, decide_eq_true_eq, decide_eq_true_eq, Int32.not_lt]
      rw [x1]
      refine ⟨fun h3 => ?_, fun h3 => ⟨fun h4 => ?_, fun h4 => ?_⟩⟩
      · rw [if_neg (fun e => (si.mp e.2.2).1 h3)] at hq
        exact k9_refuse hW ⟨hW, hq _ _ (s1.tr 1)⟩
      · have h6 := si.mpr ⟨h3, h4⟩
        rw [if_pos ⟨h, h2, h6⟩] at hq
        obtain ⟨j, hj, rfl⟩ := (s_in_iff (by omega)).mp h6
        rw [ps_cl (by omega)] at hq
        rw [ps_cl (by omega), x4 j hj]
        exact ⟨ps_in (by omega) (by decide), k9_grant hW ⟨hW, hq _ _ (s1.tr 0)⟩⟩
      · rw [if_neg (fun e => h4 (si.mp e.2.2).2)] at hq
        exact k9_refuse hW ⟨hW, hq _ _ (s1.tr 1)⟩
theorem p10_ringAt {x y : Int32} (hW : aw_WT n θ) (hv : VR (σ 123)) (hH : HR σ (σ 123)) (hs : VS (σ 125)) (hq : ∀ σ', RS σ σ' (sp_ringAt (σ 123) (σ 125) x y).2 → q (sp_ringAt (σ 123) (σ 125) x y).1 n σ' τ θ) : SMi G 13 mX10_ringAt 0 0 [.ref 120, .int x, .int y] n σ τ θ q := by
  unfold sp_ringAt at hq
  have h5 := hv.m5
  refine ctX10_ringAt _ _ (sgX10_ringAt_0 _ _ (Nat.le_refl _) hW ?_)
  refine k10_good' hW (fun σ1 h1 => ⟨hW, k10_isMan hW (h1.vr hv) (h1.hr hH) ⟨hW, ?_⟩⟩)
  rw [h1.e3]
  refine ps_b (fun h => ?_) (fun h => ?_)
  · rw [if_neg (fun e => h e.1)] at hq
    exact k10_no hW ⟨hW, hq _ h1.no⟩
  · obtain ⟨m, hm, rfl⟩ := (s_in_iff (by omega)).mp h
    rw [ps_cl (by omega)] at hq
    refine k10_seekRing hW h1 hv hs hm (fun σ2 h2 hx => ⟨hW, ps_b (fun h3 => ?_) (fun h3 => ?_)⟩)
    · rw [if_neg (fun e => h3 e.2.1)] at hq
      exact k10_no hW ⟨hW, hq _ h2.no⟩
    · obtain ⟨x1, x4⟩ := hx h3
      obtain ⟨b2, b5, -⟩ := fT_b hv hm h3
      rw [x1]
      refine k10_in hW ⟨hW, And.symm (ps_b (fun h4 => ?_) (fun h4 => ?_))⟩
      · rw [if_neg (fun e => h4 ((s_in_pred (by omega) (by omega)).mpr e.2.2))] at hq
        exact k10_no hW ⟨hW, hq _ h2.no⟩
      · have h6 := (s_in_pred (by omega) (by omega)).mp h4
        rw [if_pos ⟨h, h3, h6⟩] at hq
        obtain ⟨j, hj, rfl⟩ := (s_in_iff (by omega)).mp h6
        rw [ps_cl (by omega)] at hq
        rw [ps_cl (by omega), x4 j hj]
        exact ⟨ps_in (by omega) (by decide), hq _ h2⟩
def rsT (r st : Nat → Int32) (m : Nat) : Nat := rsm (gS r st (pT r st m) (fT r st m)) (fT r st m)
def sp_ringSum (r st : Nat → Int32) (x : Int32) : Int32 × Int32 := if s_in x (nM r) = true then ((if fT r st x.toNatClampNeg < 1000000 then nI (rsT r st x.toNatClampNeg) else -2), 0) else (-1, 1)
theorem p9_ringSum {x : Int32} (hW : aw_WT n θ) (hF : FR σ (θ 1 7) r) (hM : MR σ 6 st) (hv : VR r) (hs : VS st) (hq : ∀ σ' τ', CS σ σ' (sp_ringSum r st x).2 → q (sp_ringSum r st x).1 n σ' τ' θ) : SMi G 5 mX9_ringSum 0 0 [.ref 1, .int x] n σ τ θ q := by
  unfold sp_ringSum at hq
  have h5 := hv.m5
  refine ctX9_ringSum _ (sgX9_ringSum_0 _ (Nat.le_refl _) hW ?_)
  refine k9_isMan hW hF hv ⟨hW, And.symm (ps_b (fun h => ?_) (fun h => ?_))⟩
  · rw [if_neg h] at hq
    exact k9_refuse hW ⟨hW, hq _ _ (CS.tr _ _)⟩
  · rw [if_pos h] at hq
    obtain ⟨m, hm, rfl⟩ := (s_in_iff (by omega)).mp h
    rw [ps_cl (by omega)] at hq
    refine k6_find hW.f hW hF hM hv hm (fun σ1 s1 hx => ⟨hW, ps_b (fun h2 => ?_) (fun h2 => ?_)⟩)
    · rw [if_neg h2] at hq
      exact k9_grant hW ⟨hW, hq _ _ (s1.tr 0)⟩
    · rw [if_pos h2] at hq
      obtain ⟨x1, x2, x3, x4⟩ := hx h2
      exact k6_sum hW.f hW (s1.fr hW.f hF) (s1.mr hM) hv hs x1 x2 (by omega) x4 (fT_b hv hm h2).2.2 ⟨hW, k9_grant hW ⟨hW, hq _ _ (s1.tr 0)⟩⟩
theorem p10_ringSum {x : Int32} (hW : aw_WT n θ) (hv : VR (σ 123)) (hH : HR σ (σ 123)) (hs : VS (σ 125)) (hq : ∀ σ', RS σ σ' (sp_ringSum (σ 123) (σ 125) x).2 → q (sp_ringSum (σ 123) (σ 125) x).1 n σ' τ θ) : SMi G 13 mX10_ringSum 0 0 [.ref 120, .int x] n σ τ θ q := by
  unfold sp_ringSum at hq
  have h5 := hv.m5
  refine ctX10_ringSum _ (sgX10_ringSum_0 _ (Nat.le_refl _) hW ?_)
  refine k10_good' hW (fun σ1 h1 => ⟨hW, k10_isMan hW (h1.vr hv) (h1.hr hH) ⟨hW, ?_⟩⟩)
  rw [h1.e3]
  refine And.symm (ps_b (fun h => ?_) (fun h => ?_))
  · rw [if_neg h] at hq
    exact k10_no hW ⟨hW, hq _ h1.no⟩
  · rw [if_pos h] at hq
    obtain ⟨m, hm, rfl⟩ := (s_in_iff (by omega)).mp h
    rw [ps_cl (by omega)] at hq
    refine k10_seekRing hW h1 hv hs hm (fun σ2 h2 hx => ⟨hW, ps_b (fun h3 => ?_) (fun h3 => ?_)⟩)
    · rw [if_neg h3] at hq
      exact hq _ h2
    · rw [if_pos h3] at hq
      obtain ⟨b2, b5, -⟩ := fT_b hv hm h3
      obtain ⟨x1, x4⟩ := hx h3
      exact k10_sumOf hW h2 hv hs x1 b5 (by omega) x4 ⟨hW, hq _ h2⟩
/-! the best ring -/
def brS (r st : Nat → Int32) : Nat → Nat × Nat
  | 0 => (0, 0)
  | m + 1 => if fT r st m < 1000000 ∧ ((brS r st m).1 = 0 ∨ (brS r st m).2 < rsT r st m * fT r st m) then (m + 1, rsT r st m * fT r st m) else brS r st m
theorem rsT_b (hv : VR r) (hs : VS st) {m : Nat} (hm : m < nM r) (h : fT r st m < 1000000) : rsT r st m ≤ 693 ∧ rsT r st m * fT r st m ≤ 3465 := by
  obtain ⟨b2, b5, -⟩ := fT_b hv hm h
  have a : rsT r st m ≤ 693 := (rsm_b (g := gS r st (pT r st m) (fT r st m)) (fun i => (gS_b hv hs).2) (fT r st m)).1 (by omega)
  exact ⟨a, Nat.mul_le_mul a b5⟩
theorem brS_b (hv : VR r) (hs : VS st) : ∀ m, m ≤ nM r → (brS r st m).1 ≤ m ∧ (brS r st m).2 ≤ 3465
  | 0, _ => ⟨Nat.le_refl _, Nat.zero_le _⟩
  | m + 1, hm => by
    have ih := brS_b hv hs m (by omega)
    unfold brS
    split
    · rename_i h
      exact ⟨Nat.le_refl _, (rsT_b hv hs (by omega) h.1).2⟩
    · exact ⟨by omega, ih.2⟩
def brO (b : Nat) : Int32 := if b = 0 then -2 else nI (b - 1)
theorem brO_2 {b : Nat} (hb : b < 1000) : brO b = -2 ↔ b = 0 := by
  unfold brO
  by_cases h : b = 0
  · rw [if_pos h]; exact ⟨fun _ => h, fun _ => rfl⟩
  · rw [if_neg h]; exact ⟨fun e => absurd e (ps_neg2 (by omega)), fun e => absurd e h⟩
def brV (b v : Nat) : Int32 := if b = 0 then -1 else nI v
def sp_bestRing (r st : Nat → Int32) : Int32 × Int32 := if nM r = 0 then (-1, 1) else (brO (brS r st (nM r)).1, 0)
theorem p9_bestRing (hW : aw_WT n θ) (hF : FR σ (θ 1 7) r) (hM : MR σ 6 st) (hv : VR r) (hs : VS st) (hq : ∀ σ' τ', CS σ σ' (sp_bestRing r st).2 → q (sp_bestRing r st).1 n σ' τ' θ) : SMi G 5 mX9_bestRing 0 0 [.ref 1] n σ τ θ q := by
  unfold sp_bestRing at hq
  have h5 := hv.m5
  refine ctX9_bestRing (sgX9_bestRing_0 (Nat.le_refl _) hW ?_)
  refine k9_noDuchy hW hF hv ⟨hW, ps_b (fun h => ?_) (fun h => ?_)⟩
  · rw [if_neg h] at hq
    refine ps_up (N := nM r) (P := fun j => ∀ σ1, SC σ σ1 → SW G 5 mX9_bestRing (aw_qi q) 0 0 20 [some (.ref 1), some (.int (brO (brS r st j).1)), some (.int (nI (brS r st j).2)), some (.int (nI j)), none] [] (n, σ1, τ, θ)) ?_ ?_ 0 (Nat.zero_le _) σ (SC.refl σ)
    · intro σ1 s1
      have e : σ1 (θ 1 7) 13 = nI (nM r) := (s1.fr hW.f hF).1.2.2.2.2.1.trans hv.m
      exact sgX9_bestRing_20 _ _ _ (Nat.le_refl _) hW (ps_done e (k9_grant hW ⟨hW, hq _ _ (s1.tr 0)⟩))
    · intro j hj ih σ1 s1
      have e : σ1 (θ 1 7) 13 = nI (nM r) := (s1.fr hW.f hF).1.2.2.2.2.1.trans hv.m
      refine sgX9_bestRing_20 _ _ _ (Nat.le_refl _) hW (ps_br e (by omega) (by omega) (fun h => absurd h (by omega)) (fun _ => ?_))
      rw [← nI_succ j]
      have bb := brS_b hv hs j (by omega)
      simp only [brS] at ih
      refine k6_find hW.f hW (s1.fr hW.f hF) (s1.mr hM) hv hj (fun σ2 s2 hx => ⟨hW, ?_⟩)
      have s3 : SC σ σ2 := fun o ho => (s2 o ho).trans (s1 o ho)
      refine ps_b (fun h2 => ?_) (fun h2 => ?_)
      · rw [if_neg (fun e => h2 e.1)] at ih
        exact ih _ s3
      · obtain ⟨x1, x2, x3, x4⟩ := hx h2
        obtain ⟨c1, c2⟩ := rsT_b hv hs hj h2
        refine k6_sum hW.f hW (s3.fr hW.f hF) (s3.mr hM) hv hs x1 x2 (by omega) x4 (fT_b hv hj h2).2.2 ⟨hW, ?_⟩
        rw [x1, pk_mul, brO_2 (by omega)]
        have c3 : rsm (gS r st (pT r st j) (fT r st j)) (fT r st j) * fT r st j = rsT r st j * fT r st j := rfl
        rw [c3, nI_leI (by omega) (by omega)]
        refine ⟨fun h3 => ?_, fun h3 => ⟨fun h4 => ?_, fun h4 => ?_⟩⟩
        · rw [if_pos ⟨h2, Or.inl h3⟩] at ih
          exact ih _ s3
        · rw [if_neg (fun e => e.2.elim h3 (fun e2 => by omega))] at ih
          exact ih _ s3
        · rw [if_pos ⟨h2, Or.inr (by omega)⟩] at ih
          exact ih _ s3
  · rw [if_pos h] at hq
    exact k9_refuse hW ⟨hW, hq _ _ (CS.tr _ _)⟩
theorem p10_bestRing (hW : aw_WT n θ) (hv : VR (σ 123)) (hH : HR σ (σ 123)) (hs : VS (σ 125)) (hq : ∀ σ', RS σ σ' (sp_bestRing (σ 123) (σ 125)).2 → q (sp_bestRing (σ 123) (σ 125)).1 n σ' τ θ) : SMi G 13 mX10_bestRing 0 0 [.ref 120] n σ τ θ q := by
  unfold sp_bestRing at hq
  have h5 := hv.m5
  refine ctX10_bestRing (sgX10_bestRing_0 (Nat.le_refl _) hW ?_)
  refine k10_good' hW (fun σ1 h1 => ⟨hW, ?_⟩)
  rw [h1.has, hH.iff]
  refine ⟨fun h => ?_, fun h => ?_⟩
  · rw [if_neg h] at hq
    refine ps_up (N := nM (σ 123)) (P := fun j => ∀ σ2, RS σ σ2 0 → SW G 13 mX10_bestRing (aw_qi q) 0 0 24 [some (.ref 120), some (.int (brO (brS (σ 123) (σ 125) j).1)), some (.int (brV (brS (σ 123) (σ 125) j).1 (brS (σ 123) (σ 125) j).2)), some (.int (nI j)), none] [] (n, σ2, τ, θ)) ?_ ?_ 0 (Nat.zero_le _) σ1 h1
    · intro σ2 h2
      have e : σ2 123 4 = nI (nM (σ 123)) := by rw [h2.e3]; exact hv.m
      exact sgX10_bestRing_24 _ _ _ (Nat.le_refl _) hW (ps_done e (hq _ h2))
    · intro j hj ih σ2 h2
      have e : σ2 123 4 = nI (nM (σ 123)) := by rw [h2.e3]; exact hv.m
      refine sgX10_bestRing_24 _ _ _ (Nat.le_refl _) hW (ps_br e (by omega) (by omega) (fun h => absurd h (by omega)) (fun _ => ?_))
      rw [← nI_succ j]
      have bb := brS_b hv hs j (by omega)
      simp only [brS] at ih
      have nm : ∀ {x : Nat}, x < 10000 → ¬ nI x < -1 := fun {x} hx e2 => nI_pos (n := x) (by omega) (Int32.lt_trans e2 (by decide))
      refine k10_seekRing hW h2 hv hs hj (fun σ3 h3 hx => ⟨hW, ps_b (fun h4 => ?_) (fun h4 => ?_)⟩)
      · rw [if_neg (fun e => h4 e.1)] at ih
        refine ⟨fun h6 => ?_, fun _ => ih _ h3⟩
        unfold brV at h6
        by_cases h0 : (brS (σ 123) (σ 125) j).1 = 0
        · rw [if_pos h0] at h6; exact absurd h6 (by decide)
        · rw [if_neg h0] at h6; exact absurd h6 (nm (by omega))
      · obtain ⟨b2, b5, -⟩ := fT_b hv hj h4
        obtain ⟨x1, x4⟩ := hx h4
        obtain ⟨c1, c2⟩ := rsT_b hv hs hj h4
        refine k10_sumOf hW h3 hv hs x1 b5 (by omega) x4 ⟨hW, ?_⟩
        rw [x1, pk_mul]
        have c3 : rsm (gS (σ 123) (σ 125) (pT (σ 123) (σ 125) j) (fT (σ 123) (σ 125) j)) (fT (σ 123) (σ 125) j) * fT (σ 123) (σ 125) j = rsT (σ 123) (σ 125) j * fT (σ 123) (σ 125) j := rfl
        rw [c3]
        by_cases h0 : (brS (σ 123) (σ 125) j).1 = 0
        · rw [if_pos ⟨h4, Or.inl h0⟩] at ih
          rw [show brV (brS (σ 123) (σ 125) j).1 (brS (σ 123) (σ 125) j).2 = -1 from if_pos h0]
          refine ⟨fun _ => ih _ h3, fun h6 => absurd ?_ h6⟩
          exact Int32.lt_of_lt_of_le (show (-1 : Int32) < 0 by decide) (nI_pos' (by omega))
        · have ev : brV (brS (σ 123) (σ 125) j).1 (brS (σ 123) (σ 125) j).2 = nI (brS (σ 123) (σ 125) j).2 := if_neg h0
          rw [ev, nI_ltI (by omega) (by omega)]
          refine ⟨fun h6 => ?_, fun h6 => ?_⟩
          · rw [if_pos ⟨h4, Or.inr h6⟩] at ih
            exact ih _ h3
          · rw [if_neg (fun e => e.2.elim h0 (fun e2 => h6 e2)), ev] at ih
            exact ih _ h3
  · rw [if_pos h] at hq
    exact k10_no hW ⟨hW, hq _ h1.no⟩
end RingP
