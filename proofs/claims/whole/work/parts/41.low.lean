/-! ===== longs, lowest terms, locked, weeks ===== -/
theorem lg_e {a b : Nat} (ha : a < 2 ^ 63) (hb : b < 2 ^ 63) : (lg_cmp (lN a) (lN b) = 0 ↔ a = b) ∧ (lg_cmp (lN a) (lN b) ≤ 0 ↔ a ≤ b) ∧ (0 < lg_cmp (lN a) (lN b) ↔ b < a) := by
  unfold lg_cmp
  by_cases h : b < a
  · rw [if_pos (show lN a > lN b from (pk_lLT hb ha).mpr h)]
    exact ⟨⟨fun e => absurd e (by decide), fun e => by omega⟩, ⟨fun e => absurd e (by decide), fun e => by omega⟩, ⟨fun _ => h, fun _ => by decide⟩⟩
  · rw [if_neg (show ¬ lN a > lN b from fun e => h ((pk_lLT hb ha).mp e))]
    by_cases h2 : a = b
    · rw [if_pos ((pk_lEQ ha hb).mpr h2)]
      exact ⟨⟨fun _ => h2, fun _ => rfl⟩, ⟨fun _ => by omega, fun _ => by decide⟩, ⟨fun e => absurd e (by decide), fun e => by omega⟩⟩
    · rw [if_neg (fun e => h2 ((pk_lEQ ha hb).mp e))]
      exact ⟨⟨fun e => absurd e (by decide), fun e => absurd e h2⟩, ⟨fun _ => by omega, fun _ => by decide⟩, ⟨fun e => absurd e (by decide), fun e => by omega⟩⟩
theorem lg_0 {a : Nat} (ha : a < 2 ^ 63) : (lg_cmp (lN a) 0 = 0 ↔ a = 0) ∧ (lg_cmp (lN a) 0 ≤ 0 ↔ a = 0) ∧ (0 < lg_cmp (lN a) 0 ↔ 0 < a) := by
  obtain ⟨h1, h2, h3⟩ := lg_e (b := 0) ha (by decide)
  exact ⟨h1, h2.trans (by omega), h3⟩
theorem lN_ne0 {a : Nat} (ha : a < 2 ^ 63) (h : 0 < a) : ¬ lN a = 0 := fun e => by
  have := (pk_lEQ (b := 0) ha (by decide)).mp e
  omega
def sLow (u w : Nat) (x : Int32) : Int64 := if x = 0 then lN (u / Nat.gcd w u) else lN (w / Nat.gcd w u)
theorem ps_gcd0 (a : Nat) : Nat.gcd a 0 = a := Nat.gcd_zero_right a
theorem ps_gcds {a b : Nat} : Nat.gcd b (a % b) = Nat.gcd a b := by
  rw [Nat.gcd_comm b (a % b), ← Nat.gcd_rec, Nat.gcd_comm]
theorem ps_half {a b k : Nat} (hb : 0 < b) (hc : 0 < a % b) (h : b < 2 ^ (k + 1)) : b % (a % b) < 2 ^ k := by
  have h1 : a % b < b := Nat.mod_lt _ hb
  have h2 : b % (a % b) < a % b := Nat.mod_lt _ hc
  have h3 := Nat.div_add_mod b (a % b)
  have h4 : 1 ≤ b / (a % b) := (Nat.one_le_div_iff hc).mpr (Nat.le_of_lt h1)
  have h5 : a % b ≤ (a % b) * (b / (a % b)) := Nat.le_mul_of_pos_right _ h4
  rw [Nat.pow_succ] at h
  omega
section Low
variable {G : GG} {n : Nat} {σ : SG} {τ : TU} {θ : TH} {f t : Nat} {r st row : Nat → Int32} {q : Int32 → Nat → SG → TU → TH → Prop} {qv : Nat → SG → TU → TH → Prop} {ql : Int64 → Nat → SG → TU → TH → Prop}
theorem k9_lowest {u w : Nat} {x : Int32} (hW : aw_WT n θ) (hu : u < 2 ^ 63) (hw : w < 2 ^ 63) (hq : ql (if u = 0 ∨ w = 0 then (if x = 0 then 0 else 1) else sLow u w x) n σ τ θ) : SMl G 1 mX9_lowest 0 0 [.long (lN u), .long (lN w), .int x] n σ τ θ ql := by
  refine ctX9_lowest _ _ _ (sgX9_lowest_0 _ _ _ (Nat.le_refl _) hW ?_)
  rw [(lg_0 hu).2.1, (lg_0 hw).2.2]
  have z : (u = 0 ∨ w = 0) → ((x = 0 → ql 0 n σ τ θ) ∧ (¬ x = 0 → ql 1 n σ τ θ)) := by
    intro h
    rw [if_pos h] at hq
    refine ⟨fun h2 => ?_, fun h2 => ?_⟩
    · rwa [if_pos h2] at hq
    · rwa [if_neg h2] at hq
  refine ⟨fun h => z (Or.inl h), fun h => ⟨fun h2 => ?_, fun h2 => z (Or.inr (by omega))⟩⟩
  rw [if_neg (by omega)] at hq
  unfold sLow at hq
  -- the end
  have gp : 0 < Nat.gcd w u := Nat.gcd_pos_of_pos_left _ h2
  have gl : Nat.gcd w u < 2 ^ 63 := Nat.lt_of_le_of_lt (Nat.gcd_le_left _ h2) hw
  have fin : (x = 0 → (¬ lN (Nat.gcd w u) = 0) ∧ ql (lN u / lN (Nat.gcd w u)) n σ τ θ) ∧ (¬ x = 0 → (¬ lN (Nat.gcd w u) = 0) ∧ ql (lN w / lN (Nat.gcd w u)) n σ τ θ) := by
    rw [pk_lDiv hu gp gl, pk_lDiv hw gp gl]
    refine ⟨fun h3 => ⟨lN_ne0 gl gp, ?_⟩, fun h3 => ⟨lN_ne0 gl gp, ?_⟩⟩
    · rwa [if_pos h3] at hq
    · rwa [if_neg h3] at hq
  have step : ∀ i a b, i < 200 → a < 2 ^ 63 → b < 2 ^ 63 → Nat.gcd a b = Nat.gcd w u → (0 < b → SW G 1 mX9_lowest (aw_ql ql) 0 0 32 [some (.long (lN u)), none, some (.long (lN w)), none, some (.int x), some (.long (lN b)), none, some (.long (lN (a % b))), none, some (.int (nI (i + 1))), none, none] [] (n, σ, τ, θ)) → SW G 1 mX9_lowest (aw_ql ql) 0 0 32 [some (.long (lN u)), none, some (.long (lN w)), none, some (.int x), some (.long (lN a)), none, some (.long (lN b)), none, some (.int (nI i)), none, none] [] (n, σ, τ, θ) := by
    intro i a b hi ha hb hg hk
    refine sgX9_lowest_32 _ _ _ _ _ _ (Nat.le_refl _) hW (ps_br (c := 200) (N := 200) rfl (by omega) (by omega) (fun h => absurd h (by omega)) (fun _ => ?_))
    rw [(lg_0 hb).1, (lg_0 ha).1]
    refine ⟨fun h0 => ?_, fun h0 => ⟨lN_ne0 hb (by omega), ?_⟩⟩
    · rw [h0, ps_gcd0] at hg
      rw [hg]
      exact ⟨fun _ => fin, fun h3 => absurd h3 (by omega)⟩
    · rw [pk_lRem ha (by omega) hb, ← nI_succ]
      exact hk (by omega)
  have key : ∀ k i a b, i + 2 * k ≤ 190 → a < 2 ^ 63 → b < 2 ^ 63 → b < 2 ^ k → Nat.gcd a b = Nat.gcd w u → SW G 1 mX9_lowest (aw_ql ql) 0 0 32 [some (.long (lN u)), none, some (.long (lN w)), none, some (.int x), some (.long (lN a)), none, some (.long (lN b)), none, some (.int (nI i)), none, none] [] (n, σ, τ, θ) := by
    intro k
    induction k with
    | zero =>
      intro i a b hi ha hb hk hg
      exact step i a b (by omega) ha hb hg (fun h0 => absurd hk (by omega))
    | succ k ih =>
      intro i a b hi ha hb hk hg
      refine step i a b (by omega) ha hb hg (fun h0 => ?_)
      have hm : a % b < b := Nat.mod_lt _ h0
      refine step (i + 1) b (a % b) (by omega) hb (by omega) (by rw [ps_gcds]; exact hg) (fun h1 => ?_)
      have hm2 : b % (a % b) < a % b := Nat.mod_lt _ h1
      exact ih (i + 1 + 1) (a % b) (b % (a % b)) (by omega) (by omega) (by omega) (ps_half h0 h1 hk) (by rw [ps_gcds, ps_gcds]; exact hg)
  exact key 63 0 w u (by omega) hw hu hu rfl
theorem k10_lowest {u w : Nat} {x : Int32} (hW : aw_WT n θ) (hu : u < 2 ^ 63) (hw : w < 2 ^ 63) (h0 : 0 < w) (hq : ql (sLow u w x) n σ τ θ) : SMl G 1 mX10_lowest 0 0 [.long (lN u), .long (lN w), .int x] n σ τ θ ql := by
  refine ctX10_lowest _ _ _ (sgX10_lowest_0 _ _ _ (Nat.le_refl _) hW ?_)
  unfold sLow at hq
  have gp : 0 < Nat.gcd w u := Nat.gcd_pos_of_pos_left _ h0
  have gl : Nat.gcd w u < 2 ^ 63 := Nat.lt_of_le_of_lt (Nat.gcd_le_left _ h0) hw
  have fin : (x = 0 → (¬ lN (Nat.gcd w u) = 0) ∧ ql (lN u / lN (Nat.gcd w u)) n σ τ θ) ∧ (¬ x = 0 → (¬ lN (Nat.gcd w u) = 0) ∧ ql (lN w / lN (Nat.gcd w u)) n σ τ θ) := by
    rw [pk_lDiv hu gp gl, pk_lDiv hw gp gl]
    refine ⟨fun h3 => ⟨lN_ne0 gl gp, ?_⟩, fun h3 => ⟨lN_ne0 gl gp, ?_⟩⟩
    · rwa [if_pos h3] at hq
    · rwa [if_neg h3] at hq
  have key : ∀ k a b, a < 2 ^ 63 → b < 2 ^ 63 → b < k → Nat.gcd a b = Nat.gcd w u → SW G 1 mX10_lowest (aw_ql ql) 0 0 6 [some (.long (lN u)), none, some (.long (lN w)), none, some (.int x), some (.long (lN a)), none, some (.long (lN b)), none, none, none] [] (n, σ, τ, θ) := by
    intro k
    induction k with
    | zero => intro a b _ _ h; exact absurd h (Nat.not_lt_zero _)
    | succ k ih =>
      intro a b ha hb hk hg
      refine sgX10_lowest_6 _ _ _ _ _ (Nat.le_refl _) hW ?_
      rw [(lg_0 hb).1]
      refine ⟨fun h0 => ?_, fun h0 => ⟨lN_ne0 hb (by omega), ?_⟩⟩
      · rw [h0, ps_gcd0] at hg
        rw [hg]
        exact fin
      · rw [pk_lRem ha (by omega) hb]
        have hm : a % b < b := Nat.mod_lt _ (by omega)
        exact ih b (a % b) hb (by omega) (by omega) (by rw [ps_gcds]; exact hg)
  exact key (u + 1) w u hw hu (by omega) rfl
theorem k10_power {v m : Nat} (hW : aw_WT n θ) (hm : m ≤ 100) (hq : ql (lN (v ^ m)) n σ τ θ) : SMl G 1 mX10_power 0 0 [.long (lN v), .int (nI m)] n σ τ θ ql := by
  refine ctX10_power _ _ (sgX10_power_0 _ _ (Nat.le_refl _) hW ?_)
  refine ps_up (N := m) (P := fun j => SW G 1 mX10_power (aw_ql ql) 0 0 5 [some (.long (lN v)), none, some (.int (nI m)), some (.long (lN (v ^ j))), none, some (.int (nI j))] [] (n, σ, τ, θ)) ?_ ?_ 0 (Nat.zero_le _)
  · exact sgX10_power_5 _ _ _ _ (Nat.le_refl _) hW (ps_done rfl hq)
  · intro j hj ih
    refine sgX10_power_5 _ _ _ _ (Nat.le_refl _) hW (ps_br rfl (by omega) (by omega) (fun h => absurd h (by omega)) (fun _ => ?_))
    rw [lN_mul, ← nI_succ, ← Nat.pow_succ]
    exact ih
/-! locked, weeks -/
def s_ww (r : Nat → Int32) (x : Int32) : Int32 := if nM r = 0 then 1 else if ¬ x < 0 ∧ ¬ 8 < x then 0 else 2
theorem k9_ww {x : Int32} (hW : aw_WT n θ) (hF : FR σ (θ 1 7) r) (hv : VR r) (hq : q (s_ww r x) n σ τ θ) : SMi G 2 mX9_troubleOfWeeks 0 0 [.ref 1, .int x] n σ τ θ q := by
  unfold s_ww at hq
  refine ctX9_troubleOfWeeks _ (sgX9_troubleOfWeeks_0 _ (Nat.le_refl _) hW ?_)
  refine k9_noDuchy hW hF hv ⟨hW, ps_b (fun h => ⟨fun h2 => ?_, fun h2 => ⟨fun h3 => ?_, fun h3 => ?_⟩⟩) (fun h => ?_)⟩
  · rwa [if_neg h, if_neg (fun e => e.1 h2)] at hq
  · rwa [if_neg h, if_pos ⟨h2, Int32.not_lt.mpr h3⟩] at hq
  · rwa [if_neg h, if_neg (fun e => h3 (Int32.not_lt.mp e.2))] at hq
  · rwa [if_pos h] at hq
theorem s_ww0 {x : Int32} (h : s_ww r x = 0) : 0 < nM r ∧ ∃ j, j ≤ 8 ∧ x = nI j := by
  unfold s_ww at h
  by_cases h1 : nM r = 0
  · rw [if_pos h1] at h; exact absurd h (by decide)
  · rw [if_neg h1] at h
    by_cases h2 : ¬ x < 0 ∧ ¬ 8 < x
    · refine ⟨by omega, ps_inx (N := 8) (by omega) h2.1 (Int32.not_lt.mp h2.2)⟩
    · rw [if_neg h2] at h; exact absurd h (by decide)
theorem k10_ww {x : Int32} {q : Int32 → Nat → SG → TU → TH → Prop} (hW : aw_WT n θ) (hH : HR σ (σ 123)) (hq : q (s_ww (σ 123) x) n σ τ θ) : SMi G 1 mX10_in 0 0 [.int x, .int 0, .int 8] n σ τ θ (fun a2 n2 σ2 τ2 θ2 => aw_WT n2 θ2 ∧ SMi G 1 mX10_why 0 0 [.ref 120, .int (σ 120 14), .int a2] n2 σ2 τ2 θ2 q) := by
  unfold s_ww at hq
  refine k10_in hW ⟨hW, ?_⟩
  rcases hH with ⟨hz, h0⟩ | ⟨hz, h0⟩
  · rw [if_pos h0] at hq
    rw [hz]
    exact k10_why0 hW hq
  · rw [if_neg (by omega)] at hq
    rw [hz]
    exact k10_why1 hW hq
def lkN (r : Nat → Int32) : Nat := (r 2).toNatClampNeg
theorem VR.lk {r : Nat → Int32} (h : VR r) : r 2 = nI (lkN r) ∧ lkN r ≤ 100 := by
  obtain ⟨a, -, ha, e⟩ := h.e.2.1
  unfold lkN
  rw [e, ps_cl (by omega)]
  exact ⟨rfl, ha⟩
def sp_locked (r : Nat → Int32) (x y : Int32) : Int64 × Int32 := if s_ww r x = 0 then (sLow (lkN r ^ x.toNatClampNeg) (100 ^ x.toNatClampNeg) y, 0) else (-1, s_ww r x)
theorem ps_p8 {a j : Nat} (ha : a ≤ 100) (hj : j ≤ 8) : a ^ j ≤ 10000000000000000 := Nat.le_trans (Nat.pow_le_pow_left ha j) (show 100 ^ j ≤ 100 ^ 8 from Nat.pow_le_pow_right (by decide) hj)
theorem ps_lock {u w : Nat} {x : Int32} (hw : 0 < w) : (if u = 0 ∨ w = 0 then (if x = 0 then 0 else 1) else sLow u w x) = sLow u w x := by
  by_cases h : u = 0
  · rw [if_pos (Or.inl h), h]
    unfold sLow
    rw [ps_gcd0, Nat.zero_div, Nat.div_self hw]
    rfl
  · rw [if_neg (by omega)]
theorem p9_locked {x y : Int32} (hW : aw_WT n θ) (hF : FR σ (θ 1 7) r) (hv : VR r) (hq : ∀ σ' τ', CS σ σ' (sp_locked r x y).2 → ql (sp_locked r x y).1 n σ' τ' θ) : SMl G 3 mX9_locked 0 0 [.ref 1, .int x, .int y] n σ τ θ ql := by
  unfold sp_locked at hq
  obtain ⟨el, hl⟩ := hv.lk
  have e11 : σ (θ 1 7) 11 = nI (lkN r) := hF.1.2.2.1.trans el
  refine ctX9_locked _ _ (sgX9_locked_0 _ _ (Nat.le_refl _) hW ?_)
  refine k9_ww hW hF hv ⟨hW, fun h => ?_, fun h => ?_⟩
  · rw [if_pos h] at hq
    obtain ⟨h0, j, hj, rfl⟩ := s_ww0 h
    rw [ps_cl (by omega)] at hq
    have b1 := ps_p8 hl hj
    have b2 := ps_p8 (a := 100) (by omega) hj
    refine ps_up (N := j) (P := fun i => SW G 3 mX9_locked (aw_ql ql) 0 0 26 [some (.ref 1), some (.int (nI j)), some (.int y), none, some (.long (lN (lkN r ^ i))), none, some (.long (lN (100 ^ i))), none, some (.int (nI i))] [] (n, σ, τ, θ)) ?_ ?_ 0 (Nat.zero_le _)
    · refine sgX9_locked_26 _ _ _ _ _ (Nat.le_refl _) hW (ps_done rfl (k9_lowest hW (by omega) (by omega) ⟨hW, ?_⟩))
      rw [ps_lock (Nat.pow_pos (by decide))]
      exact hq _ _ (CS.tr _ _)
    · intro i hi ih
      refine sgX9_locked_26 _ _ _ _ _ (Nat.le_refl _) hW (ps_br rfl (by omega) (by omega) (fun h => absurd h (by omega)) (fun _ => ?_))
      rw [e11, nI_l (by omega), lN_mul, show lN (100 ^ i) * 100 = lN (100 ^ i * 100) from lN_mul _ 100, ← nI_succ, ← Nat.pow_succ, ← Nat.pow_succ]
      exact ih
  · rw [if_neg h] at hq
    exact k9_refuse hW ⟨hW, hq _ _ (CS.tr _ _)⟩
theorem p10_locked {x y : Int32} (hW : aw_WT n θ) (hv : VR (σ 123)) (hH : HR σ (σ 123)) (hq : ∀ σ', RS σ σ' (sp_locked (σ 123) x y).2 → ql (sp_locked (σ 123) x y).1 n σ' τ θ) : SMl G 2 mX10_locked 0 0 [.ref 120, .int x, .int y] n σ τ θ ql := by
  unfold sp_locked at hq
  obtain ⟨el, hl⟩ := hv.lk
  refine ctX10_locked _ _ (sgX10_locked_0 _ _ (Nat.le_refl _) hW ?_)
  refine k10_good' hW (fun σ1 h1 => ⟨hW, k10_ww hW (h1.hr hH) ⟨hW, ?_⟩⟩)
  rw [h1.e3]
  refine ⟨fun h => ?_, fun h => ?_⟩
  · rw [if_pos h] at hq
    obtain ⟨h0, j, hj, rfl⟩ := s_ww0 h
    rw [ps_cl (by omega)] at hq
    have b1 := ps_p8 hl hj
    have b2 := ps_p8 (a := 100) (by omega) hj
    rw [el, nI_l (by omega)]
    exact k10_power hW (by omega) ⟨hW, k10_power (v := 100) hW (by omega) ⟨hW, k10_lowest hW (by omega) (by omega) (Nat.pow_pos (by decide)) ⟨hW, hq _ h1⟩⟩⟩
  · rw [if_neg h] at hq
    exact k10_no hW ⟨hW, hq _ h1.no⟩
/-- the weeks' sum, after i of j weeks: as the class has it -/
def wkS (a : Nat) : Nat → Nat
  | 0 => 0
  | i + 1 => wkS a i * 100 + a ^ (i + 1)
def wkR (a j : Nat) : Nat → Nat
  | 0 => 0
  | i + 1 => wkR a j i + a ^ (i + 1) * 100 ^ (j - (i + 1))
theorem wk_e (a j : Nat) : ∀ i, i ≤ j → wkR a j i = wkS a i * 100 ^ (j - i)
  | 0, _ => by simp only [wkR, wkS, Nat.zero_mul]
  | i + 1, h => by
    have ih := wk_e a j i (by omega)
    simp only [wkR, wkS]
    rw [ih, Nat.add_mul, show j - i = (j - (i + 1)) + 1 by omega, Nat.pow_succ, Nat.mul_assoc, Nat.mul_comm 100]
theorem wkS_b {a : Nat} (ha : a ≤ 100) : ∀ i, wkS a i ≤ i * 100 ^ i
  | 0 => Nat.le_refl _
  | i + 1 => by
    have ih := wkS_b ha i
    have h1 : a ^ (i + 1) ≤ 100 ^ (i + 1) := Nat.pow_le_pow_left ha _
    have h2 : wkS a i * 100 ≤ i * 100 ^ i * 100 := Nat.mul_le_mul_right _ ih
    rw [Nat.mul_assoc, ← Nat.pow_succ] at h2
    show wkS a i * 100 + a ^ (i + 1) ≤ (i + 1) * 100 ^ (i + 1)
    rw [Nat.add_mul, Nat.one_mul]
    exact Nat.add_le_add h2 h1
def sp_weeks (r : Nat → Int32) (x y : Int32) : Int64 × Int32 := if s_ww r x = 0 then (sLow (wkS (lkN r) x.toNatClampNeg) (100 ^ x.toNatClampNeg) y, 0) else (-1, s_ww r x)
theorem wkS_l {a j : Nat} (ha : a ≤ 100) (hj : j ≤ 8) : wkS a j < 2 ^ 63 := by
  have h1 := wkS_b ha j
  have b2 := ps_p8 (a := 100) (by omega) hj
  have h2 : j * 100 ^ j ≤ 8 * 10000000000000000 := Nat.mul_le_mul hj b2
  omega
theorem p9_weeks {x y : Int32} (hW : aw_WT n θ) (hF : FR σ (θ 1 7) r) (hv : VR r) (hq : ∀ σ' τ', CS σ σ' (sp_weeks r x y).2 → ql (sp_weeks r x y).1 n σ' τ' θ) : SMl G 3 mX9_weeks 0 0 [.ref 1, .int x, .int y] n σ τ θ ql := by
  unfold sp_weeks at hq
  obtain ⟨el, hl⟩ := hv.lk
  have e11 : σ (θ 1 7) 11 = nI (lkN r) := hF.1.2.2.1.trans el
  refine ctX9_weeks _ _ (sgX9_weeks_0 _ _ (Nat.le_refl _) hW ?_)
  refine k9_ww hW hF hv ⟨hW, fun h => ?_, fun h => ?_⟩
  · rw [if_pos h] at hq
    obtain ⟨h0, j, hj, rfl⟩ := s_ww0 h
    rw [ps_cl (by omega)] at hq
    have b1 := wkS_l hl hj
    have b2 := ps_p8 (a := 100) (by omega) hj
    refine ps_up (N := j) (P := fun i => SW G 3 mX9_weeks (aw_ql ql) 0 0 29 [some (.ref 1), some (.int (nI j)), some (.int y), none, some (.long (lN (lkN r ^ i))), none, some (.long (lN (wkS (lkN r) i))), none, some (.long (lN (100 ^ i))), none, some (.int (nI i))] [] (n, σ, τ, θ)) ?_ ?_ 0 (Nat.zero_le _)
    · refine sgX9_weeks_29 _ _ _ _ _ _ (Nat.le_refl _) hW (ps_done rfl (k9_lowest hW b1 (by omega) ⟨hW, ?_⟩))
      rw [ps_lock (Nat.pow_pos (by decide))]
      exact hq _ _ (CS.tr _ _)
    · intro i hi ih
      refine sgX9_weeks_29 _ _ _ _ _ _ (Nat.le_refl _) hW (ps_br rfl (by omega) (by omega) (fun h => absurd h (by omega)) (fun _ => ?_))
      rw [e11, nI_l (by omega), lN_mul, show lN (100 ^ i) * 100 = lN (100 ^ i * 100) from lN_mul _ 100, show lN (wkS (lkN r) i) * 100 = lN (wkS (lkN r) i * 100) from lN_mul _ 100, lN_add, ← nI_succ, ← Nat.pow_succ, ← Nat.pow_succ]
      exact ih
  · rw [if_neg h] at hq
    exact k9_refuse hW ⟨hW, hq _ _ (CS.tr _ _)⟩
theorem p10_weeks {x y : Int32} (hW : aw_WT n θ) (hv : VR (σ 123)) (hH : HR σ (σ 123)) (hq : ∀ σ', RS σ σ' (sp_weeks (σ 123) x y).2 → ql (sp_weeks (σ 123) x y).1 n σ' τ θ) : SMl G 2 mX10_weeks 0 0 [.ref 120, .int x, .int y] n σ τ θ ql := by
  unfold sp_weeks at hq
  obtain ⟨el, hl⟩ := hv.lk
  refine ctX10_weeks _ _ (sgX10_weeks_0 _ _ (Nat.le_refl _) hW ?_)
  refine k10_good' hW (fun σ1 h1 => ⟨hW, k10_ww hW (h1.hr hH) ⟨hW, ?_⟩⟩)
  rw [h1.e3]
  refine ⟨fun h => ?_, fun h => ?_⟩
  · rw [if_pos h] at hq
    obtain ⟨h0, j, hj, rfl⟩ := s_ww0 h
    rw [ps_cl (by omega)] at hq
    have b1 := wkS_l hl hj
    have b2 := ps_p8 (a := 100) (by omega) hj
    have eR : wkR (lkN (σ 123)) j j = wkS (lkN (σ 123)) j := by
      rw [wk_e _ _ _ (Nat.le_refl _), Nat.sub_self, Nat.pow_zero, Nat.mul_one]
    refine ps_up (N := j) (P := fun i => SW G 2 mX10_weeks (aw_ql ql) 0 0 37 [some (.ref 120), some (.int (nI j)), some (.int y), none, some (.long (lN (wkR (lkN (σ 123)) j i))), none, some (.int (nI (i + 1)))] [] (n, σ1, τ, θ)) ?_ ?_ 0 (Nat.zero_le _)
    · refine sgX10_weeks_37 _ _ _ _ (Nat.le_refl _) hW ⟨fun _ => k10_power (v := 100) hW (by omega) ⟨hW, ?_⟩, fun h => absurd (nI_lt (by omega) (by omega)) h⟩
      rw [eR]
      exact k10_lowest hW b1 (by omega) (Nat.pow_pos (by decide)) ⟨hW, hq _ h1⟩
    · intro i hi ih
      refine sgX10_weeks_37 _ _ _ _ (Nat.le_refl _) hW ⟨fun h => absurd h (nI_nlt (by omega) (by omega)), fun _ => ?_⟩
      rw [h1.e3, el, nI_l (by omega), pk_sub (by omega)]
      refine k10_power hW (by omega) ⟨hW, k10_power (v := 100) hW (by omega) ⟨hW, ?_⟩⟩
      rw [lN_mul, lN_add, ← nI_succ (i + 1)]
      exact ih
  · rw [if_neg h] at hq
    exact k10_no hW ⟨hW, hq _ h1.no⟩
end Low
