/-! ===== rumours: the weights ===== -/
def rwN (e h told : Int32) : Nat := (s_rw e h told).toNatClampNeg
theorem rwN_e {r : Nat → Int32} (hv : VR r) {h told : Int32} : s_rw (r 1) h told = nI (rwN (r 1) h told) ∧ rwN (r 1) h told ≤ 200 := by
  obtain ⟨e, -, he, ee⟩ := hv.e.1
  have key : ∃ a, a ≤ 200 ∧ s_rw (r 1) h told = nI a := by
    unfold s_rw
    rw [ee, show (2 : Int32) * nI e = nI (2 * e) from pk_mul 2 e, show (200 : Int32) - nI (2 * e) = nI (200 - 2 * e) from pk_sub (a := 200) (by omega)]
    split
    · exact ⟨_, by omega, rfl⟩
    · split
      · split
        · exact ⟨_, by omega, rfl⟩
        · exact ⟨0, by omega, rfl⟩
      · split
        · exact ⟨_, by omega, rfl⟩
        · exact ⟨0, by omega, rfl⟩
  obtain ⟨a, ha, e2⟩ := key
  unfold rwN
  rw [e2, ps_cl (by omega)]
  exact ⟨rfl, ha⟩
/-- the weight of the set B, by the readings before the k-th -/
def wN (r st : Nat → Int32) (B : Nat) : Nat → Nat
  | 0 => 1
  | k + 1 => wN r st B k * rwN (r 1) (s_hB r st (st 12) (nI B) (r (78 + 2 * k)).toNatClampNeg) (r (79 + 2 * k))
def WN (r st : Nat → Int32) (B : Nat) : Nat := wN r st B (nR r)
def nS (r : Nat → Int32) : Nat := 2 ^ nU r
theorem wN_b {r st : Nat → Int32} (hv : VR r) {B : Nat} : ∀ k, wN r st B k ≤ 200 ^ k
  | 0 => Nat.le_refl _
  | k + 1 => by
    rw [Nat.pow_succ]
    exact Nat.mul_le_mul (wN_b hv k) (rwN_e hv).2
theorem WN_b {r st : Nat → Int32} (hv : VR r) {B : Nat} : WN r st B ≤ 1600000000 :=
  Nat.le_trans (wN_b hv _) (show 200 ^ nR r ≤ 200 ^ 4 from Nat.pow_le_pow_right (by decide) hv.r4)
theorem nS_b {r : Nat → Int32} (hv : VR r) : 1 ≤ nS r ∧ nS r ≤ 16 := ⟨Nat.two_pow_pos _, show 2 ^ nU r ≤ 2 ^ 4 from Nat.pow_le_pow_right (by decide) hv.u4⟩
theorem nS_e {r : Nat → Int32} (hv : VR r) : (1 : Int32) <<< (r 6 &&& 31) = nI (nS r) := by
  have := hv.u4
  rw [hv.u]
  exact ps_sh_all ⟨nU r, by omega⟩
theorem sm_le {f : Nat → Nat} {b : Nat} (h : ∀ k, f k ≤ b) : ∀ N, sm f N ≤ N * b
  | 0 => Nat.zero_le _
  | N + 1 => by
    have := sm_le h N
    have := h N
    show sm f N + f N ≤ _
    rw [Nat.add_mul]
    omega
def fitN (r st : Nat → Int32) (B : Nat) : Nat := if 0 < WN r st B then 1 else 0
def AW (r st : Nat → Int32) : Nat := sm (WN r st) (nS r)
theorem AW_b {r st : Nat → Int32} (hv : VR r) : AW r st < 2 ^ 63 := by
  have h1 := sm_le (f := WN r st) (b := 1600000000) (fun k => WN_b hv) (nS r)
  have h2 : nS r * 1600000000 ≤ 16 * 1600000000 := Nat.mul_le_mul_right _ (nS_b hv).2
  unfold AW
  omega
def FN (r st : Nat → Int32) : Nat := sm (fitN r st) (nS r)
theorem sm_fit_le {r st : Nat → Int32} : ∀ N, sm (fitN r st) N ≤ N
  | 0 => Nat.le_refl _
  | N + 1 => by
    have : sm (fitN r st) N ≤ N := sm_fit_le N
    show sm (fitN r st) N + (if _ then _ else _) ≤ _
    split <;> omega
/-- the odds as weighed -/
def OW (σ : SG) (τ : TU) (r st : Nat → Int32) : Prop := σ 77 2 = nI (nS r) ∧ σ 77 0 = nI (FN r st) ∧ τ 77 1 = lN (AW r st) ∧ ∀ B, B < nS r → τ 78 B = lN (WN r st B)
section OddC
variable {G : GG} {n : Nat} {σ : SG} {τ : TU} {θ : TH} {f t : Nat} {r st row : Nat → Int32} {q : Int32 → Nat → SG → TU → TH → Prop} {qv : Nat → SG → TU → TH → Prop} {ql : Int64 → Nat → SG → TU → TH → Prop}
theorem k4_headWith {m : Nat} {B : Int32} (hf : isF f) (hW : aw_WT n θ) (hF : FR σ f r) (hM : MR σ 6 st) (hv : VR r) (hm : m < nM r) (hq : q (s_hB r st (st 12) B m) n σ τ θ) : SMi G 3 mX4_headWith 0 0 [.ref f, .ref 6, .int (nI m), .int B] n σ τ θ q := by
  have h4 := hv.u4
  have e4 : σ (f + 13) 4 = nI (nU r) := hF.1.2.2.2.2.2.2.1.trans hv.u
  unfold s_hB at hq
  refine ctX4_headWith f 6 _ _ (sgX4_headWith_0 f 6 _ _ (Nat.le_refl _) hf isM_now hW ?_)
  rw [hM.2.2]
  refine k1_burdenOf hf isM_now hW hF hM hv ⟨hW, ?_⟩
  refine ps_up (N := nU r) (P := fun j => SW G 3 mX4_headWith (aw_qi q) 0 0 15 [some (.ref f), some (.ref 6), some (.int (nI m)), some (.int B), some (.int (s_ub r (st 12) (nI m) B (s_db r st (st 12) (nI m) (nD r)) j)), some (.int (nI j))] [] (n, σ, τ, θ)) ?_ ?_ 0 (Nat.zero_le _)
  · exact sgX4_headWith_15 f 6 _ _ _ _ (Nat.le_refl _) hf isM_now hW (ps_done e4 (k1_headBy hf hW hF hv hm ⟨hW, hq⟩))
  · intro j hj ih
    refine sgX4_headWith_15 f 6 _ _ _ _ (Nat.le_refl _) hf isM_now hW (ps_br e4 (by omega) (by omega) (fun h => absurd hj (by omega)) (fun _ => ?_))
    obtain ⟨g1, g2, g3, g4⟩ := hF.2.2.2.2.2 j hj
    rw [ps_cl (by omega), g1, g3, g4, hM.2.2, ← nI_succ]
    simp only [s_ub] at ih
    refine ⟨fun h => ?_, fun h => ⟨ps_in (by omega) (by decide), fun h2 => ?_, fun h2 => ⟨ps_in (by omega) (by decide), fun h3 => ?_, fun h3 => ⟨ps_in (by omega) (by decide), ?_⟩⟩⟩⟩
    · rw [if_neg (fun e => ps_bitn.mpr e.1 h), Int32.add_zero] at ih
      exact ih
    · rw [if_neg (fun e => h2 e.2.1), Int32.add_zero] at ih
      exact ih
    · rw [if_neg (fun e => absurd e.2.2 (Int32.not_le.mpr h3)), Int32.add_zero] at ih
      exact ih
    · rw [if_pos ⟨ps_bitn.mp h, h2, Int32.not_lt.mp h3⟩] at ih
      obtain ⟨-, ⟨a, ha, ha2, ea⟩, -⟩ := hv.rum hj
      refine k1_tinesFor hf hW hF ?_ (hv.tp (by omega)) ⟨hW, ih⟩
      rw [ea]
      exact nI_lt (a := 0) (by omega) (by omega)
theorem k4_weigh (hf : isF f) (hW : aw_WT n θ) (hF : FR σ f r) (hM : MR σ 6 st) (hv : VR r) (hq : ∀ σ' τ', SC σ σ' → OW σ' τ' r st → qv n σ' τ' θ) : SMv G 4 mX4_weigh 0 0 [.ref 77, .ref f, .ref 6] n σ τ θ qv := by
  have h4 := hv.r4
  have h5 := hv.m5
  have hS := nS_b hv
  have e6 : σ (f + 13) 4 = r 6 := hF.1.2.2.2.2.2.2.1
  refine ctX4_weigh f 6 (sgX4_weigh_0 f 6 (Nat.le_refl _) hf isM_now hW ?_)
  rw [e6, nS_e hv]
  have p1 := ps_up (N := nS r) (P := fun B => ∀ σ1 τ1, SC σ σ1 → σ1 77 2 = nI (nS r) → σ1 77 0 = nI (sm (fitN r st) B) → τ1 77 1 = lN (sm (WN r st) B) → (∀ C, C < B → τ1 78 C = lN (WN r st C)) → SW G 4 mX4_weigh (aw_qv qv) 0 0 25 [some (.ref 77), some (.ref f), some (.ref 6), some (.int (nI B)), none, none, none] [] (n, σ1, τ1, θ)) ?_ ?_ 0 (Nat.zero_le _)
  · refine p1 _ _ (((SC.refl σ).up (by omega) (by omega)).up (by omega) (by omega)) ?_ aw_u_eq aw_u_eq (fun C hC => absurd hC (by omega))
    rw [aw_u_nk (by decide), aw_u_eq]
  · intro σ1 τ1 s1 e2 e0 eA eW
    exact sgX4_weigh_25 f 6 _ (Nat.le_refl _) hf isM_now hW (ps_done e2 (hq _ _ s1 ⟨e2, e0, eA, eW⟩))
  · intro B hB ih σ1 τ1 s1 e2 e0 eA eW
    refine sgX4_weigh_25 f 6 _ (Nat.le_refl _) hf isM_now hW (ps_br e2 (by omega) (by omega) (fun h => absurd h (by omega)) (fun _ => ?_))
    have e15 : σ1 f 15 = nI (nR r) := (s1.fr hf hF).1.2.2.2.2.2.2.2.2.trans hv.r
    refine ps_up (N := nR r) (P := fun k => SW G 4 mX4_weigh (aw_qv qv) 0 0 39 [some (.ref 77), some (.ref f), some (.ref 6), some (.int (nI B)), some (.long (lN (wN r st B k))), none, some (.int (nI k))] [] (n, σ1, τ1, θ)) ?_ ?_ 0 (Nat.zero_le _)
    · refine sgX4_weigh_39 f 6 _ _ _ (Nat.le_refl _) hf isM_now hW (ps_done e15 ⟨ps_in (by omega) (by decide), ?_⟩)
      have bW := WN_b (st := st) (B := B) hv
      have bW2 : WN r st B < 2 ^ 63 := by omega
      rw [ps_cl (by omega), ← nI_succ, aw_uo (by decide), eA, e0]
      have eWN : wN r st B (nR r) = WN r st B := rfl
      rw [eWN, lN_add, (lg_0 bW2).2.1]
      have hT : ∀ v, (aw_u (aw_u τ1 78 B (lN (WN r st B))) 77 1 v) 77 1 = v := fun v => aw_u_eq
      have hW2 : ∀ v C, C < B + 1 → (aw_u (aw_u τ1 78 B (lN (WN r st B))) 77 1 v) 78 C = lN (WN r st C) := by
        intro v C hC
        rw [aw_uo (by decide)]
        by_cases h : C = B
        · rw [h, aw_u_eq]
        · rw [aw_u_nk h]; exact eW C (by omega)
      have e2' : ∀ v, (aw_u σ1 77 0 v) 77 2 = nI (nS r) := fun v => by rw [aw_u_nk (by decide)]; exact e2
      refine ⟨fun h0 => ih _ _ (s1.up (by omega) (by omega)) (e2' _) ?_ (hT _) (hW2 _), fun h0 => ih _ _ (s1.up (by omega) (by omega)) (e2' _) ?_ (hT _) (hW2 _)⟩
      · rw [aw_u_eq, Int32.add_zero]
        simp only [sm]
        rw [show fitN r st B = 0 from if_neg (by omega), Nat.add_zero]
      · rw [aw_u_eq]
        simp only [sm]
        rw [show fitN r st B = 1 from if_pos (by omega)]
        exact nI_1 _
    · intro k hk ihk
      refine sgX4_weigh_39 f 6 _ _ _ (Nat.le_refl _) hf isM_now hW (ps_br e15 (by omega) (by omega) (fun h => absurd h (by omega)) (fun _ => ⟨ps_in (by omega) (by decide), ?_⟩))
      obtain ⟨⟨a, ha, ea⟩, -⟩ := hv.read hk
      rw [ps_cl (by omega), ((s1.fr hf hF).2.2.2.1 k hk).1, ea]
      refine k4_headWith hf hW (s1.fr hf hF) (s1.mr hM) hv ha ⟨hW, k1_readingWeight hf hW (s1.fr hf hF) hv hk ⟨hW, ?_⟩⟩
      obtain ⟨e9, b9⟩ := rwN_e hv (h := s_hB r st (st 12) (nI B) a) (told := r (79 + 2 * k))
      rw [e9, nI_l (by omega), lN_mul, ← nI_succ]
      simp only [wN] at ihk
      rw [ea, ps_cl (by omega)] at ihk
      exact ihk
/-! what is asked of the weights -/
def fitL (r st : Nat → Int32) (x : Int32) : Nat → Int32
  | 0 => -1
  | B + 1 => if 0 < WN r st B ∧ nI (sm (fitN r st) B) = x then nI B else fitL r st x B
theorem fit_mono {B : Nat} : ∀ d, sm (fitN r st) B ≤ sm (fitN r st) (B + d)
  | 0 => Nat.le_refl _
  | d + 1 => by
    have : sm (fitN r st) B ≤ sm (fitN r st) (B + d) := fit_mono d
    show _ ≤ sm (fitN r st) (B + d) + fitN r st (B + d)
    omega
theorem fitL_1 {x : Int32} {B : Nat} (h : 0 < WN r st B ∧ nI (sm (fitN r st) B) = x) : ∀ d, B + 1 + d ≤ 1000 → fitL r st x (B + 1 + d) = nI B
  | 0, _ => if_pos h
  | d + 1, hd => by
    show (if 0 < WN r st (B + 1 + d) ∧ nI (sm (fitN r st) (B + 1 + d)) = x then nI (B + 1 + d) else fitL r st x (B + 1 + d)) = _
    rw [fitL_1 h d (by omega), if_neg]
    rintro ⟨-, h2⟩
    rw [← h.2] at h2
    have h3 := fit_mono (r := r) (st := st) (B := B + 1) d
    have h4 : sm (fitN r st) (B + 1) = sm (fitN r st) B + fitN r st B := rfl
    have h5 : fitN r st B = 1 := if_pos h.1
    have h6 := sm_fit_le (r := r) (st := st) (B + 1 + d)
    have h7 := sm_fit_le (r := r) (st := st) B
    have h8 := (nI_eq (by omega) (by omega)).mp h2
    omega
theorem k4_fitNumber {x : Int32} (hW : aw_WT n θ) (hv : VR r) (hO : OW σ τ r st) (hq : q (fitL r st x (nS r)) n σ τ θ) : SMi G 1 mX4_fitNumber 0 0 [.ref 77, .int x] n σ τ θ q := by
  have hS := nS_b hv
  refine ctX4_fitNumber _ (sgX4_fitNumber_0 _ (Nat.le_refl _) hW ?_)
  refine ps_up (N := nS r) (P := fun B => fitL r st x B = -1 → SW G 1 mX4_fitNumber (aw_qi q) 0 0 4 [some (.ref 77), some (.int x), some (.int (nI (sm (fitN r st) B))), some (.int (nI B))] [] (n, σ, τ, θ)) ?_ ?_ 0 (Nat.zero_le _) rfl
  · intro h
    rw [h] at hq
    exact sgX4_fitNumber_4 _ _ _ (Nat.le_refl _) hW (ps_done hO.1 hq)
  · intro B hB ih h
    refine sgX4_fitNumber_4 _ _ _ (Nat.le_refl _) hW (ps_br hO.1 (by omega) (by omega) (fun h => absurd h (by omega)) (fun _ => ⟨ps_in (by omega) (by decide), ?_⟩))
    have bW := WN_b (st := st) (B := B) hv
    have bW2 : WN r st B < 2 ^ 63 := by omega
    rw [ps_cl (by omega), hO.2.2.2 B hB, (lg_0 bW2).2.1, ← nI_succ]
    simp only [sm] at ih
    refine ⟨fun h0 => ?_, fun h0 => ⟨fun h1 => ?_, fun h1 => ?_⟩⟩
    · rw [show fitN r st B = 0 from if_neg (by omega), Nat.add_zero] at ih
      refine ih ?_
      show (if _ then _ else _) = _
      rw [if_neg (fun e => absurd e.1 (by omega))]
      exact h
    · rw [show fitN r st B = 1 from if_pos (by omega)] at ih
      rw [nI_1]
      refine ih ?_
      show (if _ then _ else _) = _
      rw [if_neg (fun e => h1 e.2)]
      exact h
    · have := fitL_1 (r := r) (st := st) (x := x) (B := B) ⟨by omega, h1⟩ (nS r - (B + 1)) (by omega)
      rw [show B + 1 + (nS r - (B + 1)) = nS r by omega] at this
      rw [this] at hq
      exact hq
def ruN (r st : Nat → Int32) (j B : Nat) : Nat := if s_bit (nI B) j = true then WN r st B else 0
theorem k4_weightOfRumour {j : Nat} (hW : aw_WT n θ) (hv : VR r) (hO : OW σ τ r st) (hq : ql (lN (sm (ruN r st j) (nS r))) n σ τ θ) : SMl G 1 mX4_weightOfRumour 0 0 [.ref 77, .int (nI j)] n σ τ θ ql := by
  have hS := nS_b hv
  refine ctX4_weightOfRumour _ (sgX4_weightOfRumour_0 _ (Nat.le_refl _) hW ?_)
  refine ps_up (N := nS r) (P := fun B => SW G 1 mX4_weightOfRumour (aw_ql ql) 0 0 5 [some (.ref 77), some (.int (nI j)), some (.long (lN (sm (ruN r st j) B))), none, some (.int (nI B))] [] (n, σ, τ, θ)) ?_ ?_ 0 (Nat.zero_le _)
  · exact sgX4_weightOfRumour_5 _ _ _ (Nat.le_refl _) hW (ps_done hO.1 hq)
  · intro B hB ih
    refine sgX4_weightOfRumour_5 _ _ _ (Nat.le_refl _) hW (ps_br hO.1 (by omega) (by omega) (fun h => absurd h (by omega)) (fun _ => ?_))
    rw [ps_cl (by omega), hO.2.2.2 B hB, ← nI_succ, lN_add]
    simp only [sm] at ih
    refine ⟨fun h0 => ?_, fun h0 => ⟨ps_in (by omega) (by decide), ?_⟩⟩
    · rw [show ruN r st j B = 0 from if_neg (fun e => ps_bitn.mpr e h0), Nat.add_zero] at ih
      exact ih
    · rw [show ruN r st j B = WN r st B from if_pos (ps_bitn.mp h0)] at ih
      exact ih
def whN (r st : Nat → Int32) (m : Nat) (x : Int32) (B : Nat) : Nat := if s_hB r st (st 12) (nI B) m = x then WN r st B else 0
theorem k4_weightOfHead {m : Nat} {x : Int32} (hf : isF f) (hW : aw_WT n θ) (hF : FR σ f r) (hM : MR σ 6 st) (hv : VR r) (hm : m < nM r) (hO : OW σ τ r st) (hq : ql (lN (sm (whN r st m x) (nS r))) n σ τ θ) : SMl G 4 mX4_weightOfHead 0 0 [.ref 77, .ref f, .ref 6, .int (nI m), .int x] n σ τ θ ql := by
  have hS := nS_b hv
  refine ctX4_weightOfHead f 6 _ _ (sgX4_weightOfHead_0 f 6 _ _ (Nat.le_refl _) hf isM_now hW ?_)
  refine ps_up (N := nS r) (P := fun B => SW G 4 mX4_weightOfHead (aw_ql ql) 0 0 6 [some (.ref 77), some (.ref f), some (.ref 6), some (.int (nI m)), some (.int x), some (.long (lN (sm (whN r st m x) B))), none, some (.int (nI B))] [] (n, σ, τ, θ)) ?_ ?_ 0 (Nat.zero_le _)
  · exact sgX4_weightOfHead_6 f 6 _ _ _ _ (Nat.le_refl _) hf isM_now hW (ps_done hO.1 hq)
  · intro B hB ih
    refine sgX4_weightOfHead_6 f 6 _ _ _ _ (Nat.le_refl _) hf isM_now hW (ps_br hO.1 (by omega) (by omega) (fun h => absurd h (by omega)) (fun _ => ?_))
    refine k4_headWith hf hW hF hM hv hm ⟨hW, ?_⟩
    rw [ps_cl (by omega), hO.2.2.2 B hB, ← nI_succ, lN_add]
    simp only [sm] at ih
    refine ⟨fun h0 => ?_, fun h0 => ⟨ps_in (by omega) (by decide), ?_⟩⟩
    · rw [show whN r st m x B = 0 from if_neg h0, Nat.add_zero] at ih
      exact ih
    · rw [show whN r st m x B = WN r st B from if_pos h0] at ih
      exact ih
def llS (r st : Nat → Int32) : Nat → Int32 × Nat
  | 0 => (-2, 0)
  | B + 1 => if (llS r st B).2 < WN r st B then (nI B, WN r st B) else llS r st B
theorem llS_b (hv : VR r) : ∀ B, (llS r st B).2 < 2 ^ 63
  | 0 => Nat.two_pow_pos 63
  | B + 1 => by
    have h1 := WN_b (st := st) (B := B) hv
    unfold llS
    split
    · dsimp only; omega
    · exact llS_b hv B
theorem k4_heaviest (hW : aw_WT n θ) (hv : VR r) (hO : OW σ τ r st) (hq : q (llS r st (nS r)).1 n σ τ θ) : SMi G 1 mX4_heaviest 0 0 [.ref 77] n σ τ θ q := by
  have hS := nS_b hv
  refine ctX4_heaviest (sgX4_heaviest_0 (Nat.le_refl _) hW ?_)
  refine ps_up (N := nS r) (P := fun B => SW G 1 mX4_heaviest (aw_qi q) 0 0 8 [some (.ref 77), some (.int (llS r st B).1), some (.long (lN (llS r st B).2)), none, some (.int (nI B))] [] (n, σ, τ, θ)) ?_ ?_ 0 (Nat.zero_le _)
  · exact sgX4_heaviest_8 _ _ _ (Nat.le_refl _) hW (ps_done hO.1 hq)
  · intro B hB ih
    refine sgX4_heaviest_8 _ _ _ (Nat.le_refl _) hW (ps_br hO.1 (by omega) (by omega) (fun h => absurd h (by omega)) (fun _ => ⟨ps_in (by omega) (by decide), ?_⟩))
    have bW := WN_b (st := st) (B := B) hv
    rw [ps_cl (by omega), hO.2.2.2 B hB, (lg_e (by omega) (llS_b hv B)).2.1, ← nI_succ]
    simp only [llS] at ih
    refine ⟨fun h0 => ?_, fun h0 => ⟨ps_in (by omega) (by decide), ?_⟩⟩
    · rw [if_neg (by omega)] at ih
      exact ih
    · rw [if_pos (by omega)] at ih
      exact ih
/-- how many sets look as B does -/
def alN (r st : Nat → Int32) (m B C : Nat) : Nat := if 0 < WN r st C ∧ s_hB r st (st 12) (nI C) m = s_hB r st (st 12) (nI B) m then 1 else 0
theorem sm_al_le {m B : Nat} : ∀ N, sm (alN r st m B) N ≤ N
  | 0 => Nat.le_refl _
  | N + 1 => by
    have : sm (alN r st m B) N ≤ N := sm_al_le N
    show sm (alN r st m B) N + (if _ then _ else _) ≤ _
    split <;> omega
def lvN (r st : Nat → Int32) (m : Nat) : Nat → Nat
  | 0 => 0
  | B + 1 => if 0 < WN r st B then max (lvN r st m B) (sm (alN r st m B) (nS r)) else lvN r st m B
theorem lvN_b (hv : VR r) {m : Nat} : ∀ B, lvN r st m B ≤ 16
  | 0 => Nat.zero_le _
  | B + 1 => by
    have h1 : lvN r st m B ≤ 16 := lvN_b hv B
    have h2 := sm_al_le (r := r) (st := st) (m := m) (B := B) (nS r)
    have := (nS_b hv).2
    unfold lvN
    split <;> omega
theorem k4_leftAtMost {m : Nat} (hf : isF f) (hW : aw_WT n θ) (hF : FR σ f r) (hM : MR σ 6 st) (hv : VR r) (hm : m < nM r) (hO : OW σ τ r st) (hq : ∀ σ', SC σ σ' → OW σ' τ r st → q (nI (lvN r st m (nS r))) n σ' τ θ) : SMi G 4 mX4_leftAtMost 0 0 [.ref 77, .ref f, .ref 6, .int (nI m)] n σ τ θ q := by
  have hS := nS_b hv
  refine ctX4_leftAtMost f 6 _ (sgX4_leftAtMost_0 f 6 _ (Nat.le_refl _) hf isM_now hW ?_)
  refine ps_up (N := nS r) (P := fun B => ∀ σ1, SC σ σ1 → OW σ1 τ r st → (∀ C, C < B → σ1 79 C = s_hB r st (st 12) (nI C) m) → SW G 4 mX4_leftAtMost (aw_qi q) 0 0 3 [some (.ref 77), some (.ref f), some (.ref 6), some (.int (nI m)), some (.int (nI B)), none, none, none] [] (n, σ1, τ, θ)) ?_ ?_ 0 (Nat.zero_le _) σ (SC.refl σ) hO (fun C hC => absurd hC (by omega))
  · intro σ1 s1 hO1 hH
    refine sgX4_leftAtMost_3 f 6 _ _ (Nat.le_refl _) hf isM_now hW (ps_done hO1.1 ?_)
    refine ps_up (N := nS r) (P := fun B => SW G 4 mX4_leftAtMost (aw_qi q) 0 0 39 [some (.ref 77), none, none, none, some (.int (nI (lvN r st m B))), some (.int (nI B)), none, none] [] (n, σ1, τ, θ)) ?_ ?_ 0 (Nat.zero_le _)
    · exact sgX4_leftAtMost_39 f 6 _ _ (Nat.le_refl _) hf isM_now hW (ps_done hO1.1 (hq _ s1 hO1))
    · intro B hB ih
      refine sgX4_leftAtMost_39 f 6 _ _ (Nat.le_refl _) hf isM_now hW (ps_br hO1.1 (by omega) (by omega) (fun h => absurd h (by omega)) (fun _ => ?_))
      have bW := WN_b (st := st) (B := B) hv
      have bW2 : WN r st B < 2 ^ 63 := by omega
      have bl := lvN_b (st := st) (m := m) hv B
      have z0 := ps_up (N := nS r) (P := fun C => SW G 4 mX4_leftAtMost (aw_qi q) 0 0 54 [some (.ref 77), none, none, none, some (.int (nI (lvN r st m B))), some (.int (nI B)), some (.int (nI (if 0 < WN r st B then sm (alN r st m B) C else 0))), some (.int (nI C))] [] (n, σ1, τ, θ)) ?_ ?_ 0 (Nat.zero_le _)
      · rw [show (if 0 < WN r st B then sm (alN r st m B) 0 else 0) = 0 from ite_self _] at z0
        exact z0
      · refine sgX4_leftAtMost_54 f 6 _ _ _ _ (Nat.le_refl _) hf isM_now hW (ps_done hO1.1 ?_)
        have ba := sm_al_le (r := r) (st := st) (m := m) (B := B) (nS r)
        rw [← nI_succ]
        simp only [lvN] at ih
        by_cases h0 : 0 < WN r st B
        · rw [if_pos h0] at ih ⊢
          by_cases hl : lvN r st m B < sm (alN r st m B) (nS r)
          · rw [if_pos ((nI_ltI (by omega) (by omega)).mpr hl)]
            rw [Nat.max_eq_right (by omega)] at ih
            exact ih
          · rw [if_neg (fun e => hl ((nI_ltI (by omega) (by omega)).mp e))]
            rw [Nat.max_eq_left (by omega)] at ih
            exact ih
        · rw [if_neg h0] at ih ⊢
          rw [if_neg (fun e => absurd ((nI_ltI (b := 0) (by omega) (by omega)).mp e) (by omega))]
          exact ih
      · intro C hC ihC
        refine sgX4_leftAtMost_54 f 6 _ _ _ _ (Nat.le_refl _) hf isM_now hW (ps_br hO1.1 (by omega) (by omega) (fun h => absurd h (by omega)) (fun _ => ⟨ps_in (by omega) (by decide), ?_⟩))
        have bC := WN_b (st := st) (B := C) hv
        have bC2 : WN r st C < 2 ^ 63 := by omega
        rw [ps_cl (by omega), ps_cl (by omega), hO1.2.2.2 B hB, hO1.2.2.2 C hC, (lg_0 bW2).2.1, (lg_0 bC2).2.1, hH B hB, hH C hC, ← nI_succ C]
        simp only [sm] at ihC
        refine ⟨fun h0 => ?_, fun h0 => ⟨ps_in (by omega) (by decide), fun h1 => ?_, fun h1 => ⟨ps_in (by omega) (by decide), ps_in (by omega) (by decide), fun h2 => ?_, fun h2 => ?_⟩⟩⟩
        · rw [if_neg (by omega)] at ihC ⊢
          exact ihC
        · rw [if_pos (by omega), show alN r st m B C = 0 from if_neg (fun e => absurd e.1 (by omega)), Nat.add_zero] at ihC
          rw [if_pos (by omega)]
          exact ihC
        · rw [if_pos (by omega), show alN r st m B C = 0 from if_neg (fun e => h2 e.2.symm), Nat.add_zero] at ihC
          rw [if_pos (by omega)]
          exact ihC
        · rw [if_pos (by omega), show alN r st m B C = 1 from if_pos ⟨by omega, h2.symm⟩] at ihC
          rw [if_pos (by omega), nI_1]
          exact ihC
  · intro B hB ih σ1 s1 hO1 hH
    refine sgX4_leftAtMost_3 f 6 _ _ (Nat.le_refl _) hf isM_now hW (ps_br hO1.1 (by omega) (by omega) (fun h => absurd h (by omega)) (fun _ => ?_))
    refine k4_headWith hf hW (s1.fr hf hF) (s1.mr hM) hv hm ⟨hW, ps_in (by omega) (by decide), ?_⟩
    rw [ps_cl (by omega), ← nI_succ]
    refine ih _ (s1.up (by omega) (by omega)) ?_ (fun C hC => ?_)
    · unfold OW at hO1 ⊢
      rw [aw_uo (by decide)]
      exact hO1
    · by_cases h : C = B
      · rw [h, aw_u_eq]
      · rw [aw_u_nk h]; exact hH C (by omega)
def lkS (r st : Nat → Int32) : Nat → Nat
  | 0 => 0
  | m + 1 => if lvN r st (m + 1) (nS r) < lvN r st (lkS r st m) (nS r) then m + 1 else lkS r st m
theorem lkS_le : ∀ m, lkS r st m ≤ m
  | 0 => Nat.le_refl _
  | m + 1 => by
    have : lkS r st m ≤ m := lkS_le m
    unfold lkS
    split <;> omega
def lookS (r st : Nat → Int32) : Int32 := if FN r st = 0 then -2 else nI (lkS r st (nM r - 1))
theorem k9_manToLookAt (hW : aw_WT n θ) (hF : FR σ (θ 1 7) r) (hM : MR σ 6 st) (hv : VR r) (h0 : 0 < nM r) (hO : OW σ τ r st) (hq : ∀ σ', SC σ σ' → OW σ' τ r st → q (lookS r st) n σ' τ θ) : SMi G 5 mX9_manToLookAt 0 0 [.ref 1] n σ τ θ q := by
  have hS := nS_b hv
  have h5 := hv.m5
  have bF := sm_fit_le (r := r) (st := st) (nS r)
  have bF : FN r st ≤ nS r := bF
  unfold lookS at hq
  refine ctX9_manToLookAt (sgX9_manToLookAt_0 (Nat.le_refl _) hW ?_)
  rw [hO.2.1, ps_nI0 (by omega)]
  refine ⟨fun h => ?_, fun h => ?_⟩
  · rw [if_neg h] at hq
    refine k4_leftAtMost (m := 0) hW.f hW hF hM hv h0 hO (fun σ1 s1 hO1 => ⟨hW, ?_⟩)
    refine ps_up (N := nM r - 1) (P := fun j => ∀ σ1, SC σ σ1 → OW σ1 τ r st → SW G 5 mX9_manToLookAt (aw_qi q) 0 0 34 [some (.ref 1), some (.int (nI (lkS r st j))), some (.int (nI (lvN r st (lkS r st j) (nS r)))), some (.int (nI (j + 1))), none] [] (n, σ1, τ, θ)) ?_ ?_ 0 (Nat.zero_le _) σ1 s1 hO1
    · intro σ1 s1 hO1
      have e : σ1 (θ 1 7) 13 = nI (nM r) := (s1.fr hW.f hF).1.2.2.2.2.1.trans hv.m
      exact sgX9_manToLookAt_34 _ _ _ (Nat.le_refl _) hW (ps_br e (by omega) (by omega) (fun _ => hq _ s1 hO1) (fun h => absurd h (by omega)))
    · intro j hj ih σ1 s1 hO1
      have e : σ1 (θ 1 7) 13 = nI (nM r) := (s1.fr hW.f hF).1.2.2.2.2.1.trans hv.m
      refine sgX9_manToLookAt_34 _ _ _ (Nat.le_refl _) hW (ps_br e (by omega) (by omega) (fun h => absurd h (by omega)) (fun _ => ?_))
      refine k4_leftAtMost hW.f hW (s1.fr hW.f hF) (s1.mr hM) hv (by omega) hO1 (fun σ2 s2 hO2 => ⟨hW, ?_⟩)
      have s3 : SC σ σ2 := fun o ho => (s2 o ho).trans (s1 o ho)
      have b1 := lvN_b (st := st) (m := j + 1) hv (nS r)
      have b2 := lvN_b (st := st) (m := lkS r st j) hv (nS r)
      rw [nI_leI (by omega) (by omega), ← nI_succ (j + 1)]
      simp only [lkS] at ih
      refine ⟨fun h2 => ?_, fun h2 => ?_⟩
      · rw [if_neg (by omega)] at ih
        exact ih _ s3 hO2
      · rw [if_pos (by omega)] at ih
        exact ih _ s3 hO2
  · rw [if_pos h] at hq
    exact hq _ (SC.refl σ) hO
end OddC
