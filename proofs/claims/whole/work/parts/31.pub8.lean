/-! ===== reach, widthFor ===== -/
def pcN (a : Nat) : Nat := a % 2 + a / 2 % 2 + a / 4 % 2 + a / 8 % 2 + a / 16 % 2
theorem ps_or_all : ∀ a : Fin 32, ∀ b : Fin 32, nI a.val ||| nI b.val = nI (a.val ||| b.val) := by decide +kernel
theorem ps_or_nat : ∀ N : Fin 6, ∀ a : Fin 32, ∀ b : Fin 32, a.val < 2 ^ N.val → b.val < 2 ^ N.val → (a.val ||| b.val) < 2 ^ N.val ∧ pcN a.val ≤ pcN (a.val ||| b.val) ∧ (pcN (a.val ||| b.val) = pcN a.val → a.val ||| b.val = a.val) ∧ pcN a.val ≤ N.val ∧ (pcN a.val = 0 → a.val = 0) := by decide +kernel
theorem ps_sh_all : ∀ b : Fin 5, (1 : Int32) <<< (nI b.val &&& 31) = nI (2 ^ b.val) := by decide +kernel
/-- x is a set of at most N men -/
def sN (N : Nat) (x : Int32) : Prop := ∃ a, a < 2 ^ N ∧ x = nI a
def pcI (x : Int32) : Nat := pcN x.toNatClampNeg
theorem sN_or {N : Nat} (hN : N ≤ 5) {x y : Int32} (hx : sN N x) (hy : sN N y) : sN N (x ||| y) ∧ pcI x ≤ pcI (x ||| y) ∧ (pcI (x ||| y) = pcI x → x ||| y = x) ∧ pcI x ≤ N ∧ (pcI x = 0 → x = 0) := by
  obtain ⟨a, ha, rfl⟩ := hx
  obtain ⟨b, hb, rfl⟩ := hy
  have h5 : 2 ^ N ≤ 2 ^ 5 := Nat.pow_le_pow_right (by decide) hN
  have h5 : 2 ^ N ≤ 32 := h5
  have e : nI a ||| nI b = nI (a ||| b) := ps_or_all ⟨a, by omega⟩ ⟨b, by omega⟩
  have h := ps_or_nat ⟨N, by omega⟩ ⟨a, by omega⟩ ⟨b, by omega⟩ ha hb
  have h : (a ||| b) < 2 ^ N ∧ pcN a ≤ pcN (a ||| b) ∧ (pcN (a ||| b) = pcN a → a ||| b = a) ∧ pcN a ≤ N ∧ (pcN a = 0 → a = 0) := h
  rw [e]
  unfold pcI
  rw [ps_cl (by omega), ps_cl (by omega)]
  exact ⟨⟨_, h.1, rfl⟩, h.2.1, fun e => by rw [h.2.2.1 e], h.2.2.2.1, fun e => by rw [h.2.2.2.2 e]; rfl⟩
theorem s_ob_s {r L : Nat → Int32} {s m : Int32} (hv : VR r) : ∀ k, k ≤ nD r → sN (nM r) (s_ob r L s m k)
  | 0, _ => ⟨0, Nat.two_pow_pos _, rfl⟩
  | k + 1, hk => by
    have h := s_ob_s (L := L) (s := s) (m := m) hv k (by omega)
    have h5 := hv.m5
    obtain ⟨⟨a, b, ha, hb, -, -, eb⟩, -⟩ := hv.debt (k := k) (by omega)
    show sN _ (s_ob r L s m k ||| _)
    refine (sN_or h5 h ?_).1
    split
    · rw [eb, show (1 : Int32) <<< (nI b &&& 31) = nI (2 ^ b) from ps_sh_all ⟨b, by omega⟩]
      exact ⟨_, Nat.pow_lt_pow_right (by decide) hb, rfl⟩
    · exact ⟨0, Nat.two_pow_pos _, rfl⟩
/-- a round: whoever is owed by one of the set's first j men joins -/
def s_rr (O : Nat → Int32) : Nat → Int32 → Int32
  | 0, x => x
  | j + 1, x => s_rr O j x ||| if s_bit (s_rr O j x) j = true then O j else 0
def s_it (O : Nat → Int32) (N : Nat) : Nat → Int32 → Int32
  | 0, x => x
  | i + 1, x => s_rr O N (s_it O N i x)
theorem s_rr_p {O : Nat → Int32} {N : Nat} (hN : N ≤ 5) (hO : ∀ j, sN N (O j)) {x : Int32} (hx : sN N x) : ∀ j, sN N (s_rr O j x) ∧ pcI x ≤ pcI (s_rr O j x) ∧ (pcI (s_rr O j x) = pcI x → s_rr O j x = x)
  | 0 => ⟨hx, Nat.le_refl _, fun _ => rfl⟩
  | j + 1 => by
    obtain ⟨h1, h2, h3⟩ := s_rr_p hN hO hx j
    have h4 : sN N (if s_bit (s_rr O j x) j = true then O j else 0) := by
      split
      · exact hO j
      · exact ⟨0, Nat.two_pow_pos _, rfl⟩
    obtain ⟨g1, g2, g3, -⟩ := sN_or hN h1 h4
    refine ⟨g1, Nat.le_trans h2 g2, fun e => ?_⟩
    have e : pcI (s_rr O j x ||| if s_bit (s_rr O j x) j = true then O j else 0) = pcI x := e
    show s_rr O j x ||| _ = x
    rw [g3 (by omega), h3 (by omega)]
theorem s_rr_0 {O : Nat → Int32} : ∀ j, j ≤ 5 → s_rr O j 0 = 0
  | 0, _ => rfl
  | j + 1, h => by
    show s_rr O j 0 ||| _ = 0
    rw [s_rr_0 j (by omega), ps_bit0 (by omega), if_neg (by decide)]
    rfl
theorem s_it_5 {O : Nat → Int32} {N : Nat} (hN : N ≤ 5) (h0 : 0 < N) (hO : ∀ j, sN N (O j)) {x : Int32} (hx : sN N x) : s_it O N N x = s_it O N 5 x := by
  have hs : ∀ i, sN N (s_it O N i x) := by
    intro i
    induction i with
    | zero => exact hx
    | succ i ih => exact (s_rr_p hN hO ih N).1
  -- once it stands, it stands
  have st : ∀ i, s_it O N (i + 1) x = s_it O N i x → ∀ k, s_it O N (i + k) x = s_it O N i x := by
    intro i h k
    induction k with
    | zero => rfl
    | succ k ih =>
      show s_rr O N (s_it O N (i + k) x) = _
      rw [ih]
      exact h
  have gr : ∀ i, i ≤ N → (∃ j, j < i ∧ s_it O N (j + 1) x = s_it O N j x) ∨ pcI x + i ≤ pcI (s_it O N i x) := by
    intro i
    induction i with
    | zero => intro _; exact Or.inr (Nat.le_refl _)
    | succ i ih =>
      intro hi
      rcases ih (by omega) with ⟨j, hj, e⟩ | h
      · exact Or.inl ⟨j, by omega, e⟩
      · obtain ⟨-, h2, h3⟩ := s_rr_p hN hO (hs i) N
        by_cases e : pcI (s_rr O N (s_it O N i x)) = pcI (s_it O N i x)
        · exact Or.inl ⟨i, by omega, h3 e⟩
        · refine Or.inr ?_
          show _ ≤ pcI (s_rr O N (s_it O N i x))
          omega
  rcases gr N (Nat.le_refl _) with ⟨j, hj, e⟩ | h
  · have e1 := st j e (N - j)
    have e2 := st j e (5 - j)
    rw [show j + (N - j) = N by omega] at e1
    rw [show j + (5 - j) = 5 by omega] at e2
    rw [e1, e2]
  · have h4 := (sN_or hN (hs N) (hs N)).2.2.2.1
    have h5 := (sN_or hN hx hx).2.2.2.2 (by omega)
    have z : ∀ i, s_it O N i x = 0 := by
      intro i
      induction i with
      | zero => exact h5
      | succ i ih =>
        show s_rr O N (s_it O N i x) = 0
        rw [ih, s_rr_0 N hN]
    rw [z, z]
section Pub8
variable {G : GG} {n : Nat} {σ : SG} {τ : TU} {θ : TH} {f t : Nat} {r st row : Nat → Int32} {q : Int32 → Nat → SG → TU → TH → Prop} {qv : Nat → SG → TU → TH → Prop} {ql : Int64 → Nat → SG → TU → TH → Prop}
def s_oR (r st : Nat → Int32) (j : Nat) : Int32 := s_ob r st (st 12) (nI j) (nD r)
def sp_reach (r st : Nat → Int32) (x : Int32) : Int32 × Int32 := if s_in x (nM r) = true then (s_it (s_oR r st) (nM r) 5 (s_oR r st x.toNatClampNeg), 0) else (-1, 1)
theorem p9_reach {x : Int32} (hW : aw_WT n θ) (hF : FR σ (θ 1 7) r) (hM : MR σ 6 st) (hv : VR r) (hq : ∀ σ' τ', CS σ σ' (sp_reach r st x).2 → q (sp_reach r st x).1 n σ' τ' θ) : SMi G 3 mX9_reach 0 0 [.ref 1, .int x] n σ τ θ q := by
  unfold sp_reach at hq
  have h5 := hv.m5
  have e : σ (θ 1 7) 13 = nI (nM r) := hF.1.2.2.2.2.1.trans hv.m
  refine ctX9_reach _ (sgX9_reach_0 _ (Nat.le_refl _) hW ?_)
  refine k9_isMan hW hF hv ⟨hW, And.symm (ps_b (fun h => ?_) (fun h => ?_))⟩
  · rw [if_neg h] at hq
    exact k9_refuse hW ⟨hW, hq _ _ (CS.tr _ _)⟩
  · rw [if_pos h] at hq
    obtain ⟨m, hm, rfl⟩ := (s_in_iff (by omega)).mp h
    rw [ps_cl (by omega), ← s_it_5 (O := s_oR r st) (x := s_oR r st m) h5 (by omega) (fun j => s_ob_s hv _ (Nat.le_refl _)) (s_ob_s hv _ (Nat.le_refl _))] at hq
    refine k1_owedBits hW.f isM_now hW hF hM hv ⟨hW, ?_⟩
    refine ps_up (N := nM r) (P := fun i => SW G 3 mX9_reach (aw_qi q) 0 0 29 [some (.ref 1), none, some (.int (s_it (s_oR r st) (nM r) i (s_oR r st m))), some (.int (nI i)), none] [] (n, σ, τ, θ)) ?_ ?_ 0 (Nat.zero_le _)
    · exact sgX9_reach_29 _ _ (Nat.le_refl _) hW (ps_done e (k9_grant hW ⟨hW, hq _ _ (CS.tr _ _)⟩))
    · intro i hi ih
      refine sgX9_reach_29 _ _ (Nat.le_refl _) hW (ps_br e (by omega) (by omega) (fun h => absurd hi (by omega)) (fun _ => ?_))
      refine ps_up (N := nM r) (P := fun j => SW G 3 mX9_reach (aw_qi q) 0 0 43 [some (.ref 1), none, some (.int (s_rr (s_oR r st) j (s_it (s_oR r st) (nM r) i (s_oR r st m)))), some (.int (nI i)), some (.int (nI j))] [] (n, σ, τ, θ)) ?_ ?_ 0 (Nat.zero_le _)
      · exact sgX9_reach_43 _ _ _ (Nat.le_refl _) hW (ps_done e (by rw [← nI_succ]; exact ih))
      · intro j hj ih2
        refine sgX9_reach_43 _ _ _ (Nat.le_refl _) hW (ps_br e (by omega) (by omega) (fun h => absurd hj (by omega)) (fun _ => ?_))
        rw [← nI_succ]
        simp only [s_rr] at ih2
        refine ⟨fun h2 => ?_, fun h2 => ?_⟩
        · rw [if_neg (fun e2 => (ps_bitn.mpr e2) h2), Int32.or_zero] at ih2
          exact ih2
        · rw [if_pos (ps_bitn.mp h2)] at ih2
          exact k1_owedBits hW.f isM_now hW hF hM hv ⟨hW, ih2⟩
theorem p10_reach {x : Int32} (hW : aw_WT n θ) (hv : VR (σ 123)) (hH : HR σ (σ 123)) (hq : ∀ σ', RS σ σ' (sp_reach (σ 123) (σ 125) x).2 → q (sp_reach (σ 123) (σ 125) x).1 n σ' τ θ) : SMi G 4 mX10_reach 0 0 [.ref 120, .int x] n σ τ θ q := by
  unfold sp_reach at hq
  have h5 := hv.m5
  refine ctX10_reach _ (sgX10_reach_0 _ (Nat.le_refl _) hW ?_)
  refine k10_good' hW (fun σ1 h1 => ⟨hW, k10_isMan hW (h1.vr hv) (h1.hr hH) ⟨hW, ?_⟩⟩)
  rw [h1.e3]
  have e : σ1 123 4 = nI (nM (σ 123)) := by rw [h1.e3]; exact hv.m
  refine And.symm (ps_b (fun h => ?_) (fun h => ?_))
  · rw [if_neg h] at hq
    exact k10_no hW ⟨hW, hq _ h1.no⟩
  · rw [if_pos h] at hq
    obtain ⟨m, hm, rfl⟩ := (s_in_iff (by omega)).mp h
    rw [ps_cl (by omega)] at hq
    have eO : ∀ j, s_ob (σ1 123) (σ1 125) (σ1 125 12) (nI j) (nD (σ1 123)) = s_oR (σ 123) (σ 125) j := by intro j; rw [h1.e3, h1.e5]; rfl
    refine k10_creditors hW (h1.vr hv) ⟨hW, ?_⟩
    rw [eO]
    refine ps_up (N := 5) (P := fun i => SW G 4 mX10_reach (aw_qi q) 0 0 26 [some (.ref 120), none, some (.int (s_it (s_oR (σ 123) (σ 125)) (nM (σ 123)) i (s_oR (σ 123) (σ 125) m))), some (.int (nI i)), none] [] (n, σ1, τ, θ)) ?_ ?_ 0 (Nat.zero_le _)
    · exact sgX10_reach_26 _ _ (Nat.le_refl _) hW (ps_br (c := 5) (N := 5) rfl (by omega) (by omega) (fun _ => hq _ h1) (fun h => absurd h (by omega)))
    · intro i hi ih
      refine sgX10_reach_26 _ _ (Nat.le_refl _) hW (ps_br (c := 5) (N := 5) rfl (by omega) (by omega) (fun h => absurd h (by omega)) (fun _ => ?_))
      refine ps_up (N := nM (σ 123)) (P := fun j => SW G 4 mX10_reach (aw_qi q) 0 0 34 [some (.ref 120), none, some (.int (s_rr (s_oR (σ 123) (σ 125)) j (s_it (s_oR (σ 123) (σ 125)) (nM (σ 123)) i (s_oR (σ 123) (σ 125) m)))), some (.int (nI i)), some (.int (nI j))] [] (n, σ1, τ, θ)) ?_ ?_ 0 (Nat.zero_le _)
      · exact sgX10_reach_34 _ _ _ (Nat.le_refl _) hW (ps_done e (by rw [← nI_succ]; exact ih))
      · intro j hj ih2
        refine sgX10_reach_34 _ _ _ (Nat.le_refl _) hW (ps_br e (by omega) (by omega) (fun h => absurd hj (by omega)) (fun _ => ?_))
        rw [← nI_succ]
        simp only [s_rr] at ih2
        refine k10_hasBit hW ⟨hW, ps_b (fun h2 => ?_) (fun h2 => ?_)⟩
        · rw [if_neg h2] at ih2
          exact ih2
        · rw [if_pos h2] at ih2
          refine k10_creditors hW (h1.vr hv) ⟨hW, ?_⟩
          rw [eO]
          exact ih2
/-! the least width for so many men -/
def hN (r st : Nat → Int32) (m : Nat) : Nat := (s_hd r st (st 12) m).toNatClampNeg
theorem hN_e (hv : VR r) (hs : VS st) {m : Nat} : s_hd r st (st 12) m = nI (hN r st m) ∧ hN r st m ≤ 1386 := by
  obtain ⟨z, -, hz, ez⟩ := s_hd_b (s := st 12) (m := m) hv hs.1
  unfold hN
  rw [ez, ps_cl (by omega)]
  exact ⟨rfl, hz⟩
def mwN (f : Nat → Nat) (w : Nat) : Nat → Nat
  | 0 => 0
  | k + 1 => mwN f w k + if f k ≤ w then 1 else 0
theorem mwN_le (f : Nat → Nat) (w : Nat) : ∀ k, mwN f w k ≤ k
  | 0 => Nat.le_refl _
  | k + 1 => by
    have := mwN_le f w k
    show mwN f w k + _ ≤ _
    split <;> omega
theorem mwN_all (f : Nat → Nat) (w : Nat) (hf : ∀ m, f m ≤ w) : ∀ k, mwN f w k = k
  | 0 => rfl
  | k + 1 => by
    show mwN f w k + _ = _
    rw [mwN_all f w hf k, if_pos (hf k)]
theorem mwN_ne (f : Nat → Nat) (w : Nat) : ∀ k, (∀ m, m < k → f m ≠ w + 1) → mwN f (w + 1) k = mwN f w k
  | 0, _ => rfl
  | k + 1, h => by
    show mwN f (w + 1) k + _ = mwN f w k + _
    rw [mwN_ne f w k (fun m hm => h m (by omega))]
    have := h k (by omega)
    by_cases h2 : f k ≤ w
    · rw [if_pos h2, if_pos (by omega)]
    · rw [if_neg h2, if_neg (by omega)]
theorem s_mw_e (hv : VR r) (hs : VS st) {w : Nat} (hw : w < 100000) : ∀ k, s_mw r st (st 12) (nI w) k = nI (mwN (hN r st) w k)
  | 0 => rfl
  | k + 1 => by
    obtain ⟨e, h⟩ := hN_e (m := k) hv hs
    show s_mw r st (st 12) (nI w) k + _ = nI (mwN (hN r st) w k + _)
    rw [s_mw_e hv hs hw k, e]
    by_cases h2 : hN r st k ≤ w
    · rw [if_pos h2, if_pos ((nI_leI (by omega) (by omega)).mpr h2)]
      exact nI_add _ 1
    · rw [if_neg h2, if_neg (fun e2 => h2 ((nI_leI (by omega) (by omega)).mp e2))]
      exact nI_add _ 0
def s_fs (p : Nat → Bool) : Nat → Nat → Nat
  | 0, i => i
  | d + 1, i => if p i = true then i else s_fs p d (i + 1)
theorem s_fs_p {p : Nat → Bool} : ∀ d i, p (i + d) = true → i ≤ s_fs p d i ∧ s_fs p d i ≤ i + d ∧ p (s_fs p d i) = true ∧ ∀ v, i ≤ v → v < s_fs p d i → ¬ p v = true
  | 0, i, h => ⟨Nat.le_refl _, Nat.le_refl _, h, fun v h1 h2 => absurd h2 (by simp only [s_fs]; omega)⟩
  | d + 1, i, h => by
    unfold s_fs
    by_cases h2 : p i = true
    · rw [if_pos h2]
      exact ⟨Nat.le_refl _, by omega, h2, fun v h1 h3 => absurd h3 (by omega)⟩
    · rw [if_neg h2]
      obtain ⟨a, b, c, e⟩ := s_fs_p d (i + 1) (by rw [show i + 1 + d = i + (d + 1) by omega]; exact h)
      refine ⟨by omega, by omega, c, fun v h1 h3 => ?_⟩
      rcases Nat.eq_or_lt_of_le h1 with h4 | h4
      · subst h4; exact h2
      · exact e v h4 h3
def s_wf (r st : Nat → Int32) (p : Nat) : Nat := s_fs (fun w => decide (p ≤ mwN (hN r st) w (nM r))) 1386 0
theorem s_wf_p (hv : VR r) (hs : VS st) {p : Nat} (hp : p ≤ nM r) : s_wf r st p ≤ 1386 ∧ p ≤ mwN (hN r st) (s_wf r st p) (nM r) ∧ ∀ v, v < s_wf r st p → ¬ p ≤ mwN (hN r st) v (nM r) := by
  have h := s_fs_p (p := fun w => decide (p ≤ mwN (hN r st) w (nM r))) 1386 0 (decide_eq_true (by rw [mwN_all _ _ (fun m => (Nat.le_trans (hN_e hv hs).2 (by omega))) _]; exact hp))
  obtain ⟨-, a, b, c⟩ := h
  exact ⟨by unfold s_wf; omega, of_decide_eq_true b, fun v hv2 e => c v (Nat.zero_le _) hv2 (decide_eq_true e)⟩
def sp_width (r st : Nat → Int32) (x : Int32) : Int32 × Int32 := if nM r = 0 then (-1, 1) else if ¬ x < 0 ∧ x ≤ r 4 then (nI (s_wf r st x.toNatClampNeg), 0) else (-1, 2)
theorem ps_inx {x : Int32} {N : Nat} (hN : N < 1000) (h : ¬ x < 0) (h2 : x ≤ nI N) : ∃ p, p ≤ N ∧ x = nI p := by
  rcases pk_ix x (n := N + 1) (by omega) with h3 | h3 | ⟨j, hj, e⟩
  · exact absurd h3 h
  · exact absurd h2 (Int32.not_le.mpr (Int32.lt_of_lt_of_le (nI_lt (a := N) (b := N + 1) (by omega) (by omega)) h3))
  · exact ⟨j, by omega, e⟩
theorem k9_leastWidth {p : Nat} (hW : aw_WT n θ) (hF : FR σ (θ 1 7) r) (hM : MR σ 6 st) (hv : VR r) (hs : VS st) (hp : p ≤ nM r) (hq : q (nI (s_wf r st p)) n σ τ θ) : SMi G 5 mX9_leastWidth 0 0 [.ref 1, .int (nI p)] n σ τ θ q := by
  have h5 := hv.m5
  have e : σ (θ 1 7) 13 = nI (nM r) := hF.1.2.2.2.2.1.trans hv.m
  obtain ⟨b1, b2, b3⟩ := s_wf_p hv hs hp
  refine ctX9_leastWidth _ (sgX9_leastWidth_0 _ (Nat.le_refl _) hW ?_)
  refine k1_menWithin hW.f isM_now hW hF hM hv ⟨hW, ?_⟩
  rw [show (0 : Int32) = nI 0 from rfl, s_mw_e hv hs (by omega)]
  have l0 := mwN_le (hN r st) 0 (nM r)
  rw [nI_ltI (by omega) (by omega)]
  refine ⟨fun h0 => ?_, fun h0 => ?_⟩
  · have key := ps_up (N := nM r) (P := fun j => ∀ x2, ((x2 = -1 ∧ ∀ m, m < j → ¬ p ≤ mwN (hN r st) (hN r st m) (nM r)) ∨ ∃ m, m < j ∧ x2 = nI (hN r st m) ∧ p ≤ mwN (hN r st) (hN r st m) (nM r) ∧ ∀ m', m' < j → p ≤ mwN (hN r st) (hN r st m') (nM r) → hN r st m ≤ hN r st m') → SW G 5 mX9_leastWidth (aw_qi q) 0 0 22 [some (.ref 1), some (.int (nI p)), some (.int x2), some (.int (nI j)), none] [] (n, σ, τ, θ)) ?_ ?_ 0 (Nat.zero_le _)
    · exact key (-1) (Or.inl ⟨rfl, fun m hm => absurd hm (by omega)⟩)
    · intro x2 h2
      refine sgX9_leastWidth_22 _ _ _ (Nat.le_refl _) hW (ps_done e ?_)
      have hw : ∃ m, m < nM r ∧ hN r st m = s_wf r st p := by
        obtain ⟨v, hv2⟩ : ∃ v, s_wf r st p = v + 1 := by
          rcases Nat.eq_zero_or_pos (s_wf r st p) with h | h
          · rw [h] at b2; omega
          · exact ⟨s_wf r st p - 1, by omega⟩
        rw [hv2] at b2 b3 ⊢
        have b4 := b3 v (by omega)
        apply Classical.byContradiction
        intro hc
        refine b4 ?_
        rw [← mwN_ne _ v _ (fun m hm e2 => hc ⟨m, hm, e2⟩)]
        exact b2
      obtain ⟨m, hm, em⟩ := hw
      rcases h2 with ⟨-, h2⟩ | ⟨m', hm', rfl, h2, h3⟩
      · exact absurd (by rw [em]; exact b2) (h2 m hm)
      · have h4 := h3 m hm (by rw [em]; exact b2)
        have h6 : ¬ hN r st m' < s_wf r st p := fun e2 => b3 _ e2 h2
        rw [show hN r st m' = s_wf r st p by omega]
        exact hq
    · intro j hj ih x2 h2
      refine sgX9_leastWidth_22 _ _ _ (Nat.le_refl _) hW (ps_br e (by omega) (by omega) (fun h => absurd hj (by omega)) (fun _ => ?_))
      rw [← nI_succ]
      obtain ⟨ej, bj⟩ := hN_e (m := j) hv hs
      refine k9_headNow hW hF hM hv hj ⟨hW, k1_menWithin hW.f isM_now hW hF hM hv ⟨hW, ?_⟩⟩
      rw [ej, s_mw_e hv hs (by omega)]
      have lj := mwN_le (hN r st) (hN r st j) (nM r)
      rw [nI_ltI (by omega) (by omega)]
      refine ⟨fun h3 => ih _ ?_, fun h3 => ⟨fun h4 => ih _ ?_, fun h4 => ⟨fun h6 => ih _ ?_, fun h6 => ih _ ?_⟩⟩⟩
      · rcases h2 with ⟨h2, h7⟩ | ⟨m', hm', h2, h7, h8⟩
        · refine Or.inl ⟨h2, fun m hm => ?_⟩
          rcases Nat.eq_or_lt_of_le (Nat.lt_succ_iff.mp hm) with rfl | h9
          · omega
          · exact h7 m h9
        · refine Or.inr ⟨m', by omega, h2, h7, fun m hm h10 => ?_⟩
          rcases Nat.eq_or_lt_of_le (Nat.lt_succ_iff.mp hm) with rfl | h9
          · omega
          · exact h8 m h9 h10
      · rcases h2 with ⟨h2, h7⟩ | ⟨m', hm', h2, h7, h8⟩
        · refine Or.inr ⟨j, by omega, rfl, by omega, fun m hm h10 => ?_⟩
          rcases Nat.eq_or_lt_of_le (Nat.lt_succ_iff.mp hm) with rfl | h9
          · omega
          · exact absurd h10 (h7 m h9)
        · rw [h4] at h2
          have := (hN_e (m := m') hv hs).2
          exact absurd h2.symm (by intro e2; have h1 := nI_pos (n := hN r st m') (by omega); rw [e2] at h1; exact h1 (by decide))
      · rcases h2 with ⟨h2, h7⟩ | ⟨m', hm', h2, h7, h8⟩
        · exact absurd h2 h4
        · have := (hN_e (m := m') hv hs).2
          rw [h2, nI_leI (by omega) (by omega)] at h6
          refine Or.inr ⟨m', by omega, h2, h7, fun m hm h10 => ?_⟩
          rcases Nat.eq_or_lt_of_le (Nat.lt_succ_iff.mp hm) with rfl | h9
          · omega
          · exact h8 m h9 h10
      · rcases h2 with ⟨h2, h7⟩ | ⟨m', hm', h2, h7, h8⟩
        · exact absurd h2 h4
        · have := (hN_e (m := m') hv hs).2
          rw [h2, nI_leI (by omega) (by omega)] at h6
          refine Or.inr ⟨j, by omega, rfl, by omega, fun m hm h10 => ?_⟩
          rcases Nat.eq_or_lt_of_le (Nat.lt_succ_iff.mp hm) with rfl | h9
          · omega
          · have := h8 m h9 h10
            omega
  · have : s_wf r st p = 0 := by
      rcases Nat.eq_zero_or_pos (s_wf r st p) with h | h
      · exact h
      · exact absurd (by omega) (b3 0 h)
    rw [this] at hq
    exact hq
theorem p9_width {x : Int32} (hW : aw_WT n θ) (hF : FR σ (θ 1 7) r) (hM : MR σ 6 st) (hv : VR r) (hs : VS st) (hq : ∀ σ' τ', CS σ σ' (sp_width r st x).2 → q (sp_width r st x).1 n σ' τ' θ) : SMi G 6 mX9_widthFor 0 0 [.ref 1, .int x] n σ τ θ q := by
  unfold sp_width at hq
  have h5 := hv.m5
  have e : σ (θ 1 7) 13 = r 4 := hF.1.2.2.2.2.1
  refine ctX9_widthFor _ (sgX9_widthFor_0 _ (Nat.le_refl _) hW ?_)
  refine k9_noDuchy hW hF hv ⟨hW, ps_b (fun h => ?_) (fun h => ?_)⟩
  · rw [if_neg h] at hq
    rw [e]
    refine ⟨fun h2 => ?_, fun h2 => ⟨fun h3 => ?_, fun h3 => ?_⟩⟩
    · rw [if_neg (fun e2 => e2.1 h2)] at hq
      exact k9_refuse hW ⟨hW, hq _ _ (CS.tr _ _)⟩
    · rw [if_pos ⟨h2, h3⟩] at hq
      obtain ⟨p, hp, rfl⟩ := ps_inx (N := nM r) (by omega) h2 (by rw [← hv.m]; exact h3)
      rw [ps_cl (by omega)] at hq
      exact k9_leastWidth hW hF hM hv hs hp ⟨hW, k9_grant hW ⟨hW, hq _ _ (CS.tr _ _)⟩⟩
    · rw [if_neg (fun e2 => h3 e2.2)] at hq
      exact k9_refuse hW ⟨hW, hq _ _ (CS.tr _ _)⟩
  · rw [if_pos h] at hq
    exact k9_refuse hW ⟨hW, hq _ _ (CS.tr _ _)⟩
theorem p10_width {x : Int32} (hW : aw_WT n θ) (hv : VR (σ 123)) (hH : HR σ (σ 123)) (hs : VS (σ 125)) (hq : ∀ σ', RS σ σ' (sp_width (σ 123) (σ 125) x).2 → q (sp_width (σ 123) (σ 125) x).1 n σ' τ θ) : SMi G 5 mX10_widthFor 0 0 [.ref 120, .int x] n σ τ θ q := by
  unfold sp_width at hq
  have h5 := hv.m5
  refine ctX10_widthFor _ (sgX10_widthFor_0 _ (Nat.le_refl _) hW ?_)
  refine k10_good' hW (fun σ1 h1 => ⟨hW, ?_⟩)
  have h2 := h1.slot (s := 22) (x := 0) (by decide)
  have hb : (aw_u σ1 120 22 0) 120 22 = 0 := aw_u_eq
  generalize aw_u σ1 120 22 0 = σ2 at h2 hb ⊢
  have e : σ2 123 4 = nI (nM (σ 123)) := by rw [h2.e3]; exact hv.m
  rw [h2.has]
  rcases hH with ⟨hz, h0⟩ | ⟨hz, h0⟩
  · rw [if_pos h0] at hq
    rw [hz]
    refine ⟨fun _ => k10_why (c := False) (d := False) hW ⟨hW, ?_⟩, fun h => absurd rfl h⟩
    rw [if_neg id]
    exact ⟨fun h => absurd h (by decide), fun _ => k10_no hW ⟨hW, hq _ h2.no⟩⟩
  · rw [if_neg (by omega)] at hq
    rw [hz]
    refine ⟨fun h => absurd h (by decide), fun _ => k10_in hW ⟨hW, ?_⟩⟩
    rw [e]
    refine ps_b (fun h3 => ?_) (fun h3 => ?_)
    · refine k10_why (c := True) (d := False) hW ⟨hW, ?_⟩
      rw [if_pos trivial, if_neg id]
      rw [if_neg (fun e2 => h3 ⟨e2.1, by rw [hv.m] at e2; exact Int32.not_lt.mpr e2.2⟩)] at hq
      exact ⟨fun h => absurd h (by decide), fun _ => k10_no hW ⟨hW, hq _ h2.no⟩⟩
    · refine k10_why (c := True) (d := True) hW ⟨hW, ?_⟩
      rw [if_pos trivial, if_pos trivial]
      have h4 := Int32.not_lt.mp h3.2
      rw [if_pos ⟨h3.1, by rw [hv.m]; exact h4⟩] at hq
      obtain ⟨p, hp, rfl⟩ := ps_inx (by omega) h3.1 h4
      rw [ps_cl (by omega)] at hq
      refine ⟨fun _ => ?_, fun h => absurd rfl h⟩
      obtain ⟨b1, b2, b3⟩ := s_wf_p hv hs hp
      refine ps_up (N := s_wf (σ 123) (σ 125) p) (P := fun w => SW G 5 mX10_widthFor (aw_qi q) 0 0 56 [some (.ref 120), some (.int (nI p)), none, some (.int (nI w)), none, none] [] (n, σ2, τ, θ)) ?_ ?_ 0 (Nat.zero_le _)
      · refine sgX10_widthFor_56 _ _ (Nat.le_refl _) hW ?_
        refine ps_up (N := nM (σ 123)) (P := fun j => SW G 5 mX10_widthFor (aw_qi q) 0 0 62 [some (.ref 120), some (.int (nI p)), none, some (.int (nI (s_wf (σ 123) (σ 125) p))), some (.int (s_mw (σ 123) (σ 125) (σ 125 12) (nI (s_wf (σ 123) (σ 125) p)) j)), some (.int (nI j))] [] (n, σ2, τ, θ)) ?_ ?_ 0 (Nat.zero_le _)
        · refine sgX10_widthFor_62 _ _ _ _ (Nat.le_refl _) hW (ps_done e ?_)
          rw [s_mw_e hv hs (by omega)]
          have lj := mwN_le (hN (σ 123) (σ 125)) (s_wf (σ 123) (σ 125) p) (nM (σ 123))
          rw [nI_ltI (by omega) (by omega)]
          refine ⟨fun h => absurd h (by omega), fun _ => ⟨fun _ => hq _ h2, fun h => ?_⟩⟩
          have h := (ps_nI0 (by omega)).mp h
          have : s_wf (σ 123) (σ 125) p = 0 := by
            rcases Nat.eq_zero_or_pos (s_wf (σ 123) (σ 125) p) with h9 | h9
            · exact h9
            · exact absurd (by omega) (b3 0 h9)
          rw [this] at hq
          exact hq _ h2
        · intro j hj ih
          refine sgX10_widthFor_62 _ _ _ _ (Nat.le_refl _) hW (ps_br e (by omega) (by omega) (fun h => absurd hj (by omega)) (fun _ => ?_))
          rw [← nI_succ]
          simp only [s_mw] at ih
          refine k10_head hW isA_st (h2.vr hv) hb (by omega) ⟨hW, ?_⟩
          rw [h2.e3, h2.e5]
          refine ⟨fun h => ?_, fun h => ?_⟩
          · rw [if_neg (Int32.not_le.mpr h)] at ih; exact ih
          · rw [if_pos (Int32.not_lt.mp h)] at ih; exact ih
      · intro w hw ihw
        refine sgX10_widthFor_56 _ _ (Nat.le_refl _) hW ?_
        refine ps_up (N := nM (σ 123)) (P := fun j => SW G 5 mX10_widthFor (aw_qi q) 0 0 62 [some (.ref 120), some (.int (nI p)), none, some (.int (nI w)), some (.int (s_mw (σ 123) (σ 125) (σ 125 12) (nI w) j)), some (.int (nI j))] [] (n, σ2, τ, θ)) ?_ ?_ 0 (Nat.zero_le _)
        · refine sgX10_widthFor_62 _ _ _ _ (Nat.le_refl _) hW (ps_done e ?_)
          rw [s_mw_e hv hs (by omega), ← nI_succ w]
          have lj := mwN_le (hN (σ 123) (σ 125)) w (nM (σ 123))
          have := b3 w hw
          rw [nI_ltI (by omega) (by omega)]
          exact ⟨fun _ => ihw, fun h => absurd h (by omega)⟩
        · intro j hj ih
          refine sgX10_widthFor_62 _ _ _ _ (Nat.le_refl _) hW (ps_br e (by omega) (by omega) (fun h => absurd hj (by omega)) (fun _ => ?_))
          rw [← nI_succ]
          simp only [s_mw] at ih
          refine k10_head hW isA_st (h2.vr hv) hb (by omega) ⟨hW, ?_⟩
          rw [h2.e3, h2.e5]
          refine ⟨fun h => ?_, fun h => ?_⟩
          · rw [if_neg (Int32.not_le.mpr h)] at ih; exact ih
          · rw [if_pos (Int32.not_lt.mp h)] at ih; exact ih
end Pub8
