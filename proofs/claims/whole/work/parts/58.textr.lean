/-! ===== the text: the reference's tokens ===== -/
def RB (σ : SG) (b : Nat → Nat) (N : Nat) : Prop := σ 120 3 = nI N ∧ N ≤ 900 ∧ ∀ j, j < N → b j < 256 ∧ σ 121 j = nI (b j)
def tk (k : Nat) : Int32 := if k = 0 then 0 else if k = 1 then 2 else if k = 2 then 3 else if k = 3 then 59 else 1
def RT (σ : SG) (b : Nat → Nat) (N s : Nat) : Prop := RB σ b N ∧ s ≤ N ∧ σ 120 4 = nI s ∧ σ 120 5 = nI (tp_en b N s) ∧ σ 120 6 = tk (tp_kd b N s) ∧ (tp_kd b N s = 1 → σ 120 8 = nI (tp_en b N s - s) ∧ ∀ k, k < tp_en b N s - s → σ 122 k = nI (b (s + k))) ∧ (tp_kd b N s = 2 → σ 120 7 = nI (tp_val b N s))
def NF (σ σ' : SG) : Prop := ∀ o k, o ≠ 122 → ¬ (o = 120 ∧ 4 ≤ k ∧ k ≤ 8) → σ' o k = σ o k
/-- .. and what a fault writes -/
def HF (σ σ' : SG) : Prop := ∀ o k, o ≠ 122 → ¬ (o = 120 ∧ ((4 ≤ k ∧ k ≤ 10) ∨ k = 13)) → σ' o k = σ o k
theorem NF.hf {σ σ' : SG} (h : NF σ σ') : HF σ σ' := fun o k h1 h2 => h o k h1 (fun e => h2 (by omega))
theorem NF.rf (σ : SG) : NF σ σ := fun _ _ _ _ => rfl
theorem HF.rf (σ : SG) : HF σ σ := fun _ _ _ _ => rfl
theorem NF.trans {σ σ' σ'' : SG} (h : NF σ σ') (h' : NF σ' σ'') : NF σ σ'' := fun o k h1 h2 => (h' o k h1 h2).trans (h o k h1 h2)
theorem HF.trans {σ σ' σ'' : SG} (h : HF σ σ') (h' : HF σ' σ'') : HF σ σ'' := fun o k h1 h2 => (h' o k h1 h2).trans (h o k h1 h2)
theorem NF.up {σ σ' : SG} (h : NF σ σ') {k : Nat} {v : Int32} (hk : 4 ≤ k ∧ k ≤ 8) : NF σ (aw_u σ' 120 k v) := fun o k' h1 h2 => (aw_ui (fun e => h2 (by omega))).trans (h o k' h1 h2)
theorem NF.up2 {σ σ' : SG} (h : NF σ σ') {k : Nat} {v : Int32} : NF σ (aw_u σ' 122 k v) := fun o k' h1 h2 => (aw_ui (fun e => h1 e.1)).trans (h o k' h1 h2)
theorem HF.up {σ σ' : SG} (h : HF σ σ') {k : Nat} {v : Int32} (hk : (4 ≤ k ∧ k ≤ 10) ∨ k = 13) : HF σ (aw_u σ' 120 k v) := fun o k' h1 h2 => (aw_ui (fun e => h2 (by omega))).trans (h o k' h1 h2)
theorem HF.row {σ σ' : SG} (h : HF σ σ') : σ' 124 = σ 124 := funext fun k => h 124 k (by decide) (fun e => by omega)
theorem NF.row {σ σ' : SG} (h : NF σ σ') : σ' 124 = σ 124 := h.hf.row
theorem NF.f {σ σ' : SG} (h : NF σ σ') : σ' 120 13 = σ 120 13 := h 120 13 (by decide) (fun e => by omega)
theorem aw_row {σ : SG} {o i : Nat} {v : Int32} : (aw_u σ o i v) o = pu (σ o) i v := by
  funext k
  unfold aw_u pu
  by_cases h : k = i
  · rw [if_pos ⟨rfl, h⟩, if_pos h]
  · rw [if_neg (fun e => h e.2), if_neg h]
theorem tk_all : ∀ k, k ≤ 4 → (tk k = 2 ↔ k = 1) ∧ (tk k = 3 ↔ k = 2) ∧ (tk k = 59 ↔ k = 3) ∧ (tk k = 0 ↔ k = 0) := by decide +kernel
def sv (b : Nat → Nat) (N p : Nat) : Int32 := if p < N then nI (b p) else -1
section Tr
variable {G : GG} {n : Nat} {σ : SG} {τ : TU} {θ : TH} {q : Int32 → Nat → SG → TU → TH → Prop} {qv : Nat → SG → TU → TH → Prop} {b : Nat → Nat} {N s : Nat}
theorem RB.nf {σ' : SG} (h : RB σ b N) (hf : HF σ σ') : RB σ' b N := ⟨(hf 120 3 (by decide) (by omega)).trans h.1, h.2.1, fun j hj => ⟨(h.2.2 j hj).1, (hf 121 j (by decide) (by omega)).trans (h.2.2 j hj).2⟩⟩
theorem RT.k (h : RT σ b N s) : (σ 120 6 = 2 ↔ tp_kd b N s = 1) ∧ (σ 120 6 = 3 ↔ tp_kd b N s = 2) ∧ (σ 120 6 = 59 ↔ tp_kd b N s = 3) ∧ (σ 120 6 = 0 ↔ tp_kd b N s = 0) := by
  rw [h.2.2.2.2.1]
  exact tk_all _ tp_kd_le
theorem RT.mono {σ' : SG} (h : RT σ b N s) (h1 : ∀ k, 3 ≤ k ∧ k ≤ 8 → σ' 120 k = σ 120 k) (h2 : ∀ k, σ' 121 k = σ 121 k) (h3 : ∀ k, σ' 122 k = σ 122 k) : RT σ' b N s := by
  obtain ⟨⟨a1, a2, a3⟩, b1, b2, b3, b4, b5, b6⟩ := h
  refine ⟨⟨(h1 3 (by omega)).trans a1, a2, fun j hj => ⟨(a3 j hj).1, (h2 j).trans (a3 j hj).2⟩⟩, b1, (h1 4 (by omega)).trans b2, (h1 5 (by omega)).trans b3, (h1 6 (by omega)).trans b4, fun e => ⟨(h1 8 (by omega)).trans (b5 e).1, fun k hk => (h3 k).trans ((b5 e).2 k hk)⟩, fun e => (h1 7 (by omega)).trans (b6 e)⟩
theorem RT.up {i : Nat} {v : Int32} (h : RT σ b N s) : RT (aw_u σ 124 i v) b N s := h.mono (fun k _ => aw_u_ne (by decide)) (fun k => aw_u_ne (by decide)) (fun k => aw_u_ne (by decide))
theorem k10_see {p : Nat} (hW : aw_WT n θ) (hB : RB σ b N) (hp : p ≤ 900) (hq : q (sv b N p) n σ τ θ) : SMi G 1 mX10_see 0 0 [.ref 120, .int (nI p)] n σ τ θ q := by
  obtain ⟨e3, h9, hb⟩ := hB
  refine ctX10_see _ (sgX10_see_0 _ (Nat.le_refl _) hW ?_)
  unfold sv at hq
  rw [e3]
  refine ⟨fun h => ?_, fun h => ?_⟩
  · rw [if_neg (by have := (nI_leI (by omega) (by omega)).mp h; omega)] at hq
    exact hq
  · have hp2 : p < N := Nat.not_le.mp (fun e => h (nI_le e (by omega)))
    rw [if_pos hp2] at hq
    rw [ps_cl (by omega), (hb p hp2).2]
    exact ⟨ps_in (by omega) (by decide), hq⟩
theorem sv_rg {p lo hi : Nat} (hb : p < N → b p < 256) (hlo : lo < 1000) (hhi : hi < 1000) : (¬ sv b N p < nI lo ∧ ¬ nI hi < sv b N p) ↔ (p < N ∧ tp_rg b lo hi p = true) := by
  unfold sv
  by_cases h : p < N
  · rw [if_pos h, tp_rg_iff]
    have := hb h
    rw [nI_ltI (by omega) (by omega), nI_ltI (by omega) (by omega)]
    omega
  · rw [if_neg h]
    exact ⟨fun e => absurd (Int32.lt_of_lt_of_le (show (-1 : Int32) < 0 by decide) (nI_pos' (by omega))) e.1, fun e => absurd e.1 h⟩
theorem k10_isSmall {p : Nat} (hW : aw_WT n θ) (hb : p < N → b p < 256) (h1 : p < N → tp_rg b 97 122 p = true → q 1 n σ τ θ) (h0 : ¬ (p < N ∧ tp_rg b 97 122 p = true) → q 0 n σ τ θ) : SMi G 1 mX10_isSmall 0 0 [.int (sv b N p)] n σ τ θ q := by
  have key := sv_rg (lo := 97) (hi := 122) hb (by decide) (by decide)
  refine ctX10_isSmall _ (sgX10_isSmall_0 _ (Nat.le_refl _) hW ⟨fun h => h0 (fun e => (key.mpr e).1 h), fun h => ⟨fun h2 => h0 (fun e => (key.mpr e).2 h2), fun h2 => ?_⟩⟩)
  have := key.mp ⟨h, h2⟩
  exact h1 this.1 this.2
theorem k10_isDigit {p : Nat} (hW : aw_WT n θ) (hb : p < N → b p < 256) (h1 : p < N → tp_rg b 48 57 p = true → q 1 n σ τ θ) (h0 : ¬ (p < N ∧ tp_rg b 48 57 p = true) → q 0 n σ τ θ) : SMi G 1 mX10_isDigit 0 0 [.int (sv b N p)] n σ τ θ q := by
  have key := sv_rg (lo := 48) (hi := 57) hb (by decide) (by decide)
  refine ctX10_isDigit _ (sgX10_isDigit_0 _ (Nat.le_refl _) hW ⟨fun h => h0 (fun e => (key.mpr e).1 h), fun h => ⟨fun h2 => h0 (fun e => (key.mpr e).2 h2), fun h2 => ?_⟩⟩)
  have := key.mp ⟨h, h2⟩
  exact h1 this.1 this.2
theorem sv_eq {p v : Nat} (hb : p < N → b p < 256) (hv : v < 1000) : sv b N p = nI v ↔ p < N ∧ b p = v := by
  unfold sv
  by_cases h : p < N
  · rw [if_pos h, nI_eq (by have := hb h; omega) (by omega)]
    exact ⟨fun e => ⟨h, e⟩, fun e => e.2⟩
  · rw [if_neg h]
    exact ⟨fun e => absurd e.symm (ps_nm1 (by omega)), fun e => absurd e.1 h⟩
theorem sv_no {p : Nat} (hb : p < N → b p < 256) : sv b N p = -1 ↔ ¬ p < N := by
  unfold sv
  by_cases h : p < N
  · rw [if_pos h]
    exact ⟨fun e => absurd e (ps_nm1 (by have := hb h; omega)), fun e => absurd h e⟩
  · rw [if_neg h]
    exact ⟨fun _ => h, fun _ => rfl⟩
/-- letters -/
theorem k10_next67 (hW : aw_WT n θ) (hB : RB σ b N) (hsN : s < N) (hs : tp_rg b 97 122 s = true) (hq : ∀ σ', NF σ σ' → RT σ' b N s → qv n σ' τ θ) : ∀ (D i : Nat) (σ1 : SG), N - (s + i) ≤ D → s + i ≤ N → NF σ σ1 → σ1 120 4 = nI s → σ1 120 8 = nI i → (∀ k, k < i → k < 8 → σ1 122 k = nI (b (s + k))) → tp_up N (tp_rg b 97 122) (s + i) = tp_up N (tp_rg b 97 122) s →
    SW G 2 mX10_next (aw_qv qv) 0 0 67 [some (.ref 120), some (.int (nI (s + i))), none, none] [] (n, σ1, τ, θ) := by
  have he : tp_en b N s = tp_up N (tp_rg b 97 122) s := by unfold tp_en; rw [if_pos hsN, if_pos hs]
  intro D
  induction D with
  | zero =>
    intro i σ1 hD hiN hf e4 e8 hl hu
    obtain ⟨-, h9, hb⟩ := id hB
    have hB1 := hB.nf hf.hf
    refine sgX10_next_67 _ (Nat.le_refl _) hW ?_
    refine k10_see hW hB1 (by omega) ⟨hW, k10_isSmall hW (fun h => (hb _ h).1) (fun h => absurd h (by omega)) (fun _ => ⟨hW, fun _ => ?_, fun h => absurd rfl h⟩)⟩
    rw [tp_up_ge (by omega)] at hu
    rw [aw_u_nk (by decide), e8, show (nI i ≤ 8) ↔ i ≤ 8 from nI_leI (b := 8) (by omega) (by omega)]
    have fin : ∀ v, v = tk (tp_kd b N s) → (tp_kd b N s = 1 → i ≤ 8) → qv n (aw_u (aw_u σ1 120 5 (nI (s + i))) 120 6 v) τ θ := by
      intro v hv h8
      have f2 : NF σ (aw_u (aw_u σ1 120 5 (nI (s + i))) 120 6 v) := (hf.up (by omega)).up (by omega)
      refine hq _ f2 ⟨hB.nf f2.hf, by omega, ?_, ?_, ?_, fun hk => ⟨?_, fun k hk2 => ?_⟩, fun hk => ?_⟩
      · rw [aw_u_nk (by decide), aw_u_nk (by decide)]; exact e4
      · rw [aw_u_nk (by decide), aw_u_eq, he, ← hu]
      · rw [aw_u_eq]; exact hv
      · rw [aw_u_nk (by decide), aw_u_nk (by decide), e8, he, ← hu]; congr 1; omega
      · rw [aw_u_ne (by decide), aw_u_ne (by decide)]
        rw [he, ← hu] at hk2
        have := h8 hk
        exact hl k (by omega) (by omega)
      · have := (tp_kd2 hk).2.1
        have h1 := tp_rg_iff.mp this
        have h2 := tp_rg_iff.mp hs
        omega
    refine ⟨fun h8 => fin 2 ?_ (fun _ => h8), fun h8 => fin 1 ?_ (fun hk => ?_)⟩
    · have : tp_kd b N s = 1 := by unfold tp_kd; rw [if_pos hsN, if_pos hs, if_pos (by rw [← hu]; omega)]
      rw [this]; rfl
    · have : tp_kd b N s = 4 := by unfold tp_kd; rw [if_pos hsN, if_pos hs, if_neg (by rw [← hu]; omega)]
      rw [this]; rfl
    · have : tp_kd b N s = 4 := by unfold tp_kd; rw [if_pos hsN, if_pos hs, if_neg (by rw [← hu]; omega)]
      omega
  | succ D ih =>
    intro i σ1 hD hiN hf e4 e8 hl hu
    obtain ⟨-, h9, hb⟩ := id hB
    have hB1 := hB.nf hf.hf
    refine sgX10_next_67 _ (Nat.le_refl _) hW ?_
    refine k10_see hW hB1 (by omega) ⟨hW, k10_isSmall hW (fun h => (hb _ h).1) (fun hN hc => ⟨hW, fun h => absurd h (by decide), fun _ => ?_⟩) (fun hno => ⟨hW, fun _ => ?_, fun h => absurd rfl h⟩)⟩
    · rw [e8, show ((8 : Int32) ≤ nI i) ↔ 8 ≤ i from nI_leI (a := 8) (by omega) (by omega), show nI (s + i) + 1 = nI (s + (i + 1)) from nI_1 _]
      refine ⟨fun h8 => ?_, fun h8 => ?_⟩
      · rw [nI_1]
        refine ih (i + 1) _ (by omega) (by omega) (hf.up (by omega)) ?_ aw_u_eq (fun k hk hk8 => ?_) ?_
        · rw [aw_u_nk (by decide)]; exact e4
        · rw [aw_u_ne (by decide)]; exact hl k (by omega) hk8
        · rw [← hu, tp_up_t hN hc]; rfl
      · refine k10_see hW hB1 (by omega) ⟨hW, ps_in (by omega) (by decide), ?_⟩
        rw [aw_u_ne (by decide), e8, nI_1, ps_cl (by omega)]
        refine ih (i + 1) _ (by omega) (by omega) (hf.up2.up (by omega)) ?_ aw_u_eq (fun k hk hk8 => ?_) ?_
        · rw [aw_u_nk (by decide), aw_u_ne (by decide)]; exact e4
        · rw [aw_u_ne (by decide)]
          by_cases e : k = i
          · subst e
            rw [aw_u_eq]
            unfold sv
            rw [if_pos hN]
          · rw [aw_u_nk e]; exact hl k (by omega) hk8
        · rw [← hu, tp_up_t hN hc]; rfl
    · have hu2 : s + i = tp_up N (tp_rg b 97 122) s := by
        rcases Nat.lt_or_ge (s + i) N with h | h
        · rw [tp_up_f h (fun e => hno ⟨h, e⟩)] at hu; exact hu
        · rw [tp_up_ge h] at hu; exact hu
      rw [aw_u_nk (by decide), e8, show (nI i ≤ 8) ↔ i ≤ 8 from nI_leI (b := 8) (by omega) (by omega)]
      have fin : ∀ v, v = tk (tp_kd b N s) → (tp_kd b N s = 1 → i ≤ 8) → qv n (aw_u (aw_u σ1 120 5 (nI (s + i))) 120 6 v) τ θ := by
        intro v hv h8
        have f2 : NF σ (aw_u (aw_u σ1 120 5 (nI (s + i))) 120 6 v) := (hf.up (by omega)).up (by omega)
        refine hq _ f2 ⟨hB.nf f2.hf, by omega, ?_, ?_, ?_, fun hk => ⟨?_, fun k hk2 => ?_⟩, fun hk => ?_⟩
        · rw [aw_u_nk (by decide), aw_u_nk (by decide)]; exact e4
        · rw [aw_u_nk (by decide), aw_u_eq, he, ← hu2]
        · rw [aw_u_eq]; exact hv
        · rw [aw_u_nk (by decide), aw_u_nk (by decide), e8, he, ← hu2]; congr 1; omega
        · rw [aw_u_ne (by decide), aw_u_ne (by decide)]
          rw [he, ← hu2] at hk2
          have := h8 hk
          exact hl k (by omega) (by omega)
        · have := (tp_kd2 hk).2.1
          have h1 := tp_rg_iff.mp this
          have h2 := tp_rg_iff.mp hs
          omega
      refine ⟨fun h8 => fin 2 ?_ (fun _ => h8), fun h8 => fin 1 ?_ (fun hk => ?_)⟩
      · have : tp_kd b N s = 1 := by unfold tp_kd; rw [if_pos hsN, if_pos hs, if_pos (by rw [← hu2]; omega)]
        rw [this]; rfl
      · have : tp_kd b N s = 4 := by unfold tp_kd; rw [if_pos hsN, if_pos hs, if_neg (by rw [← hu2]; omega)]
        rw [this]; rfl
      · have : tp_kd b N s = 4 := by unfold tp_kd; rw [if_pos hsN, if_pos hs, if_neg (by rw [← hu2]; omega)]
        omega
/-- digits -/
theorem k10_next152 (hW : aw_WT n θ) (hB : RB σ b N) (hsN : s < N) (hns : ¬ tp_rg b 97 122 s = true) (hs : tp_rg b 48 57 s = true) (hq : ∀ σ', NF σ σ' → RT σ' b N s → qv n σ' τ θ) : ∀ (D i : Nat) (σ1 : SG), N - (s + i) ≤ D → s + i ≤ N → NF σ σ1 → σ1 120 4 = nI s → σ1 120 7 = nI (tp_v b s (min i 3)) → tp_up N (tp_rg b 48 57) (s + i) = tp_up N (tp_rg b 48 57) s →
    SW G 2 mX10_next (aw_qv qv) 0 0 152 [some (.ref 120), some (.int (nI (s + i))), none, some (.int (nI i))] [] (n, σ1, τ, θ) := by
  have he : tp_en b N s = tp_up N (tp_rg b 48 57) s := by unfold tp_en; rw [if_pos hsN, if_neg hns, if_pos hs]
  intro D
  have last : ∀ (i : Nat) (σ1 : SG), s + i ≤ N → NF σ σ1 → σ1 120 4 = nI s → σ1 120 7 = nI (tp_v b s (min i 3)) → tp_up N (tp_rg b 48 57) (s + i) = tp_up N (tp_rg b 48 57) s → ¬ (s + i < N ∧ tp_rg b 48 57 (s + i) = true) → (nI i ≤ 3 → qv n (aw_u (aw_u σ1 120 5 (nI (s + i))) 120 6 3) τ θ) ∧ (¬ nI i ≤ 3 → qv n (aw_u (aw_u σ1 120 5 (nI (s + i))) 120 6 1) τ θ) := by
    intro i σ1 hiN hf e4 e7 hu hno
    obtain ⟨-, h9, hb⟩ := id hB
    have hu2 : s + i = tp_up N (tp_rg b 48 57) s := by
      rcases Nat.lt_or_ge (s + i) N with h | h
      · rw [tp_up_f h (fun e => hno ⟨h, e⟩)] at hu; exact hu
      · rw [tp_up_ge h] at hu; exact hu
    rw [show (nI i ≤ 3) ↔ i ≤ 3 from nI_leI (b := 3) (by omega) (by omega)]
    have fin : ∀ v, v = tk (tp_kd b N s) → (tp_kd b N s = 2 → i ≤ 3) → qv n (aw_u (aw_u σ1 120 5 (nI (s + i))) 120 6 v) τ θ := by
      intro v hv h8
      have f2 : NF σ (aw_u (aw_u σ1 120 5 (nI (s + i))) 120 6 v) := (hf.up (by omega)).up (by omega)
      refine hq _ f2 ⟨hB.nf f2.hf, by omega, ?_, ?_, ?_, fun hk => absurd (tp_kd1 hk).2.1 hns, fun hk => ?_⟩
      · rw [aw_u_nk (by decide), aw_u_nk (by decide)]; exact e4
      · rw [aw_u_nk (by decide), aw_u_eq, he, ← hu2]
      · rw [aw_u_eq]; exact hv
      · rw [aw_u_nk (by decide), aw_u_nk (by decide), e7]
        have := h8 hk
        unfold tp_val
        rw [he, ← hu2, show min i 3 = s + i - s by omega]
    refine ⟨fun h8 => fin 3 ?_ (fun _ => h8), fun h8 => fin 1 ?_ (fun hk => ?_)⟩
    · have : tp_kd b N s = 2 := by unfold tp_kd; rw [if_pos hsN, if_neg hns, if_pos hs, if_pos (by rw [← hu2]; omega)]
      rw [this]; rfl
    · have : tp_kd b N s = 4 := by unfold tp_kd; rw [if_pos hsN, if_neg hns, if_pos hs, if_neg (by rw [← hu2]; omega)]
      rw [this]; rfl
    · have : tp_kd b N s = 4 := by unfold tp_kd; rw [if_pos hsN, if_neg hns, if_pos hs, if_neg (by rw [← hu2]; omega)]
      omega
  induction D with
  | zero =>
    intro i σ1 hD hiN hf e4 e7 hu
    obtain ⟨-, h9, hb⟩ := id hB
    have hB1 := hB.nf hf.hf
    refine sgX10_next_152 _ _ (Nat.le_refl _) hW ?_
    exact k10_see hW hB1 (by omega) ⟨hW, k10_isDigit hW (fun h => (hb _ h).1) (fun h => absurd h (by omega)) (fun hno => ⟨hW, fun _ => last i σ1 hiN hf e4 e7 hu hno, fun h => absurd rfl h⟩)⟩
  | succ D ih =>
    intro i σ1 hD hiN hf e4 e7 hu
    obtain ⟨-, h9, hb⟩ := id hB
    have hB1 := hB.nf hf.hf
    refine sgX10_next_152 _ _ (Nat.le_refl _) hW ?_
    refine k10_see hW hB1 (by omega) ⟨hW, k10_isDigit hW (fun h => (hb _ h).1) (fun hN hc => ⟨hW, fun h => absurd h (by decide), fun _ => ?_⟩) (fun hno => ⟨hW, fun _ => last i σ1 hiN hf e4 e7 hu hno, fun h => absurd rfl h⟩)⟩
    rw [show ((3 : Int32) ≤ nI i) ↔ 3 ≤ i from nI_leI (a := 3) (by omega) (by omega), show nI (s + i) + 1 = nI (s + (i + 1)) from nI_1 _, nI_1]
    refine ⟨fun h8 => ?_, fun h8 => ?_⟩
    · refine ih (i + 1) _ (by omega) (by omega) hf e4 ?_ ?_
      · rw [e7, show min (i + 1) 3 = min i 3 by omega]
      · rw [← hu, tp_up_t hN hc]; rfl
    · refine k10_see hW hB1 (by omega) ⟨hW, ?_⟩
      have hc2 := tp_rg_iff.mp hc
      refine ih (i + 1) _ (by omega) (by omega) (hf.up (by omega)) ?_ ?_ ?_
      · rw [aw_u_nk (by decide)]; exact e4
      · unfold sv
        rw [aw_u_eq, if_pos hN, e7, show min i 3 = i by omega, show min (i + 1) 3 = i + 1 by omega, show (10 : Int32) * nI (tp_v b s i) = nI (10 * tp_v b s i) from pk_mul 10 _, nI_add, show nI (10 * tp_v b s i + b (s + i)) - 48 = nI (10 * tp_v b s i + b (s + i) - 48) from pk_sub (b := 48) (by omega)]
        congr 1
        show _ = 10 * tp_v b s i + (b (s + i) - 48)
        omega
      · rw [← hu, tp_up_t hN hc]; rfl
set_option maxHeartbeats 4000000 in
theorem k10_next {p : Nat} (hW : aw_WT n θ) (hB : RB σ b N) (hp : σ 120 5 = nI p) (hpN : p ≤ N) (hq : ∀ σ', NF σ σ' → RT σ' b N (tp_st b N p) → qv n σ' τ θ) : SMv G 2 mX10_next 0 0 [.ref 120] n σ τ θ qv := by
  obtain ⟨e3, h9, hb⟩ := id hB
  refine ctX10_next (sgX10_next_0 (Nat.le_refl _) hW ?_)
  rw [hp]
  have go : ∀ s, s ≤ N → ¬ (s < N ∧ b s = 32) → tp_st b N p = s → SW G 2 mX10_next (aw_qv qv) 0 0 5 [some (.ref 120), some (.int (nI s)), none, none] [] (n, σ, τ, θ) := by
    intro s hs hnb hst
    rw [hst] at hq
    refine sgX10_next_5 _ (Nat.le_refl _) hW ?_
    refine k10_see hW hB (by omega) ⟨hW, fun _ => ?_, fun h => absurd ((sv_eq (v := 32) (fun h => (hb _ h).1) (by decide)).mp h) hnb⟩
    have f1 : NF σ (aw_u σ 120 4 (nI s)) := (NF.rf σ).up (by omega)
    refine k10_see hW (hB.nf f1.hf) (by omega) ⟨hW, fun h => ?_, fun h => ?_⟩
    · have hsN : s < N := by
        rcases Nat.lt_or_ge s N with q | q
        · exact q
        · exact absurd ((sv_no (fun h => (hb _ h).1)).mpr (by omega)) h
      have f2 : NF σ (aw_u (aw_u (aw_u σ 120 4 (nI s)) 120 8 0) 120 7 0) := (f1.up (by omega)).up (by omega)
      have g4 : (aw_u (aw_u (aw_u σ 120 4 (nI s)) 120 8 0) 120 7 0) 120 4 = nI s := by rw [aw_u_nk (by decide), aw_u_nk (by decide), aw_u_eq]
      refine k10_isSmall hW (fun h => (hb _ h).1) (fun _ hc => ⟨hW, fun h => absurd h (by decide), fun _ => ?_⟩) (fun hns => ⟨hW, fun _ => ?_, fun h => absurd rfl h⟩)
      · exact k10_next67 hW hB hsN hc hq (N - (s + 0)) 0 _ (Nat.le_refl _) (by omega) f2 g4 (by rw [aw_u_nk (by decide), aw_u_eq]; rfl) (fun k hk => absurd hk (by omega)) rfl
      · have hns : ¬ tp_rg b 97 122 s = true := fun e => hns ⟨hsN, e⟩
        refine k10_isDigit hW (fun h => (hb _ h).1) (fun _ hc => ⟨hW, fun h => absurd h (by decide), fun _ => ?_⟩) (fun hnd => ⟨hW, fun _ => ?_, fun h => absurd rfl h⟩)
        · exact k10_next152 hW hB hsN hns hc hq (N - (s + 0)) 0 _ (Nat.le_refl _) (by omega) f2 g4 (by rw [aw_u_eq]; rfl) rfl
        · have hnd : ¬ tp_rg b 48 57 s = true := fun e => hnd ⟨hsN, e⟩
          have fin : ∀ v k, tp_kd b N s = k → (k = 3 ∨ k = 4) → v = tk k → qv n (aw_u (aw_u (aw_u (aw_u (aw_u σ 120 4 (nI s)) 120 8 0) 120 7 0) 120 5 (nI s + 1)) 120 6 v) τ θ := by
            intro v k hk h34 hv
            have f3 : NF σ (aw_u (aw_u (aw_u (aw_u (aw_u σ 120 4 (nI s)) 120 8 0) 120 7 0) 120 5 (nI s + 1)) 120 6 v) := (f2.up (by omega)).up (by omega)
            refine hq _ f3 ⟨hB.nf f3.hf, hs, ?_, ?_, ?_, fun e => by omega, fun e => by omega⟩
            · rw [aw_u_nk (by decide), aw_u_nk (by decide)]; exact g4
            · rw [aw_u_nk (by decide), aw_u_eq, nI_1]; unfold tp_en; rw [if_pos hsN, if_neg hns, if_neg hnd]
            · rw [aw_u_eq, hk]; exact hv
          refine ⟨fun h => fin 1 4 ?_ (Or.inr rfl) rfl, fun h => fin _ 3 ?_ (Or.inl rfl) h⟩
          · unfold tp_kd; rw [if_pos hsN, if_neg hns, if_neg hnd, if_neg (fun e => h ((sv_eq (v := 59) (fun h => (hb _ h).1) (by decide)).mpr ⟨hsN, e⟩))]
          · unfold tp_kd; rw [if_pos hsN, if_neg hns, if_neg hnd, if_pos ((sv_eq (v := 59) (fun h => (hb _ h).1) (by decide)).mp h).2]
    · have hsN := (sv_no (fun h => (hb _ h).1)).mp h
      have f3 : NF σ (aw_u (aw_u (aw_u (aw_u (aw_u σ 120 4 (nI s)) 120 8 0) 120 7 0) 120 6 0) 120 5 (nI s)) := (((f1.up (by omega)).up (by omega)).up (by omega)).up (by omega)
      have k0 := tp_kd0 (b := b).mpr (show N ≤ s by omega)
      refine hq _ f3 ⟨hB.nf f3.hf, hs, ?_, ?_, ?_, fun e => by omega, fun e => by omega⟩
      · rw [aw_u_nk (by decide), aw_u_nk (by decide), aw_u_nk (by decide), aw_u_nk (by decide), aw_u_eq]
      · rw [aw_u_eq]; unfold tp_en; rw [if_neg hsN]; congr 1; omega
      · rw [aw_u_nk (by decide), aw_u_eq, k0]; rfl
  refine tp_ind (N := N) (P := tp_rg b 32 32) (M := fun p' => p' ≤ N → tp_st b N p' = tp_st b N p → SW G 2 mX10_next (aw_qv qv) 0 0 5 [some (.ref 120), some (.int (nI p')), none, none] [] (n, σ, τ, θ)) ?_ ?_ ?_ p hpN rfl
  · intro p' h1 h2 he
    refine go p' h2 (by omega) ?_
    rw [← he]; unfold tp_st; rw [tp_up_ge h1]
  · intro p' h1 hbl ih h2 he
    have h32 := tp_rg_iff.mp hbl
    refine sgX10_next_5 _ (Nat.le_refl _) hW ?_
    refine k10_see hW hB (by omega) ⟨hW, fun h => absurd ((sv_eq (v := 32) (fun h => (hb _ h).1) (by decide)).mpr ⟨h1, by omega⟩) h, fun _ => ?_⟩
    rw [nI_1]
    exact ih (by omega) (by rw [← he]; unfold tp_st; rw [tp_up_t h1 hbl])
  · intro p' h1 hbl h2 he
    refine go p' h2 (fun e => hbl (tp_rg_iff.mpr (by omega))) ?_
    rw [← he]; unfold tp_st; rw [tp_up_f h1 hbl]
theorem k10_nx (hW : aw_WT n θ) (hT : RT σ b N s) (hq : ∀ σ', NF σ σ' → RT σ' b N (tp_ad b N s) → qv n σ' τ θ) : SMv G 2 mX10_next 0 0 [.ref 120] n σ τ θ qv := k10_next hW hT.1 hT.2.2.2.1 (tp_en_le hT.2.1).2 hq
end Tr
