/-! ===== duchy: what is kept; the reference ===== -/
def VX (r : Nat → Int32) : Prop := ∃ a d u o k t, VQ r a d u o k t
def tp_vq (X : (Nat × Nat) ⊕ (Nat × (Nat → Int32))) : Prop := ∀ s' r', X = .inr (s', r') → VX r'
theorem tp_vq.l {e : Nat × Nat} : tp_vq (.inl e) := fun s' r' h => (by cases h)
theorem tp_vq.ok {s : Nat} {r : Nat → Int32} (h : VX r) : tp_vq (.inr (s, r)) := fun s' r' e => (by cases e; exact h)
theorem tp_vq_if {c : Prop} [Decidable c] {X Y : (Nat × Nat) ⊕ (Nat × (Nat → Int32))} (h1 : c → tp_vq X) (h2 : ¬ c → tp_vq Y) : tp_vq (if c then X else Y) := by
  by_cases h : c
  · rw [if_pos h]; exact h1 h
  · rw [if_neg h]; exact h2 h
section Vq
variable {b : Nat → Nat} {N s : Nat} {r : Nat → Int32} {a d u o k t : Nat}
theorem tp_vq_line (hs : s ≤ N) (hv : VQ r a d u o k t) : tp_vq (tp_line b N s r) := by
  obtain ⟨e1, e2, e3, e4, e5, e6⟩ := hv.n
  have et : r 0 = 0 ↔ t = 0 := by rw [hv.2.2.2.2.2.1.1]; exact nI_eq (b := 0) (by have := hv.2.2.2.2.2.1.2; omega) (by omega)
  have hA2 := tp_ad_N (b := b) hs
  have hB2 := tp_ad_N (b := b) hA2
  have hC2 := tp_ad_N (b := b) hB2
  have hD2 := tp_ad_N (b := b) hC2
  unfold tp_line
  refine tp_vq_if (fun _ => ?_) (fun _ => tp_vq_if (fun _ => tp_vq_if (fun _ => tp_vq.l) (fun h0 => tp_vq_if (fun hc => ?_) (fun _ => tp_vq.l))) (fun _ => tp_vq_if (fun _ => tp_vq_if (fun _ => tp_vq.l) (fun h0 => tp_vq_if (fun hc => ?_) (fun _ => tp_vq.l))) (fun _ => tp_vq_if (fun _ => tp_vq_if (fun _ => tp_vq.l) (fun h0 => tp_vq_if (fun hc => ?_) (fun _ => tp_vq.l))) (fun _ => tp_vq_if (fun _ => tp_vq_if (fun _ => tp_vq.l) (fun h0 => tp_vq_if (fun hc => ?_) (fun _ => tp_vq.l))) (fun _ => tp_vq_if (fun _ => tp_vq_if (fun _ => tp_vq.l) (fun h0 => ?_)) (fun _ => tp_vq_if (fun _ => tp_vq_if (fun _ => tp_vq.l) (fun h0 => tp_vq_if (fun hc => ?_) (fun _ => tp_vq.l))) (fun _ => tp_vq.l)))))))
  · unfold tp_duchy
    refine tp_vq_if (fun _ => ?_) (fun _ => tp_vq.l)
    rcases h1 : tp_af b N (tp_ad b N s) 7 1 20 with e | ⟨v1, s1⟩
    · exact tp_vq.l
    · have l1 := tp_af_r h1 hA2
      dsimp only
      rcases h2 : tp_af b N s1 8 0 100 with e | ⟨v2, s2⟩
      · exact tp_vq.l
      · have l2 := tp_af_r h2 l1.2.2
        dsimp only
        rcases h3 : tp_af b N s2 9 0 100 with e | ⟨v3, s3⟩
        · exact tp_vq.l
        · have l3 := tp_af_r h3 l2.2.2
          dsimp only
          rcases h4 : tp_af b N s3 10 0 100 with e | ⟨v4, s4⟩
          · exact tp_vq.l
          · have l4 := tp_af_r h4 l3.2.2
            exact tp_vq.ok ⟨a, d, u, o, k, v1, hv.duchy l1.1 l2.1.2 l3.1.2 l4.1.2⟩
  · rw [e1] at hc
    have ht0 : t ≠ 0 := fun e => h0 (et.mpr e)
    unfold tp_man
    rw [e1]
    refine tp_vq_if (fun hn => tp_vq_if (fun hk => ?_) (fun _ => tp_vq.l)) (fun _ => tp_vq.l)
    rcases h1 : tp_af b N (tp_ad b N (tp_ad b N (tp_ad b N s))) 15 0 99 with e | ⟨v1, s1⟩
    · exact tp_vq.l
    · have l1 := tp_af_r h1 hC2
      dsimp only
      rcases h2 : tp_af b N s1 16 0 9 with e | ⟨v2, s2⟩
      · exact tp_vq.l
      · have l2 := tp_af_r h2 l1.2.2
        exact tp_vq.ok ⟨a + 1, d, u, o, k, t, hv.man hc ht0 hn (by omega) l1.1.2 l2.1.2⟩
  · rw [e2] at hc
    have ht0 : t ≠ 0 := fun e => h0 (et.mpr e)
    unfold tp_claim
    rcases h1 : tp_mh b N (tp_ad b N s) r with e | x
    · exact tp_vq.l
    · obtain ⟨xk, xo, xf, x5⟩ := tp_mh_r h1
      have xa := tp_fd_man hv xk (by omega)
      dsimp only
      rcases h2 : tp_mh b N (tp_ad b N (tp_ad b N s)) r with e | y
      · exact tp_vq.l
      · obtain ⟨yk, yo, yf, y5⟩ := tp_mh_r h2
        have ya := tp_fd_man hv yk (by omega)
        dsimp only
        refine tp_vq_if (fun _ => tp_vq.l) (fun hxy => tp_vq_if (fun hn => ?_) (fun _ => tp_vq.l))
        rcases h5 : tp_af b N (tp_ad b N (tp_ad b N (tp_ad b N (tp_ad b N s)))) 17 0 9 with e | ⟨v1, s1⟩
        · exact tp_vq.l
        · have l1 := tp_af_r h5 hD2
          dsimp only
          rw [show (r 5).toNatClampNeg = d from e2]
          exact tp_vq.ok ⟨a, d + 1, u, o, k, t, hv.debt hc ht0 (by omega) (by omega) hxy (tp_num0 hn).2 l1.1.2⟩
  · rw [e3] at hc
    have ht0 : t ≠ 0 := fun e => h0 (et.mpr e)
    unfold tp_claim
    rcases h1 : tp_mh b N (tp_ad b N s) r with e | x
    · exact tp_vq.l
    · obtain ⟨xk, xo, xf, x5⟩ := tp_mh_r h1
      have xa := tp_fd_man hv xk (by omega)
      dsimp only
      rcases h2 : tp_mh b N (tp_ad b N (tp_ad b N s)) r with e | y
      · exact tp_vq.l
      · obtain ⟨yk, yo, yf, y5⟩ := tp_mh_r h2
        have ya := tp_fd_man hv yk (by omega)
        dsimp only
        refine tp_vq_if (fun _ => tp_vq.l) (fun hxy => tp_vq_if (fun hn => ?_) (fun _ => tp_vq.l))
        rcases h5 : tp_af b N (tp_ad b N (tp_ad b N (tp_ad b N (tp_ad b N s)))) 17 0 9 with e | ⟨v1, s1⟩
        · exact tp_vq.l
        · have l1 := tp_af_r h5 hD2
          dsimp only
          rw [show (r 6).toNatClampNeg = u from e3]
          exact tp_vq.ok ⟨a, d, u + 1, o, k, t, hv.rum hc ht0 (by omega) (by omega) hxy (tp_num0 hn).2 l1.1.2⟩
  · rw [e4] at hc
    have ht0 : t ≠ 0 := fun e => h0 (et.mpr e)
    unfold tp_door
    rw [e4]
    refine tp_vq_if (fun hn => ?_) (fun _ => tp_vq.l)
    rcases h1 : tp_af b N (tp_ad b N (tp_ad b N s)) 18 0 40 with e | ⟨v1, s1⟩
    · exact tp_vq.l
    · have l1 := tp_af_r h1 hB2
      exact tp_vq.ok ⟨a, d, u, o + 1, k, t, hv.door hc ht0 hn l1.1.2⟩
  · unfold tp_invite
    rcases h1 : tp_mh b N (tp_ad b N s) r with e | m
    · exact tp_vq.l
    · obtain ⟨xk, xo, xf, x5⟩ := tp_mh_r h1
      have xa := tp_fd_man hv xk (by omega)
      dsimp only
      refine tp_vq_if (fun hz => ?_) (fun _ => tp_vq.l)
      rcases h2 : tp_dh b N (tp_ad b N (tp_ad b N s)) r with e | y
      · exact tp_vq.l
      · obtain ⟨yk, yo, yf, y5⟩ := tp_dh_r h2
        have ya := tp_fd_door hv yk (by omega) (by omega)
        exact tp_vq.ok ⟨a, d, u, o, k, t, hv.inv (by omega) (by omega) hz⟩
  · rw [e5] at hc
    have ht0 : t ≠ 0 := fun e => h0 (et.mpr e)
    unfold tp_read
    rcases h1 : tp_mh b N (tp_ad b N s) r with e | m
    · exact tp_vq.l
    · obtain ⟨xk, xo, xf, x5⟩ := tp_mh_r h1
      have xa := tp_fd_man hv xk (by omega)
      dsimp only
      rw [e5]
      exact tp_vq_if (fun hn => tp_vq.ok ⟨a, d, u, o, k + 1, t, hv.read hc ht0 (by omega) (tp_num0 hn).2.2⟩) (fun _ => tp_vq.l)
end Vq
def bt (α : SG) (j : Nat) : Nat := (α 121 j).toNatClampNeg
def BT (α : SG) : Prop := ∀ j, j < fN α → ∃ c, c < 256 ∧ α 121 j = nI c
theorem BT.b {α : SG} (h : BT α) {j : Nat} (hj : j < fN α) : bt α j < 256 ∧ α 121 j = nI (bt α j) := by
  obtain ⟨c, h1, h2⟩ := h j hj
  have : bt α j = c := by unfold bt; rw [h2, ps_cl (by omega)]
  rw [this]
  exact ⟨h1, h2⟩
def stF (r : Nat → Int32) : Nat → Int32 := fun k => if k < 7 then (if k < nD r then r (27 + 4 * k) else 0) else if k < 12 then (if k - 7 < nM r then r (11 + 3 * (k - 7)) else 0) else 0
def dcF (α : SG) (r : Nat → Int32) : SG := fun o k => if o = 123 then r k else if o = 125 then stF r k else if o = 120 then (if k = 2 ∨ k = 9 ∨ k = 11 ∨ k = 20 ∨ k = 21 then 0 else if k = 14 then 1 else α 120 k) else α o k
def dfF (α : SG) (e : Nat × Nat) : SG := fun o k => if o = 120 then (if k = 2 then 0 else if k = 9 then nI e.1 else if k = 10 then nI e.2 else if k = 11 then 4 else α 120 k) else α o k
def sp_duchy (α : SG) (x : Int32) : Int32 × SG := if ¬ x < 0 ∧ ¬ α 120 2 < x then (match tp_parse (bt α) x.toNatClampNeg 1000 (tp_st (bt α) x.toNatClampNeg 0) tp_z with
  | .inl e => (-1, dfF α e)
  | .inr r => (r 4, dcF α r)) else (-1, tr_ α 2)
theorem VX.vr {r : Nat → Int32} (h : VX r) (h0 : nM r ≠ 0) : VR r := by
  obtain ⟨a, d, u, o, k, t, hv⟩ := h
  exact hv.vr (by rw [← hv.n.1]; exact h0)
theorem VS.stF {r : Nat → Int32} (hv : VR r) : VS (stF r) := by
  refine ⟨fun k hk => ?_, ⟨0, by decide, by decide, rfl⟩⟩
  show bI (if k < 7 then (if k < nD r then r (27 + 4 * k) else 0) else _) 0 99
  rw [if_pos hk]
  by_cases h : k < nD r
  · rw [if_pos h]
    obtain ⟨x, h1, h2, h3⟩ := (hv.debt h).2.1
    exact ⟨x, by omega, h2, h3⟩
  · rw [if_neg h]; exact ⟨0, by decide, by decide, rfl⟩
theorem AI.dc {α : SG} {r : Nat → Int32} (hv : VR r) (h0 : nM r ≠ 0) : AI (dcF α r) := by
  have e3 : dcF α r 123 = r := funext fun k => if_pos rfl
  have e5 : dcF α r 125 = stF r := by funext k; unfold dcF; rw [if_neg (by decide), if_pos rfl]
  have ek : ∀ k, (k = 2 ∨ k = 9 ∨ k = 11 ∨ k = 20 ∨ k = 21) → dcF α r 120 k = 0 := fun k hk => by unfold dcF; rw [if_neg (by decide), if_neg (by decide), if_pos rfl, if_pos hk]
  have e14 : dcF α r 120 14 = 1 := by unfold dcF; rw [if_neg (by decide), if_neg (by decide), if_pos rfl, if_neg (by omega), if_pos rfl]
  have u0 : uN (dcF α r) = 0 := by unfold uN; rw [ek 20 (by omega)]; rfl
  have c0 : cN (dcF α r) = 0 := by unfold cN; rw [ek 21 (by omega)]; rfl
  have f0 : fN (dcF α r) = 0 := by unfold fN; rw [ek 2 (by omega)]; rfl
  refine ⟨by rw [e3]; exact hv, by rw [e5]; exact VS.stF hv, ?_, ?_, ?_, fun i hi => by omega, fun i hi => by omega, ?_, fun h => ?_⟩
  · unfold HR; rw [e3, e14]; exact Or.inr ⟨rfl, Nat.pos_of_ne_zero h0⟩
  · rw [ek 20 (by omega), u0]; exact ⟨rfl, by decide⟩
  · rw [ek 21 (by omega), c0]; exact ⟨rfl, by decide⟩
  · rw [ek 2 (by omega), f0]; exact ⟨rfl, by decide⟩
  · rw [e3] at h; exact absurd h h0
theorem dfF_k {α : SG} {e : Nat × Nat} {k : Nat} (h : k ≠ 2 ∧ k ≠ 9 ∧ k ≠ 10 ∧ k ≠ 11) : dfF α e 120 k = α 120 k := by
  unfold dfF
  rw [if_pos rfl, if_neg h.1, if_neg h.2.1, if_neg h.2.2.1, if_neg h.2.2.2]
theorem dfF_o {α : SG} {e : Nat × Nat} {o : Nat} (h : o ≠ 120) : dfF α e o = α o := funext fun k => if_neg h
theorem dfF_v {α : SG} {e : Nat × Nat} : dfF α e 120 2 = 0 ∧ dfF α e 120 9 = nI e.1 ∧ dfF α e 120 10 = nI e.2 ∧ dfF α e 120 11 = 4 := by
  unfold dfF
  refine ⟨?_, ?_, ?_, ?_⟩
  · rw [if_pos rfl, if_pos rfl]
  · rw [if_pos rfl, if_neg (by decide), if_pos rfl]
  · rw [if_pos rfl, if_neg (by decide), if_neg (by decide), if_pos rfl]
  · rw [if_pos rfl, if_neg (by decide), if_neg (by decide), if_neg (by decide), if_pos rfl]
theorem AI.df {α : SG} {e : Nat × Nat} (h : AI α) : AI (dfF α e) := by
  have f0 : fN (dfF α e) = 0 := by unfold fN; rw [dfF_v.1]; rfl
  have h2 := h
  unfold AI uN cN HR at h h2 ⊢
  rw [f0, dfF_o (o := 123) (by decide), dfF_o (o := 125) (by decide), dfF_o (o := 126) (by decide), dfF_o (o := 127) (by decide), dfF_k (k := 20) (by decide), dfF_k (k := 21) (by decide), dfF_k (k := 14) (by decide), dfF_v.1]
  exact ⟨h.1, h.2.1, h.2.2.1, h.2.2.2.1, h.2.2.2.2.1, h.2.2.2.2.2.1, h.2.2.2.2.2.2.1, ⟨rfl, by decide⟩, h.2.2.2.2.2.2.2.2⟩
theorem isA_fresh : isA 124 167 := ⟨kp_124, by decide, by decide⟩
theorem isA_r : isA 123 167 := ⟨kp_123, by decide, by decide⟩
section Dd
variable {G : GG} {n : Nat} {σ α : SG} {τ : TU} {θ : TH} {q : Int32 → Nat → SG → TU → TH → Prop} {b : Nat → Nat} {N : Nat}
/-- the lines, from one that has been read to the end -/
theorem k10_lines (hW : aw_WT n θ) {σ0 : SG} (kF : ∀ (F P : Nat) σ', GF σ0 σ' → FS F P σ' → tp_parse b N 1000 (tp_st b N 0) tp_z = .inl (F, P) → SW G 11 mX10_duchy (aw_qi q) 0 0 162 [some (.ref 120), none, none] [] (n, σ', τ, θ))
    (kO : ∀ r' σ', OF σ0 σ' → σ' 120 13 = 0 → σ' 124 = r' → VX r' → nM r' ≠ 0 → tp_parse b N 1000 (tp_st b N 0) tp_z = .inr r' → SW G 11 mX10_duchy (aw_qi q) 0 0 162 [some (.ref 120), none, none] [] (n, σ', τ, θ)) :
    ∀ (D s : Nat) (r : Nat → Int32) (σ : SG), N - s < D → RT σ b N s → σ 120 13 = 0 → σ 124 = r → VX r → OF σ0 σ → tp_parse b N D s r = tp_parse b N 1000 (tp_st b N 0) tp_z →
    SMv G 10 mX10_readLine 0 0 [.ref 120] n σ τ θ (fun n2 σ2 τ2 θ2 => aw_WT n2 θ2 ∧ SW G 11 mX10_duchy (aw_qi q) 0 0 77 [some (.ref 120), none, none] [] (n2, σ2, τ2, θ2)) := by
  have fail : ∀ (F P : Nat) σ', GF σ0 σ' → FS F P σ' → tp_parse b N 1000 (tp_st b N 0) tp_z = .inl (F, P) → SW G 11 mX10_duchy (aw_qi q) 0 0 127 [some (.ref 120), none, none] [] (n, σ', τ, θ) := fun F P σ' g x he => sgX10_duchy_127 (Nat.le_refl _) hW ⟨fun _ => kF F P σ' g x he, fun h => absurd h x.no⟩
  have fail4 : ∀ (F P : Nat) σ', GF σ0 σ' → FS F P σ' → tp_parse b N 1000 (tp_st b N 0) tp_z = .inl (F, P) → SW G 11 mX10_duchy (aw_qi q) 0 0 77 [some (.ref 120), none, none] [] (n, σ', τ, θ) := fun F P σ' g x he => sgX10_duchy_77 (Nat.le_refl _) hW ⟨fun _ => sgX10_duchy_104 (Nat.le_refl _) hW ⟨fun _ => fail F P σ' g x he, fun h => absurd h x.no⟩, fun h => absurd h x.no⟩
  intro D
  induction D with
  | zero => intro s r σ hD; omega
  | succ D ih =>
    intro s r σ hD hT h13 hr hX hG hp
    obtain ⟨a, d, u, o, k, t, hv⟩ := hX
    have hsN := hT.2.1
    unfold tp_parse at hp
    refine k10_readLine hW hT h13 hr hv (fun e he σ1 g1 x1 => ⟨hW, ?_⟩) (fun s1 r1 he σ1 g1 T1 z1 r1e => ⟨hW, ?_⟩)
    · rw [he] at hp
      exact fail4 e.1 e.2 σ1 (hG.gf.trans g1) x1 hp.symm
    · have hs1 := (tp_fin_line (b := b) (r := r) hsN).2 s1 r1 he
      have hV1 := tp_vq_line hsN hv s1 r1 he
      rw [he] at hp
      dsimp only at hp
      have g2 := hG.trans g1
      refine sgX10_duchy_77 (Nat.le_refl _) hW ⟨fun h => absurd z1 h, fun _ => ⟨fun hk => ?_, fun hk => ?_⟩⟩
      · have k3 : ¬ tp_kd b N s1 = 3 := fun e => hk (T1.k.2.2.1.mpr e)
        refine sgX10_duchy_104 (Nat.le_refl _) hW ⟨fun h => absurd z1 h, fun _ => ⟨fun hk0 => ?_, fun hk0 => ?_⟩⟩
        · have k0 := T1.k.2.2.2.mp hk0
          rw [if_pos k0] at hp
          obtain ⟨a1, d1, u1, o1, k1, t1, hv1⟩ := id hV1
          have hnM := hv1.n.1
          have ha5 := hv1.1.2
          have bad : nM r1 = 0 → SW G 11 mX10_duchy (aw_qi q) 0 0 152 [some (.ref 120), none, none] [] (n, σ1, τ, θ) := by
            intro hm
            rw [if_pos hm] at hp
            refine sgX10_duchy_152 (Nat.le_refl _) hW ?_
            rw [T1.2.2.1]
            exact k10_wrong (F := 6) hW z1 (fun σ' f x => ⟨hW, kF 6 s1 σ' (g2.hf f) x hp.symm⟩)
          refine sgX10_duchy_127 (Nat.le_refl _) hW ⟨fun h => absurd z1 h, fun _ => ?_⟩
          rw [r1e, hv1.1.1, ps_nI0 (by omega)]
          refine ⟨fun h0 => bad ?_, fun h0 => ⟨fun hm => ?_, fun hm => bad ?_⟩⟩
          · rw [hv1.2.2.2.2.2.1.1] at h0
            have := (nI_eq (b := 0) (by have := hv1.2.2.2.2.2.1.2; omega) (by omega)).mp h0
            rw [hnM]
            exact (hv1.2.2.2.2.2.2.2.2.2.2.2.2.1 this).1
          · rw [if_neg (by rw [hnM]; exact hm)] at hp
            exact kO r1 σ1 g2 z1 r1e hV1 (by rw [hnM]; exact hm) hp.symm
          · rw [hnM]; exact hm
        · have k0 : ¬ tp_kd b N s1 = 0 := fun e => hk0 (T1.k.2.2.2.mpr e)
          rw [if_neg k0, if_neg k3] at hp
          rw [T1.2.2.1]
          exact k10_wrong (F := 1) hW z1 (fun σ' f x => ⟨hW, fail 1 s1 σ' (g2.hf f) x hp.symm⟩)
      · have k3 := T1.k.2.2.1.mp hk
        rw [if_neg (by omega), if_pos k3] at hp
        have := tp_ad_lt (b := b) (tp_kdN k3 (by omega))
        refine k10_nx hW T1 (fun σ2 f2 T2 => ⟨hW, ?_⟩)
        exact ih _ r1 σ2 (by omega) T2 (f2.f.trans z1) (f2.row.trans r1e) hV1 (g2.nf f2) hp
end Dd
