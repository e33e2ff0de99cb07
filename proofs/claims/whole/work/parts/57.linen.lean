/-! ===== the text: faults are told, each line goes on ===== -/
section Ln
variable {b : Nat → Nat} {N s : Nat} {r : Nat → Int32}
theorem tp_num_e {lo hi : Nat} (h : ¬ tp_num b N s lo hi = 0) : 1 ≤ tp_num b N s lo hi ∧ tp_num b N s lo hi ≤ 6 := by
  refine ⟨Nat.pos_of_ne_zero h, ?_⟩
  unfold tp_num
  split
  · split <;> omega
  · omega
theorem tp_new_e (h : ¬ tp_new b N s r = 0) : 1 ≤ tp_new b N s r ∧ tp_new b N s r ≤ 6 := by
  refine ⟨Nat.pos_of_ne_zero h, ?_⟩
  unfold tp_new
  split
  · split <;> omega
  · omega
theorem tp_af_e {j lo hi : Nat} {e : Nat × Nat} (h : tp_af b N s j lo hi = .inl e) : 1 ≤ e.1 ∧ e.1 ≤ 6 := by
  unfold tp_af at h
  by_cases h1 : tp_w b N s j = true
  · rw [if_pos h1] at h
    by_cases h2 : tp_num b N (tp_ad b N s) lo hi = 0
    · rw [if_pos h2] at h; cases h
    · rw [if_neg h2] at h; cases h; exact tp_num_e h2
  · rw [if_neg h1] at h; cases h; exact ⟨Nat.le_of_ble_eq_true rfl, Nat.le_of_ble_eq_true rfl⟩
theorem tp_mh_e {e : Nat × Nat} (h : tp_mh b N s r = .inl e) : 1 ≤ e.1 ∧ e.1 ≤ 6 := by
  unfold tp_mh at h
  by_cases h1 : tp_ok b N s = true
  · rw [if_pos h1] at h
    by_cases h2 : tp_fd b N s r < 5
    · rw [if_pos h2] at h; cases h
    · rw [if_neg h2] at h; cases h; exact ⟨Nat.le_of_ble_eq_true rfl, Nat.le_of_ble_eq_true rfl⟩
  · rw [if_neg h1] at h; cases h; exact ⟨Nat.le_of_ble_eq_true rfl, Nat.le_of_ble_eq_true rfl⟩
theorem tp_dh_e {e : Nat × Nat} (h : tp_dh b N s r = .inl e) : 1 ≤ e.1 ∧ e.1 ≤ 6 := by
  unfold tp_dh at h
  by_cases h1 : tp_ok b N s = true
  · rw [if_pos h1] at h
    by_cases h2 : 5 ≤ tp_fd b N s r ∧ tp_fd b N s r < 9
    · rw [if_pos h2] at h; cases h
    · rw [if_neg h2] at h; cases h; exact ⟨Nat.le_of_ble_eq_true rfl, Nat.le_of_ble_eq_true rfl⟩
  · rw [if_neg h1] at h; cases h; exact ⟨Nat.le_of_ble_eq_true rfl, Nat.le_of_ble_eq_true rfl⟩
/-- what a line gives: a fault from 1 to 6, or a place farther on -/
def tp_fin (N s : Nat) (X : (Nat × Nat) ⊕ (Nat × (Nat → Int32))) : Prop := (∀ e, X = .inl e → 1 ≤ e.1 ∧ e.1 ≤ 6) ∧ ∀ s' r', X = .inr (s', r') → s < s' ∧ s' ≤ N
theorem tp_fin.l {e : Nat × Nat} (h : 1 ≤ e.1 ∧ e.1 ≤ 6) : tp_fin N s (.inl e) := ⟨fun e' h' => (by cases h'; exact h), fun s' r' h' => (by cases h')⟩
theorem tp_fin.ok {s' : Nat} {r' : Nat → Int32} (h : s < s' ∧ s' ≤ N) : tp_fin N s (.inr (s', r')) := ⟨fun e' h' => (by cases h'), fun s' r' h' => (by cases h'; exact h)⟩
theorem tp_fin_duchy (hs : s ≤ N) : tp_fin N s (tp_duchy b N s r) := by
  unfold tp_duchy
  have hA := tp_ad_ge (b := b) hs
  have hA2 := tp_ad_N (b := b) hs
  by_cases h : r 0 = 0
  · rw [if_pos h]
    rcases h1 : tp_af b N (tp_ad b N s) 7 1 20 with e | ⟨v1, s1⟩
    · exact tp_fin.l (tp_af_e h1)
    · have l1 := tp_af_r h1 hA2
      dsimp only
      rcases h2 : tp_af b N s1 8 0 100 with e | ⟨v2, s2⟩
      · exact tp_fin.l (tp_af_e h2)
      · have l2 := tp_af_r h2 l1.2.2
        dsimp only
        rcases h3 : tp_af b N s2 9 0 100 with e | ⟨v3, s3⟩
        · exact tp_fin.l (tp_af_e h3)
        · have l3 := tp_af_r h3 l2.2.2
          dsimp only
          rcases h4 : tp_af b N s3 10 0 100 with e | ⟨v4, s4⟩
          · exact tp_fin.l (tp_af_e h4)
          · have l4 := tp_af_r h4 l3.2.2
            exact tp_fin.ok ⟨by omega, l4.2.2⟩
  · rw [if_neg h]; exact tp_fin.l ⟨Nat.le_of_ble_eq_true rfl, Nat.le_of_ble_eq_true rfl⟩
theorem tp_fin_man (hs : s ≤ N) : tp_fin N s (tp_man b N s r) := by
  unfold tp_man
  have hA := tp_ad_ge (b := b) hs
  have hA2 := tp_ad_N (b := b) hs
  have hB := tp_ad_ge (b := b) hA2
  have hB2 := tp_ad_N (b := b) hA2
  have hC := tp_ad_ge (b := b) hB2
  have hC2 := tp_ad_N (b := b) hB2
  by_cases h : tp_new b N (tp_ad b N s) r = 0
  · rw [if_pos h]
    by_cases h2 : tp_kind b N (tp_ad b N (tp_ad b N s)) < 4
    · rw [if_pos h2]
      rcases h1 : tp_af b N (tp_ad b N (tp_ad b N (tp_ad b N s))) 15 0 99 with e | ⟨v1, s1⟩
      · exact tp_fin.l (tp_af_e h1)
      · have l1 := tp_af_r h1 hC2
        dsimp only
        rcases h2 : tp_af b N s1 16 0 9 with e | ⟨v2, s2⟩
        · exact tp_fin.l (tp_af_e h2)
        · have l2 := tp_af_r h2 l1.2.2
          exact tp_fin.ok ⟨by omega, l2.2.2⟩
    · rw [if_neg h2]; exact tp_fin.l ⟨Nat.le_of_ble_eq_true rfl, Nat.le_of_ble_eq_true rfl⟩
  · rw [if_neg h]; exact tp_fin.l (tp_new_e h)
theorem tp_fin_claim {B M : Nat} (hs : s ≤ N) : tp_fin N s (tp_claim b N s r B M) := by
  unfold tp_claim
  have hA := tp_ad_ge (b := b) hs
  have hA2 := tp_ad_N (b := b) hs
  have hB := tp_ad_ge (b := b) hA2
  have hB2 := tp_ad_N (b := b) hA2
  have hC := tp_ad_ge (b := b) hB2
  have hC2 := tp_ad_N (b := b) hB2
  have hD := tp_ad_ge (b := b) hC2
  have hD2 := tp_ad_N (b := b) hC2
  rcases h1 : tp_mh b N (tp_ad b N s) r with e | x
  · exact tp_fin.l (tp_mh_e h1)
  · dsimp only
    rcases h2 : tp_mh b N (tp_ad b N (tp_ad b N s)) r with e | y
    · exact tp_fin.l (tp_mh_e h2)
    · dsimp only
      by_cases h3 : x = y
      · rw [if_pos h3]; exact tp_fin.l ⟨Nat.le_of_ble_eq_true rfl, Nat.le_of_ble_eq_true rfl⟩
      · rw [if_neg h3]
        by_cases h4 : tp_num b N (tp_ad b N (tp_ad b N (tp_ad b N s))) 1 99 = 0
        · rw [if_pos h4]
          rcases h5 : tp_af b N (tp_ad b N (tp_ad b N (tp_ad b N (tp_ad b N s)))) 17 0 9 with e | ⟨v1, s1⟩
          · exact tp_fin.l (tp_af_e h5)
          · have l1 := tp_af_r h5 hD2
            exact tp_fin.ok ⟨by omega, l1.2.2⟩
        · rw [if_neg h4]; exact tp_fin.l (tp_num_e h4)
theorem tp_fin_door (hs : s ≤ N) : tp_fin N s (tp_door b N s r) := by
  unfold tp_door
  have hA := tp_ad_ge (b := b) hs
  have hA2 := tp_ad_N (b := b) hs
  have hB := tp_ad_ge (b := b) hA2
  have hB2 := tp_ad_N (b := b) hA2
  by_cases h : tp_new b N (tp_ad b N s) r = 0
  · rw [if_pos h]
    rcases h1 : tp_af b N (tp_ad b N (tp_ad b N s)) 18 0 40 with e | ⟨v1, s1⟩
    · exact tp_fin.l (tp_af_e h1)
    · have l1 := tp_af_r h1 hB2
      exact tp_fin.ok ⟨by omega, l1.2.2⟩
  · rw [if_neg h]; exact tp_fin.l (tp_new_e h)
theorem tp_fin_invite (hs : s ≤ N) : tp_fin N s (tp_invite b N s r) := by
  unfold tp_invite
  have hA := tp_ad_ge (b := b) hs
  have hA2 := tp_ad_N (b := b) hs
  have hB := tp_ad_ge (b := b) hA2
  have hB2 := tp_ad_N (b := b) hA2
  rcases h1 : tp_mh b N (tp_ad b N s) r with e | m
  · exact tp_fin.l (tp_mh_e h1)
  · dsimp only
    by_cases h3 : r (73 + m) = 0
    · rw [if_pos h3]
      rcases h2 : tp_dh b N (tp_ad b N (tp_ad b N s)) r with e | y
      · exact tp_fin.l (tp_dh_e h2)
      · have hN := tp_kdN (tp_dh_r h2).1 (by omega)
        have := tp_ad_lt (b := b) hN
        exact tp_fin.ok ⟨by omega, tp_ad_N hB2⟩
    · rw [if_neg h3]; exact tp_fin.l ⟨Nat.le_of_ble_eq_true rfl, Nat.le_of_ble_eq_true rfl⟩
theorem tp_fin_read (hs : s ≤ N) : tp_fin N s (tp_read b N s r) := by
  unfold tp_read
  have hA := tp_ad_ge (b := b) hs
  have hA2 := tp_ad_N (b := b) hs
  have hB := tp_ad_ge (b := b) hA2
  have hB2 := tp_ad_N (b := b) hA2
  rcases h1 : tp_mh b N (tp_ad b N s) r with e | m
  · exact tp_fin.l (tp_mh_e h1)
  · dsimp only
    by_cases h4 : tp_num b N (tp_ad b N (tp_ad b N s)) 0 40 = 0
    · rw [if_pos h4]
      have hN := tp_kdN (tp_num0 h4).1 (by omega)
      have := tp_ad_lt (b := b) hN
      exact tp_fin.ok ⟨by omega, tp_ad_N hB2⟩
    · rw [if_neg h4]; exact tp_fin.l (tp_num_e h4)
theorem tp_fin_if {c : Prop} [Decidable c] {X Y : (Nat × Nat) ⊕ (Nat × (Nat → Int32))} (h1 : tp_fin N s X) (h2 : tp_fin N s Y) : tp_fin N s (if c then X else Y) := by
  split
  · exact h1
  · exact h2
theorem tp_fin_line (hs : s ≤ N) : tp_fin N s (tp_line b N s r) := by
  unfold tp_line
  refine tp_fin_if (tp_fin_duchy hs) (tp_fin_if ?_ (tp_fin_if ?_ (tp_fin_if ?_ (tp_fin_if ?_ (tp_fin_if ?_ (tp_fin_if ?_ (tp_fin.l ⟨Nat.le_of_ble_eq_true rfl, Nat.le_of_ble_eq_true rfl⟩)))))))
  · exact tp_fin_if (tp_fin.l ⟨Nat.le_of_ble_eq_true rfl, Nat.le_of_ble_eq_true rfl⟩) (tp_fin_if (tp_fin_man hs) (tp_fin.l ⟨Nat.le_of_ble_eq_true rfl, Nat.le_of_ble_eq_true rfl⟩))
  · exact tp_fin_if (tp_fin.l ⟨Nat.le_of_ble_eq_true rfl, Nat.le_of_ble_eq_true rfl⟩) (tp_fin_if (tp_fin_claim hs) (tp_fin.l ⟨Nat.le_of_ble_eq_true rfl, Nat.le_of_ble_eq_true rfl⟩))
  · exact tp_fin_if (tp_fin.l ⟨Nat.le_of_ble_eq_true rfl, Nat.le_of_ble_eq_true rfl⟩) (tp_fin_if (tp_fin_claim hs) (tp_fin.l ⟨Nat.le_of_ble_eq_true rfl, Nat.le_of_ble_eq_true rfl⟩))
  · exact tp_fin_if (tp_fin.l ⟨Nat.le_of_ble_eq_true rfl, Nat.le_of_ble_eq_true rfl⟩) (tp_fin_if (tp_fin_door hs) (tp_fin.l ⟨Nat.le_of_ble_eq_true rfl, Nat.le_of_ble_eq_true rfl⟩))
  · exact tp_fin_if (tp_fin.l ⟨Nat.le_of_ble_eq_true rfl, Nat.le_of_ble_eq_true rfl⟩) (tp_fin_invite hs)
  · exact tp_fin_if (tp_fin.l ⟨Nat.le_of_ble_eq_true rfl, Nat.le_of_ble_eq_true rfl⟩) (tp_fin_if (tp_fin_read hs) (tp_fin.l ⟨Nat.le_of_ble_eq_true rfl, Nat.le_of_ble_eq_true rfl⟩))
theorem tp_parse_e : ∀ (D s : Nat) (r : Nat → Int32) (e : Nat × Nat), s ≤ N → tp_parse b N D s r = .inl e → 1 ≤ e.1 ∧ e.1 ≤ 6
  | 0, s, r, e, _, h => by
    have h : Sum.inl (1, s) = Sum.inl e := h
    cases h
    exact ⟨Nat.le_of_ble_eq_true rfl, Nat.le_of_ble_eq_true rfl⟩
  | D + 1, s, r, e, hs, h => by
    unfold tp_parse at h
    obtain ⟨f1, f2⟩ := tp_fin_line (b := b) (r := r) hs
    rcases h1 : tp_line b N s r with e' | ⟨s', r'⟩
    · rw [h1] at h
      cases h
      exact f1 _ h1
    · rw [h1] at h
      have hs' := (f2 s' r' h1).2
      dsimp only at h
      by_cases h2 : tp_kd b N s' = 0
      · rw [if_pos h2] at h
        by_cases h3 : nM r' = 0
        · rw [if_pos h3] at h; cases h; exact ⟨Nat.le_of_ble_eq_true rfl, Nat.le_of_ble_eq_true rfl⟩
        · rw [if_neg h3] at h; cases h
      · rw [if_neg h2] at h
        by_cases h3 : tp_kd b N s' = 3
        · rw [if_pos h3] at h
          exact tp_parse_e D _ _ e (tp_ad_N hs') h
        · rw [if_neg h3] at h; cases h; exact ⟨Nat.le_of_ble_eq_true rfl, Nat.le_of_ble_eq_true rfl⟩
end Ln
/-! the rest of the class's reading -/
def tp_z : Nat → Int32 := fun _ => 0
theorem VQ.z : VQ tp_z 0 0 0 0 0 0 := by
  refine ⟨⟨rfl, by decide⟩, ⟨rfl, by decide⟩, ⟨rfl, by decide⟩, ⟨rfl, by decide⟩, ⟨rfl, by decide⟩, ⟨rfl, by decide⟩, ⟨⟨0, by decide, by decide, rfl⟩, ⟨0, by decide, by decide, rfl⟩, ⟨0, by decide, by decide, rfl⟩⟩, fun m hm => absurd hm (by omega), fun m hm => absurd hm (by omega), fun m hm => absurd hm (by omega), fun m hm => absurd hm (by omega), fun m hm => absurd hm (by omega), fun _ => ⟨rfl, rfl, rfl, rfl, rfl⟩, rfl, fun m _ _ => rfl, fun m hm => absurd hm (by omega), fun m hm => absurd hm (by omega), fun m _ _ => rfl, fun m _ _ => rfl, fun m e hm => absurd hm (by omega)⟩
section Lm
variable {G : GG} {n : Nat} {σ : SG} {τ : TU} {θ : TH} {q : Int32 → Nat → SG → TU → TH → Prop} {qv : Nat → SG → TU → TH → Prop} {b : Nat → Nat} {N s : Nat} {r : Nat → Int32} {f : Nat}
set_option maxHeartbeats 4000000 in
theorem k8_readClaim {c cn B M cnt a d u o k t : Nat} (hf : isF f) (hW : aw_WT n θ) (hT : CT σ b N s) (hv : VQ r a d u o k t) (hC : FC σ f r a d u o k) (hN : NKC τ r a o) (h5 : σ 2 5 = 0 ↔ r 0 = 0) (hM0 : 0 < M ∧ M < 10) (hB : 25 ≤ B) (hBe : B + 4 * cnt + 3 < 86)
    (hc : isC c cn) (hcf : c = f + 8 ∨ c = f + 13) (hcn : cn ≤ 7) (hcnt : cnt ≤ cn) (e4 : σ c 4 = nI cnt) (hMr : (r M).toNatClampNeg = cnt)
    (fin : ∀ x y cc g, cnt < cn → x < a → y < a → x ≠ y → 1 ≤ cc ∧ cc ≤ 99 → g ≤ 9 → ∃ d' u', VQ (tp_rcl r B M cnt x y cc g) a d' u' o k t ∧ FC (aw_u (aw_u (aw_u (aw_u (aw_u σ (c + 1) cnt (nI x)) (c + 2) cnt (nI y)) (c + 3) cnt (nI cc)) (c + 4) cnt (nI g)) c 4 (nI (cnt + 1))) f (tp_rcl r B M cnt x y cc g) a d' u' o k)
    (h0 : ∀ e, (if cnt < cn then tp_claim b N s r B M else .inl (5, s)) = .inl e → ∀ σ' τ', LF f σ σ' → σ' 2 6 = nI e.1 → σ' 2 1 = nI e.2 → q 0 n σ' τ' θ)
    (h1 : ∀ s' r', (if cnt < cn then tp_claim b N s r B M else .inl (5, s)) = .inr (s', r') → ∀ σ' τ', LF f σ σ' → CT σ' b N s' → DX σ' τ' f r' → q 1 n σ' τ' θ) : SMi G 8 mX8_readClaim 0 0 [.ref 2, .ref f, .ref c] n σ τ θ q := by
  have hr := hf.r
  have ha5 := hv.1.2
  refine ctX8_readClaim f c cn (sgX8_readClaim_0 f c cn (Nat.le_refl _) hf hc hW ?_)
  refine ctX0_isFull c cn (sgX0_isFull_0 c cn (Nat.le_refl _) hc hW ?_)
  rw [e4, show (nI cnt < Int32.ofNat cn) ↔ cnt < cn from nI_ltI (by omega) (by omega)]
  refine ⟨fun h => ⟨hW, fun _ => ?_, fun e => absurd rfl e⟩, fun h => ⟨hW, fun e => absurd e (by decide), fun _ => ?_⟩⟩
  · rw [if_pos h] at h0 h1
    unfold tp_claim at h0 h1
    refine k8_adv hW hT (fun σ1 f1 T1 => ⟨hW, ?_⟩)
    have E1 := (EQ2.rf σ).tf f1.tf
    have Z1 := (S2.rf σ).tf f1.tf
    refine k8_manHere hf hW T1 hv (hC.eq2 hf E1) hN (fun x hx hxa => ⟨hW, fun _ => ?_, fun e => absurd e (ps_nm1 (by omega))⟩) (fun e he σ2 f2 x6 x1 => ⟨hW, fun e => absurd rfl e, fun _ => ?_⟩)
    · rw [hx] at h0 h1
      dsimp only at h0 h1
      refine k8_adv hW T1 (fun σ2 f2 T2 => ⟨hW, ?_⟩)
      have E2 := E1.tf f2.tf
      have Z2 := Z1.tf f2.tf
      refine k8_manHere hf hW T2 hv (hC.eq2 hf E2) hN (fun y hy hya => ⟨hW, fun _ => ?_, fun e => absurd e (ps_nm1 (by omega))⟩) (fun e he σ3 f3 x6 x1 => ⟨hW, fun e => absurd rfl e, fun _ => ?_⟩)
      · rw [hy] at h0 h1
        dsimp only at h0 h1
        rw [nI_eq (by omega) (by omega)]
        refine ⟨fun hxy => ?_, fun hxy => ?_⟩
        · rw [if_neg (fun e => hxy e.symm)] at h0 h1
          refine k8_adv hW T2 (fun σ3 f3 T3 => ⟨hW, ?_⟩)
          have E3 := E2.tf f3.tf
          have Z3 := Z2.tf f3.tf
          refine k8_whole (lo := 1) (hi := 99) hW T3 (by decide) (by decide) (fun hn σ4 f4 T4 w4 => ⟨hW, fun _ => ?_, fun e => absurd e (by decide)⟩) (fun hn σ4 f4 x6 x1 => ⟨hW, fun e => absurd rfl e, fun _ => ?_⟩)
          · rw [if_pos hn] at h0 h1
            have E4 := E3.tf f4
            have Z4 := Z3.tf f4
            refine k8_after (j := 17) (lo := 0) (hi := 9) rfl hW T4 (by decide) (by decide) (fun g s2 e2 σ5 f5 T5 w5 => ?_) (fun e he σ5 f5 x6 x1 => ?_)
            · rw [e2] at h1
              dsimp only at h1
              rw [hMr] at h1
              have E5 := E4.tf f5
              have Z5 := Z4.tf f5
              have e45 : σ5 c 4 = nI cnt := (E5 c 4 (by omega)).trans e4
              rw [e45, aw_u_ne (by omega), aw_u_ne (by omega), aw_u_ne (by omega), w4, w5, ps_cl (by omega), nI_1]
              refine ⟨vp_in_nI h (by omega), vp_in_nI h (by omega), vp_in_nI h (by omega), vp_in_nI h (by omega), ?_⟩
              have bg := (tp_af_r e2 T4.2.1).1
              obtain ⟨d', u', v1, v2⟩ := fin x y (tp_val b N (tp_ad b N (tp_ad b N (tp_ad b N s)))) g h hxa hya (fun e => hxy e.symm) (tp_num0 hn).2 bg.2
              have E6 := ((((E5.up (c + 1) cnt (nI x)).up (c + 2) cnt (nI y)).up (c + 3) cnt (nI (tp_val b N (tp_ad b N (tp_ad b N (tp_ad b N s)))))).up (c + 4) cnt (nI g)).up c 4 (nI (cnt + 1))
              have Z6 := ((((Z5.up (o := c + 1) (k := cnt) (v := nI x) (by omega)).up (o := c + 2) (k := cnt) (v := nI y) (by omega)).up (o := c + 3) (k := cnt) (v := nI (tp_val b N (tp_ad b N (tp_ad b N (tp_ad b N s))))) (by omega)).up (o := c + 4) (k := cnt) (v := nI g) (by omega)).up (o := c) (k := 4) (v := nI (cnt + 1)) (by omega)
              refine h1 _ _ rfl _ _ (LF.of E6 (fun o ho => ?_) Z6.1) (((((T5.up (o := c + 1) (by omega) (by omega)).up (o := c + 2) (by omega) (by omega)).up (o := c + 3) (by omega) (by omega)).up (o := c + 4) (by omega) (by omega)).up (o := c) (by omega) (by omega)) ⟨a, d', u', o, k, t, v1, v2.eq2 hf E6, hN.c hv (fun j hj => ?_), ?_⟩
              · rw [aw_uo (by omega), aw_uo (by omega), aw_uo (by omega), aw_uo (by omega), aw_uo (by omega)]
              · unfold tp_rcl
                rw [pu_ne (by omega), pu_ne (by omega), pu_ne (by omega), pu_ne (by omega), pu_ne (by omega)]
              · rw [Z6.2]
                unfold tp_rcl
                rw [pu_ne (by omega), pu_ne (by omega), pu_ne (by omega), pu_ne (by omega), pu_ne (by omega)]
                exact h5
            · rw [he] at h0
              exact h0 e rfl σ5 _ (LF.of (E4.tf f5) (fun o ho => rfl) (Z4.tf f5).1) x6 x1
          · rw [if_neg hn] at h0
            exact h0 _ rfl σ4 _ (LF.of (E3.tf f4) (fun o ho => rfl) (Z3.tf f4).1) x6 x1
        · rw [if_pos hxy.symm] at h0
          exact k8_blame hW T2.2.2.1 (fun σ' g x6 x1 => ⟨hW, Or.inl rfl, h0 _ rfl σ' _ (LF.of (E2.tf g) (fun o ho => rfl) (Z2.tf g).1) x6 x1⟩)
      · rw [he] at h0
        exact h0 e rfl σ3 _ (LF.of (E2.tf f3) (fun o ho => rfl) (Z2.tf f3).1) x6 x1
    · rw [he] at h0
      exact h0 e rfl σ2 _ (LF.of (E1.tf f2) (fun o ho => rfl) (Z1.tf f2).1) x6 x1
  · rw [if_neg h] at h0
    exact k8_blame hW hT.2.2.1 (fun σ' g e6 e1 => ⟨hW, Or.inl rfl, h0 _ rfl σ' τ (LF.tf g) e6 e1⟩)
theorem isF.cd (hf : isF f) : isC (f + 8) 7 := by
  unfold isF at hf
  simp only [List.mem_cons, List.not_mem_nil, or_false] at hf
  rcases hf with rfl | rfl <;> (unfold isC; decide)
theorem isF.cu (hf : isF f) : isC (f + 13) 4 := by
  unfold isF at hf
  simp only [List.mem_cons, List.not_mem_nil, or_false] at hf
  rcases hf with rfl | rfl <;> (unfold isC; decide)
set_option maxHeartbeats 4000000 in
theorem k8_readLine (hf : isF f) (hW : aw_WT n θ) (hT : CT σ b N s) (hX : DX σ τ f r)
    (h0 : ∀ e, tp_line b N s r = .inl e → ∀ σ' τ', LF f σ σ' → σ' 2 6 = nI e.1 → σ' 2 1 = nI e.2 → q 0 n σ' τ' θ)
    (h1 : ∀ s' r', tp_line b N s r = .inr (s', r') → ∀ σ' τ', LF f σ σ' → CT σ' b N s' → DX σ' τ' f r' → q 1 n σ' τ' θ) : SMi G 9 mX8_readLine 0 0 [.ref 2, .ref f] n σ τ θ q := by
  have h5 := hX.choose_spec.choose_spec.choose_spec.choose_spec.choose_spec.choose_spec.2.2.2
  refine ctX8_readLine f (sgX8_readLine_0 f (Nat.le_refl _) hf hW ?_)
  unfold tp_line at h0 h1
  refine k8_isLineWord hW hT ⟨hW, And.symm (ps_b (fun hl => ?_) (fun hl => ?_))⟩
  · have hno : ∀ i, i < 7 → ¬ tp_w b N s i = true := fun i hi e => hl (tp_lw_i.mpr ⟨i, hi, e⟩)
    rw [if_neg (hno 0 (by decide)), if_neg (hno 1 (by decide)), if_neg (hno 2 (by decide)), if_neg (hno 3 (by decide)), if_neg (hno 4 (by decide)), if_neg (hno 5 (by decide)), if_neg (hno 6 (by decide))] at h0
    exact k8_blame hW hT.2.2.1 (fun σ' g e6 e1 => ⟨hW, Or.inl rfl, h0 _ rfl σ' τ (LF.tf g) e6 e1⟩)
  · refine k8_is (j := 0) rfl hW hT ⟨hW, ps_b (fun w0 => ?_) (fun w0 => ?_)⟩
    · rw [if_neg w0] at h0 h1
      refine ⟨fun hb => ?_, fun hb => ?_⟩
      · have hr0 : ¬ r 0 = 0 := fun e => hb (h5.mpr e)
        simp only [if_neg hr0] at h0 h1
        refine k8_is (j := 1) rfl hW hT ⟨hW, ps_b (fun w1 => ?_) (fun w1 => ?_)⟩
        · rw [if_neg w1] at h0 h1
          refine k8_is (j := 2) rfl hW hT ⟨hW, ps_b (fun w2 => ?_) (fun w2 => ?_)⟩
          · rw [if_neg w2] at h0 h1
            refine k8_is (j := 3) rfl hW hT ⟨hW, ps_b (fun w3 => ?_) (fun w3 => ?_)⟩
            · rw [if_neg w3] at h0 h1
              refine k8_is (j := 4) rfl hW hT ⟨hW, ps_b (fun w4 => ?_) (fun w4 => ?_)⟩
              · rw [if_neg w4] at h0 h1
                refine k8_is (j := 5) rfl hW hT ⟨hW, ps_b (fun w5 => ?_) (fun w5 => ?_)⟩
                · have w6 : tp_w b N s 6 = true := by
                    obtain ⟨i, hi, e⟩ := tp_lw_i.mp hl
                    rcases (show i = 0 ∨ i = 1 ∨ i = 2 ∨ i = 3 ∨ i = 4 ∨ i = 5 ∨ i = 6 by omega) with rfl | rfl | rfl | rfl | rfl | rfl | rfl
                    · exact absurd e w0
                    · exact absurd e w1
                    · exact absurd e w2
                    · exact absurd e w3
                    · exact absurd e w4
                    · exact absurd e w5
                    · exact e
                  rw [if_neg w5, if_pos w6] at h0 h1
                  exact k8_readReading hf hW hT hX hr0 (fun e he σ' τ' a1 a2 a3 => ⟨hW, Or.inl rfl, h0 e he σ' τ' a1 a2 a3⟩) (fun s' r' he σ' τ' a1 a2 a3 => ⟨hW, Or.inr rfl, h1 s' r' he σ' τ' a1 a2 a3⟩)
                · rw [if_pos w5] at h0 h1
                  exact k8_readInvited hf hW hT hX hr0 (fun e he σ' τ' a1 a2 a3 => ⟨hW, Or.inl rfl, h0 e he σ' τ' a1 a2 a3⟩) (fun s' r' he σ' τ' a1 a2 a3 => ⟨hW, Or.inr rfl, h1 s' r' he σ' τ' a1 a2 a3⟩)
              · rw [if_pos w4] at h0 h1
                exact k8_readDoor hf hW hT hX hr0 (fun e he σ' τ' a1 a2 a3 => ⟨hW, Or.inl rfl, h0 e he σ' τ' a1 a2 a3⟩) (fun s' r' he σ' τ' a1 a2 a3 => ⟨hW, Or.inr rfl, h1 s' r' he σ' τ' a1 a2 a3⟩)
            · rw [if_pos w3] at h0 h1
              obtain ⟨a, d, u, o, k, t, hv, hC, hN, -⟩ := hX
              have ht0 : t ≠ 0 := fun e => hr0 (by rw [hv.2.2.2.2.2.1.1, e]; rfl)
              have hu := hv.2.2.1.2
              have hnU := hv.n.2.2.1
              rw [hnU] at h0 h1
              exact k8_readClaim (c := f + 13) (cn := 4) (B := 53) (M := 6) (cnt := u) hf hW hT hv hC hN h5 (by decide) (by decide) (by omega) hf.cu (Or.inr rfl) (by decide) hu (hC.1.2.2.2.2.2.2.1.trans hv.2.2.1.1) hnU (fun x y cc g w1 w2 w3 w4 w5 w6 => ⟨d, u + 1, hv.rum w1 ht0 w2 w3 w4 w5 w6, hC.rum hv w1⟩) (fun e he σ' τ' a1 a2 a3 => ⟨hW, Or.inl rfl, h0 e he σ' τ' a1 a2 a3⟩) (fun s' r' he σ' τ' a1 a2 a3 => ⟨hW, Or.inr rfl, h1 s' r' he σ' τ' a1 a2 a3⟩)
          · rw [if_pos w2] at h0 h1
            obtain ⟨a, d, u, o, k, t, hv, hC, hN, -⟩ := hX
            have ht0 : t ≠ 0 := fun e => hr0 (by rw [hv.2.2.2.2.2.1.1, e]; rfl)
            have hu := hv.2.1.2
            have hnD := hv.n.2.1
            rw [hnD] at h0 h1
            exact k8_readClaim (c := f + 8) (cn := 7) (B := 25) (M := 5) (cnt := d) hf hW hT hv hC hN h5 (by decide) (by decide) (by omega) hf.cd (Or.inl rfl) (by decide) hu (hC.1.2.2.2.2.2.1.trans hv.2.1.1) hnD (fun x y cc g w1 w2 w3 w4 w5 w6 => ⟨d + 1, u, hv.debt w1 ht0 w2 w3 w4 w5 w6, hC.debt hv w1⟩) (fun e he σ' τ' a1 a2 a3 => ⟨hW, Or.inl rfl, h0 e he σ' τ' a1 a2 a3⟩) (fun s' r' he σ' τ' a1 a2 a3 => ⟨hW, Or.inr rfl, h1 s' r' he σ' τ' a1 a2 a3⟩)
        · rw [if_pos w1] at h0 h1
          exact k8_readMan hf hW hT hX hr0 (fun e he σ' τ' a1 a2 a3 => ⟨hW, Or.inl rfl, h0 e he σ' τ' a1 a2 a3⟩) (fun s' r' he σ' τ' a1 a2 a3 => ⟨hW, Or.inr rfl, h1 s' r' he σ' τ' a1 a2 a3⟩)
      · have hr0 := h5.mp hb
        have hX6 : ∀ σ' τ', LF f σ σ' → σ' 2 6 = nI 6 → σ' 2 1 = nI s → q 0 n σ' τ' θ := by
          obtain ⟨i, hi, e⟩ := tp_lw_i.mp hl
          simp only [if_pos hr0] at h0
          refine fun σ' τ' a1 a2 a3 => h0 (6, s) ?_ σ' τ' a1 a2 a3
          by_cases w1 : tp_w b N s 1 = true
          · rw [if_pos w1]
          · rw [if_neg w1]
            by_cases w2 : tp_w b N s 2 = true
            · rw [if_pos w2]
            · rw [if_neg w2]
              by_cases w3 : tp_w b N s 3 = true
              · rw [if_pos w3]
              · rw [if_neg w3]
                by_cases w4 : tp_w b N s 4 = true
                · rw [if_pos w4]
                · rw [if_neg w4]
                  by_cases w5 : tp_w b N s 5 = true
                  · rw [if_pos w5]
                  · rw [if_neg w5]
                    by_cases w6 : tp_w b N s 6 = true
                    · rw [if_pos w6]
                    · exfalso
                      rcases (show i = 0 ∨ i = 1 ∨ i = 2 ∨ i = 3 ∨ i = 4 ∨ i = 5 ∨ i = 6 by omega) with rfl | rfl | rfl | rfl | rfl | rfl | rfl
                      · exact absurd e w0
                      · exact absurd e w1
                      · exact absurd e w2
                      · exact absurd e w3
                      · exact absurd e w4
                      · exact absurd e w5
                      · exact absurd e w6
        exact k8_blame hW hT.2.2.1 (fun σ' g e6 e1 => ⟨hW, Or.inl rfl, hX6 σ' τ (LF.tf g) e6 e1⟩)
    · rw [if_pos w0] at h0 h1
      exact k8_readDuchy hf hW hT hX (fun e he σ' τ' a1 a2 a3 => ⟨hW, Or.inl rfl, h0 e he σ' τ' a1 a2 a3⟩) (fun s' r' he σ' τ' a1 a2 a3 => ⟨hW, Or.inr rfl, h1 s' r' he σ' τ' a1 a2 a3⟩)
theorem LF.trans {σ σ' σ'' : SG} (h : LF f σ σ') (h' : LF f σ' σ'') : LF f σ σ'' := ⟨fun o h1 h2 => (h'.1 o h1 h2).trans (h.1 o h1 h2), h'.2.trans h.2⟩
theorem k8_blamed {x : Int32} (hW : aw_WT n θ) (hs : σ 2 9 = nI s) (hq : ∀ σ', TF σ σ' → σ' 2 1 = nI s → q x n σ' τ θ) : SMi G 2 mX8_blamed 0 0 [.ref 2, .int x] n σ τ θ q :=
  ctX8_blamed _ (sgX8_blamed_0 _ (Nat.le_refl _) hW (k8_blame hW hs (fun σ' g _ e1 => ⟨hW, hq σ' g e1⟩)))
theorem DX.tf {σ' : SG} (h : DX σ τ f r) (hf : isF f) (hg : TF σ σ') : DX σ' τ f r := by
  obtain ⟨a, d, u, o, k, t, hv, hC, hN, h5⟩ := h
  exact ⟨a, d, u, o, k, t, hv, hC.eq2 hf ((EQ2.rf σ).tf hg), hN, by rw [hg 2 5 (by omega)]; exact h5⟩
set_option maxHeartbeats 4000000 in
theorem k8_readLoop (hf : isF f) (hW : aw_WT n θ) {σ0 : SG} : ∀ (D s L : Nat) (r : Nat → Int32) (σ : SG) (τ : TU), N - s < D → L ≤ s → CT σ b N s → DX σ τ f r → LF f σ0 σ →
    (∀ e, tp_parse b N D s r = .inl e → ∀ σ' τ', LF f σ0 σ' → σ' 2 1 = nI e.2 → q (nI e.1) n σ' τ' θ) → (∀ r', tp_parse b N D s r = .inr r' → nM r' ≠ 0 → ∀ σ' τ', LF f σ0 σ' → DX σ' τ' f r' → q 0 n σ' τ' θ) →
    SW G 10 mX8_readInto (aw_qi q) 0 0 45 [some (.ref 2), some (.ref f), none, some (.int (nI L))] [] (n, σ, τ, θ)
  | 0, s, L, r, σ, τ, hD, _, _, _, _, _, _ => absurd hD (by omega)
  | D + 1, s, L, r, σ, τ, hD, hL, hT, hX, hF, h0, h1 => by
    have hN9 := hT.1.2.1
    have hsN := hT.2.1
    refine sgX8_readInto_45 f _ (Nat.le_refl _) hf hW ⟨fun h => absurd h (nI_nlt (a := 900) (by omega) (by omega)), fun _ => ?_⟩
    unfold tp_parse at h0 h1
    refine k8_readLine hf hW hT hX (fun e he σ1 τ1 g e6 e1 => ⟨hW, fun h => absurd rfl h, fun _ => ?_⟩) (fun s1 r1 he σ1 τ1 g T1 X1 => ⟨hW, fun _ => ?_, fun h => absurd h (by decide)⟩)
    · rw [he] at h0
      rw [e6]
      exact h0 e rfl σ1 τ1 (hF.trans g) e1
    · rw [he] at h0 h1
      dsimp only at h0 h1
      have hs1 := (tp_fin_line (b := b) (r := r) hsN).2 s1 r1 he
      refine ⟨fun hk0 => ⟨fun hk3 => ?_, fun hk3 => ?_⟩, fun hk0 => ?_⟩
      · have k3 := (T1.k 3 (by decide)).mp hk3
        rw [if_neg (by omega), if_pos k3] at h0 h1
        refine k8_adv hW T1 (fun σ2 f2 T2 => ⟨hW, ?_⟩)
        rw [nI_1]
        have := tp_ad_lt (b := b) (tp_kdN k3 (by omega))
        exact k8_readLoop hf hW D _ (L + 1) r1 σ2 τ1 (by omega) (by omega) T2 (X1.tf hf f2.tf) ((hF.trans g).trans (LF.tf f2.tf)) h0 h1
      · have k3 : ¬ tp_kd b N s1 = 3 := fun e => hk3 ((T1.k 3 (by decide)).mpr e)
        have k0 : ¬ tp_kd b N s1 = 0 := fun e => hk0 ((T1.k 0 (by decide)).mpr e)
        rw [if_neg k0, if_neg k3] at h0
        exact k8_blamed hW T1.2.2.1 (fun σ' g' e1 => ⟨hW, h0 _ rfl σ' _ ((hF.trans g).trans (LF.tf g')) e1⟩)
      · have k0 := (T1.k 0 (by decide)).mp hk0
        rw [if_pos k0] at h0 h1
        obtain ⟨a, d, u, o, k, t, hv, hC, hN, h5⟩ := id X1
        have hnM := hv.n.1
        have ha5 := hv.1.2
        rw [hC.1.2.2.2.2.1, hv.1.1, ps_nI0 (by omega)]
        rw [hnM] at h0 h1
        refine ⟨fun ha => ?_, fun ha => ?_⟩
        · rw [if_neg ha] at h1
          exact h1 _ rfl (by rw [hnM]; exact ha) σ1 τ1 (hF.trans g) X1
        · rw [if_pos ha] at h0
          exact k8_blamed hW T1.2.2.1 (fun σ' g' e1 => ⟨hW, h0 _ rfl σ' _ ((hF.trans g).trans (LF.tf g')) e1⟩)
end Lm
