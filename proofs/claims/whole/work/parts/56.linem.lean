/-! ===== the text: the class's lines, the methods ===== -/
def S2 (σ σ' : SG) : Prop := σ' 2 0 = σ 2 0 ∧ σ' 2 5 = σ 2 5
theorem S2.rf (σ : SG) : S2 σ σ := ⟨rfl, rfl⟩
theorem S2.tf {σ σ' σ'' : SG} (h : S2 σ σ') (hf : TF σ' σ'') : S2 σ σ'' := ⟨(hf 2 0 (by omega)).trans h.1, (hf 2 5 (by omega)).trans h.2⟩
theorem S2.up {σ σ' : SG} (h : S2 σ σ') {o k : Nat} {v : Int32} (ho : o ≠ 2) : S2 σ (aw_u σ' o k v) := ⟨(aw_u_ne (fun e => ho e.symm)).trans h.1, (aw_u_ne (fun e => ho e.symm)).trans h.2⟩
theorem ps_dec {P : Prop} [Decidable P] {B : Bool} (h : P ↔ B = true) : decide P = B := by
  by_cases hB : B = true
  · rw [hB, decide_eq_true (h.mpr hB)]
  · have hB2 : B = false := by simpa using hB
    rw [hB2, decide_eq_false (fun e => hB (h.mp e))]
theorem ps_nm1 {x : Nat} (h : x < 2 ^ 31) : ¬ nI x = -1 := fun e => nI_pos h (by rw [e]; decide)
theorem isB_men : isB 4 5 := ⟨kp_4, by decide, by decide⟩
theorem isB_doors : isB 5 4 := ⟨kp_5, by decide, by decide⟩
theorem EQ2.rf (σ : SG) : EQ2 σ σ := fun _ _ _ => rfl
theorem CT.up {σ : SG} {b : Nat → Nat} {N s o k : Nat} {v : Int32} (h : CT σ b N s) (h2 : o ≠ 2) (h3 : o ≠ 3) : CT (aw_u σ o k v) b N s := h.mono (fun k _ => aw_u_ne (fun e => h2 e.symm)) (fun j => aw_u_ne (fun e => h3 e.symm))
theorem NKC.man {τ : TU} {b : Nat → Nat} {N t : Nat} {r : Nat → Int32} {a d u o k tt kd c g : Nat} (h : NKC τ r a o) (hv : VQ r a d u o k tt) (ha : a < 5) (hk : tp_kd b N t = 1) : NKC (aw_u τ 4 a (lN (tp_cd (fun k => b (t + k)) (tp_en b N t - t)))) (tp_rman b N t r a kd c g) (a + 1) o := by
  obtain ⟨-, -, -, m1, m2, -, -, m3⟩ := tp_kd1 hk
  have q := hv.2.2.2.2.2.2.2.2.2.2.2.2.2.2.2
  have w4 := hv.2.2.2.1.2
  have hp : ∀ j, 86 ≤ j → tp_rman b N t r a kd c g j = tp_put b N t r a j := fun j h1 => by
    unfold tp_rman
    rw [pu_ne (by omega), pu_ne (by omega), pu_ne (by omega), pu_ne (by omega)]
  refine ⟨fun m hm => ?_, fun e he => ?_⟩
  · by_cases e : m = a
    · subst e
      rw [aw_u_eq, nmc_put hk (by omega) hp]
    · rw [aw_u_nk e, nmc_c (q.1 m (by omega)) ((hp _ (by omega)).trans (tp_put_o m2 (by omega) (by omega))) (fun k hk => (hp _ (by omega)).trans (tp_put_o m2 (by omega) (by omega)))]
      exact h.1 m (by omega)
  · rw [aw_u_ne (by decide), nmc_c (q.2.1 e he) ((hp _ (by omega)).trans (tp_put_o m2 (by omega) (by omega))) (fun k hk => (hp _ (by omega)).trans (tp_put_o m2 (by omega) (by omega)))]
    exact h.2 e he
theorem NKC.door {τ : TU} {b : Nat → Nat} {N t : Nat} {r : Nat → Int32} {a d u o k tt w : Nat} (h : NKC τ r a o) (hv : VQ r a d u o k tt) (ha : o < 4) (hk : tp_kd b N t = 1) : NKC (aw_u τ 5 o (lN (tp_cd (fun k => b (t + k)) (tp_en b N t - t)))) (tp_rdoor b N t r o w) a (o + 1) := by
  obtain ⟨-, -, -, m1, m2, -, -, m3⟩ := tp_kd1 hk
  have q := hv.2.2.2.2.2.2.2.2.2.2.2.2.2.2.2
  have w4 := hv.1.2
  have hp : ∀ j, 86 ≤ j → tp_rdoor b N t r o w j = tp_put b N t r (5 + o) j := fun j h1 => by
    unfold tp_rdoor
    rw [pu_ne (by omega), pu_ne (by omega)]
  refine ⟨fun m hm => ?_, fun e he => ?_⟩
  · rw [aw_u_ne (by decide), nmc_c (q.1 m hm) ((hp _ (by omega)).trans (tp_put_o m2 (by omega) (by omega))) (fun k hk => (hp _ (by omega)).trans (tp_put_o m2 (by omega) (by omega)))]
    exact h.1 m hm
  · by_cases e2 : e = o
    · subst e2
      rw [aw_u_eq, nmc_put hk (by omega) hp]
    · rw [aw_u_nk e2, nmc_c (q.2.1 e (by omega)) ((hp _ (by omega)).trans (tp_put_o m2 (by omega) (by omega))) (fun k hk => (hp _ (by omega)).trans (tp_put_o m2 (by omega) (by omega)))]
      exact h.2 e (by omega)
section Lc
variable {G : GG} {n : Nat} {σ : SG} {τ : TU} {θ : TH} {q : Int32 → Nat → SG → TU → TH → Prop} {qv : Nat → SG → TU → TH → Prop} {b : Nat → Nat} {N s : Nat} {r : Nat → Int32} {f : Nat}
theorem k8_after {j lo hi : Nat} {st : String × Nat × String × List Int32} {X Y : Nat → SG → TU → TH → Prop} (hj : aw_strs[j]? = some st) (hW : aw_WT n θ) (hT : CT σ b N s) (hlo : lo < 1000) (hhi : hi < 1000)
    (h1 : ∀ v s', tp_af b N s j lo hi = .inr (v, s') → ∀ σ', TF σ σ' → CT σ' b N s' → σ' 2 11 = nI v → X n σ' τ θ)
    (h0 : ∀ e, tp_af b N s j lo hi = .inl e → ∀ σ', TF σ σ' → σ' 2 6 = nI e.1 → σ' 2 1 = nI e.2 → Y n σ' τ θ) :
    SMi G 6 mX8_expect 0 0 [.ref 2, .ref (1000 + j)] n σ τ θ (fun a2 n2 σ2 τ2 θ2 => aw_WT n2 θ2 ∧ ((a2 = 0 → Y n2 σ2 τ2 θ2) ∧ (¬ a2 = 0 → SMi G 3 mX8_wholeWithin 0 0 [.ref 2, .int (nI lo), .int (nI hi)] n2 σ2 τ2 θ2 (fun a3 n3 σ3 τ3 θ3 => aw_WT n3 θ3 ∧ ((¬ a3 = 0 → X n3 σ3 τ3 θ3) ∧ (a3 = 0 → Y n3 σ3 τ3 θ3)))))) := by
  refine k8_expect hj hW hT (fun hw σ1 f1 T1 => ⟨hW, fun h => absurd h (by decide), fun _ => ?_⟩) (fun hw σ1 f1 e6 e1 => ⟨hW, fun _ => ?_, fun h => absurd rfl h⟩)
  · refine k8_whole hW T1 hlo hhi (fun hn σ2 f2 T2 w2 => ⟨hW, fun _ => h1 _ _ ?_ σ2 (f1.trans f2) T2 w2, fun h => absurd h (by decide)⟩) (fun hn σ2 f2 e6 e1 => ⟨hW, fun h => absurd rfl h, fun _ => h0 (tp_num b N (tp_ad b N s) lo hi, tp_ad b N s) ?_ σ2 (f1.trans f2) e6 e1⟩)
    · unfold tp_af; rw [if_pos hw, if_pos hn]
    · unfold tp_af; rw [if_pos hw, if_neg hn]
  · exact h0 (1, s) (by unfold tp_af; rw [if_neg hw]) σ1 f1 e6 e1
theorem k8_kindHere (hW : aw_WT n θ) (hT : CT σ b N s) (hq : q (if tp_kind b N s < 4 then nI (tp_kind b N s) else -1) n σ τ θ) : SMi G 6 mX8_kindHere 0 0 [.ref 2] n σ τ θ q := by
  refine ctX8_kindHere (sgX8_kindHere_0 (Nat.le_refl _) hW ?_)
  unfold tp_kind at hq
  refine k8_is (j := 11) rfl hW hT ⟨hW, ps_b (fun h => ?_) (fun h => ?_)⟩
  · rw [if_neg h] at hq
    refine k8_is (j := 12) rfl hW hT ⟨hW, ps_b (fun h => ?_) (fun h => ?_)⟩
    · rw [if_neg h] at hq
      refine k8_is (j := 13) rfl hW hT ⟨hW, ps_b (fun h => ?_) (fun h => ?_)⟩
      · rw [if_neg h] at hq
        refine k8_is (j := 14) rfl hW hT ⟨hW, ps_b (fun h => ?_) (fun h => ?_)⟩
        · rw [if_neg h, if_neg (by decide)] at hq
          exact hq
        · rw [if_pos h, if_pos (by decide)] at hq
          exact hq
      · rw [if_pos h, if_pos (by decide)] at hq
        exact hq
    · rw [if_pos h, if_pos (by decide)] at hq
      exact hq
  · rw [if_pos h, if_pos (by decide)] at hq
    exact hq
theorem k8_isNewName {a d u o k t : Nat} (hf : isF f) (hW : aw_WT n θ) (hT : CT σ b N s) (hv : VQ r a d u o k t) (hC : FC σ f r a d u o k) (hN : NKC τ r a o) (h1 : tp_new b N s r = 0 → q 1 n σ τ θ) (h0 : tp_new b N s r ≠ 0 → ∀ σ', TF σ σ' → σ' 2 6 = nI (tp_new b N s r) → σ' 2 1 = nI s → q 0 n σ' τ θ) : SMi G 7 mX8_isNewName 0 0 [.ref 2, .ref f] n σ τ θ q := by
  have hq16 := hv.2.2.2.2.2.2.2.2.2.2.2.2.2.2.2
  have ha5 := hv.1.2
  have ho4 := hv.2.2.2.1.2
  refine ctX8_isNewName f (sgX8_isNewName_0 f (Nat.le_refl _) hf hW ⟨fun h => ?_, fun h => ?_⟩)
  · have hn : tp_new b N s r = 1 := by unfold tp_new; rw [if_neg (fun e => h ((hT.k 1 (by decide)).mpr (tp_ok_iff.mp e).1))]
    exact k8_blame hW hT.2.2.1 (fun σ' g e6 e1 => ⟨hW, Or.inl rfl, h0 (by omega) σ' g (by rw [e6, hn]; rfl) e1⟩)
  · have hk := (hT.k 1 (by decide)).mp h
    refine k8_isLineWord hW hT ⟨hW, ps_b (fun hl => ?_) (fun hl => ?_)⟩
    · have hok : tp_ok b N s = true := tp_ok_iff.mpr ⟨hk, hl⟩
      refine k8_code hW hT hk ⟨hW, ?_⟩
      rw [hC.1.2.2.2.2.1, hv.1.1]
      refine k8_indexOf (c := a) isB_men hW ha5 (by decide) ⟨hW, ?_⟩
      rw [tp_up_c (P' := fun i => !tp_nm b N s r i) (fun i hi => by rw [hN.1 i hi, ps_dec (nmc_eq (hq16.1 i hi) hk)])]
      obtain ⟨x1, x2⟩ := tp_ixm hv hk
      by_cases hu : tp_up a (fun i => !tp_nm b N s r i) 0 < a
      · rw [if_pos hu]
        have hn : tp_new b N s r = 3 := by unfold tp_new; rw [if_pos hok, if_pos (by have := x1 hu; omega)]
        exact ⟨fun _ => k8_blame hW hT.2.2.1 (fun σ' g e6 e1 => ⟨hW, Or.inl rfl, h0 (by omega) σ' g (by rw [e6, hn]; rfl) e1⟩), fun e => absurd e (ps_nm1 (by omega))⟩
      · rw [if_neg hu]
        have x5 := x2 hu
        refine ⟨fun e => absurd rfl e, fun _ => ?_⟩
        rw [hC.1.2.2.2.2.2.2.2.1, hv.2.2.2.1.1]
        refine k8_indexOf (c := o) isB_doors hW ho4 (by decide) ⟨hW, ?_⟩
        rw [tp_up_c (P' := fun i => !tp_nm b N s r (5 + i)) (fun i hi => by rw [hN.2 i hi, ps_dec (nmc_eq (hq16.2.1 i hi) hk)])]
        obtain ⟨y1, y2⟩ := tp_ixd hv hk
        by_cases hw : tp_up o (fun i => !tp_nm b N s r (5 + i)) 0 < o
        · rw [if_pos hw]
          have hn : tp_new b N s r = 3 := by unfold tp_new; rw [if_pos hok, if_pos (by have := y1 hw; omega)]
          exact ⟨fun e => absurd e (ps_nm1 (by omega)), fun _ => k8_blame hW hT.2.2.1 (fun σ' g e6 e1 => ⟨hW, Or.inl rfl, h0 (by omega) σ' g (by rw [e6, hn]; rfl) e1⟩)⟩
        · rw [if_neg hw]
          have hn : tp_new b N s r = 0 := by unfold tp_new; rw [if_pos hok, if_neg (by have := y2 hw; omega)]
          exact ⟨fun _ => h1 hn, fun e => absurd rfl e⟩
    · have hn : tp_new b N s r = 1 := by unfold tp_new; rw [if_neg (fun e => (tp_ok_iff.mp e).2 hl)]
      exact k8_blame hW hT.2.2.1 (fun σ' g e6 e1 => ⟨hW, Or.inl rfl, h0 (by omega) σ' g (by rw [e6, hn]; rfl) e1⟩)
theorem k8_manHere {a d u o k t : Nat} (hf : isF f) (hW : aw_WT n θ) (hT : CT σ b N s) (hv : VQ r a d u o k t) (hC : FC σ f r a d u o k) (hN : NKC τ r a o) (h1 : ∀ m, tp_mh b N s r = .inr m → m < a → q (nI m) n σ τ θ) (h0 : ∀ e, tp_mh b N s r = .inl e → ∀ σ', TF σ σ' → σ' 2 6 = nI e.1 → σ' 2 1 = nI e.2 → q (-1) n σ' τ θ) : SMi G 7 mX8_manHere 0 0 [.ref 2, .ref f] n σ τ θ q := by
  have hq16 := hv.2.2.2.2.2.2.2.2.2.2.2.2.2.2.2
  have ha5 := hv.1.2
  refine ctX8_manHere f (sgX8_manHere_0 f (Nat.le_refl _) hf hW ⟨fun h => ?_, fun h => ?_⟩)
  · have hn : tp_mh b N s r = .inl (1, s) := by unfold tp_mh; rw [if_neg (fun e => h ((hT.k 1 (by decide)).mpr (tp_ok_iff.mp e).1))]
    exact k8_blame hW hT.2.2.1 (fun σ' g e6 e1 => ⟨hW, h0 _ hn σ' g e6 e1⟩)
  · have hk := (hT.k 1 (by decide)).mp h
    refine k8_isLineWord hW hT ⟨hW, ps_b (fun hl => ?_) (fun hl => ?_)⟩
    · have hok : tp_ok b N s = true := tp_ok_iff.mpr ⟨hk, hl⟩
      refine k8_code hW hT hk ⟨hW, ?_⟩
      rw [hC.1.2.2.2.2.1, hv.1.1]
      refine k8_indexOf (c := a) isB_men hW ha5 (by decide) ⟨hW, ?_⟩
      rw [tp_up_c (P' := fun i => !tp_nm b N s r i) (fun i hi => by rw [hN.1 i hi, ps_dec (nmc_eq (hq16.1 i hi) hk)])]
      obtain ⟨x1, x2⟩ := tp_ixm hv hk
      by_cases hu : tp_up a (fun i => !tp_nm b N s r i) 0 < a
      · rw [if_pos hu]
        have x3 := x1 hu
        have hn : tp_mh b N s r = .inr (tp_up a (fun i => !tp_nm b N s r i) 0) := by unfold tp_mh; rw [if_pos hok, if_pos (by omega), x3]
        exact ⟨fun _ => h1 _ hn hu, fun e => absurd e (ps_nm1 (by omega))⟩
      · rw [if_neg hu]
        have hn : tp_mh b N s r = .inl (2, s) := by unfold tp_mh; rw [if_pos hok, if_neg (by have := x2 hu; omega)]
        exact ⟨fun e => absurd rfl e, fun _ => k8_blame hW hT.2.2.1 (fun σ' g e6 e1 => ⟨hW, h0 _ hn σ' g e6 e1⟩)⟩
    · have hn : tp_mh b N s r = .inl (1, s) := by unfold tp_mh; rw [if_neg (fun e => (tp_ok_iff.mp e).2 hl)]
      exact k8_blame hW hT.2.2.1 (fun σ' g e6 e1 => ⟨hW, h0 _ hn σ' g e6 e1⟩)
set_option maxHeartbeats 4000000 in
theorem k8_readDuchy (hf : isF f) (hW : aw_WT n θ) (hT : CT σ b N s) (hX : DX σ τ f r)
    (h0 : ∀ e, tp_duchy b N s r = .inl e → ∀ σ' τ', LF f σ σ' → σ' 2 6 = nI e.1 → σ' 2 1 = nI e.2 → q 0 n σ' τ' θ)
    (h1 : ∀ s' r', tp_duchy b N s r = .inr (s', r') → ∀ σ' τ', LF f σ σ' → CT σ' b N s' → DX σ' τ' f r' → q 1 n σ' τ' θ) : SMi G 7 mX8_readDuchy 0 0 [.ref 2, .ref f] n σ τ θ q := by
  have hr := hf.r
  obtain ⟨a, d, u, o, k, t, hv, hC, hN, h5⟩ := hX
  refine ctX8_readDuchy f (sgX8_readDuchy_0 f (Nat.le_refl _) hf hW ⟨fun h => ?_, fun h => ?_⟩)
  · have hr0 := h5.mp h
    unfold tp_duchy at h0 h1
    rw [if_pos hr0] at h0 h1
    have hT0 : CT (aw_u σ 2 5 1) b N s := hT.mono (fun k hk => aw_u_nk (by omega)) (fun j => aw_u_ne (by decide))
    have E0 : EQ2 σ (aw_u σ 2 5 1) := (EQ2.rf σ).up2 5 1
    have Z0 : (aw_u σ 2 5 1) 2 0 = σ 2 0 ∧ (aw_u σ 2 5 1) 2 5 = 1 := ⟨aw_u_nk (by decide), aw_u_eq⟩
    generalize aw_u σ 2 5 1 = σ0 at hT0 E0 Z0 ⊢
    refine k8_adv hW hT0 (fun σ1 f1 T1 => ⟨hW, ?_⟩)
    refine k8_after (j := 7) (lo := 1) (hi := 20) rfl hW T1 (by decide) (by decide) (fun v1 s1 e1 σ2 f2 T2 w2 => ?_) (fun e he σ2 f2 x6 x1 => ?_)
    · rw [e1] at h0 h1
      rw [w2]
      have E2 := ((E0.tf f1.tf).tf f2).up f 9 (nI v1)
      have Z2 := ((S2.rf σ0).tf f1.tf).tf f2
      have Z2' := Z2.up (o := f) (k := 9) (v := nI v1) (by omega)
      refine k8_after (j := 8) (lo := 0) (hi := 100) rfl hW (T2.up (o := f) (by omega) (by omega)) (by decide) (by decide) (fun v2 s2 e2 σ3 f3 T3 w3 => ?_) (fun e he σ3 f3 x6 x1 => ?_)
      · dsimp only at h0 h1
        rw [e2] at h0 h1
        rw [w3]
        have E3 := (E2.tf f3).up f 10 (nI v2)
        have Z3 := (Z2'.tf f3).up (o := f) (k := 10) (v := nI v2) (by omega)
        refine k8_after (j := 9) (lo := 0) (hi := 100) rfl hW (T3.up (o := f) (by omega) (by omega)) (by decide) (by decide) (fun v3 s3 e3 σ4 f4 T4 w4 => ?_) (fun e he σ4 f4 x6 x1 => ?_)
        · dsimp only at h0 h1
          rw [e3] at h0 h1
          rw [w4]
          have E4 := (E3.tf f4).up f 11 (nI v3)
          have Z4 := (Z3.tf f4).up (o := f) (k := 11) (v := nI v3) (by omega)
          refine k8_after (j := 10) (lo := 0) (hi := 100) rfl hW (T4.up (o := f) (by omega) (by omega)) (by decide) (by decide) (fun v4 s4 e4 σ5 f5 T5 w5 => ?_) (fun e he σ5 f5 x6 x1 => ?_)
          · dsimp only at h0 h1
            rw [e4] at h0 h1
            rw [w5]
            have E5 := (E4.tf f5).up f 12 (nI v4)
            have Z5 := (Z4.tf f5).up (o := f) (k := 12) (v := nI v4) (by omega)
            have b1 := (tp_af_r e1 (tp_ad_N hT.2.1)).1
            have b2 := (tp_af_r e2 T2.2.1).1
            have b3 := (tp_af_r e3 T3.2.1).1
            have b4 := (tp_af_r e4 T4.2.1).1
            refine h1 _ _ rfl _ _ (LF.of E5 (fun o ho => ?_) (Z5.1.trans Z0.1)) (T5.up (o := f) (by omega) (by omega)) ⟨a, d, u, o, k, v1, hv.duchy b1 b2.2 b3.2 b4.2, (hC.duchy hv).eq2 hf E5, hN.c hv (fun j hj => ?_), ?_⟩
            · rw [aw_uo (by omega), aw_uo (by omega), aw_uo (by omega), aw_uo (by omega)]
            · rw [pu_ne (by omega), pu_ne (by omega), pu_ne (by omega), pu_ne (by omega)]
            · rw [Z5.2, Z0.2, pu_eq]
              exact ⟨fun e => absurd e (by decide), fun e => absurd e (nI_ne0 (by omega) (by omega))⟩
          · dsimp only at h0
            rw [he] at h0
            exact h0 e rfl σ5 _ (LF.of (E4.tf f5) (fun o ho => by rw [aw_uo (by omega), aw_uo (by omega), aw_uo (by omega)]) ((Z4.tf f5).1.trans Z0.1)) x6 x1
        · dsimp only at h0
          rw [he] at h0
          exact h0 e rfl σ4 _ (LF.of (E3.tf f4) (fun o ho => by rw [aw_uo (by omega), aw_uo (by omega)]) ((Z3.tf f4).1.trans Z0.1)) x6 x1
      · dsimp only at h0
        rw [he] at h0
        exact h0 e rfl σ3 _ (LF.of (E2.tf f3) (fun o ho => by rw [aw_uo (by omega)]) ((Z2'.tf f3).1.trans Z0.1)) x6 x1
    · rw [he] at h0
      exact h0 e rfl σ2 _ (LF.of ((E0.tf f1.tf).tf f2) (fun o ho => rfl) ((((S2.rf σ0).tf f1.tf).tf f2).1.trans Z0.1)) x6 x1
  · have hr0 : ¬ r 0 = 0 := fun e => h (h5.mpr e)
    unfold tp_duchy at h0
    rw [if_neg hr0] at h0
    exact k8_blame hW hT.2.2.1 (fun σ' g e6 e1 => ⟨hW, Or.inl rfl, h0 _ rfl σ' τ (LF.tf g) e6 e1⟩)
set_option maxHeartbeats 4000000 in
theorem k8_readMan (hf : isF f) (hW : aw_WT n θ) (hT : CT σ b N s) (hX : DX σ τ f r) (hr0 : r 0 ≠ 0)
    (h0 : ∀ e, (if nM r < 5 then tp_man b N s r else .inl (5, s)) = .inl e → ∀ σ' τ', LF f σ σ' → σ' 2 6 = nI e.1 → σ' 2 1 = nI e.2 → q 0 n σ' τ' θ)
    (h1 : ∀ s' r', (if nM r < 5 then tp_man b N s r else .inl (5, s)) = .inr (s', r') → ∀ σ' τ', LF f σ σ' → CT σ' b N s' → DX σ' τ' f r' → q 1 n σ' τ' θ) : SMi G 8 mX8_readMan 0 0 [.ref 2, .ref f] n σ τ θ q := by
  have hr := hf.r
  obtain ⟨a, d, u, o, k, t, hv, hC, hN, h5⟩ := hX
  have hnM := hv.n.1
  have ha5 := hv.1.2
  have ht0 : t ≠ 0 := fun e => hr0 (by rw [hv.2.2.2.2.2.1.1, e]; rfl)
  rw [hnM] at h0 h1
  refine ctX8_readMan f (sgX8_readMan_0 f (Nat.le_refl _) hf hW ?_)
  rw [hC.1.2.2.2.2.1, hv.1.1, ps_cl (by omega), show (nI a < 5) ↔ a < 5 from nI_ltI (b := 5) (by omega) (by omega)]
  refine ⟨fun h => ?_, fun h => ?_⟩
  · rw [if_pos h] at h0 h1
    unfold tp_man at h0 h1
    refine k8_adv hW hT (fun σ1 f1 T1 => ⟨hW, ?_⟩)
    have E1 := (EQ2.rf σ).tf f1.tf
    have Z1 := (S2.rf σ).tf f1.tf
    refine k8_isNewName hf hW T1 hv (hC.eq2 hf E1) hN (fun hn => ⟨hW, fun _ => ?_, fun e => absurd e (by decide)⟩) (fun hn σ2 f2 x6 x1 => ⟨hW, fun e => absurd rfl e, fun _ => ?_⟩)
    · rw [if_pos hn] at h0 h1
      obtain ⟨n1, n2, n3⟩ := tp_new_0 hn
      have m2 := (tp_kd1 n1).2.2.2.2.1
      refine k8_code hW T1 n1 ⟨hW, ps_in (by omega) (by decide), ?_⟩
      refine k8_adv hW T1 (fun σ2 f2 T2 => ⟨hW, ?_⟩)
      have E2 := E1.tf f2.tf
      have Z2 := Z1.tf f2.tf
      refine k8_kindHere hW T2 ⟨hW, ?_⟩
      by_cases hkd : tp_kind b N (tp_ad b N (tp_ad b N s)) < 4
      · rw [if_pos hkd] at h0 h1 ⊢
        refine ⟨fun _ => ?_, fun e => absurd e (ps_nm1 (by omega))⟩
        refine k8_adv hW T2 (fun σ3 f3 T3 => ⟨hW, ?_⟩)
        have E3 := E2.tf f3.tf
        have Z3 := Z2.tf f3.tf
        refine k8_after (j := 15) (lo := 0) (hi := 99) rfl hW T3 (by decide) (by decide) (fun c s1 e1 σ4 f4 T4 w4 => ⟨ps_in (by omega) (by decide), ?_⟩) (fun e he σ4 f4 x6 x1 => ?_)
        · rw [e1] at h0 h1
          rw [w4]
          have E4 := (E3.tf f4).up (f + 2) a (nI c)
          have Z4 := (Z3.tf f4).up (o := f + 2) (k := a) (v := nI c) (by omega)
          refine k8_after (j := 16) (lo := 0) (hi := 9) rfl hW (T4.up (o := f + 2) (by omega) (by omega)) (by decide) (by decide) (fun g s2 e2 σ5 f5 T5 w5 => ⟨ps_in (by omega) (by decide), ps_in (by omega) (by decide), ps_in (by omega) (by decide), ?_⟩) (fun e he σ5 f5 x6 x1 => ?_)
          · dsimp only at h0 h1
            rw [e2] at h0 h1
            rw [w5, nI_1]
            have E5 := ((((E4.tf f5).up (f + 3) a (nI g)).up (f + 1) a (nI (tp_kind b N (tp_ad b N (tp_ad b N s))))).up (f + 4) a (-1)).up f 13 (nI (a + 1))
            have Z5 := ((((Z4.tf f5).up (o := f + 3) (k := a) (v := nI g) (by omega)).up (o := f + 1) (k := a) (v := nI (tp_kind b N (tp_ad b N (tp_ad b N s)))) (by omega)).up (o := f + 4) (k := a) (v := -1) (by omega)).up (o := f) (k := 13) (v := nI (a + 1)) (by omega)
            have b1 := (tp_af_r e1 T3.2.1).1
            have b2 := (tp_af_r e2 T4.2.1).1
            rw [hnM] at h1
            refine h1 _ _ rfl _ _ (LF.of E5 (fun o ho => ?_) Z5.1) ((((T5.up (o := f + 3) (by omega) (by omega)).up (o := f + 1) (by omega) (by omega)).up (o := f + 4) (by omega) (by omega)).up (o := f) (by omega) (by omega)) ⟨a + 1, d, u, o, k, t, hv.man h ht0 hn (by omega) b1.2 b2.2, (hC.man hv m2 h).eq2 hf E5, hN.man hv h n1, ?_⟩
            · rw [aw_uo (by omega), aw_uo (by omega), aw_uo (by omega), aw_uo (by omega), aw_uo (by omega)]
            · rw [Z5.2]
              unfold tp_rman
              rw [pu_ne (by omega), pu_ne (by omega), pu_ne (by omega), pu_ne (by omega), tp_put_o m2 (by omega) (by omega)]
              exact h5
          · dsimp only at h0
            rw [he] at h0
            exact h0 e rfl σ5 _ (LF.of (E4.tf f5) (fun o ho => by rw [aw_uo (by omega)]) (Z4.tf f5).1) x6 x1
        · rw [he] at h0
          exact h0 e rfl σ4 _ (LF.of (E3.tf f4) (fun o ho => rfl) (Z3.tf f4).1) x6 x1
      · rw [if_neg hkd] at h0 ⊢
        exact ⟨fun e => absurd rfl e, fun _ => k8_blame hW T2.2.2.1 (fun σ' g x6 x1 => ⟨hW, Or.inl rfl, h0 _ rfl σ' _ (LF.of (E2.tf g) (fun o ho => rfl) (Z2.tf g).1) x6 x1⟩)⟩
    · rw [if_neg hn] at h0
      exact h0 _ rfl σ2 _ (LF.of (E1.tf f2) (fun o ho => rfl) (Z1.tf f2).1) x6 x1
  · rw [if_neg h] at h0
    exact k8_blame hW hT.2.2.1 (fun σ' g e6 e1 => ⟨hW, Or.inl rfl, h0 _ rfl σ' τ (LF.tf g) e6 e1⟩)
set_option maxHeartbeats 4000000 in
theorem k8_readDoor (hf : isF f) (hW : aw_WT n θ) (hT : CT σ b N s) (hX : DX σ τ f r) (hr0 : r 0 ≠ 0)
    (h0 : ∀ e, (if nO r < 4 then tp_door b N s r else .inl (5, s)) = .inl e → ∀ σ' τ', LF f σ σ' → σ' 2 6 = nI e.1 → σ' 2 1 = nI e.2 → q 0 n σ' τ' θ)
    (h1 : ∀ s' r', (if nO r < 4 then tp_door b N s r else .inl (5, s)) = .inr (s', r') → ∀ σ' τ', LF f σ σ' → CT σ' b N s' → DX σ' τ' f r' → q 1 n σ' τ' θ) : SMi G 8 mX8_readDoor 0 0 [.ref 2, .ref f] n σ τ θ q := by
  have hr := hf.r
  obtain ⟨a, d, u, o, k, t, hv, hC, hN, h5⟩ := hX
  have hnO := hv.n.2.2.2.1
  have ho4 := hv.2.2.2.1.2
  have ht0 : t ≠ 0 := fun e => hr0 (by rw [hv.2.2.2.2.2.1.1, e]; rfl)
  rw [hnO] at h0 h1
  refine ctX8_readDoor f (sgX8_readDoor_0 f (Nat.le_refl _) hf hW ?_)
  rw [hC.1.2.2.2.2.2.2.2.1, hv.2.2.2.1.1, ps_cl (by omega), show (nI o < 4) ↔ o < 4 from nI_ltI (b := 4) (by omega) (by omega)]
  refine ⟨fun h => ?_, fun h => ?_⟩
  · rw [if_pos h] at h0 h1
    unfold tp_door at h0 h1
    refine k8_adv hW hT (fun σ1 f1 T1 => ⟨hW, ?_⟩)
    have E1 := (EQ2.rf σ).tf f1.tf
    have Z1 := (S2.rf σ).tf f1.tf
    refine k8_isNewName hf hW T1 hv (hC.eq2 hf E1) hN (fun hn => ⟨hW, fun _ => ?_, fun e => absurd e (by decide)⟩) (fun hn σ2 f2 x6 x1 => ⟨hW, fun e => absurd rfl e, fun _ => ?_⟩)
    · rw [if_pos hn] at h0 h1
      obtain ⟨n1, n2, n3⟩ := tp_new_0 hn
      have m2 := (tp_kd1 n1).2.2.2.2.1
      refine k8_code hW T1 n1 ⟨hW, ps_in (by omega) (by decide), ?_⟩
      refine k8_adv hW T1 (fun σ2 f2 T2 => ⟨hW, ?_⟩)
      have E2 := E1.tf f2.tf
      have Z2 := Z1.tf f2.tf
      refine k8_after (j := 18) (lo := 0) (hi := 40) rfl hW T2 (by decide) (by decide) (fun w s1 e1 σ4 f4 T4 w4 => ⟨ps_in (by omega) (by decide), ?_⟩) (fun e he σ4 f4 x6 x1 => ?_)
      · rw [e1] at h0 h1
        rw [w4, nI_1]
        have E4 := ((E2.tf f4).up (f + 5) o (nI w)).up f 14 (nI (o + 1))
        have Z4 := ((Z2.tf f4).up (o := f + 5) (k := o) (v := nI w) (by omega)).up (o := f) (k := 14) (v := nI (o + 1)) (by omega)
        have b1 := (tp_af_r e1 T2.2.1).1
        dsimp only at h1
        rw [hnO] at h1
        refine h1 _ _ rfl _ _ (LF.of E4 (fun o ho => ?_) Z4.1) ((T4.up (o := f + 5) (by omega) (by omega)).up (o := f) (by omega) (by omega)) ⟨a, d, u, o + 1, k, t, hv.door h ht0 hn b1.2, (hC.door hv m2 h).eq2 hf E4, hN.door hv h n1, ?_⟩
        · rw [aw_uo (by omega), aw_uo (by omega)]
        · rw [Z4.2]
          unfold tp_rdoor
          rw [pu_ne (by omega), pu_ne (by omega), tp_put_o m2 (by omega) (by omega)]
          exact h5
      · rw [he] at h0
        exact h0 e rfl σ4 _ (LF.of (E2.tf f4) (fun o ho => rfl) (Z2.tf f4).1) x6 x1
    · rw [if_neg hn] at h0
      exact h0 _ rfl σ2 _ (LF.of (E1.tf f2) (fun o ho => rfl) (Z1.tf f2).1) x6 x1
  · rw [if_neg h] at h0
    exact k8_blame hW hT.2.2.1 (fun σ' g e6 e1 => ⟨hW, Or.inl rfl, h0 _ rfl σ' τ (LF.tf g) e6 e1⟩)
set_option maxHeartbeats 4000000 in
theorem k8_readReading (hf : isF f) (hW : aw_WT n θ) (hT : CT σ b N s) (hX : DX σ τ f r) (hr0 : r 0 ≠ 0)
    (h0 : ∀ e, (if nR r < 4 then tp_read b N s r else .inl (5, s)) = .inl e → ∀ σ' τ', LF f σ σ' → σ' 2 6 = nI e.1 → σ' 2 1 = nI e.2 → q 0 n σ' τ' θ)
    (h1 : ∀ s' r', (if nR r < 4 then tp_read b N s r else .inl (5, s)) = .inr (s', r') → ∀ σ' τ', LF f σ σ' → CT σ' b N s' → DX σ' τ' f r' → q 1 n σ' τ' θ) : SMi G 8 mX8_readReading 0 0 [.ref 2, .ref f] n σ τ θ q := by
  have hr := hf.r
  obtain ⟨a, d, u, o, k, t, hv, hC, hN, h5⟩ := hX
  have hnR := hv.n.2.2.2.2.1
  have hk4 := hv.2.2.2.2.1.2
  have ha5 := hv.1.2
  have ht0 : t ≠ 0 := fun e => hr0 (by rw [hv.2.2.2.2.2.1.1, e]; rfl)
  rw [hnR] at h0 h1
  refine ctX8_readReading f (sgX8_readReading_0 f (Nat.le_refl _) hf hW ?_)
  rw [hC.1.2.2.2.2.2.2.2.2, hv.2.2.2.2.1.1, ps_cl (by omega), show (nI k < 4) ↔ k < 4 from nI_ltI (b := 4) (by omega) (by omega)]
  refine ⟨fun h => ?_, fun h => ?_⟩
  · rw [if_pos h] at h0 h1
    unfold tp_read at h0 h1
    refine k8_adv hW hT (fun σ1 f1 T1 => ⟨hW, ?_⟩)
    have E1 := (EQ2.rf σ).tf f1.tf
    have Z1 := (S2.rf σ).tf f1.tf
    refine k8_manHere hf hW T1 hv (hC.eq2 hf E1) hN (fun m hm hma => ⟨hW, fun _ => ?_, fun e => absurd e (ps_nm1 (by omega))⟩) (fun e he σ2 f2 x6 x1 => ⟨hW, fun e => absurd rfl e, fun _ => ?_⟩)
    · rw [hm] at h0 h1
      dsimp only at h0 h1
      refine k8_adv hW T1 (fun σ2 f2 T2 => ⟨hW, ?_⟩)
      have E2 := E1.tf f2.tf
      have Z2 := Z1.tf f2.tf
      refine k8_whole (lo := 0) (hi := 40) hW T2 (by decide) (by decide) (fun hn σ3 f3 T3 w3 => ⟨hW, fun _ => ⟨ps_in (by omega) (by decide), ps_in (by omega) (by decide), ?_⟩, fun e => absurd e (by decide)⟩) (fun hn σ3 f3 x6 x1 => ⟨hW, fun e => absurd rfl e, fun _ => ?_⟩)
      · rw [if_pos hn] at h1
        rw [aw_u_ne (by omega), w3, nI_1]
        have E4 := (((E2.tf f3).up (f + 6) k (nI m)).up (f + 7) k (nI (tp_val b N (tp_ad b N (tp_ad b N s))))).up f 15 (nI (k + 1))
        have Z4 := (((Z2.tf f3).up (o := f + 6) (k := k) (v := nI m) (by omega)).up (o := f + 7) (k := k) (v := nI (tp_val b N (tp_ad b N (tp_ad b N s)))) (by omega)).up (o := f) (k := 15) (v := nI (k + 1)) (by omega)
        rw [hnR] at h1
        refine h1 _ _ rfl _ _ (LF.of E4 (fun o ho => ?_) Z4.1) (((T3.up (o := f + 6) (by omega) (by omega)).up (o := f + 7) (by omega) (by omega)).up (o := f) (by omega) (by omega)) ⟨a, d, u, o, k + 1, t, hv.read h ht0 hma (tp_num0 hn).2.2, (hC.read hv h).eq2 hf E4, hN.c hv (fun j hj => ?_), ?_⟩
        · rw [aw_uo (by omega), aw_uo (by omega), aw_uo (by omega)]
        · unfold tp_rread
          rw [pu_ne (by omega), pu_ne (by omega), pu_ne (by omega)]
        · rw [Z4.2]
          unfold tp_rread
          rw [pu_ne (by omega), pu_ne (by omega), pu_ne (by omega)]
          exact h5
      · rw [if_neg hn] at h0
        exact h0 _ rfl σ3 _ (LF.of (E2.tf f3) (fun o ho => rfl) (Z2.tf f3).1) x6 x1
    · rw [he] at h0
      exact h0 e rfl σ2 _ (LF.of (E1.tf f2) (fun o ho => rfl) (Z1.tf f2).1) x6 x1
  · rw [if_neg h] at h0
    exact k8_blame hW hT.2.2.1 (fun σ' g e6 e1 => ⟨hW, Or.inl rfl, h0 _ rfl σ' τ (LF.tf g) e6 e1⟩)
set_option maxHeartbeats 4000000 in
theorem k8_readInvited (hf : isF f) (hW : aw_WT n θ) (hT : CT σ b N s) (hX : DX σ τ f r) (hr0 : r 0 ≠ 0)
    (h0 : ∀ e, tp_invite b N s r = .inl e → ∀ σ' τ', LF f σ σ' → σ' 2 6 = nI e.1 → σ' 2 1 = nI e.2 → q 0 n σ' τ' θ)
    (h1 : ∀ s' r', tp_invite b N s r = .inr (s', r') → ∀ σ' τ', LF f σ σ' → CT σ' b N s' → DX σ' τ' f r' → q 1 n σ' τ' θ) : SMi G 8 mX8_readInvited 0 0 [.ref 2, .ref f] n σ τ θ q := by
  have hr := hf.r
  obtain ⟨a, d, u, o, k, t, hv, hC, hN, h5⟩ := hX
  have ha5 := hv.1.2
  have ho4 := hv.2.2.2.1.2
  have hq16 := hv.2.2.2.2.2.2.2.2.2.2.2.2.2.2.2
  refine ctX8_readInvited f (sgX8_readInvited_0 f (Nat.le_refl _) hf hW ?_)
  unfold tp_invite at h0 h1
  refine k8_adv hW hT (fun σ1 f1 T1 => ⟨hW, ?_⟩)
  have E1 := (EQ2.rf σ).tf f1.tf
  have Z1 := (S2.rf σ).tf f1.tf
  have C1 := hC.eq2 hf E1
  refine k8_manHere hf hW T1 hv C1 hN (fun m hm hma => ⟨hW, fun _ => ⟨ps_in (by omega) (by decide), ?_⟩, fun e => absurd e (ps_nm1 (by omega))⟩) (fun e he σ2 f2 x6 x1 => ⟨hW, fun e => absurd rfl e, fun _ => ?_⟩)
  · rw [hm] at h0 h1
    dsimp only at h0 h1
    rw [ps_cl (by omega), (C1.2.1 m hma).2.2.2, ps_sub1, show (-1 : Int32) + 1 = 0 by decide]
    refine ⟨fun hz => ?_, fun hz => ?_⟩
    · rw [if_pos hz] at h0 h1
      refine k8_adv hW T1 (fun σ2 f2 T2 => ⟨hW, ?_⟩)
      have E2 := E1.tf f2.tf
      have Z2 := Z1.tf f2.tf
      have C2 := hC.eq2 hf E2
      refine ⟨fun h => ?_, fun h => ?_⟩
      · have hn : tp_dh b N (tp_ad b N (tp_ad b N s)) r = .inl (1, tp_ad b N (tp_ad b N s)) := by unfold tp_dh; rw [if_neg (fun e => h ((T2.k 1 (by decide)).mpr (tp_ok_iff.mp e).1))]
        rw [hn] at h0
        exact k8_blame hW T2.2.2.1 (fun σ' g x6 x1 => ⟨hW, Or.inl rfl, h0 _ rfl σ' _ (LF.of (E2.tf g) (fun o ho => rfl) (Z2.tf g).1) x6 x1⟩)
      · have hk := (T2.k 1 (by decide)).mp h
        refine k8_isLineWord hW T2 ⟨hW, ps_b (fun hl => ?_) (fun hl => ?_)⟩
        · have hok : tp_ok b N (tp_ad b N (tp_ad b N s)) = true := tp_ok_iff.mpr ⟨hk, hl⟩
          refine k8_code hW T2 hk ⟨hW, ?_⟩
          rw [C2.1.2.2.2.2.2.2.2.1, hv.2.2.2.1.1]
          refine k8_indexOf (c := o) isB_doors hW ho4 (by decide) ⟨hW, ?_⟩
          rw [tp_up_c (P' := fun i => !tp_nm b N (tp_ad b N (tp_ad b N s)) r (5 + i)) (fun i hi => by rw [hN.2 i hi, ps_dec (nmc_eq (hq16.2.1 i hi) hk)])]
          obtain ⟨y1, y2⟩ := tp_ixd hv hk
          by_cases hw : tp_up o (fun i => !tp_nm b N (tp_ad b N (tp_ad b N s)) r (5 + i)) 0 < o
          · rw [if_pos hw]
            have y3 := y1 hw
            generalize tp_up o (fun i => !tp_nm b N (tp_ad b N (tp_ad b N s)) r (5 + i)) 0 = e at hw y3 ⊢
            have hn : tp_dh b N (tp_ad b N (tp_ad b N s)) r = .inr e := by unfold tp_dh; rw [if_pos hok, if_pos (by omega), y3, show 5 + e - 5 = e by omega]
            rw [hn] at h1
            dsimp only at h1
            refine ⟨fun _ => ⟨ps_in (by omega) (by decide), ?_⟩, fun e => absurd e (ps_nm1 (by omega))⟩
            have E3 := E2.up (f + 4) m (nI e)
            have Z3 := Z2.up (o := f + 4) (k := m) (v := nI e) (by omega)
            refine k8_adv hW (T2.up (o := f + 4) (by omega) (by omega)) (fun σ3 f3 T3 => ⟨hW, ?_⟩)
            refine h1 _ _ rfl _ _ (LF.of (E3.tf f3.tf) (fun o ho => by rw [aw_uo (by omega)]) (Z3.tf f3.tf).1) T3 ⟨a, d, u, o, k, t, hv.inv hma hw hz, (hC.inv hv hma).eq2 hf (E3.tf f3.tf), hN.c hv (fun j hj => ?_), ?_⟩
            · unfold tp_rinv
              rw [pu_ne (by omega), pu_ne (by omega)]
            · rw [(Z3.tf f3.tf).2]
              unfold tp_rinv
              rw [pu_ne (by omega), pu_ne (by omega)]
              exact h5
          · rw [if_neg hw]
            have hn : tp_dh b N (tp_ad b N (tp_ad b N s)) r = .inl (2, tp_ad b N (tp_ad b N s)) := by unfold tp_dh; rw [if_pos hok, if_neg (by have := y2 hw; omega)]
            rw [hn] at h0
            exact ⟨fun e => absurd rfl e, fun _ => k8_blame hW T2.2.2.1 (fun σ' g x6 x1 => ⟨hW, Or.inl rfl, h0 _ rfl σ' _ (LF.of (E2.tf g) (fun o ho => rfl) (Z2.tf g).1) x6 x1⟩)⟩
        · have hn : tp_dh b N (tp_ad b N (tp_ad b N s)) r = .inl (1, tp_ad b N (tp_ad b N s)) := by unfold tp_dh; rw [if_neg (fun e => (tp_ok_iff.mp e).2 hl)]
          rw [hn] at h0
          exact k8_blame hW T2.2.2.1 (fun σ' g x6 x1 => ⟨hW, Or.inl rfl, h0 _ rfl σ' _ (LF.of (E2.tf g) (fun o ho => rfl) (Z2.tf g).1) x6 x1⟩)
    · rw [if_neg hz] at h0
      exact k8_blame hW T1.2.2.1 (fun σ' g x6 x1 => ⟨hW, Or.inl rfl, h0 _ rfl σ' _ (LF.of (E1.tf g) (fun o ho => rfl) (Z1.tf g).1) x6 x1⟩)
  · rw [he] at h0
    exact h0 e rfl σ2 _ (LF.of (E1.tf f2) (fun o ho => rfl) (Z1.tf f2).1) x6 x1
end Lc
