/-! ===== the text: the reference's words, names and numbers ===== -/
def FS (F P : Nat) (σ : SG) : Prop := σ 120 13 = 1 ∧ σ 120 9 = nI F ∧ σ 120 10 = nI P
theorem FS.no {F P : Nat} {σ : SG} (h : FS F P σ) : ¬ σ 120 13 = 0 := by rw [h.1]; decide
theorem FS.up {F P : Nat} {σ : SG} (h : FS F P σ) {i : Nat} {v : Int32} : FS F P (aw_u σ 124 i v) := ⟨(aw_u_ne (by decide)).trans h.1, (aw_u_ne (by decide)).trans h.2.1, (aw_u_ne (by decide)).trans h.2.2⟩
def GF (σ σ' : SG) : Prop := ∀ o k, o ≠ 122 → o ≠ 124 → ¬ (o = 120 ∧ ((4 ≤ k ∧ k ≤ 10) ∨ k = 13)) → σ' o k = σ o k
theorem HF.gf {σ σ' : SG} (h : HF σ σ') : GF σ σ' := fun o k h1 _ h3 => h o k h1 h3
theorem GF.rf (σ : SG) : GF σ σ := fun _ _ _ _ _ => rfl
theorem GF.hf {σ σ' σ'' : SG} (h : GF σ σ') (h' : HF σ' σ'') : GF σ σ'' := fun o k h1 h2 h3 => (h' o k h1 h3).trans (h o k h1 h2 h3)
theorem GF.nf {σ σ' σ'' : SG} (h : GF σ σ') (h' : NF σ' σ'') : GF σ σ'' := h.hf h'.hf
theorem GF.trans {σ σ' σ'' : SG} (h : GF σ σ') (h' : GF σ' σ'') : GF σ σ'' := fun o k h1 h2 h3 => (h' o k h1 h2 h3).trans (h o k h1 h2 h3)
theorem GF.up {σ σ' : SG} (h : GF σ σ') {i : Nat} {v : Int32} : GF σ (aw_u σ' 124 i v) := fun o k h1 h2 h3 => (aw_u_ne h2).trans (h o k h1 h2 h3)
/-- .. where nothing is wrong -/
def OF (σ σ' : SG) : Prop := ∀ o k, o ≠ 122 → o ≠ 124 → ¬ (o = 120 ∧ 4 ≤ k ∧ k ≤ 8) → σ' o k = σ o k
theorem OF.rf (σ : SG) : OF σ σ := fun _ _ _ _ _ => rfl
theorem NF.of {σ σ' : SG} (h : NF σ σ') : OF σ σ' := fun o k h1 _ h3 => h o k h1 h3
theorem OF.gf {σ σ' : SG} (h : OF σ σ') : GF σ σ' := fun o k h1 h2 h3 => h o k h1 h2 (fun e => h3 (by omega))
theorem OF.nf {σ σ' σ'' : SG} (h : OF σ σ') (h' : NF σ' σ'') : OF σ σ'' := fun o k h1 h2 h3 => (h' o k h1 h3).trans (h o k h1 h2 h3)
theorem OF.hf {σ σ' σ'' : SG} (h : OF σ σ') (h' : HF σ' σ'') : GF σ σ'' := h.gf.hf h'
theorem OF.trans {σ σ' σ'' : SG} (h : OF σ σ') (h' : OF σ' σ'') : OF σ σ'' := fun o k h1 h2 h3 => (h' o k h1 h2 h3).trans (h o k h1 h2 h3)
theorem OF.up {σ σ' : SG} (h : OF σ σ') {i : Nat} {v : Int32} : OF σ (aw_u σ' 124 i v) := fun o k h1 h2 h3 => (aw_u_ne h2).trans (h o k h1 h2 h3)
theorem tp_fd_c {b : Nat → Nat} {N s : Nat} {r r' : Nat → Int32} (h8 : tp_en b N s - s ≤ 8) (hc : ∀ j, 86 ≤ j ∧ j ≤ 166 → r' j = r j) : tp_fd b N s r' = tp_fd b N s r := by
  refine tp_up_c (fun i hi => ?_) 0
  have : tp_nm b N s r' i = tp_nm b N s r i := by
    unfold tp_nm
    refine ps_dec ?_
    rw [decide_eq_true_iff, hc _ (by omega)]
    constructor
    · rintro ⟨h1, h2⟩; exact ⟨h1, fun k hk => by rw [← hc _ (by omega)]; exact h2 k hk⟩
    · rintro ⟨h1, h2⟩; exact ⟨h1, fun k hk => by rw [hc _ (by omega)]; exact h2 k hk⟩
  show (!tp_nm b N s r' i) = (!tp_nm b N s r i)
  rw [this]
theorem tp_mh_c {b : Nat → Nat} {N s : Nat} {r r' : Nat → Int32} (hc : ∀ j, 86 ≤ j ∧ j ≤ 166 → r' j = r j) : tp_mh b N s r' = tp_mh b N s r := by
  unfold tp_mh
  by_cases h : tp_ok b N s = true
  · rw [if_pos h, if_pos h, tp_fd_c (tp_kd1 (tp_ok_iff.mp h).1).2.2.2.2.1 hc]
  · rw [if_neg h, if_neg h]
theorem tw_20 : tw 20 = tw 0 := by decide +kernel
theorem tw_25 : tw 25 = tw 1 := by decide +kernel
theorem tw_26 : tw 26 = tw 2 := by decide +kernel
theorem tw_27 : tw 27 = tw 3 := by decide +kernel
theorem tw_28 : tw 28 = tw 4 := by decide +kernel
theorem tw_29 : tw 29 = tw 5 := by decide +kernel
theorem tw_30 : tw 30 = tw 6 := by decide +kernel
theorem tw_21 : tw 21 = tw 7 := by decide +kernel
theorem tw_22 : tw 22 = tw 8 := by decide +kernel
theorem tw_23 : tw 23 = tw 9 := by decide +kernel
theorem tw_24 : tw 24 = tw 10 := by decide +kernel
theorem tw_31 : tw 31 = tw 11 := by decide +kernel
theorem tw_32 : tw 32 = tw 12 := by decide +kernel
theorem tw_33 : tw 33 = tw 13 := by decide +kernel
theorem tw_34 : tw 34 = tw 14 := by decide +kernel
theorem tw_35 : tw 35 = tw 15 := by decide +kernel
theorem tw_36 : tw 36 = tw 16 := by decide +kernel
theorem tw_37 : tw 37 = tw 17 := by decide +kernel
theorem tw_38 : tw 38 = tw 18 := by decide +kernel
def tp_pre (b : Nat → Nat) (s j k : Nat) : Bool := decide (∀ i, i < k → nI (b (s + i)) = (tw j).getD i 0)
theorem tp_pre_iff {b : Nat → Nat} {s j k : Nat} : tp_pre b s j k = true ↔ ∀ i, i < k → nI (b (s + i)) = (tw j).getD i 0 := decide_eq_true_iff
section Wr
variable {G : GG} {n : Nat} {σ : SG} {τ : TU} {θ : TH} {q : Int32 → Nat → SG → TU → TH → Prop} {qv : Nat → SG → TU → TH → Prop} {b : Nat → Nat} {N s : Nat}
theorem k10_wrong {F P : Nat} (hW : aw_WT n θ) (h13 : σ 120 13 = 0) (hq : ∀ σ', HF σ σ' → FS F P σ' → qv n σ' τ θ) : SMv G 1 mX10_wrong 0 0 [.ref 120, .int (nI F), .int (nI P)] n σ τ θ qv := by
  refine ctX10_wrong _ _ (sgX10_wrong_0 _ _ (Nat.le_refl _) hW ⟨fun _ => hq _ ((((HF.rf σ).up (by omega)).up (by omega)).up (by omega)) ⟨?_, ?_, aw_u_eq⟩, fun h => absurd h13 h⟩)
  · rw [aw_u_nk (by decide), aw_u_nk (by decide), aw_u_eq]
  · rw [aw_u_nk (by decide), aw_u_eq]
theorem k10_wrong_no {x y : Int32} (hW : aw_WT n θ) (h13 : ¬ σ 120 13 = 0) (hq : qv n σ τ θ) : SMv G 1 mX10_wrong 0 0 [.ref 120, .int x, .int y] n σ τ θ qv :=
  ctX10_wrong _ _ (sgX10_wrong_0 _ _ (Nat.le_refl _) hW ⟨fun h => absurd h h13, fun _ => hq⟩)
theorem k10_isWord {j : Nat} {st : String × Nat × String × List Int32} (hj : aw_strs[j]? = some st) (hW : aw_WT n θ) (hT : RT σ b N s) (h13 : σ 120 13 = 0) (hq : q (if tp_w b N s j = true then 1 else 0) n σ τ θ) : SMi G 5 mX10_isWord 0 0 [.ref 120, .ref (1000 + j)] n σ τ θ q := by
  have ew := tw_of hj
  have h64 := (jd_str st (List.mem_of_getElem? hj)).1
  refine ctX10_isWord j (sgX10_isWord_0 j st (Nat.le_refl _) hj hW ⟨fun h => absurd h13 h, fun _ => ⟨fun h => ?_, fun h => ?_⟩⟩)
  · rw [if_neg (fun e => h (hT.k.1.mpr (tp_w_iff.mp e).1))] at hq
    exact hq
  · have hk := hT.k.1.mp h
    obtain ⟨k1, k2, k3, k4, k5, k6, k7, k8⟩ := tp_kd1 hk
    obtain ⟨e8, el⟩ := hT.2.2.2.2.2.1 hk
    refine kJ_length hj ⟨hW, ?_⟩
    rw [e8, nI_eq (by omega) (by omega)]
    refine ⟨fun hL => ?_, fun hL => ?_⟩
    · have key := ps_up (N := st.2.2.2.length) (P := fun k => SW G 5 mX10_isWord (aw_qi q) 0 0 32 [some (.ref 120), some (.ref (1000 + j)), some (.int (if tp_pre b s j k = true then 1 else 0)), some (.int (nI k))] [] (n, σ, τ, θ)) ?_ ?_ 0 (Nat.zero_le _)
      · rw [if_pos (tp_pre_iff.mpr (fun i hi => absurd hi (by omega)))] at key
        exact key
      · refine sgX10_isWord_32 j st _ _ (Nat.le_refl _) hj hW ?_
        rw [e8, hL]
        refine ⟨fun _ => ?_, fun h2 => absurd (Int32.le_refl _) h2⟩
        by_cases hd : tp_pre b s j st.2.2.2.length = true
        · rw [if_pos (tp_w_iff.mpr ⟨hk, by rw [ew]; omega, by rw [ew]; have := tp_pre_iff.mp hd; rw [ew] at this; exact this⟩)] at hq
          rw [if_pos hd]
          exact ⟨Or.inr rfl, hq⟩
        · rw [if_neg (fun e => hd (tp_pre_iff.mpr (by have := (tp_w_iff.mp e).2.2; rw [ew] at this ⊢; exact this)))] at hq
          rw [if_neg hd]
          exact ⟨Or.inl rfl, hq⟩
      · intro k hk2 ih
        refine sgX10_isWord_32 j st _ _ (Nat.le_refl _) hj hW ?_
        rw [e8, hL, nI_1]
        refine ⟨fun h2 => absurd h2 (nI_ge hk2 (by omega)), fun _ => ?_⟩
        have no : ¬ tp_pre b s j (k + 1) = true → SW G 5 mX10_isWord (aw_qi q) 0 0 32 [some (.ref 120), some (.ref (1000 + j)), some (.int 0), some (.int (nI (k + 1)))] [] (n, σ, τ, θ) := by
          intro hn
          rw [if_neg hn] at ih
          exact ih
        by_cases hd : tp_pre b s j k = true
        · rw [if_pos hd]
          refine ⟨fun h => absurd h (by decide), fun _ => ⟨ps_in (by omega) (by decide), kJ_charAt hj hk2 ⟨hW, ?_⟩⟩⟩
          rw [ps_cl (by omega), el k (by omega)]
          refine ⟨fun hne => no (fun hall => hne ?_), fun heq => ?_⟩
          · have := tp_pre_iff.mp hall k (by omega)
            rw [ew] at this
            exact this
          · have hd2 : tp_pre b s j (k + 1) = true := tp_pre_iff.mpr (fun i hi => by
              by_cases e : i = k
              · rw [e, ew]; exact heq
              · exact tp_pre_iff.mp hd i (by omega))
            rw [if_pos hd2] at ih
            exact ih
        · rw [if_neg hd]
          exact ⟨fun _ => no (fun hall => hd (tp_pre_iff.mpr (fun i hi => tp_pre_iff.mp hall i (by omega)))), fun h => absurd rfl h⟩
    · rw [if_neg (fun e => hL (by have := (tp_w_iff.mp e).2.1; rw [ew] at this; omega))] at hq
      exact hq
theorem k10_isWord_no {j : Nat} {st : String × Nat × String × List Int32} (hj : aw_strs[j]? = some st) (hW : aw_WT n θ) (h13 : ¬ σ 120 13 = 0) (hq : q 0 n σ τ θ) : SMi G 5 mX10_isWord 0 0 [.ref 120, .ref (1000 + j)] n σ τ θ q :=
  ctX10_isWord j (sgX10_isWord_0 j st (Nat.le_refl _) hj hW ⟨fun _ => hq, fun h => absurd h h13⟩)
theorem k10_must {j : Nat} {st : String × Nat × String × List Int32} (hj : aw_strs[j]? = some st) (hW : aw_WT n θ) (hT : RT σ b N s) (h13 : σ 120 13 = 0) (h1 : tp_w b N s j = true → ∀ σ', NF σ σ' → RT σ' b N (tp_ad b N s) → qv n σ' τ θ) (h0 : ¬ tp_w b N s j = true → ∀ σ', HF σ σ' → FS 1 s σ' → qv n σ' τ θ) : SMv G 7 mX10_must 0 0 [.ref 120, .ref (1000 + j)] n σ τ θ qv := by
  refine ctX10_must j (sgX10_must_0 j st (Nat.le_refl _) hj hW ⟨fun h => absurd h13 h, fun _ => ?_⟩)
  refine ctX10_takesWord j (sgX10_takesWord_0 j st (Nat.le_refl _) hj hW ?_)
  refine k10_isWord hj hW hT h13 ⟨hW, And.symm (ps_b (fun h => ?_) (fun h => ?_))⟩
  · refine ⟨hW, fun h => absurd rfl h, fun _ => ?_⟩
    rw [hT.2.2.1]
    exact k10_wrong (F := 1) hW h13 (fun σ' f e => ⟨hW, h0 h σ' f e⟩)
  · exact k10_nx hW hT (fun σ' f hT' => ⟨hW, hW, fun _ => h1 h σ' f hT', fun e => absurd e (by decide)⟩)
theorem k10_must_no {j : Nat} {st : String × Nat × String × List Int32} (hj : aw_strs[j]? = some st) (hW : aw_WT n θ) (h13 : ¬ σ 120 13 = 0) (hq : qv n σ τ θ) : SMv G 7 mX10_must 0 0 [.ref 120, .ref (1000 + j)] n σ τ θ qv :=
  ctX10_must j (sgX10_must_0 j st (Nat.le_refl _) hj hW ⟨fun _ => hq, fun h => absurd h h13⟩)
theorem k10_number {lo hi : Nat} (hW : aw_WT n θ) (hT : RT σ b N s) (h13 : σ 120 13 = 0) (hlo : lo < 1000) (hhi : hi < 1000) (h1 : tp_num b N s lo hi = 0 → ∀ σ', NF σ σ' → RT σ' b N (tp_ad b N s) → q (nI (tp_val b N s)) n σ' τ θ) (h0 : tp_num b N s lo hi ≠ 0 → ∀ σ', HF σ σ' → FS (tp_num b N s lo hi) s σ' → q (nI lo) n σ' τ θ) : SMi G 3 mX10_number 0 0 [.ref 120, .int (nI lo), .int (nI hi)] n σ τ θ q := by
  refine ctX10_number _ _ (sgX10_number_0 _ _ (Nat.le_refl _) hW ⟨fun _ => ⟨fun h => ?_, fun h => ?_⟩, fun h => absurd h13 h⟩)
  · have hk := hT.k.2.1.mp h
    have hv := tp_val_lt hk
    rw [hT.2.2.2.2.2.2 hk]
    refine k10_in hW ⟨hW, And.symm (ps_b (fun h2 => ?_) (fun h2 => ?_))⟩
    · have hn : tp_num b N s lo hi = 4 := by
        unfold tp_num
        rw [if_pos hk, if_neg (fun e => h2 ⟨nI_nlt e.1 (by omega), nI_nlt e.2 (by omega)⟩)]
      rw [hT.2.2.1]
      refine k10_wrong (F := 4) hW h13 (fun σ' f e => ⟨hW, fun h3 => absurd h3 e.no, fun _ => h0 (by omega) σ' f (by rw [hn]; exact e)⟩)
    · have hn : tp_num b N s lo hi = 0 := by
        unfold tp_num
        rw [if_pos hk, if_pos ⟨Nat.not_lt.mp (fun e => h2.1 (nI_lt e (by omega))), Nat.not_lt.mp (fun e => h2.2 (nI_lt e (by omega)))⟩]
      refine ⟨fun _ => k10_nx hW hT (fun σ' f hT' => ⟨hW, ?_⟩), fun h => absurd h13 h⟩
      rw [hT.2.2.2.2.2.2 hk]
      exact h1 hn σ' f hT'
  · have hn : tp_num b N s lo hi = 1 := by
      unfold tp_num
      rw [if_neg (fun e => h (hT.k.2.1.mpr e))]
    rw [hT.2.2.1]
    exact k10_wrong (F := 1) hW h13 (fun σ' f e => ⟨hW, fun h3 => absurd h3 e.no, fun _ => h0 (by omega) σ' f (by rw [hn]; exact e)⟩)
theorem k10_number_no {x y : Int32} (hW : aw_WT n θ) (h13 : ¬ σ 120 13 = 0) (hq : q x n σ τ θ) : SMi G 3 mX10_number 0 0 [.ref 120, .int x, .int y] n σ τ θ q :=
  ctX10_number _ _ (sgX10_number_0 _ _ (Nat.le_refl _) hW ⟨fun h => absurd h h13, fun _ => hq⟩)
theorem k10_after {j i lo hi : Nat} {st : String × Nat × String × List Int32} (hj : aw_strs[j]? = some st) (hji : tw j = tw i) (hW : aw_WT n θ) (hT : RT σ b N s) (h13 : σ 120 13 = 0) (hlo : lo < 1000) (hhi : hi < 1000) (h1 : ∀ v s', tp_af b N s i lo hi = .inr (v, s') → ∀ σ', NF σ σ' → RT σ' b N s' → q (nI v) n σ' τ θ) (h0 : ∀ e, tp_af b N s i lo hi = .inl e → ∀ σ', HF σ σ' → FS e.1 e.2 σ' → q (nI lo) n σ' τ θ) : SMi G 8 mX10_after 0 0 [.ref 120, .ref (1000 + j), .int (nI lo), .int (nI hi)] n σ τ θ q := by
  refine ctX10_after j _ _ (sgX10_after_0 j st _ _ (Nat.le_refl _) hj hW ?_)
  refine k10_must hj hW hT h13 (fun hw σ1 f1 T1 => ⟨hW, ?_⟩) (fun hw σ1 f1 e1 => ⟨hW, k10_number_no hW e1.no ⟨hW, h0 (1, s) ?_ σ1 f1 e1⟩⟩)
  · rw [tp_w_c hji] at hw
    refine k10_number hW T1 (f1.f.trans h13) hlo hhi (fun hn σ2 f2 T2 => ⟨hW, h1 _ _ ?_ σ2 (f1.trans f2) T2⟩) (fun hn σ2 f2 e2 => ⟨hW, h0 (tp_num b N (tp_ad b N s) lo hi, tp_ad b N s) ?_ σ2 (f1.hf.trans f2) e2⟩)
    · unfold tp_af; rw [if_pos hw, if_pos hn]
    · unfold tp_af; rw [if_pos hw, if_neg hn]
  · rw [tp_w_c hji] at hw
    unfold tp_af; rw [if_neg hw]
theorem k10_after_no {j : Nat} {st : String × Nat × String × List Int32} {x y : Int32} (hj : aw_strs[j]? = some st) (hW : aw_WT n θ) (h13 : ¬ σ 120 13 = 0) (hq : q x n σ τ θ) : SMi G 8 mX10_after 0 0 [.ref 120, .ref (1000 + j), .int x, .int y] n σ τ θ q :=
  ctX10_after j _ _ (sgX10_after_0 j st _ _ (Nat.le_refl _) hj hW (k10_must_no hj hW h13 ⟨hW, k10_number_no hW h13 ⟨hW, hq⟩⟩))
theorem k10_pass (hW : aw_WT n θ) (hT : RT σ b N s) (h13 : σ 120 13 = 0) (hq : ∀ σ', NF σ σ' → RT σ' b N (tp_ad b N s) → qv n σ' τ θ) : SMv G 3 mX10_pass 0 0 [.ref 120] n σ τ θ qv :=
  ctX10_pass (sgX10_pass_0 (Nat.le_refl _) hW ⟨fun h => absurd h13 h, fun _ => k10_nx hW hT (fun σ' f hT' => ⟨hW, hq σ' f hT'⟩)⟩)
theorem k10_pass_no (hW : aw_WT n θ) (h13 : ¬ σ 120 13 = 0) (hq : qv n σ τ θ) : SMv G 3 mX10_pass 0 0 [.ref 120] n σ τ θ qv :=
  ctX10_pass (sgX10_pass_0 (Nat.le_refl _) hW ⟨fun _ => hq, fun h => absurd h h13⟩)
theorem k10_mustName (hW : aw_WT n θ) (hT : RT σ b N s) (h13 : σ 120 13 = 0) (h1 : tp_ok b N s = true → qv n σ τ θ) (h0 : ¬ tp_ok b N s = true → ∀ σ', HF σ σ' → FS 1 s σ' → qv n σ' τ θ) : SMv G 6 mX10_mustName 0 0 [.ref 120] n σ τ θ qv := by
  have bad : (∃ i, i < 7 ∧ tp_w b N s i = true) → SMv G 1 mX10_wrong 0 0 [.ref 120, .int 1, .int (nI s)] n σ τ θ (fun n1 σ1 τ1 θ1 => aw_WT n1 θ1 ∧ qv n1 σ1 τ1 θ1) := by
    intro h
    exact k10_wrong (F := 1) hW h13 (fun σ' f e => ⟨hW, h0 (fun e2 => (tp_ok_iff.mp e2).2 (tp_lw_i.mpr h)) σ' f e⟩)
  refine ctX10_mustName (sgX10_mustName_0 (Nat.le_refl _) hW ?_)
  rw [hT.2.2.1]
  refine ⟨fun h => k10_wrong (F := 1) hW h13 (fun σ' f e => ⟨hW, h0 (fun e2 => h (hT.k.1.mpr (tp_ok_iff.mp e2).1)) σ' f e⟩), fun h => ?_⟩
  have hk := hT.k.1.mp h
  refine k10_isWord (j := 20) rfl hW hT h13 ⟨hW, And.symm (ps_b (fun w0 => ?_) (fun w0 => ?_))⟩
  rotate_left
  · rw [hT.2.2.1]; exact bad ⟨0, by decide, (tp_w_c tw_20).symm.trans w0⟩
  refine k10_isWord (j := 25) rfl hW hT h13 ⟨hW, And.symm (ps_b (fun w1 => ?_) (fun w1 => ?_))⟩
  rotate_left
  · rw [hT.2.2.1]; exact bad ⟨1, by decide, (tp_w_c tw_25).symm.trans w1⟩
  refine k10_isWord (j := 26) rfl hW hT h13 ⟨hW, And.symm (ps_b (fun w2 => ?_) (fun w2 => ?_))⟩
  rotate_left
  · rw [hT.2.2.1]; exact bad ⟨2, by decide, (tp_w_c tw_26).symm.trans w2⟩
  refine k10_isWord (j := 27) rfl hW hT h13 ⟨hW, And.symm (ps_b (fun w3 => ?_) (fun w3 => ?_))⟩
  rotate_left
  · rw [hT.2.2.1]; exact bad ⟨3, by decide, (tp_w_c tw_27).symm.trans w3⟩
  refine k10_isWord (j := 28) rfl hW hT h13 ⟨hW, And.symm (ps_b (fun w4 => ?_) (fun w4 => ?_))⟩
  rotate_left
  · rw [hT.2.2.1]; exact bad ⟨4, by decide, (tp_w_c tw_28).symm.trans w4⟩
  refine k10_isWord (j := 29) rfl hW hT h13 ⟨hW, And.symm (ps_b (fun w5 => ?_) (fun w5 => ?_))⟩
  rotate_left
  · rw [hT.2.2.1]; exact bad ⟨5, by decide, (tp_w_c tw_29).symm.trans w5⟩
  refine k10_isWord (j := 30) rfl hW hT h13 ⟨hW, ps_b (fun w6 => ?_) (fun w6 => ?_)⟩
  · refine h1 (tp_ok_iff.mpr ⟨hk, fun e => ?_⟩)
    obtain ⟨i, hi, e⟩ := tp_lw_i.mp e
    rcases (show i = 0 ∨ i = 1 ∨ i = 2 ∨ i = 3 ∨ i = 4 ∨ i = 5 ∨ i = 6 by omega) with rfl | rfl | rfl | rfl | rfl | rfl | rfl
    · exact w0 ((tp_w_c tw_20).trans e)
    · exact w1 ((tp_w_c tw_25).trans e)
    · exact w2 ((tp_w_c tw_26).trans e)
    · exact w3 ((tp_w_c tw_27).trans e)
    · exact w4 ((tp_w_c tw_28).trans e)
    · exact w5 ((tp_w_c tw_29).trans e)
    · exact w6 ((tp_w_c tw_30).trans e)
  · rw [hT.2.2.1]; exact bad ⟨6, by decide, (tp_w_c tw_30).symm.trans w6⟩
theorem k10_find (hW : aw_WT n θ) (hT : RT σ b N s) (hk : tp_kd b N s = 1) (hq : q (if tp_fd b N s (σ 124) < 9 then nI (tp_fd b N s (σ 124)) else -1) n σ τ θ) : SMi G 1 mX10_find 0 0 [.ref 120] n σ τ θ q := by
  obtain ⟨k1, k2, k3, k4, k5, k6, k7, k8⟩ := tp_kd1 hk
  obtain ⟨e8, el⟩ := hT.2.2.2.2.2.1 hk
  refine ctX10_find (sgX10_find_0 (Nat.le_refl _) hW ?_)
  unfold tp_fd at hq
  refine tp_ind (N := 9) (P := fun i => !tp_nm b N s (σ 124) i) (M := fun p => p ≤ 9 → tp_up 9 (fun i => !tp_nm b N s (σ 124) i) p = tp_up 9 (fun i => !tp_nm b N s (σ 124) i) 0 → SW G 1 mX10_find (aw_qi q) 0 0 2 [some (.ref 120), some (.int (nI p)), none, none] [] (n, σ, τ, θ)) ?_ ?_ ?_ 0 (by omega) rfl
  · intro p hp hp9 he
    rw [tp_up_ge hp] at he
    rw [← he, if_neg (by omega)] at hq
    exact sgX10_find_2 _ (Nat.le_refl _) hW ⟨fun _ => hq, fun h => absurd (nI_le (b := p) (a := 9) hp (by omega)) h⟩
  · intro p hp hb ih hp9 he
    have hne : ¬ tp_nm b N s (σ 124) p = true := by simpa using hb
    have nxt := ih (by omega) (by rw [← tp_up_t hp hb]; exact he)
    have zero : ∀ k, SW G 1 mX10_find (aw_qi q) 0 0 44 [some (.ref 120), some (.int (nI p)), some (.int 0), some (.int (nI k))] [] (n, σ, τ, θ) := by
      intro k
      refine sgX10_find_44 _ _ _ (Nat.le_refl _) hW ?_
      rw [nI_1]
      exact ⟨fun _ => ⟨fun _ => nxt, fun h => absurd rfl h⟩, fun _ => ⟨fun _ => ⟨fun _ => nxt, fun h => absurd rfl h⟩, fun h => absurd rfl h⟩⟩
    refine sgX10_find_2 _ (Nat.le_refl _) hW ⟨fun h => absurd h (nI_ge (a := p) (b := 9) hp (by omega)), fun _ => ?_⟩
    rw [show (86 : Int32) + nI p = nI (86 + p) from nI_add 86 p, ps_cl (by omega), e8]
    refine ⟨ps_in (by omega) (by decide), fun _ => zero 0, fun _ => ⟨ps_in (by omega) (by decide), fun _ => zero 0, fun hsz => ?_⟩⟩
    have key := ps_up (N := tp_en b N s - s) (P := fun k => (∀ i, i < k → σ 124 (95 + 8 * p + i) = nI (b (s + i))) → SW G 1 mX10_find (aw_qi q) 0 0 44 [some (.ref 120), some (.int (nI p)), some (.int 1), some (.int (nI k))] [] (n, σ, τ, θ)) ?_ ?_ 0 (Nat.zero_le _)
    · exact key (fun i hi => absurd hi (by omega))
    · intro hall
      exact absurd (tp_nm_iff.mpr ⟨hsz, hall⟩) hne
    · intro k hk2 ih2 hall
      refine sgX10_find_44 _ _ _ (Nat.le_refl _) hW ?_
      rw [e8]
      refine ⟨fun h => absurd h (nI_ge hk2 (by omega)), fun _ => ⟨fun h => absurd h (by decide), fun _ => ?_⟩⟩
      rw [show (95 : Int32) + 8 * nI p + nI k = nI (95 + 8 * p + k) by rw [show (8 : Int32) * nI p = nI (8 * p) from pk_mul 8 p, show (95 : Int32) + nI (8 * p) = nI (95 + 8 * p) from nI_add 95 _, nI_add], ps_cl (by omega), ps_cl (by omega), el k hk2, nI_1]
      refine ⟨ps_in (by omega) (by decide), ps_in (by omega) (by decide), fun _ => zero _, fun he2 => ih2 (fun i hi => ?_)⟩
      by_cases e : i = k
      · rw [e]; exact he2
      · exact hall i (by omega)
  · intro p hp hb hp9 he
    have heq : tp_nm b N s (σ 124) p = true := by simpa using hb
    rw [tp_up_f hp hb] at he
    rw [← he, if_pos hp] at hq
    obtain ⟨m1, m2⟩ := tp_nm_iff.mp heq
    refine sgX10_find_2 _ (Nat.le_refl _) hW ⟨fun h => absurd h (nI_ge (a := p) (b := 9) hp (by omega)), fun _ => ?_⟩
    rw [show (86 : Int32) + nI p = nI (86 + p) from nI_add 86 p, ps_cl (by omega), e8]
    refine ⟨ps_in (by omega) (by decide), fun h => ?_, fun _ => ⟨ps_in (by omega) (by decide), fun h => absurd m1 h, fun _ => ?_⟩⟩
    · rw [m1] at h
      exact absurd h (nI_nle (by omega) (by omega))
    · refine ps_up (N := tp_en b N s - s) (P := fun k => SW G 1 mX10_find (aw_qi q) 0 0 44 [some (.ref 120), some (.int (nI p)), some (.int 1), some (.int (nI k))] [] (n, σ, τ, θ)) ?_ ?_ 0 (Nat.zero_le _)
      · refine sgX10_find_44 _ _ _ (Nat.le_refl _) hW ?_
        rw [e8]
        exact ⟨fun _ => ⟨fun h => absurd h (by decide), fun _ => hq⟩, fun h => absurd (Int32.le_refl _) h⟩
      · intro k hk2 ih2
        refine sgX10_find_44 _ _ _ (Nat.le_refl _) hW ?_
        rw [e8]
        refine ⟨fun h => absurd h (nI_ge hk2 (by omega)), fun _ => ⟨fun h => absurd h (by decide), fun _ => ?_⟩⟩
        rw [show (95 : Int32) + 8 * nI p + nI k = nI (95 + 8 * p + k) by rw [show (8 : Int32) * nI p = nI (8 * p) from pk_mul 8 p, show (95 : Int32) + nI (8 * p) = nI (95 + 8 * p) from nI_add 95 _, nI_add], ps_cl (by omega), ps_cl (by omega), el k hk2, nI_1]
        exact ⟨ps_in (by omega) (by decide), ps_in (by omega) (by decide), fun h => absurd (m2 k hk2) h, fun _ => ih2⟩
theorem k10_named {lo hi : Nat} (hW : aw_WT n θ) (hT : RT σ b N s) (h13 : σ 120 13 = 0) (hlo : lo < 9) (hhi : hi < 9) (h1 : tp_ok b N s = true → tp_fd b N s (σ 124) < 9 → lo ≤ tp_fd b N s (σ 124) → tp_fd b N s (σ 124) ≤ hi → q (nI (tp_fd b N s (σ 124) - lo)) n σ τ θ) (h2 : tp_ok b N s = true → ¬ (tp_fd b N s (σ 124) < 9 ∧ lo ≤ tp_fd b N s (σ 124) ∧ tp_fd b N s (σ 124) ≤ hi) → ∀ σ', HF σ σ' → FS 2 s σ' → q 0 n σ' τ θ) (h0 : ¬ tp_ok b N s = true → ∀ σ', HF σ σ' → FS 1 s σ' → q 0 n σ' τ θ) : SMi G 7 mX10_named 0 0 [.ref 120, .int (nI lo), .int (nI hi)] n σ τ θ q := by
  refine ctX10_named _ _ (sgX10_named_0 _ _ (Nat.le_refl _) hW ⟨fun _ => ?_, fun h => absurd h13 h⟩)
  refine k10_mustName hW hT h13 (fun hok => ⟨hW, fun _ => ?_, fun h => absurd h13 h⟩) (fun hok σ1 f1 e1 => ⟨hW, fun h => absurd h e1.no, fun _ => h0 hok σ1 f1 e1⟩)
  refine k10_find hW hT (tp_ok_iff.mp hok).1 ⟨hW, k10_in hW ⟨hW, And.symm (ps_b (fun h => ?_) (fun h => ?_))⟩⟩
  · rw [hT.2.2.1]
    refine k10_wrong (F := 2) hW h13 (fun σ' f e => ⟨hW, fun h3 => absurd h3 e.no, fun _ => h2 hok (fun e2 => h ?_) σ' f e⟩)
    rw [if_pos e2.1]
    exact ⟨nI_nlt e2.2.1 (by omega), nI_nlt e2.2.2 (by omega)⟩
  · refine ⟨fun _ => ?_, fun h => absurd h13 h⟩
    by_cases h9 : tp_fd b N s (σ 124) < 9
    · rw [if_pos h9] at h ⊢
      have l1 : lo ≤ tp_fd b N s (σ 124) := Nat.not_lt.mp (fun e => h.1 (nI_lt e (by omega)))
      have l2 : tp_fd b N s (σ 124) ≤ hi := Nat.not_lt.mp (fun e => h.2 (nI_lt e (by omega)))
      rw [pk_sub l1]
      exact h1 hok h9 l1 l2
    · rw [if_neg h9] at h
      exact absurd (Int32.lt_of_lt_of_le (show (-1 : Int32) < 0 by decide) (nI_pos' (by omega))) h.1
theorem k10_named_no {x y : Int32} (hW : aw_WT n θ) (h13 : ¬ σ 120 13 = 0) (hq : q 0 n σ τ θ) : SMi G 7 mX10_named 0 0 [.ref 120, .int x, .int y] n σ τ θ q :=
  ctX10_named _ _ (sgX10_named_0 _ _ (Nat.le_refl _) hW ⟨fun h => absurd h h13, fun _ => hq⟩)
theorem k10_manHere (hW : aw_WT n θ) (hT : RT σ b N s) (h13 : σ 120 13 = 0) (h1 : ∀ m, tp_mh b N s (σ 124) = .inr m → q (nI m) n σ τ θ) (h0 : ∀ e, tp_mh b N s (σ 124) = .inl e → ∀ σ', HF σ σ' → FS e.1 e.2 σ' → q 0 n σ' τ θ) : SMi G 8 mX10_manHere 0 0 [.ref 120] n σ τ θ q := by
  refine ctX10_manHere (sgX10_manHere_0 (Nat.le_refl _) hW ?_)
  refine k10_named (lo := 0) (hi := 4) hW hT h13 (by decide) (by decide) (fun hok h9 _ h4 => ⟨hW, h1 _ ?_⟩) (fun hok hn σ' f e => ⟨hW, h0 (2, s) ?_ σ' f e⟩) (fun hok σ' f e => ⟨hW, h0 (1, s) ?_ σ' f e⟩)
  · unfold tp_mh; rw [if_pos hok, if_pos (by omega)]; rfl
  · unfold tp_mh; rw [if_pos hok, if_neg (fun e => hn ⟨by omega, by omega, by omega⟩)]
  · unfold tp_mh; rw [if_neg hok]
theorem k10_manHere_no (hW : aw_WT n θ) (h13 : ¬ σ 120 13 = 0) (hq : q 0 n σ τ θ) : SMi G 8 mX10_manHere 0 0 [.ref 120] n σ τ θ q :=
  ctX10_manHere (sgX10_manHere_0 (Nat.le_refl _) hW (k10_named_no hW h13 ⟨hW, hq⟩))
theorem k10_newName {nn : Nat} (hW : aw_WT n θ) (hT : RT σ b N s) (h13 : σ 120 13 = 0) (hnn : nn < 9) (h1 : tp_new b N s (σ 124) = 0 → ∀ σ', OF σ σ' → RT σ' b N (tp_ad b N s) → σ' 120 13 = 0 → σ' 124 = tp_put b N s (σ 124) nn → qv n σ' τ θ) (h0 : tp_new b N s (σ 124) ≠ 0 → ∀ σ', HF σ σ' → FS (tp_new b N s (σ 124)) s σ' → qv n σ' τ θ) : SMv G 7 mX10_newName 0 0 [.ref 120, .int (nI nn)] n σ τ θ qv := by
  refine ctX10_newName _ (sgX10_newName_0 _ (Nat.le_refl _) hW ⟨fun _ => ?_, fun h => absurd h13 h⟩)
  refine k10_mustName hW hT h13 (fun hok => ⟨hW, fun h => absurd h13 h, fun _ => ?_⟩) (fun hok σ1 f1 e1 => ⟨hW, fun _ => ⟨fun h => absurd h e1.no, fun _ => ?_⟩, fun h => absurd h e1.no⟩)
  · have hk := (tp_ok_iff.mp hok).1
    obtain ⟨k1, k2, k3, k4, k5, k6, k7, k8⟩ := tp_kd1 hk
    obtain ⟨e8, el⟩ := hT.2.2.2.2.2.1 hk
    refine k10_find hW hT hk ⟨hW, ?_⟩
    by_cases h9 : tp_fd b N s (σ 124) < 9
    · rw [if_pos h9]
      have hn : tp_new b N s (σ 124) = 3 := by unfold tp_new; rw [if_pos hok, if_pos h9]
      refine ⟨fun h => absurd h (nI_pos (by omega)), fun _ => ?_⟩
      rw [hT.2.2.1]
      exact k10_wrong (F := 3) hW h13 (fun σ' f e => ⟨hW, fun h3 => absurd h3 e.no, fun _ => h0 (by omega) σ' f (by rw [hn]; exact e)⟩)
    · rw [if_neg h9]
      have hn : tp_new b N s (σ 124) = 0 := by unfold tp_new; rw [if_pos hok, if_neg h9]
      refine ⟨fun _ => ⟨fun _ => ?_, fun h => absurd h13 h⟩, fun h => absurd (by decide) h⟩
      have key := ps_up (N := tp_en b N s - s) (P := fun k => ∀ σ1, (∀ o, o ≠ 124 → σ1 o = σ o) → (∀ j, σ1 124 j = if 95 + 8 * nn ≤ j ∧ j < 95 + 8 * nn + k then nI (b (s + (j - (95 + 8 * nn)))) else σ 124 j) → SW G 7 mX10_newName (aw_qv qv) 0 0 45 [some (.ref 120), some (.int (nI nn)), some (.int (nI k))] [] (n, σ1, τ, θ)) ?_ ?_ 0 (Nat.zero_le _)
      · exact key σ (fun _ _ => rfl) (fun j => by rw [if_neg (by omega)])
      · intro σ1 ho hrow
        refine sgX10_newName_45 _ _ (Nat.le_refl _) hW ?_
        rw [ho 120 (by decide), e8, show (86 : Int32) + nI nn = nI (86 + nn) from nI_add 86 nn, ps_cl (by omega)]
        refine ⟨fun _ => ⟨ps_in (by omega) (by decide), ?_⟩, fun h => absurd (Int32.le_refl _) h⟩
        have hT1 : RT σ1 b N s := hT.mono (fun k _ => by rw [ho 120 (by decide)]) (fun k => by rw [ho 121 (by decide)]) (fun k => by rw [ho 122 (by decide)])
        refine k10_nx hW hT1.up (fun σ2 f2 T2 => ⟨hW, h1 hn σ2 ?_ T2 ?_ ?_⟩)
        · refine OF.nf (σ' := aw_u σ1 124 (86 + nn) (nI (tp_en b N s - s))) (OF.up (fun o k h1 h2 h3 => by rw [ho o h2])) f2
        · rw [f2.f, aw_u_ne (by decide), ho 120 (by decide)]; exact h13
        · rw [f2.row, aw_row]
          funext j
          unfold pu tp_put
          rw [hrow j]
      · intro k hk2 ih σ1 ho hrow
        refine sgX10_newName_45 _ _ (Nat.le_refl _) hW ?_
        rw [ho 120 (by decide), ho 122 (by decide), e8]
        refine ⟨fun h => absurd h (nI_ge hk2 (by omega)), fun _ => ?_⟩
        rw [show (95 : Int32) + 8 * nI nn + nI k = nI (95 + 8 * nn + k) by rw [show (8 : Int32) * nI nn = nI (8 * nn) from pk_mul 8 nn, show (95 : Int32) + nI (8 * nn) = nI (95 + 8 * nn) from nI_add 95 _, nI_add], ps_cl (by omega), ps_cl (by omega), el k hk2, nI_1]
        refine ⟨ps_in (by omega) (by decide), ps_in (by omega) (by decide), ih _ (fun o h => (aw_uo h).trans (ho o h)) (fun j => ?_)⟩
        rw [aw_row]
        unfold pu
        rw [hrow j]
        by_cases e : j = 95 + 8 * nn + k
        · rw [if_pos e, if_pos (by omega), e, show 95 + 8 * nn + k - (95 + 8 * nn) = k by omega]
        · rw [if_neg e]
          by_cases e2 : 95 + 8 * nn ≤ j ∧ j < 95 + 8 * nn + k
          · rw [if_pos e2, if_pos (by omega)]
          · rw [if_neg e2, if_neg (by omega)]
  · have hn : tp_new b N s (σ 124) = 1 := by unfold tp_new; rw [if_neg hok]
    exact h0 (by omega) σ1 f1 (by rw [hn]; exact e1)
theorem k10_newName_no {x : Int32} (hW : aw_WT n θ) (h13 : ¬ σ 120 13 = 0) (hq : qv n σ τ θ) : SMv G 7 mX10_newName 0 0 [.ref 120, .int x] n σ τ θ qv :=
  ctX10_newName _ (sgX10_newName_0 _ (Nat.le_refl _) hW ⟨fun h => absurd h h13, fun _ => hq⟩)
end Wr
