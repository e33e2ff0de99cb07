/-! ===== feed ===== -/
def fwd (a b c d e : Int32) (i : Nat) : Int32 := if i < 4 then a else if i < 8 then b else if i < 12 then c else if i < 16 then d else e
def fy (x : Int32) (i : Nat) : Int32 := (x >>> (((24 : Int32) - (8 : Int32) * nI (i % 4)) &&& 31))
def fb (a b c d e : Int32) (i : Nat) : Int32 := fy (fwd a b c d e i) i &&& 255
def fdF (α : SG) (a b c d e : Int32) : SG := fun o k => if o = 121 ∧ fN α ≤ k ∧ k < fN α + 20 then fb a b c d e (k - fN α) else if o = 120 ∧ k = 2 then nI (fN α + 20) else α o k
def sp_feed (α : SG) (a b c d e : Int32) : Int32 × SG := if fN α + 20 ≤ 900 then (nI (fN α + 20), fdF α a b c d e) else (-1, α)
theorem fy_b (y : Int32) : ∃ c, c < 256 ∧ y &&& 255 = nI c ∧ (y.toInt8.toInt32).toInt8.toInt32 = b8 c := by
  have h1 : y &&& 255 = nI (y.toBitVec &&& 255#32).toNat := by
    apply Int32.toBitVec_inj.mp
    show y.toBitVec &&& 255#32 = BitVec.ofNat 32 (y.toBitVec &&& 255#32).toNat
    rw [BitVec.ofNat_toNat, BitVec.setWidth_eq]
  refine ⟨(y.toBitVec &&& 255#32).toNat, ?_, h1, ?_⟩
  · rw [BitVec.toNat_and]
    have : (y.toBitVec.toNat &&& (255#32).toNat) ≤ (255#32).toNat := Nat.and_le_right
    have h2 : (255#32).toNat = 255 := rfl
    omega
  · unfold b8
    rw [← h1, Int32.toInt8_and, show (255 : Int32).toInt8 = -1 from by decide, Int8.and_neg_one, Int8.toInt8_toInt32]
theorem fdF_o {α : SG} {a b c d e : Int32} {o : Nat} (h : o ≠ 121) (h2 : o ≠ 120) : fdF α a b c d e o = α o := by
  funext k
  unfold fdF
  rw [if_neg (fun x => h x.1), if_neg (fun x => h2 x.1)]
theorem fdF_k {α : SG} {a b c d e : Int32} {k : Nat} (h : k ≠ 2) : fdF α a b c d e 120 k = α 120 k := by
  unfold fdF
  rw [if_neg (fun x => absurd x.1 (by decide)), if_neg (fun x => h x.2)]
theorem fdF_2 {α : SG} {a b c d e : Int32} : fdF α a b c d e 120 2 = nI (fN α + 20) := by
  unfold fdF
  rw [if_neg (fun x => absurd x.1 (by decide)), if_pos ⟨rfl, rfl⟩]
theorem fdF_in {α : SG} {a b c d e : Int32} {i : Nat} (h : i < 20) : fdF α a b c d e 121 (fN α + i) = fb a b c d e i := by
  unfold fdF
  rw [if_pos ⟨rfl, by omega, by omega⟩, Nat.add_sub_cancel_left]
theorem fdF_out {α : SG} {a b c d e : Int32} {k : Nat} (h : ¬ (fN α ≤ k ∧ k < fN α + 20)) : fdF α a b c d e 121 k = α 121 k := by
  unfold fdF
  rw [if_neg (fun x => h x.2), if_neg (fun x => absurd x.1 (by decide))]
theorem fdF_f {α : SG} {a b c d e : Int32} (h : fN α + 20 ≤ 900) : fN (fdF α a b c d e) = fN α + 20 := by
  have : fN (fdF α a b c d e) = (fdF α a b c d e 120 2).toNatClampNeg := rfl
  rw [this, fdF_2, ps_cl (by omega)]
theorem AI.fd {α : SG} {a b c d e : Int32} (h : AI α) (hl : fN α + 20 ≤ 900) : AI (fdF α a b c d e) := by
  have ef := fdF_f (a := a) (b := b) (c := c) (d := d) (e := e) hl
  have e2 := fdF_2 (α := α) (a := a) (b := b) (c := c) (d := d) (e := e)
  unfold AI uN cN HR at h ⊢
  rw [ef, e2, fdF_o (o := 123) (by omega) (by omega), fdF_o (o := 125) (by omega) (by omega), fdF_o (o := 126) (by omega) (by omega), fdF_o (o := 127) (by omega) (by omega), fdF_k (k := 20) (by omega), fdF_k (k := 21) (by omega), fdF_k (k := 14) (by omega)]
  obtain ⟨h1, h2, h3, h4, h5, h6, h7, h8, h9⟩ := h
  exact ⟨h1, h2, h3, h4, h5, h6, h7, ⟨rfl, hl⟩, h9⟩
section Fd
variable {G : GG} {n : Nat} {σ α : SG} {τ : TU} {θ : TH} {q : Int32 → Nat → SG → TU → TH → Prop} {qv : Nat → SG → TU → TH → Prop}
/-- four bytes were put at m -/
def FA (σ σ' : SG) (m : Nat) (x : Int32) (i : Nat) : Prop := (∀ o, o ≠ 2 → o ≠ 3 → σ' o = σ o) ∧ (∀ k, k ≠ 0 → σ' 2 k = σ 2 k) ∧ σ' 2 0 = nI (m + i) ∧ (∀ j, j < m → σ' 3 j = σ 3 j) ∧ ∀ j, j < i → σ' 3 (m + j) = ((fy x j).toInt8.toInt32).toInt8.toInt32
theorem fy_x : ∀ i : Fin 4, ¬ ((24 : Int32) - (8 : Int32) * nI i.val) < 0 ∧ ((24 : Int32) - (8 : Int32) * nI i.val) + (-8 : Int32) = (24 : Int32) - (8 : Int32) * nI (i.val + 1) := by decide
theorem k8_append {m : Nat} {x : Int32} (hW : aw_WT n θ) (h0 : σ 2 0 = nI m) (hm : m + 4 ≤ 900) (hq : ∀ σ', FA σ σ' m x 4 → qv n σ' τ θ) : SMv G 1 mX8_append 0 0 [.ref 2, .int x] n σ τ θ qv := by
  refine ctX8_append _ (sgX8_append_0 _ (Nat.le_refl _) hW ?_)
  have key := ps_up (N := 4) (P := fun i => ∀ σ1, FA σ σ1 m x i → SW G 1 mX8_append (aw_qv qv) 0 0 3 [some (.ref 2), some (.int x), some (.int ((24 : Int32) - (8 : Int32) * nI i))] [] (n, σ1, τ, θ)) ?_ ?_ 0 (Nat.zero_le _)
  · exact key σ ⟨fun _ _ _ => rfl, fun _ _ => rfl, h0, fun _ _ => rfl, fun j hj => absurd hj (by omega)⟩
  · intro σ1 h1
    exact sgX8_append_3 _ _ (Nat.le_refl _) hW ⟨fun _ => hq σ1 h1, fun h => absurd (by decide) h⟩
  · intro i hi ih σ1 h1
    obtain ⟨a1, a2, a3, a4, a5⟩ := h1
    have hx := fy_x ⟨i, hi⟩
    refine sgX8_append_3 _ _ (Nat.le_refl _) hW ⟨fun h => absurd h hx.1, fun _ => ?_⟩
    rw [a3]
    refine ⟨fun h => absurd h (nI_ge (a := m + i) (b := 900) (by omega) (by omega)), fun _ => ⟨ps_in (by omega) (by decide), ?_⟩⟩
    rw [ps_cl (by omega), aw_u_ne (o' := 2) (by decide), a3, nI_1, show (24 : Int32) - 8 * nI i + -8 = 24 - 8 * nI (i + 1) from hx.2]
    refine ih _ ⟨fun o b1 b2 => by rw [aw_uo b1, aw_uo b2]; exact a1 o b1 b2, fun k hk => by rw [aw_u_nk hk, aw_uo (by decide)]; exact a2 k hk, aw_u_eq, fun j hj => by rw [aw_uo (by decide), aw_u_nk (by omega)]; exact a4 j hj, fun j hj => ?_⟩
    rw [aw_uo (by decide)]
    by_cases e : j = i
    · subst e
      rw [aw_u_eq]
      unfold fy
      rw [Nat.mod_eq_of_lt hi]
    · rw [aw_u_nk (by omega)]; exact a5 j (by omega)
set_option maxHeartbeats 1000000 in
theorem p9_feed {a b c d e : Int32} (hW : aw_WT n θ) (hC : CI σ θ α) (hA : AI α) (hq : ∀ σ', CC σ σ' → CI σ' θ (sp_feed α a b c d e).2 → q (sp_feed α a b c d e).1 n σ' τ θ) : SMi G 2 mX9_feed 0 0 [.ref 1, .int a, .int b, .int c, .int d, .int e] n σ τ θ q := by
  have hr7 := hW.f.r
  obtain ⟨cF, cM, cP, cT, c9, c10, c4⟩ := id hC
  obtain ⟨f1, f2⟩ := hA.f
  have e2 : σ 2 0 = nI (fN α) := cT.1.trans f1
  unfold sp_feed at hq
  refine ctX9_feed _ _ _ _ _ (sgX9_feed_0 _ _ _ _ _ (Nat.le_refl _) hW ?_)
  rw [e2, show nI (fN α) + 20 = nI (fN α + 20) from nI_add _ 20]
  refine ⟨fun h => ?_, fun h => ?_⟩
  · have hl : fN α + 20 ≤ 900 := Nat.not_lt.mp (fun x => absurd h (nI_ge (a := 900) (b := fN α + 20) x (by omega)))
    rw [if_pos hl] at hq
    dsimp only at hq
    refine k8_append hW e2 (by omega) (fun σ1 h1 => ⟨hW, ?_⟩)
    refine k8_append hW h1.2.2.1 (by omega) (fun σ2 h2 => ⟨hW, ?_⟩)
    refine k8_append hW h2.2.2.1 (by omega) (fun σ3 h3 => ⟨hW, ?_⟩)
    refine k8_append hW h3.2.2.1 (by omega) (fun σ4 h4 => ⟨hW, ?_⟩)
    refine k8_append hW h4.2.2.1 (by omega) (fun σ5 h5 => ⟨hW, ?_⟩)
    have o5 : ∀ o, o ≠ 2 → o ≠ 3 → σ5 o = σ o := fun o b1 b2 => (h5.1 o b1 b2).trans ((h4.1 o b1 b2).trans ((h3.1 o b1 b2).trans ((h2.1 o b1 b2).trans (h1.1 o b1 b2))))
    have k5 : ∀ k, k ≠ 0 → σ5 2 k = σ 2 k := fun k b1 => (h5.2.1 k b1).trans ((h4.2.1 k b1).trans ((h3.2.1 k b1).trans ((h2.2.1 k b1).trans (h1.2.1 k b1))))
    have m1 := h1.2.2.2.1
    have m2 := h2.2.2.2.1
    have m3 := h3.2.2.2.1
    have m4 := h4.2.2.2.1
    have m5 := h5.2.2.2.1
    have n1 := h1.2.2.2.2
    have n2 := h2.2.2.2.2
    have n3 := h3.2.2.2.2
    have n4 := h4.2.2.2.2
    have n5 := h5.2.2.2.2
    have w5 : ∀ i, i < 20 → σ5 3 (fN α + i) = ((fy (fwd a b c d e i) i).toInt8.toInt32).toInt8.toInt32 := by
      intro i hi
      by_cases i4 : i < 4
      · rw [m5 _ (by omega), m4 _ (by omega), m3 _ (by omega), m2 _ (by omega), n1 i i4, fwd, if_pos i4]
      · by_cases i8 : i < 8
        · obtain ⟨j, rfl⟩ : ∃ j, i = 4 + j := ⟨i - 4, by omega⟩
          rw [m5 _ (by omega), m4 _ (by omega), m3 _ (by omega), ← Nat.add_assoc, n2 j (by omega), fwd, if_neg i4, if_pos i8]
          unfold fy
          rw [show (4 + j) % 4 = j % 4 by omega]
        · by_cases i12 : i < 12
          · obtain ⟨j, rfl⟩ : ∃ j, i = 8 + j := ⟨i - 8, by omega⟩
            rw [m5 _ (by omega), m4 _ (by omega), show fN α + (8 + j) = fN α + 4 + 4 + j by omega, n3 j (by omega), fwd, if_neg i4, if_neg i8, if_pos i12]
            unfold fy
            rw [show (8 + j) % 4 = j % 4 by omega]
          · by_cases i16 : i < 16
            · obtain ⟨j, rfl⟩ : ∃ j, i = 12 + j := ⟨i - 12, by omega⟩
              rw [m5 _ (by omega), show fN α + (12 + j) = fN α + 4 + 4 + 4 + j by omega, n4 j (by omega), fwd, if_neg i4, if_neg i8, if_neg i12, if_pos i16]
              unfold fy
              rw [show (12 + j) % 4 = j % 4 by omega]
            · obtain ⟨j, rfl⟩ : ∃ j, i = 16 + j := ⟨i - 16, by omega⟩
              rw [show fN α + (16 + j) = fN α + 4 + 4 + 4 + 4 + j by omega, n5 j (by omega), fwd, if_neg i4, if_neg i8, if_neg i12, if_neg i16]
              unfold fy
              rw [show (16 + j) % 4 = j % 4 by omega]
    rw [h5.2.2.1, show fN α + 4 + 4 + 4 + 4 + 4 = fN α + 20 by omega]
    refine hq σ5 (fun o ho => o5 o (by omega) (by omega)) ⟨?_, ?_, ?_, ⟨?_, fun j hj => ?_⟩, ?_, ?_, fun hh => ?_⟩
    · rw [fdF_o (by decide) (by decide)]; exact cF.mono (fun o _ _ => o5 o (by omega) (by omega))
    · rw [fdF_o (by decide) (by decide)]; exact cM.mono (fun o _ _ => o5 o (by omega) (by omega))
    · exact cP.of hA.c.2 (fun o _ _ => o5 o (by omega) (by omega)) (fdF_o (by decide) (by decide)) (fdF_o (by decide) (by decide)) (fdF_k (by decide)) (fdF_k (by decide))
    · rw [fdF_2, h5.2.2.1, show fN α + 4 + 4 + 4 + 4 + 4 = fN α + 20 by omega]
    · rw [fdF_f hl] at hj
      by_cases hj2 : j < fN α
      · rw [fdF_out (by omega), m5 _ (by omega), m4 _ (by omega), m3 _ (by omega), m2 _ (by omega), m1 _ hj2]
        exact cT.2 j hj2
      · obtain ⟨i, rfl⟩ : ∃ i, j = fN α + i := ⟨j - fN α, by omega⟩
        rw [fdF_in (by omega), w5 i (by omega)]
        exact fy_b _
    · rw [o5 1 (by decide) (by decide), fdF_k (by decide)]; exact c9
    · rw [o5 1 (by decide) (by decide), fdF_k (by decide)]; exact c10
    · rw [fdF_k (by decide)] at hh; rw [k5 1 (by decide), fdF_k (by decide)]; exact c4 hh
  · have hl : ¬ fN α + 20 ≤ 900 := fun x => h (show nI (fN α + 20) ≤ nI 900 from nI_le x (by omega))
    rw [if_neg hl] at hq
    exact hq σ (fun _ _ => rfl) hC
set_option maxHeartbeats 1000000 in
theorem p10_feed {a b c d e : Int32} (hW : aw_WT n θ) (hR : RI σ α) (hA : AI α) (hq : ∀ σ', RC σ σ' → RI σ' (sp_feed α a b c d e).2 → AI (sp_feed α a b c d e).2 → q (sp_feed α a b c d e).1 n σ' τ θ) : SMi G 1 mX10_feed 0 0 [.ref 120, .int a, .int b, .int c, .int d, .int e] n σ τ θ q := by
  obtain ⟨f1, f2⟩ := hA.f
  have hR0 : RI (aw_u σ 120 0 0) α := hR.skip (by unfold RK; omega)
  have hC0 : RC σ (aw_u σ 120 0 0) := fun o ho => aw_uo (by omega)
  generalize hs : aw_u σ 120 0 0 = σ0 at hR0 hC0
  have e2 : σ0 120 2 = nI (fN α) := (hR0.s (by omega)).trans f1
  unfold sp_feed at hq
  refine ctX10_feed _ _ _ _ _ (sgX10_feed_0 _ _ _ _ _ (Nat.le_refl _) hW ?_)
  rw [show aw_u σ 120 0 0 = σ0 from hs, e2, show nI (fN α) + 20 = nI (fN α + 20) from nI_add _ 20]
  refine ⟨fun h => ?_, fun h => ?_⟩
  · have hl : fN α + 20 ≤ 900 := Nat.not_lt.mp (fun x => absurd h (nI_ge (a := 900) (b := fN α + 20) x (by omega)))
    rw [if_pos hl] at hq
    dsimp only at hq
    have key := ps_up (N := 20) (P := fun i => ∀ σ1, (∀ o, o ≠ 120 → o ≠ 121 → σ1 o = σ0 o) → (∀ k, k ≠ 2 → σ1 120 k = σ0 120 k) → σ1 120 2 = nI (fN α + i) → (∀ k, ¬ (fN α ≤ k ∧ k < fN α + i) → σ1 121 k = σ0 121 k) → (∀ j, j < i → σ1 121 (fN α + j) = fb a b c d e j) → SW G 1 mX10_feed (aw_qi q) 0 0 23 [some (.ref 120), some (.int a), some (.int b), some (.int c), some (.int d), some (.int e), some (.int (nI i)), none] [] (n, σ1, τ, θ)) ?_ ?_ 0 (Nat.zero_le _)
    · exact key σ0 (fun _ _ _ => rfl) (fun _ _ => rfl) e2 (fun _ _ => rfl) (fun j hj => absurd hj (by omega))
    · intro σ1 a1 a2 a3 a4 a5
      refine sgX10_feed_23 _ _ _ _ _ _ (Nat.le_refl _) hW ⟨fun _ => ?_, fun h => absurd (Int32.le_refl _) h⟩
      rw [a3]
      refine hq σ1 (fun o ho => (a1 o (by omega) (by omega)).trans (hC0 o ho)) (fun o k hk => ?_) (hA.fd hl)
      by_cases e1 : o = 121
      · subst e1
        by_cases hk2 : fN α ≤ k ∧ k < fN α + 20
        · obtain ⟨i, rfl⟩ : ∃ i, k = fN α + i := ⟨k - fN α, by omega⟩
          rw [a5 i (by omega), fdF_in (by omega)]
        · rw [a4 k hk2, fdF_out hk2]; exact hR0 121 k hk
      · by_cases e0 : o = 120
        · subst e0
          by_cases ek : k = 2
          · subst ek; rw [a3, fdF_2]
          · rw [a2 k ek, fdF_k ek]; exact hR0 120 k hk
        · rw [a1 o e0 e1, fdF_o e1 e0]; exact hR0 o k hk
    · intro i hi ih σ1 a1 a2 a3 a4 a5
      have step : ∀ w, w = fwd a b c d e i → (vp_in (σ1 120 2) 900 ∧ (SW G 1 mX10_feed (aw_qi q) 0 0 23 [some (.ref 120), some (.int a), some (.int b), some (.int c), some (.int d), some (.int e), some (.int (nI i + (1 : Int32))), none] [] (n, (aw_u (aw_u σ1 121 (σ1 120 2).toNatClampNeg ((w >>> (((24 : Int32) - ((8 : Int32) * (nI i - nI i / (4 : Int32) * (4 : Int32)))) &&& 31)) &&& (255 : Int32))) 120 2 (((aw_u σ1 121 (σ1 120 2).toNatClampNeg ((w >>> (((24 : Int32) - ((8 : Int32) * (nI i - nI i / (4 : Int32) * (4 : Int32)))) &&& 31)) &&& (255 : Int32))) 120 2) + (1 : Int32))), τ, θ))) := by
        intro w hw
        rw [aw_u_ne (o' := 120) (by decide), a3, ps_cl (by omega), nI_1, nI_1, show nI i - nI i / (4 : Int32) * (4 : Int32) = nI (i % 4) from pk_rem (d := 4) (by omega) (by omega) (by omega)]
        refine ⟨ps_in (by omega) (by decide), ih _ (fun o b1 b2 => by rw [aw_uo b1, aw_uo b2]; exact a1 o b1 b2) (fun k hk => by rw [aw_u_nk hk, aw_uo (by decide)]; exact a2 k hk) aw_u_eq (fun k hk => ?_) (fun j hj => ?_)⟩
        · rw [aw_uo (by decide), aw_u_nk (by omega)]; exact a4 k (by omega)
        · rw [aw_uo (by decide)]
          by_cases ej : j = i
          · subst ej
            rw [aw_u_eq, hw]; rfl
          · rw [aw_u_nk (by omega)]; exact a5 j (by omega)
      refine sgX10_feed_23 _ _ _ _ _ _ (Nat.le_refl _) hW ⟨fun h => absurd h (nI_ge (a := i) (b := 20) hi (by omega)), fun _ => ?_⟩
      refine ps_br (c := 4) (N := 4) rfl (by omega) (by omega) (fun h4 => ps_br (c := 8) (N := 8) rfl (by omega) (by omega) (fun h8 => ps_br (c := 12) (N := 12) rfl (by omega) (by omega) (fun h12 => ps_br (c := 16) (N := 16) rfl (by omega) (by omega) (fun h16 => step _ ?_) (fun h16 => step _ ?_)) (fun h12 => step _ ?_)) (fun h8 => step _ ?_)) (fun h4 => step _ ?_)
      · rw [fwd, if_neg (by omega), if_neg (by omega), if_neg (by omega), if_neg (by omega)]
      · rw [fwd, if_neg (by omega), if_neg (by omega), if_neg (by omega), if_pos (by omega)]
      · rw [fwd, if_neg (by omega), if_neg (by omega), if_pos (by omega)]
      · rw [fwd, if_neg (by omega), if_pos (by omega)]
      · rw [fwd, if_pos (by omega)]
  · have hl : ¬ fN α + 20 ≤ 900 := fun x => h (show nI (fN α + 20) ≤ nI 900 from nI_le x (by omega))
    rw [if_neg hl] at hq
    exact hq σ0 hC0 hR0 hA
end Fd
