/-! ===== led: the class's contract ===== -/
def lk_X (G : GG) (Q : Option Value → HH → Prop) : String → State → State → Prop := fun E _ t => E = lk_E ∧ ∃ (h : HH) (H : Heap), Q (some .null) h ∧ aw_Rep G h H ∧ H.size ≤ t.heap.size ∧ ∀ q : Nat, q < H.size → t.heap[q]? = H[q]?
theorem ww_lkI : Cond.initialized lk_E ∈ aw_TT := List.mem_filter.mpr ⟨by decide +kernel, by decide +kernel⟩
theorem lk_met {G : GG} {k : Nat} {Q : Option Value → HH → Prop} {x : Int32} {h : HH} (hk6 : 6 ≤ k) (hmono : ∀ h', Q (some .null) h' → h.1 ≤ h'.1) (kk : SW G k mX9_led Q 1 6 0 [some (.ref 1), some (.int x), none, none] [] h) (l : Launch) (hfl : l.stackTraces = false) :
    vx_Met l yX9_led (aw_ws mX9_led) (aw_rm k 1 6) (aw_Pc G [.ref 1, .int x] h) (aw_Qc G (fun v h => v ≠ some .null ∧ Q v h)) (lk_X G Q) 1 6 (fun q => G.2.2.1.size ≤ q) := by
  refine vx_ofW (cc := cX9_led) (maxL := 4) (ret := some .int) (ws' := aw_TT) rfl rfl ?_
  intro p e s m args below meth c s₁ B hml hnt hv
  obtain ⟨rfl, hR, hK⟩ := hv
  have hts := atoms_spec (ws := aw_ws mX9_led) B.pre
  have hl := lv_entry ([Value.ref 1, .int x].map (aw_cV G)) (n := 4) (by
    have : ([Value.ref 1, .int x] : List Value).map (aw_cV G) = [.ref (aw_ad G 1), .int x] := by
      rw [List.map_cons, List.map_cons, List.map_nil, aw_cV_ref (by decide)]; rfl
    rw [this]
    exact Nat.le_of_ble_eq_true rfl)
  rw [lg_entry_eq]
  generalize (lg_sl ([Value.ref 1, .int x].map (aw_cV G)) ++ List.replicate (4 - (lg_sl ([Value.ref 1, .int x].map (aw_cV G))).length) Slot.unset).toArray = ls at hl ⊢
  have hLV : aw_LV G ls 4 [some (.ref 1), some (.int x), none, none] := by
    refine aw_LV.of hl (fun i v hv => ?_)
    have hv2 : (aw_ent [.ref 1, .int x])[i]? = some (some v) := by
      rcases i with _ | _ | _ | _ | i
      · exact hv
      · exact hv
      · simp at hv
      · simp at hv
      · simp at hv
    simpa using aw_ent_mem G [.ref 1, .int x] 0 i v hv2
  have hlocks := B.notSynchronized
  have hr := B.returns
  have hx := B.exec
  have hb := B.bytes
  have hown := findClass_of_methodNamed B.named
  refine kk.go (R := aw_rm k 1 6) ⟨hx, hb, hml, hown, fun w hw => hts w (List.mem_cons_of_mem _ hw), (name_of_methodNamed B.named B.method).1, hK, Nat.le_refl _, Nat.le_refl _, ?_⟩ ⟨hR, (fun q h => absurd h List.not_mem_nil), hLV, Nat.le_refl _, Nat.le_refl _⟩
  refine ⟨hfl, ?_, ?_⟩
  · intro v h H locs cells slots pc ls st hQ hR hlo hc hs hret
    refine vx_ret (W.widen hc hs ?_)
    rcases hret with ⟨rfl, rfl, hr1, hd⟩ | ⟨x, rfl, rfl, hd, ty, hr1, hnr⟩ | ⟨x, rfl, rfl, hd, hr1⟩
    · exact W.vret hx hb (hr.trans hr1) (fun t ht _ => ⟨none, h, rfl, ⟨fun e => (nomatch e), hQ⟩, by rw [ht]; exact hR⟩) hlo hd
    · exact W.zret hx hb (hr.trans hr1) hnr (fun t ht _ => ⟨some (.int x), h, rfl, ⟨fun e => (nomatch e), hQ⟩, by rw [ht]; exact hR⟩) hlo hd
    · exact W.lret hx hb (hr.trans hr1) (fun t ht _ => ⟨some (.long x), h, rfl, ⟨fun e => (nomatch e), hQ⟩, by rw [ht]; exact hR⟩) hlo hd
  · intro h' H locs cells slots ls hQ hR' hlo hsz hc hs
    have hz := jd_kept hR
    have hz' := jd_kept hR'
    have hq : ∀ a : Nat, a < G.2.2.1.size → ¬ jd_A G a → s.heap[a]? = G.2.2.1[a]? := hz
    have hA : ∀ q : Nat, q < s.heap.size → ¬ jd_A G q → H[q]? = s.heap[q]? := fun q _ h2 => by
      have h3 : q < G.2.2.1.size := Nat.not_le.mp h2
      rw [hz q h3 h2, hz' q h3 h2]
    have hTT : ∀ w ∈ aw_TT, w.before _ s = true := fun w hw => hts w (List.mem_cons_of_mem _ hw)
    have hst := (hK.2.2.2 19 _ rfl).1
    exact lk_throw hx hb hfl hown (hTT _ ww_1171) (hTT _ ww_lkI) hst (lk_hat hK) ((lk_Z hK (by decide +kernel) (by decide +kernel) (by decide +kernel)).kept hq) ((lk_Z hK (by decide +kernel) (by decide +kernel) (by decide +kernel)).kept hq)
      ⟨by rw [hR.1, hR'.1]; exact Nat.add_le_add_left (hmono h' hQ) _, hA, fun q h => hlo q h⟩ (hsz.trans hml.symm) (fun x h => (hnt x h).elim) (by show 5 < k; omega) (by show 100 ≤ 64 * k; omega) hc hs hlocks
      (fun t _ h1 h2 => ⟨rfl, h', H, hQ, hR', h1, h2⟩) hlo hc hs

section Lc
variable {G : GG} {n : Nat} {σ α : SG} {τ : TU} {θ : TH} {Q : Option Value → HH → Prop}
set_option maxHeartbeats 4000000 in
theorem k9_led {x : Int32} {k : Nat} (hk : 6 ≤ k) (hW : aw_WT n θ) (hC : CI σ θ α) (hA : AI α) (h0 : sp_led (α 123) (α 125) x = none → Q (some .null) (n, σ, τ, θ)) (h1 : ∀ m, sp_led (α 123) (α 125) x = some m → m < 5 → Q (some (.int (nI m))) (n, σ, τ, θ)) : SW G k mX9_led Q 1 6 0 [some (.ref 1), some (.int x), none, none] [] (n, σ, τ, θ) := by
  have hv := hA.v
  have h5 := hv.m5
  have hF := hC.1
  have hM := hC.2.1
  have hF1 := hW.f
  have e13 : σ (θ 1 7) 13 = nI (nM (α 123)) := hF.1.2.2.2.2.1.trans hv.m
  refine SW.iconst (v := (0 : Int32)) dX9_led_0 (by decide) ?_
  refine SW.istore_n dX9_led_1 (by decide) rfl rfl ?_
  refine SW.iconst (v := (0 : Int32)) dX9_led_2 (by decide) ?_
  refine SW.istore_n dX9_led_3 (by decide) rfl rfl ?_
  have key : ∀ kk seen j, j + kk = nM (α 123) → sp_led (α 123) (α 125) x = s_led (α 123) (α 125) x kk seen j → SW G k mX9_led Q 1 6 4 [some (.ref 1), some (.int x), some (.int seen), some (.int (nI j))] [] (n, σ, τ, θ) := by
    intro kk
    induction kk with
    | zero =>
      intro seen j hj hs
      refine SW.iload_n dX9_led_4 rfl ?_
      refine SW.aload_n dX9_led_5 rfl ?_
      refine SW.getS (f := 7) (r := (θ 1 7)) aw_cl9 kp_1 (by decide) (hW.le (by decide)) (by decide) ww_472 dX9_led_6 rfl rfl ?_
      refine SW.getI (f := 13) aw_cl1 (kpF_0 hF1) (leF_0 hF1).1 (hW.le (leF_0 hF1).2) (by decide) ww_423 dX9_led_9 rfl ?_
      refine SW.icmp_ge 48 dX9_led_12 (by decide) (fun hbr => SW.thr (h0 hs)) (fun hbr => absurd ?_ hbr)
      show σ (θ 1 7) 13 ≤ nI j
      rw [e13, ← hj]
      exact Int32.le_refl _
    | succ kk ih =>
      intro seen j hj hs
      have hs1 : sp_led (α 123) (α 125) x = if (α 123) (12 + 3 * j) < s_hd (α 123) (α 125) ((α 125) 12) j then (if seen = x then some j else s_led (α 123) (α 125) x kk (seen + 1) (j + 1)) else s_led (α 123) (α 125) x kk seen (j + 1) := hs
      refine SW.iload_n dX9_led_4 rfl ?_
      refine SW.aload_n dX9_led_5 rfl ?_
      refine SW.getS (f := 7) (r := (θ 1 7)) aw_cl9 kp_1 (by decide) (hW.le (by decide)) (by decide) ww_472 dX9_led_6 rfl rfl ?_
      refine SW.getI (f := 13) aw_cl1 (kpF_0 hF1) (leF_0 hF1).1 (hW.le (leF_0 hF1).2) (by decide) ww_423 dX9_led_9 rfl ?_
      refine SW.icmp_ge 48 dX9_led_12 (by decide) (fun hbr => ?_) (fun hbr => ?_)
      · replace hbr : σ (θ 1 7) 13 ≤ nI j := hbr
        rw [e13] at hbr
        exact absurd hbr (nI_ge (by omega) (by omega))
      · refine SW.aload_n dX9_led_15 rfl ?_
        refine SW.iload_n dX9_led_16 rfl ?_
        refine SW.cvi1 kV_X9_144 (by omega) aw_cl9 kp_1 (by decide) (hW.le (by decide)) rfl (Nat.le_of_ble_eq_true rfl) dX9_led_17 (k9_headNow hW hF hM hv (by omega) ?_)
        refine SW.aload_n dX9_led_20 rfl ?_
        refine SW.getS (f := 7) (r := (θ 1 7)) aw_cl9 kp_1 (by decide) (hW.le (by decide)) (by decide) ww_472 dX9_led_21 rfl rfl ?_
        refine SW.getS (f := 2) (r := (θ 1 7) + 3) aw_cl1 (kpF_0 hF1) (leF_0 hF1).1 (hW.le (leF_0 hF1).2) (by decide) ww_380 dX9_led_24 rfl (hW.f2 hF1) ?_
        refine SW.iload_n dX9_led_27 rfl ?_
        refine SW.iald (kpF_3 hF1) (leF_3 hF1).1 (hW.le (leF_3 hF1).2) (ps_in (by omega) (by decide)) dX9_led_28 ?_
        have e3 : σ (θ 1 7 + 3) (nI j).toNatClampNeg = (α 123) (12 + 3 * j) := by
          rw [ps_cl (by omega)]
          exact (hF.2.1 j (by omega)).2.2.1
        refine SW.icmp_le 42 dX9_led_29 (by decide) (fun hbr => ?_) (fun hbr => ?_)
        · rw [e3] at hbr
          rw [if_neg (Int32.not_lt.mpr hbr)] at hs1
          refine SW.iinc (v := nI j + (1 : Int32)) dX9_led_42 rfl rfl (by decide) rfl rfl ?_
          refine SW.goto 4 dX9_led_45 (by decide) ?_
          rw [nI_1]
          exact ih _ _ (by omega) hs1
        · rw [e3] at hbr
          rw [if_pos (Int32.not_le.mp hbr)] at hs1
          refine SW.iload_n dX9_led_32 rfl ?_
          refine SW.iload_n dX9_led_33 rfl ?_
          refine SW.icmp_ne 39 dX9_led_34 (by decide) (fun hb2 => ?_) (fun hb2 => ?_)
          · rw [if_neg hb2] at hs1
            refine SW.iinc (v := seen + (1 : Int32)) dX9_led_39 rfl rfl (by decide) rfl rfl ?_
            refine SW.iinc (v := nI j + (1 : Int32)) dX9_led_42 rfl rfl (by decide) rfl rfl ?_
            refine SW.goto 4 dX9_led_45 (by decide) ?_
            rw [nI_1]
            exact ih _ _ (by omega) hs1
          · have hb3 : seen = x := by first | exact hb2 | exact Decidable.not_not.mp hb2
            rw [if_pos hb3] at hs1
            refine SW.iload_n dX9_led_37 rfl ?_
            exact SW.iret dX9_led_38 rfl rfl (h1 j hs1 (by omega))
  exact key (nM (α 123)) 0 0 (by omega) rfl
end Lc
