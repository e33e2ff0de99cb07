theorem dL_led_0 : decode cL_led 0 = .ok (.aload_n 2, 1) := by decide +kernel
theorem dL_led_1 : decode cL_led 1 = .ok (.iconst 0, 1) := by decide +kernel
theorem dL_led_2 : decode cL_led 2 = .ok (.aload_n 0, 1) := by decide +kernel
theorem dL_led_3 : decode cL_led 3 = .ok (.iload_n 1, 1) := by decide +kernel
theorem dL_led_4 : decode cL_led 4 = .ok (.invokevirtual 7, 3) := by decide +kernel
theorem dL_led_7 : decode cL_led 7 = .ok (.i2l, 1) := by decide +kernel
theorem dL_led_8 : decode cL_led 8 = .ok (.lastore, 1) := by decide +kernel
theorem dL_led_9 : decode cL_led 9 = .ok (.goto 6, 3) := by decide +kernel
theorem dL_led_12 : decode cL_led 12 = .ok (.astore_n 3, 1) := by decide +kernel
theorem dL_led_13 : decode cL_led 13 = .ok (.iconst 1, 1) := by decide +kernel
theorem dL_led_14 : decode cL_led 14 = .ok (.ireturn, 1) := by decide +kernel
theorem dL_led_15 : decode cL_led 15 = .ok (.iconst 0, 1) := by decide +kernel
theorem dL_led_16 : decode cL_led 16 = .ok (.ireturn, 1) := by decide +kernel
/-! ===== led: the law's own ===== -/
abbrev mL_led : MD := (yL_led, cL_led, 4, some .int)
def lk_ws : List Cond := Cond.codeWith yL_led cL_led 4 (some .int) [(0, 9, 12, 13)] :: aw_TT
theorem kp_more {o : Nat} (h : 133 < o) : aw_kp o = (9, 0) := by
  unfold aw_kp
  rw [List.getD_eq_getElem?_getD, List.getElem?_eq_none (Nat.le_trans (show aw_kpL.length ≤ 134 by decide +kernel) h)]
  rfl
theorem aw_Rep.grow {G : GG} {n : Nat} {σ : SG} {τ : TU} {θ : TH} {H H' : Heap} (hn : 133 ≤ n) (h : aw_Rep G (n, σ, τ, θ) H) (hz : H.size ≤ H'.size) (hk : ∀ q : Nat, q < H.size → H'[q]? = H[q]?) : ∃ n', n ≤ n' ∧ aw_Rep G (n', σ, τ, θ) H' := by
  obtain ⟨r1, r2, r3⟩ := h
  replace r1 : H.size = G.2.2.1.size + n := r1
  refine ⟨H'.size - G.2.2.1.size, by omega, by show H'.size = G.2.2.1.size + (H'.size - G.2.2.1.size); omega, fun q hq => ?_, fun o ho hl => ?_⟩
  · rw [hk q (by omega)]; exact r2 q hq
  · by_cases e : o ≤ n
    · exact (r3 o ho e).to (fun hk1 => hk _ (by rw [aw_ad_lt hk1]; omega)) (fun _ => rfl) (fun _ => rfl) (fun _ => rfl)
    · have e9 := kp_more (o := o) (by omega)
      refine ⟨fun ci e => ?_, fun n e => ?_, fun n e => ?_, fun n e => ?_, fun n e => ?_⟩
      all_goals (rw [e9] at e; cases e)
section Ll
variable {G : GG} {n : Nat} {σ α : SG} {τ : TU} {θ : TH} {q : Int32 → Nat → SG → TU → TH → Prop}
def lk_Q (r st : Nat → Int32) (x : Int32) (n : Nat) (σ : SG) (τ : TU) (θ : TH) : Option Value → HH → Prop := fun v h => h = (n, σ, τ, θ) ∧ ((v = some .null ∧ sp_led r st x = none) ∨ ∃ m, m < 5 ∧ sp_led r st x = some m ∧ v = some (.int (nI m)))
theorem p9_led {x : Int32} (hW : aw_WT n θ) (hC : CI σ θ α) (hA : AI α) (l : Launch) (hfl : l.stackTraces = false) :
    vx_Met l yX9_led (aw_ws mX9_led) (aw_rm 6 1 6) (aw_Pc G [.ref 1, .int x] (n, σ, τ, θ)) (aw_Qc G (fun v h => v ≠ some .null ∧ lk_Q (α 123) (α 125) x n σ τ θ v h)) (lk_X G (lk_Q (α 123) (α 125) x n σ τ θ)) 1 6 (fun q => G.2.2.1.size ≤ q) :=
  lk_met (Nat.le_refl _) (fun h' hQ => by rw [hQ.1]; exact Nat.le_refl _) (k9_led (Nat.le_refl _) hW hC hA (fun h => ⟨rfl, Or.inl ⟨rfl, h⟩⟩) (fun m h1 h2 => ⟨rfl, Or.inr ⟨m, h2, h1, rfl⟩⟩)) l hfl
set_option maxHeartbeats 4000000 in
theorem lk_law {x : Int32} (hW : aw_WT n θ) (hC : CI σ θ α) (hA : AI α) (h0 : sp_led (α 123) (α 125) x = none → ∀ n', n ≤ n' → q 1 n' σ τ θ) (h1 : ∀ m, sp_led (α 123) (α 125) x = some m → m < 5 → q 0 n σ (aw_u τ 133 0 (nI m).toInt64) θ) (l : Launch) (hfl : l.stackTraces = false) :
    Met l yL_led lk_ws (aw_rm 7 1 6) (aw_Pc G [.ref 1, .int x, .ref 133] (n, σ, τ, θ)) (aw_Qc G (aw_qi q)) 1 6 (fun q => G.2.2.1.size ≤ q) := by
  have h133 : 133 ≤ n := hW.le (Nat.le_refl _)
  refine va_MetW (cc := cL_led) (maxL := 4) (ret := some .int) (hh := [(0, 9, 12, 13)]) (ws' := aw_TT) rfl rfl ?_
  intro p e s m args below meth c s₁ B hml hv
  obtain ⟨rfl, hR, hK⟩ := hv
  have hts0 := atoms_spec (ws := lk_ws) B.pre
  have hts : ∀ w ∈ aw_TT, w.before _ s = true := fun w hw => hts0 w (List.mem_cons_of_mem _ hw)
  have htab := vx_table (x := yL_led) B (hts0 _ List.mem_cons_self)
  have ea : ([Value.ref 1, .int x, .ref 133] : List Value).map (aw_cV G) = [.ref (aw_ad G 1), .int x, .ref (aw_ad G 133)] := by
    rw [List.map_cons, List.map_cons, List.map_cons, List.map_nil, aw_cV_ref (by decide), aw_cV_ref (by decide)]; rfl
  have hl := lv_entry ([Value.ref 1, .int x, .ref 133].map (aw_cV G)) (n := 4) (by rw [ea]; exact Nat.le_of_ble_eq_true rfl)
  rw [lg_entry_eq]
  generalize (lg_sl ([Value.ref 1, .int x, .ref 133].map (aw_cV G)) ++ List.replicate (4 - (lg_sl ([Value.ref 1, .int x, .ref 133].map (aw_cV G))).length) Slot.unset).toArray = ls at hl ⊢
  have hLV : aw_LV G ls 4 [some (.ref 1), some (.int x), some (.ref 133), none] := by
    refine aw_LV.of hl (fun i v hv => ?_)
    have hv2 : (aw_ent [.ref 1, .int x, .ref 133])[i]? = some (some v) := by
      rcases i with _ | _ | _ | _ | i
      · exact hv
      · exact hv
      · exact hv
      · simp at hv
      · simp at hv
    simpa using aw_ent_mem G [.ref 1, .int x, .ref 133] 0 i v hv2
  have hr := B.returns
  have hx := B.exec
  have hb := B.bytes
  have hown := findClass_of_methodNamed B.named
  have C : aw_Cx G 7 mL_led (aw_qi q) p l e (aw_rm 7 1 6) s m (([Value.ref 1, .int x, .ref 133].map (aw_cV G)).toArray) below meth c (MQ below (aw_Qc G (aw_qi q)) (([Value.ref 1, .int x, .ref 133].map (aw_cV G)).toArray) s 1 6 (fun q => G.2.2.1.size ≤ q)) := by
    refine ⟨hx, hb, hml, hown, hts, (name_of_methodNamed B.named B.method).1, hK, Nat.le_refl _, Nat.le_refl _, hfl, ?_, fun h _ _ _ _ _ hQ _ _ _ _ _ => by obtain ⟨_, hx, _⟩ := hQ; exact nomatch hx⟩
    intro v h H locs cells slots pc ls st hQ hR hlo hc hs hret
    refine W.widen hc hs ?_
    rcases hret with ⟨rfl, rfl, hr1, hd⟩ | ⟨x, rfl, rfl, hd, ty, hr1, hnr⟩ | ⟨x, rfl, rfl, hd, hr1⟩
    · exact W.vret hx hb (hr.trans hr1) (fun t ht _ => ⟨none, h, rfl, hQ, by rw [ht]; exact hR⟩) hlo hd
    · exact W.zret hx hb (hr.trans hr1) hnr (fun t ht _ => ⟨some (.int x), h, rfl, hQ, by rw [ht]; exact hR⟩) hlo hd
    · exact W.lret hx hb (hr.trans hr1) (fun t ht _ => ⟨some (.long x), h, rfl, hQ, by rw [ht]; exact hR⟩) hlo hd
  have g0 : ls[0]? = some (.val (.ref (aw_ad G 1))) := by have := hLV.get (i := 0) rfl; rwa [aw_cV_ref (by decide)] at this
  have g1 : ls[1]? = some (.val (.int x)) := hLV.get (i := 1) rfl
  have g2 : ls[2]? = some (.val (.ref (aw_ad G 133))) := by have := hLV.get (i := 2) rfl; rwa [aw_cV_ref (by decide)] at this
  refine lv_aload_n hx hb dL_led_0 rfl g2 ?_
  refine lv_iconst hx hb dL_led_1 (v := 0) rfl ?_
  refine lv_aload_n hx hb dL_led_2 rfl g0 ?_
  refine lv_iload_n hx hb dL_led_3 rfl g1 ?_
  obtain ⟨r, hr', cell, q1, q2, q3, -⟩ := (hR.2.2 1 (by decide) (by show 1 ≤ n; omega)).1 9 kp_1
  have hr2 : r = (RX9, TX9, 11) := Option.some.inj (hr'.symm.trans aw_cl9.1)
  subst hr2
  have hrun := vx_runV (g := F0 m 4 ls [.int x, .ref (aw_ad G 1), .int 0, .ref (aw_ad G 133)]) (C := RX9) (b := aw_ad G 1) (As := [.int x]) (Ts := aw_TT) (nL := 4) (own := RL) (index := 7) (n := 1) (rest := [.int 0, .ref (aw_ad G 133)]) (locs := []) (cells := 0) (slots := 0) (below := below) (e := e) (meth := meth) (R := aw_rm 7 1 6) (H := s.heap)
    ⟨hx, hb, hml, hown, hts⟩ (p9_led (G := G) (x := x) (τ := τ) hW hC hA l hfl) ⟨aw_CB.of kV_L_7.1 hts (Nat.le_refl 7) (Nat.le_refl 7) (Nat.le_refl (64 * 7)), hts _ kV_L_7.2.1, hts _ kV_L_7.2.2⟩
    ⟨aw_blind G _ _, ⟨cell, q1, by rw [q3]; rfl, by rw [q2]; exact (hK.1.1 9 _ aw_cl9.1).2.1⟩, fun U hU hW => ⟨by rw [List.map_cons, List.map_cons, List.map_nil, aw_cV_ref (by decide)]; rfl, by rw [hU]; exact hR, hK.warm hW⟩⟩ rfl rfl hLV.1 rfl (lv_room (Nat.le_of_ble_eq_true rfl)) dL_led_4 ⟨by decide, by decide⟩
  intro T hT X
  rcases hrun T hT X with ⟨v, st₀, t, T', L, z0, X', hL, e1, e2, ⟨v', h', hv', ⟨hnn, hQ⟩, hR'⟩, st⟩ | ⟨qa, st₀, t, T', L, E, ce, z0, X', hL, e1, e2, ⟨hE, h', H', hQ, hR', hz, hkeep⟩, hce, hcv, hcl, st⟩
  · cases hv'
    obtain ⟨rfl, ⟨rfl, -⟩ | ⟨mm, hm5, hsp, rfl⟩⟩ := hQ
    · exact absurd rfl hnn
    · have hsw : SW G 7 mL_led (aw_qi q) 0 0 7 [some (.ref 1), some (.int x), some (.ref 133), none] [.int (nI mm), .int 0, .ref 133] (n, σ, τ, θ) := by
        refine SW.i2l dL_led_7 ?_
        refine SW.last (o := 133) kp_133 (by decide) h133 (ps_in (i := 0) (N := 1) (by decide) (by decide)) dL_led_8 ?_
        refine SW.goto 15 dL_led_9 (by decide) ?_
        refine SW.iconst (v := (0 : Int32)) dL_led_15 (by decide) ?_
        exact SW.iret dL_led_16 rfl rfl ⟨_, rfl, h1 mm hsp hm5⟩
      have h3 := hsw.go C (H := T'.heap) (locs := [] ++ L) (ls := ls) (cells := 0 + 1) (slots := 0 + 6) ⟨by rw [e1]; exact hR', fun z hz => hL z (by simpa using hz), hLV, Nat.le_refl _, Nat.le_refl _⟩
      obtain ⟨t2, a1, b1⟩ := h3 T' rfl X'
      refine ⟨t2, st t2 ?_, b1⟩
      rw [List.map_cons, List.map_cons, List.map_cons, List.map_nil, aw_cV_ref (by decide)] at a1
      exact a1
  · subst hE
    obtain ⟨rfl, ⟨-, hsp⟩ | ⟨mm, hm5, hsp, hbad⟩⟩ := hQ
    · obtain ⟨n', hn', hR2⟩ := hR'.grow h133 (by rw [← e1] at hz; exact hz) (fun q hq => by rw [e1]; exact hkeep q hq)
      have hsw : SW G 7 mL_led (aw_qi q) 0 0 13 [none, none, none, none] [] (n', σ, τ, θ) := by
        refine SW.iconst (v := (1 : Int32)) dL_led_13 (by decide) ?_
        exact SW.iret dL_led_14 rfl rfl ⟨_, rfl, h0 hsp n' hn'⟩
      have hcat := vx_catch (p := p) (l := l) (e := e) (R := aw_rm 7 1 6) (s := s) (m := m) (below := below) (meth := meth) (c := c) (H := T'.heap) (locs := [] ++ L) (cells := 0 + 1) (slots := 0 + 6) (ls := ls) (rest := [.int 0, .ref (aw_ad G 133)]) (pc := 4) (own := RL) (name := lk_E) (E := lk_E) (ce := ce) (q := qa) hown [] ⟨0, 9, 12, 13⟩ [] htab (fun z hz => (nomatch hz)) (by decide) (by decide) (hts _ ww_1166)
        (by
          obtain ⟨A0, s0, f1, f2, f3, f4⟩ := hK.2.1.2
          exact lk_w (w := .castable lk_E lk_E) (by decide +kernel) (f2 _ (by decide +kernel)) f4) (by rw [e1]; exact hce) hcv hcl
        (lv_astore_n hx hb dL_led_12 rfl hLV (by decide) rfl (fun ls' h' => hsw.go C (S := []) ⟨hR2, fun z hz => hL z (by simpa using hz), aw_LV.of h' (fun i v hv => by
          rcases i with _ | _ | _ | _ | i <;> simp at hv), Nat.le_refl _, Nat.le_refl _⟩))
      obtain ⟨t2, a1, b1⟩ := hcat T' rfl X'
      exact ⟨t2, st.trans a1, b1⟩
    · cases hbad
end Ll
