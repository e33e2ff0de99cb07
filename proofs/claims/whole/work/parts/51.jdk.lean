/-! ===== the JDK's own methods over the String constants ===== -/
theorem jw_cs : Cond.fieldLink RJ0 38 "java/lang/String" "COMPACT_STRINGS" "Z" ∈ aw_TT := aw_in 558 (by decide +kernel) rfl
theorem jw_co : Cond.fieldLink RJ0 15 "java/lang/String" "coder" "B" ∈ aw_TT := aw_in 1883 (by decide +kernel) rfl
theorem jw_va : Cond.fieldLink RJ0 9 "java/lang/String" "value" "[B" ∈ aw_TT := aw_in 1882 (by decide +kernel) rfl
theorem jw_si : Cond.fieldLink RJ0 1053 "jdk/internal/util/Preconditions" "SIOOBE_FORMATTER" "Ljava/util/function/BiFunction;" ∈ aw_TT := aw_in 574 (by decide +kernel) rfl
theorem jw_1 : Cond.initialized RJ1 ∈ aw_TT := aw_in 125 (by decide +kernel) rfl
theorem jw_3 : Cond.initialized RJ3 ∈ aw_TT := aw_in 126 (by decide +kernel) rfl
theorem kV_J0_335 : aw_CV RJ0 335 mJ0_coder_7d493 0 := ⟨⟨aw_in 554 (by decide +kernel) rfl, ww_124, aw_in 557 (by decide +kernel) rfl, ⟨by decide, by decide, by decide +kernel⟩, by decide⟩, aw_in 555 (by decide +kernel) rfl, aw_in 556 (by decide +kernel) rfl⟩
theorem kV_J0_492 : aw_CV RJ0 492 mJ0_isLatin1_aae02 0 := ⟨⟨aw_in 564 (by decide +kernel) rfl, ww_124, aw_in 567 (by decide +kernel) rfl, ⟨by decide, by decide, by decide +kernel⟩, by decide⟩, aw_in 565 (by decide +kernel) rfl, aw_in 566 (by decide +kernel) rfl⟩
theorem kS_J0_495 : aw_CS RJ0 495 mJ1_charAt_3b067 2 := ⟨⟨aw_in 568 (by decide +kernel) rfl, jw_1, aw_in 570 (by decide +kernel) rfl, ⟨by decide, by decide, by decide +kernel⟩, by decide⟩, aw_in 569 (by decide +kernel) rfl⟩
theorem kS_J1_9 : aw_CS RJ1 9 mJ0_checkIndex_df160 2 := ⟨⟨aw_in 571 (by decide +kernel) rfl, ww_124, aw_in 573 (by decide +kernel) rfl, ⟨by decide, by decide, by decide +kernel⟩, by decide⟩, aw_in 572 (by decide +kernel) rfl⟩
theorem kS_J0_1059 : aw_CS RJ0 1059 mJ3_checkIndex_8e157 3 := ⟨⟨aw_in 576 (by decide +kernel) rfl, jw_3, aw_in 578 (by decide +kernel) rfl, ⟨by decide, by decide, by decide +kernel⟩, by decide⟩, aw_in 577 (by decide +kernel) rfl⟩
theorem jd_str : ∀ st ∈ aw_strs, st.2.2.2.length < 64 ∧ ∀ x ∈ st.2.2.2, ((x &&& 255).toUInt32 % 65536).toInt32 = x := by decide +kernel
theorem jd_ref {G : GG} {j : Nat} : aw_cV G (.ref (1000 + j)) = .ref (G.2.2.2.1 j) := by
  show aw_rv G (1000 + j) = _
  unfold aw_rv aw_ad
  rw [if_neg (by omega), if_neg (by omega), show 1000 + j - 1000 = j by omega]
def jd_Q (x : Option Value) : Array Value → State → Outcome → State → Prop := fun _ st o t => o = .returned x ∧ t.heap = st.heap
def jd_P (G : GG) (h : HH) (vs : List Value) : Array Value → State → Prop := fun v U => v = vs.toArray ∧ aw_Rep G h U.heap ∧ aw_K G U
theorem jd_blind (G : GG) (h : HH) (vs : List Value) : FrameBlind (jd_P G h vs) := fun _ U _ _ q => ⟨q.1, q.2.1, q.2.2.same (s := U) rfl⟩
abbrev jd_A (G : GG) : Nat → Prop := fun q => G.2.2.1.size ≤ q
theorem jd_kept {G : GG} {h : HH} {H : Heap} (hR : aw_Rep G h H) : ∀ a : Nat, a < G.2.2.1.size → ¬ jd_A G a → H[a]? = G.2.2.1[a]? := fun a ha _ => hR.2.1 a ha
theorem jd_Z {G : GG} {U : State} (h : aw_K G U) : va_Z "java/lang/String" "COMPACT_STRINGS" "Z" (.int 1) (jd_A G) U G.2.2.1 := by
  obtain ⟨A0, s0, e1, e2, e3, e4⟩ := h.2.1.2
  have h1 := flat_of_before _ e3 (Cond.eq (.static "java/lang/String" "COMPACT_STRINGS" "Z") (.int 1)) (by decide +kernel)
  have h2 := va_Zof (A := jd_A G) (e2 (Cond.laysStatic "java/lang/String" "COMPACT_STRINGS" "Z") (List.mem_of_getElem? (i := 559) (by decide +kernel))) (e2 (Cond.initialized "java/lang/String") (List.mem_of_getElem? (i := 124) (by decide +kernel))) (va_eqi h1) (fun a ha hq => by rw [e1] at ha; exact Nat.not_le.mpr ha hq)
  rw [e1] at h2
  exact h2.moved e4.alike
theorem jd_Zq {G : GG} {U : State} (h : aw_K G U) : va_Zq "jdk/internal/util/Preconditions" "SIOOBE_FORMATTER" "Ljava/util/function/BiFunction;" (jd_A G) U G.2.2.1 := by
  obtain ⟨A0, s0, e1, e2, e3, e4⟩ := h.2.1.2
  have h1 := flat_of_before _ e3 (Cond.isRef (.static "jdk/internal/util/Preconditions" "SIOOBE_FORMATTER" "Ljava/util/function/BiFunction;")) (by decide +kernel)
  have h2 := va_Zqof (A := jd_A G) (e2 (Cond.laysStatic "jdk/internal/util/Preconditions" "SIOOBE_FORMATTER" "Ljava/util/function/BiFunction;") (List.mem_of_getElem? (i := 575) (by decide +kernel))) (e2 (Cond.initialized "jdk/internal/util/Preconditions") (List.mem_of_getElem? (i := 126) (by decide +kernel))) h1 (fun a ha hq => by rw [e1] at ha; exact Nat.not_le.mpr ha hq)
  rw [e1] at h2
  exact h2.moved e4.alike
section JdCall
variable {p : Program} {l : Launch} {e : Env} {R : Room} {s : State} {m : MethodId} {args : Array Value} {below : List Frame} {meth : Method} {c : Code} {H : Heap} {locs : List Loc} {cells slots : Nat} {Q : State → Prop}
variable {pc : Nat} {ls : Array Slot} {rest st0 : List Value} {a : Array Value}
theorem jd_call {x : Option Value} (hr : va_Run p l e R s m args below meth c H locs cells slots 0 0 (F0 m pc ls st0) rest (jd_Q x a) (fun _ => False))
    (kk : W p l e R s m args below meth c H locs cells slots Q (F0 m (pc + 3) ls (x.toList ++ rest))) : W p l e R s m args below meth c H locs cells slots Q (F0 m pc ls st0) := by
  intro T hT X
  obtain ⟨v, st₀, t, T', L, h0, X', hL, e1, -, ⟨hv, hh⟩, st⟩ := hr T hT X
  cases hv
  obtain ⟨t2, a1, b1⟩ := kk T' (by rw [e1, hh, h0]) (Stand.forget X' (fun q h => (hL q h).elim))
  exact ⟨t2, st t2 a1, b1⟩
end JdCall
set_option maxHeartbeats 4000000 in
set_option maxRecDepth 100000 in
theorem jd_coder (l : Launch) (G : GG) (h : HH) {j : Nat} {st : String × Nat × String × List Int32} (hj : aw_strs[j]? = some st) : Met l yJ0_coder_7d493 (aw_ws mJ0_coder_7d493) (aw_rm 1 0 0) (jd_P G h [.ref (G.2.2.2.1 j)]) (jd_Q (some (.int 0))) 0 0 (fun _ => False) := by
  refine Met.ofW (cc := cJ0_coder_7d493) (maxL := 1) (ret := some .byte) (ws' := aw_TT) rfl rfl ?_
  intro p e s m args below meth c s₁ B hml hv
  obtain ⟨rfl, hR, hK⟩ := hv
  have hts0 := atoms_spec (ws := aw_ws mJ0_coder_7d493) B.pre
  have hts : ∀ w ∈ aw_TT, w.before [Value.ref (G.2.2.2.1 j)].toArray s = true := fun w hw => hts0 w (List.mem_cons_of_mem _ hw)
  have hx := B.exec
  have hb := B.bytes
  have hr := B.returns
  have hlocks := B.notSynchronized
  have hown : s.vm.findClass RJ0 = some m.cls := findClass_of_methodNamed B.named
  have hl := lv_entry ([.ref (G.2.2.2.1 j)]) (n := 1) (Nat.le_of_ble_eq_true rfl)
  rw [lg_entry_eq]
  generalize (lg_sl ([.ref (G.2.2.2.1 j)]) ++ List.replicate (1 - (lg_sl ([.ref (G.2.2.2.1 j)])).length) Slot.unset).toArray = ls at hl ⊢
  have hl : lv_has ls 1 [(0, .ref (G.2.2.2.1 j))] := hl
  have hS : va_S (jd_A G) s.heap s.heap [] := va_S.rf
  refine va_gets hx hb ((jd_Z hK).kept (jd_kept hR)) hS hown (hts _ jw_cs) (fun _ h => h) dJ0_coder_7d493_0 ?_
  refine lv_if_eq (tgt := 13) hx hb dJ0_coder_7d493_3 (by decide) (fun q => absurd q (by decide)) (fun _ => ?_)
  refine lv_aload_n hx hb dJ0_coder_7d493_6 rfl (lv_at hl 0 rfl) ?_
  refine vk_getf hx hb ((hK.2.2.2 j _ hj).2.2.1.kept (jd_kept hR)) hS hown (hts _ jw_co) (fun _ h => h) dJ0_coder_7d493_7 ?_
  refine lv_goto (tgt := 14) hx hb dJ0_coder_7d493_10 (by decide) ?_
  exact W.zret hx hb hr rfl (fun t ht _ => ⟨rfl, ht⟩) (fun q h => absurd h List.not_mem_nil) dJ0_coder_7d493_14
set_option maxHeartbeats 4000000 in
set_option maxRecDepth 100000 in
theorem jd_isLatin1 (l : Launch) (G : GG) (h : HH) {j : Nat} {st : String × Nat × String × List Int32} (hj : aw_strs[j]? = some st) : Met l yJ0_isLatin1_aae02 (aw_ws mJ0_isLatin1_aae02) (aw_rm 1 0 0) (jd_P G h [.ref (G.2.2.2.1 j)]) (jd_Q (some (.int 1))) 0 0 (fun _ => False) := by
  refine Met.ofW (cc := cJ0_isLatin1_aae02) (maxL := 1) (ret := some .boolean) (ws' := aw_TT) rfl rfl ?_
  intro p e s m args below meth c s₁ B hml hv
  obtain ⟨rfl, hR, hK⟩ := hv
  have hts0 := atoms_spec (ws := aw_ws mJ0_isLatin1_aae02) B.pre
  have hts : ∀ w ∈ aw_TT, w.before [Value.ref (G.2.2.2.1 j)].toArray s = true := fun w hw => hts0 w (List.mem_cons_of_mem _ hw)
  have hx := B.exec
  have hb := B.bytes
  have hr := B.returns
  have hlocks := B.notSynchronized
  have hown : s.vm.findClass RJ0 = some m.cls := findClass_of_methodNamed B.named
  have hl := lv_entry ([.ref (G.2.2.2.1 j)]) (n := 1) (Nat.le_of_ble_eq_true rfl)
  rw [lg_entry_eq]
  generalize (lg_sl ([.ref (G.2.2.2.1 j)]) ++ List.replicate (1 - (lg_sl ([.ref (G.2.2.2.1 j)])).length) Slot.unset).toArray = ls at hl ⊢
  have hl : lv_has ls 1 [(0, .ref (G.2.2.2.1 j))] := hl
  have hS : va_S (jd_A G) s.heap s.heap [] := va_S.rf
  refine va_gets hx hb ((jd_Z hK).kept (jd_kept hR)) hS hown (hts _ jw_cs) (fun _ h => h) dJ0_isLatin1_aae02_0 ?_
  refine lv_if_eq (tgt := 17) hx hb dJ0_isLatin1_aae02_3 (by decide) (fun q => absurd q (by decide)) (fun _ => ?_)
  refine lv_aload_n hx hb dJ0_isLatin1_aae02_6 rfl (lv_at hl 0 rfl) ?_
  refine vk_getf hx hb ((hK.2.2.2 j _ hj).2.2.1.kept (jd_kept hR)) hS hown (hts _ jw_co) (fun _ h => h) dJ0_isLatin1_aae02_7 ?_
  refine lv_if_ne (tgt := 17) hx hb dJ0_isLatin1_aae02_10 (by decide) (fun q => absurd rfl q) (fun _ => ?_)
  refine lv_iconst (v := 1) hx hb dJ0_isLatin1_aae02_13 (by decide) ?_
  refine lv_goto (tgt := 18) hx hb dJ0_isLatin1_aae02_14 (by decide) ?_
  exact W.zret hx hb hr rfl (fun t ht _ => ⟨rfl, ht⟩) (fun q h => absurd h List.not_mem_nil) dJ0_isLatin1_aae02_18
theorem dJ3c_16 : decode cJ3_checkIndex_8e157 16 = .ok (.iload_n 0, 1) := by decide +kernel
theorem dJ3c_17 : decode cJ3_checkIndex_8e157 17 = .ok (.ireturn, 1) := by decide +kernel
set_option maxHeartbeats 4000000 in
set_option maxRecDepth 100000 in
theorem jd_pre (l : Launch) (G : GG) (h : HH) {i L : Nat} (hi : i < L) (hL : L < 2 ^ 31) (w : Value) (hw : w = .null ∨ ∃ t, w = .ref t) : Met l yJ3_checkIndex_8e157 (aw_ws mJ3_checkIndex_8e157) (aw_rm 1 0 0) (jd_P G h [.int (nI i), .int (nI L), w]) (jd_Q (some (.int (nI i)))) 0 0 (fun _ => False) := by
  refine Met.ofW (cc := cJ3_checkIndex_8e157) (maxL := 3) (ret := some .int) (ws' := aw_TT) rfl rfl ?_
  intro p e s m args below meth c s₁ B hml hv
  obtain ⟨rfl, hR, hK⟩ := hv
  have hx := B.exec
  have hb := B.bytes
  have hr := B.returns
  have hlocks := B.notSynchronized
  have hl := lv_entry ([.int (nI i), .int (nI L), w]) (n := 3) (by rcases hw with rfl | ⟨t, rfl⟩ <;> exact Nat.le_of_ble_eq_true rfl)
  rw [lg_entry_eq]
  generalize (lg_sl ([.int (nI i), .int (nI L), w]) ++ List.replicate (3 - (lg_sl ([.int (nI i), .int (nI L), w])).length) Slot.unset).toArray = ls at hl ⊢
  have hl : lv_has ls 3 [(0, .int (nI i)), (1, .int (nI L))] := by
    refine ⟨hl.1, hl.2.1, fun q hq => hl.2.2 q ?_⟩
    show q ∈ (0, Value.int (nI i)) :: (1, Value.int (nI L)) :: _
    rcases List.mem_cons.mp hq with e | hq
    · rw [e]; exact List.mem_cons_self
    · rcases List.mem_cons.mp hq with e | hq
      · rw [e]; exact List.mem_cons_of_mem _ List.mem_cons_self
      · cases hq
  refine lv_iload_n hx hb dJ3_checkIndex_8e157_0 rfl (lv_at hl 0 rfl) ?_
  refine lv_if_lt (tgt := 9) hx hb dJ3_checkIndex_8e157_1 (by decide) (fun q => absurd q (nI_pos (by omega))) (fun _ => ?_)
  refine lv_iload_n hx hb dJ3_checkIndex_8e157_4 rfl (lv_at hl 0 rfl) ?_
  refine lv_iload_n hx hb dJ3_checkIndex_8e157_5 rfl (lv_at hl 1 rfl) ?_
  refine lv_icmp_lt (tgt := 16) hx hb dJ3_checkIndex_8e157_6 (by decide) (fun _ => ?_) (fun q => absurd (nI_lt hi hL) q)
  refine lv_iload_n hx hb dJ3c_16 rfl (lv_at hl 0 rfl) ?_
  exact W.zret hx hb hr rfl (fun t ht _ => ⟨rfl, ht⟩) (fun q h => absurd h List.not_mem_nil) dJ3c_17
set_option maxHeartbeats 4000000 in
set_option maxRecDepth 100000 in
theorem jd_check (l : Launch) (G : GG) (h : HH) {i L : Nat} (hi : i < L) (hL : L < 2 ^ 31) : Met l yJ0_checkIndex_df160 (aw_ws mJ0_checkIndex_df160) (aw_rm 2 0 0) (jd_P G h [.int (nI i), .int (nI L)]) (jd_Q none) 0 0 (fun _ => False) := by
  refine Met.ofW (cc := cJ0_checkIndex_df160) (maxL := 2) (ret := none) (ws' := aw_TT) rfl rfl ?_
  intro p e s m args below meth c s₁ B hml hv
  obtain ⟨rfl, hR, hK⟩ := hv
  have hts0 := atoms_spec (ws := aw_ws mJ0_checkIndex_df160) B.pre
  have hts : ∀ w ∈ aw_TT, w.before [Value.int (nI i), .int (nI L)].toArray s = true := fun w hw => hts0 w (List.mem_cons_of_mem _ hw)
  have hx := B.exec
  have hb := B.bytes
  have hr := B.returns
  have hlocks := B.notSynchronized
  have hown : s.vm.findClass RJ0 = some m.cls := findClass_of_methodNamed B.named
  have hl := lv_entry ([.int (nI i), .int (nI L)]) (n := 2) (Nat.le_of_ble_eq_true rfl)
  rw [lg_entry_eq]
  generalize (lg_sl ([.int (nI i), .int (nI L)]) ++ List.replicate (2 - (lg_sl ([.int (nI i), .int (nI L)])).length) Slot.unset).toArray = ls at hl ⊢
  have hl : lv_has ls 2 [(0, .int (nI i)), (1, .int (nI L))] := hl
  have hS : va_S (jd_A G) s.heap s.heap [] := va_S.rf
  show W p l e (aw_rm 2 0 0) s m _ below meth c s.heap [] 0 0 _ _
  refine lv_iload_n hx hb dJ0_checkIndex_df160_0 rfl (lv_at hl 0 rfl) ?_
  refine lv_iload_n hx hb dJ0_checkIndex_df160_1 rfl (lv_at hl 1 rfl) ?_
  have key : ∀ w : Value, (w = .null ∨ ∃ t, w = .ref t) → va_Z "jdk/internal/util/Preconditions" "SIOOBE_FORMATTER" "Ljava/util/function/BiFunction;" w (jd_A G) s G.2.2.1 → W p l e (aw_rm 2 0 0) s m [Value.int (nI i), .int (nI L)].toArray below meth c s.heap [] 0 0 (MQ below (jd_Q none) [Value.int (nI i), .int (nI L)].toArray s 0 0 (fun _ => False)) (F0 m 2 ls [.int (nI L), .int (nI i)]) := by
    intro w hw hZ
    refine va_gets hx hb (hZ.kept (jd_kept hR)) hS hown (hts _ jw_si) (fun _ h => h) dJ0_checkIndex_df160_2 ?_
    refine jd_call (x := some (.int (nI i))) (rest := []) (va_runS (As := [.int (nI i), .int (nI L), w]) (Ts := aw_TT) (nL := 2) (own := RJ0) (index := 1059) (n := 3) (bytes := cJ3_checkIndex_8e157) (maxL := 3) (ret := some .int) ⟨hx, hb, hml, hown, hts⟩ (jd_pre l G h hi hL w hw) ⟨aw_CB.of (y' := mJ3_checkIndex_8e157) (k := 2) (k' := 1) kS_J0_1059.1 hts (by decide) (Nat.le_refl _) (Nat.le_refl _), hts _ kS_J0_1059.2⟩ ⟨jd_blind G h _, fun U hU hW => ⟨rfl, by rw [hU]; exact hR, hK.warm hW⟩⟩ rfl rfl hl.1 rfl (lv_room (Nat.le_of_ble_eq_true rfl)) dJ0_checkIndex_df160_5 ⟨Nat.le_refl _, Nat.le_refl _⟩) ?_
    refine lv_pop hx hb dJ0_checkIndex_df160_8 rfl ?_
    exact W.vret hx hb hr (fun t ht _ => ⟨rfl, ht⟩) (fun q h => absurd h List.not_mem_nil) dJ0_checkIndex_df160_9
  rcases jd_Zq hK with hZ | ⟨t, hZ⟩
  · exact key _ (Or.inl rfl) hZ
  · exact key _ (Or.inr ⟨t, rfl⟩) hZ
set_option maxHeartbeats 4000000 in
set_option maxRecDepth 100000 in
theorem jd_latin (l : Launch) (G : GG) (h : HH) {j k : Nat} {st : String × Nat × String × List Int32} (hj : aw_strs[j]? = some st) (hk : k < st.2.2.2.length) : Met l yJ1_charAt_3b067 (aw_ws mJ1_charAt_3b067) (aw_rm 3 0 0) (jd_P G h [.ref (G.2.2.2.2 j), .int (nI k)]) (jd_Q (some (.int (st.2.2.2.getD k 0)))) 0 0 (fun _ => False) := by
  obtain ⟨h64, hch⟩ := jd_str st (List.mem_of_getElem? hj)
  have hc : ((st.2.2.2.getD k 0 &&& 255).toUInt32 % 65536).toInt32 = st.2.2.2.getD k 0 := by
    refine hch _ ?_
    rw [List.getD_eq_getElem?_getD, List.getElem?_eq_getElem hk]
    exact List.getElem_mem hk
  refine Met.ofW (cc := cJ1_charAt_3b067) (maxL := 2) (ret := some .char) (ws' := aw_TT) rfl rfl ?_
  intro p e s m args below meth c s₁ B hml hv
  obtain ⟨rfl, hR, hK⟩ := hv
  have hts0 := atoms_spec (ws := aw_ws mJ1_charAt_3b067) B.pre
  have hts : ∀ w ∈ aw_TT, w.before [Value.ref (G.2.2.2.2 j), .int (nI k)].toArray s = true := fun w hw => hts0 w (List.mem_cons_of_mem _ hw)
  have hx := B.exec
  have hb := B.bytes
  have hr := B.returns
  have hlocks := B.notSynchronized
  have hown : s.vm.findClass RJ1 = some m.cls := findClass_of_methodNamed B.named
  have hl := lv_entry ([.ref (G.2.2.2.2 j), .int (nI k)]) (n := 2) (Nat.le_of_ble_eq_true rfl)
  rw [lg_entry_eq]
  generalize (lg_sl ([.ref (G.2.2.2.2 j), .int (nI k)]) ++ List.replicate (2 - (lg_sl ([.ref (G.2.2.2.2 j), .int (nI k)])).length) Slot.unset).toArray = ls at hl ⊢
  have hl : lv_has ls 2 [(0, .ref (G.2.2.2.2 j)), (1, .int (nI k))] := hl
  have hS : va_S (jd_A G) s.heap s.heap [] := va_S.rf
  have hT := (hK.2.2.2 j _ hj).2.2.2.2.kept (jd_kept hR)
  show W p l e (aw_rm 3 0 0) s m _ below meth c s.heap [] 0 0 _ _
  refine lv_iload_n hx hb dJ1_charAt_3b067_0 rfl (lv_at hl 1 rfl) ?_
  refine lv_aload_n hx hb dJ1_charAt_3b067_1 rfl (lv_at hl 0 rfl) ?_
  obtain ⟨cell, q1, q2, q3, q4, q5, q6, q7⟩ := id hT
  refine W.alen (n := nI st.2.2.2.length) hx hb q1 q2 q5 rfl rfl dJ1_charAt_3b067_2 ?_
  refine jd_call (x := none) (rest := []) (va_runS (As := [.int (nI k), .int (nI st.2.2.2.length)]) (Ts := aw_TT) (nL := 2) (own := RJ1) (index := 9) (n := 2) (bytes := cJ0_checkIndex_df160) (maxL := 2) (ret := none) ⟨hx, hb, hml, hown, hts⟩ (jd_check l G h hk (by omega)) ⟨aw_CB.of (y' := mJ0_checkIndex_df160) (k := 3) (k' := 2) kS_J1_9.1 hts (by decide) (Nat.le_refl _) (Nat.le_refl _), hts _ kS_J1_9.2⟩ ⟨jd_blind G h _, fun U hU hW => ⟨rfl, by rw [hU]; exact hR, hK.warm hW⟩⟩ rfl rfl hl.1 rfl (lv_room (Nat.le_of_ble_eq_true rfl)) dJ1_charAt_3b067_3 ⟨Nat.le_refl _, Nat.le_refl _⟩) ?_
  refine lv_aload_n hx hb dJ1_charAt_3b067_6 rfl (lv_at hl 0 rfl) ?_
  refine lv_iload_n hx hb dJ1_charAt_3b067_7 rfl (lv_at hl 1 rfl) ?_
  refine va_tb (v := .int (st.2.2.2.getD k 0)) hx hb hT hS (vp_in_nI hk (by omega)) (by rw [ps_cl (by omega)]) dJ1_charAt_3b067_8 ?_
  refine lv_sipush (v := 255) hx hb dJ1_charAt_3b067_9 (by decide) ?_
  refine lv_iand hx hb dJ1_charAt_3b067_12 ?_
  refine lv_i2c (v := st.2.2.2.getD k 0) hx hb dJ1_charAt_3b067_13 hc ?_
  exact W.zret hx hb hr (by have := pk_nc (st.2.2.2.getD k 0 &&& 255); rw [hc] at this; exact this) (fun t ht _ => ⟨rfl, ht⟩) (fun q h => absurd h List.not_mem_nil) dJ1_charAt_3b067_14
section JdStr
variable {G : GG} {n : Nat} {σ : SG} {τ : TU} {θ : TH} {q : Int32 → Nat → SG → TU → TH → Prop}
set_option maxHeartbeats 4000000 in
set_option maxRecDepth 100000 in
theorem kJ_length {j : Nat} {st : String × Nat × String × List Int32} (hj : aw_strs[j]? = some st) (hq : q (nI st.2.2.2.length) n σ τ θ) : SMi G 2 mJ0_length_8abf5 0 0 [.ref (1000 + j)] n σ τ θ q := by
  obtain ⟨h64, -⟩ := jd_str st (List.mem_of_getElem? hj)
  intro l _
  refine Met.ofW (cc := cJ0_length_8abf5) (maxL := 1) (ret := some .int) (ws' := aw_TT) rfl rfl ?_
  intro p e s m args below meth c s₁ B hml hv
  obtain ⟨ha, hR, hK⟩ := hv
  have ea : ([Value.ref (1000 + j)] : List Value).map (aw_cV G) = [.ref (G.2.2.2.1 j)] := by rw [List.map_cons, List.map_nil, jd_ref]
  rw [ea] at ha
  subst ha
  have hts0 := atoms_spec (ws := aw_ws mJ0_length_8abf5) B.pre
  have hts : ∀ w ∈ aw_TT, w.before [Value.ref (G.2.2.2.1 j)].toArray s = true := fun w hw => hts0 w (List.mem_cons_of_mem _ hw)
  have hx := B.exec
  have hb := B.bytes
  have hr := B.returns
  have hlocks := B.notSynchronized
  have hown : s.vm.findClass RJ0 = some m.cls := findClass_of_methodNamed B.named
  have hl := lv_entry ([.ref (G.2.2.2.1 j)]) (n := 1) (Nat.le_of_ble_eq_true rfl)
  rw [lg_entry_eq]
  generalize (lg_sl ([.ref (G.2.2.2.1 j)]) ++ List.replicate (1 - (lg_sl ([.ref (G.2.2.2.1 j)])).length) Slot.unset).toArray = ls at hl ⊢
  have hl : lv_has ls 1 [(0, .ref (G.2.2.2.1 j))] := hl
  have hS : va_S (jd_A G) s.heap s.heap [] := va_S.rf
  have h4 := hK.2.2.2 j _ hj
  show W p l e (aw_rm 2 0 0) s m _ below meth c s.heap [] 0 0 _ _
  refine lv_aload_n hx hb dJ0_length_8abf5_0 rfl (lv_at hl 0 rfl) ?_
  refine vk_getf hx hb (h4.2.2.2.1.kept (jd_kept hR)) hS hown (hts _ jw_va) (fun _ h => h) dJ0_length_8abf5_1 ?_
  obtain ⟨cell, q1, q2, q3, q4, q5, q6, q7⟩ := h4.2.2.2.2.kept (jd_kept hR)
  refine W.alen (n := nI st.2.2.2.length) hx hb q1 q2 q5 rfl rfl dJ0_length_8abf5_4 ?_
  refine lv_aload_n hx hb dJ0_length_8abf5_5 rfl (lv_at hl 0 rfl) ?_
  obtain ⟨cell2, r1, r2, r3, r4⟩ := h4.2.1.kept (jd_kept hR)
  refine jd_call (x := some (.int 0)) (rest := [.int (nI st.2.2.2.length)]) (va_runV (C := "java/lang/String") (As := []) (Ts := aw_TT) (nL := 1) (own := RJ0) (index := 335) (n := 0) (bytes := cJ0_coder_7d493) (maxL := 1) (ret := some .byte) ⟨hx, hb, hml, hown, hts⟩ (jd_coder l G (n, σ, τ, θ) hj) ⟨aw_CB.of (y' := mJ0_coder_7d493) (k := 2) (k' := 1) kV_J0_335.1 hts (by decide) (Nat.le_refl _) (Nat.le_refl _), hts _ kV_J0_335.2.1, hts _ kV_J0_335.2.2⟩ ⟨jd_blind G _ _, ⟨cell2, r1, r2, r3⟩, fun U hU hW => ⟨rfl, by rw [hU]; exact hR, hK.warm hW⟩⟩ rfl rfl hl.1 rfl (lv_room (Nat.le_of_ble_eq_true rfl)) dJ0_length_8abf5_6 ⟨Nat.le_refl _, Nat.le_refl _⟩) ?_
  refine lv_ishr hx hb dJ0_length_8abf5_9 ?_
  have e0 : nI st.2.2.2.length >>> ((0 : Int32) &&& 31) = nI st.2.2.2.length := by
    rw [pk_shrN (by omega) _ 0 (by decide)]
    simp
  rw [e0]
  exact W.zret hx hb hr rfl (fun t ht _ => ⟨_, (n, σ, τ, θ), rfl, ⟨_, rfl, hq⟩, by rw [ht]; exact hR⟩) (fun q h => absurd h List.not_mem_nil) dJ0_length_8abf5_10
set_option maxHeartbeats 4000000 in
set_option maxRecDepth 100000 in
theorem kJ_charAt {j k : Nat} {st : String × Nat × String × List Int32} (hj : aw_strs[j]? = some st) (hk : k < st.2.2.2.length) (hq : q (st.2.2.2.getD k 0) n σ τ θ) : SMi G 4 mJ0_charAt_5068e 0 0 [.ref (1000 + j), .int (nI k)] n σ τ θ q := by
  obtain ⟨h64, hch⟩ := jd_str st (List.mem_of_getElem? hj)
  have hc : ((st.2.2.2.getD k 0 &&& 255).toUInt32 % 65536).toInt32 = st.2.2.2.getD k 0 := by
    refine hch _ ?_
    rw [List.getD_eq_getElem?_getD, List.getElem?_eq_getElem hk]
    exact List.getElem_mem hk
  intro l _
  refine Met.ofW (cc := cJ0_charAt_5068e) (maxL := 2) (ret := some .char) (ws' := aw_TT) rfl rfl ?_
  intro p e s m args below meth c s₁ B hml hv
  obtain ⟨ha, hR, hK⟩ := hv
  have ea : ([Value.ref (1000 + j), .int (nI k)] : List Value).map (aw_cV G) = [.ref (G.2.2.2.1 j), .int (nI k)] := by
    rw [List.map_cons, List.map_cons, List.map_nil, jd_ref]
    rfl
  rw [ea] at ha
  subst ha
  have hts0 := atoms_spec (ws := aw_ws mJ0_charAt_5068e) B.pre
  have hts : ∀ w ∈ aw_TT, w.before [Value.ref (G.2.2.2.1 j), .int (nI k)].toArray s = true := fun w hw => hts0 w (List.mem_cons_of_mem _ hw)
  have hx := B.exec
  have hb := B.bytes
  have hr := B.returns
  have hlocks := B.notSynchronized
  have hown : s.vm.findClass RJ0 = some m.cls := findClass_of_methodNamed B.named
  have hl := lv_entry ([.ref (G.2.2.2.1 j), .int (nI k)]) (n := 2) (Nat.le_of_ble_eq_true rfl)
  rw [lg_entry_eq]
  generalize (lg_sl ([.ref (G.2.2.2.1 j), .int (nI k)]) ++ List.replicate (2 - (lg_sl ([.ref (G.2.2.2.1 j), .int (nI k)])).length) Slot.unset).toArray = ls at hl ⊢
  have hl : lv_has ls 2 [(0, .ref (G.2.2.2.1 j)), (1, .int (nI k))] := hl
  have hS : va_S (jd_A G) s.heap s.heap [] := va_S.rf
  have h4 := hK.2.2.2 j _ hj
  show W p l e (aw_rm 4 0 0) s m _ below meth c s.heap [] 0 0 _ _
  refine lv_aload_n hx hb dJ0_charAt_5068e_0 rfl (lv_at hl 0 rfl) ?_
  obtain ⟨cell2, r1, r2, r3, r4⟩ := h4.2.1.kept (jd_kept hR)
  refine jd_call (x := some (.int 1)) (rest := []) (va_runV (C := "java/lang/String") (As := []) (Ts := aw_TT) (nL := 2) (own := RJ0) (index := 492) (n := 0) (bytes := cJ0_isLatin1_aae02) (maxL := 1) (ret := some .boolean) ⟨hx, hb, hml, hown, hts⟩ (jd_isLatin1 l G (n, σ, τ, θ) hj) ⟨aw_CB.of (y' := mJ0_isLatin1_aae02) (k := 4) (k' := 1) kV_J0_492.1 hts (by decide) (Nat.le_refl _) (Nat.le_refl _), hts _ kV_J0_492.2.1, hts _ kV_J0_492.2.2⟩ ⟨jd_blind G _ _, ⟨cell2, r1, r2, r3⟩, fun U hU hW => ⟨rfl, by rw [hU]; exact hR, hK.warm hW⟩⟩ rfl rfl hl.1 rfl (lv_room (Nat.le_of_ble_eq_true rfl)) dJ0_charAt_5068e_1 ⟨Nat.le_refl _, Nat.le_refl _⟩) ?_
  refine lv_if_eq (tgt := 16) hx hb dJ0_charAt_5068e_4 (by decide) (fun q => absurd q (by decide)) (fun _ => ?_)
  refine lv_aload_n hx hb dJ0_charAt_5068e_7 rfl (lv_at hl 0 rfl) ?_
  refine vk_getf hx hb (h4.2.2.2.1.kept (jd_kept hR)) hS hown (hts _ jw_va) (fun _ h => h) dJ0_charAt_5068e_8 ?_
  refine lv_iload_n hx hb dJ0_charAt_5068e_11 rfl (lv_at hl 1 rfl) ?_
  refine jd_call (x := some (.int (st.2.2.2.getD k 0))) (rest := []) (va_runS (As := [.ref (G.2.2.2.2 j), .int (nI k)]) (Ts := aw_TT) (nL := 2) (own := RJ0) (index := 495) (n := 2) (bytes := cJ1_charAt_3b067) (maxL := 2) (ret := some .char) ⟨hx, hb, hml, hown, hts⟩ (jd_latin l G (n, σ, τ, θ) hj hk) ⟨aw_CB.of (y' := mJ1_charAt_3b067) (k := 4) (k' := 3) kS_J0_495.1 hts (by decide) (Nat.le_refl _) (Nat.le_refl _), hts _ kS_J0_495.2⟩ ⟨jd_blind G _ _, fun U hU hW => ⟨rfl, by rw [hU]; exact hR, hK.warm hW⟩⟩ rfl rfl hl.1 rfl (lv_room (Nat.le_of_ble_eq_true rfl)) dJ0_charAt_5068e_12 ⟨Nat.le_refl _, Nat.le_refl _⟩) ?_
  exact W.zret hx hb hr (by have := pk_nc (st.2.2.2.getD k 0 &&& 255); rw [hc] at this; exact this) (fun t ht _ => ⟨_, (n, σ, τ, θ), rfl, ⟨_, rfl, hq⟩, by rw [ht]; exact hR⟩) (fun q h => absurd h List.not_mem_nil) dJ0_charAt_5068e_15
end JdStr
