/-! ===== calls ===== -/
abbrev SG : Type := Nat → Nat → Int32
abbrev TU : Type := Nat → Nat → Int64
abbrev TH : Type := Nat → Nat → Nat
def SMi (G : GG) (k : Nat) (y : MD) (a b : Nat) (As : List Value) (n : Nat) (σ : SG) (τ : TU) (θ : TH) (q : Int32 → Nat → SG → TU → TH → Prop) : Prop := SM G k y a b As (n, σ, τ, θ) (fun v h => ∃ x : Int32, v = some (.int x) ∧ q x h.1 h.2.1 h.2.2.1 h.2.2.2)
def SMl (G : GG) (k : Nat) (y : MD) (a b : Nat) (As : List Value) (n : Nat) (σ : SG) (τ : TU) (θ : TH) (q : Int64 → Nat → SG → TU → TH → Prop) : Prop := SM G k y a b As (n, σ, τ, θ) (fun v h => ∃ x : Int64, v = some (.long x) ∧ q x h.1 h.2.1 h.2.2.1 h.2.2.2)
def SMv (G : GG) (k : Nat) (y : MD) (a b : Nat) (As : List Value) (n : Nat) (σ : SG) (τ : TU) (θ : TH) (q : Nat → SG → TU → TH → Prop) : Prop := SM G k y a b As (n, σ, τ, θ) (fun v h => v = none ∧ q h.1 h.2.1 h.2.2.1 h.2.2.2)
/-- the words of a call of y' at entry i of the class own -/
def aw_CB (own : String) (i : Nat) (y' : MD) (n : Nat) : Prop := Cond.methodLink own i y'.1 ∈ aw_TT ∧ Cond.initialized y'.1.cls ∈ aw_TT ∧ Cond.code y'.1 y'.2.1 y'.2.2.1 y'.2.2.2 ∈ aw_TT ∧ (y'.1.cls ≠ "java/lang/invoke/MethodHandle" ∧ y'.1.cls ≠ "java/lang/invoke/VarHandle" ∧ (parseMethodDescriptor y'.1.desc).map (fun d => d.parameters.length) = some n) ∧ y'.2.2.1 ≤ 40
def aw_CV (own : String) (i : Nat) (y' : MD) (n : Nat) : Prop := aw_CB own i y' n ∧ Cond.instanceMethod y'.1 ∈ aw_TT ∧ Cond.selects y'.1.cls y'.1 y'.1 ∈ aw_TT
def aw_CS (own : String) (i : Nat) (y' : MD) (n : Nat) : Prop := aw_CB own i y' n ∧ Cond.static y'.1 ∈ aw_TT
def aw_CI (own : String) (i : Nat) (y' : MD) (n : Nat) : Prop := aw_CB own i y' n ∧ Cond.instanceMethod y'.1 ∈ aw_TT ∧ y'.1.name = "<init>" ∧ y'.2.2.2 = none
theorem aw_CB.of {own : String} {i : Nat} {y' : MD} {n a b k k' : Nat} {R : Room} {s : State} {args : Array Value} (hw : aw_CB own i y' n) (hts : ∀ w ∈ aw_TT, w.before args s = true) (hk : k' + 1 ≤ k) (hf : k ≤ R.frames) (hl : 64 * k ≤ R.locals) : CallB R s args own i y'.1 y'.2.1 y'.2.2.1 y'.2.2.2 (aw_ws y') (aw_rm k' a b) a b n :=
  callB_of n hts (aw_good hw.2.2.1) rfl rfl rfl (hts _ hw.2.1) (hts _ hw.1) hw.2.2.2.1 ⟨by show k' + 1 ≤ _; omega, by have := hw.2.2.2.2; show 8 + (y'.2.2.1 + 11) + 64 * k' ≤ _; omega⟩
section AwCalls
variable {G : GG} {k : Nat} {y : MD} {Q : Option Value → HH → Prop} {a b pc : Nat} {L : List (Option Value)} {S : List Value} {h : HH}
theorem aw_back {p : Program} {l : Launch} {e : Env} {R : Room} {s : State} {m : MethodId} {args : Array Value} {below : List Frame} {meth : Method} {c : Code} {QQ : State → Prop} {H : Heap} {locs : List Loc} {ls : Array Slot} {cells slots a' b' : Nat} {Ar : Array Value} {st0 : List Value} {Q' : Option Value → HH → Prop}
    (C : aw_Cx G k y Q p l e R s m args below meth c QQ) (B : aw_St G y R (a' + a) (b' + b) L h H locs ls cells slots)
    (hr : va_Run p l e R s m args below meth c H locs cells slots a' b' (F0 m pc ls st0) (S.map (aw_cV G)) (aw_Qc G Q' Ar) (fun q => G.2.2.1.size ≤ q))
    (kk : ∀ v h', Q' v h' → (∀ r, v ≠ some (.ref r)) ∧ SW G k y Q a b (pc + 3) L (v.toList ++ S) h') : W p l e R s m args below meth c H locs cells slots QQ (F0 m pc ls st0) := by
  intro T hT X
  obtain ⟨v, st₀, t, T', Lw, h0, X', hL, e1, e2, ⟨v', h', hv, hq, hR⟩, st⟩ := hr T hT X
  cases hv
  obtain ⟨hnr, k1⟩ := kk _ h' hq
  have h3 := k1.go C (H := T'.heap) (locs := locs ++ Lw) (ls := ls) (cells := cells + a') (slots := slots + b') ⟨by rw [e1]; exact hR, fun q hq => by
    rcases List.mem_append.mp hq with h4 | h4
    · exact B.2.1 q h4
    · exact hL q h4, B.2.2.1, by have := B.2.2.2.1; omega, by have := B.2.2.2.2; omega⟩
  obtain ⟨t2, a1, b1⟩ := h3 T' rfl X'
  refine ⟨t2, st t2 ?_, b1⟩
  have e4 : (v.toList ++ S).map (aw_cV G) = v.toList ++ S.map (aw_cV G) := by
    rw [List.map_append]
    congr 1
    cases v with
    | none => rfl
    | some w =>
      cases w with
      | ref r => exact absurd rfl (hnr r)
      | _ => rfl
  rw [e4] at a1
  exact a1
theorem aw_args {G : GG} (As : List Value) (S : List Value) : (As.reverse ++ S).map (aw_cV G) = (As.map (aw_cV G)).reverse ++ S.map (aw_cV G) := by
  rw [List.map_append, List.map_reverse]
/-- a method of an object -/
theorem SW.callV {y' : MD} {n i o ci N k' : Nat} {C : String} {T : u_T} {ty : Nat → FieldType} {As : List Value} {Q' : Option Value → HH → Prop} (hw : aw_CV y.1.cls i y' n) (hk : k' + 1 ≤ k) (hC : aw_Cl ci C T N ty) (ho : aw_kp o = (0, ci)) (h1 : 1 ≤ o) (hn : o ≤ h.1) (hcl : y'.1.cls = C) (hn2 : As.length = n) (hS : (S.map fun v => v.category).sum ≤ 8) (hd : decode y.2.1 pc = .ok (.invokevirtual i, 3))
    (hM : SM G k' y' 0 0 (.ref o :: As) h Q') (kk : ∀ v h', Q' v h' → (∀ r, v ≠ some (.ref r)) ∧ SW G k y Q a b (pc + 3) L (v.toList ++ S) h') : SW G k y Q a b pc L (As.reverse ++ .ref o :: S) h := by
  intro p l e R s m args below meth c QQ C0 H locs ls cells slots B
  have hts := C0.2.2.2.2.1
  have hK := C0.2.2.2.2.2.2.1
  have e0 : aw_cV G (.ref o) = .ref (aw_ad G o) := aw_cV_ref (by omega)
  rw [aw_args, List.map_cons, e0]
  obtain ⟨r, hr, cell, q1, q2, q3, -⟩ := (B.1.2.2 o h1 hn).1 ci ho
  have hr' : r = (C, T, N) := Option.some.inj (hr.symm.trans hC.1)
  subst hr'
  refine aw_back (a := a) (b := b) (a' := 0) (b' := 0) (Q' := Q') C0 (by rw [Nat.zero_add, Nat.zero_add]; exact B) (va_runV (C := C) (As := As.map (aw_cV G)) (Ts := aw_TT) (nL := y.2.2.1) (own := y.1.cls) (index := i) (n := n) ⟨C0.1, C0.2.1, C0.2.2.1, C0.2.2.2.1, hts⟩ (hM l C0.2.2.2.2.2.2.2.2.2.1) ⟨aw_CB.of hw.1 hts hk C0.2.2.2.2.2.2.2.1 C0.2.2.2.2.2.2.2.2.1, hts _ hw.2.1, by rw [← hcl]; exact hts _ hw.2.2⟩ ⟨aw_blind G _ _, ⟨cell, q1, by rw [q3]; rfl, by rw [q2]; exact (hK.1.1 ci _ hC.1).2.1⟩, fun U hU hW => ⟨by rw [List.map_cons, e0], by rw [hU]; exact B.1, hK.warm hW⟩⟩ rfl (by rw [List.length_map]; exact hn2) B.2.2.1.1 rfl (lv_room (by
    rw [List.map_map]
    refine Nat.le_trans (Nat.le_of_eq ?_) hS
    congr 1
    exact List.map_congr_left (fun v _ => aw_cV_cat G v))) hd ⟨by have := B.2.2.2.1; omega, by have := B.2.2.2.2; omega⟩) kk
/-- a method of a String constant -/
theorem SW.callT {y' : MD} {n i j k' : Nat} {st : String × Nat × String × List Int32} {As : List Value} {Q' : Option Value → HH → Prop} (hw : aw_CV y.1.cls i y' n) (hk : k' + 1 ≤ k) (hj : aw_strs[j]? = some st) (hcl : y'.1.cls = "java/lang/String") (hn2 : As.length = n) (hS : (S.map fun v => v.category).sum ≤ 8) (hd : decode y.2.1 pc = .ok (.invokevirtual i, 3))
    (hM : SM G k' y' 0 0 (.ref (1000 + j) :: As) h Q') (kk : ∀ v h', Q' v h' → (∀ r, v ≠ some (.ref r)) ∧ SW G k y Q a b (pc + 3) L (v.toList ++ S) h') : SW G k y Q a b pc L (As.reverse ++ .ref (1000 + j) :: S) h := by
  intro p l e R s m args below meth c QQ C0 H locs ls cells slots B
  have hts := C0.2.2.2.2.1
  have hK := C0.2.2.2.2.2.2.1
  have e0 : aw_cV G (.ref (1000 + j)) = .ref (G.2.2.2.1 j) := by
    show aw_rv G (1000 + j) = _
    unfold aw_rv aw_ad
    rw [if_neg (by omega), if_neg (by omega), show 1000 + j - 1000 = j by omega]
  rw [aw_args, List.map_cons, e0]
  obtain ⟨cell, q1, q2, q3, q4⟩ := (hK.2.2.2 j _ hj).2.1
  refine aw_back (a := a) (b := b) (a' := 0) (b' := 0) (Q' := Q') C0 (by rw [Nat.zero_add, Nat.zero_add]; exact B) (va_runV (C := "java/lang/String") (As := As.map (aw_cV G)) (Ts := aw_TT) (nL := y.2.2.1) (own := y.1.cls) (index := i) (n := n) ⟨C0.1, C0.2.1, C0.2.2.1, C0.2.2.2.1, hts⟩ (hM l C0.2.2.2.2.2.2.2.2.2.1) ⟨aw_CB.of hw.1 hts hk C0.2.2.2.2.2.2.2.1 C0.2.2.2.2.2.2.2.2.1, hts _ hw.2.1, by rw [← hcl]; exact hts _ hw.2.2⟩ ⟨aw_blind G _ _, ⟨cell, by rw [B.1.2.1 _ (Nat.not_le.mp q4)]; exact q1, q2, q3⟩, fun U hU hW => ⟨by rw [List.map_cons, e0], by rw [hU]; exact B.1, hK.warm hW⟩⟩ rfl (by rw [List.length_map]; exact hn2) B.2.2.1.1 rfl (lv_room (by
    rw [List.map_map]
    refine Nat.le_trans (Nat.le_of_eq ?_) hS
    congr 1
    exact List.map_congr_left (fun v _ => aw_cV_cat G v))) hd ⟨by have := B.2.2.2.1; omega, by have := B.2.2.2.2; omega⟩) kk
/-- a static method -/
theorem SW.callS {y' : MD} {n i k' : Nat} {As : List Value} {Q' : Option Value → HH → Prop} (hw : aw_CS y.1.cls i y' n) (hk : k' + 1 ≤ k) (hn2 : As.length = n) (hS : (S.map fun v => v.category).sum ≤ 8) (hd : decode y.2.1 pc = .ok (.invokestatic i, 3))
    (hM : SM G k' y' 0 0 As h Q') (kk : ∀ v h', Q' v h' → (∀ r, v ≠ some (.ref r)) ∧ SW G k y Q a b (pc + 3) L (v.toList ++ S) h') : SW G k y Q a b pc L (As.reverse ++ S) h := by
  intro p l e R s m args below meth c QQ C0 H locs ls cells slots B
  have hts := C0.2.2.2.2.1
  have hK := C0.2.2.2.2.2.2.1
  rw [aw_args]
  refine aw_back (a := a) (b := b) (a' := 0) (b' := 0) (Q' := Q') C0 (by rw [Nat.zero_add, Nat.zero_add]; exact B) (va_runS (As := As.map (aw_cV G)) (Ts := aw_TT) (nL := y.2.2.1) (own := y.1.cls) (index := i) (n := n) ⟨C0.1, C0.2.1, C0.2.2.1, C0.2.2.2.1, hts⟩ (hM l C0.2.2.2.2.2.2.2.2.2.1) ⟨aw_CB.of hw.1 hts hk C0.2.2.2.2.2.2.2.1 C0.2.2.2.2.2.2.2.2.1, hts _ hw.2⟩ ⟨aw_blind G _ _, fun U hU hW => ⟨rfl, by rw [hU]; exact B.1, hK.warm hW⟩⟩ rfl (by rw [List.length_map]; exact hn2) B.2.2.1.1 rfl (lv_room (by
    rw [List.map_map]
    refine Nat.le_trans (Nat.le_of_eq ?_) hS
    congr 1
    exact List.map_congr_left (fun v _ => aw_cV_cat G v))) hd ⟨by have := B.2.2.2.1; omega, by have := B.2.2.2.2; omega⟩) kk
/-- a constructor of the class itself or of a class that isn't private -/
theorem SW.callI {y' : MD} {n i o k' a' b' : Nat} {As : List Value} {Q' : Option Value → HH → Prop} (hw : aw_CI y.1.cls i y' n) (hk : k' + 1 ≤ k) (h1 : 1 ≤ o) (hn2 : As.length = n) (hS : (S.map fun v => v.category).sum ≤ 8) (hd : decode y.2.1 pc = .ok (.invokespecial i, 3))
    (hM : SM G k' y' a' b' (.ref o :: As) h Q') (kk : ∀ v h', Q' v h' → (∀ r, v ≠ some (.ref r)) ∧ SW G k y Q a b (pc + 3) L (v.toList ++ S) h') : SW G k y Q (a' + a) (b' + b) pc L (As.reverse ++ .ref o :: S) h := by
  intro p l e R s m args below meth c QQ C0 H locs ls cells slots B
  have hts := C0.2.2.2.2.1
  have hK := C0.2.2.2.2.2.2.1
  have e0 : aw_cV G (.ref o) = .ref (aw_ad G o) := aw_cV_ref (by omega)
  rw [aw_args, List.map_cons, e0]
  obtain ⟨yn, yc, yl, yr⟩ := y'
  obtain ⟨hw1, hw2, hw3, hw4⟩ := hw
  have hw4 : yr = none := hw4
  subst hw4
  refine aw_back (Q' := Q') C0 B (va_runI (As := As.map (aw_cV G)) (Ts := aw_TT) (nL := y.2.2.1) (own := y.1.cls) (index := i) (n := n) ⟨C0.1, C0.2.1, C0.2.2.1, C0.2.2.2.1, hts⟩ (hM l C0.2.2.2.2.2.2.2.2.2.1) ⟨aw_CB.of hw1 hts hk C0.2.2.2.2.2.2.2.1 C0.2.2.2.2.2.2.2.2.1, hw3, hts _ hw2⟩ ⟨aw_blind G _ _, fun U hU hW => ⟨by rw [List.map_cons, e0], by rw [hU]; exact B.1, hK.warm hW⟩⟩ rfl (by rw [List.length_map]; exact hn2) B.2.2.1.1 rfl (lv_room (by
    rw [List.map_map]
    refine Nat.le_trans (Nat.le_of_eq ?_) hS
    congr 1
    exact List.map_congr_left (fun v _ => aw_cV_cat G v))) hd ⟨by have := B.2.2.2.1; omega, by have := B.2.2.2.2; omega⟩) kk
/-- a private constructor of a nest mate -/
theorem SW.callN {y' : MD} {n i o k' a' b' : Nat} {As : List Value} {Q' : Option Value → HH → Prop} (hq : (y.1.cls, i, y'.1) ∈ aw_nest) (hw : Cond.initialized y'.1.cls ∈ aw_TT ∧ Cond.code y'.1 y'.2.1 y'.2.2.1 y'.2.2.2 ∈ aw_TT ∧ (y'.1.cls ≠ "java/lang/invoke/MethodHandle" ∧ y'.1.cls ≠ "java/lang/invoke/VarHandle" ∧ (parseMethodDescriptor y'.1.desc).map (fun d => d.parameters.length) = some n) ∧ y'.2.2.1 ≤ 40 ∧ Cond.instanceMethod y'.1 ∈ aw_TT ∧ y'.1.name = "<init>" ∧ y'.2.2.2 = none) (hk : k' + 1 ≤ k) (h1 : 1 ≤ o) (hn2 : As.length = n) (hS : (S.map fun v => v.category).sum ≤ 8) (hd : decode y.2.1 pc = .ok (.invokespecial i, 3))
    (hM : SM G k' y' a' b' (.ref o :: As) h Q') (kk : ∀ v h', Q' v h' → (∀ r, v ≠ some (.ref r)) ∧ SW G k y Q a b (pc + 3) L (v.toList ++ S) h') : SW G k y Q (a' + a) (b' + b) pc L (As.reverse ++ .ref o :: S) h := by
  intro p l e R s m args below meth c QQ C0 H locs ls cells slots B
  have hts := C0.2.2.2.2.1
  have hK := C0.2.2.2.2.2.2.1
  have e0 : aw_cV G (.ref o) = .ref (aw_ad G o) := aw_cV_ref (by omega)
  rw [aw_args, List.map_cons, e0]
  obtain ⟨yn, yc, yl, yr⟩ := y'
  obtain ⟨hw1, hw2, hw3, hw4, hw5, hw6, hw7⟩ := hw
  have hw7 : yr = none := hw7
  subst hw7
  have hf := C0.2.2.2.2.2.2.2.1
  have hl := C0.2.2.2.2.2.2.2.2.1
  have hw4 : yl ≤ 40 := hw4
  refine aw_back (Q' := Q') C0 B (va_runIN (As := As.map (aw_cV G)) (Ts := aw_TT) (nL := y.2.2.1) (own := y.1.cls) (host := RX9) (index := i) (n := n) ⟨C0.1, C0.2.1, C0.2.2.1, C0.2.2.2.1, hts⟩ (hM l C0.2.2.2.2.2.2.2.2.2.1) ⟨va_cnB (ws' := aw_TT) n hts (aw_good (y := (yn, yc, yl, none)) hw2) rfl rfl rfl (hK.2.2.1 _ hq) (hts _ hw1) hw3 ⟨by show k' + 1 ≤ _; omega, by show 8 + (yl + 11) + 64 * k' ≤ _; omega⟩, hw6, hts _ hw5⟩ ⟨aw_blind G _ _, fun U hU hW => ⟨by rw [List.map_cons, e0], by rw [hU]; exact B.1, hK.warm hW⟩⟩ rfl (by rw [List.length_map]; exact hn2) B.2.2.1.1 rfl (lv_room (by
    rw [List.map_map]
    refine Nat.le_trans (Nat.le_of_eq ?_) hS
    congr 1
    exact List.map_congr_left (fun v _ => aw_cV_cat G v))) hd ⟨by have := B.2.2.2.1; omega, by have := B.2.2.2.2; omega⟩) kk
end AwCalls
