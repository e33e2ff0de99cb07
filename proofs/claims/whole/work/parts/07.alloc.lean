/-! ===== making objects ===== -/
def aw_z (h : HH) (o : Nat) : Prop := (∀ k, h.2.1 o k = 0) ∧ (∀ k, h.2.2.1 o k = 0) ∧ ∀ k, h.2.2.2 o k = 0
theorem aw_Rep.push {G : GG} {h : HH} {H H' : Heap} (R : aw_Rep G h H) (hz : H'.size = H.size + 1) (oq : ∀ q, q < H.size → H'[q]? = H[q]?) (hat : aw_at G (h.1 + 1, h.2) (h.1 + 1) H') : aw_Rep G (h.1 + 1, h.2) H' := by
  obtain ⟨r1, r2, r3⟩ := R
  refine ⟨by rw [hz, r1]; rfl, fun q hq => ?_, fun o ho hl => ?_⟩
  · rw [oq q (by omega)]
    exact r2 q hq
  · by_cases e : o = h.1 + 1
    · subst e
      exact hat
    · have hl : o ≤ h.1 + 1 := hl
      exact (r3 o ho (by omega)).to (fun hk => oq _ (by rw [aw_ad_lt hk]; omega)) (fun _ => rfl) (fun _ => rfl) (fun _ => rfl)
section AwAlloc
variable {G : GG} {k : Nat} {y : MD} {Q : Option Value → HH → Prop} {a b pc : Nat} {L : List (Option Value)} {S : List Value} {n0 : Nat} {σ : SG} {τ : TU} {θ : TH}
theorem aw_adN {G : GG} {H : Heap} {h : HH} (R : aw_Rep G h H) (hk : h.1 + 1 < 1000) : aw_ad G (h.1 + 1) = H.size := by
  rw [aw_ad_lt hk, R.1]
  omega
theorem SW.new {ci N i : Nat} {C : String} {T : u_T} {ty : Nat → FieldType} (hC : aw_Cl ci C T N ty) (ho : aw_kp (n0 + 1) = (0, ci)) (hz : aw_z (n0, σ, τ, θ) (n0 + 1)) (hw : Cond.classLink y.1.cls i C ∈ aw_TT) (hw2 : Cond.instantiable C N ∈ aw_TT) (hw3 : Cond.initialized C ∈ aw_TT) (hdf : ∀ j, j < N → defaultValue (ty j) = if aw_fk ci j = 0 then .int 0 else if aw_fk ci j = 1 then .long 0 else .null) (hd : decode y.2.1 pc = .ok (.new i, 3))
    (kk : SW G k y Q a b (pc + 3) L (.ref (n0 + 1) :: S) (n0 + 1, σ, τ, θ)) : SW G k y Q (a + 1) (b + N) pc L S (n0, σ, τ, θ) := by
  intro p l e R s m args below meth c QQ C0 H locs ls cells slots B
  have hts := C0.2.2.2.2.1
  have hK := C0.2.2.2.2.2.2.1.1
  obtain ⟨hc, hin, hty, hnm⟩ := hC
  have hKn := hK.1 ci _ hc
  have hk := aw_kp_lt ho (by decide)
  have hc1 := B.2.2.2.1
  have hc2 := B.2.2.2.2
  refine W.newcK C0.1 C0.2.1 C0.2.2.2.1 (hts _ hw) (hts _ hw2) (hts _ hw3) rfl hd (by omega) (by omega) hKn.2.1 rfl fun H1 kC hkC e1 z1 o1 => ?_
  have had := aw_adN B.1 hk
  have hob := u_born ty hts hin hKn hkC e1 hty
  have hR : aw_Rep G (n0 + 1, σ, τ, θ) H1 := B.1.push z1 o1 (by
    refine ⟨fun ci' e => ?_, fun n e => ?_, fun n e => ?_, fun n e => ?_, fun n e => ?_⟩
    · have e : aw_kp (n0 + 1) = (0, ci') := e
      rw [ho] at e
      cases e
      refine ⟨_, hc, ?_⟩
      rw [had]
      refine hob.to (fun j hj => ?_)
      rw [hdf j hj]
      unfold aw_fv
      have h1 := hz.1 j
      have h2 := hz.2.1 j
      have h3 := hz.2.2 j
      dsimp only at h1 h2 h3 ⊢
      rw [h1, h2, h3]
      rfl
    all_goals (have e : aw_kp (n0 + 1) = _ := e; rw [ho] at e; cases e))
  have h3 := kk.go C0 (H := H1) (locs := locs) (ls := ls) (cells := cells + 1) (slots := slots + N) ⟨hR, B.2.1, B.2.2.1, by omega, by omega⟩
  rw [List.map_cons, aw_cV_ref (by omega), had] at h3
  exact h3
theorem SW.newa {t : Nat} {at0 : ArrayType} {ty : FieldType} {x : Int32} {N : Nat} (hat : newarray.typeOf at0 = ty) (ht : (t = 1 ∧ ty = .int) ∨ (t = 2 ∧ ty = .long) ∨ (t = 3 ∧ ty = .byte)) (ho : aw_kp (n0 + 1) = (t, N)) (hz : aw_z (n0, σ, τ, θ) (n0 + 1)) (hw : Cond.arrayClass ty ∈ aw_TT) (hx : ¬ x < 0) (hN : x.toNatClampNeg = N) (hs : N ≤ 10000) (hd : decode y.2.1 pc = .ok (.newarray at0, 2))
    (kk : SW G k y Q a b (pc + 2) L (.ref (n0 + 1) :: S) (n0 + 1, σ, τ, θ)) : SW G k y Q (a + 1) (b + N) pc L (.int x :: S) (n0, σ, τ, θ) := by
  intro p l e R s m args below meth c QQ C0 H locs ls cells slots B
  have hts := C0.2.2.2.2.1
  have hK := C0.2.2.2.2.2.2.1.1
  have hk := aw_kp_lt ho (by omega)
  have hc1 := B.2.2.2.1
  have hc2 := B.2.2.2.2
  have had := aw_adN B.1 hk
  subst hat
  have hby : N * componentBytes (newarray.typeOf at0) ≤ 536870912 := by
    have : componentBytes (newarray.typeOf at0) ≤ 8 := by cases at0 <;> decide
    calc N * componentBytes (newarray.typeOf at0) ≤ 10000 * 8 := Nat.mul_le_mul hs this
      _ ≤ _ := by decide
  refine va_newaK C0.1 C0.2.1 (hts _ hw) rfl hd rfl hx hN hby (by omega) (by omega) rfl fun H1 cA e1 z1 o1 hAr hNm => ?_
  have hR : aw_Rep G (n0 + 1, σ, τ, θ) H1 := B.1.push z1 o1 (by
    rcases ht with ⟨rfl, ht⟩ | ⟨rfl, ht⟩ | ⟨rfl, ht⟩
    · rw [ht] at e1 hNm
      have hcA : cA = G.2.1 0 := Option.some.inj (hNm.symm.trans (hK.2 0 _ rfl).2)
      refine ⟨fun n e => ?_, fun n e => ?_, fun n e => ?_, fun n e => ?_, fun n e => ?_⟩ <;> (have e : aw_kp (n0 + 1) = _ := e; rw [ho] at e; cases e)
      rw [had, ← hcA, e1]
      have h1 := hz.1
      dsimp only at h1 ⊢
      simp only [h1]
      rfl
    · rw [ht] at e1 hNm
      have hcA : cA = G.2.1 1 := Option.some.inj (hNm.symm.trans (hK.2 1 _ rfl).2)
      refine ⟨fun n e => ?_, fun n e => ?_, fun n e => ?_, fun n e => ?_, fun n e => ?_⟩ <;> (have e : aw_kp (n0 + 1) = _ := e; rw [ho] at e; cases e)
      rw [had, ← hcA, e1]
      have h1 := hz.2.1
      dsimp only at h1 ⊢
      simp only [h1]
      rfl
    · rw [ht] at e1 hNm
      have hcA : cA = G.2.1 2 := Option.some.inj (hNm.symm.trans (hK.2 2 _ rfl).2)
      refine ⟨fun n e => ?_, fun n e => ?_, fun n e => ?_, fun n e => ?_, fun n e => ?_⟩ <;> (have e : aw_kp (n0 + 1) = _ := e; rw [ho] at e; cases e)
      rw [had, ← hcA, e1]
      have h1 := hz.1
      dsimp only at h1 ⊢
      simp only [h1]
      rfl)
  have h3 := kk.go C0 (H := H1) (locs := locs) (ls := ls) (cells := cells + 1) (slots := slots + N) ⟨hR, B.2.1, B.2.2.1, by omega, by omega⟩
  rw [List.map_cons, aw_cV_ref (by omega), had] at h3
  exact h3
theorem SW.anew {i : Nat} {x : Int32} {N : Nat} (ho : aw_kp (n0 + 1) = (4, N)) (hz : aw_z (n0, σ, τ, θ) (n0 + 1)) (hw : Cond.classLink y.1.cls i RX2 ∈ aw_TT) (hx : ¬ x < 0) (hN : x.toNatClampNeg = N) (hs : N ≤ 10000) (hd : decode y.2.1 pc = .ok (.anewarray i, 3))
    (kk : SW G k y Q a b (pc + 3) L (.ref (n0 + 1) :: S) (n0 + 1, σ, τ, θ)) : SW G k y Q (a + 1) (b + N) pc L (.int x :: S) (n0, σ, τ, θ) := by
  intro p l e R s m args below meth c QQ C0 H locs ls cells slots B
  have hts := C0.2.2.2.2.1
  have hK := C0.2.2.2.2.2.2.1
  have hk := aw_kp_lt ho (by omega)
  have hc1 := B.2.2.2.1
  have hc2 := B.2.2.2.2
  have had := aw_adN B.1 hk
  subst hN
  refine W.anew C0.1 C0.2.1 C0.2.2.2.1 (hts _ hw) (va_AO.use hK.2.1.1) rfl hd rfl hx (by omega) (by omega) (by omega) fun cA kA comp f1 f2 f3 f4 => ?_
  generalize hH1 : H.push ({ cls := cA, slots := Array.replicate x.toNatClampNeg .null, vm := .none } : Cell) = H1
  have z1 : H1.size = H.size + 1 := by rw [← hH1, Array.size_push]
  have e1 : H1[H.size]? = some (arrV cA x.toNatClampNeg (fun _ => .null)) := by rw [← hH1, Array.getElem?_push_size, ← arrV_new]
  have o1 : ∀ q : Nat, q < H.size → H1[q]? = H[q]? := fun q hq => by rw [← hH1, Array.getElem?_push, if_neg (Nat.ne_of_lt hq)]
  have hR : aw_Rep G (n0 + 1, σ, τ, θ) H1 := B.1.push z1 o1 (by
    obtain ⟨kA', comp', k1, k2, k3, k4⟩ := (hK.1.2 3 _ rfl).2
    have hcA : cA = G.2.1 3 := Option.some.inj (f1.symm.trans k4)
    refine ⟨fun n e => ?_, fun n e => ?_, fun n e => ?_, fun n e => ?_, fun n e => ?_⟩ <;> (have e : aw_kp (n0 + 1) = _ := e; rw [ho] at e; cases e)
    rw [had, ← hcA, e1]
    have h1 := hz.2.2
    dsimp only at h1 ⊢
    simp only [h1]
    rfl)
  have h3 := kk.go C0 (H := H1) (locs := locs) (ls := ls) (cells := cells + 1) (slots := slots + x.toNatClampNeg) ⟨hR, B.2.1, B.2.2.1, by omega, by omega⟩
  rw [List.map_cons, aw_cV_ref (by omega), had] at h3
  exact h3
theorem SW.aast {o v n : Nat} {i : Int32} (ho : aw_kp o = (4, n)) (h1 : 1 ≤ o) (hn : o ≤ n0) (hov : aw_kp v = (0, 2)) (h1v : 1 ≤ v) (hnv : v ≤ n0) (hin : vp_in i n) (hd : decode y.2.1 pc = .ok (.aastore, 1)) (kk : SW G k y Q a b (pc + 1) L S (n0, σ, τ, aw_u θ o i.toNatClampNeg v)) : SW G k y Q a b pc L (.ref v :: .int i :: .ref o :: S) (n0, σ, τ, θ) := by
  intro p l e R s m args below meth c QQ C H locs ls cells slots B
  have hat := (B.1.2.2 o h1 hn).2.2.2.2 n ho
  have hK := C.2.2.2.2.2.2.1.1
  have hlo := aw_kp_lt ho (by decide)
  have hlt : i.toNatClampNeg < n := Nat.not_le.mp fun q => hin (Or.inr q)
  have h0 : ¬ i < 0 := fun q => hin (Or.inl q)
  obtain ⟨r', hr', cellV, g1, g2, g3, -⟩ := (B.1.2.2 v h1v hnv).1 2 hov
  have hcls := (hK.1 2 _ rfl).2
  obtain ⟨kA, comp, k1, k2, k3, -⟩ := (hK.2 3 _ rfl).2
  have hcomp : comp = G.1.1 2 := Option.some.inj (k3.symm.trans hcls.1)
  subst hcomp
  obtain ⟨kC, hkC, -⟩ := hcls.2
  rw [List.map_cons, List.map_cons, List.map_cons, aw_cV_ref (show o ≠ 0 by omega), aw_cV_ref (show v ≠ 0 by omega)]
  refine W.aast C.1 C.2.1 hat (fun q h => by cases h) (fun h => by cases h) k1 k2 rfl hkC ⟨h0, by show _ < (arrV _ _ _).slots.size; rw [arrV_size]; exact hlt⟩ g1 (fun q h => by rw [g3] at h; cases h) (by rw [g2]; exact hkC) (by rw [g2]; exact va_assign hcls) rfl rfl hd fun H1 e1 z oq => ?_
  refine kk.go C ⟨B.1.set h1 hlo rfl z oq (fun _ _ _ => rfl) (fun _ _ _ => rfl) (fun _ _ e => aw_u_ne e) ⟨fun n' e => ?_, fun n' e => ?_, fun n' e => ?_, fun n' e => ?_, fun n' e => ?_⟩, aw_locs B.2.1 hlo, B.2.2⟩
  · rw [ho] at e; cases e
  · rw [ho] at e; cases e
  · rw [ho] at e; cases e
  · rw [ho] at e; cases e
  · rw [ho] at e; cases e
    rw [e1, arrV_store]
    congr 2
    funext q
    show updV _ _ _ q = aw_rv G (aw_u θ o i.toNatClampNeg v o q)
    by_cases hq : q = i.toNatClampNeg
    · subst hq
      rw [aw_u_eq]
      exact (if_pos rfl).trans (if_neg (show v ≠ 0 by omega)).symm
    · rw [aw_u_nk hq]
      exact if_neg hq
theorem SW.oinit {i o : Nat} {h : HH} (h1 : 1 ≤ o) (hw : Cond.methodLink y.1.cls i objectInit ∈ aw_TT) (hw2 : Cond.instanceMethod objectInit ∈ aw_TT) (hw3 : Cond.code objectInit ⟨#[0xb1]⟩ 1 none ∈ aw_TT) (hk : 1 ≤ k) (hS : (S.map fun v => v.category).sum ≤ 8) (hd : decode y.2.1 pc = .ok (.invokespecial i, 3)) (kk : SW G k y Q a b (pc + 3) L S h) : SW G k y Q a b pc L (.ref o :: S) h := by
  intro p l e R s m args below meth c QQ C H locs ls cells slots B
  have hts := C.2.2.2.2.1
  have hf := C.2.2.2.2.2.2.2.1
  have hl := C.2.2.2.2.2.2.2.2.1
  rw [List.map_cons, aw_cV_ref (show o ≠ 0 by omega)]
  have hS' : ((S.map (aw_cV G)).map fun v => v.category).sum ≤ 8 := by
    rw [List.map_map]
    refine Nat.le_trans (Nat.le_of_eq ?_) hS
    congr 1
    exact List.map_congr_left (fun v _ => aw_cV_cat G v)
  have h8 := lv_room (m := m) (pc := pc) (ls := ls) (rest := .ref (aw_ad G o) :: S.map (aw_cV G)) hS'
  refine W.objInit C.1 C.2.1 C.2.2.2.1 (hts _ hw) (hts _ hw2) (hts _ hw3) rfl (by rw [C.2.2.1]; exact B.2.2.1.1) rfl hd (by omega) (by omega) ?_
  exact kk.go C B
theorem SW.mmin {i : Nat} {x z : Int32} {h : HH} (hw : Cond.methodLink y.1.cls i Lib.Math.min.name ∈ aw_TT) (hw1 : Cond.static Lib.Math.min.name ∈ aw_TT) (hw2 : Cond.initialized "java/lang/Math" ∈ aw_TT) (hw3 : Cond.code Lib.Math.min.name Lib.Math.min.code 2 (some .int) ∈ aw_TT) (hk : 1 ≤ k) (hS : (S.map fun v => v.category).sum ≤ 8) (hd : decode y.2.1 pc = .ok (.invokestatic i, 3)) (kk : SW G k y Q a b (pc + 3) L (.int (if z < x then z else x) :: S) h) : SW G k y Q a b pc L (.int z :: .int x :: S) h := by
  intro p l e R s m args below meth c QQ C H locs ls cells slots B
  have hts := C.2.2.2.2.1
  have hf := C.2.2.2.2.2.2.2.1
  have hl := C.2.2.2.2.2.2.2.2.1
  have hS' : ((S.map (aw_cV G)).map fun v => v.category).sum ≤ 8 := by
    rw [List.map_map]
    refine Nat.le_trans (Nat.le_of_eq ?_) hS
    congr 1
    exact List.map_congr_left (fun v _ => aw_cV_cat G v)
  have hc1 := B.2.2.2.1
  have hc2 := B.2.2.2.2
  exact va_mmin C.1 C.2.1 (by rw [C.2.2.1]; exact B.2.2.1.1.symm) C.2.2.2.1 (hts _ hw) (hts _ hw1) (hts _ hw2) (hts _ hw3) (by omega) (by omega) (by omega) (by omega) hd (kk.go C B)
theorem SW.mmax {i : Nat} {x z : Int32} {h : HH} (hw : Cond.methodLink y.1.cls i Lib.Math.max.name ∈ aw_TT) (hw1 : Cond.static Lib.Math.max.name ∈ aw_TT) (hw2 : Cond.initialized "java/lang/Math" ∈ aw_TT) (hw3 : Cond.code Lib.Math.max.name Lib.Math.max.code 2 (some .int) ∈ aw_TT) (hk : 1 ≤ k) (hS : (S.map fun v => v.category).sum ≤ 8) (hd : decode y.2.1 pc = .ok (.invokestatic i, 3)) (kk : SW G k y Q a b (pc + 3) L (.int (if x < z then z else x) :: S) h) : SW G k y Q a b pc L (.int z :: .int x :: S) h := by
  intro p l e R s m args below meth c QQ C H locs ls cells slots B
  have hts := C.2.2.2.2.1
  have hf := C.2.2.2.2.2.2.2.1
  have hl := C.2.2.2.2.2.2.2.2.1
  have hS' : ((S.map (aw_cV G)).map fun v => v.category).sum ≤ 8 := by
    rw [List.map_map]
    refine Nat.le_trans (Nat.le_of_eq ?_) hS
    congr 1
    exact List.map_congr_left (fun v _ => aw_cV_cat G v)
  have hc1 := B.2.2.2.1
  have hc2 := B.2.2.2.2
  exact va_mmax C.1 C.2.1 (by rw [C.2.2.1]; exact B.2.2.1.1.symm) C.2.2.2.1 (hts _ hw) (hts _ hw1) (hts _ hw2) (hts _ hw3) (by omega) (by omega) (by omega) (by omega) hd (kk.go C B)
end AwAlloc
section AwTyped
variable {G : GG} {k : Nat} {y : MD} {Q : Option Value → HH → Prop} {a b pc : Nat} {L : List (Option Value)} {S : List Value} {n0 : Nat} {σ : SG} {τ : TU} {θ : TH}
theorem SW.cvi0 {y' : MD} {i o ci N k' : Nat} {C : String} {T : u_T} {ty : Nat → FieldType} (hw : aw_CV y.1.cls i y' 0) (hk : k' + 1 ≤ k) (hC : aw_Cl ci C T N ty) (ho : aw_kp o = (0, ci)) (h1 : 1 ≤ o) (hn : o ≤ n0) (hcl : y'.1.cls = C) (hS : (S.map fun v => v.category).sum ≤ 8) (hd : decode y.2.1 pc = .ok (.invokevirtual i, 3)) (hM : SMi G k' y' 0 0 [.ref o] n0 σ τ θ (fun r n1 σ1 τ1 θ1 => SW G k y Q a b (pc + 3) L (.int r :: S) (n1, σ1, τ1, θ1))) : SW G k y Q a b pc L (.ref o :: S) (n0, σ, τ, θ) :=
  SW.callV (As := []) hw hk hC ho h1 hn hcl rfl hS hd hM (fun v h1 q => by obtain ⟨x, rfl, q⟩ := q; exact ⟨fun r e => (nomatch e), q⟩)
theorem SW.cvi1 {y' : MD} {i o ci N k' : Nat} {C : String} {T : u_T} {ty : Nat → FieldType} {v1 : Value} (hw : aw_CV y.1.cls i y' 1) (hk : k' + 1 ≤ k) (hC : aw_Cl ci C T N ty) (ho : aw_kp o = (0, ci)) (h1 : 1 ≤ o) (hn : o ≤ n0) (hcl : y'.1.cls = C) (hS : (S.map fun v => v.category).sum ≤ 8) (hd : decode y.2.1 pc = .ok (.invokevirtual i, 3)) (hM : SMi G k' y' 0 0 [.ref o, v1] n0 σ τ θ (fun r n1 σ1 τ1 θ1 => SW G k y Q a b (pc + 3) L (.int r :: S) (n1, σ1, τ1, θ1))) : SW G k y Q a b pc L (v1 :: .ref o :: S) (n0, σ, τ, θ) :=
  SW.callV (As := [v1]) hw hk hC ho h1 hn hcl rfl hS hd hM (fun v h1 q => by obtain ⟨x, rfl, q⟩ := q; exact ⟨fun r e => (nomatch e), q⟩)
theorem SW.csi1 {y' : MD} {i k' : Nat} {v1 : Value} (hw : aw_CS y.1.cls i y' 1) (hk : k' + 1 ≤ k) (hS : (S.map fun v => v.category).sum ≤ 8) (hd : decode y.2.1 pc = .ok (.invokestatic i, 3)) (hM : SMi G k' y' 0 0 [v1] n0 σ τ θ (fun r n1 σ1 τ1 θ1 => SW G k y Q a b (pc + 3) L (.int r :: S) (n1, σ1, τ1, θ1))) : SW G k y Q a b pc L (v1 :: S) (n0, σ, τ, θ) :=
  SW.callS (As := [v1]) hw hk rfl hS hd hM (fun v h1 q => by obtain ⟨x, rfl, q⟩ := q; exact ⟨fun r e => (nomatch e), q⟩)
theorem SW.cvi2 {y' : MD} {i o ci N k' : Nat} {C : String} {T : u_T} {ty : Nat → FieldType} {v1 v2 : Value} (hw : aw_CV y.1.cls i y' 2) (hk : k' + 1 ≤ k) (hC : aw_Cl ci C T N ty) (ho : aw_kp o = (0, ci)) (h1 : 1 ≤ o) (hn : o ≤ n0) (hcl : y'.1.cls = C) (hS : (S.map fun v => v.category).sum ≤ 8) (hd : decode y.2.1 pc = .ok (.invokevirtual i, 3)) (hM : SMi G k' y' 0 0 [.ref o, v1, v2] n0 σ τ θ (fun r n1 σ1 τ1 θ1 => SW G k y Q a b (pc + 3) L (.int r :: S) (n1, σ1, τ1, θ1))) : SW G k y Q a b pc L (v2 :: v1 :: .ref o :: S) (n0, σ, τ, θ) :=
  SW.callV (As := [v1, v2]) hw hk hC ho h1 hn hcl rfl hS hd hM (fun v h1 q => by obtain ⟨x, rfl, q⟩ := q; exact ⟨fun r e => (nomatch e), q⟩)
theorem SW.csi2 {y' : MD} {i k' : Nat} {v1 v2 : Value} (hw : aw_CS y.1.cls i y' 2) (hk : k' + 1 ≤ k) (hS : (S.map fun v => v.category).sum ≤ 8) (hd : decode y.2.1 pc = .ok (.invokestatic i, 3)) (hM : SMi G k' y' 0 0 [v1, v2] n0 σ τ θ (fun r n1 σ1 τ1 θ1 => SW G k y Q a b (pc + 3) L (.int r :: S) (n1, σ1, τ1, θ1))) : SW G k y Q a b pc L (v2 :: v1 :: S) (n0, σ, τ, θ) :=
  SW.callS (As := [v1, v2]) hw hk rfl hS hd hM (fun v h1 q => by obtain ⟨x, rfl, q⟩ := q; exact ⟨fun r e => (nomatch e), q⟩)
theorem SW.cvi3 {y' : MD} {i o ci N k' : Nat} {C : String} {T : u_T} {ty : Nat → FieldType} {v1 v2 v3 : Value} (hw : aw_CV y.1.cls i y' 3) (hk : k' + 1 ≤ k) (hC : aw_Cl ci C T N ty) (ho : aw_kp o = (0, ci)) (h1 : 1 ≤ o) (hn : o ≤ n0) (hcl : y'.1.cls = C) (hS : (S.map fun v => v.category).sum ≤ 8) (hd : decode y.2.1 pc = .ok (.invokevirtual i, 3)) (hM : SMi G k' y' 0 0 [.ref o, v1, v2, v3] n0 σ τ θ (fun r n1 σ1 τ1 θ1 => SW G k y Q a b (pc + 3) L (.int r :: S) (n1, σ1, τ1, θ1))) : SW G k y Q a b pc L (v3 :: v2 :: v1 :: .ref o :: S) (n0, σ, τ, θ) :=
  SW.callV (As := [v1, v2, v3]) hw hk hC ho h1 hn hcl rfl hS hd hM (fun v h1 q => by obtain ⟨x, rfl, q⟩ := q; exact ⟨fun r e => (nomatch e), q⟩)
theorem SW.csi3 {y' : MD} {i k' : Nat} {v1 v2 v3 : Value} (hw : aw_CS y.1.cls i y' 3) (hk : k' + 1 ≤ k) (hS : (S.map fun v => v.category).sum ≤ 8) (hd : decode y.2.1 pc = .ok (.invokestatic i, 3)) (hM : SMi G k' y' 0 0 [v1, v2, v3] n0 σ τ θ (fun r n1 σ1 τ1 θ1 => SW G k y Q a b (pc + 3) L (.int r :: S) (n1, σ1, τ1, θ1))) : SW G k y Q a b pc L (v3 :: v2 :: v1 :: S) (n0, σ, τ, θ) :=
  SW.callS (As := [v1, v2, v3]) hw hk rfl hS hd hM (fun v h1 q => by obtain ⟨x, rfl, q⟩ := q; exact ⟨fun r e => (nomatch e), q⟩)
theorem SW.cvi4 {y' : MD} {i o ci N k' : Nat} {C : String} {T : u_T} {ty : Nat → FieldType} {v1 v2 v3 v4 : Value} (hw : aw_CV y.1.cls i y' 4) (hk : k' + 1 ≤ k) (hC : aw_Cl ci C T N ty) (ho : aw_kp o = (0, ci)) (h1 : 1 ≤ o) (hn : o ≤ n0) (hcl : y'.1.cls = C) (hS : (S.map fun v => v.category).sum ≤ 8) (hd : decode y.2.1 pc = .ok (.invokevirtual i, 3)) (hM : SMi G k' y' 0 0 [.ref o, v1, v2, v3, v4] n0 σ τ θ (fun r n1 σ1 τ1 θ1 => SW G k y Q a b (pc + 3) L (.int r :: S) (n1, σ1, τ1, θ1))) : SW G k y Q a b pc L (v4 :: v3 :: v2 :: v1 :: .ref o :: S) (n0, σ, τ, θ) :=
  SW.callV (As := [v1, v2, v3, v4]) hw hk hC ho h1 hn hcl rfl hS hd hM (fun v h1 q => by obtain ⟨x, rfl, q⟩ := q; exact ⟨fun r e => (nomatch e), q⟩)
theorem SW.csi4 {y' : MD} {i k' : Nat} {v1 v2 v3 v4 : Value} (hw : aw_CS y.1.cls i y' 4) (hk : k' + 1 ≤ k) (hS : (S.map fun v => v.category).sum ≤ 8) (hd : decode y.2.1 pc = .ok (.invokestatic i, 3)) (hM : SMi G k' y' 0 0 [v1, v2, v3, v4] n0 σ τ θ (fun r n1 σ1 τ1 θ1 => SW G k y Q a b (pc + 3) L (.int r :: S) (n1, σ1, τ1, θ1))) : SW G k y Q a b pc L (v4 :: v3 :: v2 :: v1 :: S) (n0, σ, τ, θ) :=
  SW.callS (As := [v1, v2, v3, v4]) hw hk rfl hS hd hM (fun v h1 q => by obtain ⟨x, rfl, q⟩ := q; exact ⟨fun r e => (nomatch e), q⟩)
theorem SW.cvi5 {y' : MD} {i o ci N k' : Nat} {C : String} {T : u_T} {ty : Nat → FieldType} {v1 v2 v3 v4 v5 : Value} (hw : aw_CV y.1.cls i y' 5) (hk : k' + 1 ≤ k) (hC : aw_Cl ci C T N ty) (ho : aw_kp o = (0, ci)) (h1 : 1 ≤ o) (hn : o ≤ n0) (hcl : y'.1.cls = C) (hS : (S.map fun v => v.category).sum ≤ 8) (hd : decode y.2.1 pc = .ok (.invokevirtual i, 3)) (hM : SMi G k' y' 0 0 [.ref o, v1, v2, v3, v4, v5] n0 σ τ θ (fun r n1 σ1 τ1 θ1 => SW G k y Q a b (pc + 3) L (.int r :: S) (n1, σ1, τ1, θ1))) : SW G k y Q a b pc L (v5 :: v4 :: v3 :: v2 :: v1 :: .ref o :: S) (n0, σ, τ, θ) :=
  SW.callV (As := [v1, v2, v3, v4, v5]) hw hk hC ho h1 hn hcl rfl hS hd hM (fun v h1 q => by obtain ⟨x, rfl, q⟩ := q; exact ⟨fun r e => (nomatch e), q⟩)
theorem SW.csi5 {y' : MD} {i k' : Nat} {v1 v2 v3 v4 v5 : Value} (hw : aw_CS y.1.cls i y' 5) (hk : k' + 1 ≤ k) (hS : (S.map fun v => v.category).sum ≤ 8) (hd : decode y.2.1 pc = .ok (.invokestatic i, 3)) (hM : SMi G k' y' 0 0 [v1, v2, v3, v4, v5] n0 σ τ θ (fun r n1 σ1 τ1 θ1 => SW G k y Q a b (pc + 3) L (.int r :: S) (n1, σ1, τ1, θ1))) : SW G k y Q a b pc L (v5 :: v4 :: v3 :: v2 :: v1 :: S) (n0, σ, τ, θ) :=
  SW.callS (As := [v1, v2, v3, v4, v5]) hw hk rfl hS hd hM (fun v h1 q => by obtain ⟨x, rfl, q⟩ := q; exact ⟨fun r e => (nomatch e), q⟩)
theorem SW.cvi6 {y' : MD} {i o ci N k' : Nat} {C : String} {T : u_T} {ty : Nat → FieldType} {v1 v2 v3 v4 v5 v6 : Value} (hw : aw_CV y.1.cls i y' 6) (hk : k' + 1 ≤ k) (hC : aw_Cl ci C T N ty) (ho : aw_kp o = (0, ci)) (h1 : 1 ≤ o) (hn : o ≤ n0) (hcl : y'.1.cls = C) (hS : (S.map fun v => v.category).sum ≤ 8) (hd : decode y.2.1 pc = .ok (.invokevirtual i, 3)) (hM : SMi G k' y' 0 0 [.ref o, v1, v2, v3, v4, v5, v6] n0 σ τ θ (fun r n1 σ1 τ1 θ1 => SW G k y Q a b (pc + 3) L (.int r :: S) (n1, σ1, τ1, θ1))) : SW G k y Q a b pc L (v6 :: v5 :: v4 :: v3 :: v2 :: v1 :: .ref o :: S) (n0, σ, τ, θ) :=
  SW.callV (As := [v1, v2, v3, v4, v5, v6]) hw hk hC ho h1 hn hcl rfl hS hd hM (fun v h1 q => by obtain ⟨x, rfl, q⟩ := q; exact ⟨fun r e => (nomatch e), q⟩)
theorem SW.csi6 {y' : MD} {i k' : Nat} {v1 v2 v3 v4 v5 v6 : Value} (hw : aw_CS y.1.cls i y' 6) (hk : k' + 1 ≤ k) (hS : (S.map fun v => v.category).sum ≤ 8) (hd : decode y.2.1 pc = .ok (.invokestatic i, 3)) (hM : SMi G k' y' 0 0 [v1, v2, v3, v4, v5, v6] n0 σ τ θ (fun r n1 σ1 τ1 θ1 => SW G k y Q a b (pc + 3) L (.int r :: S) (n1, σ1, τ1, θ1))) : SW G k y Q a b pc L (v6 :: v5 :: v4 :: v3 :: v2 :: v1 :: S) (n0, σ, τ, θ) :=
  SW.callS (As := [v1, v2, v3, v4, v5, v6]) hw hk rfl hS hd hM (fun v h1 q => by obtain ⟨x, rfl, q⟩ := q; exact ⟨fun r e => (nomatch e), q⟩)
theorem SW.cvl0 {y' : MD} {i o ci N k' : Nat} {C : String} {T : u_T} {ty : Nat → FieldType} (hw : aw_CV y.1.cls i y' 0) (hk : k' + 1 ≤ k) (hC : aw_Cl ci C T N ty) (ho : aw_kp o = (0, ci)) (h1 : 1 ≤ o) (hn : o ≤ n0) (hcl : y'.1.cls = C) (hS : (S.map fun v => v.category).sum ≤ 8) (hd : decode y.2.1 pc = .ok (.invokevirtual i, 3)) (hM : SMl G k' y' 0 0 [.ref o] n0 σ τ θ (fun r n1 σ1 τ1 θ1 => SW G k y Q a b (pc + 3) L (.long r :: S) (n1, σ1, τ1, θ1))) : SW G k y Q a b pc L (.ref o :: S) (n0, σ, τ, θ) :=
  SW.callV (As := []) hw hk hC ho h1 hn hcl rfl hS hd hM (fun v h1 q => by obtain ⟨x, rfl, q⟩ := q; exact ⟨fun r e => (nomatch e), q⟩)
theorem SW.cvl1 {y' : MD} {i o ci N k' : Nat} {C : String} {T : u_T} {ty : Nat → FieldType} {v1 : Value} (hw : aw_CV y.1.cls i y' 1) (hk : k' + 1 ≤ k) (hC : aw_Cl ci C T N ty) (ho : aw_kp o = (0, ci)) (h1 : 1 ≤ o) (hn : o ≤ n0) (hcl : y'.1.cls = C) (hS : (S.map fun v => v.category).sum ≤ 8) (hd : decode y.2.1 pc = .ok (.invokevirtual i, 3)) (hM : SMl G k' y' 0 0 [.ref o, v1] n0 σ τ θ (fun r n1 σ1 τ1 θ1 => SW G k y Q a b (pc + 3) L (.long r :: S) (n1, σ1, τ1, θ1))) : SW G k y Q a b pc L (v1 :: .ref o :: S) (n0, σ, τ, θ) :=
  SW.callV (As := [v1]) hw hk hC ho h1 hn hcl rfl hS hd hM (fun v h1 q => by obtain ⟨x, rfl, q⟩ := q; exact ⟨fun r e => (nomatch e), q⟩)
theorem SW.csl1 {y' : MD} {i k' : Nat} {v1 : Value} (hw : aw_CS y.1.cls i y' 1) (hk : k' + 1 ≤ k) (hS : (S.map fun v => v.category).sum ≤ 8) (hd : decode y.2.1 pc = .ok (.invokestatic i, 3)) (hM : SMl G k' y' 0 0 [v1] n0 σ τ θ (fun r n1 σ1 τ1 θ1 => SW G k y Q a b (pc + 3) L (.long r :: S) (n1, σ1, τ1, θ1))) : SW G k y Q a b pc L (v1 :: S) (n0, σ, τ, θ) :=
  SW.callS (As := [v1]) hw hk rfl hS hd hM (fun v h1 q => by obtain ⟨x, rfl, q⟩ := q; exact ⟨fun r e => (nomatch e), q⟩)
theorem SW.cvl2 {y' : MD} {i o ci N k' : Nat} {C : String} {T : u_T} {ty : Nat → FieldType} {v1 v2 : Value} (hw : aw_CV y.1.cls i y' 2) (hk : k' + 1 ≤ k) (hC : aw_Cl ci C T N ty) (ho : aw_kp o = (0, ci)) (h1 : 1 ≤ o) (hn : o ≤ n0) (hcl : y'.1.cls = C) (hS : (S.map fun v => v.category).sum ≤ 8) (hd : decode y.2.1 pc = .ok (.invokevirtual i, 3)) (hM : SMl G k' y' 0 0 [.ref o, v1, v2] n0 σ τ θ (fun r n1 σ1 τ1 θ1 => SW G k y Q a b (pc + 3) L (.long r :: S) (n1, σ1, τ1, θ1))) : SW G k y Q a b pc L (v2 :: v1 :: .ref o :: S) (n0, σ, τ, θ) :=
  SW.callV (As := [v1, v2]) hw hk hC ho h1 hn hcl rfl hS hd hM (fun v h1 q => by obtain ⟨x, rfl, q⟩ := q; exact ⟨fun r e => (nomatch e), q⟩)
theorem SW.csl2 {y' : MD} {i k' : Nat} {v1 v2 : Value} (hw : aw_CS y.1.cls i y' 2) (hk : k' + 1 ≤ k) (hS : (S.map fun v => v.category).sum ≤ 8) (hd : decode y.2.1 pc = .ok (.invokestatic i, 3)) (hM : SMl G k' y' 0 0 [v1, v2] n0 σ τ θ (fun r n1 σ1 τ1 θ1 => SW G k y Q a b (pc + 3) L (.long r :: S) (n1, σ1, τ1, θ1))) : SW G k y Q a b pc L (v2 :: v1 :: S) (n0, σ, τ, θ) :=
  SW.callS (As := [v1, v2]) hw hk rfl hS hd hM (fun v h1 q => by obtain ⟨x, rfl, q⟩ := q; exact ⟨fun r e => (nomatch e), q⟩)
theorem SW.cvl3 {y' : MD} {i o ci N k' : Nat} {C : String} {T : u_T} {ty : Nat → FieldType} {v1 v2 v3 : Value} (hw : aw_CV y.1.cls i y' 3) (hk : k' + 1 ≤ k) (hC : aw_Cl ci C T N ty) (ho : aw_kp o = (0, ci)) (h1 : 1 ≤ o) (hn : o ≤ n0) (hcl : y'.1.cls = C) (hS : (S.map fun v => v.category).sum ≤ 8) (hd : decode y.2.1 pc = .ok (.invokevirtual i, 3)) (hM : SMl G k' y' 0 0 [.ref o, v1, v2, v3] n0 σ τ θ (fun r n1 σ1 τ1 θ1 => SW G k y Q a b (pc + 3) L (.long r :: S) (n1, σ1, τ1, θ1))) : SW G k y Q a b pc L (v3 :: v2 :: v1 :: .ref o :: S) (n0, σ, τ, θ) :=
  SW.callV (As := [v1, v2, v3]) hw hk hC ho h1 hn hcl rfl hS hd hM (fun v h1 q => by obtain ⟨x, rfl, q⟩ := q; exact ⟨fun r e => (nomatch e), q⟩)
theorem SW.csl3 {y' : MD} {i k' : Nat} {v1 v2 v3 : Value} (hw : aw_CS y.1.cls i y' 3) (hk : k' + 1 ≤ k) (hS : (S.map fun v => v.category).sum ≤ 8) (hd : decode y.2.1 pc = .ok (.invokestatic i, 3)) (hM : SMl G k' y' 0 0 [v1, v2, v3] n0 σ τ θ (fun r n1 σ1 τ1 θ1 => SW G k y Q a b (pc + 3) L (.long r :: S) (n1, σ1, τ1, θ1))) : SW G k y Q a b pc L (v3 :: v2 :: v1 :: S) (n0, σ, τ, θ) :=
  SW.callS (As := [v1, v2, v3]) hw hk rfl hS hd hM (fun v h1 q => by obtain ⟨x, rfl, q⟩ := q; exact ⟨fun r e => (nomatch e), q⟩)
theorem SW.cvl4 {y' : MD} {i o ci N k' : Nat} {C : String} {T : u_T} {ty : Nat → FieldType} {v1 v2 v3 v4 : Value} (hw : aw_CV y.1.cls i y' 4) (hk : k' + 1 ≤ k) (hC : aw_Cl ci C T N ty) (ho : aw_kp o = (0, ci)) (h1 : 1 ≤ o) (hn : o ≤ n0) (hcl : y'.1.cls = C) (hS : (S.map fun v => v.category).sum ≤ 8) (hd : decode y.2.1 pc = .ok (.invokevirtual i, 3)) (hM : SMl G k' y' 0 0 [.ref o, v1, v2, v3, v4] n0 σ τ θ (fun r n1 σ1 τ1 θ1 => SW G k y Q a b (pc + 3) L (.long r :: S) (n1, σ1, τ1, θ1))) : SW G k y Q a b pc L (v4 :: v3 :: v2 :: v1 :: .ref o :: S) (n0, σ, τ, θ) :=
  SW.callV (As := [v1, v2, v3, v4]) hw hk hC ho h1 hn hcl rfl hS hd hM (fun v h1 q => by obtain ⟨x, rfl, q⟩ := q; exact ⟨fun r e => (nomatch e), q⟩)
theorem SW.csl4 {y' : MD} {i k' : Nat} {v1 v2 v3 v4 : Value} (hw : aw_CS y.1.cls i y' 4) (hk : k' + 1 ≤ k) (hS : (S.map fun v => v.category).sum ≤ 8) (hd : decode y.2.1 pc = .ok (.invokestatic i, 3)) (hM : SMl G k' y' 0 0 [v1, v2, v3, v4] n0 σ τ θ (fun r n1 σ1 τ1 θ1 => SW G k y Q a b (pc + 3) L (.long r :: S) (n1, σ1, τ1, θ1))) : SW G k y Q a b pc L (v4 :: v3 :: v2 :: v1 :: S) (n0, σ, τ, θ) :=
  SW.callS (As := [v1, v2, v3, v4]) hw hk rfl hS hd hM (fun v h1 q => by obtain ⟨x, rfl, q⟩ := q; exact ⟨fun r e => (nomatch e), q⟩)
theorem SW.cvl5 {y' : MD} {i o ci N k' : Nat} {C : String} {T : u_T} {ty : Nat → FieldType} {v1 v2 v3 v4 v5 : Value} (hw : aw_CV y.1.cls i y' 5) (hk : k' + 1 ≤ k) (hC : aw_Cl ci C T N ty) (ho : aw_kp o = (0, ci)) (h1 : 1 ≤ o) (hn : o ≤ n0) (hcl : y'.1.cls = C) (hS : (S.map fun v => v.category).sum ≤ 8) (hd : decode y.2.1 pc = .ok (.invokevirtual i, 3)) (hM : SMl G k' y' 0 0 [.ref o, v1, v2, v3, v4, v5] n0 σ τ θ (fun r n1 σ1 τ1 θ1 => SW G k y Q a b (pc + 3) L (.long r :: S) (n1, σ1, τ1, θ1))) : SW G k y Q a b pc L (v5 :: v4 :: v3 :: v2 :: v1 :: .ref o :: S) (n0, σ, τ, θ) :=
  SW.callV (As := [v1, v2, v3, v4, v5]) hw hk hC ho h1 hn hcl rfl hS hd hM (fun v h1 q => by obtain ⟨x, rfl, q⟩ := q; exact ⟨fun r e => (nomatch e), q⟩)
theorem SW.csl5 {y' : MD} {i k' : Nat} {v1 v2 v3 v4 v5 : Value} (hw : aw_CS y.1.cls i y' 5) (hk : k' + 1 ≤ k) (hS : (S.map fun v => v.category).sum ≤ 8) (hd : decode y.2.1 pc = .ok (.invokestatic i, 3)) (hM : SMl G k' y' 0 0 [v1, v2, v3, v4, v5] n0 σ τ θ (fun r n1 σ1 τ1 θ1 => SW G k y Q a b (pc + 3) L (.long r :: S) (n1, σ1, τ1, θ1))) : SW G k y Q a b pc L (v5 :: v4 :: v3 :: v2 :: v1 :: S) (n0, σ, τ, θ) :=
  SW.callS (As := [v1, v2, v3, v4, v5]) hw hk rfl hS hd hM (fun v h1 q => by obtain ⟨x, rfl, q⟩ := q; exact ⟨fun r e => (nomatch e), q⟩)
theorem SW.cvl6 {y' : MD} {i o ci N k' : Nat} {C : String} {T : u_T} {ty : Nat → FieldType} {v1 v2 v3 v4 v5 v6 : Value} (hw : aw_CV y.1.cls i y' 6) (hk : k' + 1 ≤ k) (hC : aw_Cl ci C T N ty) (ho : aw_kp o = (0, ci)) (h1 : 1 ≤ o) (hn : o ≤ n0) (hcl : y'.1.cls = C) (hS : (S.map fun v => v.category).sum ≤ 8) (hd : decode y.2.1 pc = .ok (.invokevirtual i, 3)) (hM : SMl G k' y' 0 0 [.ref o, v1, v2, v3, v4, v5, v6] n0 σ τ θ (fun r n1 σ1 τ1 θ1 => SW G k y Q a b (pc + 3) L (.long r :: S) (n1, σ1, τ1, θ1))) : SW G k y Q a b pc L (v6 :: v5 :: v4 :: v3 :: v2 :: v1 :: .ref o :: S) (n0, σ, τ, θ) :=
  SW.callV (As := [v1, v2, v3, v4, v5, v6]) hw hk hC ho h1 hn hcl rfl hS hd hM (fun v h1 q => by obtain ⟨x, rfl, q⟩ := q; exact ⟨fun r e => (nomatch e), q⟩)
theorem SW.csl6 {y' : MD} {i k' : Nat} {v1 v2 v3 v4 v5 v6 : Value} (hw : aw_CS y.1.cls i y' 6) (hk : k' + 1 ≤ k) (hS : (S.map fun v => v.category).sum ≤ 8) (hd : decode y.2.1 pc = .ok (.invokestatic i, 3)) (hM : SMl G k' y' 0 0 [v1, v2, v3, v4, v5, v6] n0 σ τ θ (fun r n1 σ1 τ1 θ1 => SW G k y Q a b (pc + 3) L (.long r :: S) (n1, σ1, τ1, θ1))) : SW G k y Q a b pc L (v6 :: v5 :: v4 :: v3 :: v2 :: v1 :: S) (n0, σ, τ, θ) :=
  SW.callS (As := [v1, v2, v3, v4, v5, v6]) hw hk rfl hS hd hM (fun v h1 q => by obtain ⟨x, rfl, q⟩ := q; exact ⟨fun r e => (nomatch e), q⟩)
theorem SW.cvv0 {y' : MD} {i o ci N k' : Nat} {C : String} {T : u_T} {ty : Nat → FieldType} (hw : aw_CV y.1.cls i y' 0) (hk : k' + 1 ≤ k) (hC : aw_Cl ci C T N ty) (ho : aw_kp o = (0, ci)) (h1 : 1 ≤ o) (hn : o ≤ n0) (hcl : y'.1.cls = C) (hS : (S.map fun v => v.category).sum ≤ 8) (hd : decode y.2.1 pc = .ok (.invokevirtual i, 3)) (hM : SMv G k' y' 0 0 [.ref o] n0 σ τ θ (fun n1 σ1 τ1 θ1 => SW G k y Q a b (pc + 3) L S (n1, σ1, τ1, θ1))) : SW G k y Q a b pc L (.ref o :: S) (n0, σ, τ, θ) :=
  SW.callV (As := []) hw hk hC ho h1 hn hcl rfl hS hd hM (fun v h1 q => by obtain ⟨rfl, q⟩ := q; exact ⟨fun r e => (nomatch e), q⟩)
theorem SW.cvv1 {y' : MD} {i o ci N k' : Nat} {C : String} {T : u_T} {ty : Nat → FieldType} {v1 : Value} (hw : aw_CV y.1.cls i y' 1) (hk : k' + 1 ≤ k) (hC : aw_Cl ci C T N ty) (ho : aw_kp o = (0, ci)) (h1 : 1 ≤ o) (hn : o ≤ n0) (hcl : y'.1.cls = C) (hS : (S.map fun v => v.category).sum ≤ 8) (hd : decode y.2.1 pc = .ok (.invokevirtual i, 3)) (hM : SMv G k' y' 0 0 [.ref o, v1] n0 σ τ θ (fun n1 σ1 τ1 θ1 => SW G k y Q a b (pc + 3) L S (n1, σ1, τ1, θ1))) : SW G k y Q a b pc L (v1 :: .ref o :: S) (n0, σ, τ, θ) :=
  SW.callV (As := [v1]) hw hk hC ho h1 hn hcl rfl hS hd hM (fun v h1 q => by obtain ⟨rfl, q⟩ := q; exact ⟨fun r e => (nomatch e), q⟩)
theorem SW.csv1 {y' : MD} {i k' : Nat} {v1 : Value} (hw : aw_CS y.1.cls i y' 1) (hk : k' + 1 ≤ k) (hS : (S.map fun v => v.category).sum ≤ 8) (hd : decode y.2.1 pc = .ok (.invokestatic i, 3)) (hM : SMv G k' y' 0 0 [v1] n0 σ τ θ (fun n1 σ1 τ1 θ1 => SW G k y Q a b (pc + 3) L S (n1, σ1, τ1, θ1))) : SW G k y Q a b pc L (v1 :: S) (n0, σ, τ, θ) :=
  SW.callS (As := [v1]) hw hk rfl hS hd hM (fun v h1 q => by obtain ⟨rfl, q⟩ := q; exact ⟨fun r e => (nomatch e), q⟩)
theorem SW.cvv2 {y' : MD} {i o ci N k' : Nat} {C : String} {T : u_T} {ty : Nat → FieldType} {v1 v2 : Value} (hw : aw_CV y.1.cls i y' 2) (hk : k' + 1 ≤ k) (hC : aw_Cl ci C T N ty) (ho : aw_kp o = (0, ci)) (h1 : 1 ≤ o) (hn : o ≤ n0) (hcl : y'.1.cls = C) (hS : (S.map fun v => v.category).sum ≤ 8) (hd : decode y.2.1 pc = .ok (.invokevirtual i, 3)) (hM : SMv G k' y' 0 0 [.ref o, v1, v2] n0 σ τ θ (fun n1 σ1 τ1 θ1 => SW G k y Q a b (pc + 3) L S (n1, σ1, τ1, θ1))) : SW G k y Q a b pc L (v2 :: v1 :: .ref o :: S) (n0, σ, τ, θ) :=
  SW.callV (As := [v1, v2]) hw hk hC ho h1 hn hcl rfl hS hd hM (fun v h1 q => by obtain ⟨rfl, q⟩ := q; exact ⟨fun r e => (nomatch e), q⟩)
theorem SW.csv2 {y' : MD} {i k' : Nat} {v1 v2 : Value} (hw : aw_CS y.1.cls i y' 2) (hk : k' + 1 ≤ k) (hS : (S.map fun v => v.category).sum ≤ 8) (hd : decode y.2.1 pc = .ok (.invokestatic i, 3)) (hM : SMv G k' y' 0 0 [v1, v2] n0 σ τ θ (fun n1 σ1 τ1 θ1 => SW G k y Q a b (pc + 3) L S (n1, σ1, τ1, θ1))) : SW G k y Q a b pc L (v2 :: v1 :: S) (n0, σ, τ, θ) :=
  SW.callS (As := [v1, v2]) hw hk rfl hS hd hM (fun v h1 q => by obtain ⟨rfl, q⟩ := q; exact ⟨fun r e => (nomatch e), q⟩)
theorem SW.cvv3 {y' : MD} {i o ci N k' : Nat} {C : String} {T : u_T} {ty : Nat → FieldType} {v1 v2 v3 : Value} (hw : aw_CV y.1.cls i y' 3) (hk : k' + 1 ≤ k) (hC : aw_Cl ci C T N ty) (ho : aw_kp o = (0, ci)) (h1 : 1 ≤ o) (hn : o ≤ n0) (hcl : y'.1.cls = C) (hS : (S.map fun v => v.category).sum ≤ 8) (hd : decode y.2.1 pc = .ok (.invokevirtual i, 3)) (hM : SMv G k' y' 0 0 [.ref o, v1, v2, v3] n0 σ τ θ (fun n1 σ1 τ1 θ1 => SW G k y Q a b (pc + 3) L S (n1, σ1, τ1, θ1))) : SW G k y Q a b pc L (v3 :: v2 :: v1 :: .ref o :: S) (n0, σ, τ, θ) :=
  SW.callV (As := [v1, v2, v3]) hw hk hC ho h1 hn hcl rfl hS hd hM (fun v h1 q => by obtain ⟨rfl, q⟩ := q; exact ⟨fun r e => (nomatch e), q⟩)
theorem SW.csv3 {y' : MD} {i k' : Nat} {v1 v2 v3 : Value} (hw : aw_CS y.1.cls i y' 3) (hk : k' + 1 ≤ k) (hS : (S.map fun v => v.category).sum ≤ 8) (hd : decode y.2.1 pc = .ok (.invokestatic i, 3)) (hM : SMv G k' y' 0 0 [v1, v2, v3] n0 σ τ θ (fun n1 σ1 τ1 θ1 => SW G k y Q a b (pc + 3) L S (n1, σ1, τ1, θ1))) : SW G k y Q a b pc L (v3 :: v2 :: v1 :: S) (n0, σ, τ, θ) :=
  SW.callS (As := [v1, v2, v3]) hw hk rfl hS hd hM (fun v h1 q => by obtain ⟨rfl, q⟩ := q; exact ⟨fun r e => (nomatch e), q⟩)
theorem SW.cvv4 {y' : MD} {i o ci N k' : Nat} {C : String} {T : u_T} {ty : Nat → FieldType} {v1 v2 v3 v4 : Value} (hw : aw_CV y.1.cls i y' 4) (hk : k' + 1 ≤ k) (hC : aw_Cl ci C T N ty) (ho : aw_kp o = (0, ci)) (h1 : 1 ≤ o) (hn : o ≤ n0) (hcl : y'.1.cls = C) (hS : (S.map fun v => v.category).sum ≤ 8) (hd : decode y.2.1 pc = .ok (.invokevirtual i, 3)) (hM : SMv G k' y' 0 0 [.ref o, v1, v2, v3, v4] n0 σ τ θ (fun n1 σ1 τ1 θ1 => SW G k y Q a b (pc + 3) L S (n1, σ1, τ1, θ1))) : SW G k y Q a b pc L (v4 :: v3 :: v2 :: v1 :: .ref o :: S) (n0, σ, τ, θ) :=
  SW.callV (As := [v1, v2, v3, v4]) hw hk hC ho h1 hn hcl rfl hS hd hM (fun v h1 q => by obtain ⟨rfl, q⟩ := q; exact ⟨fun r e => (nomatch e), q⟩)
theorem SW.csv4 {y' : MD} {i k' : Nat} {v1 v2 v3 v4 : Value} (hw : aw_CS y.1.cls i y' 4) (hk : k' + 1 ≤ k) (hS : (S.map fun v => v.category).sum ≤ 8) (hd : decode y.2.1 pc = .ok (.invokestatic i, 3)) (hM : SMv G k' y' 0 0 [v1, v2, v3, v4] n0 σ τ θ (fun n1 σ1 τ1 θ1 => SW G k y Q a b (pc + 3) L S (n1, σ1, τ1, θ1))) : SW G k y Q a b pc L (v4 :: v3 :: v2 :: v1 :: S) (n0, σ, τ, θ) :=
  SW.callS (As := [v1, v2, v3, v4]) hw hk rfl hS hd hM (fun v h1 q => by obtain ⟨rfl, q⟩ := q; exact ⟨fun r e => (nomatch e), q⟩)
theorem SW.cvv5 {y' : MD} {i o ci N k' : Nat} {C : String} {T : u_T} {ty : Nat → FieldType} {v1 v2 v3 v4 v5 : Value} (hw : aw_CV y.1.cls i y' 5) (hk : k' + 1 ≤ k) (hC : aw_Cl ci C T N ty) (ho : aw_kp o = (0, ci)) (h1 : 1 ≤ o) (hn : o ≤ n0) (hcl : y'.1.cls = C) (hS : (S.map fun v => v.category).sum ≤ 8) (hd : decode y.2.1 pc = .ok (.invokevirtual i, 3)) (hM : SMv G k' y' 0 0 [.ref o, v1, v2, v3, v4, v5] n0 σ τ θ (fun n1 σ1 τ1 θ1 => SW G k y Q a b (pc + 3) L S (n1, σ1, τ1, θ1))) : SW G k y Q a b pc L (v5 :: v4 :: v3 :: v2 :: v1 :: .ref o :: S) (n0, σ, τ, θ) :=
  SW.callV (As := [v1, v2, v3, v4, v5]) hw hk hC ho h1 hn hcl rfl hS hd hM (fun v h1 q => by obtain ⟨rfl, q⟩ := q; exact ⟨fun r e => (nomatch e), q⟩)
theorem SW.csv5 {y' : MD} {i k' : Nat} {v1 v2 v3 v4 v5 : Value} (hw : aw_CS y.1.cls i y' 5) (hk : k' + 1 ≤ k) (hS : (S.map fun v => v.category).sum ≤ 8) (hd : decode y.2.1 pc = .ok (.invokestatic i, 3)) (hM : SMv G k' y' 0 0 [v1, v2, v3, v4, v5] n0 σ τ θ (fun n1 σ1 τ1 θ1 => SW G k y Q a b (pc + 3) L S (n1, σ1, τ1, θ1))) : SW G k y Q a b pc L (v5 :: v4 :: v3 :: v2 :: v1 :: S) (n0, σ, τ, θ) :=
  SW.callS (As := [v1, v2, v3, v4, v5]) hw hk rfl hS hd hM (fun v h1 q => by obtain ⟨rfl, q⟩ := q; exact ⟨fun r e => (nomatch e), q⟩)
theorem SW.cvv6 {y' : MD} {i o ci N k' : Nat} {C : String} {T : u_T} {ty : Nat → FieldType} {v1 v2 v3 v4 v5 v6 : Value} (hw : aw_CV y.1.cls i y' 6) (hk : k' + 1 ≤ k) (hC : aw_Cl ci C T N ty) (ho : aw_kp o = (0, ci)) (h1 : 1 ≤ o) (hn : o ≤ n0) (hcl : y'.1.cls = C) (hS : (S.map fun v => v.category).sum ≤ 8) (hd : decode y.2.1 pc = .ok (.invokevirtual i, 3)) (hM : SMv G k' y' 0 0 [.ref o, v1, v2, v3, v4, v5, v6] n0 σ τ θ (fun n1 σ1 τ1 θ1 => SW G k y Q a b (pc + 3) L S (n1, σ1, τ1, θ1))) : SW G k y Q a b pc L (v6 :: v5 :: v4 :: v3 :: v2 :: v1 :: .ref o :: S) (n0, σ, τ, θ) :=
  SW.callV (As := [v1, v2, v3, v4, v5, v6]) hw hk hC ho h1 hn hcl rfl hS hd hM (fun v h1 q => by obtain ⟨rfl, q⟩ := q; exact ⟨fun r e => (nomatch e), q⟩)
theorem SW.csv6 {y' : MD} {i k' : Nat} {v1 v2 v3 v4 v5 v6 : Value} (hw : aw_CS y.1.cls i y' 6) (hk : k' + 1 ≤ k) (hS : (S.map fun v => v.category).sum ≤ 8) (hd : decode y.2.1 pc = .ok (.invokestatic i, 3)) (hM : SMv G k' y' 0 0 [v1, v2, v3, v4, v5, v6] n0 σ τ θ (fun n1 σ1 τ1 θ1 => SW G k y Q a b (pc + 3) L S (n1, σ1, τ1, θ1))) : SW G k y Q a b pc L (v6 :: v5 :: v4 :: v3 :: v2 :: v1 :: S) (n0, σ, τ, θ) :=
  SW.callS (As := [v1, v2, v3, v4, v5, v6]) hw hk rfl hS hd hM (fun v h1 q => by obtain ⟨rfl, q⟩ := q; exact ⟨fun r e => (nomatch e), q⟩)
theorem SW.ct0 {y' : MD} {i j k' : Nat} {st : String × Nat × String × List Int32} (hw : aw_CV y.1.cls i y' 0) (hk : k' + 1 ≤ k) (hj : aw_strs[j]? = some st) (hcl : y'.1.cls = "java/lang/String") (hS : (S.map fun v => v.category).sum ≤ 8) (hd : decode y.2.1 pc = .ok (.invokevirtual i, 3)) (hM : SMi G k' y' 0 0 [.ref (1000 + j)] n0 σ τ θ (fun r n1 σ1 τ1 θ1 => SW G k y Q a b (pc + 3) L (.int r :: S) (n1, σ1, τ1, θ1))) : SW G k y Q a b pc L (.ref (1000 + j) :: S) (n0, σ, τ, θ) :=
  SW.callT (As := []) hw hk hj hcl rfl hS hd hM (fun v h1 q => by obtain ⟨x, rfl, q⟩ := q; exact ⟨fun r e => (nomatch e), q⟩)
theorem SW.ci0 {y' : MD} {i o k' a' b' : Nat} (hw : aw_CI y.1.cls i y' 0) (hk : k' + 1 ≤ k) (h1 : 1 ≤ o) (hS : (S.map fun v => v.category).sum ≤ 8) (hd : decode y.2.1 pc = .ok (.invokespecial i, 3)) (hM : SMv G k' y' a' b' [.ref o] n0 σ τ θ (fun n1 σ1 τ1 θ1 => SW G k y Q a b (pc + 3) L S (n1, σ1, τ1, θ1))) : SW G k y Q (a' + a) (b' + b) pc L (.ref o :: S) (n0, σ, τ, θ) :=
  SW.callI (As := []) hw hk h1 rfl hS hd hM (fun v h1 q => by obtain ⟨rfl, q⟩ := q; exact ⟨fun r e => (nomatch e), q⟩)
theorem SW.ct1 {y' : MD} {i j k' : Nat} {st : String × Nat × String × List Int32} {v1 : Value} (hw : aw_CV y.1.cls i y' 1) (hk : k' + 1 ≤ k) (hj : aw_strs[j]? = some st) (hcl : y'.1.cls = "java/lang/String") (hS : (S.map fun v => v.category).sum ≤ 8) (hd : decode y.2.1 pc = .ok (.invokevirtual i, 3)) (hM : SMi G k' y' 0 0 [.ref (1000 + j), v1] n0 σ τ θ (fun r n1 σ1 τ1 θ1 => SW G k y Q a b (pc + 3) L (.int r :: S) (n1, σ1, τ1, θ1))) : SW G k y Q a b pc L (v1 :: .ref (1000 + j) :: S) (n0, σ, τ, θ) :=
  SW.callT (As := [v1]) hw hk hj hcl rfl hS hd hM (fun v h1 q => by obtain ⟨x, rfl, q⟩ := q; exact ⟨fun r e => (nomatch e), q⟩)
theorem SW.ci1 {y' : MD} {i o k' a' b' : Nat} {v1 : Value} (hw : aw_CI y.1.cls i y' 1) (hk : k' + 1 ≤ k) (h1 : 1 ≤ o) (hS : (S.map fun v => v.category).sum ≤ 8) (hd : decode y.2.1 pc = .ok (.invokespecial i, 3)) (hM : SMv G k' y' a' b' [.ref o, v1] n0 σ τ θ (fun n1 σ1 τ1 θ1 => SW G k y Q a b (pc + 3) L S (n1, σ1, τ1, θ1))) : SW G k y Q (a' + a) (b' + b) pc L (v1 :: .ref o :: S) (n0, σ, τ, θ) :=
  SW.callI (As := [v1]) hw hk h1 rfl hS hd hM (fun v h1 q => by obtain ⟨rfl, q⟩ := q; exact ⟨fun r e => (nomatch e), q⟩)
theorem SW.cn0 {y' : MD} {i o k' a' b' : Nat} (hq : (y.1.cls, i, y'.1) ∈ aw_nest) (hw : Cond.initialized y'.1.cls ∈ aw_TT ∧ Cond.code y'.1 y'.2.1 y'.2.2.1 y'.2.2.2 ∈ aw_TT ∧ (y'.1.cls ≠ "java/lang/invoke/MethodHandle" ∧ y'.1.cls ≠ "java/lang/invoke/VarHandle" ∧ (parseMethodDescriptor y'.1.desc).map (fun d => d.parameters.length) = some 0) ∧ y'.2.2.1 ≤ 40 ∧ Cond.instanceMethod y'.1 ∈ aw_TT ∧ y'.1.name = "<init>" ∧ y'.2.2.2 = none) (hk : k' + 1 ≤ k) (h1 : 1 ≤ o) (hS : (S.map fun v => v.category).sum ≤ 8) (hd : decode y.2.1 pc = .ok (.invokespecial i, 3)) (hM : SMv G k' y' a' b' [.ref o] n0 σ τ θ (fun n1 σ1 τ1 θ1 => SW G k y Q a b (pc + 3) L S (n1, σ1, τ1, θ1))) : SW G k y Q (a' + a) (b' + b) pc L (.ref o :: S) (n0, σ, τ, θ) :=
  SW.callN (As := []) hq hw hk h1 rfl hS hd hM (fun v h1 q => by obtain ⟨rfl, q⟩ := q; exact ⟨fun r e => (nomatch e), q⟩)
end AwTyped
