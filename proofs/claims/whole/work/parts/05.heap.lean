/-! ===== the heap's instructions ===== -/
def aw_Cl (ci : Nat) (C : String) (T : u_T) (N : Nat) (ty : Nat → FieldType) : Prop := vwCl[ci]? = some (C, T, N) ∧ (∀ w ∈ u_ws C T N, w ∈ aw_TT) ∧ (∀ k, k < N → parseFieldDescriptor (T k).2.2.1 = some (ty k)) ∧ (∀ a, a < N → ∀ b, b < N → a ≠ b → (T a).2.1 ≠ (T b).2.1)
theorem aw_put {G : GG} {h h' : HH} {H H' : Heap} {o ci N f : Nat} {C : String} {T : u_T} (R : aw_Rep G h H) (ho : aw_kp o = (0, ci)) (h1 : 1 ≤ o) (hc : vwCl[ci]? = some (C, T, N)) {cell : Cell} (q2 : cell.cls = G.1.1 ci) (q3 : cell.vm = .none) (q4 : ∀ k, k < N → cell.slots[G.1.2 ci k]? = some (aw_fv G h o ci k))
    (hap : ∀ x y, x < N → y < N → x ≠ y → (G.1.2 ci) x ≠ (G.1.2 ci) y) (hf : f < N) {v : Value} (e1 : H'[aw_ad G o]? = some (cell.setSlot (G.1.2 ci f) v)) (e2 : H'.size = H.size) (e3 : ∀ q, q ≠ aw_ad G o → H'[q]? = H[q]?) (hn : h'.1 = h.1)
    (g1 : ∀ o' k, o' ≠ o → h'.2.1 o' k = h.2.1 o' k) (g2 : ∀ o' k, o' ≠ o → h'.2.2.1 o' k = h.2.2.1 o' k) (g3 : ∀ o' k, o' ≠ o → h'.2.2.2 o' k = h.2.2.2 o' k) (hv : ∀ k, k < N → updV (aw_fv G h o ci) f v k = aw_fv G h' o ci k) : aw_Rep G h' H' := by
  refine R.set h1 (aw_kp_lt ho (by decide)) hn e2 e3 g1 g2 g3 ⟨fun ci' e => ?_, fun n e => ?_, fun n e => ?_, fun n e => ?_, fun n e => ?_⟩
  · have : ci' = ci := by rw [ho] at e; cases e; rfl
    subst this
    exact ⟨_, hc, t_OB.to ⟨_, e1, q2, q3, t_set q4 hap hf v⟩ hv⟩
  all_goals (rw [ho] at e; cases e)
section AwHeap
variable {G : GG} {k : Nat} {y : MD} {Q : Option Value → HH → Prop} {a b pc : Nat} {L : List (Option Value)} {S : List Value} {h : HH} {n0 : Nat} {σ : Nat → Nat → Int32} {τ : Nat → Nat → Int64} {θ : Nat → Nat → Nat}
theorem SW.getV {o ci N f i : Nat} {C : String} {T : u_T} {ty : Nat → FieldType} {v : Value} (hC : aw_Cl ci C T N ty) (ho : aw_kp o = (0, ci)) (h1 : 1 ≤ o) (hn : o ≤ h.1) (hf : f < N) (hw : Cond.fieldLink y.1.cls i (T f).1 (T f).2.1 (T f).2.2.1 ∈ aw_TT) (hd : decode y.2.1 pc = .ok (.getfield i, 3)) (hv : aw_fv G h o ci f = aw_cV G v) (kk : SW G k y Q a b (pc + 3) L (v :: S) h) : SW G k y Q a b pc L (.ref o :: S) h := by
  intro p l e R s m args below meth c QQ C0 H locs ls cells slots B
  obtain ⟨hc, hin, hty, hnm⟩ := hC
  obtain ⟨r, hr, hob⟩ := (B.1.2.2 o h1 hn).1 ci ho
  have hr' : r = (C, T, N) := Option.some.inj (hr.symm.trans hc)
  subst hr'
  have hP : va_P G.1 vwCl [(aw_ad G o, .inr (ci, (List.range N).map (aw_fv G h o ci)))] H := by
    intro k0 q hk
    cases k0 with
    | succ n => simp at hk
    | zero =>
      simp at hk
      subst hk
      exact ⟨_, hc, hob.to (fun j hj => by simp [vp_V, hj])⟩
  have e0 : aw_cV G (.ref o) = .ref (aw_ad G o) := aw_cV_ref (by omega)
  rw [List.map_cons, e0]
  have h2 := kk.go C0 B
  rw [List.map_cons] at h2
  exact va_get (D := G.1) (ci := ci) (C := C) (T := T) (N := N) C0.1 C0.2.1 C0.2.2.2.2.1 hin C0.2.2.2.1 C0.2.2.2.2.2.2.1.1 hP 0 rfl hc f hf (C0.2.2.2.2.1 _ hw) (fun _ h9 => h9) (v := aw_cV G v) (by simp [hf, hv]) hd h2
theorem SW.getI {o ci N f i : Nat} {C : String} {T : u_T} {ty : Nat → FieldType} (hC : aw_Cl ci C T N ty) (ho : aw_kp o = (0, ci)) (h1 : 1 ≤ o) (hn : o ≤ n0) (hf : f < N) (hw : Cond.fieldLink y.1.cls i (T f).1 (T f).2.1 (T f).2.2.1 ∈ aw_TT) (hd : decode y.2.1 pc = .ok (.getfield i, 3)) (hk : aw_fk ci f = 0) (kk : SW G k y Q a b (pc + 3) L (.int (σ o f) :: S) (n0, σ, τ, θ)) : SW G k y Q a b pc L (.ref o :: S) (n0, σ, τ, θ) := by
  refine SW.getV hC ho h1 hn hf hw hd ?_ kk
  unfold aw_fv
  rw [if_pos hk]
  rfl
theorem SW.getL {o ci N f i : Nat} {C : String} {T : u_T} {ty : Nat → FieldType} (hC : aw_Cl ci C T N ty) (ho : aw_kp o = (0, ci)) (h1 : 1 ≤ o) (hn : o ≤ n0) (hf : f < N) (hw : Cond.fieldLink y.1.cls i (T f).1 (T f).2.1 (T f).2.2.1 ∈ aw_TT) (hd : decode y.2.1 pc = .ok (.getfield i, 3)) (hk : aw_fk ci f = 1) (kk : SW G k y Q a b (pc + 3) L (.long (τ o f) :: S) (n0, σ, τ, θ)) : SW G k y Q a b pc L (.ref o :: S) (n0, σ, τ, θ) := by
  refine SW.getV hC ho h1 hn hf hw hd ?_ kk
  unfold aw_fv
  rw [if_neg (by rw [hk]; decide), if_pos hk]
  rfl
theorem SW.getR {o ci N f i : Nat} {C : String} {T : u_T} {ty : Nat → FieldType} (hC : aw_Cl ci C T N ty) (ho : aw_kp o = (0, ci)) (h1 : 1 ≤ o) (hn : o ≤ n0) (hf : f < N) (hw : Cond.fieldLink y.1.cls i (T f).1 (T f).2.1 (T f).2.2.1 ∈ aw_TT) (hd : decode y.2.1 pc = .ok (.getfield i, 3)) (hk : aw_fk ci f = 2) (kk : SW G k y Q a b (pc + 3) L (.ref (θ o f) :: S) (n0, σ, τ, θ)) : SW G k y Q a b pc L (.ref o :: S) (n0, σ, τ, θ) := by
  refine SW.getV hC ho h1 hn hf hw hd ?_ kk
  unfold aw_fv
  rw [if_neg (by rw [hk]; decide), if_neg (by rw [hk]; decide)]
  rfl
theorem SW.putV {o ci N f i : Nat} {C : String} {T : u_T} {ty : Nat → FieldType} {v : Value} {h' : HH} (hC : aw_Cl ci C T N ty) (ho : aw_kp o = (0, ci)) (h1 : 1 ≤ o) (hn : o ≤ h.1) (hf : f < N) (hw : Cond.fieldLink y.1.cls i (T f).1 (T f).2.1 (T f).2.2.1 ∈ aw_TT) (hfin : (T f).2.2.2 = false ∨ ((T f).2.2.2 = true ∧ y.1.name = "<init>" ∧ (T f).1 = y.1.cls)) (hd : decode y.2.1 pc = .ok (.putfield i, 3)) (hnw : narrow (ty f) (aw_cV G v) = aw_cV G v) (hfit : fits (ty f) (aw_cV G v) = true)
    (hz : h'.1 = h.1) (g1 : ∀ o' k, o' ≠ o → h'.2.1 o' k = h.2.1 o' k) (g2 : ∀ o' k, o' ≠ o → h'.2.2.1 o' k = h.2.2.1 o' k) (g3 : ∀ o' k, o' ≠ o → h'.2.2.2 o' k = h.2.2.2 o' k) (hv : ∀ k, k < N → updV (aw_fv G h o ci) f (aw_cV G v) k = aw_fv G h' o ci k) (kk : SW G k y Q a b (pc + 3) L S h') : SW G k y Q a b pc L (v :: .ref o :: S) h := by
  intro p l e R s m args below meth c QQ C0 H locs ls cells slots B
  obtain ⟨hc, hin, hty, hnm⟩ := hC
  have hts := C0.2.2.2.2.1
  have hown := C0.2.2.2.1
  have hlink := hts _ hw
  obtain ⟨r, hr, cell, q1, q2, q3, q4⟩ := (B.1.2.2 o h1 hn).1 ci ho
  have hr' : r = (C, T, N) := Option.some.inj (hr.symm.trans hc)
  subst hr'
  have hK := C0.2.2.2.2.2.2.1.1
  have hap := va_apart (own := y.1.cls) hts hin ty hty hnm hK hc
  obtain ⟨hS, hfc, kC, hkC, hkind⟩ := hK.1 ci _ hc
  obtain ⟨cf, kf, fi, fd, hi, hsl⟩ := hS f hf
  have hlay := hts _ (hin _ (u_in_lay hf))
  unfold u_lay at hlay
  have hst := (u_facts hfc hkC (u_lays hts hin hf) hi).1
  have e0 : aw_cV G (.ref o) = .ref (aw_ad G o) := aw_cV_ref (by omega)
  rw [List.map_cons, List.map_cons, e0]
  have key : ∀ H', H'[aw_ad G o]? = some (cell.setSlot fd.slot (aw_cV G v)) → H'.size = H.size → (∀ q, q ≠ aw_ad G o → H'[q]? = H[q]?) → W p l e R s m args below meth c H' (locs ++ [⟨aw_ad G o, fd.slot⟩]) cells slots QQ (F0 m (pc + 3) ls (S.map (aw_cV G))) := by
    intro H' e1 e2 e3
    rw [hsl] at e1
    refine kk.go C0 ⟨aw_put B.1 ho h1 hc q2 q3 q4 hap hf e1 e2 e3 hz g1 g2 g3 hv, fun q hq => ?_, B.2.2⟩
    rcases List.mem_append.mp hq with h3 | h3
    · exact B.2.1 q h3
    · rw [List.mem_singleton.mp h3]
      show _ ≤ aw_ad G o
      rw [aw_ad_lt (aw_kp_lt ho (by decide))]
      omega
  rcases hfin with hfin | ⟨hfin, hin2, hdecl⟩
  · rw [if_neg (by rw [hfin]; decide)] at hlay
    have h6 := u_store hfc hkC hkind hlay hi (hty f hf) hnw hfit
    exact W.putK C0.1 C0.2.1 (f := fd) ⟨hown, hlink, ⟨_, _, _, hi⟩, hst⟩ (by rw [q2]; exact h6) q1 q3 (by rw [hsl]; exact k2_hasslot (q4 f hf)) rfl rfl hd key
  · rw [if_pos hfin] at hlay
    have hcf : m.cls = cf := by
      obtain ⟨_, _, c', _, _, _, -, -, hf', -, -, -, hown2, -⟩ := Cond.laysFinal_spec hlay
      have e1 : c' = cf := by have := hi.symm.trans hf'; simp at this; exact this.1.symm
      rw [hdecl] at hown2
      rw [← e1]; exact Option.some.inj (hown.symm.trans hown2)
    have h6 := u_fits hfc hkC hkind (Or.inr hlay) hi (hty f hf) hnw hfit
    exact W.putFinK C0.1 C0.2.1 hown hlink hi hst hcf (C0.2.2.2.2.2.1.trans hin2) (by rw [q2]; exact h6) q1 q3 (by rw [hsl]; exact k2_hasslot (q4 f hf)) rfl rfl hd key
theorem aw_fvI {G : GG} {h : HH} {o ci f : Nat} {x : Int32} (hk : aw_fk ci f = 0) (j : Nat) : updV (aw_fv G h o ci) f (.int x) j = aw_fv G (h.1, aw_u h.2.1 o f x, h.2.2) o ci j := by
  unfold updV aw_fv
  by_cases e : j = f
  · subst e
    rw [if_pos rfl, if_pos hk]
    show Value.int x = .int (aw_u h.2.1 o j x o j)
    rw [aw_u_eq]
  · rw [if_neg e]
    show _ = if aw_fk ci j = 0 then Value.int (aw_u h.2.1 o f x o j) else _
    rw [aw_u_nk e]
theorem aw_fvL {G : GG} {h : HH} {o ci f : Nat} {x : Int64} (hk : aw_fk ci f = 1) (j : Nat) : updV (aw_fv G h o ci) f (.long x) j = aw_fv G (h.1, h.2.1, aw_u h.2.2.1 o f x, h.2.2.2) o ci j := by
  unfold updV aw_fv
  by_cases e : j = f
  · subst e
    rw [if_pos rfl, if_neg (by rw [hk]; decide), if_pos hk]
    show Value.long x = .long (aw_u h.2.2.1 o j x o j)
    rw [aw_u_eq]
  · rw [if_neg e]
    show _ = if aw_fk ci j = 0 then _ else if aw_fk ci j = 1 then Value.long (aw_u h.2.2.1 o f x o j) else _
    rw [aw_u_nk e]
theorem aw_fvR {G : GG} {h : HH} {o ci f : Nat} {x : Nat} (hk : aw_fk ci f = 2) (j : Nat) : updV (aw_fv G h o ci) f (aw_rv G x) j = aw_fv G (h.1, h.2.1, h.2.2.1, aw_u h.2.2.2 o f x) o ci j := by
  unfold updV aw_fv
  by_cases e : j = f
  · subst e
    rw [if_pos rfl, if_neg (by rw [hk]; decide), if_neg (by rw [hk]; decide)]
    show aw_rv G x = aw_rv G (aw_u h.2.2.2 o j x o j)
    rw [aw_u_eq]
  · rw [if_neg e]
    show _ = if aw_fk ci j = 0 then _ else if aw_fk ci j = 1 then _ else aw_rv G (aw_u h.2.2.2 o f x o j)
    rw [aw_u_nk e]
theorem SW.putI {o ci N f i : Nat} {C : String} {T : u_T} {ty : Nat → FieldType} {x : Int32} (hC : aw_Cl ci C T N ty) (ho : aw_kp o = (0, ci)) (h1 : 1 ≤ o) (hn : o ≤ n0) (hf : f < N) (hw : Cond.fieldLink y.1.cls i (T f).1 (T f).2.1 (T f).2.2.1 ∈ aw_TT) (hfin : (T f).2.2.2 = false ∨ ((T f).2.2.2 = true ∧ y.1.name = "<init>" ∧ (T f).1 = y.1.cls)) (hd : decode y.2.1 pc = .ok (.putfield i, 3)) (hk : aw_fk ci f = 0) (hnw : narrow (ty f) (.int x) = .int x) (hfit : fits (ty f) (.int x) = true) (kk : SW G k y Q a b (pc + 3) L S (n0, aw_u σ o f x, τ, θ)) : SW G k y Q a b pc L (.int x :: .ref o :: S) (n0, σ, τ, θ) :=
  SW.putV (v := .int x) (h' := (n0, aw_u σ o f x, τ, θ)) hC ho h1 hn hf hw hfin hd hnw hfit rfl (fun _ _ e => aw_u_ne e) (fun _ _ _ => rfl) (fun _ _ _ => rfl) (fun j _ => aw_fvI (h := (n0, σ, τ, θ)) hk j) kk
theorem SW.putL {o ci N f i : Nat} {C : String} {T : u_T} {ty : Nat → FieldType} {x : Int64} (hC : aw_Cl ci C T N ty) (ho : aw_kp o = (0, ci)) (h1 : 1 ≤ o) (hn : o ≤ n0) (hf : f < N) (hw : Cond.fieldLink y.1.cls i (T f).1 (T f).2.1 (T f).2.2.1 ∈ aw_TT) (hfin : (T f).2.2.2 = false ∨ ((T f).2.2.2 = true ∧ y.1.name = "<init>" ∧ (T f).1 = y.1.cls)) (hd : decode y.2.1 pc = .ok (.putfield i, 3)) (hk : aw_fk ci f = 1) (hnw : narrow (ty f) (.long x) = .long x) (hfit : fits (ty f) (.long x) = true) (kk : SW G k y Q a b (pc + 3) L S (n0, σ, aw_u τ o f x, θ)) : SW G k y Q a b pc L (.long x :: .ref o :: S) (n0, σ, τ, θ) :=
  SW.putV (v := .long x) (h' := (n0, σ, aw_u τ o f x, θ)) hC ho h1 hn hf hw hfin hd hnw hfit rfl (fun _ _ _ => rfl) (fun _ _ e => aw_u_ne e) (fun _ _ _ => rfl) (fun j _ => aw_fvL (h := (n0, σ, τ, θ)) hk j) kk
theorem SW.putR {o ci N f i : Nat} {C : String} {T : u_T} {ty : Nat → FieldType} {x : Nat} (hC : aw_Cl ci C T N ty) (ho : aw_kp o = (0, ci)) (h1 : 1 ≤ o) (hn : o ≤ n0) (hf : f < N) (hw : Cond.fieldLink y.1.cls i (T f).1 (T f).2.1 (T f).2.2.1 ∈ aw_TT) (hfin : (T f).2.2.2 = false ∨ ((T f).2.2.2 = true ∧ y.1.name = "<init>" ∧ (T f).1 = y.1.cls)) (hd : decode y.2.1 pc = .ok (.putfield i, 3)) (hk : aw_fk ci f = 2) (hnw : ∀ r, narrow (ty f) (.ref r) = .ref r) (hfit : ∀ r, fits (ty f) (.ref r) = true) (hx : x ≠ 0) (kk : SW G k y Q a b (pc + 3) L S (n0, σ, τ, aw_u θ o f x)) : SW G k y Q a b pc L (.ref x :: .ref o :: S) (n0, σ, τ, θ) :=
  SW.putV (v := .ref x) (h' := (n0, σ, τ, aw_u θ o f x)) hC ho h1 hn hf hw hfin hd (by rw [aw_cV_ref hx]; exact hnw _) (by rw [aw_cV_ref hx]; exact hfit _) rfl (fun _ _ _ => rfl) (fun _ _ _ => rfl) (fun _ _ e => aw_u_ne e) (fun j _ => aw_fvR (h := (n0, σ, τ, θ)) hk j) kk
/-! arrays -/
theorem SW.iald {o n : Nat} {i : Int32} (ho : aw_kp o = (1, n)) (h1 : 1 ≤ o) (hn : o ≤ n0) (hin : vp_in i n) (hd : decode y.2.1 pc = .ok (.iaload, 1)) (kk : SW G k y Q a b (pc + 1) L (.int (σ o i.toNatClampNeg) :: S) (n0, σ, τ, θ)) : SW G k y Q a b pc L (.int i :: .ref o :: S) (n0, σ, τ, θ) := by
  intro p l e R s m args below meth c QQ C H locs ls cells slots B
  have hat := (B.1.2.2 o h1 hn).2.1 n ho
  have hK := C.2.2.2.2.2.2.1.1
  have hlt : i.toNatClampNeg < n := Nat.not_le.mp fun q => hin (Or.inr q)
  rw [List.map_cons, List.map_cons, aw_cV_ref (show o ≠ 0 by omega)]
  exact W.iald (v := .int (σ o i.toNatClampNeg)) C.1 C.2.1 hat ((hK.2 0 _ rfl).1 n _) (fun q => by cases q) (by rw [arrV_size]; exact hin) (by rw [arrV_read _ _ hlt]) rfl rfl hd (kk.go C B)
theorem SW.bald {o n : Nat} {i : Int32} (ho : aw_kp o = (3, n)) (h1 : 1 ≤ o) (hn : o ≤ n0) (hin : vp_in i n) (hd : decode y.2.1 pc = .ok (.baload, 1)) (kk : SW G k y Q a b (pc + 1) L (.int (σ o i.toNatClampNeg) :: S) (n0, σ, τ, θ)) : SW G k y Q a b pc L (.int i :: .ref o :: S) (n0, σ, τ, θ) := by
  intro p l e R s m args below meth c QQ C H locs ls cells slots B
  have hat := (B.1.2.2 o h1 hn).2.2.2.1 n ho
  have hK := C.2.2.2.2.2.2.1.1
  have hlt : i.toNatClampNeg < n := Nat.not_le.mp fun q => hin (Or.inr q)
  rw [List.map_cons, List.map_cons, aw_cV_ref (show o ≠ 0 by omega)]
  exact W.bald (v := .int (σ o i.toNatClampNeg)) C.1 C.2.1 hat ((hK.2 2 _ rfl).1 n _) (fun q => by cases q) (by rw [arrV_size]; exact hin) (by rw [arrV_read _ _ hlt]) rfl rfl hd (kk.go C B)
theorem SW.lald {o n : Nat} {i : Int32} (ho : aw_kp o = (2, n)) (h1 : 1 ≤ o) (hn : o ≤ n0) (hin : vp_in i n) (hd : decode y.2.1 pc = .ok (.laload, 1)) (kk : SW G k y Q a b (pc + 1) L (.long (τ o i.toNatClampNeg) :: S) (n0, σ, τ, θ)) : SW G k y Q a b pc L (.int i :: .ref o :: S) (n0, σ, τ, θ) := by
  intro p l e R s m args below meth c QQ C H locs ls cells slots B
  have hat := (B.1.2.2 o h1 hn).2.2.1 n ho
  have hK := C.2.2.2.2.2.2.1.1
  have hlt : i.toNatClampNeg < n := Nat.not_le.mp fun q => hin (Or.inr q)
  rw [List.map_cons, List.map_cons, aw_cV_ref (show o ≠ 0 by omega)]
  exact W.lald (v := .long (τ o i.toNatClampNeg)) C.1 C.2.1 hat ((hK.2 1 _ rfl).1 n _) (fun q => by cases q) (by rw [arrV_size]; exact hin) (by rw [arrV_read _ _ hlt]) rfl rfl hd (kk.go C B)
theorem SW.aald {o n : Nat} {i : Int32} (ho : aw_kp o = (4, n)) (h1 : 1 ≤ o) (hn : o ≤ n0) (hin : vp_in i n) (hd : decode y.2.1 pc = .ok (.aaload, 1)) (kk : SW G k y Q a b (pc + 1) L (.ref (θ o i.toNatClampNeg) :: S) (n0, σ, τ, θ)) : SW G k y Q a b pc L (.int i :: .ref o :: S) (n0, σ, τ, θ) := by
  intro p l e R s m args below meth c QQ C H locs ls cells slots B
  have hat := (B.1.2.2 o h1 hn).2.2.2.2 n ho
  have hK := C.2.2.2.2.2.2.1.1
  have hlt : i.toNatClampNeg < n := Nat.not_le.mp fun q => hin (Or.inr q)
  rw [List.map_cons, List.map_cons, aw_cV_ref (show o ≠ 0 by omega)]
  exact W.aald (v := aw_rv G (θ o i.toNatClampNeg)) (ty := .object RX2) C.1 C.2.1 hat ((hK.2 3 _ rfl).1 n _) rfl (fun q => by cases q) (by rw [arrV_size]; exact hin) (by rw [arrV_read _ _ hlt]) rfl rfl hd (kk.go C B)
theorem aw_locs {G : GG} {locs : List Loc} {o j : Nat} (hl : ∀ q ∈ locs, G.2.2.1.size ≤ q.base) (ho : o < 1000) : ∀ q ∈ locs ++ [⟨aw_ad G o, j⟩], G.2.2.1.size ≤ q.base := by
  intro q hq
  rcases List.mem_append.mp hq with h3 | h3
  · exact hl q h3
  · rw [List.mem_singleton.mp h3]
    show _ ≤ aw_ad G o
    rw [aw_ad_lt ho]
    omega
theorem SW.iast {o n : Nat} {i x : Int32} (ho : aw_kp o = (1, n)) (h1 : 1 ≤ o) (hn : o ≤ n0) (hin : vp_in i n) (hd : decode y.2.1 pc = .ok (.iastore, 1)) (kk : SW G k y Q a b (pc + 1) L S (n0, aw_u σ o i.toNatClampNeg x, τ, θ)) : SW G k y Q a b pc L (.int x :: .int i :: .ref o :: S) (n0, σ, τ, θ) := by
  intro p l e R s m args below meth c QQ C H locs ls cells slots B
  have hat := (B.1.2.2 o h1 hn).2.1 n ho
  have hK := C.2.2.2.2.2.2.1.1
  have hlo := aw_kp_lt ho (by decide)
  rw [List.map_cons, List.map_cons, List.map_cons, aw_cV_ref (show o ≠ 0 by omega)]
  refine W.iast C.1 C.2.1 hat ((hK.2 0 _ rfl).1 n _) (fun q => by cases q) (by rw [arrV_size]; exact hin) rfl rfl hd fun H1 e1 z oq => ?_
  refine kk.go C ⟨B.1.set h1 hlo rfl z oq (fun _ _ e => aw_u_ne e) (fun _ _ _ => rfl) (fun _ _ _ => rfl) ⟨fun n' e => ?_, fun n' e => ?_, fun n' e => ?_, fun n' e => ?_, fun n' e => ?_⟩, aw_locs B.2.1 hlo, B.2.2⟩
  · rw [ho] at e; cases e
  · rw [ho] at e; cases e
    rw [e1, arrV_store]
    congr 2
    funext q
    show updV _ _ _ q = Value.int (aw_u σ o i.toNatClampNeg x o q)
    by_cases hq : q = i.toNatClampNeg
    · subst hq
      rw [aw_u_eq]
      exact if_pos rfl
    · rw [aw_u_nk hq]
      exact if_neg hq
  all_goals (rw [ho] at e; cases e)
theorem SW.last {o n : Nat} {i : Int32} {x : Int64} (ho : aw_kp o = (2, n)) (h1 : 1 ≤ o) (hn : o ≤ n0) (hin : vp_in i n) (hd : decode y.2.1 pc = .ok (.lastore, 1)) (kk : SW G k y Q a b (pc + 1) L S (n0, σ, aw_u τ o i.toNatClampNeg x, θ)) : SW G k y Q a b pc L (.long x :: .int i :: .ref o :: S) (n0, σ, τ, θ) := by
  intro p l e R s m args below meth c QQ C H locs ls cells slots B
  have hat := (B.1.2.2 o h1 hn).2.2.1 n ho
  have hK := C.2.2.2.2.2.2.1.1
  have hlo := aw_kp_lt ho (by decide)
  rw [List.map_cons, List.map_cons, List.map_cons, aw_cV_ref (show o ≠ 0 by omega)]
  refine W.last C.1 C.2.1 hat ((hK.2 1 _ rfl).1 n _) (fun q => by cases q) (by rw [arrV_size]; exact hin) rfl rfl hd fun H1 e1 z oq => ?_
  refine kk.go C ⟨B.1.set h1 hlo rfl z oq (fun _ _ _ => rfl) (fun _ _ e => aw_u_ne e) (fun _ _ _ => rfl) ⟨fun n' e => ?_, fun n' e => ?_, fun n' e => ?_, fun n' e => ?_, fun n' e => ?_⟩, aw_locs B.2.1 hlo, B.2.2⟩
  · rw [ho] at e; cases e
  · rw [ho] at e; cases e
  · rw [ho] at e; cases e
    rw [e1, arrV_store]
    congr 2
    funext q
    show updV _ _ _ q = Value.long (aw_u τ o i.toNatClampNeg x o q)
    by_cases hq : q = i.toNatClampNeg
    · subst hq
      rw [aw_u_eq]
      exact if_pos rfl
    · rw [aw_u_nk hq]
      exact if_neg hq
  all_goals (rw [ho] at e; cases e)
theorem SW.bast {o n : Nat} {i x : Int32} (ho : aw_kp o = (3, n)) (h1 : 1 ≤ o) (hn : o ≤ n0) (hin : vp_in i n) (hd : decode y.2.1 pc = .ok (.bastore, 1)) (kk : SW G k y Q a b (pc + 1) L S (n0, aw_u σ o i.toNatClampNeg x.toInt8.toInt32, τ, θ)) : SW G k y Q a b pc L (.int x :: .int i :: .ref o :: S) (n0, σ, τ, θ) := by
  intro p l e R s m args below meth c QQ C H locs ls cells slots B
  have hat := (B.1.2.2 o h1 hn).2.2.2.1 n ho
  have hK := C.2.2.2.2.2.2.1.1
  have hlo := aw_kp_lt ho (by decide)
  rw [List.map_cons, List.map_cons, List.map_cons, aw_cV_ref (show o ≠ 0 by omega)]
  refine W.bast C.1 C.2.1 hat ((hK.2 2 _ rfl).1 n _) (fun q => by cases q) (by rw [arrV_size]; exact hin) rfl rfl hd fun H1 e1 z oq => ?_
  refine kk.go C ⟨B.1.set h1 hlo rfl z oq (fun _ _ e => aw_u_ne e) (fun _ _ _ => rfl) (fun _ _ _ => rfl) ⟨fun n' e => ?_, fun n' e => ?_, fun n' e => ?_, fun n' e => ?_, fun n' e => ?_⟩, aw_locs B.2.1 hlo, B.2.2⟩
  · rw [ho] at e; cases e
  · rw [ho] at e; cases e
  · rw [ho] at e; cases e
  · rw [ho] at e; cases e
    rw [e1, arrV_store]
    congr 2
    funext q
    show updV _ _ _ q = Value.int (aw_u σ o i.toNatClampNeg x.toInt8.toInt32 o q)
    by_cases hq : q = i.toNatClampNeg
    · subst hq
      rw [aw_u_eq]
      exact if_pos rfl
    · rw [aw_u_nk hq]
      exact if_neg hq
  all_goals (rw [ho] at e; cases e)
theorem SW.alen {o t n : Nat} (ho : aw_kp o = (t, n)) (ht : t = 1 ∨ t = 2 ∨ t = 3) (h1 : 1 ≤ o) (hn : o ≤ n0) (hd : decode y.2.1 pc = .ok (.arraylength, 1)) (kk : SW G k y Q a b (pc + 1) L (.int (Int32.ofNat n) :: S) (n0, σ, τ, θ)) : SW G k y Q a b pc L (.ref o :: S) (n0, σ, τ, θ) := by
  intro p l e R s m args below meth c QQ C H locs ls cells slots B
  have hat := B.1.2.2 o h1 hn
  have hK := C.2.2.2.2.2.2.1.1
  rw [List.map_cons, aw_cV_ref (show o ≠ 0 by omega)]
  rcases ht with rfl | rfl | rfl
  · exact W.alen (n := Int32.ofNat n) C.1 C.2.1 (hat.2.1 n ho) ((hK.2 0 _ rfl).1 n _) (by rw [arrV_size] <;> rfl) rfl rfl hd (kk.go C B)
  · exact W.alen (n := Int32.ofNat n) C.1 C.2.1 (hat.2.2.1 n ho) ((hK.2 1 _ rfl).1 n _) (by rw [arrV_size] <;> rfl) rfl rfl hd (kk.go C B)
  · exact W.alen (n := Int32.ofNat n) C.1 C.2.1 (hat.2.2.2.1 n ho) ((hK.2 2 _ rfl).1 n _) (by rw [arrV_size] <;> rfl) rfl rfl hd (kk.go C B)
end AwHeap
