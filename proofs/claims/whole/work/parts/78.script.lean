/-! ===== the law: its script, a row of the old heap, has the number 1099 ===== -/
def SCR (G : GG) (N : Nat) (xs : Nat → Int32) : Prop := N ≤ 3584 ∧ ∃ scr : Cell, G.2.2.1[G.2.2.2.1 99]? = some scr ∧ scr.slots.size = N ∧ ∀ j : Nat, j < N → scr.slots[j]? = some (.int (xs j))
theorem sc_X {G : GG} {N : Nat} {xs : Nat → Int32} {U : State} (hS : SCR G N xs) (hK : aw_K G U) : va_X (G.2.2.2.1 99) N xs U G.2.2.1 := by
  obtain ⟨-, scr, h1, h4, h5⟩ := hS
  obtain ⟨A0, s0, e1, e2, e3, e4⟩ := hK.2.1.2
  have h := flat_of_before _ e3 (Cond.arrayOf (.arg 0) .int) (by decide +kernel)
  obtain ⟨h2, h3⟩ := Cond.arrayOf_spec (a := G.2.2.2.1 99) (cell := scr) h (by rw [A0.2]; rfl) (by rw [e1]; exact h1)
  exact ⟨scr, h1, State.isArrayOf_alike e4.alike h2, h3, h4, h5⟩
section Sc
variable {G : GG} {k : Nat} {y : MD} {Q : Option Value → HH → Prop} {a b pc : Nat} {L : List (Option Value)} {S : List Value} {h : HH} {N : Nat} {xs : Nat → Int32}
theorem sc_ref : aw_cV G (.ref 1099) = .ref (G.2.2.2.1 99) := by
  rw [aw_cV_ref (by decide)]
  unfold aw_ad
  rw [if_neg (by decide)]
theorem SW.sald {i : Int32} (hS : SCR G N xs) (hin : vp_in i N) (hd : decode y.2.1 pc = .ok (.iaload, 1)) (kk : SW G k y Q a b (pc + 1) L (.int (xs i.toNatClampNeg) :: S) h) : SW G k y Q a b pc L (.int i :: .ref 1099 :: S) h := by
  intro p l e R s m args below meth c QQ C H locs ls cells slots B
  obtain ⟨scr, h1, h2, h3, h4, h5⟩ := sc_X hS C.2.2.2.2.2.2.1
  have hlt : i.toNatClampNeg < N := Nat.not_le.mp fun q => hin (Or.inr q)
  have hat : H[G.2.2.2.1 99]? = some scr := by rw [B.1.2.1 _ (Array.getElem?_eq_some_iff.mp h1).1]; exact h1
  rw [List.map_cons, List.map_cons, sc_ref]
  exact W.iald (v := .int (xs i.toNatClampNeg)) C.1 C.2.1 hat h2 h3 (by rw [h4]; exact hin) (h5 _ hlt) rfl rfl hd (kk.go C B)
theorem SW.salen (hS : SCR G N xs) (hd : decode y.2.1 pc = .ok (.arraylength, 1)) (kk : SW G k y Q a b (pc + 1) L (.int (nI N) :: S) h) : SW G k y Q a b pc L (.ref 1099 :: S) h := by
  intro p l e R s m args below meth c QQ C H locs ls cells slots B
  obtain ⟨scr, h1, h2, h3, h4, h5⟩ := sc_X hS C.2.2.2.2.2.2.1
  have hat : H[G.2.2.2.1 99]? = some scr := by rw [B.1.2.1 _ (Array.getElem?_eq_some_iff.mp h1).1]; exact h1
  rw [List.map_cons, sc_ref]
  exact W.alen (n := nI N) C.1 C.2.1 hat h2 (by rw [h4]; rfl) rfl rfl hd (kk.go C B)
theorem SW.less {a' b' : Nat} (ha : a' ≤ a) (hb : b' ≤ b) (kk : SW G k y Q a' b' pc L S h) : SW G k y Q a b pc L S h := by
  intro p l e R s m args below meth c QQ C H locs ls cells slots B
  exact kk.go C ⟨B.1, B.2.1, B.2.2.1, by have := B.2.2.2.1; omega, by have := B.2.2.2.2; omega⟩
/-- x != 0, as a value -/
theorem SW.bool {x : Int32} (d0 : decode y.2.1 pc = .ok (.ifCond .eq 7, 3)) (d3 : decode y.2.1 (pc + 3) = .ok (.iconst 1, 1)) (d4 : decode y.2.1 (pc + 4) = .ok (.goto 4, 3)) (d7 : decode y.2.1 (pc + 7) = .ok (.iconst 0, 1)) (kk : SW G k y Q a b (pc + 8) L (.int (if x = 0 then 0 else 1) :: S) h) : SW G k y Q a b pc L (.int x :: S) h := by
  refine SW.if_eq (pc + 7) d0 (by omega) (fun hx => ?_) (fun hx => ?_)
  · rw [if_pos hx] at kk
    exact SW.iconst (v := (0 : Int32)) d7 (by decide) kk
  · rw [if_neg hx] at kk
    exact SW.iconst (v := (1 : Int32)) d3 (by decide) (SW.goto (pc + 8) d4 (by omega) kk)
end Sc
/-! what stands at the head of the law's loop -/
def LI (n : Nat) (σ : SG) (θ : TH) (α : SG) : Prop := aw_WT n θ ∧ CI σ θ α ∧ RI σ α ∧ AI α
section Li
variable {n : Nat} {σ σ1 σ2 α β : SG} {θ θ' : TH} {w : Int32}
theorem LI.q (h : LI n σ θ α) (h1 : CS σ σ1 w) (h2 : RS σ1 σ2 w) (hw : w ≠ 4) : LI n σ2 θ (tr_ α w) :=
  ⟨h.1, (h.2.1.q h.2.2.2 h.1.f h1 hw).rc (h.2.2.2.tr w) h.1.f h2.rc, (h.2.2.1.cc h1.cc).of h2, h.2.2.2.tr w⟩
theorem LI.s (h : LI n σ θ α) (h2 : RS σ σ2 (σ 120 11)) : LI n σ2 θ α := by
  refine ⟨h.1, h.2.1.rc h.2.2.2 h.1.f h2.rc, ?_, h.2.2.2⟩
  have h3 := h.2.2.1.of h2
  rw [h.2.2.1.s (k := 11) (by omega), tr_same] at h3
  exact h3
theorem LI.a (h : LI n σ θ α) (hW' : aw_WT n θ') (c1 : CI σ1 θ' β) (h2 : RC σ1 σ2) (r2 : RI σ2 β) (a2 : AI β) : LI n σ2 θ' β := ⟨hW', c1.rc a2 hW'.f h2, r2, a2⟩
theorem LI.e3 (h : LI n σ θ α) (h1 : CS σ σ1 w) : σ1 123 = α 123 := (h.2.2.1.cc h1.cc).f (by omega)
theorem LI.e5 (h : LI n σ θ α) (h1 : CS σ σ1 w) : σ1 125 = α 125 := (h.2.2.1.cc h1.cc).f (by omega)
theorem LI.v1 (h : LI n σ θ α) (h1 : CS σ σ1 w) : VR (σ1 123) := (h.2.2.1.cc h1.cc).vr h.2.2.2
theorem LI.s1 (h : LI n σ θ α) (h1 : CS σ σ1 w) : VS (σ1 125) := (h.2.2.1.cc h1.cc).vs h.2.2.2
theorem LI.h1 (h : LI n σ θ α) (h1 : CS σ σ1 w) : HR σ1 (σ1 123) := (h.2.2.1.cc h1.cc).hr h.2.2.2
end Li
