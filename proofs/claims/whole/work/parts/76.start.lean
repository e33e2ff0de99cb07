/-! ===== the start: what stands after the two constructors ===== -/
def cM (θ : TH) : TH := (aw_u (aw_u (aw_u (aw_u (aw_u (aw_u (aw_u (aw_u (aw_u (aw_u (aw_u (aw_u θ 120 1 121) 120 12 122) 120 15 123) 120 16 124) 120 17 125) 120 18 126) 120 19 127) 120 23 128) 120 24 129) 120 25 130) 120 27 131) 120 28 132)
def th0 : TH := cM (cX (fun _ _ => 0))
def sg0 : SG := aw_u (fun _ _ => 0) 120 10 (-1)
theorem sg0_z {o k : Nat} (h : ¬ (o = 120 ∧ k = 10)) : sg0 o k = 0 := aw_ui h
theorem sg0_f {o : Nat} (h : o ≠ 120) : sg0 o = fun _ => 0 := funext fun _ => sg0_z (fun e => h e.1)
theorem th0_WT : aw_WT 133 th0 := ⟨Nat.le_refl _, by decide +kernel, by decide +kernel⟩
theorem nz_0 : nM (fun _ => 0) = 0 ∧ nD (fun _ => 0) = 0 ∧ nU (fun _ => 0) = 0 ∧ nO (fun _ => 0) = 0 ∧ nR (fun _ => 0) = 0 ∧ nT (fun _ => 0) = 0 := by decide
theorem bI_0 {hi : Nat} : bI 0 0 hi := ⟨0, Nat.le_refl _, Nat.zero_le _, rfl⟩
theorem VR_0 : VR (fun _ => 0) := by
  obtain ⟨e1, e2, e3, e4, e5, e6⟩ := nz_0
  unfold VR
  rw [e1, e2, e3, e4, e5, e6]
  refine ⟨⟨rfl, by decide⟩, ⟨rfl, by decide⟩, ⟨rfl, by decide⟩, ⟨rfl, by decide⟩, ⟨rfl, by decide⟩, ⟨rfl, by decide, fun h => absurd h (by decide)⟩, ⟨bI_0, bI_0, bI_0⟩, fun m h => absurd h (by omega), fun m h => absurd h (by omega), fun m h => absurd h (by omega), fun m h => absurd h (by omega), fun m h => absurd h (by omega), fun _ => ⟨rfl, rfl, rfl, rfl, rfl, rfl, rfl, rfl⟩, rfl⟩
theorem VS_0 : VS (fun _ => 0) := ⟨fun _ _ => bI_0, bI_0⟩
theorem AI_0 : AI sg0 := by
  have u0 : uN sg0 = 0 := by unfold uN; rw [sg0_z (by decide)]; rfl
  have c0 : cN sg0 = 0 := by unfold cN; rw [sg0_z (by decide)]; rfl
  have f0 : fN sg0 = 0 := by unfold fN; rw [sg0_z (by decide)]; rfl
  unfold AI HR
  rw [u0, c0, f0, sg0_f (o := 123) (by decide), sg0_f (o := 125) (by decide), sg0_z (o := 120) (k := 20) (by decide), sg0_z (o := 120) (k := 21) (by decide), sg0_z (o := 120) (k := 2) (by decide), sg0_z (o := 120) (k := 14) (by decide)]
  exact ⟨VR_0, VS_0, Or.inl ⟨rfl, nz_0.1⟩, ⟨rfl, by decide⟩, ⟨rfl, by decide⟩, fun i h => absurd h (by omega), fun i h => absurd h (by omega), ⟨rfl, by decide⟩, fun _ => ⟨fun _ _ => rfl, rfl, rfl, rfl⟩⟩
theorem CI_0 : CI sg0 th0 sg0 := by
  have u0 : uN sg0 = 0 := by unfold uN; rw [sg0_z (by decide)]; rfl
  have c0 : cN sg0 = 0 := by unfold cN; rw [sg0_z (by decide)]; rfl
  have f0 : fN sg0 = 0 := by unfold fN; rw [sg0_z (by decide)]; rfl
  have hf : th0 1 7 = 84 := by decide +kernel
  obtain ⟨e1, e2, e3, e4, e5, e6⟩ := nz_0
  refine ⟨?_, ?_, ⟨0, by decide, ?_, ?_, ?_, fun i h => absurd h (by omega), fun i h => absurd h (by omega)⟩, ⟨?_, fun j h => absurd h (by omega)⟩, ?_, ?_, fun h => ?_⟩
  · rw [hf, sg0_f (o := 123) (by decide)]
    unfold FR
    rw [e1, e2, e3, e4, e5]
    refine ⟨⟨?_, ?_, ?_, ?_, ?_, ?_, ?_, ?_, ?_⟩, fun m h => absurd h (by omega), fun m h => absurd h (by omega), fun m h => absurd h (by omega), fun m h => absurd h (by omega), fun m h => absurd h (by omega)⟩
    all_goals exact sg0_z (by decide)
  · rw [sg0_f (o := 125) (by decide)]
    exact ⟨fun m _ => sg0_z (by omega), fun m _ => sg0_z (by omega), sg0_z (by decide)⟩
  · exact sg0_z (by decide)
  · rw [sg0_z (by decide), sg0_z (by decide)]
  · rw [sg0_z (by decide), sg0_z (by decide)]
  · rw [sg0_z (by decide), sg0_z (by decide)]
  · rw [sg0_z (by decide), sg0_z (by decide)]
  · rw [sg0_z (by decide), sg0_z (by decide)]
  · rw [sg0_z (by decide)] at h; exact absurd h (by decide)
theorem BT_of {σ : SG} {θ : TH} {α : SG} (h : CI σ θ α) : BT α := fun j hj => by
  obtain ⟨c, h1, h2, -⟩ := h.2.2.2.1.2 j hj
  exact ⟨c, h1, h2⟩
