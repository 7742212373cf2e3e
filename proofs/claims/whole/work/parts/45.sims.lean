/-! the calls as the walk of the law asks for them; the beginning -/
theorem sim_lay : Sim_lay Rel := by
  intro k S M n r w tk tj wf bs la p9 ct pc x y hR hk hD hM
  obtain ⟨mu, on, jm, h⟩ := rel_O hR hD
  obtain ⟨_, _, _, _, _, _, hw, hq, _, _, _, _, hwf, hf, _⟩ := hD
  obtain ⟨_, _, hvl, hvb, hbs, hla, hp9, hr9, _, hct, hct3, hpc, hep⟩ := hM
  exact c_lay h hk hw hq x y
theorem sim_write : Sim_write Rel := by
  intro k S M n r w tk tj wf bs la p9 ct pc x y z u hR hk hD hM
  obtain ⟨mu, on, jm, h⟩ := rel_O hR hD
  obtain ⟨_, _, _, _, _, _, hw, hq, _, _, _, _, hwf, hf, _⟩ := hD
  obtain ⟨_, _, hvl, hvb, hbs, hla, hp9, hr9, _, hct, hct3, hpc, hep⟩ := hM
  exact c_write h  x y z u
theorem sim_read : Sim_read Rel := by
  intro k S M n r w tk tj wf bs la p9 ct pc x y hR hk hD hM
  obtain ⟨mu, on, jm, h⟩ := rel_O hR hD
  obtain ⟨_, _, _, _, _, _, hw, hq, _, _, _, _, hwf, hf, _⟩ := hD
  obtain ⟨_, _, hvl, hvb, hbs, hla, hp9, hr9, _, hct, hct3, hpc, hep⟩ := hM
  exact c_read h  x y
theorem sim_commit : Sim_commit Rel := by
  intro k S M n r w tk tj wf bs la p9 ct pc x B hR hk hD hM
  obtain ⟨mu, on, jm, h⟩ := rel_O hR hD
  obtain ⟨_, _, _, _, _, _, hw, hq, _, _, _, _, hwf, hf, _⟩ := hD
  obtain ⟨_, _, hvl, hvb, hbs, hla, hp9, hr9, _, hct, hct3, hpc, hep⟩ := hM
  exact c_commit h hk hw hq hvl hla hvb hbs hp9 hr9 x B
theorem sim_forget : Sim_forget Rel := by
  intro k S M n r w tk tj wf bs la p9 ct pc  hR hk hD hM
  obtain ⟨mu, on, jm, h⟩ := rel_O hR hD
  obtain ⟨_, _, _, _, _, _, hw, hq, _, _, _, _, hwf, hf, _⟩ := hD
  obtain ⟨_, _, hvl, hvb, hbs, hla, hp9, hr9, _, hct, hct3, hpc, hep⟩ := hM
  exact c_forget h  
theorem sim_lose : Sim_lose Rel := by
  intro k S M n r w tk tj wf bs la p9 ct pc x hR hk hD hM
  obtain ⟨mu, on, jm, h⟩ := rel_O hR hD
  obtain ⟨_, _, _, _, _, _, hw, hq, _, _, _, _, hwf, hf, _⟩ := hD
  obtain ⟨_, _, hvl, hvb, hbs, hla, hp9, hr9, _, hct, hct3, hpc, hep⟩ := hM
  exact c_lose h  x
theorem sim_replace : Sim_replace Rel := by
  intro k S M n r w tk tj wf bs la p9 ct pc x hR hk hD hM
  obtain ⟨mu, on, jm, h⟩ := rel_O hR hD
  obtain ⟨_, _, _, _, _, _, hw, hq, _, _, _, _, hwf, hf, _⟩ := hD
  obtain ⟨_, _, hvl, hvb, hbs, hla, hp9, hr9, _, hct, hct3, hpc, hep⟩ := hM
  exact c_replace h hk hw hq hvl hla hvb hbs hp9 hr9 x
theorem sim_rot : Sim_rot Rel := by
  intro k S M n r w tk tj wf bs la p9 ct pc x y hR hk hD hM
  obtain ⟨mu, on, jm, h⟩ := rel_O hR hD
  obtain ⟨_, _, _, _, _, _, hw, hq, _, _, _, _, hwf, hf, _⟩ := hD
  obtain ⟨_, _, hvl, hvb, hbs, hla, hp9, hr9, _, hct, hct3, hpc, hep⟩ := hM
  exact c_rot h  x y
theorem sim_fill : Sim_fill Rel := by
  intro k S M n r w tk tj wf bs la p9 ct pc x y B hR hk hD hM
  obtain ⟨mu, on, jm, h⟩ := rel_O hR hD
  obtain ⟨_, _, _, _, _, _, hw, hq, _, _, _, _, hwf, hf, _⟩ := hD
  obtain ⟨_, _, hvl, hvb, hbs, hla, hp9, hr9, _, hct, hct3, hpc, hep⟩ := hM
  exact c_fill h hk hw hq hvl hla hvb hbs hp9 hr9 x y B
theorem sim_scrub : Sim_scrub Rel := by
  intro k S M n r w tk tj wf bs la p9 ct pc x y B hR hk hD hM
  obtain ⟨mu, on, jm, h⟩ := rel_O hR hD
  obtain ⟨_, _, _, _, _, _, hw, hq, _, _, _, _, hwf, hf, _⟩ := hD
  obtain ⟨_, _, hvl, hvb, hbs, hla, hp9, hr9, _, hct, hct3, hpc, hep⟩ := hM
  exact c_scrub h  x y B
theorem sim_mount : Sim_mount Rel := by
  intro k S M n r w tk tj wf bs la p9 ct pc x B hR hk hD hM
  obtain ⟨mu, on, jm, h⟩ := rel_O hR hD
  obtain ⟨_, _, _, _, _, _, hw, hq, _, _, _, _, hwf, hf, _⟩ := hD
  obtain ⟨_, _, hvl, hvb, hbs, hla, hp9, hr9, _, hct, hct3, hpc, hep⟩ := hM
  exact c_mount h hk hwf hf hvl hla hct hct3 hpc hep x B
theorem sim_fail : Sim_fail Rel := by
  intro k S M n r w tk tj wf bs la p9 ct pc  hR hk hD hM
  obtain ⟨mu, on, jm, h⟩ := rel_O hR hD
  obtain ⟨_, _, _, _, _, _, hw, hq, _, _, _, _, hwf, hf, _⟩ := hD
  obtain ⟨_, _, hvl, hvb, hbs, hla, hp9, hr9, _, hct, hct3, hpc, hep⟩ := hM
  exact c_fail h  
theorem sim_check : Sim_check Rel := by
  intro k S M n r w tk tj wf bs la p9 ct pc  hR hk hD hM
  obtain ⟨mu, on, jm, h⟩ := rel_O hR hD
  obtain ⟨_, _, _, _, _, _, hw, hq, _, _, _, _, hwf, hf, _⟩ := hD
  obtain ⟨_, _, hvl, hvb, hbs, hla, hp9, hr9, _, hct, hct3, hpc, hep⟩ := hM
  exact c_check h  
theorem sim_gone : Sim_gone Rel := by
  intro k S M n r w tk tj wf bs la p9 ct pc x hR hk hD hM
  obtain ⟨mu, on, jm, h⟩ := rel_O hR hD
  obtain ⟨_, _, _, _, _, _, hw, hq, _, _, _, _, hwf, hf, _⟩ := hD
  obtain ⟨_, _, hvl, hvb, hbs, hla, hp9, hr9, _, hct, hct3, hpc, hep⟩ := hM
  exact c_gone h  x
theorem sim_status : Sim_status Rel := by
  intro k S M n r w tk tj wf bs la p9 ct pc x hR hk hD hM
  obtain ⟨mu, on, jm, h⟩ := rel_O hR hD
  obtain ⟨_, _, _, _, _, _, hw, hq, _, _, _, _, hwf, hf, _⟩ := hD
  obtain ⟨_, _, hvl, hvb, hbs, hla, hp9, hr9, _, hct, hct3, hpc, hep⟩ := hM
  exact c_status h  x
theorem sim_count : Sim_count Rel := by
  intro k S M n r w tk tj wf bs la p9 ct pc x hR hk hD hM
  obtain ⟨mu, on, jm, h⟩ := rel_O hR hD
  obtain ⟨_, _, _, _, _, _, hw, hq, _, _, _, _, hwf, hf, _⟩ := hD
  obtain ⟨_, _, hvl, hvb, hbs, hla, hp9, hr9, _, hct, hct3, hpc, hep⟩ := hM
  exact c_count h  x
theorem rel_0 : Rel 0 S0 M0 := by
  have g0 : GI ((0, 0, (fun _ => 0), (fun _ => 0), (fun _ => 0)) : GG) 0 := ⟨rfl, by omega, sb_fit0, fun j hj => absurd hj (by omega), fun j hj => absurd hj (by omega)⟩
  have e : M0 = ((0, 4, 12, 0, (0 + 1), (0 + 1), (fill0 (fun _ => 0) (vp_nar .byte 0) 13056), (fill0 (fun _ => 0) (vp_nar .byte 0) 13056), (fill0 (fun _ => 0) 0 204), (fill0 (fun _ => 0) 0 8), (fill0 (fun _ => 0) 12 8), (fun _ => 0), (fill0 (fun _ => 0) 0 320), (mSp (fill0 (fun _ => 0) 0 8) (0 + 1) 1 0 0 0 (mWipes (fun _ => 0) 8) (mWipes (fun _ => 0) 8) ((4 : Int32).toNatClampNeg)).1, (mSp (fill0 (fun _ => 0) 0 8) (0 + 1) 1 0 0 0 (mWipes (fun _ => 0) 8) (mWipes (fun _ => 0) 8) ((4 : Int32).toNatClampNeg)).2.1, (upd (upd (fun _ => 0) 0 0) (0 + 1) (1 - (upd (fun _ => 0) 0 0) 0)), (upd (fun _ => 0) (0 + 1) 0), (mTell (fill0 (fun _ => 0) 12 8) (0 + 1) (fun _ => 0) 8), (fun _ => 0), (fill0 (fun _ => 0) 0 204)) : MT) := by
    unfold M0 m_lay
    rw [if_neg (by decide), if_neg (by decide), if_neg (by decide), if_pos (by decide)]
  rw [e, show (4 : Int32).toNatClampNeg = 4 from by decide]
  exact ⟨4, 12, (fun _ => 12), true, false, 0, 0, lay_RR (k := 0) (n := 4) (r := 12) (c := 0) (w := 1) (P := ((0, 0, 0, (fun _ => 0), (fun _ => 0), (fun _ => 0)) : PP)) (G := ((0, 0, (fun _ => 0), (fun _ => 0), (fun _ => 0)) : GG)) (J := ((0, 0, (fun _ => 0), (fun _ => 0), (fun _ => 0)) : GG)) (L := (((fun _ => 0), (fun _ _ => 0)) : LL)) (by omega) (by omega) (by omega) (by omega) (by omega) (by omega) rfl (Or.inr rfl) (by decide) sb_fit0 g0 (fun b => by rw [fill0_at]; split <;> rfl) g0⟩
