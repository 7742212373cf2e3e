set_option maxHeartbeats 4000000 in
set_option maxRecDepth 100000 in
theorem k_G_isEmpty (l : Launch) (dC : Nat → ClassId) (dI : Nat → Nat → Nat) (k5 : Nat → ClassId) (h0 h1 h2 h3 : Nat) (tk rt : Int32) (fb fr fy : Nat → Int32)  : Met l y_G_isEmpty w_G_isEmpty ({ frames := 0, cells := 0, slots := 0, locals := 0 }) (kx_Pc (dC, dI) clA (tyL k5) ([(h0, .inr (0, [.ref h1, .ref h2, .ref h3, .int tk, .int rt])), (h1, .inl ((k5 0), 24, .inl fb)), (h2, .inl ((k5 0), 24, .inl fr)), (h3, .inl ((k5 2), 1536, .inl fy))]) [.ref h0]) (kx_R (some (.int (bI (decide (tk = 0)))))) 0 0 (fun _ => False) := by
  refine Met.ofW (cc := c_G_isEmpty) (maxL := 1) (ret := (some .boolean)) (by decide) rfl ?_
  intro p e s m args below meth c s₁ B hml hv
  obtain ⟨rfl, hP, hK, hD0⟩ := hv
  have hx := B.exec
  have hb := B.bytes
  have hr := B.returns
  have hts : ∀ w ∈ wsA, w.before _ s = true := fun w h => atoms_spec (ws := w_G_isEmpty) B.pre w (List.mem_cons_of_mem _ h)
  have hown : s.vm.findClass R_G = some m.cls := findClass_of_methodNamed B.named
  have hlocks := B.notSynchronized
  have hD := kx_D.self hD0
  have hS : va_S (kx_A ([(h0, .inr (0, [.ref h1, .ref h2, .ref h3, .int tk, .int rt])), (h1, .inl ((k5 0), 24, .inl fb)), (h2, .inl ((k5 0), 24, .inl fr)), (h3, .inl ((k5 2), 1536, .inl fy))])) s.heap s.heap [] := va_S.rf
  have hl := lv_entry ([.ref h0]) (n := 1) (Nat.le_of_ble_eq_true rfl)
  rw [lg_entry_eq]
  generalize (lg_sl ([.ref h0]) ++ List.replicate (1 - (lg_sl ([.ref h0])).length) Slot.unset).toArray = ls at hl ⊢
  have hl : lv_has ls 1 [(0, .ref h0)] := hl
  refine lv_aload_n hx hb d_G_isEmpty_0 rfl (lv_at hl 0 rfl) ?_
  refine va_get (D := (dC, dI)) (ci := 0) (v := .int tk) (C := R_G) (T := T_G) (N := 5) hx hb hts wu_G hown hK hP 0 rfl rfl 3 (by decide) (hts _ wf_G_22) (fun _ h9 => h9) rfl d_G_isEmpty_1 ?_
  refine lv_if_ne (tgt := 11) hx hb d_G_isEmpty_4 (by decide) (fun hc_1 => ?_) (fun hc_1 => ?_)
  · refine lv_iconst (v := 0) hx hb d_G_isEmpty_11 (by decide) ?_
    exact W.zret (v := 0) hx hb hr rfl (fun t ht hW => kx_Ri (by simp [bI, hc_1]) ht) (fun _ h => absurd h List.not_mem_nil) d_G_isEmpty_12
  · refine lv_iconst (v := 1) hx hb d_G_isEmpty_7 (by decide) ?_
    refine lv_goto (tgt := 12) hx hb d_G_isEmpty_8 (by decide) ?_
    exact W.zret (v := 1) hx hb hr rfl (fun t ht hW => kx_Ri (by simp [bI, hc_1]) ht) (fun _ h => absurd h List.not_mem_nil) d_G_isEmpty_12
set_option maxHeartbeats 4000000 in
set_option maxRecDepth 100000 in
theorem k_G_size (l : Launch) (dC : Nat → ClassId) (dI : Nat → Nat → Nat) (k5 : Nat → ClassId) (h0 h1 h2 h3 : Nat) (tk rt : Int32) (fb fr fy : Nat → Int32)  : Met l y_G_size w_G_size ({ frames := 0, cells := 0, slots := 0, locals := 0 }) (kx_Pc (dC, dI) clA (tyL k5) ([(h0, .inr (0, [.ref h1, .ref h2, .ref h3, .int tk, .int rt])), (h1, .inl ((k5 0), 24, .inl fb)), (h2, .inl ((k5 0), 24, .inl fr)), (h3, .inl ((k5 2), 1536, .inl fy))]) [.ref h0]) (kx_R (some (.int tk))) 0 0 (fun _ => False) := by
  refine Met.ofW (cc := c_G_size) (maxL := 1) (ret := (some .int)) (by decide) rfl ?_
  intro p e s m args below meth c s₁ B hml hv
  obtain ⟨rfl, hP, hK, hD0⟩ := hv
  have hx := B.exec
  have hb := B.bytes
  have hr := B.returns
  have hts : ∀ w ∈ wsA, w.before _ s = true := fun w h => atoms_spec (ws := w_G_size) B.pre w (List.mem_cons_of_mem _ h)
  have hown : s.vm.findClass R_G = some m.cls := findClass_of_methodNamed B.named
  have hlocks := B.notSynchronized
  have hD := kx_D.self hD0
  have hS : va_S (kx_A ([(h0, .inr (0, [.ref h1, .ref h2, .ref h3, .int tk, .int rt])), (h1, .inl ((k5 0), 24, .inl fb)), (h2, .inl ((k5 0), 24, .inl fr)), (h3, .inl ((k5 2), 1536, .inl fy))])) s.heap s.heap [] := va_S.rf
  have hl := lv_entry ([.ref h0]) (n := 1) (Nat.le_of_ble_eq_true rfl)
  rw [lg_entry_eq]
  generalize (lg_sl ([.ref h0]) ++ List.replicate (1 - (lg_sl ([.ref h0])).length) Slot.unset).toArray = ls at hl ⊢
  have hl : lv_has ls 1 [(0, .ref h0)] := hl
  refine lv_aload_n hx hb d_G_size_0 rfl (lv_at hl 0 rfl) ?_
  refine va_get (D := (dC, dI)) (ci := 0) (v := .int tk) (C := R_G) (T := T_G) (N := 5) hx hb hts wu_G hown hK hP 0 rfl rfl 3 (by decide) (hts _ wf_G_22) (fun _ h9 => h9) rfl d_G_size_1 ?_
  exact W.iret (v := tk) hx hb hr (fun t ht hW => kx_Ri (rfl) ht) (fun _ h => absurd h List.not_mem_nil) d_G_size_4
set_option maxHeartbeats 4000000 in
set_option maxRecDepth 100000 in
theorem k_G_blockAt (l : Launch) (dC : Nat → ClassId) (dI : Nat → Nat → Nat) (k5 : Nat → ClassId) (h0 h1 h2 h3 : Nat) (tk rt : Int32) (fb fr fy : Nat → Int32) (pl : Int32) (k : Nat) (hk : k < 24) (ek : pl = nI k) : Met l y_G_blockAt w_G_blockAt ({ frames := 0, cells := 0, slots := 0, locals := 0 }) (kx_Pc (dC, dI) clA (tyL k5) ([(h0, .inr (0, [.ref h1, .ref h2, .ref h3, .int tk, .int rt])), (h1, .inl ((k5 0), 24, .inl fb)), (h2, .inl ((k5 0), 24, .inl fr)), (h3, .inl ((k5 2), 1536, .inl fy))]) [.ref h0, .int pl]) (kx_R (some (.int (fb k)))) 0 0 (fun _ => False) := by
  refine Met.ofW (cc := c_G_blockAt) (maxL := 2) (ret := (some .int)) (by decide) rfl ?_
  intro p e s m args below meth c s₁ B hml hv
  obtain ⟨rfl, hP, hK, hD0⟩ := hv
  have hx := B.exec
  have hb := B.bytes
  have hr := B.returns
  have hts : ∀ w ∈ wsA, w.before _ s = true := fun w h => atoms_spec (ws := w_G_blockAt) B.pre w (List.mem_cons_of_mem _ h)
  have hown : s.vm.findClass R_G = some m.cls := findClass_of_methodNamed B.named
  have hlocks := B.notSynchronized
  have hD := kx_D.self hD0
  have hS : va_S (kx_A ([(h0, .inr (0, [.ref h1, .ref h2, .ref h3, .int tk, .int rt])), (h1, .inl ((k5 0), 24, .inl fb)), (h2, .inl ((k5 0), 24, .inl fr)), (h3, .inl ((k5 2), 1536, .inl fy))])) s.heap s.heap [] := va_S.rf
  have hl := lv_entry ([.ref h0, .int pl]) (n := 2) (Nat.le_of_ble_eq_true rfl)
  rw [lg_entry_eq]
  generalize (lg_sl ([.ref h0, .int pl]) ++ List.replicate (2 - (lg_sl ([.ref h0, .int pl])).length) Slot.unset).toArray = ls at hl ⊢
  have hl : lv_has ls 2 [(0, .ref h0), (1, .int pl)] := hl
  refine lv_aload_n hx hb d_G_blockAt_0 rfl (lv_at hl 0 rfl) ?_
  refine va_get (D := (dC, dI)) (ci := 0) (v := .ref h1) (C := R_G) (T := T_G) (N := 5) hx hb hts wu_G hown hK hP 0 rfl rfl 0 (by decide) (hts _ wf_G_9) (fun _ h9 => h9) rfl d_G_blockAt_1 ?_
  refine lv_iload_n hx hb d_G_blockAt_4 rfl (lv_at hl 1 rfl) ?_
  refine kx_iald hx hb hK hP 1 0 rfl rfl k (ek) (by omega) (by decide) d_G_blockAt_5 ?_
  exact W.iret (v := (fb k)) hx hb hr (fun t ht hW => kx_Ri (rfl) ht) (fun _ h => absurd h List.not_mem_nil) d_G_blockAt_6
set_option maxHeartbeats 4000000 in
set_option maxRecDepth 100000 in
theorem k_G_rowAt (l : Launch) (dC : Nat → ClassId) (dI : Nat → Nat → Nat) (k5 : Nat → ClassId) (h0 h1 h2 h3 : Nat) (tk rt : Int32) (fb fr fy : Nat → Int32) (pl : Int32) (k : Nat) (hk : k < 24) (ek : pl = nI k) : Met l y_G_rowAt w_G_rowAt ({ frames := 0, cells := 0, slots := 0, locals := 0 }) (kx_Pc (dC, dI) clA (tyL k5) ([(h0, .inr (0, [.ref h1, .ref h2, .ref h3, .int tk, .int rt])), (h1, .inl ((k5 0), 24, .inl fb)), (h2, .inl ((k5 0), 24, .inl fr)), (h3, .inl ((k5 2), 1536, .inl fy))]) [.ref h0, .int pl]) (kx_R (some (.int (fr k)))) 0 0 (fun _ => False) := by
  refine Met.ofW (cc := c_G_rowAt) (maxL := 2) (ret := (some .int)) (by decide) rfl ?_
  intro p e s m args below meth c s₁ B hml hv
  obtain ⟨rfl, hP, hK, hD0⟩ := hv
  have hx := B.exec
  have hb := B.bytes
  have hr := B.returns
  have hts : ∀ w ∈ wsA, w.before _ s = true := fun w h => atoms_spec (ws := w_G_rowAt) B.pre w (List.mem_cons_of_mem _ h)
  have hown : s.vm.findClass R_G = some m.cls := findClass_of_methodNamed B.named
  have hlocks := B.notSynchronized
  have hD := kx_D.self hD0
  have hS : va_S (kx_A ([(h0, .inr (0, [.ref h1, .ref h2, .ref h3, .int tk, .int rt])), (h1, .inl ((k5 0), 24, .inl fb)), (h2, .inl ((k5 0), 24, .inl fr)), (h3, .inl ((k5 2), 1536, .inl fy))])) s.heap s.heap [] := va_S.rf
  have hl := lv_entry ([.ref h0, .int pl]) (n := 2) (Nat.le_of_ble_eq_true rfl)
  rw [lg_entry_eq]
  generalize (lg_sl ([.ref h0, .int pl]) ++ List.replicate (2 - (lg_sl ([.ref h0, .int pl])).length) Slot.unset).toArray = ls at hl ⊢
  have hl : lv_has ls 2 [(0, .ref h0), (1, .int pl)] := hl
  refine lv_aload_n hx hb d_G_rowAt_0 rfl (lv_at hl 0 rfl) ?_
  refine va_get (D := (dC, dI)) (ci := 0) (v := .ref h2) (C := R_G) (T := T_G) (N := 5) hx hb hts wu_G hown hK hP 0 rfl rfl 1 (by decide) (hts _ wf_G_15) (fun _ h9 => h9) rfl d_G_rowAt_1 ?_
  refine lv_iload_n hx hb d_G_rowAt_4 rfl (lv_at hl 1 rfl) ?_
  refine kx_iald hx hb hK hP 2 0 rfl rfl k (ek) (by omega) (by decide) d_G_rowAt_5 ?_
  exact W.iret (v := (fr k)) hx hb hr (fun t ht hW => kx_Ri (rfl) ht) (fun _ h => absurd h List.not_mem_nil) d_G_rowAt_6
set_option maxHeartbeats 4000000 in
set_option maxRecDepth 100000 in
theorem k_G_byteAt (l : Launch) (dC : Nat → ClassId) (dI : Nat → Nat → Nat) (k5 : Nat → ClassId) (h0 h1 h2 h3 : Nat) (tk rt : Int32) (fb fr fy : Nat → Int32) (pl at0 : Int32) (k : Nat) (hk : k < 1536) (ek : pl * 64 + at0 = nI k) : Met l y_G_byteAt w_G_byteAt ({ frames := 0, cells := 0, slots := 0, locals := 0 }) (kx_Pc (dC, dI) clA (tyL k5) ([(h0, .inr (0, [.ref h1, .ref h2, .ref h3, .int tk, .int rt])), (h1, .inl ((k5 0), 24, .inl fb)), (h2, .inl ((k5 0), 24, .inl fr)), (h3, .inl ((k5 2), 1536, .inl fy))]) [.ref h0, .int pl, .int at0]) (kx_R (some (.int (fy k &&& 255)))) 0 0 (fun _ => False) := by
  refine Met.ofW (cc := c_G_byteAt) (maxL := 3) (ret := (some .int)) (by decide) rfl ?_
  intro p e s m args below meth c s₁ B hml hv
  obtain ⟨rfl, hP, hK, hD0⟩ := hv
  have hx := B.exec
  have hb := B.bytes
  have hr := B.returns
  have hts : ∀ w ∈ wsA, w.before _ s = true := fun w h => atoms_spec (ws := w_G_byteAt) B.pre w (List.mem_cons_of_mem _ h)
  have hown : s.vm.findClass R_G = some m.cls := findClass_of_methodNamed B.named
  have hlocks := B.notSynchronized
  have hD := kx_D.self hD0
  have hS : va_S (kx_A ([(h0, .inr (0, [.ref h1, .ref h2, .ref h3, .int tk, .int rt])), (h1, .inl ((k5 0), 24, .inl fb)), (h2, .inl ((k5 0), 24, .inl fr)), (h3, .inl ((k5 2), 1536, .inl fy))])) s.heap s.heap [] := va_S.rf
  have hl := lv_entry ([.ref h0, .int pl, .int at0]) (n := 3) (Nat.le_of_ble_eq_true rfl)
  rw [lg_entry_eq]
  generalize (lg_sl ([.ref h0, .int pl, .int at0]) ++ List.replicate (3 - (lg_sl ([.ref h0, .int pl, .int at0])).length) Slot.unset).toArray = ls at hl ⊢
  have hl : lv_has ls 3 [(0, .ref h0), (1, .int pl), (2, .int at0)] := hl
  refine lv_aload_n hx hb d_G_byteAt_0 rfl (lv_at hl 0 rfl) ?_
  refine va_get (D := (dC, dI)) (ci := 0) (v := .ref h3) (C := R_G) (T := T_G) (N := 5) hx hb hts wu_G hown hK hP 0 rfl rfl 2 (by decide) (hts _ wf_G_18) (fun _ h9 => h9) rfl d_G_byteAt_1 ?_
  refine lv_iload_n hx hb d_G_byteAt_4 rfl (lv_at hl 1 rfl) ?_
  refine lv_bipush (v := 64) hx hb d_G_byteAt_5 (by decide) ?_
  refine lv_imul hx hb d_G_byteAt_7 ?_
  refine lv_iload_n hx hb d_G_byteAt_8 rfl (lv_at hl 2 rfl) ?_
  refine lv_iadd hx hb d_G_byteAt_9 ?_
  refine kx_bald hx hb hK hP 3 2 rfl rfl k (ek) (by omega) (by decide) d_G_byteAt_10 ?_
  refine lv_sipush (v := 255) hx hb d_G_byteAt_11 (by decide) ?_
  refine lv_iand hx hb d_G_byteAt_14 ?_
  exact W.iret (v := ((fy k) &&& 255)) hx hb hr (fun t ht hW => kx_Ri (rfl) ht) (fun _ h => absurd h List.not_mem_nil) d_G_byteAt_15
set_option maxHeartbeats 4000000 in
set_option maxRecDepth 100000 in
theorem k_G_use (l : Launch) (dC : Nat → ClassId) (dI : Nat → Nat → Nat) (k5 : Nat → ClassId) (h0 h1 h2 h3 : Nat) (tk rt : Int32) (fb fr fy : Nat → Int32)  : Met l y_G_use w_G_use ({ frames := 0, cells := 0, slots := 0, locals := 0 }) (kx_Pc (dC, dI) clA (tyL k5) ([(h0, .inr (0, [.ref h1, .ref h2, .ref h3, .int tk, .int rt])), (h1, .inl ((k5 0), 24, .inl fb)), (h2, .inl ((k5 0), 24, .inl fr)), (h3, .inl ((k5 2), 1536, .inl fy))]) [.ref h0]) (kx_R (some (.int (if tk = 0 then 0 else 1 + tk + 2 * rt)))) 0 0 (fun _ => False) := by
  refine Met.ofW (cc := c_G_use) (maxL := 1) (ret := (some .int)) (by decide) rfl ?_
  intro p e s m args below meth c s₁ B hml hv
  obtain ⟨rfl, hP, hK, hD0⟩ := hv
  have hx := B.exec
  have hb := B.bytes
  have hr := B.returns
  have hts : ∀ w ∈ wsA, w.before _ s = true := fun w h => atoms_spec (ws := w_G_use) B.pre w (List.mem_cons_of_mem _ h)
  have hown : s.vm.findClass R_G = some m.cls := findClass_of_methodNamed B.named
  have hlocks := B.notSynchronized
  have hD := kx_D.self hD0
  have hS : va_S (kx_A ([(h0, .inr (0, [.ref h1, .ref h2, .ref h3, .int tk, .int rt])), (h1, .inl ((k5 0), 24, .inl fb)), (h2, .inl ((k5 0), 24, .inl fr)), (h3, .inl ((k5 2), 1536, .inl fy))])) s.heap s.heap [] := va_S.rf
  have hl := lv_entry ([.ref h0]) (n := 1) (Nat.le_of_ble_eq_true rfl)
  rw [lg_entry_eq]
  generalize (lg_sl ([.ref h0]) ++ List.replicate (1 - (lg_sl ([.ref h0])).length) Slot.unset).toArray = ls at hl ⊢
  have hl : lv_has ls 1 [(0, .ref h0)] := hl
  refine lv_aload_n hx hb d_G_use_0 rfl (lv_at hl 0 rfl) ?_
  refine va_get (D := (dC, dI)) (ci := 0) (v := .int tk) (C := R_G) (T := T_G) (N := 5) hx hb hts wu_G hown hK hP 0 rfl rfl 3 (by decide) (hts _ wf_G_22) (fun _ h9 => h9) rfl d_G_use_1 ?_
  refine lv_if_ne (tgt := 11) hx hb d_G_use_4 (by decide) (fun hc_1 => ?_) (fun hc_1 => ?_)
  · refine lv_iconst (v := 1) hx hb d_G_use_11 (by decide) ?_
    refine lv_aload_n hx hb d_G_use_12 rfl (lv_at hl 0 rfl) ?_
    refine va_get (D := (dC, dI)) (ci := 0) (v := .int tk) (C := R_G) (T := T_G) (N := 5) hx hb hts wu_G hown hK hP 0 rfl rfl 3 (by decide) (hts _ wf_G_22) (fun _ h9 => h9) rfl d_G_use_13 ?_
    refine lv_iadd hx hb d_G_use_16 ?_
    refine lv_iconst (v := 2) hx hb d_G_use_17 (by decide) ?_
    refine lv_aload_n hx hb d_G_use_18 rfl (lv_at hl 0 rfl) ?_
    refine va_get (D := (dC, dI)) (ci := 0) (v := .int rt) (C := R_G) (T := T_G) (N := 5) hx hb hts wu_G hown hK hP 0 rfl rfl 4 (by decide) (hts _ wf_G_26) (fun _ h9 => h9) rfl d_G_use_19 ?_
    refine lv_imul hx hb d_G_use_22 ?_
    refine lv_iadd hx hb d_G_use_23 ?_
    exact W.iret (v := ((1 + tk) + (2 * rt))) hx hb hr (fun t ht hW => kx_Ri (by simp [hc_1]) ht) (fun _ h => absurd h List.not_mem_nil) d_G_use_24
  · refine lv_iconst (v := 0) hx hb d_G_use_7 (by decide) ?_
    refine lv_goto (tgt := 24) hx hb d_G_use_8 (by decide) ?_
    exact W.iret (v := 0) hx hb hr (fun t ht hW => kx_Ri (by simp [hc_1]) ht) (fun _ h => absurd h List.not_mem_nil) d_G_use_24
set_option maxHeartbeats 4000000 in
set_option maxRecDepth 100000 in
theorem k_G_clear (l : Launch) (dC : Nat → ClassId) (dI : Nat → Nat → Nat) (k5 : Nat → ClassId) (h0 h1 h2 h3 : Nat) (tk rt : Int32) (fb fr fy : Nat → Int32)  : Met l y_G_clear w_G_clear ({ frames := 0, cells := 0, slots := 0, locals := 0 }) (kx_Pc (dC, dI) clA (tyL k5) ([(h0, .inr (0, [.ref h1, .ref h2, .ref h3, .int tk, .int rt])), (h1, .inl ((k5 0), 24, .inl fb)), (h2, .inl ((k5 0), 24, .inl fr)), (h3, .inl ((k5 2), 1536, .inl fy))]) [.ref h0]) (kx_Q (dC, dI) clA ([(h0, .inr (0, [.ref h1, .ref h2, .ref h3, .int tk, .int rt])), (h1, .inl ((k5 0), 24, .inl fb)), (h2, .inl ((k5 0), 24, .inl fr)), (h3, .inl ((k5 2), 1536, .inl fy))]) ([(h0, .inr (0, [.ref h1, .ref h2, .ref h3, .int 0, .int 0])), (h1, .inl ((k5 0), 24, .inl fb)), (h2, .inl ((k5 0), 24, .inl fr)), (h3, .inl ((k5 2), 1536, .inl fy))]) none) 0 0 (kx_A ([(h0, .inr (0, [.ref h1, .ref h2, .ref h3, .int tk, .int rt])), (h1, .inl ((k5 0), 24, .inl fb)), (h2, .inl ((k5 0), 24, .inl fr)), (h3, .inl ((k5 2), 1536, .inl fy))])) := by
  refine Met.ofW (cc := c_G_clear) (maxL := 1) (ret := none) (by decide) rfl ?_
  intro p e s m args below meth c s₁ B hml hv
  obtain ⟨rfl, hP, hK, hD0⟩ := hv
  have hx := B.exec
  have hb := B.bytes
  have hr := B.returns
  have hts : ∀ w ∈ wsA, w.before _ s = true := fun w h => atoms_spec (ws := w_G_clear) B.pre w (List.mem_cons_of_mem _ h)
  have hown : s.vm.findClass R_G = some m.cls := findClass_of_methodNamed B.named
  have hlocks := B.notSynchronized
  have hD := kx_D.self hD0
  have hS : va_S (kx_A ([(h0, .inr (0, [.ref h1, .ref h2, .ref h3, .int tk, .int rt])), (h1, .inl ((k5 0), 24, .inl fb)), (h2, .inl ((k5 0), 24, .inl fr)), (h3, .inl ((k5 2), 1536, .inl fy))])) s.heap s.heap [] := va_S.rf
  have hl := lv_entry ([.ref h0]) (n := 1) (Nat.le_of_ble_eq_true rfl)
  rw [lg_entry_eq]
  generalize (lg_sl ([.ref h0]) ++ List.replicate (1 - (lg_sl ([.ref h0])).length) Slot.unset).toArray = ls at hl ⊢
  have hl : lv_has ls 1 [(0, .ref h0)] := hl
  refine lv_aload_n hx hb d_G_clear_0 rfl (lv_at hl 0 rfl) ?_
  refine lv_iconst (v := 0) hx hb d_G_clear_1 (by decide) ?_
  refine kx_put (ws' := [(h0, .inr (0, [.ref h1, .ref h2, .ref h3, .int 0, .int rt])), (h1, .inl ((k5 0), 24, .inl fb)), (h2, .inl ((k5 0), 24, .inl fr)), (h3, .inl ((k5 2), 1536, .inl fy))]) (D := (dC, dI)) (ci := 0) (v := .int 0) (ty := .int) (C := R_G) (T := T_G) (N := 5) hx hb hts wu_G ty_G ok_G nm_G hown hK hP hD hS 0 rfl rfl 3 (by decide) (hts _ wf_G_22) (fun _ h9 => h9) rfl (by decide +kernel) rfl rfl (Nat.le_of_ble_eq_true rfl) rfl d_G_clear_2 (fun H locs hP hD hS => ?_)
  refine lv_aload_n hx hb d_G_clear_5 rfl (lv_at hl 0 rfl) ?_
  refine lv_iconst (v := 0) hx hb d_G_clear_6 (by decide) ?_
  refine kx_put (ws' := [(h0, .inr (0, [.ref h1, .ref h2, .ref h3, .int 0, .int 0])), (h1, .inl ((k5 0), 24, .inl fb)), (h2, .inl ((k5 0), 24, .inl fr)), (h3, .inl ((k5 2), 1536, .inl fy))]) (D := (dC, dI)) (ci := 0) (v := .int 0) (ty := .int) (C := R_G) (T := T_G) (N := 5) hx hb hts wu_G ty_G ok_G nm_G hown hK hP hD hS 0 rfl rfl 4 (by decide) (hts _ wf_G_26) (fun _ h9 => h9) rfl (by decide +kernel) rfl rfl (Nat.le_of_ble_eq_true rfl) rfl d_G_clear_7 (fun H locs hP hD hS => ?_)
  exact W.vret hx hb hr (fun t ht hW => kx_Qv ht hP (rfl) hS rfl) hS.2.2 d_G_clear_10
set_option maxHeartbeats 4000000 in
set_option maxRecDepth 100000 in
theorem k_G_placeOf (l : Launch) (dC : Nat → ClassId) (dI : Nat → Nat → Nat) (k5 : Nat → ClassId) (h0 h1 h2 h3 : Nat) (tk rt : Int32) (fb fr fy : Nat → Int32) (t : Nat) (ht : t ≤ 24) (x : Int32) (etk : tk = nI t) : Met l y_G_placeOf w_G_placeOf ({ frames := 0, cells := 0, slots := 0, locals := 0 }) (kx_Pc (dC, dI) clA (tyL k5) ([(h0, .inr (0, [.ref h1, .ref h2, .ref h3, .int tk, .int rt])), (h1, .inl ((k5 0), 24, .inl fb)), (h2, .inl ((k5 0), 24, .inl fr)), (h3, .inl ((k5 2), 1536, .inl fy))]) [.ref h0, .int x]) (kx_R (some (.int (oI (gFind fb x t))))) 0 0 (fun _ => False) := by
  refine Met.ofW (cc := c_G_placeOf) (maxL := 3) (ret := (some .int)) (by decide) rfl ?_
  intro p e s m args below meth c s₁ B hml hv
  obtain ⟨rfl, hP, hK, hD0⟩ := hv
  have hx := B.exec
  have hb := B.bytes
  have hr := B.returns
  have hts : ∀ w ∈ wsA, w.before _ s = true := fun w h => atoms_spec (ws := w_G_placeOf) B.pre w (List.mem_cons_of_mem _ h)
  have hown : s.vm.findClass R_G = some m.cls := findClass_of_methodNamed B.named
  have hlocks := B.notSynchronized
  have hD := kx_D.self hD0
  have hS : va_S (kx_A ([(h0, .inr (0, [.ref h1, .ref h2, .ref h3, .int tk, .int rt])), (h1, .inl ((k5 0), 24, .inl fb)), (h2, .inl ((k5 0), 24, .inl fr)), (h3, .inl ((k5 2), 1536, .inl fy))])) s.heap s.heap [] := va_S.rf
  have hl := lv_entry ([.ref h0, .int x]) (n := 3) (Nat.le_of_ble_eq_true rfl)
  rw [lg_entry_eq]
  generalize (lg_sl ([.ref h0, .int x]) ++ List.replicate (3 - (lg_sl ([.ref h0, .int x])).length) Slot.unset).toArray = ls at hl ⊢
  have hl : lv_has ls 3 [(0, .ref h0), (1, .int x)] := hl
  refine lv_iconst (v := 0) hx hb d_G_placeOf_0 (by decide) ?_
  refine lv_istore_n (lv' := [(2, .int 0), (0, .ref h0), (1, .int x)]) hx hb d_G_placeOf_1 rfl hl (by decide) rfl (fun ls hl => ?_)
  have lp : ∀ (n i : Nat) (ls : Array Slot), i + n = t → (∀ j, j < i → ¬ fb j = x) → lv_has ls 3 [(2, .int (nI i)), (0, .ref h0), (1, .int x)] → W p l e (headSpec w_G_placeOf ({ frames := 0, cells := 0, slots := 0, locals := 0 })).room s m ([.ref h0, .int x] : List Value).toArray below meth c s.heap [] 0 0 (MQ below (kx_R (some (.int (oI (gFind fb x t))))) ([.ref h0, .int x] : List Value).toArray s 0 0 (fun _ => False)) (F0 m 2 ls []) := by
    intro n
    induction n with
    | zero =>
      intro i ls hi hno hl
      have hi : i = t := by omega
      subst hi
      refine lv_iload_n hx hb d_G_placeOf_2 rfl (lv_at hl 0 rfl) ?_
      refine lv_aload_n hx hb d_G_placeOf_3 rfl (lv_at hl 1 rfl) ?_
      refine va_get (D := (dC, dI)) (ci := 0) (v := .int tk) (C := R_G) (T := T_G) (N := 5) hx hb hts wu_G hown hK hP 0 rfl rfl 3 (by decide) (hts _ wf_G_22) (fun _ h9 => h9) rfl d_G_placeOf_4 ?_
      refine lv_icmp_ge (tgt := 28) hx hb d_G_placeOf_7 (by decide) (fun hc => ?_) (fun hc => ?_)
      · refine lv_iconst (v := (-1)) hx hb d_G_placeOf_28 (by decide) ?_
        exact W.iret (v := (-1)) hx hb hr (fun t ht hW => kx_Ri (by rw [gFind_none hno]; rfl) ht) (fun _ h => absurd h List.not_mem_nil) d_G_placeOf_29
      · exact absurd (by rw [etk]; exact nI_le (Nat.le_refl i) (by omega)) hc
    | succ n ih =>
      intro i ls hi hno hl
      refine lv_iload_n hx hb d_G_placeOf_2 rfl (lv_at hl 0 rfl) ?_
      refine lv_aload_n hx hb d_G_placeOf_3 rfl (lv_at hl 1 rfl) ?_
      refine va_get (D := (dC, dI)) (ci := 0) (v := .int tk) (C := R_G) (T := T_G) (N := 5) hx hb hts wu_G hown hK hP 0 rfl rfl 3 (by decide) (hts _ wf_G_22) (fun _ h9 => h9) rfl d_G_placeOf_4 ?_
      refine lv_icmp_ge (tgt := 28) hx hb d_G_placeOf_7 (by decide) (fun hc => ?_) (fun hc => ?_)
      · exact absurd hc (by rw [etk]; exact nI_ge (by omega) (by omega))
      · refine lv_aload_n hx hb d_G_placeOf_10 rfl (lv_at hl 1 rfl) ?_
        refine va_get (D := (dC, dI)) (ci := 0) (v := .ref h1) (C := R_G) (T := T_G) (N := 5) hx hb hts wu_G hown hK hP 0 rfl rfl 0 (by decide) (hts _ wf_G_9) (fun _ h9 => h9) rfl d_G_placeOf_11 ?_
        refine lv_iload_n hx hb d_G_placeOf_14 rfl (lv_at hl 0 rfl) ?_
        refine kx_iald hx hb hK hP 1 0 rfl rfl i (rfl) (by omega) (by decide) d_G_placeOf_15 ?_
        refine lv_iload_n hx hb d_G_placeOf_16 rfl (lv_at hl 2 rfl) ?_
        refine lv_icmp_ne (tgt := 22) hx hb d_G_placeOf_17 (by decide) (fun hd => ?_) (fun hd => ?_)
        · refine lv_iinc (v := nI (i + 1)) (lv' := [(2, .int (nI (i + 1))), (0, .ref h0), (1, .int x)]) hx hb d_G_placeOf_22 hl (k := 0) rfl (nI_1 i) (by decide) rfl (fun ls hl => ?_)
          refine lv_goto (tgt := 2) hx hb d_G_placeOf_25 (by decide) ?_
          exact ih (i + 1) ls (by omega) (lt_s hno hd) hl
        · refine lv_iload_n hx hb d_G_placeOf_20 rfl (lv_at hl 0 rfl) ?_
          exact W.iret (v := (nI i)) hx hb hr (fun t ht hW => kx_Ri (by rw [gFind_some hd hno (by omega)]; rfl) ht) (fun _ h => absurd h List.not_mem_nil) d_G_placeOf_21
  exact lp t 0 ls (by omega) (fun j hj => absurd hj (by omega)) (lv_sub hl [0, 1, 2] rfl)
set_option maxHeartbeats 4000000 in
set_option maxRecDepth 100000 in
theorem k_G_firstOf (l : Launch) (dC : Nat → ClassId) (dI : Nat → Nat → Nat) (k5 : Nat → ClassId) (h0 h1 h2 h3 : Nat) (tk rt : Int32) (fb fr fy : Nat → Int32) (t : Nat) (ht : t ≤ 24) (x : Int32) (etk : tk = nI t) : Met l y_G_firstOf w_G_firstOf ({ frames := 0, cells := 0, slots := 0, locals := 0 }) (kx_Pc (dC, dI) clA (tyL k5) ([(h0, .inr (0, [.ref h1, .ref h2, .ref h3, .int tk, .int rt])), (h1, .inl ((k5 0), 24, .inl fb)), (h2, .inl ((k5 0), 24, .inl fr)), (h3, .inl ((k5 2), 1536, .inl fy))]) [.ref h0, .int x]) (kx_R (some (.int (oI (gFind fr x t))))) 0 0 (fun _ => False) := by
  refine Met.ofW (cc := c_G_firstOf) (maxL := 3) (ret := (some .int)) (by decide) rfl ?_
  intro p e s m args below meth c s₁ B hml hv
  obtain ⟨rfl, hP, hK, hD0⟩ := hv
  have hx := B.exec
  have hb := B.bytes
  have hr := B.returns
  have hts : ∀ w ∈ wsA, w.before _ s = true := fun w h => atoms_spec (ws := w_G_firstOf) B.pre w (List.mem_cons_of_mem _ h)
  have hown : s.vm.findClass R_G = some m.cls := findClass_of_methodNamed B.named
  have hlocks := B.notSynchronized
  have hD := kx_D.self hD0
  have hS : va_S (kx_A ([(h0, .inr (0, [.ref h1, .ref h2, .ref h3, .int tk, .int rt])), (h1, .inl ((k5 0), 24, .inl fb)), (h2, .inl ((k5 0), 24, .inl fr)), (h3, .inl ((k5 2), 1536, .inl fy))])) s.heap s.heap [] := va_S.rf
  have hl := lv_entry ([.ref h0, .int x]) (n := 3) (Nat.le_of_ble_eq_true rfl)
  rw [lg_entry_eq]
  generalize (lg_sl ([.ref h0, .int x]) ++ List.replicate (3 - (lg_sl ([.ref h0, .int x])).length) Slot.unset).toArray = ls at hl ⊢
  have hl : lv_has ls 3 [(0, .ref h0), (1, .int x)] := hl
  refine lv_iconst (v := 0) hx hb d_G_firstOf_0 (by decide) ?_
  refine lv_istore_n (lv' := [(2, .int 0), (0, .ref h0), (1, .int x)]) hx hb d_G_firstOf_1 rfl hl (by decide) rfl (fun ls hl => ?_)
  have lp : ∀ (n i : Nat) (ls : Array Slot), i + n = t → (∀ j, j < i → ¬ fr j = x) → lv_has ls 3 [(2, .int (nI i)), (0, .ref h0), (1, .int x)] → W p l e (headSpec w_G_firstOf ({ frames := 0, cells := 0, slots := 0, locals := 0 })).room s m ([.ref h0, .int x] : List Value).toArray below meth c s.heap [] 0 0 (MQ below (kx_R (some (.int (oI (gFind fr x t))))) ([.ref h0, .int x] : List Value).toArray s 0 0 (fun _ => False)) (F0 m 2 ls []) := by
    intro n
    induction n with
    | zero =>
      intro i ls hi hno hl
      have hi : i = t := by omega
      subst hi
      refine lv_iload_n hx hb d_G_firstOf_2 rfl (lv_at hl 0 rfl) ?_
      refine lv_aload_n hx hb d_G_firstOf_3 rfl (lv_at hl 1 rfl) ?_
      refine va_get (D := (dC, dI)) (ci := 0) (v := .int tk) (C := R_G) (T := T_G) (N := 5) hx hb hts wu_G hown hK hP 0 rfl rfl 3 (by decide) (hts _ wf_G_22) (fun _ h9 => h9) rfl d_G_firstOf_4 ?_
      refine lv_icmp_ge (tgt := 28) hx hb d_G_firstOf_7 (by decide) (fun hc => ?_) (fun hc => ?_)
      · refine lv_iconst (v := (-1)) hx hb d_G_firstOf_28 (by decide) ?_
        exact W.iret (v := (-1)) hx hb hr (fun t ht hW => kx_Ri (by rw [gFind_none hno]; rfl) ht) (fun _ h => absurd h List.not_mem_nil) d_G_firstOf_29
      · exact absurd (by rw [etk]; exact nI_le (Nat.le_refl i) (by omega)) hc
    | succ n ih =>
      intro i ls hi hno hl
      refine lv_iload_n hx hb d_G_firstOf_2 rfl (lv_at hl 0 rfl) ?_
      refine lv_aload_n hx hb d_G_firstOf_3 rfl (lv_at hl 1 rfl) ?_
      refine va_get (D := (dC, dI)) (ci := 0) (v := .int tk) (C := R_G) (T := T_G) (N := 5) hx hb hts wu_G hown hK hP 0 rfl rfl 3 (by decide) (hts _ wf_G_22) (fun _ h9 => h9) rfl d_G_firstOf_4 ?_
      refine lv_icmp_ge (tgt := 28) hx hb d_G_firstOf_7 (by decide) (fun hc => ?_) (fun hc => ?_)
      · exact absurd hc (by rw [etk]; exact nI_ge (by omega) (by omega))
      · refine lv_aload_n hx hb d_G_firstOf_10 rfl (lv_at hl 1 rfl) ?_
        refine va_get (D := (dC, dI)) (ci := 0) (v := .ref h2) (C := R_G) (T := T_G) (N := 5) hx hb hts wu_G hown hK hP 0 rfl rfl 1 (by decide) (hts _ wf_G_15) (fun _ h9 => h9) rfl d_G_firstOf_11 ?_
        refine lv_iload_n hx hb d_G_firstOf_14 rfl (lv_at hl 0 rfl) ?_
        refine kx_iald hx hb hK hP 2 0 rfl rfl i (rfl) (by omega) (by decide) d_G_firstOf_15 ?_
        refine lv_iload_n hx hb d_G_firstOf_16 rfl (lv_at hl 2 rfl) ?_
        refine lv_icmp_ne (tgt := 22) hx hb d_G_firstOf_17 (by decide) (fun hd => ?_) (fun hd => ?_)
        · refine lv_iinc (v := nI (i + 1)) (lv' := [(2, .int (nI (i + 1))), (0, .ref h0), (1, .int x)]) hx hb d_G_firstOf_22 hl (k := 0) rfl (nI_1 i) (by decide) rfl (fun ls hl => ?_)
          refine lv_goto (tgt := 2) hx hb d_G_firstOf_25 (by decide) ?_
          exact ih (i + 1) ls (by omega) (lt_s hno hd) hl
        · refine lv_iload_n hx hb d_G_firstOf_20 rfl (lv_at hl 0 rfl) ?_
          exact W.iret (v := (nI i)) hx hb hr (fun t ht hW => kx_Ri (by rw [gFind_some hd hno (by omega)]; rfl) ht) (fun _ h => absurd h List.not_mem_nil) d_G_firstOf_21
  exact lp t 0 ls (by omega) (fun j hj => absurd hj (by omega)) (lv_sub hl [0, 1, 2] rfl)
