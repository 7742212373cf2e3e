set_option maxHeartbeats 4000000 in
set_option maxRecDepth 100000 in
theorem k_G_isEmpty (l : Launch) (dC : Nat → ClassId) (dI : Nat → Nat → Nat) (k5 : Nat → ClassId) (h0 h1 h2 h3 : Nat) (tk rt : Int32) (fb fr fy : Nat → Int32)  : Met l y_G_isEmpty w_G_isEmpty ({ frames := 0, cells := 0, slots := 0, locals := 0 }) (kx_Pc (dC, dI) clA (tyL k5) ([(h0, .inr (0, [.ref h1, .ref h2, .ref h3, .int tk, .int rt])), (h1, .inl ((k5 0), 24, .inl fb)), (h2, .inl ((k5 0), 24, .inl fr)), (h3, .inl ((k5 2), 1536, .inl fy))]) [.ref h0]) (kx_R (some (.int (bI (decide (tk = 0)))))) 0 0 (fun _ => False) := by
  refine Met.ofW (cc := c_G_isEmpty) (maxL := 1) (ret := (some .boolean)) (by decide) rfl ?_
  intro p e s m args below meth c s₁ B hml hv
  obtain ⟨rfl, hP, hK, hD0⟩ := hv
  have hx := B.exec
  have hb := B.bytes
  have hr := B.returns
  have hts : ∀ w ∈ wsA, w.before _ s = true := fun w h => atoms_spec (ws := w_G_isEmpty) B.pre w (List.mem_cons_of_mem _ h)
  have hown : s.vm.findClass R_G = some m.cls := findClass_of_methodNamed B.named
  have hlocks := B.notSynchronized
  have hD := kx_D.self hD0
  have hS : va_S (kx_A ([(h0, .inr (0, [.ref h1, .ref h2, .ref h3, .int tk, .int rt])), (h1, .inl ((k5 0), 24, .inl fb)), (h2, .inl ((k5 0), 24, .inl fr)), (h3, .inl ((k5 2), 1536, .inl fy))])) s.heap s.heap [] := va_S.rf
  have hl := lv_entry ([.ref h0]) (n := 1) (Nat.le_of_ble_eq_true rfl)
  rw [lg_entry_eq]
  generalize (lg_sl ([.ref h0]) ++ List.replicate (1 - (lg_sl ([.ref h0])).length) Slot.unset).toArray = ls at hl ⊢
  have hl : lv_has ls 1 [(0, .ref h0)] := hl
  refine lv_aload_n hx hb d_G_isEmpty_0 rfl (lv_at hl 0 rfl) ?_
  refine va_get (D := (dC, dI)) (ci := 0) (v := .int tk) (C := R_G) (T := T_G) (N := 5) hx hb hts wu_G hown hK hP 0 rfl rfl 3 (by decide) (hts _ wf_G_22) (fun _ h9 => h9) rfl d_G_isEmpty_1 ?_
  refine lv_if_ne (tgt := 11) hx hb d_G_isEmpty_4 (by decide) (fun hc_1 => ?_) (fun hc_1 => ?_)
  · refine lv_iconst (v := 0) hx hb d_G_isEmpty_11 (by decide) ?_
    exact W.zret (v := 0) hx hb hr rfl (fun t ht hW => kx_Ri (by simp [bI, hc_1]) ht) (fun _ h => absurd h List.not_mem_nil) d_G_isEmpty_12
  · refine lv_iconst (v := 1) hx hb d_G_isEmpty_7 (by decide) ?_
    refine lv_goto (tgt := 12) hx hb d_G_isEmpty_8 (by decide) ?_
    exact W.zret (v := 1) hx hb hr rfl (fun t ht hW => kx_Ri (by simp [bI, hc_1]) ht) (fun _ h => absurd h List.not_mem_nil) d_G_isEmpty_12
set_option maxHeartbeats 4000000 in
set_option maxRecDepth 100000 in
theorem k_G_size (l : Launch) (dC : Nat → ClassId) (dI : Nat → Nat → Nat) (k5 : Nat → ClassId) (h0 h1 h2 h3 : Nat) (tk rt : Int32) (fb fr fy : Nat → Int32)  : Met l y_G_size w_G_size ({ frames := 0, cells := 0, slots := 0, locals := 0 }) (kx_Pc (dC, dI) clA (tyL k5) ([(h0, .inr (0, [.ref h1, .ref h2, .ref h3, .int tk, .int rt])), (h1, .inl ((k5 0), 24, .inl fb)), (h2, .inl ((k5 0), 24, .inl fr)), (h3, .inl ((k5 2), 1536, .inl fy))]) [.ref h0]) (kx_R (some (.int tk))) 0 0 (fun _ => False) := by
  refine Met.ofW (cc := c_G_size) (maxL := 1) (ret := (some .int)) (by decide) rfl ?_
  intro p e s m args below meth c s₁ B hml hv
  obtain ⟨rfl, hP, hK, hD0⟩ := hv
  have hx := B.exec
  have hb := B.bytes
  have hr := B.returns
  have hts : ∀ w ∈ wsA, w.before _ s = true := fun w h => atoms_spec (ws := w_G_size) B.pre w (List.mem_cons_of_mem _ h)
  have hown : s.vm.findClass R_G = some m.cls := findClass_of_methodNamed B.named
  have hlocks := B.notSynchronized
  have hD := kx_D.self hD0
  have hS : va_S (kx_A ([(h0, .inr (0, [.ref h1, .ref h2, .ref h3, .int tk, .int rt])), (h1, .inl ((k5 0), 24, .inl fb)), (h2, .inl ((k5 0), 24, .inl fr)), (h3, .inl ((k5 2), 1536, .inl fy))])) s.heap s.heap [] := va_S.rf
  have hl := lv_entry ([.ref h0]) (n := 1) (Nat.le_of_ble_eq_true rfl)
  rw [lg_entry_eq]
  generalize (lg_sl ([.ref h0]) ++ List.replicate (1 - (lg_sl ([.ref h0])).length) Slot.unset).toArray = ls at hl ⊢
  have hl : lv_has ls 1 [(0, .ref h0)] := hl
  refine lv_aload_n hx hb d_G_size_0 rfl (lv_at hl 0 rfl) ?_
  refine va_get (D := (dC, dI)) (ci := 0) (v := .int tk) (C := R_G) (T := T_G) (N := 5) hx hb hts wu_G hown hK hP 0 rfl rfl 3 (by decide) (hts _ wf_G_22) (fun _ h9 => h9) rfl d_G_size_1 ?_
  exact W.iret (v := tk) hx hb hr (fun t ht hW => kx_Ri (rfl) ht) (fun _ h => absurd h List.not_mem_nil) d_G_size_4
set_option maxHeartbeats 4000000 in
set_option maxRecDepth 100000 in
theorem k_G_blockAt (l : Launch) (dC : Nat → ClassId) (dI : Nat → Nat → Nat) (k5 : Nat → ClassId) (h0 h1 h2 h3 : Nat) (tk rt : Int32) (fb fr fy : Nat → Int32) (pl : Int32) (k : Nat) (hk : k < 24) (ek : pl = nI k) : Met l y_G_blockAt w_G_blockAt ({ frames := 0, cells := 0, slots := 0, locals := 0 }) (kx_Pc (dC, dI) clA (tyL k5) ([(h0, .inr (0, [.ref h1, .ref h2, .ref h3, .int tk, .int rt])), (h1, .inl ((k5 0), 24, .inl fb)), (h2, .inl ((k5 0), 24, .inl fr)), (h3, .inl ((k5 2), 1536, .inl fy))]) [.ref h0, .int pl]) (kx_R (some (.int (fb k)))) 0 0 (fun _ => False) := by
  refine Met.ofW (cc := c_G_blockAt) (maxL := 2) (ret := (some .int)) (by decide) rfl ?_
  intro p e s m args below meth c s₁ B hml hv
  obtain ⟨rfl, hP, hK, hD0⟩ := hv
  have hx := B.exec
  have hb := B.bytes
  have hr := B.returns
  have hts : ∀ w ∈ wsA, w.before _ s = true := fun w h => atoms_spec (ws := w_G_blockAt) B.pre w (List.mem_cons_of_mem _ h)
  have hown : s.vm.findClass R_G = some m.cls := findClass_of_methodNamed B.named
  have hlocks := B.notSynchronized
  have hD := kx_D.self hD0
  have hS : va_S (kx_A ([(h0, .inr (0, [.ref h1, .ref h2, .ref h3, .int tk, .int rt])), (h1, .inl ((k5 0), 24, .inl fb)), (h2, .inl ((k5 0), 24, .inl fr)), (h3, .inl ((k5 2), 1536, .inl fy))])) s.heap s.heap [] := va_S.rf
  have hl := lv_entry ([.ref h0, .int pl]) (n := 2) (Nat.le_of_ble_eq_true rfl)
  rw [lg_entry_eq]
  generalize (lg_sl ([.ref h0, .int pl]) ++ List.replicate (2 - (lg_sl ([.ref h0, .int pl])).length) Slot.unset).toArray = ls at hl ⊢
  have hl : lv_has ls 2 [(0, .ref h0), (1, .int pl)] := hl
  refine lv_aload_n hx hb d_G_blockAt_0 rfl (lv_at hl 0 rfl) ?_
  refine va_get (D := (dC, dI)) (ci := 0) (v := .ref h1) (C := R_G) (T := T_G) (N := 5) hx hb hts wu_G hown hK hP 0 rfl rfl 0 (by decide) (hts _ wf_G_9) (fun _ h9 => h9) rfl d_G_blockAt_1 ?_
  refine lv_iload_n hx hb d_G_blockAt_4 rfl (lv_at hl 1 rfl) ?_
  refine kx_iald hx hb hK hP 1 0 rfl rfl k (ek) (by omega) (by omega) d_G_blockAt_5 ?_
  exact W.iret (v := (fb k)) hx hb hr (fun t ht hW => kx_Ri (rfl) ht) (fun _ h => absurd h List.not_mem_nil) d_G_blockAt_6
set_option maxHeartbeats 4000000 in
set_option maxRecDepth 100000 in
theorem k_G_rowAt (l : Launch) (dC : Nat → ClassId) (dI : Nat → Nat → Nat) (k5 : Nat → ClassId) (h0 h1 h2 h3 : Nat) (tk rt : Int32) (fb fr fy : Nat → Int32) (pl : Int32) (k : Nat) (hk : k < 24) (ek : pl = nI k) : Met l y_G_rowAt w_G_rowAt ({ frames := 0, cells := 0, slots := 0, locals := 0 }) (kx_Pc (dC, dI) clA (tyL k5) ([(h0, .inr (0, [.ref h1, .ref h2, .ref h3, .int tk, .int rt])), (h1, .inl ((k5 0), 24, .inl fb)), (h2, .inl ((k5 0), 24, .inl fr)), (h3, .inl ((k5 2), 1536, .inl fy))]) [.ref h0, .int pl]) (kx_R (some (.int (fr k)))) 0 0 (fun _ => False) := by
  refine Met.ofW (cc := c_G_rowAt) (maxL := 2) (ret := (some .int)) (by decide) rfl ?_
  intro p e s m args below meth c s₁ B hml hv
  obtain ⟨rfl, hP, hK, hD0⟩ := hv
  have hx := B.exec
  have hb := B.bytes
  have hr := B.returns
  have hts : ∀ w ∈ wsA, w.before _ s = true := fun w h => atoms_spec (ws := w_G_rowAt) B.pre w (List.mem_cons_of_mem _ h)
  have hown : s.vm.findClass R_G = some m.cls := findClass_of_methodNamed B.named
  have hlocks := B.notSynchronized
  have hD := kx_D.self hD0
  have hS : va_S (kx_A ([(h0, .inr (0, [.ref h1, .ref h2, .ref h3, .int tk, .int rt])), (h1, .inl ((k5 0), 24, .inl fb)), (h2, .inl ((k5 0), 24, .inl fr)), (h3, .inl ((k5 2), 1536, .inl fy))])) s.heap s.heap [] := va_S.rf
  have hl := lv_entry ([.ref h0, .int pl]) (n := 2) (Nat.le_of_ble_eq_true rfl)
  rw [lg_entry_eq]
  generalize (lg_sl ([.ref h0, .int pl]) ++ List.replicate (2 - (lg_sl ([.ref h0, .int pl])).length) Slot.unset).toArray = ls at hl ⊢
  have hl : lv_has ls 2 [(0, .ref h0), (1, .int pl)] := hl
  refine lv_aload_n hx hb d_G_rowAt_0 rfl (lv_at hl 0 rfl) ?_
  refine va_get (D := (dC, dI)) (ci := 0) (v := .ref h2) (C := R_G) (T := T_G) (N := 5) hx hb hts wu_G hown hK hP 0 rfl rfl 1 (by decide) (hts _ wf_G_15) (fun _ h9 => h9) rfl d_G_rowAt_1 ?_
  refine lv_iload_n hx hb d_G_rowAt_4 rfl (lv_at hl 1 rfl) ?_
  refine kx_iald hx hb hK hP 2 0 rfl rfl k (ek) (by omega) (by omega) d_G_rowAt_5 ?_
  exact W.iret (v := (fr k)) hx hb hr (fun t ht hW => kx_Ri (rfl) ht) (fun _ h => absurd h List.not_mem_nil) d_G_rowAt_6
set_option maxHeartbeats 4000000 in
set_option maxRecDepth 100000 in
theorem k_G_byteAt (l : Launch) (dC : Nat → ClassId) (dI : Nat → Nat → Nat) (k5 : Nat → ClassId) (h0 h1 h2 h3 : Nat) (tk rt : Int32) (fb fr fy : Nat → Int32) (pl at0 : Int32) (k : Nat) (hk : k < 1536) (ek : pl * 64 + at0 = nI k) : Met l y_G_byteAt w_G_byteAt ({ frames := 0, cells := 0, slots := 0, locals := 0 }) (kx_Pc (dC, dI) clA (tyL k5) ([(h0, .inr (0, [.ref h1, .ref h2, .ref h3, .int tk, .int rt])), (h1, .inl ((k5 0), 24, .inl fb)), (h2, .inl ((k5 0), 24, .inl fr)), (h3, .inl ((k5 2), 1536, .inl fy))]) [.ref h0, .int pl, .int at0]) (kx_R (some (.int (fy k &&& 255)))) 0 0 (fun _ => False) := by
  refine Met.ofW (cc := c_G_byteAt) (maxL := 3) (ret := (some .int)) (by decide) rfl ?_
  intro p e s m args below meth c s₁ B hml hv
  obtain ⟨rfl, hP, hK, hD0⟩ := hv
  have hx := B.exec
  have hb := B.bytes
  have hr := B.returns
  have hts : ∀ w ∈ wsA, w.before _ s = true := fun w h => atoms_spec (ws := w_G_byteAt) B.pre w (List.mem_cons_of_mem _ h)
  have hown : s.vm.findClass R_G = some m.cls := findClass_of_methodNamed B.named
  have hlocks := B.notSynchronized
  have hD := kx_D.self hD0
  have hS : va_S (kx_A ([(h0, .inr (0, [.ref h1, .ref h2, .ref h3, .int tk, .int rt])), (h1, .inl ((k5 0), 24, .inl fb)), (h2, .inl ((k5 0), 24, .inl fr)), (h3, .inl ((k5 2), 1536, .inl fy))])) s.heap s.heap [] := va_S.rf
  have hl := lv_entry ([.ref h0, .int pl, .int at0]) (n := 3) (Nat.le_of_ble_eq_true rfl)
  rw [lg_entry_eq]
  generalize (lg_sl ([.ref h0, .int pl, .int at0]) ++ List.replicate (3 - (lg_sl ([.ref h0, .int pl, .int at0])).length) Slot.unset).toArray = ls at hl ⊢
  have hl : lv_has ls 3 [(0, .ref h0), (1, .int pl), (2, .int at0)] := hl
  refine lv_aload_n hx hb d_G_byteAt_0 rfl (lv_at hl 0 rfl) ?_
  refine va_get (D := (dC, dI)) (ci := 0) (v := .ref h3) (C := R_G) (T := T_G) (N := 5) hx hb hts wu_G hown hK hP 0 rfl rfl 2 (by decide) (hts _ wf_G_18) (fun _ h9 => h9) rfl d_G_byteAt_1 ?_
  refine lv_iload_n hx hb d_G_byteAt_4 rfl (lv_at hl 1 rfl) ?_
  refine lv_bipush (v := 64) hx hb d_G_byteAt_5 (by decide) ?_
  refine lv_imul hx hb d_G_byteAt_7 ?_
  refine lv_iload_n hx hb d_G_byteAt_8 rfl (lv_at hl 2 rfl) ?_
  refine lv_iadd hx hb d_G_byteAt_9 ?_
  refine kx_bald hx hb hK hP 3 2 rfl rfl k (ek) (by omega) (by omega) d_G_byteAt_10 ?_
  refine lv_sipush (v := 255) hx hb d_G_byteAt_11 (by decide) ?_
  refine lv_iand hx hb d_G_byteAt_14 ?_
  exact W.iret (v := ((fy k) &&& 255)) hx hb hr (fun t ht hW => kx_Ri (rfl) ht) (fun _ h => absurd h List.not_mem_nil) d_G_byteAt_15
set_option maxHeartbeats 4000000 in
set_option maxRecDepth 100000 in
theorem k_G_use (l : Launch) (dC : Nat → ClassId) (dI : Nat → Nat → Nat) (k5 : Nat → ClassId) (h0 h1 h2 h3 : Nat) (tk rt : Int32) (fb fr fy : Nat → Int32)  : Met l y_G_use w_G_use ({ frames := 0, cells := 0, slots := 0, locals := 0 }) (kx_Pc (dC, dI) clA (tyL k5) ([(h0, .inr (0, [.ref h1, .ref h2, .ref h3, .int tk, .int rt])), (h1, .inl ((k5 0), 24, .inl fb)), (h2, .inl ((k5 0), 24, .inl fr)), (h3, .inl ((k5 2), 1536, .inl fy))]) [.ref h0]) (kx_R (some (.int (if tk = 0 then 0 else 1 + tk + 2 * rt)))) 0 0 (fun _ => False) := by
  refine Met.ofW (cc := c_G_use) (maxL := 1) (ret := (some .int)) (by decide) rfl ?_
  intro p e s m args below meth c s₁ B hml hv
  obtain ⟨rfl, hP, hK, hD0⟩ := hv
  have hx := B.exec
  have hb := B.bytes
  have hr := B.returns
  have hts : ∀ w ∈ wsA, w.before _ s = true := fun w h => atoms_spec (ws := w_G_use) B.pre w (List.mem_cons_of_mem _ h)
  have hown : s.vm.findClass R_G = some m.cls := findClass_of_methodNamed B.named
  have hlocks := B.notSynchronized
  have hD := kx_D.self hD0
  have hS : va_S (kx_A ([(h0, .inr (0, [.ref h1, .ref h2, .ref h3, .int tk, .int rt])), (h1, .inl ((k5 0), 24, .inl fb)), (h2, .inl ((k5 0), 24, .inl fr)), (h3, .inl ((k5 2), 1536, .inl fy))])) s.heap s.heap [] := va_S.rf
  have hl := lv_entry ([.ref h0]) (n := 1) (Nat.le_of_ble_eq_true rfl)
  rw [lg_entry_eq]
  generalize (lg_sl ([.ref h0]) ++ List.replicate (1 - (lg_sl ([.ref h0])).length) Slot.unset).toArray = ls at hl ⊢
  have hl : lv_has ls 1 [(0, .ref h0)] := hl
  refine lv_aload_n hx hb d_G_use_0 rfl (lv_at hl 0 rfl) ?_
  refine va_get (D := (dC, dI)) (ci := 0) (v := .int tk) (C := R_G) (T := T_G) (N := 5) hx hb hts wu_G hown hK hP 0 rfl rfl 3 (by decide) (hts _ wf_G_22) (fun _ h9 => h9) rfl d_G_use_1 ?_
  refine lv_if_ne (tgt := 11) hx hb d_G_use_4 (by decide) (fun hc_1 => ?_) (fun hc_1 => ?_)
  · refine lv_iconst (v := 1) hx hb d_G_use_11 (by decide) ?_
    refine lv_aload_n hx hb d_G_use_12 rfl (lv_at hl 0 rfl) ?_
    refine va_get (D := (dC, dI)) (ci := 0) (v := .int tk) (C := R_G) (T := T_G) (N := 5) hx hb hts wu_G hown hK hP 0 rfl rfl 3 (by decide) (hts _ wf_G_22) (fun _ h9 => h9) rfl d_G_use_13 ?_
    refine lv_iadd hx hb d_G_use_16 ?_
    refine lv_iconst (v := 2) hx hb d_G_use_17 (by decide) ?_
    refine lv_aload_n hx hb d_G_use_18 rfl (lv_at hl 0 rfl) ?_
    refine va_get (D := (dC, dI)) (ci := 0) (v := .int rt) (C := R_G) (T := T_G) (N := 5) hx hb hts wu_G hown hK hP 0 rfl rfl 4 (by decide) (hts _ wf_G_26) (fun _ h9 => h9) rfl d_G_use_19 ?_
    refine lv_imul hx hb d_G_use_22 ?_
    refine lv_iadd hx hb d_G_use_23 ?_
    exact W.iret (v := ((1 + tk) + (2 * rt))) hx hb hr (fun t ht hW => kx_Ri (by simp [hc_1]) ht) (fun _ h => absurd h List.not_mem_nil) d_G_use_24
  · refine lv_iconst (v := 0) hx hb d_G_use_7 (by decide) ?_
    refine lv_goto (tgt := 24) hx hb d_G_use_8 (by decide) ?_
    exact W.iret (v := 0) hx hb hr (fun t ht hW => kx_Ri (by simp [hc_1]) ht) (fun _ h => absurd h List.not_mem_nil) d_G_use_24
set_option maxHeartbeats 4000000 in
set_option maxRecDepth 100000 in
theorem k_G_clear (l : Launch) (dC : Nat → ClassId) (dI : Nat → Nat → Nat) (k5 : Nat → ClassId) (h0 h1 h2 h3 : Nat) (tk rt : Int32) (fb fr fy : Nat → Int32)  : Met l y_G_clear w_G_clear ({ frames := 0, cells := 0, slots := 0, locals := 0 }) (kx_Pc (dC, dI) clA (tyL k5) ([(h0, .inr (0, [.ref h1, .ref h2, .ref h3, .int tk, .int rt])), (h1, .inl ((k5 0), 24, .inl fb)), (h2, .inl ((k5 0), 24, .inl fr)), (h3, .inl ((k5 2), 1536, .inl fy))]) [.ref h0]) (kx_Q (dC, dI) clA ([(h0, .inr (0, [.ref h1, .ref h2, .ref h3, .int tk, .int rt])), (h1, .inl ((k5 0), 24, .inl fb)), (h2, .inl ((k5 0), 24, .inl fr)), (h3, .inl ((k5 2), 1536, .inl fy))]) ([(h0, .inr (0, [.ref h1, .ref h2, .ref h3, .int 0, .int 0])), (h1, .inl ((k5 0), 24, .inl fb)), (h2, .inl ((k5 0), 24, .inl fr)), (h3, .inl ((k5 2), 1536, .inl fy))]) none) 0 0 (kx_A ([(h0, .inr (0, [.ref h1, .ref h2, .ref h3, .int tk, .int rt])), (h1, .inl ((k5 0), 24, .inl fb)), (h2, .inl ((k5 0), 24, .inl fr)), (h3, .inl ((k5 2), 1536, .inl fy))])) := by
  refine Met.ofW (cc := c_G_clear) (maxL := 1) (ret := none) (by decide) rfl ?_
  intro p e s m args below meth c s₁ B hml hv
  obtain ⟨rfl, hP, hK, hD0⟩ := hv
  have hx := B.exec
  have hb := B.bytes
  have hr := B.returns
  have hts : ∀ w ∈ wsA, w.before _ s = true := fun w h => atoms_spec (ws := w_G_clear) B.pre w (List.mem_cons_of_mem _ h)
  have hown : s.vm.findClass R_G = some m.cls := findClass_of_methodNamed B.named
  have hlocks := B.notSynchronized
  have hD := kx_D.self hD0
  have hS : va_S (kx_A ([(h0, .inr (0, [.ref h1, .ref h2, .ref h3, .int tk, .int rt])), (h1, .inl ((k5 0), 24, .inl fb)), (h2, .inl ((k5 0), 24, .inl fr)), (h3, .inl ((k5 2), 1536, .inl fy))])) s.heap s.heap [] := va_S.rf
  have hl := lv_entry ([.ref h0]) (n := 1) (Nat.le_of_ble_eq_true rfl)
  rw [lg_entry_eq]
  generalize (lg_sl ([.ref h0]) ++ List.replicate (1 - (lg_sl ([.ref h0])).length) Slot.unset).toArray = ls at hl ⊢
  have hl : lv_has ls 1 [(0, .ref h0)] := hl
  refine lv_aload_n hx hb d_G_clear_0 rfl (lv_at hl 0 rfl) ?_
  refine lv_iconst (v := 0) hx hb d_G_clear_1 (by decide) ?_
  refine kx_put (ws' := [(h0, .inr (0, [.ref h1, .ref h2, .ref h3, .int 0, .int rt])), (h1, .inl ((k5 0), 24, .inl fb)), (h2, .inl ((k5 0), 24, .inl fr)), (h3, .inl ((k5 2), 1536, .inl fy))]) (D := (dC, dI)) (ci := 0) (v := .int 0) (ty := .int) (C := R_G) (T := T_G) (N := 5) hx hb hts wu_G ty_G ok_G nm_G hown hK hP hD hS 0 rfl rfl 3 (by decide) (hts _ wf_G_22) (fun _ h9 => h9) rfl (by decide +kernel) rfl rfl (Nat.le_of_ble_eq_true rfl) rfl d_G_clear_2 (fun H locs hP hD hS => ?_)
  refine lv_aload_n hx hb d_G_clear_5 rfl (lv_at hl 0 rfl) ?_
  refine lv_iconst (v := 0) hx hb d_G_clear_6 (by decide) ?_
  refine kx_put (ws' := [(h0, .inr (0, [.ref h1, .ref h2, .ref h3, .int 0, .int 0])), (h1, .inl ((k5 0), 24, .inl fb)), (h2, .inl ((k5 0), 24, .inl fr)), (h3, .inl ((k5 2), 1536, .inl fy))]) (D := (dC, dI)) (ci := 0) (v := .int 0) (ty := .int) (C := R_G) (T := T_G) (N := 5) hx hb hts wu_G ty_G ok_G nm_G hown hK hP hD hS 0 rfl rfl 4 (by decide) (hts _ wf_G_26) (fun _ h9 => h9) rfl (by decide +kernel) rfl rfl (Nat.le_of_ble_eq_true rfl) rfl d_G_clear_7 (fun H locs hP hD hS => ?_)
  exact W.vret hx hb hr (fun t ht hW => kx_Qv ht hP (rfl) hS rfl) hS.2.2 d_G_clear_10
set_option maxHeartbeats 4000000 in
set_option maxRecDepth 100000 in
theorem k_G_placeOf (l : Launch) (dC : Nat → ClassId) (dI : Nat → Nat → Nat) (k5 : Nat → ClassId) (h0 h1 h2 h3 : Nat) (tk rt : Int32) (fb fr fy : Nat → Int32) (t : Nat) (ht : t ≤ 24) (x : Int32) (etk : tk = nI t) : Met l y_G_placeOf w_G_placeOf ({ frames := 0, cells := 0, slots := 0, locals := 0 }) (kx_Pc (dC, dI) clA (tyL k5) ([(h0, .inr (0, [.ref h1, .ref h2, .ref h3, .int tk, .int rt])), (h1, .inl ((k5 0), 24, .inl fb)), (h2, .inl ((k5 0), 24, .inl fr)), (h3, .inl ((k5 2), 1536, .inl fy))]) [.ref h0, .int x]) (kx_R (some (.int (oI (gFind fb x t))))) 0 0 (fun _ => False) := by
  refine Met.ofW (cc := c_G_placeOf) (maxL := 3) (ret := (some .int)) (by decide) rfl ?_
  intro p e s m args below meth c s₁ B hml hv
  obtain ⟨rfl, hP, hK, hD0⟩ := hv
  have hx := B.exec
  have hb := B.bytes
  have hr := B.returns
  have hts : ∀ w ∈ wsA, w.before _ s = true := fun w h => atoms_spec (ws := w_G_placeOf) B.pre w (List.mem_cons_of_mem _ h)
  have hown : s.vm.findClass R_G = some m.cls := findClass_of_methodNamed B.named
  have hlocks := B.notSynchronized
  have hD := kx_D.self hD0
  have hS : va_S (kx_A ([(h0, .inr (0, [.ref h1, .ref h2, .ref h3, .int tk, .int rt])), (h1, .inl ((k5 0), 24, .inl fb)), (h2, .inl ((k5 0), 24, .inl fr)), (h3, .inl ((k5 2), 1536, .inl fy))])) s.heap s.heap [] := va_S.rf
  have hl := lv_entry ([.ref h0, .int x]) (n := 3) (Nat.le_of_ble_eq_true rfl)
  rw [lg_entry_eq]
  generalize (lg_sl ([.ref h0, .int x]) ++ List.replicate (3 - (lg_sl ([.ref h0, .int x])).length) Slot.unset).toArray = ls at hl ⊢
  have hl : lv_has ls 3 [(0, .ref h0), (1, .int x)] := hl
  refine lv_iconst (v := 0) hx hb d_G_placeOf_0 (by decide) ?_
  refine lv_istore_n (lv' := [(2, .int 0), (0, .ref h0), (1, .int x)]) hx hb d_G_placeOf_1 rfl hl (by decide) rfl (fun ls hl => ?_)
  have lp : ∀ (n i : Nat) (ls : Array Slot), i + n = t → (∀ j, j < i → ¬ fb j = x) → lv_has ls 3 [(2, .int (nI i)), (0, .ref h0), (1, .int x)] → W p l e (headSpec w_G_placeOf ({ frames := 0, cells := 0, slots := 0, locals := 0 })).room s m ([.ref h0, .int x] : List Value).toArray below meth c s.heap [] 0 0 (MQ below (kx_R (some (.int (oI (gFind fb x t))))) ([.ref h0, .int x] : List Value).toArray s 0 0 (fun _ => False)) (F0 m 2 ls []) := by
    intro n
    induction n with
    | zero =>
      intro i ls hi hno hl
      have hi : i = t := by omega
      subst hi
      refine lv_iload_n hx hb d_G_placeOf_2 rfl (lv_at hl 0 rfl) ?_
      refine lv_aload_n hx hb d_G_placeOf_3 rfl (lv_at hl 1 rfl) ?_
      refine va_get (D := (dC, dI)) (ci := 0) (v := .int tk) (C := R_G) (T := T_G) (N := 5) hx hb hts wu_G hown hK hP 0 rfl rfl 3 (by decide) (hts _ wf_G_22) (fun _ h9 => h9) rfl d_G_placeOf_4 ?_
      refine lv_icmp_ge (tgt := 28) hx hb d_G_placeOf_7 (by decide) (fun hc => ?_) (fun hc => ?_)
      · refine lv_iconst (v := (-1)) hx hb d_G_placeOf_28 (by decide) ?_
        exact W.iret (v := (-1)) hx hb hr (fun t ht hW => kx_Ri (by rw [gFind_none hno]; rfl) ht) (fun _ h => absurd h List.not_mem_nil) d_G_placeOf_29
      · exact absurd (by rw [etk]; exact nI_le (Nat.le_refl i) (by omega)) hc
    | succ n ih =>
      intro i ls hi hno hl
      refine lv_iload_n hx hb d_G_placeOf_2 rfl (lv_at hl 0 rfl) ?_
      refine lv_aload_n hx hb d_G_placeOf_3 rfl (lv_at hl 1 rfl) ?_
      refine va_get (D := (dC, dI)) (ci := 0) (v := .int tk) (C := R_G) (T := T_G) (N := 5) hx hb hts wu_G hown hK hP 0 rfl rfl 3 (by decide) (hts _ wf_G_22) (fun _ h9 => h9) rfl d_G_placeOf_4 ?_
      refine lv_icmp_ge (tgt := 28) hx hb d_G_placeOf_7 (by decide) (fun hc => ?_) (fun hc => ?_)
      · exact absurd hc (by rw [etk]; exact nI_ge (by omega) (by omega))
      · refine lv_aload_n hx hb d_G_placeOf_10 rfl (lv_at hl 1 rfl) ?_
        refine va_get (D := (dC, dI)) (ci := 0) (v := .ref h1) (C := R_G) (T := T_G) (N := 5) hx hb hts wu_G hown hK hP 0 rfl rfl 0 (by decide) (hts _ wf_G_9) (fun _ h9 => h9) rfl d_G_placeOf_11 ?_
        refine lv_iload_n hx hb d_G_placeOf_14 rfl (lv_at hl 0 rfl) ?_
        refine kx_iald hx hb hK hP 1 0 rfl rfl i (rfl) (by omega) (by omega) d_G_placeOf_15 ?_
        refine lv_iload_n hx hb d_G_placeOf_16 rfl (lv_at hl 2 rfl) ?_
        refine lv_icmp_ne (tgt := 22) hx hb d_G_placeOf_17 (by decide) (fun hd => ?_) (fun hd => ?_)
        · refine lv_iinc (v := nI (i + 1)) (lv' := [(2, .int (nI (i + 1))), (0, .ref h0), (1, .int x)]) hx hb d_G_placeOf_22 hl (k := 0) rfl (nI_1 i) (by decide) rfl (fun ls hl => ?_)
          refine lv_goto (tgt := 2) hx hb d_G_placeOf_25 (by decide) ?_
          exact ih (i + 1) ls (by omega) (lt_s hno hd) hl
        · refine lv_iload_n hx hb d_G_placeOf_20 rfl (lv_at hl 0 rfl) ?_
          exact W.iret (v := (nI i)) hx hb hr (fun t ht hW => kx_Ri (by rw [gFind_some hd hno (by omega)]; rfl) ht) (fun _ h => absurd h List.not_mem_nil) d_G_placeOf_21
  exact lp t 0 ls (by omega) (fun j hj => absurd hj (by omega)) (lv_sub hl [0, 1, 2] rfl)
set_option maxHeartbeats 4000000 in
set_option maxRecDepth 100000 in
theorem k_G_firstOf (l : Launch) (dC : Nat → ClassId) (dI : Nat → Nat → Nat) (k5 : Nat → ClassId) (h0 h1 h2 h3 : Nat) (tk rt : Int32) (fb fr fy : Nat → Int32) (t : Nat) (ht : t ≤ 24) (x : Int32) (etk : tk = nI t) : Met l y_G_firstOf w_G_firstOf ({ frames := 0, cells := 0, slots := 0, locals := 0 }) (kx_Pc (dC, dI) clA (tyL k5) ([(h0, .inr (0, [.ref h1, .ref h2, .ref h3, .int tk, .int rt])), (h1, .inl ((k5 0), 24, .inl fb)), (h2, .inl ((k5 0), 24, .inl fr)), (h3, .inl ((k5 2), 1536, .inl fy))]) [.ref h0, .int x]) (kx_R (some (.int (oI (gFind fr x t))))) 0 0 (fun _ => False) := by
  refine Met.ofW (cc := c_G_firstOf) (maxL := 3) (ret := (some .int)) (by decide) rfl ?_
  intro p e s m args below meth c s₁ B hml hv
  obtain ⟨rfl, hP, hK, hD0⟩ := hv
  have hx := B.exec
  have hb := B.bytes
  have hr := B.returns
  have hts : ∀ w ∈ wsA, w.before _ s = true := fun w h => atoms_spec (ws := w_G_firstOf) B.pre w (List.mem_cons_of_mem _ h)
  have hown : s.vm.findClass R_G = some m.cls := findClass_of_methodNamed B.named
  have hlocks := B.notSynchronized
  have hD := kx_D.self hD0
  have hS : va_S (kx_A ([(h0, .inr (0, [.ref h1, .ref h2, .ref h3, .int tk, .int rt])), (h1, .inl ((k5 0), 24, .inl fb)), (h2, .inl ((k5 0), 24, .inl fr)), (h3, .inl ((k5 2), 1536, .inl fy))])) s.heap s.heap [] := va_S.rf
  have hl := lv_entry ([.ref h0, .int x]) (n := 3) (Nat.le_of_ble_eq_true rfl)
  rw [lg_entry_eq]
  generalize (lg_sl ([.ref h0, .int x]) ++ List.replicate (3 - (lg_sl ([.ref h0, .int x])).length) Slot.unset).toArray = ls at hl ⊢
  have hl : lv_has ls 3 [(0, .ref h0), (1, .int x)] := hl
  refine lv_iconst (v := 0) hx hb d_G_firstOf_0 (by decide) ?_
  refine lv_istore_n (lv' := [(2, .int 0), (0, .ref h0), (1, .int x)]) hx hb d_G_firstOf_1 rfl hl (by decide) rfl (fun ls hl => ?_)
  have lp : ∀ (n i : Nat) (ls : Array Slot), i + n = t → (∀ j, j < i → ¬ fr j = x) → lv_has ls 3 [(2, .int (nI i)), (0, .ref h0), (1, .int x)] → W p l e (headSpec w_G_firstOf ({ frames := 0, cells := 0, slots := 0, locals := 0 })).room s m ([.ref h0, .int x] : List Value).toArray below meth c s.heap [] 0 0 (MQ below (kx_R (some (.int (oI (gFind fr x t))))) ([.ref h0, .int x] : List Value).toArray s 0 0 (fun _ => False)) (F0 m 2 ls []) := by
    intro n
    induction n with
    | zero =>
      intro i ls hi hno hl
      have hi : i = t := by omega
      subst hi
      refine lv_iload_n hx hb d_G_firstOf_2 rfl (lv_at hl 0 rfl) ?_
      refine lv_aload_n hx hb d_G_firstOf_3 rfl (lv_at hl 1 rfl) ?_
      refine va_get (D := (dC, dI)) (ci := 0) (v := .int tk) (C := R_G) (T := T_G) (N := 5) hx hb hts wu_G hown hK hP 0 rfl rfl 3 (by decide) (hts _ wf_G_22) (fun _ h9 => h9) rfl d_G_firstOf_4 ?_
      refine lv_icmp_ge (tgt := 28) hx hb d_G_firstOf_7 (by decide) (fun hc => ?_) (fun hc => ?_)
      · refine lv_iconst (v := (-1)) hx hb d_G_firstOf_28 (by decide) ?_
        exact W.iret (v := (-1)) hx hb hr (fun t ht hW => kx_Ri (by rw [gFind_none hno]; rfl) ht) (fun _ h => absurd h List.not_mem_nil) d_G_firstOf_29
      · exact absurd (by rw [etk]; exact nI_le (Nat.le_refl i) (by omega)) hc
    | succ n ih =>
      intro i ls hi hno hl
      refine lv_iload_n hx hb d_G_firstOf_2 rfl (lv_at hl 0 rfl) ?_
      refine lv_aload_n hx hb d_G_firstOf_3 rfl (lv_at hl 1 rfl) ?_
      refine va_get (D := (dC, dI)) (ci := 0) (v := .int tk) (C := R_G) (T := T_G) (N := 5) hx hb hts wu_G hown hK hP 0 rfl rfl 3 (by decide) (hts _ wf_G_22) (fun _ h9 => h9) rfl d_G_firstOf_4 ?_
      refine lv_icmp_ge (tgt := 28) hx hb d_G_firstOf_7 (by decide) (fun hc => ?_) (fun hc => ?_)
      · exact absurd hc (by rw [etk]; exact nI_ge (by omega) (by omega))
      · refine lv_aload_n hx hb d_G_firstOf_10 rfl (lv_at hl 1 rfl) ?_
        refine va_get (D := (dC, dI)) (ci := 0) (v := .ref h2) (C := R_G) (T := T_G) (N := 5) hx hb hts wu_G hown hK hP 0 rfl rfl 1 (by decide) (hts _ wf_G_15) (fun _ h9 => h9) rfl d_G_firstOf_11 ?_
        refine lv_iload_n hx hb d_G_firstOf_14 rfl (lv_at hl 0 rfl) ?_
        refine kx_iald hx hb hK hP 2 0 rfl rfl i (rfl) (by omega) (by omega) d_G_firstOf_15 ?_
        refine lv_iload_n hx hb d_G_firstOf_16 rfl (lv_at hl 2 rfl) ?_
        refine lv_icmp_ne (tgt := 22) hx hb d_G_firstOf_17 (by decide) (fun hd => ?_) (fun hd => ?_)
        · refine lv_iinc (v := nI (i + 1)) (lv' := [(2, .int (nI (i + 1))), (0, .ref h0), (1, .int x)]) hx hb d_G_firstOf_22 hl (k := 0) rfl (nI_1 i) (by decide) rfl (fun ls hl => ?_)
          refine lv_goto (tgt := 2) hx hb d_G_firstOf_25 (by decide) ?_
          exact ih (i + 1) ls (by omega) (lt_s hno hd) hl
        · refine lv_iload_n hx hb d_G_firstOf_20 rfl (lv_at hl 0 rfl) ?_
          exact W.iret (v := (nI i)) hx hb hr (fun t ht hW => kx_Ri (by rw [gFind_some hd hno (by omega)]; rfl) ht) (fun _ h => absurd h List.not_mem_nil) d_G_firstOf_21
  exact lp t 0 ls (by omega) (fun j hj => absurd hj (by omega)) (lv_sub hl [0, 1, 2] rfl)
set_option maxHeartbeats 4000000 in
set_option maxRecDepth 100000 in
theorem k_G_useWithOneMore (l : Launch) (dC : Nat → ClassId) (dI : Nat → Nat → Nat) (k5 : Nat → ClassId) (h0 h1 h2 h3 : Nat) (tk rt : Int32) (fb fr fy : Nat → Int32) (t : Nat) (ht : t ≤ 24) (x : Int32) (etk : tk = nI t) : Met l y_G_useWithOneMore w_G_useWithOneMore ({ frames := 1, cells := 0, slots := 0, locals := 22 }) (kx_Pc (dC, dI) clA (tyL k5) ([(h0, .inr (0, [.ref h1, .ref h2, .ref h3, .int tk, .int rt])), (h1, .inl ((k5 0), 24, .inl fb)), (h2, .inl ((k5 0), 24, .inl fr)), (h3, .inl ((k5 2), 1536, .inl fy))]) [.ref h0, .int x]) (kx_R (some (.int (1 + tk + 1 + 2 * (if oI (gFind fr x t) < 0 then rt + 1 else rt))))) 0 0 (fun _ => False) := by
  refine Met.ofW (cc := c_G_useWithOneMore) (maxL := 3) (ret := (some .int)) (by decide) rfl ?_
  intro p e s m args below meth c s₁ B hml hv
  obtain ⟨rfl, hP, hK, hD0⟩ := hv
  have hx := B.exec
  have hb := B.bytes
  have hr := B.returns
  have hts : ∀ w ∈ wsA, w.before _ s = true := fun w h => atoms_spec (ws := w_G_useWithOneMore) B.pre w (List.mem_cons_of_mem _ h)
  have hown : s.vm.findClass R_G = some m.cls := findClass_of_methodNamed B.named
  have hlocks := B.notSynchronized
  have hD := kx_D.self hD0
  have hS : va_S (kx_A ([(h0, .inr (0, [.ref h1, .ref h2, .ref h3, .int tk, .int rt])), (h1, .inl ((k5 0), 24, .inl fb)), (h2, .inl ((k5 0), 24, .inl fr)), (h3, .inl ((k5 2), 1536, .inl fy))])) s.heap s.heap [] := va_S.rf
  have hl := lv_entry ([.ref h0, .int x]) (n := 3) (Nat.le_of_ble_eq_true rfl)
  rw [lg_entry_eq]
  generalize (lg_sl ([.ref h0, .int x]) ++ List.replicate (3 - (lg_sl ([.ref h0, .int x])).length) Slot.unset).toArray = ls at hl ⊢
  have hl : lv_has ls 3 [(0, .ref h0), (1, .int x)] := hl
  refine lv_aload_n hx hb d_G_useWithOneMore_0 rfl (lv_at hl 0 rfl) ?_
  refine lv_iload_n hx hb d_G_useWithOneMore_1 rfl (lv_at hl 1 rfl) ?_
  refine kx_VRW (As := [.int x]) (rest := []) ⟨hx, hb, hml, hown, hts⟩ (k_G_firstOf l dC dI k5 h0 h1 h2 h3 tk rt fb fr fy t ht x etk) (cwV 1 hts (goodV wm_G_29 wn_G_firstOf ws_G_firstOf wi_G wc_G_firstOf) rfl rfl rfl (by decide +kernel) ⟨Nat.le_of_ble_eq_true rfl, Nat.le_of_ble_eq_true rfl⟩) ⟨Nat.zero_le _, Nat.zero_le _⟩ hK hP hD 0 rfl rfl rfl hl.1 rfl (Nat.le_of_ble_eq_true rfl) d_G_useWithOneMore_2 ?_
  refine W.eq (g2 := F0 m 5 ls [.int (oI (gFind fr x t))]) rfl ?_
  refine lv_if_ge (tgt := 17) hx hb d_G_useWithOneMore_5 (by decide) (fun hc_1 => ?_) (fun hc_1 => ?_)
  · refine lv_aload_n hx hb d_G_useWithOneMore_17 rfl (lv_at hl 0 rfl) ?_
    refine va_get (D := (dC, dI)) (ci := 0) (v := .int rt) (C := R_G) (T := T_G) (N := 5) hx hb hts wu_G hown hK hP 0 rfl rfl 4 (by decide) (hts _ wf_G_26) (fun _ h9 => h9) rfl d_G_useWithOneMore_18 ?_
    refine lv_istore_n (lv' := [(2, .int rt), (0, .ref h0), (1, .int x)]) hx hb d_G_useWithOneMore_21 rfl hl (by decide) rfl (fun ls hl => ?_)
    refine lv_iconst (v := 1) hx hb d_G_useWithOneMore_22 (by decide) ?_
    refine lv_aload_n hx hb d_G_useWithOneMore_23 rfl (lv_at hl 1 rfl) ?_
    refine va_get (D := (dC, dI)) (ci := 0) (v := .int tk) (C := R_G) (T := T_G) (N := 5) hx hb hts wu_G hown hK hP 0 rfl rfl 3 (by decide) (hts _ wf_G_22) (fun _ h9 => h9) rfl d_G_useWithOneMore_24 ?_
    refine lv_iadd hx hb d_G_useWithOneMore_27 ?_
    refine lv_iconst (v := 1) hx hb d_G_useWithOneMore_28 (by decide) ?_
    refine lv_iadd hx hb d_G_useWithOneMore_29 ?_
    refine lv_iconst (v := 2) hx hb d_G_useWithOneMore_30 (by decide) ?_
    refine lv_iload_n hx hb d_G_useWithOneMore_31 rfl (lv_at hl 0 rfl) ?_
    refine lv_imul hx hb d_G_useWithOneMore_32 ?_
    refine lv_iadd hx hb d_G_useWithOneMore_33 ?_
    exact W.iret (v := (((1 + tk) + 1) + (2 * rt))) hx hb hr (fun t ht hW => kx_Ri (by rw [if_neg (Int32.not_lt.mpr hc_1)]) ht) (fun _ h => absurd h List.not_mem_nil) d_G_useWithOneMore_34
  · refine lv_aload_n hx hb d_G_useWithOneMore_8 rfl (lv_at hl 0 rfl) ?_
    refine va_get (D := (dC, dI)) (ci := 0) (v := .int rt) (C := R_G) (T := T_G) (N := 5) hx hb hts wu_G hown hK hP 0 rfl rfl 4 (by decide) (hts _ wf_G_26) (fun _ h9 => h9) rfl d_G_useWithOneMore_9 ?_
    refine lv_iconst (v := 1) hx hb d_G_useWithOneMore_12 (by decide) ?_
    refine lv_iadd hx hb d_G_useWithOneMore_13 ?_
    refine lv_goto (tgt := 21) hx hb d_G_useWithOneMore_14 (by decide) ?_
    refine lv_istore_n (lv' := [(2, .int (rt + 1)), (0, .ref h0), (1, .int x)]) hx hb d_G_useWithOneMore_21 rfl hl (by decide) rfl (fun ls hl => ?_)
    refine lv_iconst (v := 1) hx hb d_G_useWithOneMore_22 (by decide) ?_
    refine lv_aload_n hx hb d_G_useWithOneMore_23 rfl (lv_at hl 1 rfl) ?_
    refine va_get (D := (dC, dI)) (ci := 0) (v := .int tk) (C := R_G) (T := T_G) (N := 5) hx hb hts wu_G hown hK hP 0 rfl rfl 3 (by decide) (hts _ wf_G_22) (fun _ h9 => h9) rfl d_G_useWithOneMore_24 ?_
    refine lv_iadd hx hb d_G_useWithOneMore_27 ?_
    refine lv_iconst (v := 1) hx hb d_G_useWithOneMore_28 (by decide) ?_
    refine lv_iadd hx hb d_G_useWithOneMore_29 ?_
    refine lv_iconst (v := 2) hx hb d_G_useWithOneMore_30 (by decide) ?_
    refine lv_iload_n hx hb d_G_useWithOneMore_31 rfl (lv_at hl 0 rfl) ?_
    refine lv_imul hx hb d_G_useWithOneMore_32 ?_
    refine lv_iadd hx hb d_G_useWithOneMore_33 ?_
    exact W.iret (v := (((1 + tk) + 1) + (2 * (rt + 1)))) hx hb hr (fun t ht hW => kx_Ri (by rw [if_pos (Int32.not_le.mp hc_1)]) ht) (fun _ h => absurd h List.not_mem_nil) d_G_useWithOneMore_34
set_option maxHeartbeats 4000000 in
set_option maxRecDepth 100000 in
theorem k_G_isFirstOfRow (l : Launch) (dC : Nat → ClassId) (dI : Nat → Nat → Nat) (k5 : Nat → ClassId) (h0 h1 h2 h3 : Nat) (tk rt : Int32) (fb fr fy : Nat → Int32) (t k : Nat) (ht : t ≤ 24) (hk : k < 24) (etk : tk = nI t) : Met l y_G_isFirstOfRow w_G_isFirstOfRow ({ frames := 1, cells := 0, slots := 0, locals := 22 }) (kx_Pc (dC, dI) clA (tyL k5) ([(h0, .inr (0, [.ref h1, .ref h2, .ref h3, .int tk, .int rt])), (h1, .inl ((k5 0), 24, .inl fb)), (h2, .inl ((k5 0), 24, .inl fr)), (h3, .inl ((k5 2), 1536, .inl fy))]) [.ref h0, .int (nI k)]) (kx_R (some (.int (bI (decide (oI (gFind fr (fr k) t) = nI k)))))) 0 0 (fun _ => False) := by
  refine Met.ofW (cc := c_G_isFirstOfRow) (maxL := 2) (ret := (some .boolean)) (by decide) rfl ?_
  intro p e s m args below meth c s₁ B hml hv
  obtain ⟨rfl, hP, hK, hD0⟩ := hv
  have hx := B.exec
  have hb := B.bytes
  have hr := B.returns
  have hts : ∀ w ∈ wsA, w.before _ s = true := fun w h => atoms_spec (ws := w_G_isFirstOfRow) B.pre w (List.mem_cons_of_mem _ h)
  have hown : s.vm.findClass R_G = some m.cls := findClass_of_methodNamed B.named
  have hlocks := B.notSynchronized
  have hD := kx_D.self hD0
  have hS : va_S (kx_A ([(h0, .inr (0, [.ref h1, .ref h2, .ref h3, .int tk, .int rt])), (h1, .inl ((k5 0), 24, .inl fb)), (h2, .inl ((k5 0), 24, .inl fr)), (h3, .inl ((k5 2), 1536, .inl fy))])) s.heap s.heap [] := va_S.rf
  have hl := lv_entry ([.ref h0, .int (nI k)]) (n := 2) (Nat.le_of_ble_eq_true rfl)
  rw [lg_entry_eq]
  generalize (lg_sl ([.ref h0, .int (nI k)]) ++ List.replicate (2 - (lg_sl ([.ref h0, .int (nI k)])).length) Slot.unset).toArray = ls at hl ⊢
  have hl : lv_has ls 2 [(0, .ref h0), (1, .int (nI k))] := hl
  refine lv_aload_n hx hb d_G_isFirstOfRow_0 rfl (lv_at hl 0 rfl) ?_
  refine lv_aload_n hx hb d_G_isFirstOfRow_1 rfl (lv_at hl 0 rfl) ?_
  refine va_get (D := (dC, dI)) (ci := 0) (v := .ref h2) (C := R_G) (T := T_G) (N := 5) hx hb hts wu_G hown hK hP 0 rfl rfl 1 (by decide) (hts _ wf_G_15) (fun _ h9 => h9) rfl d_G_isFirstOfRow_2 ?_
  refine lv_iload_n hx hb d_G_isFirstOfRow_5 rfl (lv_at hl 1 rfl) ?_
  refine kx_iald hx hb hK hP 2 0 rfl rfl k (rfl) (by omega) (by omega) d_G_isFirstOfRow_6 ?_
  refine kx_VRW (As := [.int (fr k)]) (rest := []) ⟨hx, hb, hml, hown, hts⟩ (k_G_firstOf l dC dI k5 h0 h1 h2 h3 tk rt fb fr fy t ht (fr k) etk) (cwV 1 hts (goodV wm_G_29 wn_G_firstOf ws_G_firstOf wi_G wc_G_firstOf) rfl rfl rfl (by decide +kernel) ⟨Nat.le_of_ble_eq_true rfl, Nat.le_of_ble_eq_true rfl⟩) ⟨Nat.zero_le _, Nat.zero_le _⟩ hK hP hD 0 rfl rfl rfl hl.1 rfl (Nat.le_of_ble_eq_true rfl) d_G_isFirstOfRow_7 ?_
  refine W.eq (g2 := F0 m 10 ls [.int (oI (gFind fr (fr k) t))]) rfl ?_
  refine lv_iload_n hx hb d_G_isFirstOfRow_10 rfl (lv_at hl 1 rfl) ?_
  refine lv_icmp_ne (tgt := 18) hx hb d_G_isFirstOfRow_11 (by decide) (fun hc_1 => ?_) (fun hc_1 => ?_)
  · refine lv_iconst (v := 0) hx hb d_G_isFirstOfRow_18 (by decide) ?_
    exact W.zret (v := 0) hx hb hr rfl (fun t ht hW => kx_Ri (by simp [bI, hc_1]) ht) (fun _ h => absurd h List.not_mem_nil) d_G_isFirstOfRow_19
  · refine lv_iconst (v := 1) hx hb d_G_isFirstOfRow_14 (by decide) ?_
    refine lv_goto (tgt := 19) hx hb d_G_isFirstOfRow_15 (by decide) ?_
    exact W.zret (v := 1) hx hb hr rfl (fun t ht hW => kx_Ri (by simp [bI, hc_1]) ht) (fun _ h => absurd h List.not_mem_nil) d_G_isFirstOfRow_19
set_option maxHeartbeats 4000000 in
set_option maxRecDepth 100000 in
theorem k_G_take (l : Launch) (dC : Nat → ClassId) (dI : Nat → Nat → Nat) (k5 : Nat → ClassId) (h0 h1 h2 h3 : Nat) (tk rt : Int32) (fb fr fy : Nat → Int32) (hk : Nat) (kp : Nat → Int32) (t b : Nat) (ht : t < 24) (hb2 : b < 204) (x : Int32) (etk : tk = nI t) (hfit : sb_Fit kp) : Met l y_G_take w_G_take ({ frames := 1, cells := 0, slots := 0, locals := 40 }) (kx_Pc (dC, dI) clA (tyL k5) ([(h0, .inr (0, [.ref h1, .ref h2, .ref h3, .int tk, .int rt])), (h1, .inl ((k5 0), 24, .inl fb)), (h2, .inl ((k5 0), 24, .inl fr)), (h3, .inl ((k5 2), 1536, .inl fy)), (hk, .inl ((k5 2), 13056, .inl kp))]) [.ref h0, .int (nI b), .int x, .ref hk]) (kx_Q (dC, dI) clA ([(h0, .inr (0, [.ref h1, .ref h2, .ref h3, .int tk, .int rt])), (h1, .inl ((k5 0), 24, .inl fb)), (h2, .inl ((k5 0), 24, .inl fr)), (h3, .inl ((k5 2), 1536, .inl fy)), (hk, .inl ((k5 2), 13056, .inl kp))]) ([(h0, .inr (0, [.ref h1, .ref h2, .ref h3, .int (tk + 1), .int (if oI (gFind fr x t) < 0 then rt + 1 else rt)])), (h1, .inl ((k5 0), 24, .inl (upd fb t (nI b)))), (h2, .inl ((k5 0), 24, .inl (upd fr t x))), (h3, .inl ((k5 2), 1536, .inl (va_cpy kp fy (b * 64) (t * 64) 64))), (hk, .inl ((k5 2), 13056, .inl kp))]) (some (.int (nI t)))) 0 0 (kx_A ([(h0, .inr (0, [.ref h1, .ref h2, .ref h3, .int tk, .int rt])), (h1, .inl ((k5 0), 24, .inl fb)), (h2, .inl ((k5 0), 24, .inl fr)), (h3, .inl ((k5 2), 1536, .inl fy)), (hk, .inl ((k5 2), 13056, .inl kp))])) := by
  refine Met.ofW (cc := c_G_take) (maxL := 5) (ret := (some .int)) (by decide) rfl ?_
  intro p e s m args below meth c s₁ B hml hv
  obtain ⟨rfl, hP, hK, hD0⟩ := hv
  have hx := B.exec
  have hb := B.bytes
  have hr := B.returns
  have hts : ∀ w ∈ wsA, w.before _ s = true := fun w h => atoms_spec (ws := w_G_take) B.pre w (List.mem_cons_of_mem _ h)
  have hown : s.vm.findClass R_G = some m.cls := findClass_of_methodNamed B.named
  have hlocks := B.notSynchronized
  have hD := kx_D.self hD0
  have hS : va_S (kx_A ([(h0, .inr (0, [.ref h1, .ref h2, .ref h3, .int tk, .int rt])), (h1, .inl ((k5 0), 24, .inl fb)), (h2, .inl ((k5 0), 24, .inl fr)), (h3, .inl ((k5 2), 1536, .inl fy)), (hk, .inl ((k5 2), 13056, .inl kp))])) s.heap s.heap [] := va_S.rf
  have hl := lv_entry ([.ref h0, .int (nI b), .int x, .ref hk]) (n := 5) (Nat.le_of_ble_eq_true rfl)
  rw [lg_entry_eq]
  generalize (lg_sl ([.ref h0, .int (nI b), .int x, .ref hk]) ++ List.replicate (5 - (lg_sl ([.ref h0, .int (nI b), .int x, .ref hk])).length) Slot.unset).toArray = ls at hl ⊢
  have hl : lv_has ls 5 [(0, .ref h0), (1, .int (nI b)), (2, .int x), (3, .ref hk)] := hl
  refine lv_aload_n hx hb d_G_take_0 rfl (lv_at hl 0 rfl) ?_
  refine lv_iload_n hx hb d_G_take_1 rfl (lv_at hl 2 rfl) ?_
  refine kx_VR (As := [.int x]) (rest := []) ⟨hx, hb, hml, hown, hts⟩ (k_G_firstOf l dC dI k5 h0 h1 h2 h3 tk rt fb fr fy t (by omega) x etk) (cwV 1 hts (goodV wm_G_29 wn_G_firstOf ws_G_firstOf wi_G wc_G_firstOf) rfl rfl rfl (by decide +kernel) ⟨Nat.le_of_ble_eq_true rfl, Nat.le_of_ble_eq_true rfl⟩) ⟨Nat.zero_le _, Nat.zero_le _⟩ hK hP hD [0, 1, 2, 3] (by decide) rfl 0 rfl rfl rfl hl.1 rfl (Nat.le_of_ble_eq_true rfl) d_G_take_2 ?_
  refine W.eq (g2 := F0 m 5 ls [.int (oI (gFind fr x t))]) rfl ?_
  refine lv_if_ge (tgt := 18) hx hb d_G_take_5 (by decide) (fun hc_1 => ?_) (fun hc_1 => ?_)
  · refine lv_aload_n hx hb d_G_take_18 rfl (lv_at hl 0 rfl) ?_
    refine va_get (D := (dC, dI)) (ci := 0) (v := .int tk) (C := R_G) (T := T_G) (N := 5) hx hb hts wu_G hown hK hP 0 rfl rfl 3 (by decide) (hts _ wf_G_22) (fun _ h9 => h9) rfl d_G_take_19 ?_
    refine lv_istore (lv' := [(4, .int tk), (0, .ref h0), (1, .int (nI b)), (2, .int x), (3, .ref hk)]) hx hb d_G_take_22 hl (by decide) rfl (fun ls hl => ?_)
    refine lv_aload_n hx hb d_G_take_24 rfl (lv_at hl 1 rfl) ?_
    refine va_get (D := (dC, dI)) (ci := 0) (v := .ref h1) (C := R_G) (T := T_G) (N := 5) hx hb hts wu_G hown hK hP 0 rfl rfl 0 (by decide) (hts _ wf_G_9) (fun _ h9 => h9) rfl d_G_take_25 ?_
    refine lv_iload hx hb d_G_take_28 (lv_at hl 0 rfl) ?_
    refine lv_iload_n hx hb d_G_take_30 rfl (lv_at hl 2 rfl) ?_
    refine kx_iast (ws' := [(h0, .inr (0, [.ref h1, .ref h2, .ref h3, .int tk, .int rt])), (h1, .inl ((k5 0), 24, .inl (upd fb t (nI b)))), (h2, .inl ((k5 0), 24, .inl fr)), (h3, .inl ((k5 2), 1536, .inl fy)), (hk, .inl ((k5 2), 13056, .inl kp))]) hx hb hK hP hD hS 1 0 rfl rfl t (etk) (by omega) (by omega) rfl d_G_take_31 (fun H locs hP hD hS => ?_)
    refine lv_aload_n hx hb d_G_take_32 rfl (lv_at hl 1 rfl) ?_
    refine va_get (D := (dC, dI)) (ci := 0) (v := .ref h2) (C := R_G) (T := T_G) (N := 5) hx hb hts wu_G hown hK hP 0 rfl rfl 1 (by decide) (hts _ wf_G_15) (fun _ h9 => h9) rfl d_G_take_33 ?_
    refine lv_iload hx hb d_G_take_36 (lv_at hl 0 rfl) ?_
    refine lv_iload_n hx hb d_G_take_38 rfl (lv_at hl 3 rfl) ?_
    refine kx_iast (ws' := [(h0, .inr (0, [.ref h1, .ref h2, .ref h3, .int tk, .int rt])), (h1, .inl ((k5 0), 24, .inl (upd fb t (nI b)))), (h2, .inl ((k5 0), 24, .inl (upd fr t x))), (h3, .inl ((k5 2), 1536, .inl fy)), (hk, .inl ((k5 2), 13056, .inl kp))]) hx hb hK hP hD hS 2 0 rfl rfl t (etk) (by omega) (by omega) rfl d_G_take_39 (fun H locs hP hD hS => ?_)
    refine lv_aload_n hx hb d_G_take_40 rfl (lv_at hl 4 rfl) ?_
    refine lv_iload_n hx hb d_G_take_41 rfl (lv_at hl 2 rfl) ?_
    refine lv_bipush (v := 64) hx hb d_G_take_42 (by decide) ?_
    refine lv_imul hx hb d_G_take_44 ?_
    refine lv_aload_n hx hb d_G_take_45 rfl (lv_at hl 1 rfl) ?_
    refine va_get (D := (dC, dI)) (ci := 0) (v := .ref h3) (C := R_G) (T := T_G) (N := 5) hx hb hts wu_G hown hK hP 0 rfl rfl 2 (by decide) (hts _ wf_G_18) (fun _ h9 => h9) rfl d_G_take_46 ?_
    refine lv_iload hx hb d_G_take_49 (lv_at hl 0 rfl) ?_
    refine lv_bipush (v := 64) hx hb d_G_take_51 (by decide) ?_
    refine lv_imul hx hb d_G_take_53 ?_
    refine lv_bipush (v := 64) hx hb d_G_take_54 (by decide) ?_
    refine kx_copy (ws' := [(h0, .inr (0, [.ref h1, .ref h2, .ref h3, .int tk, .int rt])), (h1, .inl ((k5 0), 24, .inl (upd fb t (nI b)))), (h2, .inl ((k5 0), 24, .inl (upd fr t x))), (h3, .inl ((k5 2), 1536, .inl (va_cpy kp fy (b * 64) (t * 64) 64))), (hk, .inl ((k5 2), 13056, .inl kp))]) hx hb (hml.trans hl.1.symm) hown (hts _ wm_G_33) (hts _ wv_arraycopyName) (hts _ wt_arraycopyName) (hts _ wi_S) hK hP hD hS 4 3 2 2 rfl rfl rfl rfl rfl (b * 64) (t * 64) 64 (pk_mul b 64) (by rw [etk]; exact pk_mul t 64) (rfl) (by omega) (by omega) (by omega) (by omega) (fun i hi => hfit _) rfl (Nat.le_of_ble_eq_true rfl) (Nat.le_of_ble_eq_true rfl) d_G_take_56 (fun H locs hP hD hS => ?_)
    refine lv_aload_n hx hb d_G_take_59 rfl (lv_at hl 1 rfl) ?_
    refine lv_dup hx hb d_G_take_60 rfl ?_
    refine va_get (D := (dC, dI)) (ci := 0) (v := .int tk) (C := R_G) (T := T_G) (N := 5) hx hb hts wu_G hown hK hP 0 rfl rfl 3 (by decide) (hts _ wf_G_22) (fun _ h9 => h9) rfl d_G_take_61 ?_
    refine lv_iconst (v := 1) hx hb d_G_take_64 (by decide) ?_
    refine lv_iadd hx hb d_G_take_65 ?_
    refine kx_put (ws' := [(h0, .inr (0, [.ref h1, .ref h2, .ref h3, .int (tk + 1), .int rt])), (h1, .inl ((k5 0), 24, .inl (upd fb t (nI b)))), (h2, .inl ((k5 0), 24, .inl (upd fr t x))), (h3, .inl ((k5 2), 1536, .inl (va_cpy kp fy (b * 64) (t * 64) 64))), (hk, .inl ((k5 2), 13056, .inl kp))]) (D := (dC, dI)) (ci := 0) (v := .int (tk + 1)) (ty := .int) (C := R_G) (T := T_G) (N := 5) hx hb hts wu_G ty_G ok_G nm_G hown hK hP hD hS 0 rfl rfl 3 (by decide) (hts _ wf_G_22) (fun _ h9 => h9) rfl (by decide +kernel) rfl rfl (Nat.le_of_ble_eq_true rfl) rfl d_G_take_66 (fun H locs hP hD hS => ?_)
    refine lv_iload hx hb d_G_take_69 (lv_at hl 0 rfl) ?_
    exact W.iret (v := tk) hx hb hr (fun t ht hW => kx_Qi (etk) ht hP (by rw [if_neg (Int32.not_lt.mpr hc_1)]) hS rfl) hS.2.2 d_G_take_71
  · refine lv_aload_n hx hb d_G_take_8 rfl (lv_at hl 0 rfl) ?_
    refine lv_dup hx hb d_G_take_9 rfl ?_
    refine va_get (D := (dC, dI)) (ci := 0) (v := .int rt) (C := R_G) (T := T_G) (N := 5) hx hb hts wu_G hown hK hP 0 rfl rfl 4 (by decide) (hts _ wf_G_26) (fun _ h9 => h9) rfl d_G_take_10 ?_
    refine lv_iconst (v := 1) hx hb d_G_take_13 (by decide) ?_
    refine lv_iadd hx hb d_G_take_14 ?_
    refine kx_put (ws' := [(h0, .inr (0, [.ref h1, .ref h2, .ref h3, .int tk, .int (rt + 1)])), (h1, .inl ((k5 0), 24, .inl fb)), (h2, .inl ((k5 0), 24, .inl fr)), (h3, .inl ((k5 2), 1536, .inl fy)), (hk, .inl ((k5 2), 13056, .inl kp))]) (D := (dC, dI)) (ci := 0) (v := .int (rt + 1)) (ty := .int) (C := R_G) (T := T_G) (N := 5) hx hb hts wu_G ty_G ok_G nm_G hown hK hP hD hS 0 rfl rfl 4 (by decide) (hts _ wf_G_26) (fun _ h9 => h9) rfl (by decide +kernel) rfl rfl (Nat.le_of_ble_eq_true rfl) rfl d_G_take_15 (fun H locs hP hD hS => ?_)
    refine lv_aload_n hx hb d_G_take_18 rfl (lv_at hl 0 rfl) ?_
    refine va_get (D := (dC, dI)) (ci := 0) (v := .int tk) (C := R_G) (T := T_G) (N := 5) hx hb hts wu_G hown hK hP 0 rfl rfl 3 (by decide) (hts _ wf_G_22) (fun _ h9 => h9) rfl d_G_take_19 ?_
    refine lv_istore (lv' := [(4, .int tk), (0, .ref h0), (1, .int (nI b)), (2, .int x), (3, .ref hk)]) hx hb d_G_take_22 hl (by decide) rfl (fun ls hl => ?_)
    refine lv_aload_n hx hb d_G_take_24 rfl (lv_at hl 1 rfl) ?_
    refine va_get (D := (dC, dI)) (ci := 0) (v := .ref h1) (C := R_G) (T := T_G) (N := 5) hx hb hts wu_G hown hK hP 0 rfl rfl 0 (by decide) (hts _ wf_G_9) (fun _ h9 => h9) rfl d_G_take_25 ?_
    refine lv_iload hx hb d_G_take_28 (lv_at hl 0 rfl) ?_
    refine lv_iload_n hx hb d_G_take_30 rfl (lv_at hl 2 rfl) ?_
    refine kx_iast (ws' := [(h0, .inr (0, [.ref h1, .ref h2, .ref h3, .int tk, .int (rt + 1)])), (h1, .inl ((k5 0), 24, .inl (upd fb t (nI b)))), (h2, .inl ((k5 0), 24, .inl fr)), (h3, .inl ((k5 2), 1536, .inl fy)), (hk, .inl ((k5 2), 13056, .inl kp))]) hx hb hK hP hD hS 1 0 rfl rfl t (etk) (by omega) (by omega) rfl d_G_take_31 (fun H locs hP hD hS => ?_)
    refine lv_aload_n hx hb d_G_take_32 rfl (lv_at hl 1 rfl) ?_
    refine va_get (D := (dC, dI)) (ci := 0) (v := .ref h2) (C := R_G) (T := T_G) (N := 5) hx hb hts wu_G hown hK hP 0 rfl rfl 1 (by decide) (hts _ wf_G_15) (fun _ h9 => h9) rfl d_G_take_33 ?_
    refine lv_iload hx hb d_G_take_36 (lv_at hl 0 rfl) ?_
    refine lv_iload_n hx hb d_G_take_38 rfl (lv_at hl 3 rfl) ?_
    refine kx_iast (ws' := [(h0, .inr (0, [.ref h1, .ref h2, .ref h3, .int tk, .int (rt + 1)])), (h1, .inl ((k5 0), 24, .inl (upd fb t (nI b)))), (h2, .inl ((k5 0), 24, .inl (upd fr t x))), (h3, .inl ((k5 2), 1536, .inl fy)), (hk, .inl ((k5 2), 13056, .inl kp))]) hx hb hK hP hD hS 2 0 rfl rfl t (etk) (by omega) (by omega) rfl d_G_take_39 (fun H locs hP hD hS => ?_)
    refine lv_aload_n hx hb d_G_take_40 rfl (lv_at hl 4 rfl) ?_
    refine lv_iload_n hx hb d_G_take_41 rfl (lv_at hl 2 rfl) ?_
    refine lv_bipush (v := 64) hx hb d_G_take_42 (by decide) ?_
    refine lv_imul hx hb d_G_take_44 ?_
    refine lv_aload_n hx hb d_G_take_45 rfl (lv_at hl 1 rfl) ?_
    refine va_get (D := (dC, dI)) (ci := 0) (v := .ref h3) (C := R_G) (T := T_G) (N := 5) hx hb hts wu_G hown hK hP 0 rfl rfl 2 (by decide) (hts _ wf_G_18) (fun _ h9 => h9) rfl d_G_take_46 ?_
    refine lv_iload hx hb d_G_take_49 (lv_at hl 0 rfl) ?_
    refine lv_bipush (v := 64) hx hb d_G_take_51 (by decide) ?_
    refine lv_imul hx hb d_G_take_53 ?_
    refine lv_bipush (v := 64) hx hb d_G_take_54 (by decide) ?_
    refine kx_copy (ws' := [(h0, .inr (0, [.ref h1, .ref h2, .ref h3, .int tk, .int (rt + 1)])), (h1, .inl ((k5 0), 24, .inl (upd fb t (nI b)))), (h2, .inl ((k5 0), 24, .inl (upd fr t x))), (h3, .inl ((k5 2), 1536, .inl (va_cpy kp fy (b * 64) (t * 64) 64))), (hk, .inl ((k5 2), 13056, .inl kp))]) hx hb (hml.trans hl.1.symm) hown (hts _ wm_G_33) (hts _ wv_arraycopyName) (hts _ wt_arraycopyName) (hts _ wi_S) hK hP hD hS 4 3 2 2 rfl rfl rfl rfl rfl (b * 64) (t * 64) 64 (pk_mul b 64) (by rw [etk]; exact pk_mul t 64) (rfl) (by omega) (by omega) (by omega) (by omega) (fun i hi => hfit _) rfl (Nat.le_of_ble_eq_true rfl) (Nat.le_of_ble_eq_true rfl) d_G_take_56 (fun H locs hP hD hS => ?_)
    refine lv_aload_n hx hb d_G_take_59 rfl (lv_at hl 1 rfl) ?_
    refine lv_dup hx hb d_G_take_60 rfl ?_
    refine va_get (D := (dC, dI)) (ci := 0) (v := .int tk) (C := R_G) (T := T_G) (N := 5) hx hb hts wu_G hown hK hP 0 rfl rfl 3 (by decide) (hts _ wf_G_22) (fun _ h9 => h9) rfl d_G_take_61 ?_
    refine lv_iconst (v := 1) hx hb d_G_take_64 (by decide) ?_
    refine lv_iadd hx hb d_G_take_65 ?_
    refine kx_put (ws' := [(h0, .inr (0, [.ref h1, .ref h2, .ref h3, .int (tk + 1), .int (rt + 1)])), (h1, .inl ((k5 0), 24, .inl (upd fb t (nI b)))), (h2, .inl ((k5 0), 24, .inl (upd fr t x))), (h3, .inl ((k5 2), 1536, .inl (va_cpy kp fy (b * 64) (t * 64) 64))), (hk, .inl ((k5 2), 13056, .inl kp))]) (D := (dC, dI)) (ci := 0) (v := .int (tk + 1)) (ty := .int) (C := R_G) (T := T_G) (N := 5) hx hb hts wu_G ty_G ok_G nm_G hown hK hP hD hS 0 rfl rfl 3 (by decide) (hts _ wf_G_22) (fun _ h9 => h9) rfl (by decide +kernel) rfl rfl (Nat.le_of_ble_eq_true rfl) rfl d_G_take_66 (fun H locs hP hD hS => ?_)
    refine lv_iload hx hb d_G_take_69 (lv_at hl 0 rfl) ?_
    exact W.iret (v := tk) hx hb hr (fun t ht hW => kx_Qi (etk) ht hP (by rw [if_pos (Int32.not_le.mp hc_1)]) hS rfl) hS.2.2 d_G_take_71
set_option maxHeartbeats 4000000 in
set_option maxRecDepth 100000 in
theorem k_G_set (l : Launch) (dC : Nat → ClassId) (dI : Nat → Nat → Nat) (k5 : Nat → ClassId) (h0 h1 h2 h3 : Nat) (tk rt : Int32) (fb fr fy : Nat → Int32) (pl at0 cn v : Int32) (k n : Nat) (hkn : k + n ≤ 1536) (ek : pl * 64 + at0 = nI k) (en : pl * 64 + at0 + cn = nI (k + n)) : Met l y_G_set w_G_set ({ frames := 2, cells := 0, slots := 0, locals := 46 }) (kx_Pc (dC, dI) clA (tyL k5) ([(h0, .inr (0, [.ref h1, .ref h2, .ref h3, .int tk, .int rt])), (h1, .inl ((k5 0), 24, .inl fb)), (h2, .inl ((k5 0), 24, .inl fr)), (h3, .inl ((k5 2), 1536, .inl fy))]) [.ref h0, .int pl, .int at0, .int cn, .int v]) (kx_Q (dC, dI) clA ([(h0, .inr (0, [.ref h1, .ref h2, .ref h3, .int tk, .int rt])), (h1, .inl ((k5 0), 24, .inl fb)), (h2, .inl ((k5 0), 24, .inl fr)), (h3, .inl ((k5 2), 1536, .inl fy))]) ([(h0, .inr (0, [.ref h1, .ref h2, .ref h3, .int tk, .int rt])), (h1, .inl ((k5 0), 24, .inl fb)), (h2, .inl ((k5 0), 24, .inl fr)), (h3, .inl ((k5 2), 1536, .inl (fillF fy (vp_nar .byte v.toInt8.toInt32) k n)))]) none) 0 0 (kx_A ([(h0, .inr (0, [.ref h1, .ref h2, .ref h3, .int tk, .int rt])), (h1, .inl ((k5 0), 24, .inl fb)), (h2, .inl ((k5 0), 24, .inl fr)), (h3, .inl ((k5 2), 1536, .inl fy))])) := by
  refine Met.ofW (cc := c_G_set) (maxL := 6) (ret := none) (by decide) rfl ?_
  intro p e s m args below meth c s₁ B hml hv
  obtain ⟨rfl, hP, hK, hD0⟩ := hv
  have hx := B.exec
  have hb := B.bytes
  have hr := B.returns
  have hts : ∀ w ∈ wsA, w.before _ s = true := fun w h => atoms_spec (ws := w_G_set) B.pre w (List.mem_cons_of_mem _ h)
  have hown : s.vm.findClass R_G = some m.cls := findClass_of_methodNamed B.named
  have hlocks := B.notSynchronized
  have hD := kx_D.self hD0
  have hS : va_S (kx_A ([(h0, .inr (0, [.ref h1, .ref h2, .ref h3, .int tk, .int rt])), (h1, .inl ((k5 0), 24, .inl fb)), (h2, .inl ((k5 0), 24, .inl fr)), (h3, .inl ((k5 2), 1536, .inl fy))])) s.heap s.heap [] := va_S.rf
  have hl := lv_entry ([.ref h0, .int pl, .int at0, .int cn, .int v]) (n := 6) (Nat.le_of_ble_eq_true rfl)
  rw [lg_entry_eq]
  generalize (lg_sl ([.ref h0, .int pl, .int at0, .int cn, .int v]) ++ List.replicate (6 - (lg_sl ([.ref h0, .int pl, .int at0, .int cn, .int v])).length) Slot.unset).toArray = ls at hl ⊢
  have hl : lv_has ls 6 [(0, .ref h0), (1, .int pl), (2, .int at0), (3, .int cn), (4, .int v)] := hl
  refine lv_iload_n hx hb d_G_set_0 rfl (lv_at hl 1 rfl) ?_
  refine lv_bipush (v := 64) hx hb d_G_set_1 (by decide) ?_
  refine lv_imul hx hb d_G_set_3 ?_
  refine lv_iload_n hx hb d_G_set_4 rfl (lv_at hl 2 rfl) ?_
  refine lv_iadd hx hb d_G_set_5 ?_
  refine lv_istore (lv' := [(5, .int ((pl * 64) + at0)), (0, .ref h0), (1, .int pl), (2, .int at0), (3, .int cn), (4, .int v)]) hx hb d_G_set_6 hl (by decide) rfl (fun ls hl => ?_)
  refine lv_aload_n hx hb d_G_set_8 rfl (lv_at hl 1 rfl) ?_
  refine va_get (D := (dC, dI)) (ci := 0) (v := .ref h3) (C := R_G) (T := T_G) (N := 5) hx hb hts wu_G hown hK hP 0 rfl rfl 2 (by decide) (hts _ wf_G_18) (fun _ h9 => h9) rfl d_G_set_9 ?_
  refine lv_iload hx hb d_G_set_12 (lv_at hl 0 rfl) ?_
  refine lv_iload hx hb d_G_set_14 (lv_at hl 0 rfl) ?_
  refine lv_iload_n hx hb d_G_set_16 rfl (lv_at hl 4 rfl) ?_
  refine lv_iadd hx hb d_G_set_17 ?_
  refine lv_iload hx hb d_G_set_18 (lv_at hl 5 rfl) ?_
  refine lv_i2b (v := v.toInt8.toInt32) hx hb d_G_set_20 rfl ?_
  rw [en, ek]
  refine kx_S (ws2 := [(h0, .inr (0, [.ref h1, .ref h2, .ref h3, .int tk, .int rt])), (h1, .inl ((k5 0), 24, .inl fb)), (h2, .inl ((k5 0), 24, .inl fr)), (h3, .inl ((k5 2), 1536, .inl (fillF fy (vp_nar .byte v.toInt8.toInt32) k n)))]) (As := [.ref h3, .int (nI k), .int (nI (k + n)), .int v.toInt8.toInt32]) (rest := []) ⟨hx, hb, hml, hown, hts⟩ (k_J_fillR l dC dI k5 h3 1536 k n hkn (by omega) fy v.toInt8.toInt32) (va_cwS 4 hts (goodS wm_G_39 wt_J_fillR wi_J wc_J_fillR) rfl rfl rfl (by decide +kernel) ⟨Nat.le_of_ble_eq_true rfl, Nat.le_of_ble_eq_true rfl⟩) ⟨Nat.zero_le _, Nat.zero_le _⟩ hK hP hD hS [3] (by decide) rfl rfl rfl rfl rfl hl.1 rfl (Nat.le_of_ble_eq_true rfl) d_G_set_21 (fun H locs hP hD hS => ?_)
  refine W.eq (g2 := F0 m 24 ls []) rfl ?_
  exact W.vret hx hb hr (fun t ht hW => kx_Qv ht hP (rfl) hS rfl) hS.2.2 d_G_set_24
set_option maxHeartbeats 4000000 in
set_option maxRecDepth 100000 in
theorem k_G_become (l : Launch) (dC : Nat → ClassId) (dI : Nat → Nat → Nat) (k5 : Nat → ClassId) (h0 h1 h2 h3 : Nat) (tk rt : Int32) (fb fr fy : Nat → Int32) (o0 o1 o2 o3 : Nat) (ot ort : Int32) (ob orr oy : Nat → Int32) (t : Nat) (ht : t ≤ 24) (eot : ot = nI t) (hfit : sb_Fit oy) : Met l y_G_become w_G_become ({ frames := 1, cells := 0, slots := 0, locals := 40 }) (kx_Pc (dC, dI) clA (tyL k5) ([(h0, .inr (0, [.ref h1, .ref h2, .ref h3, .int tk, .int rt])), (h1, .inl ((k5 0), 24, .inl fb)), (h2, .inl ((k5 0), 24, .inl fr)), (h3, .inl ((k5 2), 1536, .inl fy)), (o0, .inr (0, [.ref o1, .ref o2, .ref o3, .int ot, .int ort])), (o1, .inl ((k5 0), 24, .inl ob)), (o2, .inl ((k5 0), 24, .inl orr)), (o3, .inl ((k5 2), 1536, .inl oy))]) [.ref h0, .ref o0]) (kx_Q (dC, dI) clA ([(h0, .inr (0, [.ref h1, .ref h2, .ref h3, .int tk, .int rt])), (h1, .inl ((k5 0), 24, .inl fb)), (h2, .inl ((k5 0), 24, .inl fr)), (h3, .inl ((k5 2), 1536, .inl fy)), (o0, .inr (0, [.ref o1, .ref o2, .ref o3, .int ot, .int ort])), (o1, .inl ((k5 0), 24, .inl ob)), (o2, .inl ((k5 0), 24, .inl orr)), (o3, .inl ((k5 2), 1536, .inl oy))]) ([(h0, .inr (0, [.ref h1, .ref h2, .ref h3, .int ot, .int ort])), (h1, .inl ((k5 0), 24, .inl (va_cpy ob fb 0 0 t))), (h2, .inl ((k5 0), 24, .inl (va_cpy orr fr 0 0 t))), (h3, .inl ((k5 2), 1536, .inl (va_cpy oy fy 0 0 (t * 64)))), (o0, .inr (0, [.ref o1, .ref o2, .ref o3, .int ot, .int ort])), (o1, .inl ((k5 0), 24, .inl ob)), (o2, .inl ((k5 0), 24, .inl orr)), (o3, .inl ((k5 2), 1536, .inl oy))]) none) 0 0 (kx_A ([(h0, .inr (0, [.ref h1, .ref h2, .ref h3, .int tk, .int rt])), (h1, .inl ((k5 0), 24, .inl fb)), (h2, .inl ((k5 0), 24, .inl fr)), (h3, .inl ((k5 2), 1536, .inl fy)), (o0, .inr (0, [.ref o1, .ref o2, .ref o3, .int ot, .int ort])), (o1, .inl ((k5 0), 24, .inl ob)), (o2, .inl ((k5 0), 24, .inl orr)), (o3, .inl ((k5 2), 1536, .inl oy))])) := by
  refine Met.ofW (cc := c_G_become) (maxL := 2) (ret := none) (by decide) rfl ?_
  intro p e s m args below meth c s₁ B hml hv
  obtain ⟨rfl, hP, hK, hD0⟩ := hv
  have hx := B.exec
  have hb := B.bytes
  have hr := B.returns
  have hts : ∀ w ∈ wsA, w.before _ s = true := fun w h => atoms_spec (ws := w_G_become) B.pre w (List.mem_cons_of_mem _ h)
  have hown : s.vm.findClass R_G = some m.cls := findClass_of_methodNamed B.named
  have hlocks := B.notSynchronized
  have hD := kx_D.self hD0
  have hS : va_S (kx_A ([(h0, .inr (0, [.ref h1, .ref h2, .ref h3, .int tk, .int rt])), (h1, .inl ((k5 0), 24, .inl fb)), (h2, .inl ((k5 0), 24, .inl fr)), (h3, .inl ((k5 2), 1536, .inl fy)), (o0, .inr (0, [.ref o1, .ref o2, .ref o3, .int ot, .int ort])), (o1, .inl ((k5 0), 24, .inl ob)), (o2, .inl ((k5 0), 24, .inl orr)), (o3, .inl ((k5 2), 1536, .inl oy))])) s.heap s.heap [] := va_S.rf
  have hl := lv_entry ([.ref h0, .ref o0]) (n := 2) (Nat.le_of_ble_eq_true rfl)
  rw [lg_entry_eq]
  generalize (lg_sl ([.ref h0, .ref o0]) ++ List.replicate (2 - (lg_sl ([.ref h0, .ref o0])).length) Slot.unset).toArray = ls at hl ⊢
  have hl : lv_has ls 2 [(0, .ref h0), (1, .ref o0)] := hl
  refine lv_aload_n hx hb d_G_become_0 rfl (lv_at hl 1 rfl) ?_
  refine va_get (D := (dC, dI)) (ci := 0) (v := .ref o1) (C := R_G) (T := T_G) (N := 5) hx hb hts wu_G hown hK hP 4 rfl rfl 0 (by decide) (hts _ wf_G_9) (fun _ h9 => h9) rfl d_G_become_1 ?_
  refine lv_iconst (v := 0) hx hb d_G_become_4 (by decide) ?_
  refine lv_aload_n hx hb d_G_become_5 rfl (lv_at hl 0 rfl) ?_
  refine va_get (D := (dC, dI)) (ci := 0) (v := .ref h1) (C := R_G) (T := T_G) (N := 5) hx hb hts wu_G hown hK hP 0 rfl rfl 0 (by decide) (hts _ wf_G_9) (fun _ h9 => h9) rfl d_G_become_6 ?_
  refine lv_iconst (v := 0) hx hb d_G_become_9 (by decide) ?_
  refine lv_aload_n hx hb d_G_become_10 rfl (lv_at hl 1 rfl) ?_
  refine va_get (D := (dC, dI)) (ci := 0) (v := .int ot) (C := R_G) (T := T_G) (N := 5) hx hb hts wu_G hown hK hP 4 rfl rfl 3 (by decide) (hts _ wf_G_22) (fun _ h9 => h9) rfl d_G_become_11 ?_
  refine kx_copy (ws' := [(h0, .inr (0, [.ref h1, .ref h2, .ref h3, .int tk, .int rt])), (h1, .inl ((k5 0), 24, .inl (va_cpy ob fb 0 0 t))), (h2, .inl ((k5 0), 24, .inl fr)), (h3, .inl ((k5 2), 1536, .inl fy)), (o0, .inr (0, [.ref o1, .ref o2, .ref o3, .int ot, .int ort])), (o1, .inl ((k5 0), 24, .inl ob)), (o2, .inl ((k5 0), 24, .inl orr)), (o3, .inl ((k5 2), 1536, .inl oy))]) hx hb (hml.trans hl.1.symm) hown (hts _ wm_G_33) (hts _ wv_arraycopyName) (hts _ wt_arraycopyName) (hts _ wi_S) hK hP hD hS 5 1 0 0 rfl rfl rfl rfl rfl 0 0 t (rfl) (rfl) (eot) (by omega) (by omega) (by omega) (by omega) (fun i hi => rfl) rfl (Nat.le_of_ble_eq_true rfl) (Nat.le_of_ble_eq_true rfl) d_G_become_14 (fun H locs hP hD hS => ?_)
  refine lv_aload_n hx hb d_G_become_17 rfl (lv_at hl 1 rfl) ?_
  refine va_get (D := (dC, dI)) (ci := 0) (v := .ref o2) (C := R_G) (T := T_G) (N := 5) hx hb hts wu_G hown hK hP 4 rfl rfl 1 (by decide) (hts _ wf_G_15) (fun _ h9 => h9) rfl d_G_become_18 ?_
  refine lv_iconst (v := 0) hx hb d_G_become_21 (by decide) ?_
  refine lv_aload_n hx hb d_G_become_22 rfl (lv_at hl 0 rfl) ?_
  refine va_get (D := (dC, dI)) (ci := 0) (v := .ref h2) (C := R_G) (T := T_G) (N := 5) hx hb hts wu_G hown hK hP 0 rfl rfl 1 (by decide) (hts _ wf_G_15) (fun _ h9 => h9) rfl d_G_become_23 ?_
  refine lv_iconst (v := 0) hx hb d_G_become_26 (by decide) ?_
  refine lv_aload_n hx hb d_G_become_27 rfl (lv_at hl 1 rfl) ?_
  refine va_get (D := (dC, dI)) (ci := 0) (v := .int ot) (C := R_G) (T := T_G) (N := 5) hx hb hts wu_G hown hK hP 4 rfl rfl 3 (by decide) (hts _ wf_G_22) (fun _ h9 => h9) rfl d_G_become_28 ?_
  refine kx_copy (ws' := [(h0, .inr (0, [.ref h1, .ref h2, .ref h3, .int tk, .int rt])), (h1, .inl ((k5 0), 24, .inl (va_cpy ob fb 0 0 t))), (h2, .inl ((k5 0), 24, .inl (va_cpy orr fr 0 0 t))), (h3, .inl ((k5 2), 1536, .inl fy)), (o0, .inr (0, [.ref o1, .ref o2, .ref o3, .int ot, .int ort])), (o1, .inl ((k5 0), 24, .inl ob)), (o2, .inl ((k5 0), 24, .inl orr)), (o3, .inl ((k5 2), 1536, .inl oy))]) hx hb (hml.trans hl.1.symm) hown (hts _ wm_G_33) (hts _ wv_arraycopyName) (hts _ wt_arraycopyName) (hts _ wi_S) hK hP hD hS 6 2 0 0 rfl rfl rfl rfl rfl 0 0 t (rfl) (rfl) (eot) (by omega) (by omega) (by omega) (by omega) (fun i hi => rfl) rfl (Nat.le_of_ble_eq_true rfl) (Nat.le_of_ble_eq_true rfl) d_G_become_31 (fun H locs hP hD hS => ?_)
  refine lv_aload_n hx hb d_G_become_34 rfl (lv_at hl 1 rfl) ?_
  refine va_get (D := (dC, dI)) (ci := 0) (v := .ref o3) (C := R_G) (T := T_G) (N := 5) hx hb hts wu_G hown hK hP 4 rfl rfl 2 (by decide) (hts _ wf_G_18) (fun _ h9 => h9) rfl d_G_become_35 ?_
  refine lv_iconst (v := 0) hx hb d_G_become_38 (by decide) ?_
  refine lv_aload_n hx hb d_G_become_39 rfl (lv_at hl 0 rfl) ?_
  refine va_get (D := (dC, dI)) (ci := 0) (v := .ref h3) (C := R_G) (T := T_G) (N := 5) hx hb hts wu_G hown hK hP 0 rfl rfl 2 (by decide) (hts _ wf_G_18) (fun _ h9 => h9) rfl d_G_become_40 ?_
  refine lv_iconst (v := 0) hx hb d_G_become_43 (by decide) ?_
  refine lv_aload_n hx hb d_G_become_44 rfl (lv_at hl 1 rfl) ?_
  refine va_get (D := (dC, dI)) (ci := 0) (v := .int ot) (C := R_G) (T := T_G) (N := 5) hx hb hts wu_G hown hK hP 4 rfl rfl 3 (by decide) (hts _ wf_G_22) (fun _ h9 => h9) rfl d_G_become_45 ?_
  refine lv_bipush (v := 64) hx hb d_G_become_48 (by decide) ?_
  refine lv_imul hx hb d_G_become_50 ?_
  refine kx_copy (ws' := [(h0, .inr (0, [.ref h1, .ref h2, .ref h3, .int tk, .int rt])), (h1, .inl ((k5 0), 24, .inl (va_cpy ob fb 0 0 t))), (h2, .inl ((k5 0), 24, .inl (va_cpy orr fr 0 0 t))), (h3, .inl ((k5 2), 1536, .inl (va_cpy oy fy 0 0 (t * 64)))), (o0, .inr (0, [.ref o1, .ref o2, .ref o3, .int ot, .int ort])), (o1, .inl ((k5 0), 24, .inl ob)), (o2, .inl ((k5 0), 24, .inl orr)), (o3, .inl ((k5 2), 1536, .inl oy))]) hx hb (hml.trans hl.1.symm) hown (hts _ wm_G_33) (hts _ wv_arraycopyName) (hts _ wt_arraycopyName) (hts _ wi_S) hK hP hD hS 7 3 2 2 rfl rfl rfl rfl rfl 0 0 (t * 64) (rfl) (rfl) (by rw [eot]; exact pk_mul t 64) (by omega) (by omega) (by omega) (by omega) (fun i hi => hfit _) rfl (Nat.le_of_ble_eq_true rfl) (Nat.le_of_ble_eq_true rfl) d_G_become_51 (fun H locs hP hD hS => ?_)
  refine lv_aload_n hx hb d_G_become_54 rfl (lv_at hl 0 rfl) ?_
  refine lv_aload_n hx hb d_G_become_55 rfl (lv_at hl 1 rfl) ?_
  refine va_get (D := (dC, dI)) (ci := 0) (v := .int ot) (C := R_G) (T := T_G) (N := 5) hx hb hts wu_G hown hK hP 4 rfl rfl 3 (by decide) (hts _ wf_G_22) (fun _ h9 => h9) rfl d_G_become_56 ?_
  refine kx_put (ws' := [(h0, .inr (0, [.ref h1, .ref h2, .ref h3, .int ot, .int rt])), (h1, .inl ((k5 0), 24, .inl (va_cpy ob fb 0 0 t))), (h2, .inl ((k5 0), 24, .inl (va_cpy orr fr 0 0 t))), (h3, .inl ((k5 2), 1536, .inl (va_cpy oy fy 0 0 (t * 64)))), (o0, .inr (0, [.ref o1, .ref o2, .ref o3, .int ot, .int ort])), (o1, .inl ((k5 0), 24, .inl ob)), (o2, .inl ((k5 0), 24, .inl orr)), (o3, .inl ((k5 2), 1536, .inl oy))]) (D := (dC, dI)) (ci := 0) (v := .int ot) (ty := .int) (C := R_G) (T := T_G) (N := 5) hx hb hts wu_G ty_G ok_G nm_G hown hK hP hD hS 0 rfl rfl 3 (by decide) (hts _ wf_G_22) (fun _ h9 => h9) rfl (by decide +kernel) rfl rfl (Nat.le_of_ble_eq_true rfl) rfl d_G_become_59 (fun H locs hP hD hS => ?_)
  refine lv_aload_n hx hb d_G_become_62 rfl (lv_at hl 0 rfl) ?_
  refine lv_aload_n hx hb d_G_become_63 rfl (lv_at hl 1 rfl) ?_
  refine va_get (D := (dC, dI)) (ci := 0) (v := .int ort) (C := R_G) (T := T_G) (N := 5) hx hb hts wu_G hown hK hP 4 rfl rfl 4 (by decide) (hts _ wf_G_26) (fun _ h9 => h9) rfl d_G_become_64 ?_
  refine kx_put (ws' := [(h0, .inr (0, [.ref h1, .ref h2, .ref h3, .int ot, .int ort])), (h1, .inl ((k5 0), 24, .inl (va_cpy ob fb 0 0 t))), (h2, .inl ((k5 0), 24, .inl (va_cpy orr fr 0 0 t))), (h3, .inl ((k5 2), 1536, .inl (va_cpy oy fy 0 0 (t * 64)))), (o0, .inr (0, [.ref o1, .ref o2, .ref o3, .int ot, .int ort])), (o1, .inl ((k5 0), 24, .inl ob)), (o2, .inl ((k5 0), 24, .inl orr)), (o3, .inl ((k5 2), 1536, .inl oy))]) (D := (dC, dI)) (ci := 0) (v := .int ort) (ty := .int) (C := R_G) (T := T_G) (N := 5) hx hb hts wu_G ty_G ok_G nm_G hown hK hP hD hS 0 rfl rfl 4 (by decide) (hts _ wf_G_26) (fun _ h9 => h9) rfl (by decide +kernel) rfl rfl (Nat.le_of_ble_eq_true rfl) rfl d_G_become_67 (fun H locs hP hD hS => ?_)
  exact W.vret hx hb hr (fun t ht hW => kx_Qv ht hP (rfl) hS rfl) hS.2.2 d_G_become_70
set_option maxHeartbeats 4000000 in
set_option maxRecDepth 100000 in
theorem k_G_keepIn (l : Launch) (dC : Nat → ClassId) (dI : Nat → Nat → Nat) (k5 : Nat → ClassId) (h0 h1 h2 h3 : Nat) (tk rt : Int32) (fb fr fy : Nat → Int32) (hk : Nat) (kp : Nat → Int32) (t : Nat) (ht : t ≤ 24) (etk : tk = nI t) (hfit : sb_Fit fy) (hbl : ∀ j, j < t → fb j = nI (fb j).toNatClampNeg ∧ (fb j).toNatClampNeg < 204) : Met l y_G_keepIn w_G_keepIn ({ frames := 1, cells := 0, slots := 0, locals := 40 }) (kx_Pc (dC, dI) clA (tyL k5) ([(h0, .inr (0, [.ref h1, .ref h2, .ref h3, .int tk, .int rt])), (h1, .inl ((k5 0), 24, .inl fb)), (h2, .inl ((k5 0), 24, .inl fr)), (h3, .inl ((k5 2), 1536, .inl fy)), (hk, .inl ((k5 2), 13056, .inl kp))]) [.ref h0, .ref hk]) (kx_Q (dC, dI) clA ([(h0, .inr (0, [.ref h1, .ref h2, .ref h3, .int tk, .int rt])), (h1, .inl ((k5 0), 24, .inl fb)), (h2, .inl ((k5 0), 24, .inl fr)), (h3, .inl ((k5 2), 1536, .inl fy)), (hk, .inl ((k5 2), 13056, .inl kp))]) ([(h0, .inr (0, [.ref h1, .ref h2, .ref h3, .int tk, .int rt])), (h1, .inl ((k5 0), 24, .inl fb)), (h2, .inl ((k5 0), 24, .inl fr)), (h3, .inl ((k5 2), 1536, .inl fy)), (hk, .inl ((k5 2), 13056, .inl (gKeep (tk, rt, fb, fr, fy) t kp)))]) none) 0 0 (kx_A ([(h0, .inr (0, [.ref h1, .ref h2, .ref h3, .int tk, .int rt])), (h1, .inl ((k5 0), 24, .inl fb)), (h2, .inl ((k5 0), 24, .inl fr)), (h3, .inl ((k5 2), 1536, .inl fy)), (hk, .inl ((k5 2), 13056, .inl kp))])) := by
  refine Met.ofW (cc := c_G_keepIn) (maxL := 3) (ret := none) (by decide) rfl ?_
  intro p e s m args below meth c s₁ B hml hv
  obtain ⟨rfl, hP, hK, hD0⟩ := hv
  have hx := B.exec
  have hb := B.bytes
  have hr := B.returns
  have hts : ∀ w ∈ wsA, w.before _ s = true := fun w h => atoms_spec (ws := w_G_keepIn) B.pre w (List.mem_cons_of_mem _ h)
  have hown : s.vm.findClass R_G = some m.cls := findClass_of_methodNamed B.named
  have hlocks := B.notSynchronized
  have hD := kx_D.self hD0
  have hS : va_S (kx_A ([(h0, .inr (0, [.ref h1, .ref h2, .ref h3, .int tk, .int rt])), (h1, .inl ((k5 0), 24, .inl fb)), (h2, .inl ((k5 0), 24, .inl fr)), (h3, .inl ((k5 2), 1536, .inl fy)), (hk, .inl ((k5 2), 13056, .inl kp))])) s.heap s.heap [] := va_S.rf
  have hl := lv_entry ([.ref h0, .ref hk]) (n := 3) (Nat.le_of_ble_eq_true rfl)
  rw [lg_entry_eq]
  generalize (lg_sl ([.ref h0, .ref hk]) ++ List.replicate (3 - (lg_sl ([.ref h0, .ref hk])).length) Slot.unset).toArray = ls at hl ⊢
  have hl : lv_has ls 3 [(0, .ref h0), (1, .ref hk)] := hl
  refine lv_iconst (v := 0) hx hb d_G_keepIn_0 (by decide) ?_
  refine lv_istore_n (lv' := [(2, .int 0), (0, .ref h0), (1, .ref hk)]) hx hb d_G_keepIn_1 rfl hl (by decide) rfl (fun ls hl => ?_)
  have lp : ∀ (q9 i : Nat) (H : Heap) (locs : List Loc) (ls : Array Slot), i + q9 = t → va_P (dC, dI) clA [(h0, .inr (0, [.ref h1, .ref h2, .ref h3, .int tk, .int rt])), (h1, .inl ((k5 0), 24, .inl fb)), (h2, .inl ((k5 0), 24, .inl fr)), (h3, .inl ((k5 2), 1536, .inl fy)), (hk, .inl ((k5 2), 13056, .inl (gKeep (tk, rt, fb, fr, fy) i kp)))] H → va_D (kx_A ([(h0, .inr (0, [.ref h1, .ref h2, .ref h3, .int tk, .int rt])), (h1, .inl ((k5 0), 24, .inl fb)), (h2, .inl ((k5 0), 24, .inl fr)), (h3, .inl ((k5 2), 1536, .inl fy)), (hk, .inl ((k5 2), 13056, .inl kp))])) [(h0, .inr (0, [.ref h1, .ref h2, .ref h3, .int tk, .int rt])), (h1, .inl ((k5 0), 24, .inl fb)), (h2, .inl ((k5 0), 24, .inl fr)), (h3, .inl ((k5 2), 1536, .inl fy)), (hk, .inl ((k5 2), 13056, .inl (gKeep (tk, rt, fb, fr, fy) i kp)))] → va_S (kx_A ([(h0, .inr (0, [.ref h1, .ref h2, .ref h3, .int tk, .int rt])), (h1, .inl ((k5 0), 24, .inl fb)), (h2, .inl ((k5 0), 24, .inl fr)), (h3, .inl ((k5 2), 1536, .inl fy)), (hk, .inl ((k5 2), 13056, .inl kp))])) s.heap H locs → lv_has ls 3 [(2, .int (nI i)), (0, .ref h0), (1, .ref hk)] → W p l e (headSpec w_G_keepIn ({ frames := 1, cells := 0, slots := 0, locals := 40 })).room s m ([.ref h0, .ref hk] : List Value).toArray below meth c H locs 0 0 (MQ below (kx_Q (dC, dI) clA ([(h0, .inr (0, [.ref h1, .ref h2, .ref h3, .int tk, .int rt])), (h1, .inl ((k5 0), 24, .inl fb)), (h2, .inl ((k5 0), 24, .inl fr)), (h3, .inl ((k5 2), 1536, .inl fy)), (hk, .inl ((k5 2), 13056, .inl kp))]) ([(h0, .inr (0, [.ref h1, .ref h2, .ref h3, .int tk, .int rt])), (h1, .inl ((k5 0), 24, .inl fb)), (h2, .inl ((k5 0), 24, .inl fr)), (h3, .inl ((k5 2), 1536, .inl fy)), (hk, .inl ((k5 2), 13056, .inl (gKeep (tk, rt, fb, fr, fy) t kp)))]) none) ([.ref h0, .ref hk] : List Value).toArray s 0 0 (kx_A ([(h0, .inr (0, [.ref h1, .ref h2, .ref h3, .int tk, .int rt])), (h1, .inl ((k5 0), 24, .inl fb)), (h2, .inl ((k5 0), 24, .inl fr)), (h3, .inl ((k5 2), 1536, .inl fy)), (hk, .inl ((k5 2), 13056, .inl kp))]))) (F0 m 2 ls []) := by
    intro q9
    induction q9 with
    | zero =>
      intro i H locs ls hi hP hD hS hl
      have hi : t = i := by omega
      subst hi
      refine lv_iload_n hx hb d_G_keepIn_2 rfl (lv_at hl 0 rfl) ?_
      refine lv_aload_n hx hb d_G_keepIn_3 rfl (lv_at hl 1 rfl) ?_
      refine va_get (D := (dC, dI)) (ci := 0) (v := .int tk) (C := R_G) (T := T_G) (N := 5) hx hb hts wu_G hown hK hP 0 rfl rfl 3 (by decide) (hts _ wf_G_22) (fun _ h9 => h9) rfl d_G_keepIn_4 ?_
      refine lv_icmp_ge (tgt := 39) hx hb d_G_keepIn_7 (by decide) (fun hc => ?_) (fun hc => ?_)
      · exact W.vret hx hb hr (fun t ht hW => kx_Qv ht hP (rfl) hS rfl) hS.2.2 d_G_keepIn_39
      · exact absurd (by rw [etk]; exact nI_le (by omega) (by omega)) hc
    | succ q9 ih =>
      intro i H locs ls hi hP hD hS hl
      refine lv_iload_n hx hb d_G_keepIn_2 rfl (lv_at hl 0 rfl) ?_
      refine lv_aload_n hx hb d_G_keepIn_3 rfl (lv_at hl 1 rfl) ?_
      refine va_get (D := (dC, dI)) (ci := 0) (v := .int tk) (C := R_G) (T := T_G) (N := 5) hx hb hts wu_G hown hK hP 0 rfl rfl 3 (by decide) (hts _ wf_G_22) (fun _ h9 => h9) rfl d_G_keepIn_4 ?_
      refine lv_icmp_ge (tgt := 39) hx hb d_G_keepIn_7 (by decide) (fun hc => ?_) (fun hc => ?_)
      · exact absurd hc (by rw [etk]; exact nI_ge (by omega) (by omega))
      · obtain ⟨hb1, hb2⟩ := hbl i (by omega)
        refine lv_aload_n hx hb d_G_keepIn_10 rfl (lv_at hl 1 rfl) ?_
        refine va_get (D := (dC, dI)) (ci := 0) (v := .ref h3) (C := R_G) (T := T_G) (N := 5) hx hb hts wu_G hown hK hP 0 rfl rfl 2 (by decide) (hts _ wf_G_18) (fun _ h9 => h9) rfl d_G_keepIn_11 ?_
        refine lv_iload_n hx hb d_G_keepIn_14 rfl (lv_at hl 0 rfl) ?_
        refine lv_bipush (v := 64) hx hb d_G_keepIn_15 (by decide) ?_
        refine lv_imul hx hb d_G_keepIn_17 ?_
        refine lv_aload_n hx hb d_G_keepIn_18 rfl (lv_at hl 2 rfl) ?_
        refine lv_aload_n hx hb d_G_keepIn_19 rfl (lv_at hl 1 rfl) ?_
        refine va_get (D := (dC, dI)) (ci := 0) (v := .ref h1) (C := R_G) (T := T_G) (N := 5) hx hb hts wu_G hown hK hP 0 rfl rfl 0 (by decide) (hts _ wf_G_9) (fun _ h9 => h9) rfl d_G_keepIn_20 ?_
        refine lv_iload_n hx hb d_G_keepIn_23 rfl (lv_at hl 0 rfl) ?_
        refine kx_iald hx hb hK hP 1 0 rfl rfl i (rfl) (by omega) (by omega) d_G_keepIn_24 ?_
        refine lv_bipush (v := 64) hx hb d_G_keepIn_25 (by decide) ?_
        refine lv_imul hx hb d_G_keepIn_27 ?_
        refine lv_bipush (v := 64) hx hb d_G_keepIn_28 (by decide) ?_
        refine kx_copy (ws' := [(h0, .inr (0, [.ref h1, .ref h2, .ref h3, .int tk, .int rt])), (h1, .inl ((k5 0), 24, .inl fb)), (h2, .inl ((k5 0), 24, .inl fr)), (h3, .inl ((k5 2), 1536, .inl fy)), (hk, .inl ((k5 2), 13056, .inl (gKeep (tk, rt, fb, fr, fy) (i + 1) kp)))]) hx hb (hml.trans hl.1.symm) hown (hts _ wm_G_33) (hts _ wv_arraycopyName) (hts _ wt_arraycopyName) (hts _ wi_S) hK hP hD hS 3 4 2 2 rfl rfl rfl rfl rfl (i * 64) ((fb i).toNatClampNeg * 64) 64 (pk_mul i 64) (by rw [hb1, nI_clamp (show (fb i).toNatClampNeg < 2 ^ 31 by omega)]; exact pk_mul _ 64) (rfl) (by omega) (by omega) (by omega) (by omega) (fun i hi => hfit _) rfl (Nat.le_of_ble_eq_true rfl) (Nat.le_of_ble_eq_true rfl) d_G_keepIn_30 (fun H locs hP hD hS => ?_)
        refine lv_iinc (v := nI (i + 1)) (lv' := [(2, .int (nI (i + 1))), (0, .ref h0), (1, .ref hk)]) hx hb d_G_keepIn_33 hl (k := 0) rfl (nI_1 i) (by decide) rfl (fun ls hl => ?_)
        refine lv_goto (tgt := 2) hx hb d_G_keepIn_36 (by decide) ?_
        exact ih (i + 1) H locs ls (by omega) hP hD hS (lv_sub hl [0, 1, 2] rfl)
  exact lp t 0 s.heap [] ls (by omega) hP hD hS (lv_sub hl [0, 1, 2] rfl)
