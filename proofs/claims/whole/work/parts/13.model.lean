abbrev wMd (b : Nat → Nat) (k5 : Nat → ClassId) (vT vn vr vo vl vb : Int32) (fN fK fW fL fM fE fR fF fS fP fY fT fJ fI : FF) : va_W := [((b 0), .inr (3, [.int vT, .int vn, .int vr, .int vo, .ref (b 1), .ref (b 2), .ref (b 3), .ref (b 4), .ref (b 5), .ref (b 6), .ref (b 7), .ref (b 8), .ref (b 9), .int vl, .int vb, .ref (b 10), .ref (b 11), .ref (b 12), .ref (b 13), .ref (b 14)])), ((b 1), .inl ((k5 2), 13056, .inl fN)), ((b 2), .inl ((k5 2), 13056, .inl fK)), ((b 3), .inl ((k5 3), 204, .inl fW)), ((b 4), .inl ((k5 3), 8, .inl fL)), ((b 5), .inl ((k5 0), 8, .inl fM)), ((b 6), .inl ((k5 0), 8, .inl fE)), ((b 7), .inl ((k5 3), 320, .inl fR)), ((b 8), .inl ((k5 0), 16, .inl fF)), ((b 9), .inl ((k5 0), 16, .inl fS)), ((b 10), .inl ((k5 0), 1300, .inl fP)), ((b 11), .inl ((k5 3), 1300, .inl fY)), ((b 12), .inl ((k5 0), 10400, .inl fT)), ((b 13), .inl ((k5 2), 13056, .inl fJ)), ((b 14), .inl ((k5 3), 204, .inl fI))]
abbrev wMS (b : Nat → Nat) (k5 : Nat → ClassId) (M : MT) : va_W := wMd b k5 (M.1) (M.2.1) (M.2.2.1) (M.2.2.2.1) (M.2.2.2.2.1) (M.2.2.2.2.2.1) (M.2.2.2.2.2.2.1) (M.2.2.2.2.2.2.2.1) (M.2.2.2.2.2.2.2.2.1) (M.2.2.2.2.2.2.2.2.2.1) (M.2.2.2.2.2.2.2.2.2.2.1) (M.2.2.2.2.2.2.2.2.2.2.2.1) (M.2.2.2.2.2.2.2.2.2.2.2.2.1) (M.2.2.2.2.2.2.2.2.2.2.2.2.2.1) (M.2.2.2.2.2.2.2.2.2.2.2.2.2.2.1) (M.2.2.2.2.2.2.2.2.2.2.2.2.2.2.2.1) (M.2.2.2.2.2.2.2.2.2.2.2.2.2.2.2.2.1) (M.2.2.2.2.2.2.2.2.2.2.2.2.2.2.2.2.2.1) (M.2.2.2.2.2.2.2.2.2.2.2.2.2.2.2.2.2.2.1) (M.2.2.2.2.2.2.2.2.2.2.2.2.2.2.2.2.2.2.2)
set_option maxHeartbeats 4000000 in
set_option maxRecDepth 100000 in
theorem k_M_blocks (l : Launch) (dC : Nat → ClassId) (dI : Nat → Nat → Nat) (k5 : Nat → ClassId) (b : Nat → Nat) (vT vn vr vo vl vb : Int32) (fN fK fW fL fM fE fR fF fS fP fY fT fJ fI : FF)  : Met l y_M_blocks w_M_blocks ({ frames := 0, cells := 0, slots := 0, locals := 0 }) (kx_Pc (dC, dI) clA (tyL k5) (wMd b k5 vT vn vr vo vl vb fN fK fW fL fM fE fR fF fS fP fY fT fJ fI) [.ref (b 0)]) (kx_R (some (.int ((vn - 2) * (vr - 6))))) 0 0 (fun _ => False) := by
  refine Met.ofW (cc := c_M_blocks) (maxL := 1) (ret := (some .int)) (by decide) rfl ?_
  intro p e s m args below meth c s₁ B hml hv
  obtain ⟨rfl, hP, hK, hD0⟩ := hv
  have hx := B.exec
  have hb := B.bytes
  have hr := B.returns
  have hts : ∀ w ∈ wsA, w.before _ s = true := fun w h => atoms_spec (ws := w_M_blocks) B.pre w (List.mem_cons_of_mem _ h)
  have hown : s.vm.findClass R_M = some m.cls := findClass_of_methodNamed B.named
  have hlocks := B.notSynchronized
  have hD := kx_D.self hD0
  have hS : va_S (kx_A (wMd b k5 vT vn vr vo vl vb fN fK fW fL fM fE fR fF fS fP fY fT fJ fI)) s.heap s.heap [] := va_S.rf
  have hl := lv_entry ([.ref (b 0)]) (n := 1) (Nat.le_of_ble_eq_true rfl)
  rw [lg_entry_eq]
  generalize (lg_sl ([.ref (b 0)]) ++ List.replicate (1 - (lg_sl ([.ref (b 0)])).length) Slot.unset).toArray = ls at hl ⊢
  have hl : lv_has ls 1 [(0, .ref (b 0))] := hl
  refine lv_aload_n hx hb d_M_blocks_0 rfl (lv_at hl 0 rfl) ?_
  refine va_get (D := (dC, dI)) (ci := 3) (v := .int vn) (C := R_M) (T := T_M) (N := 20) hx hb hts wu_M hown hK hP 0 rfl rfl 1 (by decide) (hts _ wf_M_62) (fun _ h9 => h9) rfl d_M_blocks_1 ?_
  refine lv_iconst (v := 2) hx hb d_M_blocks_4 (by decide) ?_
  refine lv_isub hx hb d_M_blocks_5 ?_
  refine lv_aload_n hx hb d_M_blocks_6 rfl (lv_at hl 0 rfl) ?_
  refine va_get (D := (dC, dI)) (ci := 3) (v := .int vr) (C := R_M) (T := T_M) (N := 20) hx hb hts wu_M hown hK hP 0 rfl rfl 2 (by decide) (hts _ wf_M_65) (fun _ h9 => h9) rfl d_M_blocks_7 ?_
  refine lv_bipush (v := 6) hx hb d_M_blocks_10 (by decide) ?_
  refine lv_isub hx hb d_M_blocks_12 ?_
  refine lv_imul hx hb d_M_blocks_13 ?_
  exact W.iret (v := ((vn - 2) * (vr - 6))) hx hb hr (fun t ht hW => kx_Ri (rfl) ht) (fun _ h => absurd h List.not_mem_nil) d_M_blocks_14
set_option maxHeartbeats 4000000 in
set_option maxRecDepth 100000 in
theorem k_M_noDisk (l : Launch) (dC : Nat → ClassId) (dI : Nat → Nat → Nat) (k5 : Nat → ClassId) (b : Nat → Nat) (vT vn vr vo vl vb : Int32) (fN fK fW fL fM fE fR fF fS fP fY fT fJ fI : FF) (d : Int32) : Met l y_M_noDisk w_M_noDisk ({ frames := 0, cells := 0, slots := 0, locals := 0 }) (kx_Pc (dC, dI) clA (tyL k5) (wMd b k5 vT vn vr vo vl vb fN fK fW fL fM fE fR fF fS fP fY fT fJ fI) [.ref (b 0), .int d]) (kx_R (some (.int (bI (decide (d < 0 ∨ ¬ d < vn)))))) 0 0 (fun _ => False) := by
  refine Met.ofW (cc := c_M_noDisk) (maxL := 2) (ret := (some .boolean)) (by decide) rfl ?_
  intro p e s m args below meth c s₁ B hml hv
  obtain ⟨rfl, hP, hK, hD0⟩ := hv
  have hx := B.exec
  have hb := B.bytes
  have hr := B.returns
  have hts : ∀ w ∈ wsA, w.before _ s = true := fun w h => atoms_spec (ws := w_M_noDisk) B.pre w (List.mem_cons_of_mem _ h)
  have hown : s.vm.findClass R_M = some m.cls := findClass_of_methodNamed B.named
  have hlocks := B.notSynchronized
  have hD := kx_D.self hD0
  have hS : va_S (kx_A (wMd b k5 vT vn vr vo vl vb fN fK fW fL fM fE fR fF fS fP fY fT fJ fI)) s.heap s.heap [] := va_S.rf
  have hl := lv_entry ([.ref (b 0), .int d]) (n := 2) (Nat.le_of_ble_eq_true rfl)
  rw [lg_entry_eq]
  generalize (lg_sl ([.ref (b 0), .int d]) ++ List.replicate (2 - (lg_sl ([.ref (b 0), .int d])).length) Slot.unset).toArray = ls at hl ⊢
  have hl : lv_has ls 2 [(0, .ref (b 0)), (1, .int d)] := hl
  refine lv_iload_n hx hb d_M_noDisk_0 rfl (lv_at hl 1 rfl) ?_
  refine lv_if_lt (tgt := 12) hx hb d_M_noDisk_1 (by decide) (fun hc_1 => ?_) (fun hc_1 => ?_)
  · refine lv_iconst (v := 1) hx hb d_M_noDisk_12 (by decide) ?_
    refine lv_goto (tgt := 17) hx hb d_M_noDisk_13 (by decide) ?_
    exact W.zret (v := 1) hx hb hr rfl (fun t ht hW => kx_Ri (by simp [bI, hc_1]) ht) (fun _ h => absurd h List.not_mem_nil) d_M_noDisk_17
  · refine lv_iload_n hx hb d_M_noDisk_4 rfl (lv_at hl 1 rfl) ?_
    refine lv_aload_n hx hb d_M_noDisk_5 rfl (lv_at hl 0 rfl) ?_
    refine va_get (D := (dC, dI)) (ci := 3) (v := .int vn) (C := R_M) (T := T_M) (N := 20) hx hb hts wu_M hown hK hP 0 rfl rfl 1 (by decide) (hts _ wf_M_62) (fun _ h9 => h9) rfl d_M_noDisk_6 ?_
    refine lv_icmp_lt (tgt := 16) hx hb d_M_noDisk_9 (by decide) (fun hc_2 => ?_) (fun hc_2 => ?_)
    · refine lv_iconst (v := 0) hx hb d_M_noDisk_16 (by decide) ?_
      exact W.zret (v := 0) hx hb hr rfl (fun t ht hW => kx_Ri (by simp [bI, hc_1, hc_2]) ht) (fun _ h => absurd h List.not_mem_nil) d_M_noDisk_17
    · refine lv_iconst (v := 1) hx hb d_M_noDisk_12 (by decide) ?_
      refine lv_goto (tgt := 17) hx hb d_M_noDisk_13 (by decide) ?_
      exact W.zret (v := 1) hx hb hr rfl (fun t ht hW => kx_Ri (by simp [bI, hc_1, hc_2]) ht) (fun _ h => absurd h List.not_mem_nil) d_M_noDisk_17
set_option maxHeartbeats 4000000 in
set_option maxRecDepth 100000 in
theorem k_M_isBlank (l : Launch) (dC : Nat → ClassId) (dI : Nat → Nat → Nat) (k5 : Nat → ClassId) (b : Nat → Nat) (vT vn vr vo vl vb : Int32) (fN fK fW fL fM fE fR fF fS fP fY fT fJ fI : FF) (d : Nat) (hd : d < 8) : Met l y_M_isBlank w_M_isBlank ({ frames := 0, cells := 0, slots := 0, locals := 0 }) (kx_Pc (dC, dI) clA (tyL k5) (wMd b k5 vT vn vr vo vl vb fN fK fW fL fM fE fR fF fS fP fY fT fJ fI) [.ref (b 0), .int (nI d)]) (kx_R (some (.int (bI (decide (fL d = 0 ∧ ¬ vr ≤ fM d)))))) 0 0 (fun _ => False) := by
  refine Met.ofW (cc := c_M_isBlank) (maxL := 2) (ret := (some .boolean)) (by decide) rfl ?_
  intro p e s m args below meth c s₁ B hml hv
  obtain ⟨rfl, hP, hK, hD0⟩ := hv
  have hx := B.exec
  have hb := B.bytes
  have hr := B.returns
  have hts : ∀ w ∈ wsA, w.before _ s = true := fun w h => atoms_spec (ws := w_M_isBlank) B.pre w (List.mem_cons_of_mem _ h)
  have hown : s.vm.findClass R_M = some m.cls := findClass_of_methodNamed B.named
  have hlocks := B.notSynchronized
  have hD := kx_D.self hD0
  have hS : va_S (kx_A (wMd b k5 vT vn vr vo vl vb fN fK fW fL fM fE fR fF fS fP fY fT fJ fI)) s.heap s.heap [] := va_S.rf
  have hl := lv_entry ([.ref (b 0), .int (nI d)]) (n := 2) (Nat.le_of_ble_eq_true rfl)
  rw [lg_entry_eq]
  generalize (lg_sl ([.ref (b 0), .int (nI d)]) ++ List.replicate (2 - (lg_sl ([.ref (b 0), .int (nI d)])).length) Slot.unset).toArray = ls at hl ⊢
  have hl : lv_has ls 2 [(0, .ref (b 0)), (1, .int (nI d))] := hl
  refine lv_aload_n hx hb d_M_isBlank_0 rfl (lv_at hl 0 rfl) ?_
  refine va_get (D := (dC, dI)) (ci := 3) (v := .ref (b 4)) (C := R_M) (T := T_M) (N := 20) hx hb hts wu_M hown hK hP 0 rfl rfl 7 (by decide) (hts _ wf_M_20) (fun _ h9 => h9) rfl d_M_isBlank_1 ?_
  refine lv_iload_n hx hb d_M_isBlank_4 rfl (lv_at hl 1 rfl) ?_
  refine kx_zald hx hb hK hP 4 3 rfl rfl d (rfl) (by omega) (by omega) d_M_isBlank_5 ?_
  refine lv_if_ne (tgt := 26) hx hb d_M_isBlank_6 (by decide) (fun hc_1 => ?_) (fun hc_1 => ?_)
  · refine lv_iconst (v := 0) hx hb d_M_isBlank_26 (by decide) ?_
    exact W.zret (v := 0) hx hb hr rfl (fun t ht hW => kx_Ri (by simp [bI, hc_1]) ht) (fun _ h => absurd h List.not_mem_nil) d_M_isBlank_27
  · refine lv_aload_n hx hb d_M_isBlank_9 rfl (lv_at hl 0 rfl) ?_
    refine va_get (D := (dC, dI)) (ci := 3) (v := .ref (b 5)) (C := R_M) (T := T_M) (N := 20) hx hb hts wu_M hown hK hP 0 rfl rfl 8 (by decide) (hts _ wf_M_23) (fun _ h9 => h9) rfl d_M_isBlank_10 ?_
    refine lv_iload_n hx hb d_M_isBlank_13 rfl (lv_at hl 1 rfl) ?_
    refine kx_iald hx hb hK hP 5 0 rfl rfl d (rfl) (by omega) (by omega) d_M_isBlank_14 ?_
    refine lv_aload_n hx hb d_M_isBlank_15 rfl (lv_at hl 0 rfl) ?_
    refine va_get (D := (dC, dI)) (ci := 3) (v := .int vr) (C := R_M) (T := T_M) (N := 20) hx hb hts wu_M hown hK hP 0 rfl rfl 2 (by decide) (hts _ wf_M_65) (fun _ h9 => h9) rfl d_M_isBlank_16 ?_
    refine lv_icmp_ge (tgt := 26) hx hb d_M_isBlank_19 (by decide) (fun hc_2 => ?_) (fun hc_2 => ?_)
    · refine lv_iconst (v := 0) hx hb d_M_isBlank_26 (by decide) ?_
      exact W.zret (v := 0) hx hb hr rfl (fun t ht hW => kx_Ri (by simp [bI, hc_1, hc_2]) ht) (fun _ h => absurd h List.not_mem_nil) d_M_isBlank_27
    · refine lv_iconst (v := 1) hx hb d_M_isBlank_22 (by decide) ?_
      refine lv_goto (tgt := 27) hx hb d_M_isBlank_23 (by decide) ?_
      exact W.zret (v := 1) hx hb hr rfl (fun t ht hW => kx_Ri (by simp [bI, hc_1, hc_2]) ht) (fun _ h => absurd h List.not_mem_nil) d_M_isBlank_27
set_option maxHeartbeats 4000000 in
set_option maxRecDepth 100000 in
theorem k_M_noBlock (l : Launch) (dC : Nat → ClassId) (dI : Nat → Nat → Nat) (k5 : Nat → ClassId) (b : Nat → Nat) (vT vn vr vo vl vb : Int32) (fN fK fW fL fM fE fR fF fS fP fY fT fJ fI : FF) (x : Int32) : Met l y_M_noBlock w_M_noBlock ({ frames := 1, cells := 0, slots := 0, locals := 20 }) (kx_Pc (dC, dI) clA (tyL k5) (wMd b k5 vT vn vr vo vl vb fN fK fW fL fM fE fR fF fS fP fY fT fJ fI) [.ref (b 0), .int x]) (kx_R (some (.int (bI (decide (x < 0 ∨ ¬ x < (vn - 2) * (vr - 6))))))) 0 0 (fun _ => False) := by
  refine Met.ofW (cc := c_M_noBlock) (maxL := 2) (ret := (some .boolean)) (by decide) rfl ?_
  intro p e s m args below meth c s₁ B hml hv
  obtain ⟨rfl, hP, hK, hD0⟩ := hv
  have hx := B.exec
  have hb := B.bytes
  have hr := B.returns
  have hts : ∀ w ∈ wsA, w.before _ s = true := fun w h => atoms_spec (ws := w_M_noBlock) B.pre w (List.mem_cons_of_mem _ h)
  have hown : s.vm.findClass R_M = some m.cls := findClass_of_methodNamed B.named
  have hlocks := B.notSynchronized
  have hD := kx_D.self hD0
  have hS : va_S (kx_A (wMd b k5 vT vn vr vo vl vb fN fK fW fL fM fE fR fF fS fP fY fT fJ fI)) s.heap s.heap [] := va_S.rf
  have hl := lv_entry ([.ref (b 0), .int x]) (n := 2) (Nat.le_of_ble_eq_true rfl)
  rw [lg_entry_eq]
  generalize (lg_sl ([.ref (b 0), .int x]) ++ List.replicate (2 - (lg_sl ([.ref (b 0), .int x])).length) Slot.unset).toArray = ls at hl ⊢
  have hl : lv_has ls 2 [(0, .ref (b 0)), (1, .int x)] := hl
  refine lv_iload_n hx hb d_M_noBlock_0 rfl (lv_at hl 1 rfl) ?_
  refine lv_if_lt (tgt := 12) hx hb d_M_noBlock_1 (by decide) (fun hc_1 => ?_) (fun hc_1 => ?_)
  · refine lv_iconst (v := 1) hx hb d_M_noBlock_12 (by decide) ?_
    refine lv_goto (tgt := 17) hx hb d_M_noBlock_13 (by decide) ?_
    exact W.zret (v := 1) hx hb hr rfl (fun t ht hW => kx_Ri (by simp [bI, hc_1]) ht) (fun _ h => absurd h List.not_mem_nil) d_M_noBlock_17
  · refine lv_iload_n hx hb d_M_noBlock_4 rfl (lv_at hl 1 rfl) ?_
    refine lv_aload_n hx hb d_M_noBlock_5 rfl (lv_at hl 0 rfl) ?_
    refine kx_VRW (As := []) (rest := [.int x]) ⟨hx, hb, hml, hown, hts⟩ (k_M_blocks l dC dI k5 b vT vn vr vo vl vb fN fK fW fL fM fE fR fF fS fP fY fT fJ fI ) (cwV 0 hts (goodV wm_M_86 wn_M_blocks ws_M_blocks wi_M wc_M_blocks) rfl rfl rfl (by decide +kernel) ⟨Nat.le_of_ble_eq_true rfl, Nat.le_of_ble_eq_true rfl⟩) ⟨Nat.zero_le _, Nat.zero_le _⟩ hK hP hD 0 rfl rfl rfl hl.1 rfl (Nat.le_of_ble_eq_true rfl) d_M_noBlock_6 ?_
    refine W.eq (g2 := F0 m 9 ls [.int ((vn - 2) * (vr - 6)), .int x]) rfl ?_
    refine lv_icmp_lt (tgt := 16) hx hb d_M_noBlock_9 (by decide) (fun hc_2 => ?_) (fun hc_2 => ?_)
    · refine lv_iconst (v := 0) hx hb d_M_noBlock_16 (by decide) ?_
      exact W.zret (v := 0) hx hb hr rfl (fun t ht hW => kx_Ri (by simp [bI, hc_1, hc_2]) ht) (fun _ h => absurd h List.not_mem_nil) d_M_noBlock_17
    · refine lv_iconst (v := 1) hx hb d_M_noBlock_12 (by decide) ?_
      refine lv_goto (tgt := 17) hx hb d_M_noBlock_13 (by decide) ?_
      exact W.zret (v := 1) hx hb hr rfl (fun t ht hW => kx_Ri (by simp [bI, hc_1, hc_2]) ht) (fun _ h => absurd h List.not_mem_nil) d_M_noBlock_17
set_option maxHeartbeats 4000000 in
set_option maxRecDepth 100000 in
theorem k_M_rowOf (l : Launch) (dC : Nat → ClassId) (dI : Nat → Nat → Nat) (k5 : Nat → ClassId) (b : Nat → Nat) (vT vn vr vo vl vb : Int32) (fN fK fW fL fM fE fR fF fS fP fY fT fJ fI : FF) (x : Int32) (h2 : ¬ vn - 2 = 0) : Met l y_M_rowOf w_M_rowOf ({ frames := 0, cells := 0, slots := 0, locals := 0 }) (kx_Pc (dC, dI) clA (tyL k5) (wMd b k5 vT vn vr vo vl vb fN fK fW fL fM fE fR fF fS fP fY fT fJ fI) [.ref (b 0), .int x]) (kx_R (some (.int (6 + x / (vn - 2))))) 0 0 (fun _ => False) := by
  refine Met.ofW (cc := c_M_rowOf) (maxL := 2) (ret := (some .int)) (by decide) rfl ?_
  intro p e s m args below meth c s₁ B hml hv
  obtain ⟨rfl, hP, hK, hD0⟩ := hv
  have hx := B.exec
  have hb := B.bytes
  have hr := B.returns
  have hts : ∀ w ∈ wsA, w.before _ s = true := fun w h => atoms_spec (ws := w_M_rowOf) B.pre w (List.mem_cons_of_mem _ h)
  have hown : s.vm.findClass R_M = some m.cls := findClass_of_methodNamed B.named
  have hlocks := B.notSynchronized
  have hD := kx_D.self hD0
  have hS : va_S (kx_A (wMd b k5 vT vn vr vo vl vb fN fK fW fL fM fE fR fF fS fP fY fT fJ fI)) s.heap s.heap [] := va_S.rf
  have hl := lv_entry ([.ref (b 0), .int x]) (n := 2) (Nat.le_of_ble_eq_true rfl)
  rw [lg_entry_eq]
  generalize (lg_sl ([.ref (b 0), .int x]) ++ List.replicate (2 - (lg_sl ([.ref (b 0), .int x])).length) Slot.unset).toArray = ls at hl ⊢
  have hl : lv_has ls 2 [(0, .ref (b 0)), (1, .int x)] := hl
  refine lv_bipush (v := 6) hx hb d_M_rowOf_0 (by decide) ?_
  refine lv_iload_n hx hb d_M_rowOf_2 rfl (lv_at hl 1 rfl) ?_
  refine lv_aload_n hx hb d_M_rowOf_3 rfl (lv_at hl 0 rfl) ?_
  refine va_get (D := (dC, dI)) (ci := 3) (v := .int vn) (C := R_M) (T := T_M) (N := 20) hx hb hts wu_M hown hK hP 0 rfl rfl 1 (by decide) (hts _ wf_M_62) (fun _ h9 => h9) rfl d_M_rowOf_4 ?_
  refine lv_iconst (v := 2) hx hb d_M_rowOf_7 (by decide) ?_
  refine lv_isub hx hb d_M_rowOf_8 ?_
  refine lv_idiv hx hb d_M_rowOf_9 h2 ?_
  refine lv_iadd hx hb d_M_rowOf_10 ?_
  exact W.iret (v := (6 + (x / (vn - 2)))) hx hb hr (fun t ht hW => kx_Ri (rfl) ht) (fun _ h => absurd h List.not_mem_nil) d_M_rowOf_11
set_option maxHeartbeats 4000000 in
set_option maxRecDepth 100000 in
theorem k_M_isGone (l : Launch) (dC : Nat → ClassId) (dI : Nat → Nat → Nat) (k5 : Nat → ClassId) (b : Nat → Nat) (vT vn vr vo vl vb : Int32) (fN fK fW fL fM fE fR fF fS fP fY fT fJ fI : FF) (d t : Nat) (hd : d < 8) (ht : t < 40) : Met l y_M_isGone w_M_isGone ({ frames := 0, cells := 0, slots := 0, locals := 0 }) (kx_Pc (dC, dI) clA (tyL k5) (wMd b k5 vT vn vr vo vl vb fN fK fW fL fM fE fR fF fS fP fY fT fJ fI) [.ref (b 0), .int (nI d), .int (nI t)]) (kx_R (some (.int (bI (mGone fL fM fR d t))))) 0 0 (fun _ => False) := by
  refine Met.ofW (cc := c_M_isGone) (maxL := 3) (ret := (some .boolean)) (by decide) rfl ?_
  intro p e s m args below meth c s₁ B hml hv
  obtain ⟨rfl, hP, hK, hD0⟩ := hv
  have hx := B.exec
  have hb := B.bytes
  have hr := B.returns
  have hts : ∀ w ∈ wsA, w.before _ s = true := fun w h => atoms_spec (ws := w_M_isGone) B.pre w (List.mem_cons_of_mem _ h)
  have hown : s.vm.findClass R_M = some m.cls := findClass_of_methodNamed B.named
  have hlocks := B.notSynchronized
  have hD := kx_D.self hD0
  have hS : va_S (kx_A (wMd b k5 vT vn vr vo vl vb fN fK fW fL fM fE fR fF fS fP fY fT fJ fI)) s.heap s.heap [] := va_S.rf
  have hl := lv_entry ([.ref (b 0), .int (nI d), .int (nI t)]) (n := 3) (Nat.le_of_ble_eq_true rfl)
  rw [lg_entry_eq]
  generalize (lg_sl ([.ref (b 0), .int (nI d), .int (nI t)]) ++ List.replicate (3 - (lg_sl ([.ref (b 0), .int (nI d), .int (nI t)])).length) Slot.unset).toArray = ls at hl ⊢
  have hl : lv_has ls 3 [(0, .ref (b 0)), (1, .int (nI d)), (2, .int (nI t))] := hl
  refine lv_aload_n hx hb d_M_isGone_0 rfl (lv_at hl 0 rfl) ?_
  refine va_get (D := (dC, dI)) (ci := 3) (v := .ref (b 4)) (C := R_M) (T := T_M) (N := 20) hx hb hts wu_M hown hK hP 0 rfl rfl 7 (by decide) (hts _ wf_M_20) (fun _ h9 => h9) rfl d_M_isGone_1 ?_
  refine lv_iload_n hx hb d_M_isGone_4 rfl (lv_at hl 1 rfl) ?_
  refine kx_zald hx hb hK hP 4 3 rfl rfl d (rfl) (by omega) (by omega) d_M_isGone_5 ?_
  refine lv_if_ne (tgt := 33) hx hb d_M_isGone_6 (by decide) (fun hc_1 => ?_) (fun hc_1 => ?_)
  · refine lv_iconst (v := 1) hx hb d_M_isGone_33 (by decide) ?_
    refine lv_goto (tgt := 38) hx hb d_M_isGone_34 (by decide) ?_
    exact W.zret (v := 1) hx hb hr rfl (fun t ht hW => kx_Ri (by unfold mGone; rw [nz_t hc_1, Bool.true_or]; rfl) ht) (fun _ h => absurd h List.not_mem_nil) d_M_isGone_38
  · refine lv_iload_n hx hb d_M_isGone_9 rfl (lv_at hl 2 rfl) ?_
    refine lv_aload_n hx hb d_M_isGone_10 rfl (lv_at hl 0 rfl) ?_
    refine va_get (D := (dC, dI)) (ci := 3) (v := .ref (b 5)) (C := R_M) (T := T_M) (N := 20) hx hb hts wu_M hown hK hP 0 rfl rfl 8 (by decide) (hts _ wf_M_23) (fun _ h9 => h9) rfl d_M_isGone_11 ?_
    refine lv_iload_n hx hb d_M_isGone_14 rfl (lv_at hl 1 rfl) ?_
    refine kx_iald hx hb hK hP 5 0 rfl rfl d (rfl) (by omega) (by omega) d_M_isGone_15 ?_
    refine lv_icmp_ge (tgt := 33) hx hb d_M_isGone_16 (by decide) (fun hc_2 => ?_) (fun hc_2 => ?_)
    · refine lv_iconst (v := 1) hx hb d_M_isGone_33 (by decide) ?_
      refine lv_goto (tgt := 38) hx hb d_M_isGone_34 (by decide) ?_
      exact W.zret (v := 1) hx hb hr rfl (fun t ht hW => kx_Ri (by unfold mGone; rw [nz_f hc_1, Bool.false_or, decide_eq_true hc_2, Bool.true_or]; rfl) ht) (fun _ h => absurd h List.not_mem_nil) d_M_isGone_38
    · refine lv_aload_n hx hb d_M_isGone_19 rfl (lv_at hl 0 rfl) ?_
      refine va_get (D := (dC, dI)) (ci := 3) (v := .ref (b 7)) (C := R_M) (T := T_M) (N := 20) hx hb hts wu_M hown hK hP 0 rfl rfl 10 (by decide) (hts _ wf_M_30) (fun _ h9 => h9) rfl d_M_isGone_20 ?_
      refine lv_bipush (v := 40) hx hb d_M_isGone_23 (by decide) ?_
      refine lv_iload_n hx hb d_M_isGone_25 rfl (lv_at hl 1 rfl) ?_
      refine lv_imul hx hb d_M_isGone_26 ?_
      refine lv_iload_n hx hb d_M_isGone_27 rfl (lv_at hl 2 rfl) ?_
      refine lv_iadd hx hb d_M_isGone_28 ?_
      refine kx_zald hx hb hK hP 7 3 rfl rfl (40 * d + t) (by rw [show (40 : Int32) * nI d = nI (40 * d) from pk_mul 40 d]; exact nI_add _ _) (by omega) (by omega) d_M_isGone_29 ?_
      refine lv_if_eq (tgt := 37) hx hb d_M_isGone_30 (by decide) (fun hc_3 => ?_) (fun hc_3 => ?_)
      · refine lv_iconst (v := 0) hx hb d_M_isGone_37 (by decide) ?_
        exact W.zret (v := 0) hx hb hr rfl (fun t ht hW => kx_Ri (by unfold mGone; rw [nz_f hc_1, Bool.false_or, decide_eq_false hc_2, Bool.false_or, nz_f hc_3]; rfl) ht) (fun _ h => absurd h List.not_mem_nil) d_M_isGone_38
      · refine lv_iconst (v := 1) hx hb d_M_isGone_33 (by decide) ?_
        refine lv_goto (tgt := 38) hx hb d_M_isGone_34 (by decide) ?_
        exact W.zret (v := 1) hx hb hr rfl (fun t ht hW => kx_Ri (by unfold mGone; rw [nz_f hc_1, Bool.false_or, decide_eq_false hc_2, Bool.false_or, nz_t hc_3]; rfl) ht) (fun _ h => absurd h List.not_mem_nil) d_M_isGone_38
set_option maxHeartbeats 4000000 in
set_option maxRecDepth 100000 in
theorem k_M_goneIn (l : Launch) (dC : Nat → ClassId) (dI : Nat → Nat → Nat) (k5 : Nat → ClassId) (b : Nat → Nat) (vT vn vr vo vl vb : Int32) (fN fK fW fL fM fE fR fF fS fP fY fT fJ fI : FF) (n : Nat) (hn : vn = nI n) (hn4 : 4 ≤ n) (hn8 : n ≤ 8) (t : Nat) (ht : t < 40) : Met l y_M_goneIn w_M_goneIn ({ frames := 1, cells := 0, slots := 0, locals := 22 }) (kx_Pc (dC, dI) clA (tyL k5) (wMd b k5 vT vn vr vo vl vb fN fK fW fL fM fE fR fF fS fP fY fT fJ fI) [.ref (b 0), .int (nI t)]) (kx_R (some (.int (nI (cnt (fun d => mGone fL fM fR d t) n))))) 0 0 (fun _ => False) := by
  refine Met.ofW (cc := c_M_goneIn) (maxL := 4) (ret := (some .int)) (by decide) rfl ?_
  intro p e s m args below meth c s₁ B hml hv
  obtain ⟨rfl, hP, hK, hD0⟩ := hv
  have hx := B.exec
  have hb := B.bytes
  have hr := B.returns
  have hts : ∀ w ∈ wsA, w.before _ s = true := fun w h => atoms_spec (ws := w_M_goneIn) B.pre w (List.mem_cons_of_mem _ h)
  have hown : s.vm.findClass R_M = some m.cls := findClass_of_methodNamed B.named
  have hlocks := B.notSynchronized
  have hD := kx_D.self hD0
  have hS : va_S (kx_A (wMd b k5 vT vn vr vo vl vb fN fK fW fL fM fE fR fF fS fP fY fT fJ fI)) s.heap s.heap [] := va_S.rf
  have hl := lv_entry ([.ref (b 0), .int (nI t)]) (n := 4) (Nat.le_of_ble_eq_true rfl)
  rw [lg_entry_eq]
  generalize (lg_sl ([.ref (b 0), .int (nI t)]) ++ List.replicate (4 - (lg_sl ([.ref (b 0), .int (nI t)])).length) Slot.unset).toArray = ls at hl ⊢
  have hl : lv_has ls 4 [(0, .ref (b 0)), (1, .int (nI t))] := hl
  refine lv_iconst (v := 0) hx hb d_M_goneIn_0 (by decide) ?_
  refine lv_istore_n (lv' := [(2, .int 0), (0, .ref (b 0)), (1, .int (nI t))]) hx hb d_M_goneIn_1 rfl hl (by decide) rfl (fun ls hl => ?_)
  refine lv_iconst (v := 0) hx hb d_M_goneIn_2 (by decide) ?_
  refine lv_istore_n (lv' := [(3, .int 0), (2, .int 0), (0, .ref (b 0)), (1, .int (nI t))]) hx hb d_M_goneIn_3 rfl hl (by decide) rfl (fun ls hl => ?_)
  have lp : ∀ (q9 i : Nat) (ls : Array Slot), i + q9 = n → lv_has ls 4 [(3, .int (nI i)), (2, .int (nI (cnt (fun d => mGone fL fM fR d t) i))), (0, .ref (b 0)), (1, .int (nI t))] → W p l e (headSpec w_M_goneIn ({ frames := 1, cells := 0, slots := 0, locals := 22 })).room s m ([.ref (b 0), .int (nI t)] : List Value).toArray below meth c s.heap [] 0 0 (MQ below (kx_R (some (.int (nI (cnt (fun d => mGone fL fM fR d t) n))))) ([.ref (b 0), .int (nI t)] : List Value).toArray s 0 0 (fun _ => False)) (F0 m 4 ls []) := by
    intro q9
    induction q9 with
    | zero =>
      intro i ls hi hl
      have hi : n = i := by omega
      subst hi
      refine lv_iload_n hx hb d_M_goneIn_4 rfl (lv_at hl 0 rfl) ?_
      refine lv_aload_n hx hb d_M_goneIn_5 rfl (lv_at hl 2 rfl) ?_
      refine va_get (D := (dC, dI)) (ci := 3) (v := .int vn) (C := R_M) (T := T_M) (N := 20) hx hb hts wu_M hown hK hP 0 rfl rfl 1 (by decide) (hts _ wf_M_62) (fun _ h9 => h9) rfl d_M_goneIn_6 ?_
      refine lv_icmp_ge (tgt := 35) hx hb d_M_goneIn_9 (by decide) (fun hc => ?_) (fun hc => ?_)
      · refine lv_iload_n hx hb d_M_goneIn_35 rfl (lv_at hl 1 rfl) ?_
        exact W.iret (v := (nI (cnt (fun d => mGone fL fM fR d t) n))) hx hb hr (fun t ht hW => kx_Ri (rfl) ht) (fun _ h => absurd h List.not_mem_nil) d_M_goneIn_36
      · exact absurd (by rw [hn]; exact nI_le (by omega) (by omega)) hc
    | succ q9 ih =>
      intro i ls hi hl
      refine lv_iload_n hx hb d_M_goneIn_4 rfl (lv_at hl 0 rfl) ?_
      refine lv_aload_n hx hb d_M_goneIn_5 rfl (lv_at hl 2 rfl) ?_
      refine va_get (D := (dC, dI)) (ci := 3) (v := .int vn) (C := R_M) (T := T_M) (N := 20) hx hb hts wu_M hown hK hP 0 rfl rfl 1 (by decide) (hts _ wf_M_62) (fun _ h9 => h9) rfl d_M_goneIn_6 ?_
      refine lv_icmp_ge (tgt := 35) hx hb d_M_goneIn_9 (by decide) (fun hc => ?_) (fun hc => ?_)
      · exact absurd hc (by rw [hn]; exact nI_ge (by omega) (by omega))
      · refine lv_iload_n hx hb d_M_goneIn_12 rfl (lv_at hl 1 rfl) ?_
        refine lv_aload_n hx hb d_M_goneIn_13 rfl (lv_at hl 2 rfl) ?_
        refine lv_iload_n hx hb d_M_goneIn_14 rfl (lv_at hl 0 rfl) ?_
        refine lv_iload_n hx hb d_M_goneIn_15 rfl (lv_at hl 3 rfl) ?_
        refine kx_VRW (As := [.int (nI i), .int (nI t)]) (rest := [.int (nI (cnt (fun d => mGone fL fM fR d t) i))]) ⟨hx, hb, hml, hown, hts⟩ (k_M_isGone l dC dI k5 b vT vn vr vo vl vb fN fK fW fL fM fE fR fF fS fP fY fT fJ fI i t (by omega) ht) (cwV 2 hts (goodV wm_M_110 wn_M_isGone ws_M_isGone wi_M wc_M_isGone) rfl rfl rfl (by decide +kernel) ⟨Nat.le_of_ble_eq_true rfl, Nat.le_of_ble_eq_true rfl⟩) ⟨Nat.zero_le _, Nat.zero_le _⟩ hK hP hD 0 rfl rfl rfl hl.1 rfl (Nat.le_of_ble_eq_true rfl) d_M_goneIn_16 ?_
        refine W.eq (g2 := F0 m 19 ls [.int (bI (mGone fL fM fR i t)), .int (nI (cnt (fun d => mGone fL fM fR d t) i))]) rfl ?_
        refine lv_if_eq (tgt := 26) hx hb d_M_goneIn_19 (by decide) (fun hc_1 => ?_) (fun hc_1 => ?_)
        · refine lv_iconst (v := 0) hx hb d_M_goneIn_26 (by decide) ?_
          refine lv_iadd hx hb d_M_goneIn_27 ?_
          refine lv_istore_n (lv' := [(2, .int ((nI (cnt (fun d => mGone fL fM fR d t) i)) + 0)), (3, .int (nI i)), (0, .ref (b 0)), (1, .int (nI t))]) hx hb d_M_goneIn_28 rfl hl (by decide) rfl (fun ls hl => ?_)
          refine lv_iinc (v := nI (i + 1)) (lv' := [(3, .int (nI (i + 1))), (2, .int ((nI (cnt (fun d => mGone fL fM fR d t) i)) + 0)), (0, .ref (b 0)), (1, .int (nI t))]) hx hb d_M_goneIn_29 hl (k := 1) rfl (nI_1 i) (by decide) rfl (fun ls hl => ?_)
          refine lv_goto (tgt := 4) hx hb d_M_goneIn_32 (by decide) ?_
          exact ih (i + 1) ls (by omega) (by rw [cnt_f2 (p := fun d => mGone fL fM fR d t) (n := i) (bI_f hc_1)]; exact (lv_sub hl [0, 1, 2, 3] rfl))
        · refine lv_iconst (v := 1) hx hb d_M_goneIn_22 (by decide) ?_
          refine lv_goto (tgt := 27) hx hb d_M_goneIn_23 (by decide) ?_
          refine lv_iadd hx hb d_M_goneIn_27 ?_
          refine lv_istore_n (lv' := [(2, .int ((nI (cnt (fun d => mGone fL fM fR d t) i)) + 1)), (3, .int (nI i)), (0, .ref (b 0)), (1, .int (nI t))]) hx hb d_M_goneIn_28 rfl hl (by decide) rfl (fun ls hl => ?_)
          refine lv_iinc (v := nI (i + 1)) (lv' := [(3, .int (nI (i + 1))), (2, .int ((nI (cnt (fun d => mGone fL fM fR d t) i)) + 1)), (0, .ref (b 0)), (1, .int (nI t))]) hx hb d_M_goneIn_29 hl (k := 1) rfl (nI_1 i) (by decide) rfl (fun ls hl => ?_)
          refine lv_goto (tgt := 4) hx hb d_M_goneIn_32 (by decide) ?_
          exact ih (i + 1) ls (by omega) (by rw [cnt_t2 (p := fun d => mGone fL fM fR d t) (n := i) (bI_t hc_1)]; exact (lv_sub hl [0, 1, 2, 3] rfl))
  exact lp n 0 ls (by omega) (lv_sub hl [0, 1, 2, 3] rfl)
set_option maxHeartbeats 4000000 in
set_option maxRecDepth 100000 in
theorem k_M_manyLost (l : Launch) (dC : Nat → ClassId) (dI : Nat → Nat → Nat) (k5 : Nat → ClassId) (b : Nat → Nat) (vT vn vr vo vl vb : Int32) (fN fK fW fL fM fE fR fF fS fP fY fT fJ fI : FF) (n : Nat) (hn : vn = nI n) (hn4 : 4 ≤ n) (hn8 : n ≤ 8) : Met l y_M_manyLost w_M_manyLost ({ frames := 0, cells := 0, slots := 0, locals := 0 }) (kx_Pc (dC, dI) clA (tyL k5) (wMd b k5 vT vn vr vo vl vb fN fK fW fL fM fE fR fF fS fP fY fT fJ fI) [.ref (b 0)]) (kx_R (some (.int (nI (cnt (fun d => nz (fL d)) n))))) 0 0 (fun _ => False) := by
  refine Met.ofW (cc := c_M_manyLost) (maxL := 3) (ret := (some .int)) (by decide) rfl ?_
  intro p e s m args below meth c s₁ B hml hv
  obtain ⟨rfl, hP, hK, hD0⟩ := hv
  have hx := B.exec
  have hb := B.bytes
  have hr := B.returns
  have hts : ∀ w ∈ wsA, w.before _ s = true := fun w h => atoms_spec (ws := w_M_manyLost) B.pre w (List.mem_cons_of_mem _ h)
  have hown : s.vm.findClass R_M = some m.cls := findClass_of_methodNamed B.named
  have hlocks := B.notSynchronized
  have hD := kx_D.self hD0
  have hS : va_S (kx_A (wMd b k5 vT vn vr vo vl vb fN fK fW fL fM fE fR fF fS fP fY fT fJ fI)) s.heap s.heap [] := va_S.rf
  have hl := lv_entry ([.ref (b 0)]) (n := 3) (Nat.le_of_ble_eq_true rfl)
  rw [lg_entry_eq]
  generalize (lg_sl ([.ref (b 0)]) ++ List.replicate (3 - (lg_sl ([.ref (b 0)])).length) Slot.unset).toArray = ls at hl ⊢
  have hl : lv_has ls 3 [(0, .ref (b 0))] := hl
  refine lv_iconst (v := 0) hx hb d_M_manyLost_0 (by decide) ?_
  refine lv_istore_n (lv' := [(1, .int 0), (0, .ref (b 0))]) hx hb d_M_manyLost_1 rfl hl (by decide) rfl (fun ls hl => ?_)
  refine lv_iconst (v := 0) hx hb d_M_manyLost_2 (by decide) ?_
  refine lv_istore_n (lv' := [(2, .int 0), (1, .int 0), (0, .ref (b 0))]) hx hb d_M_manyLost_3 rfl hl (by decide) rfl (fun ls hl => ?_)
  have lp : ∀ (q9 i : Nat) (ls : Array Slot), i + q9 = n → lv_has ls 3 [(2, .int (nI i)), (1, .int (nI (cnt (fun d => nz (fL d)) i))), (0, .ref (b 0))] → W p l e (headSpec w_M_manyLost ({ frames := 0, cells := 0, slots := 0, locals := 0 })).room s m ([.ref (b 0)] : List Value).toArray below meth c s.heap [] 0 0 (MQ below (kx_R (some (.int (nI (cnt (fun d => nz (fL d)) n))))) ([.ref (b 0)] : List Value).toArray s 0 0 (fun _ => False)) (F0 m 4 ls []) := by
    intro q9
    induction q9 with
    | zero =>
      intro i ls hi hl
      have hi : n = i := by omega
      subst hi
      refine lv_iload_n hx hb d_M_manyLost_4 rfl (lv_at hl 0 rfl) ?_
      refine lv_aload_n hx hb d_M_manyLost_5 rfl (lv_at hl 2 rfl) ?_
      refine va_get (D := (dC, dI)) (ci := 3) (v := .int vn) (C := R_M) (T := T_M) (N := 20) hx hb hts wu_M hown hK hP 0 rfl rfl 1 (by decide) (hts _ wf_M_62) (fun _ h9 => h9) rfl d_M_manyLost_6 ?_
      refine lv_icmp_ge (tgt := 35) hx hb d_M_manyLost_9 (by decide) (fun hc => ?_) (fun hc => ?_)
      · refine lv_iload_n hx hb d_M_manyLost_35 rfl (lv_at hl 1 rfl) ?_
        exact W.iret (v := (nI (cnt (fun d => nz (fL d)) n))) hx hb hr (fun t ht hW => kx_Ri (rfl) ht) (fun _ h => absurd h List.not_mem_nil) d_M_manyLost_36
      · exact absurd (by rw [hn]; exact nI_le (by omega) (by omega)) hc
    | succ q9 ih =>
      intro i ls hi hl
      refine lv_iload_n hx hb d_M_manyLost_4 rfl (lv_at hl 0 rfl) ?_
      refine lv_aload_n hx hb d_M_manyLost_5 rfl (lv_at hl 2 rfl) ?_
      refine va_get (D := (dC, dI)) (ci := 3) (v := .int vn) (C := R_M) (T := T_M) (N := 20) hx hb hts wu_M hown hK hP 0 rfl rfl 1 (by decide) (hts _ wf_M_62) (fun _ h9 => h9) rfl d_M_manyLost_6 ?_
      refine lv_icmp_ge (tgt := 35) hx hb d_M_manyLost_9 (by decide) (fun hc => ?_) (fun hc => ?_)
      · exact absurd hc (by rw [hn]; exact nI_ge (by omega) (by omega))
      · refine lv_iload_n hx hb d_M_manyLost_12 rfl (lv_at hl 1 rfl) ?_
        refine lv_aload_n hx hb d_M_manyLost_13 rfl (lv_at hl 2 rfl) ?_
        refine va_get (D := (dC, dI)) (ci := 3) (v := .ref (b 4)) (C := R_M) (T := T_M) (N := 20) hx hb hts wu_M hown hK hP 0 rfl rfl 7 (by decide) (hts _ wf_M_20) (fun _ h9 => h9) rfl d_M_manyLost_14 ?_
        refine lv_iload_n hx hb d_M_manyLost_17 rfl (lv_at hl 0 rfl) ?_
        refine kx_zald hx hb hK hP 4 3 rfl rfl i (rfl) (by omega) (by omega) d_M_manyLost_18 ?_
        refine lv_if_eq (tgt := 26) hx hb d_M_manyLost_19 (by decide) (fun hc_1 => ?_) (fun hc_1 => ?_)
        · refine lv_iconst (v := 0) hx hb d_M_manyLost_26 (by decide) ?_
          refine lv_iadd hx hb d_M_manyLost_27 ?_
          refine lv_istore_n (lv' := [(1, .int ((nI (cnt (fun d => nz (fL d)) i)) + 0)), (2, .int (nI i)), (0, .ref (b 0))]) hx hb d_M_manyLost_28 rfl hl (by decide) rfl (fun ls hl => ?_)
          refine lv_iinc (v := nI (i + 1)) (lv' := [(2, .int (nI (i + 1))), (1, .int ((nI (cnt (fun d => nz (fL d)) i)) + 0)), (0, .ref (b 0))]) hx hb d_M_manyLost_29 hl (k := 1) rfl (nI_1 i) (by decide) rfl (fun ls hl => ?_)
          refine lv_goto (tgt := 4) hx hb d_M_manyLost_32 (by decide) ?_
          exact ih (i + 1) ls (by omega) (by rw [cnt_f2 (p := fun d => nz (fL d)) (n := i) (nz_f hc_1)]; exact (lv_sub hl [0, 1, 2] rfl))
        · refine lv_iconst (v := 1) hx hb d_M_manyLost_22 (by decide) ?_
          refine lv_goto (tgt := 27) hx hb d_M_manyLost_23 (by decide) ?_
          refine lv_iadd hx hb d_M_manyLost_27 ?_
          refine lv_istore_n (lv' := [(1, .int ((nI (cnt (fun d => nz (fL d)) i)) + 1)), (2, .int (nI i)), (0, .ref (b 0))]) hx hb d_M_manyLost_28 rfl hl (by decide) rfl (fun ls hl => ?_)
          refine lv_iinc (v := nI (i + 1)) (lv' := [(2, .int (nI (i + 1))), (1, .int ((nI (cnt (fun d => nz (fL d)) i)) + 1)), (0, .ref (b 0))]) hx hb d_M_manyLost_29 hl (k := 1) rfl (nI_1 i) (by decide) rfl (fun ls hl => ?_)
          refine lv_goto (tgt := 4) hx hb d_M_manyLost_32 (by decide) ?_
          exact ih (i + 1) ls (by omega) (by rw [cnt_t2 (p := fun d => nz (fL d)) (n := i) (nz_t hc_1)]; exact (lv_sub hl [0, 1, 2] rfl))
  exact lp n 0 ls (by omega) (lv_sub hl [0, 1, 2] rfl)
set_option maxHeartbeats 4000000 in
set_option maxRecDepth 100000 in
theorem k_M_many (l : Launch) (dC : Nat → ClassId) (dI : Nat → Nat → Nat) (k5 : Nat → ClassId) (b : Nat → Nat) (vT vn vr vo vl vb : Int32) (fN fK fW fL fM fE fR fF fS fP fY fT fJ fI : FF) (n : Nat) (hn : vn = nI n) (hn4 : 4 ≤ n) (hn8 : n ≤ 8) (r : Nat) (er : vr = nI r) (hr2 : 12 ≤ r) (hr40 : r ≤ 40) : Met l y_M_many w_M_many ({ frames := 1, cells := 0, slots := 0, locals := 20 }) (kx_Pc (dC, dI) clA (tyL k5) (wMd b k5 vT vn vr vo vl vb fN fK fW fL fM fE fR fF fS fP fY fT fJ fI) [.ref (b 0)]) (kx_R (some (.int (nI (cnt (fun q => nz (fW q)) ((n - 2) * (r - 6))))))) 0 0 (fun _ => False) := by
  refine Met.ofW (cc := c_M_many) (maxL := 3) (ret := (some .int)) (by decide) rfl ?_
  intro p e s m args below meth c s₁ B hml hv
  obtain ⟨rfl, hP, hK, hD0⟩ := hv
  have hx := B.exec
  have hb := B.bytes
  have hr := B.returns
  have hts : ∀ w ∈ wsA, w.before _ s = true := fun w h => atoms_spec (ws := w_M_many) B.pre w (List.mem_cons_of_mem _ h)
  have hown : s.vm.findClass R_M = some m.cls := findClass_of_methodNamed B.named
  have hlocks := B.notSynchronized
  have hD := kx_D.self hD0
  have hS : va_S (kx_A (wMd b k5 vT vn vr vo vl vb fN fK fW fL fM fE fR fF fS fP fY fT fJ fI)) s.heap s.heap [] := va_S.rf
  have hl := lv_entry ([.ref (b 0)]) (n := 3) (Nat.le_of_ble_eq_true rfl)
  rw [lg_entry_eq]
  generalize (lg_sl ([.ref (b 0)]) ++ List.replicate (3 - (lg_sl ([.ref (b 0)])).length) Slot.unset).toArray = ls at hl ⊢
  have hl : lv_has ls 3 [(0, .ref (b 0))] := hl
  refine lv_iconst (v := 0) hx hb d_M_many_0 (by decide) ?_
  refine lv_istore_n (lv' := [(1, .int 0), (0, .ref (b 0))]) hx hb d_M_many_1 rfl hl (by decide) rfl (fun ls hl => ?_)
  refine lv_iconst (v := 0) hx hb d_M_many_2 (by decide) ?_
  refine lv_istore_n (lv' := [(2, .int 0), (1, .int 0), (0, .ref (b 0))]) hx hb d_M_many_3 rfl hl (by decide) rfl (fun ls hl => ?_)
  have lp : ∀ (q9 i : Nat) (ls : Array Slot), i + q9 = ((n - 2) * (r - 6)) → lv_has ls 3 [(2, .int (nI i)), (1, .int (nI (cnt (fun q => nz (fW q)) i))), (0, .ref (b 0))] → W p l e (headSpec w_M_many ({ frames := 1, cells := 0, slots := 0, locals := 20 })).room s m ([.ref (b 0)] : List Value).toArray below meth c s.heap [] 0 0 (MQ below (kx_R (some (.int (nI (cnt (fun q => nz (fW q)) ((n - 2) * (r - 6))))))) ([.ref (b 0)] : List Value).toArray s 0 0 (fun _ => False)) (F0 m 4 ls []) := by
    intro q9
    induction q9 with
    | zero =>
      intro i ls hi hl
      have hi : ((n - 2) * (r - 6)) = i := by omega
      subst hi
      refine lv_iload_n hx hb d_M_many_4 rfl (lv_at hl 0 rfl) ?_
      refine lv_aload_n hx hb d_M_many_5 rfl (lv_at hl 2 rfl) ?_
      refine kx_VRW (As := []) (rest := [.int (nI ((n - 2) * (r - 6)))]) ⟨hx, hb, hml, hown, hts⟩ (k_M_blocks l dC dI k5 b vT vn vr vo vl vb fN fK fW fL fM fE fR fF fS fP fY fT fJ fI ) (cwV 0 hts (goodV wm_M_86 wn_M_blocks ws_M_blocks wi_M wc_M_blocks) rfl rfl rfl (by decide +kernel) ⟨Nat.le_of_ble_eq_true rfl, Nat.le_of_ble_eq_true rfl⟩) ⟨Nat.zero_le _, Nat.zero_le _⟩ hK hP hD 0 rfl rfl rfl hl.1 rfl (Nat.le_of_ble_eq_true rfl) d_M_many_6 ?_
      refine W.eq (g2 := F0 m 9 ls [.int ((vn - 2) * (vr - 6)), .int (nI ((n - 2) * (r - 6)))]) rfl ?_
      refine lv_icmp_ge (tgt := 35) hx hb d_M_many_9 (by decide) (fun hc => ?_) (fun hc => ?_)
      · refine lv_iload_n hx hb d_M_many_35 rfl (lv_at hl 1 rfl) ?_
        exact W.iret (v := (nI (cnt (fun q => nz (fW q)) ((n - 2) * (r - 6))))) hx hb hr (fun t ht hW => kx_Ri (rfl) ht) (fun _ h => absurd h List.not_mem_nil) d_M_many_36
      · exact absurd (by rw [blk_nI hn er hn4 hr2]; exact nI_le (by omega) (by have := blk_le hn8 hr40; omega)) hc
    | succ q9 ih =>
      intro i ls hi hl
      refine lv_iload_n hx hb d_M_many_4 rfl (lv_at hl 0 rfl) ?_
      refine lv_aload_n hx hb d_M_many_5 rfl (lv_at hl 2 rfl) ?_
      refine kx_VRW (As := []) (rest := [.int (nI i)]) ⟨hx, hb, hml, hown, hts⟩ (k_M_blocks l dC dI k5 b vT vn vr vo vl vb fN fK fW fL fM fE fR fF fS fP fY fT fJ fI ) (cwV 0 hts (goodV wm_M_86 wn_M_blocks ws_M_blocks wi_M wc_M_blocks) rfl rfl rfl (by decide +kernel) ⟨Nat.le_of_ble_eq_true rfl, Nat.le_of_ble_eq_true rfl⟩) ⟨Nat.zero_le _, Nat.zero_le _⟩ hK hP hD 0 rfl rfl rfl hl.1 rfl (Nat.le_of_ble_eq_true rfl) d_M_many_6 ?_
      refine W.eq (g2 := F0 m 9 ls [.int ((vn - 2) * (vr - 6)), .int (nI i)]) rfl ?_
      refine lv_icmp_ge (tgt := 35) hx hb d_M_many_9 (by decide) (fun hc => ?_) (fun hc => ?_)
      · exact absurd hc (by rw [blk_nI hn er hn4 hr2]; exact nI_ge (by omega) (by have := blk_le hn8 hr40; omega))
      · have hB := blk_le hn8 hr40
        refine lv_iload_n hx hb d_M_many_12 rfl (lv_at hl 1 rfl) ?_
        refine lv_aload_n hx hb d_M_many_13 rfl (lv_at hl 2 rfl) ?_
        refine va_get (D := (dC, dI)) (ci := 3) (v := .ref (b 3)) (C := R_M) (T := T_M) (N := 20) hx hb hts wu_M hown hK hP 0 rfl rfl 6 (by decide) (hts _ wf_M_16) (fun _ h9 => h9) rfl d_M_many_14 ?_
        refine lv_iload_n hx hb d_M_many_17 rfl (lv_at hl 0 rfl) ?_
        refine kx_zald hx hb hK hP 3 3 rfl rfl i (rfl) (by omega) (by omega) d_M_many_18 ?_
        refine lv_if_eq (tgt := 26) hx hb d_M_many_19 (by decide) (fun hc_1 => ?_) (fun hc_1 => ?_)
        · refine lv_iconst (v := 0) hx hb d_M_many_26 (by decide) ?_
          refine lv_iadd hx hb d_M_many_27 ?_
          refine lv_istore_n (lv' := [(1, .int ((nI (cnt (fun q => nz (fW q)) i)) + 0)), (2, .int (nI i)), (0, .ref (b 0))]) hx hb d_M_many_28 rfl hl (by decide) rfl (fun ls hl => ?_)
          refine lv_iinc (v := nI (i + 1)) (lv' := [(2, .int (nI (i + 1))), (1, .int ((nI (cnt (fun q => nz (fW q)) i)) + 0)), (0, .ref (b 0))]) hx hb d_M_many_29 hl (k := 1) rfl (nI_1 i) (by decide) rfl (fun ls hl => ?_)
          refine lv_goto (tgt := 4) hx hb d_M_many_32 (by decide) ?_
          exact ih (i + 1) ls (by omega) (by rw [cnt_f2 (p := fun q => nz (fW q)) (n := i) (nz_f hc_1)]; exact (lv_sub hl [0, 1, 2] rfl))
        · refine lv_iconst (v := 1) hx hb d_M_many_22 (by decide) ?_
          refine lv_goto (tgt := 27) hx hb d_M_many_23 (by decide) ?_
          refine lv_iadd hx hb d_M_many_27 ?_
          refine lv_istore_n (lv' := [(1, .int ((nI (cnt (fun q => nz (fW q)) i)) + 1)), (2, .int (nI i)), (0, .ref (b 0))]) hx hb d_M_many_28 rfl hl (by decide) rfl (fun ls hl => ?_)
          refine lv_iinc (v := nI (i + 1)) (lv' := [(2, .int (nI (i + 1))), (1, .int ((nI (cnt (fun q => nz (fW q)) i)) + 1)), (0, .ref (b 0))]) hx hb d_M_many_29 hl (k := 1) rfl (nI_1 i) (by decide) rfl (fun ls hl => ?_)
          refine lv_goto (tgt := 4) hx hb d_M_many_32 (by decide) ?_
          exact ih (i + 1) ls (by omega) (by rw [cnt_t2 (p := fun q => nz (fW q)) (n := i) (nz_t hc_1)]; exact (lv_sub hl [0, 1, 2] rfl))
  exact lp ((n - 2) * (r - 6)) 0 ls (by omega) (lv_sub hl [0, 1, 2] rfl)
set_option maxHeartbeats 4000000 in
set_option maxRecDepth 100000 in
theorem k_M_bitsOf (l : Launch) (dC : Nat → ClassId) (dI : Nat → Nat → Nat) (k5 : Nat → ClassId) (b : Nat → Nat) (vT vn vr vo vl vb : Int32) (fN fK fW fL fM fE fR fF fS fP fY fT fJ fI : FF) (bits : Int64) (k : Nat) (hk : k ≤ 31) : Met l y_M_bitsOf w_M_bitsOf ({ frames := 0, cells := 0, slots := 0, locals := 0 }) (kx_Pc (dC, dI) clA (tyL k5) (wMd b k5 vT vn vr vo vl vb fN fK fW fL fM fE fR fF fS fP fY fT fJ fI) [.ref (b 0), .long bits, .int (nI k)]) (kx_R (some (.int (mBits bits k)))) 0 0 (fun _ => False) := by
  refine Met.ofW (cc := c_M_bitsOf) (maxL := 4) (ret := (some .int)) (by decide) rfl ?_
  intro p e s m args below meth c s₁ B hml hv
  obtain ⟨rfl, hP, hK, hD0⟩ := hv
  have hx := B.exec
  have hb := B.bytes
  have hr := B.returns
  have hts : ∀ w ∈ wsA, w.before _ s = true := fun w h => atoms_spec (ws := w_M_bitsOf) B.pre w (List.mem_cons_of_mem _ h)
  have hown : s.vm.findClass R_M = some m.cls := findClass_of_methodNamed B.named
  have hlocks := B.notSynchronized
  have hD := kx_D.self hD0
  have hS : va_S (kx_A (wMd b k5 vT vn vr vo vl vb fN fK fW fL fM fE fR fF fS fP fY fT fJ fI)) s.heap s.heap [] := va_S.rf
  have hl := lv_entry ([.ref (b 0), .long bits, .int (nI k)]) (n := 4) (Nat.le_of_ble_eq_true rfl)
  rw [lg_entry_eq]
  generalize (lg_sl ([.ref (b 0), .long bits, .int (nI k)]) ++ List.replicate (4 - (lg_sl ([.ref (b 0), .long bits, .int (nI k)])).length) Slot.unset).toArray = ls at hl ⊢
  have hl : lv_has ls 4 [(0, .ref (b 0)), (1, .long bits), (3, .int (nI k))] := hl
  refine lv_iload_n hx hb d_M_bitsOf_0 rfl (lv_at hl 2 rfl) ?_
  refine lv_bipush (v := 31) hx hb d_M_bitsOf_1 (by decide) ?_
  refine lv_icmp_le (tgt := 10) hx hb d_M_bitsOf_3 (by decide) (fun hc_1 => ?_) (fun hc_1 => ?_)
  · refine lv_lload_n hx hb d_M_bitsOf_10 rfl (lv_at hl 1 rfl) ?_
    refine lv_iconst (v := 2) hx hb d_M_bitsOf_11 (by decide) ?_
    refine lv_iload_n hx hb d_M_bitsOf_12 rfl (lv_at hl 2 rfl) ?_
    refine lv_imul hx hb d_M_bitsOf_13 ?_
    refine lv_lshr (v := (bits >>> ((2 * (nI k)).toInt64 &&& 63))) hx hb d_M_bitsOf_14 rfl ?_
    refine lv_ldc2 hx hb hown (hts _ wk_M_90) d_M_bitsOf_15 ?_
    refine lv_land hx hb d_M_bitsOf_18 ?_
    refine lv_l2i (v := ((bits >>> ((2 * (nI k)).toInt64 &&& 63)) &&& 3).toInt32) hx hb d_M_bitsOf_19 rfl ?_
    exact W.iret (v := ((bits >>> ((2 * (nI k)).toInt64 &&& 63)) &&& 3).toInt32) hx hb hr (fun t ht hW => kx_Ri (rfl) ht) (fun _ h => absurd h List.not_mem_nil) d_M_bitsOf_20
  · exact absurd (nI_le (b := 31) hk (by omega)) hc_1
set_option maxHeartbeats 4000000 in
set_option maxRecDepth 100000 in
theorem k_M_wipe (l : Launch) (dC : Nat → ClassId) (dI : Nat → Nat → Nat) (k5 : Nat → ClassId) (b : Nat → Nat) (vT vn vr vo vl vb : Int32) (fN fK fW fL fM fE fR fF fS fP fY fT fJ fI : FF) (d : Nat) (hd : d < 8) : Met l y_M_wipe w_M_wipe ({ frames := 0, cells := 0, slots := 0, locals := 0 }) (kx_Pc (dC, dI) clA (tyL k5) (wMd b k5 vT vn vr vo vl vb fN fK fW fL fM fE fR fF fS fP fY fT fJ fI) [.ref (b 0), .int (nI d)]) (kx_Q (dC, dI) clA (wMd b k5 vT vn vr vo vl vb fN fK fW fL fM fE fR fF fS fP fY fT fJ fI) (wMd b k5 vT vn vr vo vl vb fN fK fW fL fM fE fR (upd (upd fF (2 * d) 0) (2 * d + 1) 0) (upd (upd fS (2 * d) 0) (2 * d + 1) 0) fP fY fT fJ fI) none) 0 0 (kx_A (wMd b k5 vT vn vr vo vl vb fN fK fW fL fM fE fR fF fS fP fY fT fJ fI)) := by
  refine Met.ofW (cc := c_M_wipe) (maxL := 3) (ret := none) (by decide) rfl ?_
  intro p e s m args below meth c s₁ B hml hv
  obtain ⟨rfl, hP, hK, hD0⟩ := hv
  have hx := B.exec
  have hb := B.bytes
  have hr := B.returns
  have hts : ∀ w ∈ wsA, w.before _ s = true := fun w h => atoms_spec (ws := w_M_wipe) B.pre w (List.mem_cons_of_mem _ h)
  have hown : s.vm.findClass R_M = some m.cls := findClass_of_methodNamed B.named
  have hlocks := B.notSynchronized
  have hD := kx_D.self hD0
  have hS : va_S (kx_A (wMd b k5 vT vn vr vo vl vb fN fK fW fL fM fE fR fF fS fP fY fT fJ fI)) s.heap s.heap [] := va_S.rf
  have hl := lv_entry ([.ref (b 0), .int (nI d)]) (n := 3) (Nat.le_of_ble_eq_true rfl)
  rw [lg_entry_eq]
  generalize (lg_sl ([.ref (b 0), .int (nI d)]) ++ List.replicate (3 - (lg_sl ([.ref (b 0), .int (nI d)])).length) Slot.unset).toArray = ls at hl ⊢
  have hl : lv_has ls 3 [(0, .ref (b 0)), (1, .int (nI d))] := hl
  refine lv_iconst (v := 0) hx hb d_M_wipe_0 (by decide) ?_
  refine lv_istore_n (lv' := [(2, .int 0), (0, .ref (b 0)), (1, .int (nI d))]) hx hb d_M_wipe_1 rfl hl (by decide) rfl (fun ls hl => ?_)
  refine lv_iload_n hx hb d_M_wipe_2 rfl (lv_at hl 0 rfl) ?_
  refine lv_iconst (v := 2) hx hb d_M_wipe_3 (by decide) ?_
  refine lv_icmp_ge (tgt := 35) hx hb d_M_wipe_4 (by decide) (fun hc_1 => ?_) (fun hc_1 => ?_)
  · exact absurd hc_1 (by decide)
  · refine lv_aload_n hx hb d_M_wipe_7 rfl (lv_at hl 1 rfl) ?_
    refine va_get (D := (dC, dI)) (ci := 3) (v := .ref (b 8)) (C := R_M) (T := T_M) (N := 20) hx hb hts wu_M hown hK hP 0 rfl rfl 11 (by decide) (hts _ wf_M_33) (fun _ h9 => h9) rfl d_M_wipe_8 ?_
    refine lv_iconst (v := 2) hx hb d_M_wipe_11 (by decide) ?_
    refine lv_iload_n hx hb d_M_wipe_12 rfl (lv_at hl 2 rfl) ?_
    refine lv_imul hx hb d_M_wipe_13 ?_
    refine lv_iload_n hx hb d_M_wipe_14 rfl (lv_at hl 0 rfl) ?_
    refine lv_iadd hx hb d_M_wipe_15 ?_
    refine lv_iconst (v := 0) hx hb d_M_wipe_16 (by decide) ?_
    refine kx_iast (ws' := [((b 0), .inr (3, [.int vT, .int vn, .int vr, .int vo, .ref (b 1), .ref (b 2), .ref (b 3), .ref (b 4), .ref (b 5), .ref (b 6), .ref (b 7), .ref (b 8), .ref (b 9), .int vl, .int vb, .ref (b 10), .ref (b 11), .ref (b 12), .ref (b 13), .ref (b 14)])), ((b 1), .inl ((k5 2), 13056, .inl fN)), ((b 2), .inl ((k5 2), 13056, .inl fK)), ((b 3), .inl ((k5 3), 204, .inl fW)), ((b 4), .inl ((k5 3), 8, .inl fL)), ((b 5), .inl ((k5 0), 8, .inl fM)), ((b 6), .inl ((k5 0), 8, .inl fE)), ((b 7), .inl ((k5 3), 320, .inl fR)), ((b 8), .inl ((k5 0), 16, .inl (upd fF (2 * d) 0))), ((b 9), .inl ((k5 0), 16, .inl fS)), ((b 10), .inl ((k5 0), 1300, .inl fP)), ((b 11), .inl ((k5 3), 1300, .inl fY)), ((b 12), .inl ((k5 0), 10400, .inl fT)), ((b 13), .inl ((k5 2), 13056, .inl fJ)), ((b 14), .inl ((k5 3), 204, .inl fI))]) hx hb hK hP hD hS 8 0 rfl rfl (2 * d) (by rw [show (2 : Int32) * nI d = nI (2 * d) from pk_mul 2 d, Int32.add_zero]) (by omega) (by omega) rfl d_M_wipe_17 (fun H locs hP hD hS => ?_)
    refine lv_aload_n hx hb d_M_wipe_18 rfl (lv_at hl 1 rfl) ?_
    refine va_get (D := (dC, dI)) (ci := 3) (v := .ref (b 9)) (C := R_M) (T := T_M) (N := 20) hx hb hts wu_M hown hK hP 0 rfl rfl 12 (by decide) (hts _ wf_M_36) (fun _ h9 => h9) rfl d_M_wipe_19 ?_
    refine lv_iconst (v := 2) hx hb d_M_wipe_22 (by decide) ?_
    refine lv_iload_n hx hb d_M_wipe_23 rfl (lv_at hl 2 rfl) ?_
    refine lv_imul hx hb d_M_wipe_24 ?_
    refine lv_iload_n hx hb d_M_wipe_25 rfl (lv_at hl 0 rfl) ?_
    refine lv_iadd hx hb d_M_wipe_26 ?_
    refine lv_iconst (v := 0) hx hb d_M_wipe_27 (by decide) ?_
    refine kx_iast (ws' := [((b 0), .inr (3, [.int vT, .int vn, .int vr, .int vo, .ref (b 1), .ref (b 2), .ref (b 3), .ref (b 4), .ref (b 5), .ref (b 6), .ref (b 7), .ref (b 8), .ref (b 9), .int vl, .int vb, .ref (b 10), .ref (b 11), .ref (b 12), .ref (b 13), .ref (b 14)])), ((b 1), .inl ((k5 2), 13056, .inl fN)), ((b 2), .inl ((k5 2), 13056, .inl fK)), ((b 3), .inl ((k5 3), 204, .inl fW)), ((b 4), .inl ((k5 3), 8, .inl fL)), ((b 5), .inl ((k5 0), 8, .inl fM)), ((b 6), .inl ((k5 0), 8, .inl fE)), ((b 7), .inl ((k5 3), 320, .inl fR)), ((b 8), .inl ((k5 0), 16, .inl (upd fF (2 * d) 0))), ((b 9), .inl ((k5 0), 16, .inl (upd fS (2 * d) 0))), ((b 10), .inl ((k5 0), 1300, .inl fP)), ((b 11), .inl ((k5 3), 1300, .inl fY)), ((b 12), .inl ((k5 0), 10400, .inl fT)), ((b 13), .inl ((k5 2), 13056, .inl fJ)), ((b 14), .inl ((k5 3), 204, .inl fI))]) hx hb hK hP hD hS 9 0 rfl rfl (2 * d) (by rw [show (2 : Int32) * nI d = nI (2 * d) from pk_mul 2 d, Int32.add_zero]) (by omega) (by omega) rfl d_M_wipe_28 (fun H locs hP hD hS => ?_)
    refine lv_iinc (v := 1) (lv' := [(2, .int 1), (0, .ref (b 0)), (1, .int (nI d))]) hx hb d_M_wipe_29 hl (k := 0) rfl (by decide) (by decide) rfl (fun ls hl => ?_)
    refine lv_goto (tgt := 2) hx hb d_M_wipe_32 (by decide) ?_
    refine lv_iload_n hx hb d_M_wipe_2 rfl (lv_at hl 0 rfl) ?_
    refine lv_iconst (v := 2) hx hb d_M_wipe_3 (by decide) ?_
    refine lv_icmp_ge (tgt := 35) hx hb d_M_wipe_4 (by decide) (fun hc_2 => ?_) (fun hc_2 => ?_)
    · exact absurd hc_2 (by decide)
    · refine lv_aload_n hx hb d_M_wipe_7 rfl (lv_at hl 1 rfl) ?_
      refine va_get (D := (dC, dI)) (ci := 3) (v := .ref (b 8)) (C := R_M) (T := T_M) (N := 20) hx hb hts wu_M hown hK hP 0 rfl rfl 11 (by decide) (hts _ wf_M_33) (fun _ h9 => h9) rfl d_M_wipe_8 ?_
      refine lv_iconst (v := 2) hx hb d_M_wipe_11 (by decide) ?_
      refine lv_iload_n hx hb d_M_wipe_12 rfl (lv_at hl 2 rfl) ?_
      refine lv_imul hx hb d_M_wipe_13 ?_
      refine lv_iload_n hx hb d_M_wipe_14 rfl (lv_at hl 0 rfl) ?_
      refine lv_iadd hx hb d_M_wipe_15 ?_
      refine lv_iconst (v := 0) hx hb d_M_wipe_16 (by decide) ?_
      refine kx_iast (ws' := [((b 0), .inr (3, [.int vT, .int vn, .int vr, .int vo, .ref (b 1), .ref (b 2), .ref (b 3), .ref (b 4), .ref (b 5), .ref (b 6), .ref (b 7), .ref (b 8), .ref (b 9), .int vl, .int vb, .ref (b 10), .ref (b 11), .ref (b 12), .ref (b 13), .ref (b 14)])), ((b 1), .inl ((k5 2), 13056, .inl fN)), ((b 2), .inl ((k5 2), 13056, .inl fK)), ((b 3), .inl ((k5 3), 204, .inl fW)), ((b 4), .inl ((k5 3), 8, .inl fL)), ((b 5), .inl ((k5 0), 8, .inl fM)), ((b 6), .inl ((k5 0), 8, .inl fE)), ((b 7), .inl ((k5 3), 320, .inl fR)), ((b 8), .inl ((k5 0), 16, .inl (upd (upd fF (2 * d) 0) (2 * d + 1) 0))), ((b 9), .inl ((k5 0), 16, .inl (upd fS (2 * d) 0))), ((b 10), .inl ((k5 0), 1300, .inl fP)), ((b 11), .inl ((k5 3), 1300, .inl fY)), ((b 12), .inl ((k5 0), 10400, .inl fT)), ((b 13), .inl ((k5 2), 13056, .inl fJ)), ((b 14), .inl ((k5 3), 204, .inl fI))]) hx hb hK hP hD hS 8 0 rfl rfl (2 * d + 1) (by rw [show (2 : Int32) * nI d = nI (2 * d) from pk_mul 2 d]; exact nI_1 _) (by omega) (by omega) rfl d_M_wipe_17 (fun H locs hP hD hS => ?_)
      refine lv_aload_n hx hb d_M_wipe_18 rfl (lv_at hl 1 rfl) ?_
      refine va_get (D := (dC, dI)) (ci := 3) (v := .ref (b 9)) (C := R_M) (T := T_M) (N := 20) hx hb hts wu_M hown hK hP 0 rfl rfl 12 (by decide) (hts _ wf_M_36) (fun _ h9 => h9) rfl d_M_wipe_19 ?_
      refine lv_iconst (v := 2) hx hb d_M_wipe_22 (by decide) ?_
      refine lv_iload_n hx hb d_M_wipe_23 rfl (lv_at hl 2 rfl) ?_
      refine lv_imul hx hb d_M_wipe_24 ?_
      refine lv_iload_n hx hb d_M_wipe_25 rfl (lv_at hl 0 rfl) ?_
      refine lv_iadd hx hb d_M_wipe_26 ?_
      refine lv_iconst (v := 0) hx hb d_M_wipe_27 (by decide) ?_
      refine kx_iast (ws' := [((b 0), .inr (3, [.int vT, .int vn, .int vr, .int vo, .ref (b 1), .ref (b 2), .ref (b 3), .ref (b 4), .ref (b 5), .ref (b 6), .ref (b 7), .ref (b 8), .ref (b 9), .int vl, .int vb, .ref (b 10), .ref (b 11), .ref (b 12), .ref (b 13), .ref (b 14)])), ((b 1), .inl ((k5 2), 13056, .inl fN)), ((b 2), .inl ((k5 2), 13056, .inl fK)), ((b 3), .inl ((k5 3), 204, .inl fW)), ((b 4), .inl ((k5 3), 8, .inl fL)), ((b 5), .inl ((k5 0), 8, .inl fM)), ((b 6), .inl ((k5 0), 8, .inl fE)), ((b 7), .inl ((k5 3), 320, .inl fR)), ((b 8), .inl ((k5 0), 16, .inl (upd (upd fF (2 * d) 0) (2 * d + 1) 0))), ((b 9), .inl ((k5 0), 16, .inl (upd (upd fS (2 * d) 0) (2 * d + 1) 0))), ((b 10), .inl ((k5 0), 1300, .inl fP)), ((b 11), .inl ((k5 3), 1300, .inl fY)), ((b 12), .inl ((k5 0), 10400, .inl fT)), ((b 13), .inl ((k5 2), 13056, .inl fJ)), ((b 14), .inl ((k5 3), 204, .inl fI))]) hx hb hK hP hD hS 9 0 rfl rfl (2 * d + 1) (by rw [show (2 : Int32) * nI d = nI (2 * d) from pk_mul 2 d]; exact nI_1 _) (by omega) (by omega) rfl d_M_wipe_28 (fun H locs hP hD hS => ?_)
      refine lv_iinc (v := 2) (lv' := [(2, .int 2), (0, .ref (b 0)), (1, .int (nI d))]) hx hb d_M_wipe_29 hl (k := 0) rfl (by decide) (by decide) rfl (fun ls hl => ?_)
      refine lv_goto (tgt := 2) hx hb d_M_wipe_32 (by decide) ?_
      refine lv_iload_n hx hb d_M_wipe_2 rfl (lv_at hl 0 rfl) ?_
      refine lv_iconst (v := 2) hx hb d_M_wipe_3 (by decide) ?_
      refine lv_icmp_ge (tgt := 35) hx hb d_M_wipe_4 (by decide) (fun hc_3 => ?_) (fun hc_3 => ?_)
      · exact W.vret hx hb hr (fun t ht hW => kx_Qv ht hP (rfl) hS rfl) hS.2.2 d_M_wipe_35
      · exact absurd hc_3 (by decide)
set_option maxHeartbeats 4000000 in
set_option maxRecDepth 100000 in
theorem k_M_powerOff (l : Launch) (dC : Nat → ClassId) (dI : Nat → Nat → Nat) (k5 : Nat → ClassId) (b : Nat → Nat) (vT vn vr vo vl vb : Int32) (fN fK fW fL fM fE fR fF fS fP fY fT fJ fI : FF)  : Met l y_M_powerOff w_M_powerOff ({ frames := 0, cells := 0, slots := 0, locals := 0 }) (kx_Pc (dC, dI) clA (tyL k5) (wMd b k5 vT vn vr vo vl vb fN fK fW fL fM fE fR fF fS fP fY fT fJ fI) [.ref (b 0)]) (kx_Q (dC, dI) clA (wMd b k5 vT vn vr vo vl vb fN fK fW fL fM fE fR fF fS fP fY fT fJ fI) (wMd b k5 vT vn vr 1 vl vb fN fK (fill0 fW 0 204) fL fM fE fR fF fS fP fY fT fJ fI) (some (.int (-2)))) 0 0 (kx_A (wMd b k5 vT vn vr vo vl vb fN fK fW fL fM fE fR fF fS fP fY fT fJ fI)) := by
  refine Met.ofW (cc := c_M_powerOff) (maxL := 2) (ret := (some .int)) (by decide) rfl ?_
  intro p e s m args below meth c s₁ B hml hv
  obtain ⟨rfl, hP, hK, hD0⟩ := hv
  have hx := B.exec
  have hb := B.bytes
  have hr := B.returns
  have hts : ∀ w ∈ wsA, w.before _ s = true := fun w h => atoms_spec (ws := w_M_powerOff) B.pre w (List.mem_cons_of_mem _ h)
  have hown : s.vm.findClass R_M = some m.cls := findClass_of_methodNamed B.named
  have hlocks := B.notSynchronized
  have hD := kx_D.self hD0
  have hS : va_S (kx_A (wMd b k5 vT vn vr vo vl vb fN fK fW fL fM fE fR fF fS fP fY fT fJ fI)) s.heap s.heap [] := va_S.rf
  have hl := lv_entry ([.ref (b 0)]) (n := 2) (Nat.le_of_ble_eq_true rfl)
  rw [lg_entry_eq]
  generalize (lg_sl ([.ref (b 0)]) ++ List.replicate (2 - (lg_sl ([.ref (b 0)])).length) Slot.unset).toArray = ls at hl ⊢
  have hl : lv_has ls 2 [(0, .ref (b 0))] := hl
  refine lv_aload_n hx hb d_M_powerOff_0 rfl (lv_at hl 0 rfl) ?_
  refine lv_iconst (v := 1) hx hb d_M_powerOff_1 (by decide) ?_
  refine kx_put (ws' := (wMd b k5 vT vn vr 1 vl vb fN fK fW fL fM fE fR fF fS fP fY fT fJ fI)) (D := (dC, dI)) (ci := 3) (v := .int 1) (ty := .boolean) (C := R_M) (T := T_M) (N := 20) hx hb hts wu_M ty_M ok_M nm_M hown hK hP hD hS 0 rfl rfl 3 (by decide) (hts _ wf_M_68) (fun _ h9 => h9) rfl (by decide +kernel) rfl rfl (Nat.le_of_ble_eq_true rfl) rfl d_M_powerOff_2 (fun H locs hP hD hS => ?_)
  refine lv_iconst (v := 0) hx hb d_M_powerOff_5 (by decide) ?_
  refine lv_istore_n (lv' := [(1, .int 0), (0, .ref (b 0))]) hx hb d_M_powerOff_6 rfl hl (by decide) rfl (fun ls hl => ?_)
  have lp : ∀ (q9 i : Nat) (H : Heap) (locs : List Loc) (ls : Array Slot), i + q9 = 204 → va_P (dC, dI) clA (wMd b k5 vT vn vr 1 vl vb fN fK (fill0 fW 0 i) fL fM fE fR fF fS fP fY fT fJ fI) H → va_D (kx_A (wMd b k5 vT vn vr vo vl vb fN fK fW fL fM fE fR fF fS fP fY fT fJ fI)) (wMd b k5 vT vn vr 1 vl vb fN fK (fill0 fW 0 i) fL fM fE fR fF fS fP fY fT fJ fI) → va_S (kx_A (wMd b k5 vT vn vr vo vl vb fN fK fW fL fM fE fR fF fS fP fY fT fJ fI)) s.heap H locs → lv_has ls 2 [(1, .int (nI i)), (0, .ref (b 0))] → W p l e (headSpec w_M_powerOff ({ frames := 0, cells := 0, slots := 0, locals := 0 })).room s m ([.ref (b 0)] : List Value).toArray below meth c H locs 0 0 (MQ below (kx_Q (dC, dI) clA (wMd b k5 vT vn vr vo vl vb fN fK fW fL fM fE fR fF fS fP fY fT fJ fI) (wMd b k5 vT vn vr 1 vl vb fN fK (fill0 fW 0 204) fL fM fE fR fF fS fP fY fT fJ fI) (some (.int (-2)))) ([.ref (b 0)] : List Value).toArray s 0 0 (kx_A (wMd b k5 vT vn vr vo vl vb fN fK fW fL fM fE fR fF fS fP fY fT fJ fI))) (F0 m 7 ls []) := by
    intro q9
    induction q9 with
    | zero =>
      intro i H locs ls hi hP hD hS hl
      have hi : 204 = i := by omega
      subst hi
      refine lv_iload_n hx hb d_M_powerOff_7 rfl (lv_at hl 0 rfl) ?_
      refine lv_sipush (v := 204) hx hb d_M_powerOff_8 (by decide) ?_
      refine lv_icmp_ge (tgt := 27) hx hb d_M_powerOff_11 (by decide) (fun hc => ?_) (fun hc => ?_)
      · refine lv_bipush (v := (-2)) hx hb d_M_powerOff_27 (by decide) ?_
        exact W.iret (v := (-2)) hx hb hr (fun t ht hW => kx_Qi (rfl) ht hP (rfl) hS rfl) hS.2.2 d_M_powerOff_29
      · exact absurd (by rw [show (204 : Int32) = nI 204 from rfl]; exact nI_le (by omega) (by omega)) hc
    | succ q9 ih =>
      intro i H locs ls hi hP hD hS hl
      refine lv_iload_n hx hb d_M_powerOff_7 rfl (lv_at hl 0 rfl) ?_
      refine lv_sipush (v := 204) hx hb d_M_powerOff_8 (by decide) ?_
      refine lv_icmp_ge (tgt := 27) hx hb d_M_powerOff_11 (by decide) (fun hc => ?_) (fun hc => ?_)
      · exact absurd hc (by rw [show (204 : Int32) = nI 204 from rfl]; exact nI_ge (by omega) (by omega))
      · refine lv_aload_n hx hb d_M_powerOff_14 rfl (lv_at hl 1 rfl) ?_
        refine va_get (D := (dC, dI)) (ci := 3) (v := .ref (b 3)) (C := R_M) (T := T_M) (N := 20) hx hb hts wu_M hown hK hP 0 rfl rfl 6 (by decide) (hts _ wf_M_16) (fun _ h9 => h9) rfl d_M_powerOff_15 ?_
        refine lv_iload_n hx hb d_M_powerOff_18 rfl (lv_at hl 0 rfl) ?_
        refine lv_iconst (v := 0) hx hb d_M_powerOff_19 (by decide) ?_
        refine kx_zast (ws' := (wMd b k5 vT vn vr 1 vl vb fN fK (fill0 fW 0 (i + 1)) fL fM fE fR fF fS fP fY fT fJ fI)) hx hb hK hP hD hS 3 3 rfl rfl i (rfl) (by omega) (by omega) rfl rfl d_M_powerOff_20 (fun H locs hP hD hS => ?_)
        refine lv_iinc (v := nI (i + 1)) (lv' := [(1, .int (nI (i + 1))), (0, .ref (b 0))]) hx hb d_M_powerOff_21 hl (k := 0) rfl (nI_1 i) (by decide) rfl (fun ls hl => ?_)
        refine lv_goto (tgt := 7) hx hb d_M_powerOff_24 (by decide) ?_
        exact ih (i + 1) H locs ls (by omega) hP hD hS (lv_sub hl [0, 1] rfl)
  exact lp 204 0 H locs ls (by omega) hP hD hS (lv_sub hl [0, 1] rfl)
