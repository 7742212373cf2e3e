abbrev wD (a : Nat → Nat) (k5 : Nat → ClassId) (P : PP) (G J : GG) (L : LL) : va_W := [((a 0), .inr (2, [.ref (a 1), .ref (a 2), .ref (a 3), .ref (a 4), .ref (a 8), .ref (a 12), .int (P.1), .int (P.2.1), .int (P.2.2.1)])), ((a 1), .inl ((k5 0), 8, .inl (P.2.2.2.1))), ((a 2), .inl ((k5 1), 8, .inr (.inl (P.2.2.2.2.1)))), ((a 3), .inl ((k5 2), 13056, .inl (P.2.2.2.2.2))), ((a 4), .inr (0, [.ref (a 5), .ref (a 6), .ref (a 7), .int (G.1), .int (G.2.1)])), ((a 5), .inl ((k5 0), 24, .inl (G.2.2.1))), ((a 6), .inl ((k5 0), 24, .inl (G.2.2.2.1))), ((a 7), .inl ((k5 2), 1536, .inl (G.2.2.2.2))), ((a 8), .inr (0, [.ref (a 9), .ref (a 10), .ref (a 11), .int (J.1), .int (J.2.1)])), ((a 9), .inl ((k5 0), 24, .inl (J.2.2.1))), ((a 10), .inl ((k5 0), 24, .inl (J.2.2.2.1))), ((a 11), .inl ((k5 2), 1536, .inl (J.2.2.2.2))), ((a 12), .inr (1, [.ref (a 13), .ref (a 14), .ref (a 15), .ref (a 16), .ref (a 17), .int (L.1 0), .int (L.1 1)])), ((a 13), .inl ((k5 4), 2, .inr (.inr (.inr (.inr (gr2 (a 18) (a 19))))))), ((a 14), .inl ((k5 4), 2, .inr (.inr (.inr (.inr (gr2 (a 20) (a 21))))))), ((a 15), .inl ((k5 4), 2, .inr (.inr (.inr (.inr (gr2 (a 22) (a 23))))))), ((a 16), .inl ((k5 0), 2, .inl (L.2 6))), ((a 17), .inl ((k5 3), 2, .inl (L.2 7))), ((a 18), .inl ((k5 0), 8, .inl (L.2 0))), ((a 19), .inl ((k5 0), 8, .inl (L.2 1))), ((a 20), .inl ((k5 0), 8, .inl (L.2 2))), ((a 21), .inl ((k5 0), 8, .inl (L.2 3))), ((a 22), .inl ((k5 0), 8, .inl (L.2 4))), ((a 23), .inl ((k5 0), 8, .inl (L.2 5)))]
abbrev wS (a : Nat → Nat) (k5 : Nat → ClassId) (S : SS) : va_W := wD a k5 S.1 S.2.1 S.2.2.1 S.2.2.2
set_option maxHeartbeats 4000000 in
set_option maxRecDepth 100000 in
theorem k_D_isDisk (l : Launch) (dC : Nat → ClassId) (dI : Nat → Nat → Nat) (k5 : Nat → ClassId) (a : Nat → Nat) (P : PP) (G J : GG) (L : LL) (d : Int32) : Met l y_D_isDisk w_D_isDisk ({ frames := 0, cells := 0, slots := 0, locals := 0 }) (kx_Pc (dC, dI) clA (tyL k5) (wD a k5 P G J L) [.ref (a 0), .int d]) (kx_R (some (.int (bI (decide (¬ d < 0 ∧ ¬ P.1 ≤ d)))))) 0 0 (fun _ => False) := by
  refine Met.ofW (cc := c_D_isDisk) (maxL := 2) (ret := (some .boolean)) (by decide) rfl ?_
  intro p e s m args below meth c s₁ B hml hv
  obtain ⟨rfl, hP, hK, hD0⟩ := hv
  have hx := B.exec
  have hb := B.bytes
  have hr := B.returns
  have hts : ∀ w ∈ wsA, w.before _ s = true := fun w h => atoms_spec (ws := w_D_isDisk) B.pre w (List.mem_cons_of_mem _ h)
  have hown : s.vm.findClass R_D = some m.cls := findClass_of_methodNamed B.named
  have hlocks := B.notSynchronized
  have hD := kx_D.self hD0
  have hS : va_S (kx_A (wD a k5 P G J L)) s.heap s.heap [] := va_S.rf
  have hl := lv_entry ([.ref (a 0), .int d]) (n := 2) (Nat.le_of_ble_eq_true rfl)
  rw [lg_entry_eq]
  generalize (lg_sl ([.ref (a 0), .int d]) ++ List.replicate (2 - (lg_sl ([.ref (a 0), .int d])).length) Slot.unset).toArray = ls at hl ⊢
  have hl : lv_has ls 2 [(0, .ref (a 0)), (1, .int d)] := hl
  refine lv_iload_n hx hb d_D_isDisk_0 rfl (lv_at hl 1 rfl) ?_
  refine lv_if_lt (tgt := 16) hx hb d_D_isDisk_1 (by decide) (fun hc_1 => ?_) (fun hc_1 => ?_)
  · refine lv_iconst (v := 0) hx hb d_D_isDisk_16 (by decide) ?_
    exact W.zret (v := 0) hx hb hr rfl (fun t ht hW => kx_Ri (by simp [bI, hc_1]) ht) (fun _ h => absurd h List.not_mem_nil) d_D_isDisk_17
  · refine lv_iload_n hx hb d_D_isDisk_4 rfl (lv_at hl 1 rfl) ?_
    refine lv_aload_n hx hb d_D_isDisk_5 rfl (lv_at hl 0 rfl) ?_
    refine va_get (D := (dC, dI)) (ci := 2) (v := .int (P.1)) (C := R_D) (T := T_D) (N := 9) hx hb hts wu_D hown hK hP 0 rfl rfl 6 (by decide) (hts _ wf_D_64) (fun _ h9 => h9) rfl d_D_isDisk_6 ?_
    refine lv_icmp_ge (tgt := 16) hx hb d_D_isDisk_9 (by decide) (fun hc_2 => ?_) (fun hc_2 => ?_)
    · refine lv_iconst (v := 0) hx hb d_D_isDisk_16 (by decide) ?_
      exact W.zret (v := 0) hx hb hr rfl (fun t ht hW => kx_Ri (by simp [bI, hc_1, hc_2]) ht) (fun _ h => absurd h List.not_mem_nil) d_D_isDisk_17
    · refine lv_iconst (v := 1) hx hb d_D_isDisk_12 (by decide) ?_
      refine lv_goto (tgt := 17) hx hb d_D_isDisk_13 (by decide) ?_
      exact W.zret (v := 1) hx hb hr rfl (fun t ht hW => kx_Ri (by simp [bI, hc_1, hc_2]) ht) (fun _ h => absurd h List.not_mem_nil) d_D_isDisk_17
set_option maxHeartbeats 4000000 in
set_option maxRecDepth 100000 in
theorem k_D_isRow (l : Launch) (dC : Nat → ClassId) (dI : Nat → Nat → Nat) (k5 : Nat → ClassId) (a : Nat → Nat) (P : PP) (G J : GG) (L : LL) (t : Int32) : Met l y_D_isRow w_D_isRow ({ frames := 0, cells := 0, slots := 0, locals := 0 }) (kx_Pc (dC, dI) clA (tyL k5) (wD a k5 P G J L) [.ref (a 0), .int t]) (kx_R (some (.int (bI (decide (¬ t < 2 ∧ ¬ P.2.1 ≤ t)))))) 0 0 (fun _ => False) := by
  refine Met.ofW (cc := c_D_isRow) (maxL := 2) (ret := (some .boolean)) (by decide) rfl ?_
  intro p e s m args below meth c s₁ B hml hv
  obtain ⟨rfl, hP, hK, hD0⟩ := hv
  have hx := B.exec
  have hb := B.bytes
  have hr := B.returns
  have hts : ∀ w ∈ wsA, w.before _ s = true := fun w h => atoms_spec (ws := w_D_isRow) B.pre w (List.mem_cons_of_mem _ h)
  have hown : s.vm.findClass R_D = some m.cls := findClass_of_methodNamed B.named
  have hlocks := B.notSynchronized
  have hD := kx_D.self hD0
  have hS : va_S (kx_A (wD a k5 P G J L)) s.heap s.heap [] := va_S.rf
  have hl := lv_entry ([.ref (a 0), .int t]) (n := 2) (Nat.le_of_ble_eq_true rfl)
  rw [lg_entry_eq]
  generalize (lg_sl ([.ref (a 0), .int t]) ++ List.replicate (2 - (lg_sl ([.ref (a 0), .int t])).length) Slot.unset).toArray = ls at hl ⊢
  have hl : lv_has ls 2 [(0, .ref (a 0)), (1, .int t)] := hl
  refine lv_iload_n hx hb d_D_isRow_0 rfl (lv_at hl 1 rfl) ?_
  refine lv_iconst (v := 2) hx hb d_D_isRow_1 (by decide) ?_
  refine lv_icmp_lt (tgt := 17) hx hb d_D_isRow_2 (by decide) (fun hc_1 => ?_) (fun hc_1 => ?_)
  · refine lv_iconst (v := 0) hx hb d_D_isRow_17 (by decide) ?_
    exact W.zret (v := 0) hx hb hr rfl (fun t ht hW => kx_Ri (by simp [bI, hc_1]) ht) (fun _ h => absurd h List.not_mem_nil) d_D_isRow_18
  · refine lv_iload_n hx hb d_D_isRow_5 rfl (lv_at hl 1 rfl) ?_
    refine lv_aload_n hx hb d_D_isRow_6 rfl (lv_at hl 0 rfl) ?_
    refine va_get (D := (dC, dI)) (ci := 2) (v := .int (P.2.1)) (C := R_D) (T := T_D) (N := 9) hx hb hts wu_D hown hK hP 0 rfl rfl 7 (by decide) (hts _ wf_D_170) (fun _ h9 => h9) rfl d_D_isRow_7 ?_
    refine lv_icmp_ge (tgt := 17) hx hb d_D_isRow_10 (by decide) (fun hc_2 => ?_) (fun hc_2 => ?_)
    · refine lv_iconst (v := 0) hx hb d_D_isRow_17 (by decide) ?_
      exact W.zret (v := 0) hx hb hr rfl (fun t ht hW => kx_Ri (by simp [bI, hc_1, hc_2]) ht) (fun _ h => absurd h List.not_mem_nil) d_D_isRow_18
    · refine lv_iconst (v := 1) hx hb d_D_isRow_13 (by decide) ?_
      refine lv_goto (tgt := 18) hx hb d_D_isRow_14 (by decide) ?_
      exact W.zret (v := 1) hx hb hr rfl (fun t ht hW => kx_Ri (by simp [bI, hc_1, hc_2]) ht) (fun _ h => absurd h List.not_mem_nil) d_D_isRow_18
set_option maxHeartbeats 4000000 in
set_option maxRecDepth 100000 in
theorem k_D_blocks (l : Launch) (dC : Nat → ClassId) (dI : Nat → Nat → Nat) (k5 : Nat → ClassId) (a : Nat → Nat) (P : PP) (G J : GG) (L : LL)  : Met l y_D_blocks w_D_blocks ({ frames := 0, cells := 0, slots := 0, locals := 0 }) (kx_Pc (dC, dI) clA (tyL k5) (wD a k5 P G J L) [.ref (a 0)]) (kx_R (some (.int ((P.1 - 2) * (P.2.1 - 6))))) 0 0 (fun _ => False) := by
  refine Met.ofW (cc := c_D_blocks) (maxL := 1) (ret := (some .int)) (by decide) rfl ?_
  intro p e s m args below meth c s₁ B hml hv
  obtain ⟨rfl, hP, hK, hD0⟩ := hv
  have hx := B.exec
  have hb := B.bytes
  have hr := B.returns
  have hts : ∀ w ∈ wsA, w.before _ s = true := fun w h => atoms_spec (ws := w_D_blocks) B.pre w (List.mem_cons_of_mem _ h)
  have hown : s.vm.findClass R_D = some m.cls := findClass_of_methodNamed B.named
  have hlocks := B.notSynchronized
  have hD := kx_D.self hD0
  have hS : va_S (kx_A (wD a k5 P G J L)) s.heap s.heap [] := va_S.rf
  have hl := lv_entry ([.ref (a 0)]) (n := 1) (Nat.le_of_ble_eq_true rfl)
  rw [lg_entry_eq]
  generalize (lg_sl ([.ref (a 0)]) ++ List.replicate (1 - (lg_sl ([.ref (a 0)])).length) Slot.unset).toArray = ls at hl ⊢
  have hl : lv_has ls 1 [(0, .ref (a 0))] := hl
  refine lv_aload_n hx hb d_D_blocks_0 rfl (lv_at hl 0 rfl) ?_
  refine va_get (D := (dC, dI)) (ci := 2) (v := .int (P.1)) (C := R_D) (T := T_D) (N := 9) hx hb hts wu_D hown hK hP 0 rfl rfl 6 (by decide) (hts _ wf_D_64) (fun _ h9 => h9) rfl d_D_blocks_1 ?_
  refine lv_iconst (v := 2) hx hb d_D_blocks_4 (by decide) ?_
  refine lv_isub hx hb d_D_blocks_5 ?_
  refine lv_aload_n hx hb d_D_blocks_6 rfl (lv_at hl 0 rfl) ?_
  refine va_get (D := (dC, dI)) (ci := 2) (v := .int (P.2.1)) (C := R_D) (T := T_D) (N := 9) hx hb hts wu_D hown hK hP 0 rfl rfl 7 (by decide) (hts _ wf_D_170) (fun _ h9 => h9) rfl d_D_blocks_7 ?_
  refine lv_bipush (v := 6) hx hb d_D_blocks_10 (by decide) ?_
  refine lv_isub hx hb d_D_blocks_12 ?_
  refine lv_imul hx hb d_D_blocks_13 ?_
  exact W.iret (v := (((P.1) - 2) * ((P.2.1) - 6))) hx hb hr (fun t ht hW => kx_Ri (rfl) ht) (fun _ h => absurd h List.not_mem_nil) d_D_blocks_14
set_option maxHeartbeats 4000000 in
set_option maxRecDepth 100000 in
theorem k_D_rowOf (l : Launch) (dC : Nat → ClassId) (dI : Nat → Nat → Nat) (k5 : Nat → ClassId) (a : Nat → Nat) (P : PP) (G J : GG) (L : LL) (b : Int32) (h2 : ¬ P.1 - 2 = 0) : Met l y_D_rowOf w_D_rowOf ({ frames := 0, cells := 0, slots := 0, locals := 0 }) (kx_Pc (dC, dI) clA (tyL k5) (wD a k5 P G J L) [.ref (a 0), .int b]) (kx_R (some (.int (6 + b / (P.1 - 2))))) 0 0 (fun _ => False) := by
  refine Met.ofW (cc := c_D_rowOf) (maxL := 2) (ret := (some .int)) (by decide) rfl ?_
  intro p e s m args below meth c s₁ B hml hv
  obtain ⟨rfl, hP, hK, hD0⟩ := hv
  have hx := B.exec
  have hb := B.bytes
  have hr := B.returns
  have hts : ∀ w ∈ wsA, w.before _ s = true := fun w h => atoms_spec (ws := w_D_rowOf) B.pre w (List.mem_cons_of_mem _ h)
  have hown : s.vm.findClass R_D = some m.cls := findClass_of_methodNamed B.named
  have hlocks := B.notSynchronized
  have hD := kx_D.self hD0
  have hS : va_S (kx_A (wD a k5 P G J L)) s.heap s.heap [] := va_S.rf
  have hl := lv_entry ([.ref (a 0), .int b]) (n := 2) (Nat.le_of_ble_eq_true rfl)
  rw [lg_entry_eq]
  generalize (lg_sl ([.ref (a 0), .int b]) ++ List.replicate (2 - (lg_sl ([.ref (a 0), .int b])).length) Slot.unset).toArray = ls at hl ⊢
  have hl : lv_has ls 2 [(0, .ref (a 0)), (1, .int b)] := hl
  refine lv_bipush (v := 6) hx hb d_D_rowOf_0 (by decide) ?_
  refine lv_iload_n hx hb d_D_rowOf_2 rfl (lv_at hl 1 rfl) ?_
  refine lv_aload_n hx hb d_D_rowOf_3 rfl (lv_at hl 0 rfl) ?_
  refine va_get (D := (dC, dI)) (ci := 2) (v := .int (P.1)) (C := R_D) (T := T_D) (N := 9) hx hb hts wu_D hown hK hP 0 rfl rfl 6 (by decide) (hts _ wf_D_64) (fun _ h9 => h9) rfl d_D_rowOf_4 ?_
  refine lv_iconst (v := 2) hx hb d_D_rowOf_7 (by decide) ?_
  refine lv_isub hx hb d_D_rowOf_8 ?_
  refine lv_idiv hx hb d_D_rowOf_9 h2 ?_
  refine lv_iadd hx hb d_D_rowOf_10 ?_
  exact W.iret (v := (6 + (b / ((P.1) - 2)))) hx hb hr (fun t ht hW => kx_Ri (rfl) ht) (fun _ h => absurd h List.not_mem_nil) d_D_rowOf_11
set_option maxHeartbeats 4000000 in
set_option maxRecDepth 100000 in
theorem k_D_isByte (l : Launch) (dC : Nat → ClassId) (dI : Nat → Nat → Nat) (k5 : Nat → ClassId) (a : Nat → Nat) (P : PP) (G J : GG) (L : LL) (b t : Int32) : Met l y_D_isByte w_D_isByte ({ frames := 1, cells := 0, slots := 0, locals := 20 }) (kx_Pc (dC, dI) clA (tyL k5) (wD a k5 P G J L) [.ref (a 0), .int b, .int t]) (kx_R (some (.int (bI (decide (¬ b < 0 ∧ ¬ (P.1 - 2) * (P.2.1 - 6) ≤ b ∧ ¬ t < 0 ∧ ¬ 64 ≤ t)))))) 0 0 (fun _ => False) := by
  refine Met.ofW (cc := c_D_isByte) (maxL := 3) (ret := (some .boolean)) (by decide) rfl ?_
  intro p e s m args below meth c s₁ B hml hv
  obtain ⟨rfl, hP, hK, hD0⟩ := hv
  have hx := B.exec
  have hb := B.bytes
  have hr := B.returns
  have hts : ∀ w ∈ wsA, w.before _ s = true := fun w h => atoms_spec (ws := w_D_isByte) B.pre w (List.mem_cons_of_mem _ h)
  have hown : s.vm.findClass R_D = some m.cls := findClass_of_methodNamed B.named
  have hlocks := B.notSynchronized
  have hD := kx_D.self hD0
  have hS : va_S (kx_A (wD a k5 P G J L)) s.heap s.heap [] := va_S.rf
  have hl := lv_entry ([.ref (a 0), .int b, .int t]) (n := 3) (Nat.le_of_ble_eq_true rfl)
  rw [lg_entry_eq]
  generalize (lg_sl ([.ref (a 0), .int b, .int t]) ++ List.replicate (3 - (lg_sl ([.ref (a 0), .int b, .int t])).length) Slot.unset).toArray = ls at hl ⊢
  have hl : lv_has ls 3 [(0, .ref (a 0)), (1, .int b), (2, .int t)] := hl
  refine lv_iload_n hx hb d_D_isByte_0 rfl (lv_at hl 1 rfl) ?_
  refine lv_if_lt (tgt := 26) hx hb d_D_isByte_1 (by decide) (fun hc_1 => ?_) (fun hc_1 => ?_)
  · refine lv_iconst (v := 0) hx hb d_D_isByte_26 (by decide) ?_
    exact W.zret (v := 0) hx hb hr rfl (fun t ht hW => kx_Ri (by simp [bI, hc_1]) ht) (fun _ h => absurd h List.not_mem_nil) d_D_isByte_27
  · refine lv_iload_n hx hb d_D_isByte_4 rfl (lv_at hl 1 rfl) ?_
    refine lv_aload_n hx hb d_D_isByte_5 rfl (lv_at hl 0 rfl) ?_
    refine kx_VRW (As := []) (rest := [.int b]) ⟨hx, hb, hml, hown, hts⟩ (k_D_blocks l dC dI k5 a P G J L) (cwV 0 hts (goodV wm_D_42 wn_D_blocks ws_D_blocks wi_D wc_D_blocks) rfl rfl rfl (by decide +kernel) ⟨Nat.le_of_ble_eq_true rfl, Nat.le_of_ble_eq_true rfl⟩) ⟨Nat.zero_le _, Nat.zero_le _⟩ hK hP hD 0 rfl rfl rfl hl.1 rfl (Nat.le_of_ble_eq_true rfl) d_D_isByte_6 ?_
    refine W.eq (g2 := F0 m 9 ls [.int ((P.1 - 2) * (P.2.1 - 6)), .int b]) rfl ?_
    refine lv_icmp_ge (tgt := 26) hx hb d_D_isByte_9 (by decide) (fun hc_2 => ?_) (fun hc_2 => ?_)
    · refine lv_iconst (v := 0) hx hb d_D_isByte_26 (by decide) ?_
      exact W.zret (v := 0) hx hb hr rfl (fun t ht hW => kx_Ri (by simp [bI, hc_1, hc_2]) ht) (fun _ h => absurd h List.not_mem_nil) d_D_isByte_27
    · refine lv_iload_n hx hb d_D_isByte_12 rfl (lv_at hl 2 rfl) ?_
      refine lv_if_lt (tgt := 26) hx hb d_D_isByte_13 (by decide) (fun hc_3 => ?_) (fun hc_3 => ?_)
      · refine lv_iconst (v := 0) hx hb d_D_isByte_26 (by decide) ?_
        exact W.zret (v := 0) hx hb hr rfl (fun t ht hW => kx_Ri (by simp [bI, hc_1, hc_2, hc_3]) ht) (fun _ h => absurd h List.not_mem_nil) d_D_isByte_27
      · refine lv_iload_n hx hb d_D_isByte_16 rfl (lv_at hl 2 rfl) ?_
        refine lv_bipush (v := 64) hx hb d_D_isByte_17 (by decide) ?_
        refine lv_icmp_ge (tgt := 26) hx hb d_D_isByte_19 (by decide) (fun hc_4 => ?_) (fun hc_4 => ?_)
        · refine lv_iconst (v := 0) hx hb d_D_isByte_26 (by decide) ?_
          exact W.zret (v := 0) hx hb hr rfl (fun t ht hW => kx_Ri (by simp [bI, hc_1, hc_2, hc_3, hc_4]) ht) (fun _ h => absurd h List.not_mem_nil) d_D_isByte_27
        · refine lv_iconst (v := 1) hx hb d_D_isByte_22 (by decide) ?_
          refine lv_goto (tgt := 27) hx hb d_D_isByte_23 (by decide) ?_
          exact W.zret (v := 1) hx hb hr rfl (fun t ht hW => kx_Ri (by simp [bI, hc_1, hc_2, hc_3, hc_4]) ht) (fun _ h => absurd h List.not_mem_nil) d_D_isByte_27
set_option maxHeartbeats 4000000 in
set_option maxRecDepth 100000 in
theorem k_D_isBlank (l : Launch) (dC : Nat → ClassId) (dI : Nat → Nat → Nat) (k5 : Nat → ClassId) (a : Nat → Nat) (P : PP) (G J : GG) (L : LL) (d : Nat) (hd : d < 8) : Met l y_D_isBlank w_D_isBlank ({ frames := 0, cells := 0, slots := 0, locals := 0 }) (kx_Pc (dC, dI) clA (tyL k5) (wD a k5 P G J L) [.ref (a 0), .int (nI d)]) (kx_R (some (.int (bI (decide (¬ pMk P d = -1 ∧ ¬ P.2.1 ≤ pMk P d)))))) 0 0 (fun _ => False) := by
  refine Met.ofW (cc := c_D_isBlank) (maxL := 2) (ret := (some .boolean)) (by decide) rfl ?_
  intro p e s m args below meth c s₁ B hml hv
  obtain ⟨rfl, hP, hK, hD0⟩ := hv
  have hx := B.exec
  have hb := B.bytes
  have hr := B.returns
  have hts : ∀ w ∈ wsA, w.before _ s = true := fun w h => atoms_spec (ws := w_D_isBlank) B.pre w (List.mem_cons_of_mem _ h)
  have hown : s.vm.findClass R_D = some m.cls := findClass_of_methodNamed B.named
  have hlocks := B.notSynchronized
  have hD := kx_D.self hD0
  have hS : va_S (kx_A (wD a k5 P G J L)) s.heap s.heap [] := va_S.rf
  have hl := lv_entry ([.ref (a 0), .int (nI d)]) (n := 2) (Nat.le_of_ble_eq_true rfl)
  rw [lg_entry_eq]
  generalize (lg_sl ([.ref (a 0), .int (nI d)]) ++ List.replicate (2 - (lg_sl ([.ref (a 0), .int (nI d)])).length) Slot.unset).toArray = ls at hl ⊢
  have hl : lv_has ls 2 [(0, .ref (a 0)), (1, .int (nI d))] := hl
  refine lv_aload_n hx hb d_D_isBlank_0 rfl (lv_at hl 0 rfl) ?_
  refine va_get (D := (dC, dI)) (ci := 2) (v := .ref (a 1)) (C := R_D) (T := T_D) (N := 9) hx hb hts wu_D hown hK hP 0 rfl rfl 0 (by decide) (hts _ wf_D_9) (fun _ h9 => h9) rfl d_D_isBlank_1 ?_
  refine lv_iload_n hx hb d_D_isBlank_4 rfl (lv_at hl 1 rfl) ?_
  refine kx_iald hx hb hK hP 1 0 rfl rfl d (rfl) (by omega) (by omega) d_D_isBlank_5 ?_
  refine lv_iconst (v := (-1)) hx hb d_D_isBlank_6 (by decide) ?_
  refine lv_icmp_eq (tgt := 27) hx hb d_D_isBlank_7 (by decide) (fun hc_1 => ?_) (fun hc_1 => ?_)
  · refine lv_iconst (v := 0) hx hb d_D_isBlank_27 (by decide) ?_
    exact W.zret (v := 0) hx hb hr rfl (fun t ht hW => kx_Ri (by simp [bI, hc_1]) ht) (fun _ h => absurd h List.not_mem_nil) d_D_isBlank_28
  · refine lv_aload_n hx hb d_D_isBlank_10 rfl (lv_at hl 0 rfl) ?_
    refine va_get (D := (dC, dI)) (ci := 2) (v := .ref (a 1)) (C := R_D) (T := T_D) (N := 9) hx hb hts wu_D hown hK hP 0 rfl rfl 0 (by decide) (hts _ wf_D_9) (fun _ h9 => h9) rfl d_D_isBlank_11 ?_
    refine lv_iload_n hx hb d_D_isBlank_14 rfl (lv_at hl 1 rfl) ?_
    refine kx_iald hx hb hK hP 1 0 rfl rfl d (rfl) (by omega) (by omega) d_D_isBlank_15 ?_
    refine lv_aload_n hx hb d_D_isBlank_16 rfl (lv_at hl 0 rfl) ?_
    refine va_get (D := (dC, dI)) (ci := 2) (v := .int (P.2.1)) (C := R_D) (T := T_D) (N := 9) hx hb hts wu_D hown hK hP 0 rfl rfl 7 (by decide) (hts _ wf_D_170) (fun _ h9 => h9) rfl d_D_isBlank_17 ?_
    refine lv_icmp_ge (tgt := 27) hx hb d_D_isBlank_20 (by decide) (fun hc_2 => ?_) (fun hc_2 => ?_)
    · refine lv_iconst (v := 0) hx hb d_D_isBlank_27 (by decide) ?_
      exact W.zret (v := 0) hx hb hr rfl (fun t ht hW => kx_Ri (by simp [bI, hc_1, hc_2]) ht) (fun _ h => absurd h List.not_mem_nil) d_D_isBlank_28
    · refine lv_iconst (v := 1) hx hb d_D_isBlank_23 (by decide) ?_
      refine lv_goto (tgt := 28) hx hb d_D_isBlank_24 (by decide) ?_
      exact W.zret (v := 1) hx hb hr rfl (fun t ht hW => kx_Ri (by simp [bI, hc_1, hc_2]) ht) (fun _ h => absurd h List.not_mem_nil) d_D_isBlank_28
set_option maxHeartbeats 4000000 in
set_option maxRecDepth 100000 in
theorem k_D_isRotten (l : Launch) (dC : Nat → ClassId) (dI : Nat → Nat → Nat) (k5 : Nat → ClassId) (a : Nat → Nat) (P : PP) (G J : GG) (L : LL) (d : Nat) (hd : d < 8) (t : Int32) : Met l y_D_isRotten w_D_isRotten ({ frames := 0, cells := 0, slots := 0, locals := 0 }) (kx_Pc (dC, dI) clA (tyL k5) (wD a k5 P G J L) [.ref (a 0), .int (nI d), .int t]) (kx_R (some (.int (bI (rBit (pRt P d) t))))) 0 0 (fun _ => False) := by
  refine Met.ofW (cc := c_D_isRotten) (maxL := 3) (ret := (some .boolean)) (by decide) rfl ?_
  intro p e s m args below meth c s₁ B hml hv
  obtain ⟨rfl, hP, hK, hD0⟩ := hv
  have hx := B.exec
  have hb := B.bytes
  have hr := B.returns
  have hts : ∀ w ∈ wsA, w.before _ s = true := fun w h => atoms_spec (ws := w_D_isRotten) B.pre w (List.mem_cons_of_mem _ h)
  have hown : s.vm.findClass R_D = some m.cls := findClass_of_methodNamed B.named
  have hlocks := B.notSynchronized
  have hD := kx_D.self hD0
  have hS : va_S (kx_A (wD a k5 P G J L)) s.heap s.heap [] := va_S.rf
  have hl := lv_entry ([.ref (a 0), .int (nI d), .int t]) (n := 3) (Nat.le_of_ble_eq_true rfl)
  rw [lg_entry_eq]
  generalize (lg_sl ([.ref (a 0), .int (nI d), .int t]) ++ List.replicate (3 - (lg_sl ([.ref (a 0), .int (nI d), .int t])).length) Slot.unset).toArray = ls at hl ⊢
  have hl : lv_has ls 3 [(0, .ref (a 0)), (1, .int (nI d)), (2, .int t)] := hl
  refine lv_aload_n hx hb d_D_isRotten_0 rfl (lv_at hl 0 rfl) ?_
  refine va_get (D := (dC, dI)) (ci := 2) (v := .ref (a 2)) (C := R_D) (T := T_D) (N := 9) hx hb hts wu_D hown hK hP 0 rfl rfl 1 (by decide) (hts _ wf_D_13) (fun _ h9 => h9) rfl d_D_isRotten_1 ?_
  refine lv_iload_n hx hb d_D_isRotten_4 rfl (lv_at hl 1 rfl) ?_
  refine kx_lald hx hb hK hP 2 1 rfl rfl d (rfl) (by omega) (by omega) d_D_isRotten_5 ?_
  refine lv_iload_n hx hb d_D_isRotten_6 rfl (lv_at hl 2 rfl) ?_
  refine lv_lushr (v := (((P.2.2.2.2.1) d).toUInt64 >>> (t.toInt64.toUInt64 &&& Int64.toUInt64 63)).toInt64) hx hb d_D_isRotten_7 rfl ?_
  refine lv_lconst (v := 1) hx hb d_D_isRotten_8 (by decide) ?_
  refine lv_land hx hb d_D_isRotten_9 ?_
  refine lv_lconst (v := 0) hx hb d_D_isRotten_10 (by decide) ?_
  refine W.lcmp hx hb d_D_isRotten_11 ?_
  refine lv_if_eq (tgt := 19) hx hb d_D_isRotten_12 (by decide) (fun hc_1 => ?_) (fun hc_1 => ?_)
  · refine lv_iconst (v := 0) hx hb d_D_isRotten_19 (by decide) ?_
    exact W.zret (v := 0) hx hb hr rfl (fun t ht hW => kx_Ri (by rw [lg_cmp_eq] at hc_1; simp [bI, rBit, hc_1]) ht) (fun _ h => absurd h List.not_mem_nil) d_D_isRotten_20
  · refine lv_iconst (v := 1) hx hb d_D_isRotten_15 (by decide) ?_
    refine lv_goto (tgt := 20) hx hb d_D_isRotten_16 (by decide) ?_
    exact W.zret (v := 1) hx hb hr rfl (fun t ht hW => kx_Ri (by rw [lg_cmp_eq] at hc_1; simp [bI, rBit, hc_1]) ht) (fun _ h => absurd h List.not_mem_nil) d_D_isRotten_20
set_option maxHeartbeats 4000000 in
set_option maxRecDepth 100000 in
theorem k_D_isGone (l : Launch) (dC : Nat → ClassId) (dI : Nat → Nat → Nat) (k5 : Nat → ClassId) (a : Nat → Nat) (P : PP) (G J : GG) (L : LL) (d : Nat) (hd : d < 8) (t : Int32) : Met l y_D_isGone w_D_isGone ({ frames := 1, cells := 0, slots := 0, locals := 22 }) (kx_Pc (dC, dI) clA (tyL k5) (wD a k5 P G J L) [.ref (a 0), .int (nI d), .int t]) (kx_R (some (.int (bI (pGone P d t))))) 0 0 (fun _ => False) := by
  refine Met.ofW (cc := c_D_isGone) (maxL := 3) (ret := (some .boolean)) (by decide) rfl ?_
  intro p e s m args below meth c s₁ B hml hv
  obtain ⟨rfl, hP, hK, hD0⟩ := hv
  have hx := B.exec
  have hb := B.bytes
  have hr := B.returns
  have hts : ∀ w ∈ wsA, w.before _ s = true := fun w h => atoms_spec (ws := w_D_isGone) B.pre w (List.mem_cons_of_mem _ h)
  have hown : s.vm.findClass R_D = some m.cls := findClass_of_methodNamed B.named
  have hlocks := B.notSynchronized
  have hD := kx_D.self hD0
  have hS : va_S (kx_A (wD a k5 P G J L)) s.heap s.heap [] := va_S.rf
  have hl := lv_entry ([.ref (a 0), .int (nI d), .int t]) (n := 3) (Nat.le_of_ble_eq_true rfl)
  rw [lg_entry_eq]
  generalize (lg_sl ([.ref (a 0), .int (nI d), .int t]) ++ List.replicate (3 - (lg_sl ([.ref (a 0), .int (nI d), .int t])).length) Slot.unset).toArray = ls at hl ⊢
  have hl : lv_has ls 3 [(0, .ref (a 0)), (1, .int (nI d)), (2, .int t)] := hl
  refine lv_aload_n hx hb d_D_isGone_0 rfl (lv_at hl 0 rfl) ?_
  refine va_get (D := (dC, dI)) (ci := 2) (v := .ref (a 1)) (C := R_D) (T := T_D) (N := 9) hx hb hts wu_D hown hK hP 0 rfl rfl 0 (by decide) (hts _ wf_D_9) (fun _ h9 => h9) rfl d_D_isGone_1 ?_
  refine lv_iload_n hx hb d_D_isGone_4 rfl (lv_at hl 1 rfl) ?_
  refine kx_iald hx hb hK hP 1 0 rfl rfl d (rfl) (by omega) (by omega) d_D_isGone_5 ?_
  refine lv_iload_n hx hb d_D_isGone_6 rfl (lv_at hl 2 rfl) ?_
  refine lv_icmp_le (tgt := 19) hx hb d_D_isGone_7 (by decide) (fun hc_1 => ?_) (fun hc_1 => ?_)
  · refine lv_iconst (v := 1) hx hb d_D_isGone_19 (by decide) ?_
    refine lv_goto (tgt := 24) hx hb d_D_isGone_20 (by decide) ?_
    exact W.zret (v := 1) hx hb hr rfl (fun t ht hW => kx_Ri (by unfold pGone; rw [decide_eq_true hc_1, Bool.true_or]; rfl) ht) (fun _ h => absurd h List.not_mem_nil) d_D_isGone_24
  · refine lv_aload_n hx hb d_D_isGone_10 rfl (lv_at hl 0 rfl) ?_
    refine lv_iload_n hx hb d_D_isGone_11 rfl (lv_at hl 1 rfl) ?_
    refine lv_iload_n hx hb d_D_isGone_12 rfl (lv_at hl 2 rfl) ?_
    refine kx_VRW (As := [.int (nI d), .int t]) (rest := []) ⟨hx, hb, hml, hown, hts⟩ (k_D_isRotten l dC dI k5 a P G J L d hd t) (cwV 2 hts (goodV wm_D_219 wn_D_isRotten ws_D_isRotten wi_D wc_D_isRotten) rfl rfl rfl (by decide +kernel) ⟨Nat.le_of_ble_eq_true rfl, Nat.le_of_ble_eq_true rfl⟩) ⟨Nat.zero_le _, Nat.zero_le _⟩ hK hP hD 0 rfl rfl rfl hl.1 rfl (Nat.le_of_ble_eq_true rfl) d_D_isGone_13 ?_
    refine W.eq (g2 := F0 m 16 ls [.int (bI (rBit (pRt P d) t))]) rfl ?_
    refine lv_if_eq (tgt := 23) hx hb d_D_isGone_16 (by decide) (fun hc_2 => ?_) (fun hc_2 => ?_)
    · refine lv_iconst (v := 0) hx hb d_D_isGone_23 (by decide) ?_
      exact W.zret (v := 0) hx hb hr rfl (fun t ht hW => kx_Ri (by unfold pGone; rw [decide_eq_false hc_1, Bool.false_or, bI_f hc_2]; rfl) ht) (fun _ h => absurd h List.not_mem_nil) d_D_isGone_24
    · refine lv_iconst (v := 1) hx hb d_D_isGone_19 (by decide) ?_
      refine lv_goto (tgt := 24) hx hb d_D_isGone_20 (by decide) ?_
      exact W.zret (v := 1) hx hb hr rfl (fun t ht hW => kx_Ri (by unfold pGone; rw [decide_eq_false hc_1, Bool.false_or, bI_t hc_2]; rfl) ht) (fun _ h => absurd h List.not_mem_nil) d_D_isGone_24
set_option maxHeartbeats 4000000 in
set_option maxRecDepth 100000 in
theorem k_D_goneIn (l : Launch) (dC : Nat → ClassId) (dI : Nat → Nat → Nat) (k5 : Nat → ClassId) (a : Nat → Nat) (P : PP) (G J : GG) (L : LL) (t : Int32) (n : Nat) (hn : P.1 = nI n) (hn8 : n ≤ 8) : Met l y_D_goneIn w_D_goneIn ({ frames := 2, cells := 0, slots := 0, locals := 44 }) (kx_Pc (dC, dI) clA (tyL k5) (wD a k5 P G J L) [.ref (a 0), .int t]) (kx_R (some (.int (nI (pGoneIn P t n))))) 0 0 (fun _ => False) := by
  refine Met.ofW (cc := c_D_goneIn) (maxL := 4) (ret := (some .int)) (by decide) rfl ?_
  intro p e s m args below meth c s₁ B hml hv
  obtain ⟨rfl, hP, hK, hD0⟩ := hv
  have hx := B.exec
  have hb := B.bytes
  have hr := B.returns
  have hts : ∀ w ∈ wsA, w.before _ s = true := fun w h => atoms_spec (ws := w_D_goneIn) B.pre w (List.mem_cons_of_mem _ h)
  have hown : s.vm.findClass R_D = some m.cls := findClass_of_methodNamed B.named
  have hlocks := B.notSynchronized
  have hD := kx_D.self hD0
  have hS : va_S (kx_A (wD a k5 P G J L)) s.heap s.heap [] := va_S.rf
  have hl := lv_entry ([.ref (a 0), .int t]) (n := 4) (Nat.le_of_ble_eq_true rfl)
  rw [lg_entry_eq]
  generalize (lg_sl ([.ref (a 0), .int t]) ++ List.replicate (4 - (lg_sl ([.ref (a 0), .int t])).length) Slot.unset).toArray = ls at hl ⊢
  have hl : lv_has ls 4 [(0, .ref (a 0)), (1, .int t)] := hl
  refine lv_iconst (v := 0) hx hb d_D_goneIn_0 (by decide) ?_
  refine lv_istore_n (lv' := [(2, .int 0), (0, .ref (a 0)), (1, .int t)]) hx hb d_D_goneIn_1 rfl hl (by decide) rfl (fun ls hl => ?_)
  refine lv_iconst (v := 0) hx hb d_D_goneIn_2 (by decide) ?_
  refine lv_istore_n (lv' := [(3, .int 0), (2, .int 0), (0, .ref (a 0)), (1, .int t)]) hx hb d_D_goneIn_3 rfl hl (by decide) rfl (fun ls hl => ?_)
  have lp : ∀ (q9 i : Nat) (ls : Array Slot), i + q9 = n → lv_has ls 4 [(3, .int (nI i)), (2, .int (nI (pGoneIn P t i))), (0, .ref (a 0)), (1, .int t)] → W p l e (headSpec w_D_goneIn ({ frames := 2, cells := 0, slots := 0, locals := 44 })).room s m ([.ref (a 0), .int t] : List Value).toArray below meth c s.heap [] 0 0 (MQ below (kx_R (some (.int (nI (pGoneIn P t n))))) ([.ref (a 0), .int t] : List Value).toArray s 0 0 (fun _ => False)) (F0 m 4 ls []) := by
    intro q9
    induction q9 with
    | zero =>
      intro i ls hi hl
      have hi : n = i := by omega
      subst hi
      refine lv_iload_n hx hb d_D_goneIn_4 rfl (lv_at hl 0 rfl) ?_
      refine lv_aload_n hx hb d_D_goneIn_5 rfl (lv_at hl 2 rfl) ?_
      refine va_get (D := (dC, dI)) (ci := 2) (v := .int (P.1)) (C := R_D) (T := T_D) (N := 9) hx hb hts wu_D hown hK hP 0 rfl rfl 6 (by decide) (hts _ wf_D_64) (fun _ h9 => h9) rfl d_D_goneIn_6 ?_
      refine lv_icmp_ge (tgt := 30) hx hb d_D_goneIn_9 (by decide) (fun hc => ?_) (fun hc => ?_)
      · refine lv_iload_n hx hb d_D_goneIn_30 rfl (lv_at hl 1 rfl) ?_
        exact W.iret (v := (nI (pGoneIn P t n))) hx hb hr (fun t ht hW => kx_Ri (rfl) ht) (fun _ h => absurd h List.not_mem_nil) d_D_goneIn_31
      · exact absurd (by rw [hn]; exact nI_le (by omega) (by omega)) hc
    | succ q9 ih =>
      intro i ls hi hl
      refine lv_iload_n hx hb d_D_goneIn_4 rfl (lv_at hl 0 rfl) ?_
      refine lv_aload_n hx hb d_D_goneIn_5 rfl (lv_at hl 2 rfl) ?_
      refine va_get (D := (dC, dI)) (ci := 2) (v := .int (P.1)) (C := R_D) (T := T_D) (N := 9) hx hb hts wu_D hown hK hP 0 rfl rfl 6 (by decide) (hts _ wf_D_64) (fun _ h9 => h9) rfl d_D_goneIn_6 ?_
      refine lv_icmp_ge (tgt := 30) hx hb d_D_goneIn_9 (by decide) (fun hc => ?_) (fun hc => ?_)
      · exact absurd hc (by rw [hn]; exact nI_ge (by omega) (by omega))
      · refine lv_aload_n hx hb d_D_goneIn_12 rfl (lv_at hl 2 rfl) ?_
        refine lv_iload_n hx hb d_D_goneIn_13 rfl (lv_at hl 0 rfl) ?_
        refine lv_iload_n hx hb d_D_goneIn_14 rfl (lv_at hl 3 rfl) ?_
        refine kx_VRW (As := [.int (nI i), .int t]) (rest := []) ⟨hx, hb, hml, hown, hts⟩ (k_D_isGone l dC dI k5 a P G J L i (by omega) t) (cwV 2 hts (goodV wm_D_132 wn_D_isGone ws_D_isGone wi_D wc_D_isGone) rfl rfl rfl (by decide +kernel) ⟨Nat.le_of_ble_eq_true rfl, Nat.le_of_ble_eq_true rfl⟩) ⟨Nat.zero_le _, Nat.zero_le _⟩ hK hP hD 0 rfl rfl rfl hl.1 rfl (Nat.le_of_ble_eq_true rfl) d_D_goneIn_15 ?_
        refine W.eq (g2 := F0 m 18 ls [.int (bI (pGone P i t))]) rfl ?_
        refine lv_if_eq (tgt := 24) hx hb d_D_goneIn_18 (by decide) (fun hd => ?_) (fun hd => ?_)
        · refine lv_iinc (v := nI (i + 1)) (lv' := [(3, .int (nI (i + 1))), (2, .int (nI (pGoneIn P t i))), (0, .ref (a 0)), (1, .int t)]) hx hb d_D_goneIn_24 hl (k := 0) rfl (nI_1 i) (by decide) rfl (fun ls hl => ?_)
          refine lv_goto (tgt := 4) hx hb d_D_goneIn_27 (by decide) ?_
          exact ih (i + 1) ls (by omega) (by rw [show pGoneIn P t (i + 1) = pGoneIn P t i from cnt_f (bI_f hd)]; exact (lv_sub hl [0, 1, 2, 3] rfl))
        · refine lv_iinc (v := nI (pGoneIn P t (i + 1))) (lv' := [(2, .int (nI (pGoneIn P t (i + 1)))), (3, .int (nI i)), (0, .ref (a 0)), (1, .int t)]) hx hb d_D_goneIn_21 hl (k := 1) rfl (cnt_t (bI_t hd)) (by decide) rfl (fun ls hl => ?_)
          refine lv_iinc (v := nI (i + 1)) (lv' := [(3, .int (nI (i + 1))), (2, .int (nI (pGoneIn P t (i + 1)))), (0, .ref (a 0)), (1, .int t)]) hx hb d_D_goneIn_24 hl (k := 1) rfl (nI_1 i) (by decide) rfl (fun ls hl => ?_)
          refine lv_goto (tgt := 4) hx hb d_D_goneIn_27 (by decide) ?_
          exact ih (i + 1) ls (by omega) (lv_sub hl [0, 1, 2, 3] rfl)
  exact lp n 0 ls (by omega) (lv_sub hl [0, 1, 2, 3] rfl)
set_option maxHeartbeats 4000000 in
set_option maxRecDepth 100000 in
theorem k_D_rottenIn (l : Launch) (dC : Nat → ClassId) (dI : Nat → Nat → Nat) (k5 : Nat → ClassId) (a : Nat → Nat) (P : PP) (G J : GG) (L : LL) (t : Int32) (n : Nat) (hn : P.1 = nI n) (hn8 : n ≤ 8) : Met l y_D_rottenIn w_D_rottenIn ({ frames := 1, cells := 0, slots := 0, locals := 22 }) (kx_Pc (dC, dI) clA (tyL k5) (wD a k5 P G J L) [.ref (a 0), .int t]) (kx_R (some (.int (nI (pRotIn P t n))))) 0 0 (fun _ => False) := by
  refine Met.ofW (cc := c_D_rottenIn) (maxL := 4) (ret := (some .int)) (by decide) rfl ?_
  intro p e s m args below meth c s₁ B hml hv
  obtain ⟨rfl, hP, hK, hD0⟩ := hv
  have hx := B.exec
  have hb := B.bytes
  have hr := B.returns
  have hts : ∀ w ∈ wsA, w.before _ s = true := fun w h => atoms_spec (ws := w_D_rottenIn) B.pre w (List.mem_cons_of_mem _ h)
  have hown : s.vm.findClass R_D = some m.cls := findClass_of_methodNamed B.named
  have hlocks := B.notSynchronized
  have hD := kx_D.self hD0
  have hS : va_S (kx_A (wD a k5 P G J L)) s.heap s.heap [] := va_S.rf
  have hl := lv_entry ([.ref (a 0), .int t]) (n := 4) (Nat.le_of_ble_eq_true rfl)
  rw [lg_entry_eq]
  generalize (lg_sl ([.ref (a 0), .int t]) ++ List.replicate (4 - (lg_sl ([.ref (a 0), .int t])).length) Slot.unset).toArray = ls at hl ⊢
  have hl : lv_has ls 4 [(0, .ref (a 0)), (1, .int t)] := hl
  refine lv_iconst (v := 0) hx hb d_D_rottenIn_0 (by decide) ?_
  refine lv_istore_n (lv' := [(2, .int 0), (0, .ref (a 0)), (1, .int t)]) hx hb d_D_rottenIn_1 rfl hl (by decide) rfl (fun ls hl => ?_)
  refine lv_iconst (v := 0) hx hb d_D_rottenIn_2 (by decide) ?_
  refine lv_istore_n (lv' := [(3, .int 0), (2, .int 0), (0, .ref (a 0)), (1, .int t)]) hx hb d_D_rottenIn_3 rfl hl (by decide) rfl (fun ls hl => ?_)
  have lp : ∀ (q9 i : Nat) (ls : Array Slot), i + q9 = n → lv_has ls 4 [(3, .int (nI i)), (2, .int (nI (pRotIn P t i))), (0, .ref (a 0)), (1, .int t)] → W p l e (headSpec w_D_rottenIn ({ frames := 1, cells := 0, slots := 0, locals := 22 })).room s m ([.ref (a 0), .int t] : List Value).toArray below meth c s.heap [] 0 0 (MQ below (kx_R (some (.int (nI (pRotIn P t n))))) ([.ref (a 0), .int t] : List Value).toArray s 0 0 (fun _ => False)) (F0 m 4 ls []) := by
    intro q9
    induction q9 with
    | zero =>
      intro i ls hi hl
      have hi : n = i := by omega
      subst hi
      refine lv_iload_n hx hb d_D_rottenIn_4 rfl (lv_at hl 0 rfl) ?_
      refine lv_aload_n hx hb d_D_rottenIn_5 rfl (lv_at hl 2 rfl) ?_
      refine va_get (D := (dC, dI)) (ci := 2) (v := .int (P.1)) (C := R_D) (T := T_D) (N := 9) hx hb hts wu_D hown hK hP 0 rfl rfl 6 (by decide) (hts _ wf_D_64) (fun _ h9 => h9) rfl d_D_rottenIn_6 ?_
      refine lv_icmp_ge (tgt := 30) hx hb d_D_rottenIn_9 (by decide) (fun hc => ?_) (fun hc => ?_)
      · refine lv_iload_n hx hb d_D_rottenIn_30 rfl (lv_at hl 1 rfl) ?_
        exact W.iret (v := (nI (pRotIn P t n))) hx hb hr (fun t ht hW => kx_Ri (rfl) ht) (fun _ h => absurd h List.not_mem_nil) d_D_rottenIn_31
      · exact absurd (by rw [hn]; exact nI_le (by omega) (by omega)) hc
    | succ q9 ih =>
      intro i ls hi hl
      refine lv_iload_n hx hb d_D_rottenIn_4 rfl (lv_at hl 0 rfl) ?_
      refine lv_aload_n hx hb d_D_rottenIn_5 rfl (lv_at hl 2 rfl) ?_
      refine va_get (D := (dC, dI)) (ci := 2) (v := .int (P.1)) (C := R_D) (T := T_D) (N := 9) hx hb hts wu_D hown hK hP 0 rfl rfl 6 (by decide) (hts _ wf_D_64) (fun _ h9 => h9) rfl d_D_rottenIn_6 ?_
      refine lv_icmp_ge (tgt := 30) hx hb d_D_rottenIn_9 (by decide) (fun hc => ?_) (fun hc => ?_)
      · exact absurd hc (by rw [hn]; exact nI_ge (by omega) (by omega))
      · refine lv_aload_n hx hb d_D_rottenIn_12 rfl (lv_at hl 2 rfl) ?_
        refine lv_iload_n hx hb d_D_rottenIn_13 rfl (lv_at hl 0 rfl) ?_
        refine lv_iload_n hx hb d_D_rottenIn_14 rfl (lv_at hl 3 rfl) ?_
        refine kx_VRW (As := [.int (nI i), .int t]) (rest := []) ⟨hx, hb, hml, hown, hts⟩ (k_D_isRotten l dC dI k5 a P G J L i (by omega) t) (cwV 2 hts (goodV wm_D_219 wn_D_isRotten ws_D_isRotten wi_D wc_D_isRotten) rfl rfl rfl (by decide +kernel) ⟨Nat.le_of_ble_eq_true rfl, Nat.le_of_ble_eq_true rfl⟩) ⟨Nat.zero_le _, Nat.zero_le _⟩ hK hP hD 0 rfl rfl rfl hl.1 rfl (Nat.le_of_ble_eq_true rfl) d_D_rottenIn_15 ?_
        refine W.eq (g2 := F0 m 18 ls [.int (bI (rBit (pRt P i) t))]) rfl ?_
        refine lv_if_eq (tgt := 24) hx hb d_D_rottenIn_18 (by decide) (fun hd => ?_) (fun hd => ?_)
        · refine lv_iinc (v := nI (i + 1)) (lv' := [(3, .int (nI (i + 1))), (2, .int (nI (pRotIn P t i))), (0, .ref (a 0)), (1, .int t)]) hx hb d_D_rottenIn_24 hl (k := 0) rfl (nI_1 i) (by decide) rfl (fun ls hl => ?_)
          refine lv_goto (tgt := 4) hx hb d_D_rottenIn_27 (by decide) ?_
          exact ih (i + 1) ls (by omega) (by rw [show pRotIn P t (i + 1) = pRotIn P t i from cnt_f (bI_f hd)]; exact (lv_sub hl [0, 1, 2, 3] rfl))
        · refine lv_iinc (v := nI (pRotIn P t (i + 1))) (lv' := [(2, .int (nI (pRotIn P t (i + 1)))), (3, .int (nI i)), (0, .ref (a 0)), (1, .int t)]) hx hb d_D_rottenIn_21 hl (k := 1) rfl (cnt_t (bI_t hd)) (by decide) rfl (fun ls hl => ?_)
          refine lv_iinc (v := nI (i + 1)) (lv' := [(3, .int (nI (i + 1))), (2, .int (nI (pRotIn P t (i + 1)))), (0, .ref (a 0)), (1, .int t)]) hx hb d_D_rottenIn_24 hl (k := 1) rfl (nI_1 i) (by decide) rfl (fun ls hl => ?_)
          refine lv_goto (tgt := 4) hx hb d_D_rottenIn_27 (by decide) ?_
          exact ih (i + 1) ls (by omega) (lv_sub hl [0, 1, 2, 3] rfl)
  exact lp n 0 ls (by omega) (lv_sub hl [0, 1, 2, 3] rfl)
set_option maxHeartbeats 4000000 in
set_option maxRecDepth 100000 in
theorem k_D_disksMarked (l : Launch) (dC : Nat → ClassId) (dI : Nat → Nat → Nat) (k5 : Nat → ClassId) (a : Nat → Nat) (P : PP) (G J : GG) (L : LL) (m1 m2 : Int32) (n : Nat) (hn : P.1 = nI n) (hn8 : n ≤ 8) : Met l y_D_disksMarked w_D_disksMarked ({ frames := 0, cells := 0, slots := 0, locals := 0 }) (kx_Pc (dC, dI) clA (tyL k5) (wD a k5 P G J L) [.ref (a 0), .int m1, .int m2]) (kx_R (some (.int (nI (pMarked P m1 m2 n))))) 0 0 (fun _ => False) := by
  refine Met.ofW (cc := c_D_disksMarked) (maxL := 5) (ret := (some .int)) (by decide) rfl ?_
  intro p e s m args below meth c s₁ B hml hv
  obtain ⟨rfl, hP, hK, hD0⟩ := hv
  have hx := B.exec
  have hb := B.bytes
  have hr := B.returns
  have hts : ∀ w ∈ wsA, w.before _ s = true := fun w h => atoms_spec (ws := w_D_disksMarked) B.pre w (List.mem_cons_of_mem _ h)
  have hown : s.vm.findClass R_D = some m.cls := findClass_of_methodNamed B.named
  have hlocks := B.notSynchronized
  have hD := kx_D.self hD0
  have hS : va_S (kx_A (wD a k5 P G J L)) s.heap s.heap [] := va_S.rf
  have hl := lv_entry ([.ref (a 0), .int m1, .int m2]) (n := 5) (Nat.le_of_ble_eq_true rfl)
  rw [lg_entry_eq]
  generalize (lg_sl ([.ref (a 0), .int m1, .int m2]) ++ List.replicate (5 - (lg_sl ([.ref (a 0), .int m1, .int m2])).length) Slot.unset).toArray = ls at hl ⊢
  have hl : lv_has ls 5 [(0, .ref (a 0)), (1, .int m1), (2, .int m2)] := hl
  refine lv_iconst (v := 0) hx hb d_D_disksMarked_0 (by decide) ?_
  refine lv_istore_n (lv' := [(3, .int 0), (0, .ref (a 0)), (1, .int m1), (2, .int m2)]) hx hb d_D_disksMarked_1 rfl hl (by decide) rfl (fun ls hl => ?_)
  refine lv_iconst (v := 0) hx hb d_D_disksMarked_2 (by decide) ?_
  refine lv_istore (lv' := [(4, .int 0), (3, .int 0), (0, .ref (a 0)), (1, .int m1), (2, .int m2)]) hx hb d_D_disksMarked_3 hl (by decide) rfl (fun ls hl => ?_)
  have lp : ∀ (q9 i : Nat) (ls : Array Slot), i + q9 = n → lv_has ls 5 [(4, .int (nI i)), (3, .int (nI (pMarked P m1 m2 i))), (0, .ref (a 0)), (1, .int m1), (2, .int m2)] → W p l e (headSpec w_D_disksMarked ({ frames := 0, cells := 0, slots := 0, locals := 0 })).room s m ([.ref (a 0), .int m1, .int m2] : List Value).toArray below meth c s.heap [] 0 0 (MQ below (kx_R (some (.int (nI (pMarked P m1 m2 n))))) ([.ref (a 0), .int m1, .int m2] : List Value).toArray s 0 0 (fun _ => False)) (F0 m 5 ls []) := by
    intro q9
    induction q9 with
    | zero =>
      intro i ls hi hl
      have hi : n = i := by omega
      subst hi
      refine lv_iload hx hb d_D_disksMarked_5 (lv_at hl 0 rfl) ?_
      refine lv_aload_n hx hb d_D_disksMarked_7 rfl (lv_at hl 2 rfl) ?_
      refine va_get (D := (dC, dI)) (ci := 2) (v := .int (P.1)) (C := R_D) (T := T_D) (N := 9) hx hb hts wu_D hown hK hP 0 rfl rfl 6 (by decide) (hts _ wf_D_64) (fun _ h9 => h9) rfl d_D_disksMarked_8 ?_
      refine lv_icmp_ge (tgt := 45) hx hb d_D_disksMarked_11 (by decide) (fun hc => ?_) (fun hc => ?_)
      · refine lv_iload_n hx hb d_D_disksMarked_45 rfl (lv_at hl 1 rfl) ?_
        exact W.iret (v := (nI (pMarked P m1 m2 n))) hx hb hr (fun t ht hW => kx_Ri (rfl) ht) (fun _ h => absurd h List.not_mem_nil) d_D_disksMarked_46
      · exact absurd (by rw [hn]; exact nI_le (by omega) (by omega)) hc
    | succ q9 ih =>
      intro i ls hi hl
      refine lv_iload hx hb d_D_disksMarked_5 (lv_at hl 0 rfl) ?_
      refine lv_aload_n hx hb d_D_disksMarked_7 rfl (lv_at hl 2 rfl) ?_
      refine va_get (D := (dC, dI)) (ci := 2) (v := .int (P.1)) (C := R_D) (T := T_D) (N := 9) hx hb hts wu_D hown hK hP 0 rfl rfl 6 (by decide) (hts _ wf_D_64) (fun _ h9 => h9) rfl d_D_disksMarked_8 ?_
      refine lv_icmp_ge (tgt := 45) hx hb d_D_disksMarked_11 (by decide) (fun hc => ?_) (fun hc => ?_)
      · exact absurd hc (by rw [hn]; exact nI_ge (by omega) (by omega))
      · refine lv_aload_n hx hb d_D_disksMarked_14 rfl (lv_at hl 2 rfl) ?_
        refine va_get (D := (dC, dI)) (ci := 2) (v := .ref (a 1)) (C := R_D) (T := T_D) (N := 9) hx hb hts wu_D hown hK hP 0 rfl rfl 0 (by decide) (hts _ wf_D_9) (fun _ h9 => h9) rfl d_D_disksMarked_15 ?_
        refine lv_iload hx hb d_D_disksMarked_18 (lv_at hl 0 rfl) ?_
        refine kx_iald hx hb hK hP 1 0 rfl rfl i (rfl) (by omega) (by omega) d_D_disksMarked_20 ?_
        refine lv_iload_n hx hb d_D_disksMarked_21 rfl (lv_at hl 3 rfl) ?_
        refine lv_icmp_lt (tgt := 39) hx hb d_D_disksMarked_22 (by decide) (fun hd => ?_) (fun hd => ?_)
        · refine lv_iinc (v := nI (i + 1)) (lv' := [(4, .int (nI (i + 1))), (3, .int (nI (pMarked P m1 m2 i))), (0, .ref (a 0)), (1, .int m1), (2, .int m2)]) hx hb d_D_disksMarked_39 hl (k := 0) rfl (nI_1 i) (by decide) rfl (fun ls hl => ?_)
          refine lv_goto (tgt := 5) hx hb d_D_disksMarked_42 (by decide) ?_
          exact ih (i + 1) ls (by omega) (by rw [show pMarked P m1 m2 (i + 1) = pMarked P m1 m2 i from cnt_f (by simp [Int32.not_le.mpr hd])]; exact (lv_sub hl [0, 1, 2, 3, 4] rfl))
        · refine lv_aload_n hx hb d_D_disksMarked_25 rfl (lv_at hl 2 rfl) ?_
          refine va_get (D := (dC, dI)) (ci := 2) (v := .ref (a 1)) (C := R_D) (T := T_D) (N := 9) hx hb hts wu_D hown hK hP 0 rfl rfl 0 (by decide) (hts _ wf_D_9) (fun _ h9 => h9) rfl d_D_disksMarked_26 ?_
          refine lv_iload hx hb d_D_disksMarked_29 (lv_at hl 0 rfl) ?_
          refine kx_iald hx hb hK hP 1 0 rfl rfl i (rfl) (by omega) (by omega) d_D_disksMarked_31 ?_
          refine lv_iload_n hx hb d_D_disksMarked_32 rfl (lv_at hl 4 rfl) ?_
          refine lv_icmp_gt (tgt := 39) hx hb d_D_disksMarked_33 (by decide) (fun he => ?_) (fun he => ?_)
          · refine lv_iinc (v := nI (i + 1)) (lv' := [(4, .int (nI (i + 1))), (3, .int (nI (pMarked P m1 m2 i))), (0, .ref (a 0)), (1, .int m1), (2, .int m2)]) hx hb d_D_disksMarked_39 hl (k := 0) rfl (nI_1 i) (by decide) rfl (fun ls hl => ?_)
            refine lv_goto (tgt := 5) hx hb d_D_disksMarked_42 (by decide) ?_
            exact ih (i + 1) ls (by omega) (by rw [show pMarked P m1 m2 (i + 1) = pMarked P m1 m2 i from cnt_f (by simp [Int32.not_le.mpr he])]; exact (lv_sub hl [0, 1, 2, 3, 4] rfl))
          · refine lv_iinc (v := nI (pMarked P m1 m2 (i + 1))) (lv' := [(3, .int (nI (pMarked P m1 m2 (i + 1)))), (4, .int (nI i)), (0, .ref (a 0)), (1, .int m1), (2, .int m2)]) hx hb d_D_disksMarked_36 hl (k := 1) rfl (cnt_t (by simp [Int32.not_lt.mp hd, Int32.not_lt.mp he])) (by decide) rfl (fun ls hl => ?_)
            refine lv_iinc (v := nI (i + 1)) (lv' := [(4, .int (nI (i + 1))), (3, .int (nI (pMarked P m1 m2 (i + 1)))), (0, .ref (a 0)), (1, .int m1), (2, .int m2)]) hx hb d_D_disksMarked_39 hl (k := 1) rfl (nI_1 i) (by decide) rfl (fun ls hl => ?_)
            refine lv_goto (tgt := 5) hx hb d_D_disksMarked_42 (by decide) ?_
            exact ih (i + 1) ls (by omega) (lv_sub hl [0, 1, 2, 3, 4] rfl)
  exact lp n 0 ls (by omega) (lv_sub hl [0, 1, 2, 3, 4] rfl)
set_option maxHeartbeats 4000000 in
set_option maxRecDepth 100000 in
theorem k_D_lostDisks (l : Launch) (dC : Nat → ClassId) (dI : Nat → Nat → Nat) (k5 : Nat → ClassId) (a : Nat → Nat) (P : PP) (G J : GG) (L : LL) (n : Nat) (hn : P.1 = nI n) (hn8 : n ≤ 8) : Met l y_D_lostDisks w_D_lostDisks ({ frames := 1, cells := 0, slots := 0, locals := 24 }) (kx_Pc (dC, dI) clA (tyL k5) (wD a k5 P G J L) [.ref (a 0)]) (kx_R (some (.int (nI (pMarked P (-1) (-1) n))))) 0 0 (fun _ => False) := by
  refine Met.ofW (cc := c_D_lostDisks) (maxL := 1) (ret := (some .int)) (by decide) rfl ?_
  intro p e s m args below meth c s₁ B hml hv
  obtain ⟨rfl, hP, hK, hD0⟩ := hv
  have hx := B.exec
  have hb := B.bytes
  have hr := B.returns
  have hts : ∀ w ∈ wsA, w.before _ s = true := fun w h => atoms_spec (ws := w_D_lostDisks) B.pre w (List.mem_cons_of_mem _ h)
  have hown : s.vm.findClass R_D = some m.cls := findClass_of_methodNamed B.named
  have hlocks := B.notSynchronized
  have hD := kx_D.self hD0
  have hS : va_S (kx_A (wD a k5 P G J L)) s.heap s.heap [] := va_S.rf
  have hl := lv_entry ([.ref (a 0)]) (n := 1) (Nat.le_of_ble_eq_true rfl)
  rw [lg_entry_eq]
  generalize (lg_sl ([.ref (a 0)]) ++ List.replicate (1 - (lg_sl ([.ref (a 0)])).length) Slot.unset).toArray = ls at hl ⊢
  have hl : lv_has ls 1 [(0, .ref (a 0))] := hl
  refine lv_aload_n hx hb d_D_lostDisks_0 rfl (lv_at hl 0 rfl) ?_
  refine lv_iconst (v := (-1)) hx hb d_D_lostDisks_1 (by decide) ?_
  refine lv_iconst (v := (-1)) hx hb d_D_lostDisks_2 (by decide) ?_
  refine kx_VRW (As := [.int (-1), .int (-1)]) (rest := []) ⟨hx, hb, hml, hown, hts⟩ (k_D_disksMarked l dC dI k5 a P G J L (-1) (-1) n hn hn8) (cwV 2 hts (goodV wm_D_222 wn_D_disksMarked ws_D_disksMarked wi_D wc_D_disksMarked) rfl rfl rfl (by decide +kernel) ⟨Nat.le_of_ble_eq_true rfl, Nat.le_of_ble_eq_true rfl⟩) ⟨Nat.zero_le _, Nat.zero_le _⟩ hK hP hD 0 rfl rfl rfl hl.1 rfl (Nat.le_of_ble_eq_true rfl) d_D_lostDisks_3 ?_
  refine W.eq (g2 := F0 m 6 ls [.int (nI (pMarked P (-1) (-1) n))]) rfl ?_
  exact W.iret (v := (nI (pMarked P (-1) (-1) n))) hx hb hr (fun t ht hW => kx_Ri (rfl) ht) (fun _ h => absurd h List.not_mem_nil) d_D_lostDisks_6
set_option maxHeartbeats 4000000 in
set_option maxRecDepth 100000 in
theorem k_D_blankDisks (l : Launch) (dC : Nat → ClassId) (dI : Nat → Nat → Nat) (k5 : Nat → ClassId) (a : Nat → Nat) (P : PP) (G J : GG) (L : LL) (n : Nat) (hn : P.1 = nI n) (hn8 : n ≤ 8) : Met l y_D_blankDisks w_D_blankDisks ({ frames := 1, cells := 0, slots := 0, locals := 24 }) (kx_Pc (dC, dI) clA (tyL k5) (wD a k5 P G J L) [.ref (a 0)]) (kx_R (some (.int (nI (pMarked P 0 (P.2.1 - 1) n))))) 0 0 (fun _ => False) := by
  refine Met.ofW (cc := c_D_blankDisks) (maxL := 1) (ret := (some .int)) (by decide) rfl ?_
  intro p e s m args below meth c s₁ B hml hv
  obtain ⟨rfl, hP, hK, hD0⟩ := hv
  have hx := B.exec
  have hb := B.bytes
  have hr := B.returns
  have hts : ∀ w ∈ wsA, w.before _ s = true := fun w h => atoms_spec (ws := w_D_blankDisks) B.pre w (List.mem_cons_of_mem _ h)
  have hown : s.vm.findClass R_D = some m.cls := findClass_of_methodNamed B.named
  have hlocks := B.notSynchronized
  have hD := kx_D.self hD0
  have hS : va_S (kx_A (wD a k5 P G J L)) s.heap s.heap [] := va_S.rf
  have hl := lv_entry ([.ref (a 0)]) (n := 1) (Nat.le_of_ble_eq_true rfl)
  rw [lg_entry_eq]
  generalize (lg_sl ([.ref (a 0)]) ++ List.replicate (1 - (lg_sl ([.ref (a 0)])).length) Slot.unset).toArray = ls at hl ⊢
  have hl : lv_has ls 1 [(0, .ref (a 0))] := hl
  refine lv_aload_n hx hb d_D_blankDisks_0 rfl (lv_at hl 0 rfl) ?_
  refine lv_iconst (v := 0) hx hb d_D_blankDisks_1 (by decide) ?_
  refine lv_aload_n hx hb d_D_blankDisks_2 rfl (lv_at hl 0 rfl) ?_
  refine va_get (D := (dC, dI)) (ci := 2) (v := .int (P.2.1)) (C := R_D) (T := T_D) (N := 9) hx hb hts wu_D hown hK hP 0 rfl rfl 7 (by decide) (hts _ wf_D_170) (fun _ h9 => h9) rfl d_D_blankDisks_3 ?_
  refine lv_iconst (v := 1) hx hb d_D_blankDisks_6 (by decide) ?_
  refine lv_isub hx hb d_D_blankDisks_7 ?_
  refine kx_VRW (As := [.int 0, .int ((P.2.1) - 1)]) (rest := []) ⟨hx, hb, hml, hown, hts⟩ (k_D_disksMarked l dC dI k5 a P G J L 0 (P.2.1 - 1) n hn hn8) (cwV 2 hts (goodV wm_D_222 wn_D_disksMarked ws_D_disksMarked wi_D wc_D_disksMarked) rfl rfl rfl (by decide +kernel) ⟨Nat.le_of_ble_eq_true rfl, Nat.le_of_ble_eq_true rfl⟩) ⟨Nat.zero_le _, Nat.zero_le _⟩ hK hP hD 0 rfl rfl rfl hl.1 rfl (Nat.le_of_ble_eq_true rfl) d_D_blankDisks_8 ?_
  refine W.eq (g2 := F0 m 11 ls [.int (nI (pMarked P 0 (P.2.1 - 1) n))]) rfl ?_
  exact W.iret (v := (nI (pMarked P 0 (P.2.1 - 1) n))) hx hb hr (fun t ht hW => kx_Ri (rfl) ht) (fun _ h => absurd h List.not_mem_nil) d_D_blankDisks_11
set_option maxHeartbeats 4000000 in
set_option maxRecDepth 100000 in
theorem k_D_partDown (l : Launch) (dC : Nat → ClassId) (dI : Nat → Nat → Nat) (k5 : Nat → ClassId) (bits : Int64) (u : Nat) : Met l y_D_partDown w_D_partDown ({ frames := 0, cells := 0, slots := 0, locals := 0 }) (kx_Pc (dC, dI) clA (tyL k5) ([]) [.long bits, .int (nI u)]) (kx_R (some (.int (pPart bits u)))) 0 0 (fun _ => False) := by
  refine Met.ofW (cc := c_D_partDown) (maxL := 3) (ret := (some .int)) (by decide) rfl ?_
  intro p e s m args below meth c s₁ B hml hv
  obtain ⟨rfl, hP, hK, hD0⟩ := hv
  have hx := B.exec
  have hb := B.bytes
  have hr := B.returns
  have hts : ∀ w ∈ wsA, w.before _ s = true := fun w h => atoms_spec (ws := w_D_partDown) B.pre w (List.mem_cons_of_mem _ h)
  have hown : s.vm.findClass R_D = some m.cls := findClass_of_methodNamed B.named
  have hlocks := B.notSynchronized
  have hD := kx_D.self hD0
  have hS : va_S (kx_A ([])) s.heap s.heap [] := va_S.rf
  have hl := lv_entry ([.long bits, .int (nI u)]) (n := 3) (Nat.le_of_ble_eq_true rfl)
  rw [lg_entry_eq]
  generalize (lg_sl ([.long bits, .int (nI u)]) ++ List.replicate (3 - (lg_sl ([.long bits, .int (nI u)])).length) Slot.unset).toArray = ls at hl ⊢
  have hl : lv_has ls 3 [(0, .long bits), (2, .int (nI u))] := hl
  refine lv_lload_n hx hb d_D_partDown_0 rfl (lv_at hl 0 rfl) ?_
  refine lv_iconst (v := 2) hx hb d_D_partDown_1 (by decide) ?_
  refine lv_iload_n hx hb d_D_partDown_2 rfl (lv_at hl 1 rfl) ?_
  refine lv_imul hx hb d_D_partDown_3 ?_
  refine lv_lushr (v := (bits.toUInt64 >>> ((2 * (nI u)).toInt64.toUInt64 &&& Int64.toUInt64 63)).toInt64) hx hb d_D_partDown_4 rfl ?_
  refine lv_l2i (v := ((bits.toUInt64 >>> ((2 * (nI u)).toInt64.toUInt64 &&& Int64.toUInt64 63)).toInt64).toInt32) hx hb d_D_partDown_5 rfl ?_
  refine lv_iconst (v := 3) hx hb d_D_partDown_6 (by decide) ?_
  refine lv_iand hx hb d_D_partDown_7 ?_
  exact W.iret (v := (((bits.toUInt64 >>> ((2 * (nI u)).toInt64.toUInt64 &&& Int64.toUInt64 63)).toInt64).toInt32 &&& 3)) hx hb hr (fun t ht hW => kx_Ri (rfl) ht) (fun _ h => absurd h List.not_mem_nil) d_D_partDown_8
set_option maxHeartbeats 4000000 in
set_option maxRecDepth 100000 in
theorem k_D_takesUnit (l : Launch) (dC : Nat → ClassId) (dI : Nat → Nat → Nat) (k5 : Nat → ClassId) (a : Nat → Nat) (P : PP) (G J : GG) (L : LL) (t u : Int32) (k : Nat) (hk : k < 8) (h0 : ¬ P.1 = 0) (ek : t + u - (t + u) / P.1 * P.1 = nI k) : Met l y_D_takesUnit w_D_takesUnit ({ frames := 0, cells := 0, slots := 0, locals := 0 }) (kx_Pc (dC, dI) clA (tyL k5) (wD a k5 P G J L) [.ref (a 0), .int t, .int u]) (kx_R (some (.int (if pMk P k ≤ t then 0 else 1)))) 0 0 (fun _ => False) := by
  refine Met.ofW (cc := c_D_takesUnit) (maxL := 3) (ret := (some .int)) (by decide) rfl ?_
  intro p e s m args below meth c s₁ B hml hv
  obtain ⟨rfl, hP, hK, hD0⟩ := hv
  have hx := B.exec
  have hb := B.bytes
  have hr := B.returns
  have hts : ∀ w ∈ wsA, w.before _ s = true := fun w h => atoms_spec (ws := w_D_takesUnit) B.pre w (List.mem_cons_of_mem _ h)
  have hown : s.vm.findClass R_D = some m.cls := findClass_of_methodNamed B.named
  have hlocks := B.notSynchronized
  have hD := kx_D.self hD0
  have hS : va_S (kx_A (wD a k5 P G J L)) s.heap s.heap [] := va_S.rf
  have hl := lv_entry ([.ref (a 0), .int t, .int u]) (n := 3) (Nat.le_of_ble_eq_true rfl)
  rw [lg_entry_eq]
  generalize (lg_sl ([.ref (a 0), .int t, .int u]) ++ List.replicate (3 - (lg_sl ([.ref (a 0), .int t, .int u])).length) Slot.unset).toArray = ls at hl ⊢
  have hl : lv_has ls 3 [(0, .ref (a 0)), (1, .int t), (2, .int u)] := hl
  refine lv_aload_n hx hb d_D_takesUnit_0 rfl (lv_at hl 0 rfl) ?_
  refine va_get (D := (dC, dI)) (ci := 2) (v := .ref (a 1)) (C := R_D) (T := T_D) (N := 9) hx hb hts wu_D hown hK hP 0 rfl rfl 0 (by decide) (hts _ wf_D_9) (fun _ h9 => h9) rfl d_D_takesUnit_1 ?_
  refine lv_iload_n hx hb d_D_takesUnit_4 rfl (lv_at hl 1 rfl) ?_
  refine lv_iload_n hx hb d_D_takesUnit_5 rfl (lv_at hl 2 rfl) ?_
  refine lv_iadd hx hb d_D_takesUnit_6 ?_
  refine lv_aload_n hx hb d_D_takesUnit_7 rfl (lv_at hl 0 rfl) ?_
  refine va_get (D := (dC, dI)) (ci := 2) (v := .int (P.1)) (C := R_D) (T := T_D) (N := 9) hx hb hts wu_D hown hK hP 0 rfl rfl 6 (by decide) (hts _ wf_D_64) (fun _ h9 => h9) rfl d_D_takesUnit_8 ?_
  refine lv_irem hx hb d_D_takesUnit_11 h0 ?_
  refine kx_iald hx hb hK hP 1 0 rfl rfl k (ek) (by omega) (by omega) d_D_takesUnit_12 ?_
  refine lv_iload_n hx hb d_D_takesUnit_13 rfl (lv_at hl 1 rfl) ?_
  refine lv_icmp_le (tgt := 21) hx hb d_D_takesUnit_14 (by decide) (fun hc_1 => ?_) (fun hc_1 => ?_)
  · refine lv_iconst (v := 0) hx hb d_D_takesUnit_21 (by decide) ?_
    exact W.iret (v := 0) hx hb hr (fun t ht hW => kx_Ri (by rw [if_pos hc_1]) ht) (fun _ h => absurd h List.not_mem_nil) d_D_takesUnit_22
  · refine lv_iconst (v := 1) hx hb d_D_takesUnit_17 (by decide) ?_
    refine lv_goto (tgt := 22) hx hb d_D_takesUnit_18 (by decide) ?_
    exact W.iret (v := 1) hx hb hr (fun t ht hW => kx_Ri (by rw [if_neg hc_1]) ht) (fun _ h => absurd h List.not_mem_nil) d_D_takesUnit_22
