abbrev wL (a : Nat → Nat) (k5 : Nat → ClassId) (L : LL) : va_W := [((a 12), .inr (1, [.ref (a 13), .ref (a 14), .ref (a 15), .ref (a 16), .ref (a 17), .int (L.1 0), .int (L.1 1)])), ((a 13), .inl ((k5 4), 2, .inr (.inr (.inr (.inr (gr2 (a 18) (a 19))))))), ((a 14), .inl ((k5 4), 2, .inr (.inr (.inr (.inr (gr2 (a 20) (a 21))))))), ((a 15), .inl ((k5 4), 2, .inr (.inr (.inr (.inr (gr2 (a 22) (a 23))))))), ((a 16), .inl ((k5 0), 2, .inl (L.2 6))), ((a 17), .inl ((k5 3), 2, .inl (L.2 7))), ((a 18), .inl ((k5 0), 8, .inl (L.2 0))), ((a 19), .inl ((k5 0), 8, .inl (L.2 1))), ((a 20), .inl ((k5 0), 8, .inl (L.2 2))), ((a 21), .inl ((k5 0), 8, .inl (L.2 3))), ((a 22), .inl ((k5 0), 8, .inl (L.2 4))), ((a 23), .inl ((k5 0), 8, .inl (L.2 5)))]
set_option maxHeartbeats 4000000 in
set_option maxRecDepth 100000 in
theorem k_L_has (l : Launch) (dC : Nat → ClassId) (dI : Nat → Nat → Nat) (k5 : Nat → ClassId) (a : Nat → Nat) (L : LL) (w : Nat) (hw : w = 0 ∨ w = 1) (d : Nat) (hd : d < 8) : Met l y_L_has w_L_has ({ frames := 0, cells := 0, slots := 0, locals := 0 }) (kx_Pc (dC, dI) clA (tyL k5) (wL a k5 L) [.ref (a 12), .int (nI w), .int (nI d)]) (kx_R (some (.int (bI (lHas w d L))))) 0 0 (fun _ => False) := by
  refine Met.ofW (cc := c_L_has) (maxL := 3) (ret := (some .boolean)) (by decide) rfl ?_
  intro p e s m args below meth c s₁ B hml hv
  obtain ⟨rfl, hP, hK, hD0⟩ := hv
  have hx := B.exec
  have hb := B.bytes
  have hr := B.returns
  have hts : ∀ w ∈ wsA, w.before _ s = true := fun w h => atoms_spec (ws := w_L_has) B.pre w (List.mem_cons_of_mem _ h)
  have hown : s.vm.findClass R_L = some m.cls := findClass_of_methodNamed B.named
  have hlocks := B.notSynchronized
  have hD := kx_D.self hD0
  have hS : va_S (kx_A (wL a k5 L)) s.heap s.heap [] := va_S.rf
  have hl := lv_entry ([.ref (a 12), .int (nI w), .int (nI d)]) (n := 3) (Nat.le_of_ble_eq_true rfl)
  rw [lg_entry_eq]
  generalize (lg_sl ([.ref (a 12), .int (nI w), .int (nI d)]) ++ List.replicate (3 - (lg_sl ([.ref (a 12), .int (nI w), .int (nI d)])).length) Slot.unset).toArray = ls at hl ⊢
  have hl : lv_has ls 3 [(0, .ref (a 12)), (1, .int (nI w)), (2, .int (nI d))] := hl
  rcases hw with rfl | rfl
  · refine lv_aload_n hx hb d_L_has_0 rfl (lv_at hl 0 rfl) ?_
    refine va_get (D := (dC, dI)) (ci := 1) (v := .ref (a 13)) (C := R_L) (T := T_L) (N := 7) hx hb hts wu_L hown hK hP 0 rfl rfl 0 (by decide) (hts _ wf_L_11) (fun _ h9 => h9) rfl d_L_has_1 ?_
    refine lv_iload_n hx hb d_L_has_4 rfl (lv_at hl 1 rfl) ?_
    refine kx_aald hx hb hK hP 1 4 rfl rfl 0 (rfl) (by omega) (by omega) (v := (a 18)) rfl d_L_has_5 ?_
    refine lv_iload_n hx hb d_L_has_6 rfl (lv_at hl 2 rfl) ?_
    refine kx_iald hx hb hK hP 6 0 rfl rfl d (rfl) (by omega) (by omega) d_L_has_7 ?_
    refine lv_if_eq (tgt := 34) hx hb d_L_has_8 (by decide) (fun hc_1 => ?_) (fun hc_1 => ?_)
    · refine lv_iconst (v := 0) hx hb d_L_has_34 (by decide) ?_
      exact W.zret (v := 0) hx hb hr rfl (fun t ht hW => kx_Ri (by simp [lHas, bI, hc_1]) ht) (fun _ h => absurd h List.not_mem_nil) d_L_has_35
    · refine lv_aload_n hx hb d_L_has_11 rfl (lv_at hl 0 rfl) ?_
      refine va_get (D := (dC, dI)) (ci := 1) (v := .ref (a 13)) (C := R_L) (T := T_L) (N := 7) hx hb hts wu_L hown hK hP 0 rfl rfl 0 (by decide) (hts _ wf_L_11) (fun _ h9 => h9) rfl d_L_has_12 ?_
      refine lv_iload_n hx hb d_L_has_15 rfl (lv_at hl 1 rfl) ?_
      refine kx_aald hx hb hK hP 1 4 rfl rfl 0 (rfl) (by omega) (by omega) (v := (a 18)) rfl d_L_has_16 ?_
      refine lv_iload_n hx hb d_L_has_17 rfl (lv_at hl 2 rfl) ?_
      refine kx_iald hx hb hK hP 6 0 rfl rfl d (rfl) (by omega) (by omega) d_L_has_18 ?_
      refine lv_aload_n hx hb d_L_has_19 rfl (lv_at hl 0 rfl) ?_
      refine va_get (D := (dC, dI)) (ci := 1) (v := .ref (a 14)) (C := R_L) (T := T_L) (N := 7) hx hb hts wu_L hown hK hP 0 rfl rfl 1 (by decide) (hts _ wf_L_16) (fun _ h9 => h9) rfl d_L_has_20 ?_
      refine lv_iload_n hx hb d_L_has_23 rfl (lv_at hl 1 rfl) ?_
      refine kx_aald hx hb hK hP 2 4 rfl rfl 0 (rfl) (by omega) (by omega) (v := (a 20)) rfl d_L_has_24 ?_
      refine lv_iload_n hx hb d_L_has_25 rfl (lv_at hl 2 rfl) ?_
      refine kx_iald hx hb hK hP 8 0 rfl rfl d (rfl) (by omega) (by omega) d_L_has_26 ?_
      refine lv_icmp_ne (tgt := 34) hx hb d_L_has_27 (by decide) (fun hc_2 => ?_) (fun hc_2 => ?_)
      · refine lv_iconst (v := 0) hx hb d_L_has_34 (by decide) ?_
        exact W.zret (v := 0) hx hb hr rfl (fun t ht hW => kx_Ri (by simp [lHas, bI, hc_1, hc_2]) ht) (fun _ h => absurd h List.not_mem_nil) d_L_has_35
      · refine lv_iconst (v := 1) hx hb d_L_has_30 (by decide) ?_
        refine lv_goto (tgt := 35) hx hb d_L_has_31 (by decide) ?_
        exact W.zret (v := 1) hx hb hr rfl (fun t ht hW => kx_Ri (by unfold lHas; rw [decide_eq_true hc_1, decide_eq_true hc_2]; rfl) ht) (fun _ h => absurd h List.not_mem_nil) d_L_has_35
  · refine lv_aload_n hx hb d_L_has_0 rfl (lv_at hl 0 rfl) ?_
    refine va_get (D := (dC, dI)) (ci := 1) (v := .ref (a 13)) (C := R_L) (T := T_L) (N := 7) hx hb hts wu_L hown hK hP 0 rfl rfl 0 (by decide) (hts _ wf_L_11) (fun _ h9 => h9) rfl d_L_has_1 ?_
    refine lv_iload_n hx hb d_L_has_4 rfl (lv_at hl 1 rfl) ?_
    refine kx_aald hx hb hK hP 1 4 rfl rfl 1 (rfl) (by omega) (by omega) (v := (a 19)) rfl d_L_has_5 ?_
    refine lv_iload_n hx hb d_L_has_6 rfl (lv_at hl 2 rfl) ?_
    refine kx_iald hx hb hK hP 7 0 rfl rfl d (rfl) (by omega) (by omega) d_L_has_7 ?_
    refine lv_if_eq (tgt := 34) hx hb d_L_has_8 (by decide) (fun hc_3 => ?_) (fun hc_3 => ?_)
    · refine lv_iconst (v := 0) hx hb d_L_has_34 (by decide) ?_
      exact W.zret (v := 0) hx hb hr rfl (fun t ht hW => kx_Ri (by simp [lHas, bI, hc_3]) ht) (fun _ h => absurd h List.not_mem_nil) d_L_has_35
    · refine lv_aload_n hx hb d_L_has_11 rfl (lv_at hl 0 rfl) ?_
      refine va_get (D := (dC, dI)) (ci := 1) (v := .ref (a 13)) (C := R_L) (T := T_L) (N := 7) hx hb hts wu_L hown hK hP 0 rfl rfl 0 (by decide) (hts _ wf_L_11) (fun _ h9 => h9) rfl d_L_has_12 ?_
      refine lv_iload_n hx hb d_L_has_15 rfl (lv_at hl 1 rfl) ?_
      refine kx_aald hx hb hK hP 1 4 rfl rfl 1 (rfl) (by omega) (by omega) (v := (a 19)) rfl d_L_has_16 ?_
      refine lv_iload_n hx hb d_L_has_17 rfl (lv_at hl 2 rfl) ?_
      refine kx_iald hx hb hK hP 7 0 rfl rfl d (rfl) (by omega) (by omega) d_L_has_18 ?_
      refine lv_aload_n hx hb d_L_has_19 rfl (lv_at hl 0 rfl) ?_
      refine va_get (D := (dC, dI)) (ci := 1) (v := .ref (a 14)) (C := R_L) (T := T_L) (N := 7) hx hb hts wu_L hown hK hP 0 rfl rfl 1 (by decide) (hts _ wf_L_16) (fun _ h9 => h9) rfl d_L_has_20 ?_
      refine lv_iload_n hx hb d_L_has_23 rfl (lv_at hl 1 rfl) ?_
      refine kx_aald hx hb hK hP 2 4 rfl rfl 1 (rfl) (by omega) (by omega) (v := (a 21)) rfl d_L_has_24 ?_
      refine lv_iload_n hx hb d_L_has_25 rfl (lv_at hl 2 rfl) ?_
      refine kx_iald hx hb hK hP 9 0 rfl rfl d (rfl) (by omega) (by omega) d_L_has_26 ?_
      refine lv_icmp_ne (tgt := 34) hx hb d_L_has_27 (by decide) (fun hc_4 => ?_) (fun hc_4 => ?_)
      · refine lv_iconst (v := 0) hx hb d_L_has_34 (by decide) ?_
        exact W.zret (v := 0) hx hb hr rfl (fun t ht hW => kx_Ri (by simp [lHas, bI, hc_3, hc_4]) ht) (fun _ h => absurd h List.not_mem_nil) d_L_has_35
      · refine lv_iconst (v := 1) hx hb d_L_has_30 (by decide) ?_
        refine lv_goto (tgt := 35) hx hb d_L_has_31 (by decide) ?_
        exact W.zret (v := 1) hx hb hr rfl (fun t ht hW => kx_Ri (by unfold lHas; rw [decide_eq_true hc_3, decide_eq_true hc_4]; rfl) ht) (fun _ h => absurd h List.not_mem_nil) d_L_has_35
set_option maxHeartbeats 4000000 in
set_option maxRecDepth 100000 in
theorem k_L_hasSome (l : Launch) (dC : Nat → ClassId) (dI : Nat → Nat → Nat) (k5 : Nat → ClassId) (a : Nat → Nat) (L : LL) (d : Nat) (hd : d < 8) : Met l y_L_hasSome w_L_hasSome ({ frames := 1, cells := 0, slots := 0, locals := 22 }) (kx_Pc (dC, dI) clA (tyL k5) (wL a k5 L) [.ref (a 12), .int (nI d)]) (kx_R (some (.int (bI (lSome d L))))) 0 0 (fun _ => False) := by
  refine Met.ofW (cc := c_L_hasSome) (maxL := 2) (ret := (some .boolean)) (by decide) rfl ?_
  intro p e s m args below meth c s₁ B hml hv
  obtain ⟨rfl, hP, hK, hD0⟩ := hv
  have hx := B.exec
  have hb := B.bytes
  have hr := B.returns
  have hts : ∀ w ∈ wsA, w.before _ s = true := fun w h => atoms_spec (ws := w_L_hasSome) B.pre w (List.mem_cons_of_mem _ h)
  have hown : s.vm.findClass R_L = some m.cls := findClass_of_methodNamed B.named
  have hlocks := B.notSynchronized
  have hD := kx_D.self hD0
  have hS : va_S (kx_A (wL a k5 L)) s.heap s.heap [] := va_S.rf
  have hl := lv_entry ([.ref (a 12), .int (nI d)]) (n := 2) (Nat.le_of_ble_eq_true rfl)
  rw [lg_entry_eq]
  generalize (lg_sl ([.ref (a 12), .int (nI d)]) ++ List.replicate (2 - (lg_sl ([.ref (a 12), .int (nI d)])).length) Slot.unset).toArray = ls at hl ⊢
  have hl : lv_has ls 2 [(0, .ref (a 12)), (1, .int (nI d))] := hl
  refine lv_aload_n hx hb d_L_hasSome_0 rfl (lv_at hl 0 rfl) ?_
  refine lv_iconst (v := 0) hx hb d_L_hasSome_1 (by decide) ?_
  refine lv_iload_n hx hb d_L_hasSome_2 rfl (lv_at hl 1 rfl) ?_
  refine kx_VRW (As := [.int (nI 0), .int (nI d)]) (rest := []) ⟨hx, hb, hml, hown, hts⟩ (k_L_has l dC dI k5 a L 0 (by decide) d hd) (cwV 2 hts (goodV wm_L_47 wn_L_has ws_L_has wi_L wc_L_has) rfl rfl rfl (by decide +kernel) ⟨Nat.le_of_ble_eq_true rfl, Nat.le_of_ble_eq_true rfl⟩) ⟨Nat.zero_le _, Nat.zero_le _⟩ hK hP hD 0 rfl rfl rfl hl.1 rfl (Nat.le_of_ble_eq_true rfl) d_L_hasSome_3 ?_
  refine W.eq (g2 := F0 m 6 ls [.int (bI (lHas 0 d L))]) rfl ?_
  refine lv_if_ne (tgt := 18) hx hb d_L_hasSome_6 (by decide) (fun hc_1 => ?_) (fun hc_1 => ?_)
  · refine lv_iconst (v := 1) hx hb d_L_hasSome_18 (by decide) ?_
    refine lv_goto (tgt := 23) hx hb d_L_hasSome_19 (by decide) ?_
    exact W.zret (v := 1) hx hb hr rfl (fun t ht hW => kx_Ri (by cases h0 : lHas 0 d L <;> cases h1 : lHas 1 d L <;> simp_all [lSome, bI]) ht) (fun _ h => absurd h List.not_mem_nil) d_L_hasSome_23
  · refine lv_aload_n hx hb d_L_hasSome_9 rfl (lv_at hl 0 rfl) ?_
    refine lv_iconst (v := 1) hx hb d_L_hasSome_10 (by decide) ?_
    refine lv_iload_n hx hb d_L_hasSome_11 rfl (lv_at hl 1 rfl) ?_
    refine kx_VRW (As := [.int (nI 1), .int (nI d)]) (rest := []) ⟨hx, hb, hml, hown, hts⟩ (k_L_has l dC dI k5 a L 1 (by decide) d hd) (cwV 2 hts (goodV wm_L_47 wn_L_has ws_L_has wi_L wc_L_has) rfl rfl rfl (by decide +kernel) ⟨Nat.le_of_ble_eq_true rfl, Nat.le_of_ble_eq_true rfl⟩) ⟨Nat.zero_le _, Nat.zero_le _⟩ hK hP hD 0 rfl rfl rfl hl.1 rfl (Nat.le_of_ble_eq_true rfl) d_L_hasSome_12 ?_
    refine W.eq (g2 := F0 m 15 ls [.int (bI (lHas 1 d L))]) rfl ?_
    refine lv_if_eq (tgt := 22) hx hb d_L_hasSome_15 (by decide) (fun hc_2 => ?_) (fun hc_2 => ?_)
    · refine lv_iconst (v := 0) hx hb d_L_hasSome_22 (by decide) ?_
      exact W.zret (v := 0) hx hb hr rfl (fun t ht hW => kx_Ri (by cases h0 : lHas 0 d L <;> cases h1 : lHas 1 d L <;> simp_all [lSome, bI]) ht) (fun _ h => absurd h List.not_mem_nil) d_L_hasSome_23
    · refine lv_iconst (v := 1) hx hb d_L_hasSome_18 (by decide) ?_
      refine lv_goto (tgt := 23) hx hb d_L_hasSome_19 (by decide) ?_
      exact W.zret (v := 1) hx hb hr rfl (fun t ht hW => kx_Ri (by cases h0 : lHas 0 d L <;> cases h1 : lHas 1 d L <;> simp_all [lSome, bI]) ht) (fun _ h => absurd h List.not_mem_nil) d_L_hasSome_23
set_option maxHeartbeats 4000000 in
set_option maxRecDepth 100000 in
theorem k_L_put (l : Launch) (dC : Nat → ClassId) (dI : Nat → Nat → Nat) (k5 : Nat → ClassId) (a : Nat → Nat) (L : LL) (w : Nat) (hw : w = 0 ∨ w = 1) (d : Nat) (hd : d < 8) (part : Int32) : Met l y_L_put w_L_put ({ frames := 0, cells := 0, slots := 0, locals := 0 }) (kx_Pc (dC, dI) clA (tyL k5) (wL a k5 L) [.ref (a 12), .int (nI w), .int (nI d), .int part]) (kx_Q (dC, dI) clA (wL a k5 L) (wL a k5 (lPut w d part L)) none) 0 0 (kx_A (wL a k5 L)) := by
  refine Met.ofW (cc := c_L_put) (maxL := 4) (ret := none) (by decide) rfl ?_
  intro p e s m args below meth c s₁ B hml hv
  obtain ⟨rfl, hP, hK, hD0⟩ := hv
  have hx := B.exec
  have hb := B.bytes
  have hr := B.returns
  have hts : ∀ w ∈ wsA, w.before _ s = true := fun w h => atoms_spec (ws := w_L_put) B.pre w (List.mem_cons_of_mem _ h)
  have hown : s.vm.findClass R_L = some m.cls := findClass_of_methodNamed B.named
  have hlocks := B.notSynchronized
  have hD := kx_D.self hD0
  have hS : va_S (kx_A (wL a k5 L)) s.heap s.heap [] := va_S.rf
  have hl := lv_entry ([.ref (a 12), .int (nI w), .int (nI d), .int part]) (n := 4) (Nat.le_of_ble_eq_true rfl)
  rw [lg_entry_eq]
  generalize (lg_sl ([.ref (a 12), .int (nI w), .int (nI d), .int part]) ++ List.replicate (4 - (lg_sl ([.ref (a 12), .int (nI w), .int (nI d), .int part])).length) Slot.unset).toArray = ls at hl ⊢
  have hl : lv_has ls 4 [(0, .ref (a 12)), (1, .int (nI w)), (2, .int (nI d)), (3, .int part)] := hl
  rcases hw with rfl | rfl
  · refine lv_iload_n hx hb d_L_put_0 rfl (lv_at hl 3 rfl) ?_
    refine lv_iconst (v := 1) hx hb d_L_put_1 (by decide) ?_
    refine lv_icmp_eq (tgt := 10) hx hb d_L_put_2 (by decide) (fun hc_1 => ?_) (fun hc_1 => ?_)
    · refine lv_aload_n hx hb d_L_put_10 rfl (lv_at hl 0 rfl) ?_
      refine va_get (D := (dC, dI)) (ci := 1) (v := .ref (a 13)) (C := R_L) (T := T_L) (N := 7) hx hb hts wu_L hown hK hP 0 rfl rfl 0 (by decide) (hts _ wf_L_11) (fun _ h9 => h9) rfl d_L_put_11 ?_
      refine lv_iload_n hx hb d_L_put_14 rfl (lv_at hl 1 rfl) ?_
      refine kx_aald hx hb hK hP 1 4 rfl rfl 0 (rfl) (by omega) (by omega) (v := (a 18)) rfl d_L_put_15 ?_
      refine lv_iload_n hx hb d_L_put_16 rfl (lv_at hl 2 rfl) ?_
      refine lv_aload_n hx hb d_L_put_17 rfl (lv_at hl 0 rfl) ?_
      refine va_get (D := (dC, dI)) (ci := 1) (v := .ref (a 16)) (C := R_L) (T := T_L) (N := 7) hx hb hts wu_L hown hK hP 0 rfl rfl 3 (by decide) (hts _ wf_L_22) (fun _ h9 => h9) rfl d_L_put_18 ?_
      refine lv_iload_n hx hb d_L_put_21 rfl (lv_at hl 1 rfl) ?_
      refine kx_iald hx hb hK hP 4 0 rfl rfl 0 (rfl) (by omega) (by omega) d_L_put_22 ?_
      refine kx_iast (ws' := [((a 12), .inr (1, [.ref (a 13), .ref (a 14), .ref (a 15), .ref (a 16), .ref (a 17), .int (L.1 0), .int (L.1 1)])), ((a 13), .inl ((k5 4), 2, .inr (.inr (.inr (.inr (gr2 (a 18) (a 19))))))), ((a 14), .inl ((k5 4), 2, .inr (.inr (.inr (.inr (gr2 (a 20) (a 21))))))), ((a 15), .inl ((k5 4), 2, .inr (.inr (.inr (.inr (gr2 (a 22) (a 23))))))), ((a 16), .inl ((k5 0), 2, .inl (L.2 6))), ((a 17), .inl ((k5 3), 2, .inl (L.2 7))), ((a 18), .inl ((k5 0), 8, .inl (upd (L.2 0) d ((L.2 6) 0)))), ((a 19), .inl ((k5 0), 8, .inl (L.2 1))), ((a 20), .inl ((k5 0), 8, .inl (L.2 2))), ((a 21), .inl ((k5 0), 8, .inl (L.2 3))), ((a 22), .inl ((k5 0), 8, .inl (L.2 4))), ((a 23), .inl ((k5 0), 8, .inl (L.2 5)))]) hx hb hK hP hD hS 6 0 rfl rfl d (rfl) (by omega) (by omega) rfl d_L_put_23 (fun H locs hP hD hS => ?_)
      refine lv_iload_n hx hb d_L_put_24 rfl (lv_at hl 3 rfl) ?_
      refine lv_iconst (v := 1) hx hb d_L_put_25 (by decide) ?_
      refine lv_icmp_eq (tgt := 34) hx hb d_L_put_26 (by decide) (fun hc_2 => ?_) (fun hc_2 => ?_)
      · refine lv_aload_n hx hb d_L_put_34 rfl (lv_at hl 0 rfl) ?_
        refine va_get (D := (dC, dI)) (ci := 1) (v := .ref (a 14)) (C := R_L) (T := T_L) (N := 7) hx hb hts wu_L hown hK hP 0 rfl rfl 1 (by decide) (hts _ wf_L_16) (fun _ h9 => h9) rfl d_L_put_35 ?_
        refine lv_iload_n hx hb d_L_put_38 rfl (lv_at hl 1 rfl) ?_
        refine kx_aald hx hb hK hP 2 4 rfl rfl 0 (rfl) (by omega) (by omega) (v := (a 20)) rfl d_L_put_39 ?_
        refine lv_iload_n hx hb d_L_put_40 rfl (lv_at hl 2 rfl) ?_
        refine lv_aload_n hx hb d_L_put_41 rfl (lv_at hl 0 rfl) ?_
        refine va_get (D := (dC, dI)) (ci := 1) (v := .ref (a 16)) (C := R_L) (T := T_L) (N := 7) hx hb hts wu_L hown hK hP 0 rfl rfl 3 (by decide) (hts _ wf_L_22) (fun _ h9 => h9) rfl d_L_put_42 ?_
        refine lv_iload_n hx hb d_L_put_45 rfl (lv_at hl 1 rfl) ?_
        refine kx_iald hx hb hK hP 4 0 rfl rfl 0 (rfl) (by omega) (by omega) d_L_put_46 ?_
        refine kx_iast (ws' := [((a 12), .inr (1, [.ref (a 13), .ref (a 14), .ref (a 15), .ref (a 16), .ref (a 17), .int (L.1 0), .int (L.1 1)])), ((a 13), .inl ((k5 4), 2, .inr (.inr (.inr (.inr (gr2 (a 18) (a 19))))))), ((a 14), .inl ((k5 4), 2, .inr (.inr (.inr (.inr (gr2 (a 20) (a 21))))))), ((a 15), .inl ((k5 4), 2, .inr (.inr (.inr (.inr (gr2 (a 22) (a 23))))))), ((a 16), .inl ((k5 0), 2, .inl (L.2 6))), ((a 17), .inl ((k5 3), 2, .inl (L.2 7))), ((a 18), .inl ((k5 0), 8, .inl (upd (L.2 0) d ((L.2 6) 0)))), ((a 19), .inl ((k5 0), 8, .inl (L.2 1))), ((a 20), .inl ((k5 0), 8, .inl (upd (L.2 2) d ((L.2 6) 0)))), ((a 21), .inl ((k5 0), 8, .inl (L.2 3))), ((a 22), .inl ((k5 0), 8, .inl (L.2 4))), ((a 23), .inl ((k5 0), 8, .inl (L.2 5)))]) hx hb hK hP hD hS 8 0 rfl rfl d (rfl) (by omega) (by omega) rfl d_L_put_47 (fun H locs hP hD hS => ?_)
        exact W.vret hx hb hr (fun t ht hW => kx_Qv ht hP (by unfold lPut lP2 lP1; rw [if_pos (show (part = 1 ∨ part = 3) by simp [hc_1, hc_2]), if_pos (show (part = 1 ∨ part = 2) by simp [hc_1, hc_2])]; try rfl) hS rfl) hS.2.2 d_L_put_48
      · exact absurd hc_1 hc_2
    · refine lv_iload_n hx hb d_L_put_5 rfl (lv_at hl 3 rfl) ?_
      refine lv_iconst (v := 2) hx hb d_L_put_6 (by decide) ?_
      refine lv_icmp_ne (tgt := 24) hx hb d_L_put_7 (by decide) (fun hc_3 => ?_) (fun hc_3 => ?_)
      · refine lv_iload_n hx hb d_L_put_24 rfl (lv_at hl 3 rfl) ?_
        refine lv_iconst (v := 1) hx hb d_L_put_25 (by decide) ?_
        refine lv_icmp_eq (tgt := 34) hx hb d_L_put_26 (by decide) (fun hc_4 => ?_) (fun hc_4 => ?_)
        · exact absurd hc_4 hc_1
        · refine lv_iload_n hx hb d_L_put_29 rfl (lv_at hl 3 rfl) ?_
          refine lv_iconst (v := 3) hx hb d_L_put_30 (by decide) ?_
          refine lv_icmp_ne (tgt := 48) hx hb d_L_put_31 (by decide) (fun hc_5 => ?_) (fun hc_5 => ?_)
          · exact W.vret hx hb hr (fun t ht hW => kx_Qv ht hP (by unfold lPut lP2 lP1; rw [if_neg (show ¬ (part = 1 ∨ part = 3) by simp [hc_1, hc_3, hc_4, hc_5]), if_neg (show ¬ (part = 1 ∨ part = 2) by simp [hc_1, hc_3, hc_4, hc_5])]; try rfl) hS rfl) hS.2.2 d_L_put_48
          · refine lv_aload_n hx hb d_L_put_34 rfl (lv_at hl 0 rfl) ?_
            refine va_get (D := (dC, dI)) (ci := 1) (v := .ref (a 14)) (C := R_L) (T := T_L) (N := 7) hx hb hts wu_L hown hK hP 0 rfl rfl 1 (by decide) (hts _ wf_L_16) (fun _ h9 => h9) rfl d_L_put_35 ?_
            refine lv_iload_n hx hb d_L_put_38 rfl (lv_at hl 1 rfl) ?_
            refine kx_aald hx hb hK hP 2 4 rfl rfl 0 (rfl) (by omega) (by omega) (v := (a 20)) rfl d_L_put_39 ?_
            refine lv_iload_n hx hb d_L_put_40 rfl (lv_at hl 2 rfl) ?_
            refine lv_aload_n hx hb d_L_put_41 rfl (lv_at hl 0 rfl) ?_
            refine va_get (D := (dC, dI)) (ci := 1) (v := .ref (a 16)) (C := R_L) (T := T_L) (N := 7) hx hb hts wu_L hown hK hP 0 rfl rfl 3 (by decide) (hts _ wf_L_22) (fun _ h9 => h9) rfl d_L_put_42 ?_
            refine lv_iload_n hx hb d_L_put_45 rfl (lv_at hl 1 rfl) ?_
            refine kx_iald hx hb hK hP 4 0 rfl rfl 0 (rfl) (by omega) (by omega) d_L_put_46 ?_
            refine kx_iast (ws' := [((a 12), .inr (1, [.ref (a 13), .ref (a 14), .ref (a 15), .ref (a 16), .ref (a 17), .int (L.1 0), .int (L.1 1)])), ((a 13), .inl ((k5 4), 2, .inr (.inr (.inr (.inr (gr2 (a 18) (a 19))))))), ((a 14), .inl ((k5 4), 2, .inr (.inr (.inr (.inr (gr2 (a 20) (a 21))))))), ((a 15), .inl ((k5 4), 2, .inr (.inr (.inr (.inr (gr2 (a 22) (a 23))))))), ((a 16), .inl ((k5 0), 2, .inl (L.2 6))), ((a 17), .inl ((k5 3), 2, .inl (L.2 7))), ((a 18), .inl ((k5 0), 8, .inl (L.2 0))), ((a 19), .inl ((k5 0), 8, .inl (L.2 1))), ((a 20), .inl ((k5 0), 8, .inl (upd (L.2 2) d ((L.2 6) 0)))), ((a 21), .inl ((k5 0), 8, .inl (L.2 3))), ((a 22), .inl ((k5 0), 8, .inl (L.2 4))), ((a 23), .inl ((k5 0), 8, .inl (L.2 5)))]) hx hb hK hP hD hS 8 0 rfl rfl d (rfl) (by omega) (by omega) rfl d_L_put_47 (fun H locs hP hD hS => ?_)
            exact W.vret hx hb hr (fun t ht hW => kx_Qv ht hP (by unfold lPut lP2 lP1; rw [if_pos (show (part = 1 ∨ part = 3) by simp [hc_1, hc_3, hc_4, hc_5]), if_neg (show ¬ (part = 1 ∨ part = 2) by simp [hc_1, hc_3, hc_4, hc_5])]; try rfl) hS rfl) hS.2.2 d_L_put_48
      · refine lv_aload_n hx hb d_L_put_10 rfl (lv_at hl 0 rfl) ?_
        refine va_get (D := (dC, dI)) (ci := 1) (v := .ref (a 13)) (C := R_L) (T := T_L) (N := 7) hx hb hts wu_L hown hK hP 0 rfl rfl 0 (by decide) (hts _ wf_L_11) (fun _ h9 => h9) rfl d_L_put_11 ?_
        refine lv_iload_n hx hb d_L_put_14 rfl (lv_at hl 1 rfl) ?_
        refine kx_aald hx hb hK hP 1 4 rfl rfl 0 (rfl) (by omega) (by omega) (v := (a 18)) rfl d_L_put_15 ?_
        refine lv_iload_n hx hb d_L_put_16 rfl (lv_at hl 2 rfl) ?_
        refine lv_aload_n hx hb d_L_put_17 rfl (lv_at hl 0 rfl) ?_
        refine va_get (D := (dC, dI)) (ci := 1) (v := .ref (a 16)) (C := R_L) (T := T_L) (N := 7) hx hb hts wu_L hown hK hP 0 rfl rfl 3 (by decide) (hts _ wf_L_22) (fun _ h9 => h9) rfl d_L_put_18 ?_
        refine lv_iload_n hx hb d_L_put_21 rfl (lv_at hl 1 rfl) ?_
        refine kx_iald hx hb hK hP 4 0 rfl rfl 0 (rfl) (by omega) (by omega) d_L_put_22 ?_
        refine kx_iast (ws' := [((a 12), .inr (1, [.ref (a 13), .ref (a 14), .ref (a 15), .ref (a 16), .ref (a 17), .int (L.1 0), .int (L.1 1)])), ((a 13), .inl ((k5 4), 2, .inr (.inr (.inr (.inr (gr2 (a 18) (a 19))))))), ((a 14), .inl ((k5 4), 2, .inr (.inr (.inr (.inr (gr2 (a 20) (a 21))))))), ((a 15), .inl ((k5 4), 2, .inr (.inr (.inr (.inr (gr2 (a 22) (a 23))))))), ((a 16), .inl ((k5 0), 2, .inl (L.2 6))), ((a 17), .inl ((k5 3), 2, .inl (L.2 7))), ((a 18), .inl ((k5 0), 8, .inl (upd (L.2 0) d ((L.2 6) 0)))), ((a 19), .inl ((k5 0), 8, .inl (L.2 1))), ((a 20), .inl ((k5 0), 8, .inl (L.2 2))), ((a 21), .inl ((k5 0), 8, .inl (L.2 3))), ((a 22), .inl ((k5 0), 8, .inl (L.2 4))), ((a 23), .inl ((k5 0), 8, .inl (L.2 5)))]) hx hb hK hP hD hS 6 0 rfl rfl d (rfl) (by omega) (by omega) rfl d_L_put_23 (fun H locs hP hD hS => ?_)
        refine lv_iload_n hx hb d_L_put_24 rfl (lv_at hl 3 rfl) ?_
        refine lv_iconst (v := 1) hx hb d_L_put_25 (by decide) ?_
        refine lv_icmp_eq (tgt := 34) hx hb d_L_put_26 (by decide) (fun hc_6 => ?_) (fun hc_6 => ?_)
        · exact absurd (hc_3.symm.trans hc_6) (by decide)
        · refine lv_iload_n hx hb d_L_put_29 rfl (lv_at hl 3 rfl) ?_
          refine lv_iconst (v := 3) hx hb d_L_put_30 (by decide) ?_
          refine lv_icmp_ne (tgt := 48) hx hb d_L_put_31 (by decide) (fun hc_7 => ?_) (fun hc_7 => ?_)
          · exact W.vret hx hb hr (fun t ht hW => kx_Qv ht hP (by unfold lPut lP2 lP1; rw [if_neg (show ¬ (part = 1 ∨ part = 3) by simp [hc_1, hc_3, hc_6, hc_7]), if_pos (show (part = 1 ∨ part = 2) by simp [hc_1, hc_3, hc_6, hc_7])]; try rfl) hS rfl) hS.2.2 d_L_put_48
          · exact absurd (hc_3.symm.trans hc_7) (by decide)
  · refine lv_iload_n hx hb d_L_put_0 rfl (lv_at hl 3 rfl) ?_
    refine lv_iconst (v := 1) hx hb d_L_put_1 (by decide) ?_
    refine lv_icmp_eq (tgt := 10) hx hb d_L_put_2 (by decide) (fun hc_8 => ?_) (fun hc_8 => ?_)
    · refine lv_aload_n hx hb d_L_put_10 rfl (lv_at hl 0 rfl) ?_
      refine va_get (D := (dC, dI)) (ci := 1) (v := .ref (a 13)) (C := R_L) (T := T_L) (N := 7) hx hb hts wu_L hown hK hP 0 rfl rfl 0 (by decide) (hts _ wf_L_11) (fun _ h9 => h9) rfl d_L_put_11 ?_
      refine lv_iload_n hx hb d_L_put_14 rfl (lv_at hl 1 rfl) ?_
      refine kx_aald hx hb hK hP 1 4 rfl rfl 1 (rfl) (by omega) (by omega) (v := (a 19)) rfl d_L_put_15 ?_
      refine lv_iload_n hx hb d_L_put_16 rfl (lv_at hl 2 rfl) ?_
      refine lv_aload_n hx hb d_L_put_17 rfl (lv_at hl 0 rfl) ?_
      refine va_get (D := (dC, dI)) (ci := 1) (v := .ref (a 16)) (C := R_L) (T := T_L) (N := 7) hx hb hts wu_L hown hK hP 0 rfl rfl 3 (by decide) (hts _ wf_L_22) (fun _ h9 => h9) rfl d_L_put_18 ?_
      refine lv_iload_n hx hb d_L_put_21 rfl (lv_at hl 1 rfl) ?_
      refine kx_iald hx hb hK hP 4 0 rfl rfl 1 (rfl) (by omega) (by omega) d_L_put_22 ?_
      refine kx_iast (ws' := [((a 12), .inr (1, [.ref (a 13), .ref (a 14), .ref (a 15), .ref (a 16), .ref (a 17), .int (L.1 0), .int (L.1 1)])), ((a 13), .inl ((k5 4), 2, .inr (.inr (.inr (.inr (gr2 (a 18) (a 19))))))), ((a 14), .inl ((k5 4), 2, .inr (.inr (.inr (.inr (gr2 (a 20) (a 21))))))), ((a 15), .inl ((k5 4), 2, .inr (.inr (.inr (.inr (gr2 (a 22) (a 23))))))), ((a 16), .inl ((k5 0), 2, .inl (L.2 6))), ((a 17), .inl ((k5 3), 2, .inl (L.2 7))), ((a 18), .inl ((k5 0), 8, .inl (L.2 0))), ((a 19), .inl ((k5 0), 8, .inl (upd (L.2 1) d ((L.2 6) 1)))), ((a 20), .inl ((k5 0), 8, .inl (L.2 2))), ((a 21), .inl ((k5 0), 8, .inl (L.2 3))), ((a 22), .inl ((k5 0), 8, .inl (L.2 4))), ((a 23), .inl ((k5 0), 8, .inl (L.2 5)))]) hx hb hK hP hD hS 7 0 rfl rfl d (rfl) (by omega) (by omega) rfl d_L_put_23 (fun H locs hP hD hS => ?_)
      refine lv_iload_n hx hb d_L_put_24 rfl (lv_at hl 3 rfl) ?_
      refine lv_iconst (v := 1) hx hb d_L_put_25 (by decide) ?_
      refine lv_icmp_eq (tgt := 34) hx hb d_L_put_26 (by decide) (fun hc_9 => ?_) (fun hc_9 => ?_)
      · refine lv_aload_n hx hb d_L_put_34 rfl (lv_at hl 0 rfl) ?_
        refine va_get (D := (dC, dI)) (ci := 1) (v := .ref (a 14)) (C := R_L) (T := T_L) (N := 7) hx hb hts wu_L hown hK hP 0 rfl rfl 1 (by decide) (hts _ wf_L_16) (fun _ h9 => h9) rfl d_L_put_35 ?_
        refine lv_iload_n hx hb d_L_put_38 rfl (lv_at hl 1 rfl) ?_
        refine kx_aald hx hb hK hP 2 4 rfl rfl 1 (rfl) (by omega) (by omega) (v := (a 21)) rfl d_L_put_39 ?_
        refine lv_iload_n hx hb d_L_put_40 rfl (lv_at hl 2 rfl) ?_
        refine lv_aload_n hx hb d_L_put_41 rfl (lv_at hl 0 rfl) ?_
        refine va_get (D := (dC, dI)) (ci := 1) (v := .ref (a 16)) (C := R_L) (T := T_L) (N := 7) hx hb hts wu_L hown hK hP 0 rfl rfl 3 (by decide) (hts _ wf_L_22) (fun _ h9 => h9) rfl d_L_put_42 ?_
        refine lv_iload_n hx hb d_L_put_45 rfl (lv_at hl 1 rfl) ?_
        refine kx_iald hx hb hK hP 4 0 rfl rfl 1 (rfl) (by omega) (by omega) d_L_put_46 ?_
        refine kx_iast (ws' := [((a 12), .inr (1, [.ref (a 13), .ref (a 14), .ref (a 15), .ref (a 16), .ref (a 17), .int (L.1 0), .int (L.1 1)])), ((a 13), .inl ((k5 4), 2, .inr (.inr (.inr (.inr (gr2 (a 18) (a 19))))))), ((a 14), .inl ((k5 4), 2, .inr (.inr (.inr (.inr (gr2 (a 20) (a 21))))))), ((a 15), .inl ((k5 4), 2, .inr (.inr (.inr (.inr (gr2 (a 22) (a 23))))))), ((a 16), .inl ((k5 0), 2, .inl (L.2 6))), ((a 17), .inl ((k5 3), 2, .inl (L.2 7))), ((a 18), .inl ((k5 0), 8, .inl (L.2 0))), ((a 19), .inl ((k5 0), 8, .inl (upd (L.2 1) d ((L.2 6) 1)))), ((a 20), .inl ((k5 0), 8, .inl (L.2 2))), ((a 21), .inl ((k5 0), 8, .inl (upd (L.2 3) d ((L.2 6) 1)))), ((a 22), .inl ((k5 0), 8, .inl (L.2 4))), ((a 23), .inl ((k5 0), 8, .inl (L.2 5)))]) hx hb hK hP hD hS 9 0 rfl rfl d (rfl) (by omega) (by omega) rfl d_L_put_47 (fun H locs hP hD hS => ?_)
        exact W.vret hx hb hr (fun t ht hW => kx_Qv ht hP (by unfold lPut lP2 lP1; rw [if_pos (show (part = 1 ∨ part = 3) by simp [hc_8, hc_9]), if_pos (show (part = 1 ∨ part = 2) by simp [hc_8, hc_9])]; try rfl) hS rfl) hS.2.2 d_L_put_48
      · exact absurd hc_8 hc_9
    · refine lv_iload_n hx hb d_L_put_5 rfl (lv_at hl 3 rfl) ?_
      refine lv_iconst (v := 2) hx hb d_L_put_6 (by decide) ?_
      refine lv_icmp_ne (tgt := 24) hx hb d_L_put_7 (by decide) (fun hc_10 => ?_) (fun hc_10 => ?_)
      · refine lv_iload_n hx hb d_L_put_24 rfl (lv_at hl 3 rfl) ?_
        refine lv_iconst (v := 1) hx hb d_L_put_25 (by decide) ?_
        refine lv_icmp_eq (tgt := 34) hx hb d_L_put_26 (by decide) (fun hc_11 => ?_) (fun hc_11 => ?_)
        · exact absurd hc_11 hc_8
        · refine lv_iload_n hx hb d_L_put_29 rfl (lv_at hl 3 rfl) ?_
          refine lv_iconst (v := 3) hx hb d_L_put_30 (by decide) ?_
          refine lv_icmp_ne (tgt := 48) hx hb d_L_put_31 (by decide) (fun hc_12 => ?_) (fun hc_12 => ?_)
          · exact W.vret hx hb hr (fun t ht hW => kx_Qv ht hP (by unfold lPut lP2 lP1; rw [if_neg (show ¬ (part = 1 ∨ part = 3) by simp [hc_8, hc_10, hc_11, hc_12]), if_neg (show ¬ (part = 1 ∨ part = 2) by simp [hc_8, hc_10, hc_11, hc_12])]; try rfl) hS rfl) hS.2.2 d_L_put_48
          · refine lv_aload_n hx hb d_L_put_34 rfl (lv_at hl 0 rfl) ?_
            refine va_get (D := (dC, dI)) (ci := 1) (v := .ref (a 14)) (C := R_L) (T := T_L) (N := 7) hx hb hts wu_L hown hK hP 0 rfl rfl 1 (by decide) (hts _ wf_L_16) (fun _ h9 => h9) rfl d_L_put_35 ?_
            refine lv_iload_n hx hb d_L_put_38 rfl (lv_at hl 1 rfl) ?_
            refine kx_aald hx hb hK hP 2 4 rfl rfl 1 (rfl) (by omega) (by omega) (v := (a 21)) rfl d_L_put_39 ?_
            refine lv_iload_n hx hb d_L_put_40 rfl (lv_at hl 2 rfl) ?_
            refine lv_aload_n hx hb d_L_put_41 rfl (lv_at hl 0 rfl) ?_
            refine va_get (D := (dC, dI)) (ci := 1) (v := .ref (a 16)) (C := R_L) (T := T_L) (N := 7) hx hb hts wu_L hown hK hP 0 rfl rfl 3 (by decide) (hts _ wf_L_22) (fun _ h9 => h9) rfl d_L_put_42 ?_
            refine lv_iload_n hx hb d_L_put_45 rfl (lv_at hl 1 rfl) ?_
            refine kx_iald hx hb hK hP 4 0 rfl rfl 1 (rfl) (by omega) (by omega) d_L_put_46 ?_
            refine kx_iast (ws' := [((a 12), .inr (1, [.ref (a 13), .ref (a 14), .ref (a 15), .ref (a 16), .ref (a 17), .int (L.1 0), .int (L.1 1)])), ((a 13), .inl ((k5 4), 2, .inr (.inr (.inr (.inr (gr2 (a 18) (a 19))))))), ((a 14), .inl ((k5 4), 2, .inr (.inr (.inr (.inr (gr2 (a 20) (a 21))))))), ((a 15), .inl ((k5 4), 2, .inr (.inr (.inr (.inr (gr2 (a 22) (a 23))))))), ((a 16), .inl ((k5 0), 2, .inl (L.2 6))), ((a 17), .inl ((k5 3), 2, .inl (L.2 7))), ((a 18), .inl ((k5 0), 8, .inl (L.2 0))), ((a 19), .inl ((k5 0), 8, .inl (L.2 1))), ((a 20), .inl ((k5 0), 8, .inl (L.2 2))), ((a 21), .inl ((k5 0), 8, .inl (upd (L.2 3) d ((L.2 6) 1)))), ((a 22), .inl ((k5 0), 8, .inl (L.2 4))), ((a 23), .inl ((k5 0), 8, .inl (L.2 5)))]) hx hb hK hP hD hS 9 0 rfl rfl d (rfl) (by omega) (by omega) rfl d_L_put_47 (fun H locs hP hD hS => ?_)
            exact W.vret hx hb hr (fun t ht hW => kx_Qv ht hP (by unfold lPut lP2 lP1; rw [if_pos (show (part = 1 ∨ part = 3) by simp [hc_8, hc_10, hc_11, hc_12]), if_neg (show ¬ (part = 1 ∨ part = 2) by simp [hc_8, hc_10, hc_11, hc_12])]; try rfl) hS rfl) hS.2.2 d_L_put_48
      · refine lv_aload_n hx hb d_L_put_10 rfl (lv_at hl 0 rfl) ?_
        refine va_get (D := (dC, dI)) (ci := 1) (v := .ref (a 13)) (C := R_L) (T := T_L) (N := 7) hx hb hts wu_L hown hK hP 0 rfl rfl 0 (by decide) (hts _ wf_L_11) (fun _ h9 => h9) rfl d_L_put_11 ?_
        refine lv_iload_n hx hb d_L_put_14 rfl (lv_at hl 1 rfl) ?_
        refine kx_aald hx hb hK hP 1 4 rfl rfl 1 (rfl) (by omega) (by omega) (v := (a 19)) rfl d_L_put_15 ?_
        refine lv_iload_n hx hb d_L_put_16 rfl (lv_at hl 2 rfl) ?_
        refine lv_aload_n hx hb d_L_put_17 rfl (lv_at hl 0 rfl) ?_
        refine va_get (D := (dC, dI)) (ci := 1) (v := .ref (a 16)) (C := R_L) (T := T_L) (N := 7) hx hb hts wu_L hown hK hP 0 rfl rfl 3 (by decide) (hts _ wf_L_22) (fun _ h9 => h9) rfl d_L_put_18 ?_
        refine lv_iload_n hx hb d_L_put_21 rfl (lv_at hl 1 rfl) ?_
        refine kx_iald hx hb hK hP 4 0 rfl rfl 1 (rfl) (by omega) (by omega) d_L_put_22 ?_
        refine kx_iast (ws' := [((a 12), .inr (1, [.ref (a 13), .ref (a 14), .ref (a 15), .ref (a 16), .ref (a 17), .int (L.1 0), .int (L.1 1)])), ((a 13), .inl ((k5 4), 2, .inr (.inr (.inr (.inr (gr2 (a 18) (a 19))))))), ((a 14), .inl ((k5 4), 2, .inr (.inr (.inr (.inr (gr2 (a 20) (a 21))))))), ((a 15), .inl ((k5 4), 2, .inr (.inr (.inr (.inr (gr2 (a 22) (a 23))))))), ((a 16), .inl ((k5 0), 2, .inl (L.2 6))), ((a 17), .inl ((k5 3), 2, .inl (L.2 7))), ((a 18), .inl ((k5 0), 8, .inl (L.2 0))), ((a 19), .inl ((k5 0), 8, .inl (upd (L.2 1) d ((L.2 6) 1)))), ((a 20), .inl ((k5 0), 8, .inl (L.2 2))), ((a 21), .inl ((k5 0), 8, .inl (L.2 3))), ((a 22), .inl ((k5 0), 8, .inl (L.2 4))), ((a 23), .inl ((k5 0), 8, .inl (L.2 5)))]) hx hb hK hP hD hS 7 0 rfl rfl d (rfl) (by omega) (by omega) rfl d_L_put_23 (fun H locs hP hD hS => ?_)
        refine lv_iload_n hx hb d_L_put_24 rfl (lv_at hl 3 rfl) ?_
        refine lv_iconst (v := 1) hx hb d_L_put_25 (by decide) ?_
        refine lv_icmp_eq (tgt := 34) hx hb d_L_put_26 (by decide) (fun hc_13 => ?_) (fun hc_13 => ?_)
        · exact absurd (hc_10.symm.trans hc_13) (by decide)
        · refine lv_iload_n hx hb d_L_put_29 rfl (lv_at hl 3 rfl) ?_
          refine lv_iconst (v := 3) hx hb d_L_put_30 (by decide) ?_
          refine lv_icmp_ne (tgt := 48) hx hb d_L_put_31 (by decide) (fun hc_14 => ?_) (fun hc_14 => ?_)
          · exact W.vret hx hb hr (fun t ht hW => kx_Qv ht hP (by unfold lPut lP2 lP1; rw [if_neg (show ¬ (part = 1 ∨ part = 3) by simp [hc_8, hc_10, hc_13, hc_14]), if_pos (show (part = 1 ∨ part = 2) by simp [hc_8, hc_10, hc_13, hc_14])]; try rfl) hS rfl) hS.2.2 d_L_put_48
          · exact absurd (hc_10.symm.trans hc_14) (by decide)
set_option maxHeartbeats 4000000 in
set_option maxRecDepth 100000 in
theorem k_L_putDraft (l : Launch) (dC : Nat → ClassId) (dI : Nat → Nat → Nat) (k5 : Nat → ClassId) (a : Nat → Nat) (L : LL) (w : Nat) (hw : w = 0 ∨ w = 1) (hq : 1 - L.1 1 = nI w) (d : Nat) (hd : d < 8) (part : Int32) : Met l y_L_putDraft w_L_putDraft ({ frames := 1, cells := 0, slots := 0, locals := 23 }) (kx_Pc (dC, dI) clA (tyL k5) (wL a k5 L) [.ref (a 12), .int (nI d), .int part]) (kx_Q (dC, dI) clA (wL a k5 L) (wL a k5 (lPut w d part L)) none) 0 0 (kx_A (wL a k5 L)) := by
  refine Met.ofW (cc := c_L_putDraft) (maxL := 3) (ret := none) (by decide) rfl ?_
  intro p e s m args below meth c s₁ B hml hv
  obtain ⟨rfl, hP, hK, hD0⟩ := hv
  have hx := B.exec
  have hb := B.bytes
  have hr := B.returns
  have hts : ∀ w ∈ wsA, w.before _ s = true := fun w h => atoms_spec (ws := w_L_putDraft) B.pre w (List.mem_cons_of_mem _ h)
  have hown : s.vm.findClass R_L = some m.cls := findClass_of_methodNamed B.named
  have hlocks := B.notSynchronized
  have hD := kx_D.self hD0
  have hS : va_S (kx_A (wL a k5 L)) s.heap s.heap [] := va_S.rf
  have hl := lv_entry ([.ref (a 12), .int (nI d), .int part]) (n := 3) (Nat.le_of_ble_eq_true rfl)
  rw [lg_entry_eq]
  generalize (lg_sl ([.ref (a 12), .int (nI d), .int part]) ++ List.replicate (3 - (lg_sl ([.ref (a 12), .int (nI d), .int part])).length) Slot.unset).toArray = ls at hl ⊢
  have hl : lv_has ls 3 [(0, .ref (a 12)), (1, .int (nI d)), (2, .int part)] := hl
  refine lv_aload_n hx hb d_L_putDraft_0 rfl (lv_at hl 0 rfl) ?_
  refine lv_iconst (v := 1) hx hb d_L_putDraft_1 (by decide) ?_
  refine lv_aload_n hx hb d_L_putDraft_2 rfl (lv_at hl 0 rfl) ?_
  refine va_get (D := (dC, dI)) (ci := 1) (v := .int (L.1 1)) (C := R_L) (T := T_L) (N := 7) hx hb hts wu_L hown hK hP 0 rfl rfl 6 (by decide) (hts _ wf_L_30) (fun _ h9 => h9) rfl d_L_putDraft_3 ?_
  refine lv_isub hx hb d_L_putDraft_6 ?_
  refine lv_iload_n hx hb d_L_putDraft_7 rfl (lv_at hl 1 rfl) ?_
  refine lv_iload_n hx hb d_L_putDraft_8 rfl (lv_at hl 2 rfl) ?_
  rw [hq]
  refine kx_VW (w1 := (wL a k5 (lPut w d part L))) (As := [.int (nI w), .int (nI d), .int part]) (rest := []) ⟨hx, hb, hml, hown, hts⟩ (k_L_put l dC dI k5 a L w hw d hd part) (cwV 3 hts (goodV wm_L_43 wn_L_put ws_L_put wi_L wc_L_put) rfl rfl rfl (by decide +kernel) ⟨Nat.le_of_ble_eq_true rfl, Nat.le_of_ble_eq_true rfl⟩) ⟨Nat.zero_le _, Nat.zero_le _⟩ hK hP hD hS 0 rfl rfl rfl rfl hl.1 rfl (Nat.le_of_ble_eq_true rfl) d_L_putDraft_9 (fun H locs hP hD hS => ?_)
  refine W.eq (g2 := F0 m 12 ls []) rfl ?_
  exact W.vret hx hb hr (fun t ht hW => kx_Qv ht hP (rfl) hS rfl) hS.2.2 d_L_putDraft_12
set_option maxHeartbeats 4000000 in
set_option maxRecDepth 100000 in
theorem k_L_putCounting (l : Launch) (dC : Nat → ClassId) (dI : Nat → Nat → Nat) (k5 : Nat → ClassId) (a : Nat → Nat) (L : LL) (w : Nat) (hw : w = 0 ∨ w = 1) (hq : L.1 1 = nI w) (d : Nat) (hd : d < 8) (part : Int32) : Met l y_L_putCounting w_L_putCounting ({ frames := 1, cells := 0, slots := 0, locals := 23 }) (kx_Pc (dC, dI) clA (tyL k5) (wL a k5 L) [.ref (a 12), .int (nI d), .int part]) (kx_Q (dC, dI) clA (wL a k5 L) (wL a k5 (lPut w d part L)) none) 0 0 (kx_A (wL a k5 L)) := by
  refine Met.ofW (cc := c_L_putCounting) (maxL := 3) (ret := none) (by decide) rfl ?_
  intro p e s m args below meth c s₁ B hml hv
  obtain ⟨rfl, hP, hK, hD0⟩ := hv
  have hx := B.exec
  have hb := B.bytes
  have hr := B.returns
  have hts : ∀ w ∈ wsA, w.before _ s = true := fun w h => atoms_spec (ws := w_L_putCounting) B.pre w (List.mem_cons_of_mem _ h)
  have hown : s.vm.findClass R_L = some m.cls := findClass_of_methodNamed B.named
  have hlocks := B.notSynchronized
  have hD := kx_D.self hD0
  have hS : va_S (kx_A (wL a k5 L)) s.heap s.heap [] := va_S.rf
  have hl := lv_entry ([.ref (a 12), .int (nI d), .int part]) (n := 3) (Nat.le_of_ble_eq_true rfl)
  rw [lg_entry_eq]
  generalize (lg_sl ([.ref (a 12), .int (nI d), .int part]) ++ List.replicate (3 - (lg_sl ([.ref (a 12), .int (nI d), .int part])).length) Slot.unset).toArray = ls at hl ⊢
  have hl : lv_has ls 3 [(0, .ref (a 12)), (1, .int (nI d)), (2, .int part)] := hl
  refine lv_aload_n hx hb d_L_putCounting_0 rfl (lv_at hl 0 rfl) ?_
  refine lv_aload_n hx hb d_L_putCounting_1 rfl (lv_at hl 0 rfl) ?_
  refine va_get (D := (dC, dI)) (ci := 1) (v := .int (L.1 1)) (C := R_L) (T := T_L) (N := 7) hx hb hts wu_L hown hK hP 0 rfl rfl 6 (by decide) (hts _ wf_L_30) (fun _ h9 => h9) rfl d_L_putCounting_2 ?_
  refine lv_iload_n hx hb d_L_putCounting_5 rfl (lv_at hl 1 rfl) ?_
  refine lv_iload_n hx hb d_L_putCounting_6 rfl (lv_at hl 2 rfl) ?_
  rw [hq]
  refine kx_VW (w1 := (wL a k5 (lPut w d part L))) (As := [.int (nI w), .int (nI d), .int part]) (rest := []) ⟨hx, hb, hml, hown, hts⟩ (k_L_put l dC dI k5 a L w hw d hd part) (cwV 3 hts (goodV wm_L_43 wn_L_put ws_L_put wi_L wc_L_put) rfl rfl rfl (by decide +kernel) ⟨Nat.le_of_ble_eq_true rfl, Nat.le_of_ble_eq_true rfl⟩) ⟨Nat.zero_le _, Nat.zero_le _⟩ hK hP hD hS 0 rfl rfl rfl rfl hl.1 rfl (Nat.le_of_ble_eq_true rfl) d_L_putCounting_7 (fun H locs hP hD hS => ?_)
  refine W.eq (g2 := F0 m 10 ls []) rfl ?_
  exact W.vret hx hb hr (fun t ht hW => kx_Qv ht hP (rfl) hS rfl) hS.2.2 d_L_putCounting_10
set_option maxHeartbeats 4000000 in
set_option maxRecDepth 100000 in
theorem k_L_wipe (l : Launch) (dC : Nat → ClassId) (dI : Nat → Nat → Nat) (k5 : Nat → ClassId) (a : Nat → Nat) (L : LL) (d : Nat) (hd : d < 8) : Met l y_L_wipe w_L_wipe ({ frames := 0, cells := 0, slots := 0, locals := 0 }) (kx_Pc (dC, dI) clA (tyL k5) (wL a k5 L) [.ref (a 12), .int (nI d)]) (kx_Q (dC, dI) clA (wL a k5 L) (wL a k5 (lWipe d L)) none) 0 0 (kx_A (wL a k5 L)) := by
  refine Met.ofW (cc := c_L_wipe) (maxL := 3) (ret := none) (by decide) rfl ?_
  intro p e s m args below meth c s₁ B hml hv
  obtain ⟨rfl, hP, hK, hD0⟩ := hv
  have hx := B.exec
  have hb := B.bytes
  have hr := B.returns
  have hts : ∀ w ∈ wsA, w.before _ s = true := fun w h => atoms_spec (ws := w_L_wipe) B.pre w (List.mem_cons_of_mem _ h)
  have hown : s.vm.findClass R_L = some m.cls := findClass_of_methodNamed B.named
  have hlocks := B.notSynchronized
  have hD := kx_D.self hD0
  have hS : va_S (kx_A (wL a k5 L)) s.heap s.heap [] := va_S.rf
  have hl := lv_entry ([.ref (a 12), .int (nI d)]) (n := 3) (Nat.le_of_ble_eq_true rfl)
  rw [lg_entry_eq]
  generalize (lg_sl ([.ref (a 12), .int (nI d)]) ++ List.replicate (3 - (lg_sl ([.ref (a 12), .int (nI d)])).length) Slot.unset).toArray = ls at hl ⊢
  have hl : lv_has ls 3 [(0, .ref (a 12)), (1, .int (nI d))] := hl
  refine lv_iconst (v := 0) hx hb d_L_wipe_0 (by decide) ?_
  refine lv_istore_n (lv' := [(2, .int 0), (0, .ref (a 12)), (1, .int (nI d))]) hx hb d_L_wipe_1 rfl hl (by decide) rfl (fun ls hl => ?_)
  refine lv_iload_n hx hb d_L_wipe_2 rfl (lv_at hl 0 rfl) ?_
  refine lv_iconst (v := 2) hx hb d_L_wipe_3 (by decide) ?_
  refine lv_icmp_ge (tgt := 31) hx hb d_L_wipe_4 (by decide) (fun hc_1 => ?_) (fun hc_1 => ?_)
  · exact absurd hc_1 (by decide)
  · refine lv_aload_n hx hb d_L_wipe_7 rfl (lv_at hl 1 rfl) ?_
    refine va_get (D := (dC, dI)) (ci := 1) (v := .ref (a 13)) (C := R_L) (T := T_L) (N := 7) hx hb hts wu_L hown hK hP 0 rfl rfl 0 (by decide) (hts _ wf_L_11) (fun _ h9 => h9) rfl d_L_wipe_8 ?_
    refine lv_iload_n hx hb d_L_wipe_11 rfl (lv_at hl 0 rfl) ?_
    refine kx_aald hx hb hK hP 1 4 rfl rfl 0 (by decide) (by omega) (by omega) (v := (a 18)) rfl d_L_wipe_12 ?_
    refine lv_iload_n hx hb d_L_wipe_13 rfl (lv_at hl 2 rfl) ?_
    refine lv_iconst (v := 0) hx hb d_L_wipe_14 (by decide) ?_
    refine kx_iast (ws' := [((a 12), .inr (1, [.ref (a 13), .ref (a 14), .ref (a 15), .ref (a 16), .ref (a 17), .int (L.1 0), .int (L.1 1)])), ((a 13), .inl ((k5 4), 2, .inr (.inr (.inr (.inr (gr2 (a 18) (a 19))))))), ((a 14), .inl ((k5 4), 2, .inr (.inr (.inr (.inr (gr2 (a 20) (a 21))))))), ((a 15), .inl ((k5 4), 2, .inr (.inr (.inr (.inr (gr2 (a 22) (a 23))))))), ((a 16), .inl ((k5 0), 2, .inl (L.2 6))), ((a 17), .inl ((k5 3), 2, .inl (L.2 7))), ((a 18), .inl ((k5 0), 8, .inl (upd (L.2 0) d 0))), ((a 19), .inl ((k5 0), 8, .inl (L.2 1))), ((a 20), .inl ((k5 0), 8, .inl (L.2 2))), ((a 21), .inl ((k5 0), 8, .inl (L.2 3))), ((a 22), .inl ((k5 0), 8, .inl (L.2 4))), ((a 23), .inl ((k5 0), 8, .inl (L.2 5)))]) hx hb hK hP hD hS 6 0 rfl rfl d (rfl) (by omega) (by omega) rfl d_L_wipe_15 (fun H locs hP hD hS => ?_)
    refine lv_aload_n hx hb d_L_wipe_16 rfl (lv_at hl 1 rfl) ?_
    refine va_get (D := (dC, dI)) (ci := 1) (v := .ref (a 14)) (C := R_L) (T := T_L) (N := 7) hx hb hts wu_L hown hK hP 0 rfl rfl 1 (by decide) (hts _ wf_L_16) (fun _ h9 => h9) rfl d_L_wipe_17 ?_
    refine lv_iload_n hx hb d_L_wipe_20 rfl (lv_at hl 0 rfl) ?_
    refine kx_aald hx hb hK hP 2 4 rfl rfl 0 (by decide) (by omega) (by omega) (v := (a 20)) rfl d_L_wipe_21 ?_
    refine lv_iload_n hx hb d_L_wipe_22 rfl (lv_at hl 2 rfl) ?_
    refine lv_iconst (v := 0) hx hb d_L_wipe_23 (by decide) ?_
    refine kx_iast (ws' := [((a 12), .inr (1, [.ref (a 13), .ref (a 14), .ref (a 15), .ref (a 16), .ref (a 17), .int (L.1 0), .int (L.1 1)])), ((a 13), .inl ((k5 4), 2, .inr (.inr (.inr (.inr (gr2 (a 18) (a 19))))))), ((a 14), .inl ((k5 4), 2, .inr (.inr (.inr (.inr (gr2 (a 20) (a 21))))))), ((a 15), .inl ((k5 4), 2, .inr (.inr (.inr (.inr (gr2 (a 22) (a 23))))))), ((a 16), .inl ((k5 0), 2, .inl (L.2 6))), ((a 17), .inl ((k5 3), 2, .inl (L.2 7))), ((a 18), .inl ((k5 0), 8, .inl (upd (L.2 0) d 0))), ((a 19), .inl ((k5 0), 8, .inl (L.2 1))), ((a 20), .inl ((k5 0), 8, .inl (upd (L.2 2) d 0))), ((a 21), .inl ((k5 0), 8, .inl (L.2 3))), ((a 22), .inl ((k5 0), 8, .inl (L.2 4))), ((a 23), .inl ((k5 0), 8, .inl (L.2 5)))]) hx hb hK hP hD hS 8 0 rfl rfl d (rfl) (by omega) (by omega) rfl d_L_wipe_24 (fun H locs hP hD hS => ?_)
    refine lv_iinc (v := 1) (lv' := [(2, .int 1), (0, .ref (a 12)), (1, .int (nI d))]) hx hb d_L_wipe_25 hl (k := 0) rfl (by decide) (by decide) rfl (fun ls hl => ?_)
    refine lv_goto (tgt := 2) hx hb d_L_wipe_28 (by decide) ?_
    refine lv_iload_n hx hb d_L_wipe_2 rfl (lv_at hl 0 rfl) ?_
    refine lv_iconst (v := 2) hx hb d_L_wipe_3 (by decide) ?_
    refine lv_icmp_ge (tgt := 31) hx hb d_L_wipe_4 (by decide) (fun hc_2 => ?_) (fun hc_2 => ?_)
    · exact absurd hc_2 (by decide)
    · refine lv_aload_n hx hb d_L_wipe_7 rfl (lv_at hl 1 rfl) ?_
      refine va_get (D := (dC, dI)) (ci := 1) (v := .ref (a 13)) (C := R_L) (T := T_L) (N := 7) hx hb hts wu_L hown hK hP 0 rfl rfl 0 (by decide) (hts _ wf_L_11) (fun _ h9 => h9) rfl d_L_wipe_8 ?_
      refine lv_iload_n hx hb d_L_wipe_11 rfl (lv_at hl 0 rfl) ?_
      refine kx_aald hx hb hK hP 1 4 rfl rfl 1 (by decide) (by omega) (by omega) (v := (a 19)) rfl d_L_wipe_12 ?_
      refine lv_iload_n hx hb d_L_wipe_13 rfl (lv_at hl 2 rfl) ?_
      refine lv_iconst (v := 0) hx hb d_L_wipe_14 (by decide) ?_
      refine kx_iast (ws' := [((a 12), .inr (1, [.ref (a 13), .ref (a 14), .ref (a 15), .ref (a 16), .ref (a 17), .int (L.1 0), .int (L.1 1)])), ((a 13), .inl ((k5 4), 2, .inr (.inr (.inr (.inr (gr2 (a 18) (a 19))))))), ((a 14), .inl ((k5 4), 2, .inr (.inr (.inr (.inr (gr2 (a 20) (a 21))))))), ((a 15), .inl ((k5 4), 2, .inr (.inr (.inr (.inr (gr2 (a 22) (a 23))))))), ((a 16), .inl ((k5 0), 2, .inl (L.2 6))), ((a 17), .inl ((k5 3), 2, .inl (L.2 7))), ((a 18), .inl ((k5 0), 8, .inl (upd (L.2 0) d 0))), ((a 19), .inl ((k5 0), 8, .inl (upd (L.2 1) d 0))), ((a 20), .inl ((k5 0), 8, .inl (upd (L.2 2) d 0))), ((a 21), .inl ((k5 0), 8, .inl (L.2 3))), ((a 22), .inl ((k5 0), 8, .inl (L.2 4))), ((a 23), .inl ((k5 0), 8, .inl (L.2 5)))]) hx hb hK hP hD hS 7 0 rfl rfl d (rfl) (by omega) (by omega) rfl d_L_wipe_15 (fun H locs hP hD hS => ?_)
      refine lv_aload_n hx hb d_L_wipe_16 rfl (lv_at hl 1 rfl) ?_
      refine va_get (D := (dC, dI)) (ci := 1) (v := .ref (a 14)) (C := R_L) (T := T_L) (N := 7) hx hb hts wu_L hown hK hP 0 rfl rfl 1 (by decide) (hts _ wf_L_16) (fun _ h9 => h9) rfl d_L_wipe_17 ?_
      refine lv_iload_n hx hb d_L_wipe_20 rfl (lv_at hl 0 rfl) ?_
      refine kx_aald hx hb hK hP 2 4 rfl rfl 1 (by decide) (by omega) (by omega) (v := (a 21)) rfl d_L_wipe_21 ?_
      refine lv_iload_n hx hb d_L_wipe_22 rfl (lv_at hl 2 rfl) ?_
      refine lv_iconst (v := 0) hx hb d_L_wipe_23 (by decide) ?_
      refine kx_iast (ws' := [((a 12), .inr (1, [.ref (a 13), .ref (a 14), .ref (a 15), .ref (a 16), .ref (a 17), .int (L.1 0), .int (L.1 1)])), ((a 13), .inl ((k5 4), 2, .inr (.inr (.inr (.inr (gr2 (a 18) (a 19))))))), ((a 14), .inl ((k5 4), 2, .inr (.inr (.inr (.inr (gr2 (a 20) (a 21))))))), ((a 15), .inl ((k5 4), 2, .inr (.inr (.inr (.inr (gr2 (a 22) (a 23))))))), ((a 16), .inl ((k5 0), 2, .inl (L.2 6))), ((a 17), .inl ((k5 3), 2, .inl (L.2 7))), ((a 18), .inl ((k5 0), 8, .inl (upd (L.2 0) d 0))), ((a 19), .inl ((k5 0), 8, .inl (upd (L.2 1) d 0))), ((a 20), .inl ((k5 0), 8, .inl (upd (L.2 2) d 0))), ((a 21), .inl ((k5 0), 8, .inl (upd (L.2 3) d 0))), ((a 22), .inl ((k5 0), 8, .inl (L.2 4))), ((a 23), .inl ((k5 0), 8, .inl (L.2 5)))]) hx hb hK hP hD hS 9 0 rfl rfl d (rfl) (by omega) (by omega) rfl d_L_wipe_24 (fun H locs hP hD hS => ?_)
      refine lv_iinc (v := 2) (lv' := [(2, .int 2), (0, .ref (a 12)), (1, .int (nI d))]) hx hb d_L_wipe_25 hl (k := 0) rfl (by decide) (by decide) rfl (fun ls hl => ?_)
      refine lv_goto (tgt := 2) hx hb d_L_wipe_28 (by decide) ?_
      refine lv_iload_n hx hb d_L_wipe_2 rfl (lv_at hl 0 rfl) ?_
      refine lv_iconst (v := 2) hx hb d_L_wipe_3 (by decide) ?_
      refine lv_icmp_ge (tgt := 31) hx hb d_L_wipe_4 (by decide) (fun hc_3 => ?_) (fun hc_3 => ?_)
      · exact W.vret hx hb hr (fun t ht hW => kx_Qv ht hP (rfl) hS rfl) hS.2.2 d_L_wipe_31
      · exact absurd hc_3 (by decide)
set_option maxHeartbeats 4000000 in
set_option maxRecDepth 100000 in
theorem k_L_draftCounts (l : Launch) (dC : Nat → ClassId) (dI : Nat → Nat → Nat) (k5 : Nat → ClassId) (a : Nat → Nat) (L : LL)  : Met l y_L_draftCounts w_L_draftCounts ({ frames := 0, cells := 0, slots := 0, locals := 0 }) (kx_Pc (dC, dI) clA (tyL k5) (wL a k5 L) [.ref (a 12)]) (kx_Q (dC, dI) clA (wL a k5 L) (wL a k5 (lCounts L)) none) 0 0 (kx_A (wL a k5 L)) := by
  refine Met.ofW (cc := c_L_draftCounts) (maxL := 1) (ret := none) (by decide) rfl ?_
  intro p e s m args below meth c s₁ B hml hv
  obtain ⟨rfl, hP, hK, hD0⟩ := hv
  have hx := B.exec
  have hb := B.bytes
  have hr := B.returns
  have hts : ∀ w ∈ wsA, w.before _ s = true := fun w h => atoms_spec (ws := w_L_draftCounts) B.pre w (List.mem_cons_of_mem _ h)
  have hown : s.vm.findClass R_L = some m.cls := findClass_of_methodNamed B.named
  have hlocks := B.notSynchronized
  have hD := kx_D.self hD0
  have hS : va_S (kx_A (wL a k5 L)) s.heap s.heap [] := va_S.rf
  have hl := lv_entry ([.ref (a 12)]) (n := 1) (Nat.le_of_ble_eq_true rfl)
  rw [lg_entry_eq]
  generalize (lg_sl ([.ref (a 12)]) ++ List.replicate (1 - (lg_sl ([.ref (a 12)])).length) Slot.unset).toArray = ls at hl ⊢
  have hl : lv_has ls 1 [(0, .ref (a 12))] := hl
  refine lv_aload_n hx hb d_L_draftCounts_0 rfl (lv_at hl 0 rfl) ?_
  refine lv_iconst (v := 1) hx hb d_L_draftCounts_1 (by decide) ?_
  refine lv_aload_n hx hb d_L_draftCounts_2 rfl (lv_at hl 0 rfl) ?_
  refine va_get (D := (dC, dI)) (ci := 1) (v := .int (L.1 1)) (C := R_L) (T := T_L) (N := 7) hx hb hts wu_L hown hK hP 0 rfl rfl 6 (by decide) (hts _ wf_L_30) (fun _ h9 => h9) rfl d_L_draftCounts_3 ?_
  refine lv_isub hx hb d_L_draftCounts_6 ?_
  refine kx_put (ws' := [((a 12), .inr (1, [.ref (a 13), .ref (a 14), .ref (a 15), .ref (a 16), .ref (a 17), .int (L.1 0), .int (1 - (L.1 1))])), ((a 13), .inl ((k5 4), 2, .inr (.inr (.inr (.inr (gr2 (a 18) (a 19))))))), ((a 14), .inl ((k5 4), 2, .inr (.inr (.inr (.inr (gr2 (a 20) (a 21))))))), ((a 15), .inl ((k5 4), 2, .inr (.inr (.inr (.inr (gr2 (a 22) (a 23))))))), ((a 16), .inl ((k5 0), 2, .inl (L.2 6))), ((a 17), .inl ((k5 3), 2, .inl (L.2 7))), ((a 18), .inl ((k5 0), 8, .inl (L.2 0))), ((a 19), .inl ((k5 0), 8, .inl (L.2 1))), ((a 20), .inl ((k5 0), 8, .inl (L.2 2))), ((a 21), .inl ((k5 0), 8, .inl (L.2 3))), ((a 22), .inl ((k5 0), 8, .inl (L.2 4))), ((a 23), .inl ((k5 0), 8, .inl (L.2 5)))]) (D := (dC, dI)) (ci := 1) (v := .int (1 - (L.1 1))) (ty := .int) (C := R_L) (T := T_L) (N := 7) hx hb hts wu_L ty_L ok_L nm_L hown hK hP hD hS 0 rfl rfl 6 (by decide) (hts _ wf_L_30) (fun _ h9 => h9) rfl (by decide +kernel) rfl rfl (Nat.le_of_ble_eq_true rfl) rfl d_L_draftCounts_7 (fun H locs hP hD hS => ?_)
  exact W.vret hx hb hr (fun t ht hW => kx_Qv ht hP (rfl) hS rfl) hS.2.2 d_L_draftCounts_10
set_option maxHeartbeats 4000000 in
set_option maxRecDepth 100000 in
theorem k_L_tell (l : Launch) (dC : Nat → ClassId) (dI : Nat → Nat → Nat) (k5 : Nat → ClassId) (a : Nat → Nat) (L : LL) (w : Nat) (hw : w = 0 ∨ w = 1) (hq : 1 - L.1 1 = nI w) (d : Nat) (hd : d < 8) (mk : Int32) : Met l y_L_tell w_L_tell ({ frames := 0, cells := 0, slots := 0, locals := 0 }) (kx_Pc (dC, dI) clA (tyL k5) (wL a k5 L) [.ref (a 12), .int (nI d), .int mk]) (kx_Q (dC, dI) clA (wL a k5 L) (wL a k5 (lTell w d mk L)) none) 0 0 (kx_A (wL a k5 L)) := by
  refine Met.ofW (cc := c_L_tell) (maxL := 3) (ret := none) (by decide) rfl ?_
  intro p e s m args below meth c s₁ B hml hv
  obtain ⟨rfl, hP, hK, hD0⟩ := hv
  have hx := B.exec
  have hb := B.bytes
  have hr := B.returns
  have hts : ∀ w ∈ wsA, w.before _ s = true := fun w h => atoms_spec (ws := w_L_tell) B.pre w (List.mem_cons_of_mem _ h)
  have hown : s.vm.findClass R_L = some m.cls := findClass_of_methodNamed B.named
  have hlocks := B.notSynchronized
  have hD := kx_D.self hD0
  have hS : va_S (kx_A (wL a k5 L)) s.heap s.heap [] := va_S.rf
  have hl := lv_entry ([.ref (a 12), .int (nI d), .int mk]) (n := 3) (Nat.le_of_ble_eq_true rfl)
  rw [lg_entry_eq]
  generalize (lg_sl ([.ref (a 12), .int (nI d), .int mk]) ++ List.replicate (3 - (lg_sl ([.ref (a 12), .int (nI d), .int mk])).length) Slot.unset).toArray = ls at hl ⊢
  have hl : lv_has ls 3 [(0, .ref (a 12)), (1, .int (nI d)), (2, .int mk)] := hl
  rcases hw with rfl | rfl
  · refine lv_aload_n hx hb d_L_tell_0 rfl (lv_at hl 0 rfl) ?_
    refine va_get (D := (dC, dI)) (ci := 1) (v := .ref (a 15)) (C := R_L) (T := T_L) (N := 7) hx hb hts wu_L hown hK hP 0 rfl rfl 2 (by decide) (hts _ wf_L_19) (fun _ h9 => h9) rfl d_L_tell_1 ?_
    refine lv_iconst (v := 1) hx hb d_L_tell_4 (by decide) ?_
    refine lv_aload_n hx hb d_L_tell_5 rfl (lv_at hl 0 rfl) ?_
    refine va_get (D := (dC, dI)) (ci := 1) (v := .int (L.1 1)) (C := R_L) (T := T_L) (N := 7) hx hb hts wu_L hown hK hP 0 rfl rfl 6 (by decide) (hts _ wf_L_30) (fun _ h9 => h9) rfl d_L_tell_6 ?_
    refine lv_isub hx hb d_L_tell_9 ?_
    refine kx_aald hx hb hK hP 3 4 rfl rfl 0 (hq) (by omega) (by omega) (v := (a 22)) rfl d_L_tell_10 ?_
    refine lv_iload_n hx hb d_L_tell_11 rfl (lv_at hl 1 rfl) ?_
    refine lv_iload_n hx hb d_L_tell_12 rfl (lv_at hl 2 rfl) ?_
    refine kx_iast (ws' := [((a 12), .inr (1, [.ref (a 13), .ref (a 14), .ref (a 15), .ref (a 16), .ref (a 17), .int (L.1 0), .int (L.1 1)])), ((a 13), .inl ((k5 4), 2, .inr (.inr (.inr (.inr (gr2 (a 18) (a 19))))))), ((a 14), .inl ((k5 4), 2, .inr (.inr (.inr (.inr (gr2 (a 20) (a 21))))))), ((a 15), .inl ((k5 4), 2, .inr (.inr (.inr (.inr (gr2 (a 22) (a 23))))))), ((a 16), .inl ((k5 0), 2, .inl (L.2 6))), ((a 17), .inl ((k5 3), 2, .inl (L.2 7))), ((a 18), .inl ((k5 0), 8, .inl (L.2 0))), ((a 19), .inl ((k5 0), 8, .inl (L.2 1))), ((a 20), .inl ((k5 0), 8, .inl (L.2 2))), ((a 21), .inl ((k5 0), 8, .inl (L.2 3))), ((a 22), .inl ((k5 0), 8, .inl (upd (L.2 4) d mk))), ((a 23), .inl ((k5 0), 8, .inl (L.2 5)))]) hx hb hK hP hD hS 10 0 rfl rfl d (rfl) (by omega) (by omega) rfl d_L_tell_13 (fun H locs hP hD hS => ?_)
    exact W.vret hx hb hr (fun t ht hW => kx_Qv ht hP (rfl) hS rfl) hS.2.2 d_L_tell_14
  · refine lv_aload_n hx hb d_L_tell_0 rfl (lv_at hl 0 rfl) ?_
    refine va_get (D := (dC, dI)) (ci := 1) (v := .ref (a 15)) (C := R_L) (T := T_L) (N := 7) hx hb hts wu_L hown hK hP 0 rfl rfl 2 (by decide) (hts _ wf_L_19) (fun _ h9 => h9) rfl d_L_tell_1 ?_
    refine lv_iconst (v := 1) hx hb d_L_tell_4 (by decide) ?_
    refine lv_aload_n hx hb d_L_tell_5 rfl (lv_at hl 0 rfl) ?_
    refine va_get (D := (dC, dI)) (ci := 1) (v := .int (L.1 1)) (C := R_L) (T := T_L) (N := 7) hx hb hts wu_L hown hK hP 0 rfl rfl 6 (by decide) (hts _ wf_L_30) (fun _ h9 => h9) rfl d_L_tell_6 ?_
    refine lv_isub hx hb d_L_tell_9 ?_
    refine kx_aald hx hb hK hP 3 4 rfl rfl 1 (hq) (by omega) (by omega) (v := (a 23)) rfl d_L_tell_10 ?_
    refine lv_iload_n hx hb d_L_tell_11 rfl (lv_at hl 1 rfl) ?_
    refine lv_iload_n hx hb d_L_tell_12 rfl (lv_at hl 2 rfl) ?_
    refine kx_iast (ws' := [((a 12), .inr (1, [.ref (a 13), .ref (a 14), .ref (a 15), .ref (a 16), .ref (a 17), .int (L.1 0), .int (L.1 1)])), ((a 13), .inl ((k5 4), 2, .inr (.inr (.inr (.inr (gr2 (a 18) (a 19))))))), ((a 14), .inl ((k5 4), 2, .inr (.inr (.inr (.inr (gr2 (a 20) (a 21))))))), ((a 15), .inl ((k5 4), 2, .inr (.inr (.inr (.inr (gr2 (a 22) (a 23))))))), ((a 16), .inl ((k5 0), 2, .inl (L.2 6))), ((a 17), .inl ((k5 3), 2, .inl (L.2 7))), ((a 18), .inl ((k5 0), 8, .inl (L.2 0))), ((a 19), .inl ((k5 0), 8, .inl (L.2 1))), ((a 20), .inl ((k5 0), 8, .inl (L.2 2))), ((a 21), .inl ((k5 0), 8, .inl (L.2 3))), ((a 22), .inl ((k5 0), 8, .inl (L.2 4))), ((a 23), .inl ((k5 0), 8, .inl (upd (L.2 5) d mk)))]) hx hb hK hP hD hS 11 0 rfl rfl d (rfl) (by omega) (by omega) rfl d_L_tell_13 (fun H locs hP hD hS => ?_)
    exact W.vret hx hb hr (fun t ht hW => kx_Qv ht hP (rfl) hS rfl) hS.2.2 d_L_tell_14
set_option maxHeartbeats 4000000 in
set_option maxRecDepth 100000 in
theorem k_L_tellsOfGroup (l : Launch) (dC : Nat → ClassId) (dI : Nat → Nat → Nat) (k5 : Nat → ClassId) (a : Nat → Nat) (L : LL) (w : Nat) (hw : w = 0 ∨ w = 1) (hq : L.1 1 = nI w) (hz : narrow .boolean (.int (L.2 7 w)) = .int (L.2 7 w)) : Met l y_L_tellsOfGroup w_L_tellsOfGroup ({ frames := 0, cells := 0, slots := 0, locals := 0 }) (kx_Pc (dC, dI) clA (tyL k5) (wL a k5 L) [.ref (a 12)]) (kx_R (some (.int (L.2 7 w)))) 0 0 (fun _ => False) := by
  refine Met.ofW (cc := c_L_tellsOfGroup) (maxL := 1) (ret := (some .boolean)) (by decide) rfl ?_
  intro p e s m args below meth c s₁ B hml hv
  obtain ⟨rfl, hP, hK, hD0⟩ := hv
  have hx := B.exec
  have hb := B.bytes
  have hr := B.returns
  have hts : ∀ w ∈ wsA, w.before _ s = true := fun w h => atoms_spec (ws := w_L_tellsOfGroup) B.pre w (List.mem_cons_of_mem _ h)
  have hown : s.vm.findClass R_L = some m.cls := findClass_of_methodNamed B.named
  have hlocks := B.notSynchronized
  have hD := kx_D.self hD0
  have hS : va_S (kx_A (wL a k5 L)) s.heap s.heap [] := va_S.rf
  have hl := lv_entry ([.ref (a 12)]) (n := 1) (Nat.le_of_ble_eq_true rfl)
  rw [lg_entry_eq]
  generalize (lg_sl ([.ref (a 12)]) ++ List.replicate (1 - (lg_sl ([.ref (a 12)])).length) Slot.unset).toArray = ls at hl ⊢
  have hl : lv_has ls 1 [(0, .ref (a 12))] := hl
  rcases hw with rfl | rfl
  · refine lv_aload_n hx hb d_L_tellsOfGroup_0 rfl (lv_at hl 0 rfl) ?_
    refine va_get (D := (dC, dI)) (ci := 1) (v := .ref (a 17)) (C := R_L) (T := T_L) (N := 7) hx hb hts wu_L hown hK hP 0 rfl rfl 4 (by decide) (hts _ wf_L_26) (fun _ h9 => h9) rfl d_L_tellsOfGroup_1 ?_
    refine lv_aload_n hx hb d_L_tellsOfGroup_4 rfl (lv_at hl 0 rfl) ?_
    refine va_get (D := (dC, dI)) (ci := 1) (v := .int (L.1 1)) (C := R_L) (T := T_L) (N := 7) hx hb hts wu_L hown hK hP 0 rfl rfl 6 (by decide) (hts _ wf_L_30) (fun _ h9 => h9) rfl d_L_tellsOfGroup_5 ?_
    refine kx_zald hx hb hK hP 5 3 rfl rfl 0 (hq) (by omega) (by omega) d_L_tellsOfGroup_8 ?_
    exact W.zret (v := ((L.2 7) 0)) hx hb hr hz (fun t ht hW => kx_Ri (rfl) ht) (fun _ h => absurd h List.not_mem_nil) d_L_tellsOfGroup_9
  · refine lv_aload_n hx hb d_L_tellsOfGroup_0 rfl (lv_at hl 0 rfl) ?_
    refine va_get (D := (dC, dI)) (ci := 1) (v := .ref (a 17)) (C := R_L) (T := T_L) (N := 7) hx hb hts wu_L hown hK hP 0 rfl rfl 4 (by decide) (hts _ wf_L_26) (fun _ h9 => h9) rfl d_L_tellsOfGroup_1 ?_
    refine lv_aload_n hx hb d_L_tellsOfGroup_4 rfl (lv_at hl 0 rfl) ?_
    refine va_get (D := (dC, dI)) (ci := 1) (v := .int (L.1 1)) (C := R_L) (T := T_L) (N := 7) hx hb hts wu_L hown hK hP 0 rfl rfl 6 (by decide) (hts _ wf_L_30) (fun _ h9 => h9) rfl d_L_tellsOfGroup_5 ?_
    refine kx_zald hx hb hK hP 5 3 rfl rfl 1 (hq) (by omega) (by omega) d_L_tellsOfGroup_8 ?_
    exact W.zret (v := ((L.2 7) 1)) hx hb hr hz (fun t ht hW => kx_Ri (rfl) ht) (fun _ h => absurd h List.not_mem_nil) d_L_tellsOfGroup_9
set_option maxHeartbeats 4000000 in
set_option maxRecDepth 100000 in
theorem k_L_toldMark (l : Launch) (dC : Nat → ClassId) (dI : Nat → Nat → Nat) (k5 : Nat → ClassId) (a : Nat → Nat) (L : LL) (w : Nat) (hw : w = 0 ∨ w = 1) (hq : L.1 1 = nI w) (d : Nat) (hd : d < 8) : Met l y_L_toldMark w_L_toldMark ({ frames := 0, cells := 0, slots := 0, locals := 0 }) (kx_Pc (dC, dI) clA (tyL k5) (wL a k5 L) [.ref (a 12), .int (nI d)]) (kx_R (some (.int (L.2 (4 + w) d)))) 0 0 (fun _ => False) := by
  refine Met.ofW (cc := c_L_toldMark) (maxL := 2) (ret := (some .int)) (by decide) rfl ?_
  intro p e s m args below meth c s₁ B hml hv
  obtain ⟨rfl, hP, hK, hD0⟩ := hv
  have hx := B.exec
  have hb := B.bytes
  have hr := B.returns
  have hts : ∀ w ∈ wsA, w.before _ s = true := fun w h => atoms_spec (ws := w_L_toldMark) B.pre w (List.mem_cons_of_mem _ h)
  have hown : s.vm.findClass R_L = some m.cls := findClass_of_methodNamed B.named
  have hlocks := B.notSynchronized
  have hD := kx_D.self hD0
  have hS : va_S (kx_A (wL a k5 L)) s.heap s.heap [] := va_S.rf
  have hl := lv_entry ([.ref (a 12), .int (nI d)]) (n := 2) (Nat.le_of_ble_eq_true rfl)
  rw [lg_entry_eq]
  generalize (lg_sl ([.ref (a 12), .int (nI d)]) ++ List.replicate (2 - (lg_sl ([.ref (a 12), .int (nI d)])).length) Slot.unset).toArray = ls at hl ⊢
  have hl : lv_has ls 2 [(0, .ref (a 12)), (1, .int (nI d))] := hl
  rcases hw with rfl | rfl
  · refine lv_aload_n hx hb d_L_toldMark_0 rfl (lv_at hl 0 rfl) ?_
    refine va_get (D := (dC, dI)) (ci := 1) (v := .ref (a 15)) (C := R_L) (T := T_L) (N := 7) hx hb hts wu_L hown hK hP 0 rfl rfl 2 (by decide) (hts _ wf_L_19) (fun _ h9 => h9) rfl d_L_toldMark_1 ?_
    refine lv_aload_n hx hb d_L_toldMark_4 rfl (lv_at hl 0 rfl) ?_
    refine va_get (D := (dC, dI)) (ci := 1) (v := .int (L.1 1)) (C := R_L) (T := T_L) (N := 7) hx hb hts wu_L hown hK hP 0 rfl rfl 6 (by decide) (hts _ wf_L_30) (fun _ h9 => h9) rfl d_L_toldMark_5 ?_
    refine kx_aald hx hb hK hP 3 4 rfl rfl 0 (hq) (by omega) (by omega) (v := (a 22)) rfl d_L_toldMark_8 ?_
    refine lv_iload_n hx hb d_L_toldMark_9 rfl (lv_at hl 1 rfl) ?_
    refine kx_iald hx hb hK hP 10 0 rfl rfl d (rfl) (by omega) (by omega) d_L_toldMark_10 ?_
    exact W.iret (v := ((L.2 4) d)) hx hb hr (fun t ht hW => kx_Ri (rfl) ht) (fun _ h => absurd h List.not_mem_nil) d_L_toldMark_11
  · refine lv_aload_n hx hb d_L_toldMark_0 rfl (lv_at hl 0 rfl) ?_
    refine va_get (D := (dC, dI)) (ci := 1) (v := .ref (a 15)) (C := R_L) (T := T_L) (N := 7) hx hb hts wu_L hown hK hP 0 rfl rfl 2 (by decide) (hts _ wf_L_19) (fun _ h9 => h9) rfl d_L_toldMark_1 ?_
    refine lv_aload_n hx hb d_L_toldMark_4 rfl (lv_at hl 0 rfl) ?_
    refine va_get (D := (dC, dI)) (ci := 1) (v := .int (L.1 1)) (C := R_L) (T := T_L) (N := 7) hx hb hts wu_L hown hK hP 0 rfl rfl 6 (by decide) (hts _ wf_L_30) (fun _ h9 => h9) rfl d_L_toldMark_5 ?_
    refine kx_aald hx hb hK hP 3 4 rfl rfl 1 (hq) (by omega) (by omega) (v := (a 23)) rfl d_L_toldMark_8 ?_
    refine lv_iload_n hx hb d_L_toldMark_9 rfl (lv_at hl 1 rfl) ?_
    refine kx_iald hx hb hK hP 11 0 rfl rfl d (rfl) (by omega) (by omega) d_L_toldMark_10 ?_
    exact W.iret (v := ((L.2 5) d)) hx hb hr (fun t ht hW => kx_Ri (rfl) ht) (fun _ h => absurd h List.not_mem_nil) d_L_toldMark_11
set_option maxHeartbeats 4000000 in
set_option maxRecDepth 100000 in
theorem k_L_draft (l : Launch) (dC : Nat → ClassId) (dI : Nat → Nat → Nat) (k5 : Nat → ClassId) (a : Nat → Nat) (L : LL) (w : Nat) (hw : w = 0 ∨ w = 1) (hq : 1 - L.1 1 = nI w) (hm : Nat) (fm : Nat → Int32) (tg : Int32) (hz : vp_nar .boolean tg = tg) : Met l y_L_draft w_L_draft ({ frames := 1, cells := 0, slots := 0, locals := 40 }) (kx_Pc (dC, dI) clA (tyL k5) ([((a 12), .inr (1, [.ref (a 13), .ref (a 14), .ref (a 15), .ref (a 16), .ref (a 17), .int (L.1 0), .int (L.1 1)])), ((a 13), .inl ((k5 4), 2, .inr (.inr (.inr (.inr (gr2 (a 18) (a 19))))))), ((a 14), .inl ((k5 4), 2, .inr (.inr (.inr (.inr (gr2 (a 20) (a 21))))))), ((a 15), .inl ((k5 4), 2, .inr (.inr (.inr (.inr (gr2 (a 22) (a 23))))))), ((a 16), .inl ((k5 0), 2, .inl (L.2 6))), ((a 17), .inl ((k5 3), 2, .inl (L.2 7))), ((a 18), .inl ((k5 0), 8, .inl (L.2 0))), ((a 19), .inl ((k5 0), 8, .inl (L.2 1))), ((a 20), .inl ((k5 0), 8, .inl (L.2 2))), ((a 21), .inl ((k5 0), 8, .inl (L.2 3))), ((a 22), .inl ((k5 0), 8, .inl (L.2 4))), ((a 23), .inl ((k5 0), 8, .inl (L.2 5))), (hm, .inl ((k5 0), 8, .inl fm))]) [.ref (a 12), .int tg, .ref hm]) (kx_Q (dC, dI) clA ([((a 12), .inr (1, [.ref (a 13), .ref (a 14), .ref (a 15), .ref (a 16), .ref (a 17), .int (L.1 0), .int (L.1 1)])), ((a 13), .inl ((k5 4), 2, .inr (.inr (.inr (.inr (gr2 (a 18) (a 19))))))), ((a 14), .inl ((k5 4), 2, .inr (.inr (.inr (.inr (gr2 (a 20) (a 21))))))), ((a 15), .inl ((k5 4), 2, .inr (.inr (.inr (.inr (gr2 (a 22) (a 23))))))), ((a 16), .inl ((k5 0), 2, .inl (L.2 6))), ((a 17), .inl ((k5 3), 2, .inl (L.2 7))), ((a 18), .inl ((k5 0), 8, .inl (L.2 0))), ((a 19), .inl ((k5 0), 8, .inl (L.2 1))), ((a 20), .inl ((k5 0), 8, .inl (L.2 2))), ((a 21), .inl ((k5 0), 8, .inl (L.2 3))), ((a 22), .inl ((k5 0), 8, .inl (L.2 4))), ((a 23), .inl ((k5 0), 8, .inl (L.2 5))), (hm, .inl ((k5 0), 8, .inl fm))]) (wL a k5 (lDraft w tg fm L) ++ [(hm, .inl (k5 0, 8, .inl fm))]) none) 0 0 (kx_A ([((a 12), .inr (1, [.ref (a 13), .ref (a 14), .ref (a 15), .ref (a 16), .ref (a 17), .int (L.1 0), .int (L.1 1)])), ((a 13), .inl ((k5 4), 2, .inr (.inr (.inr (.inr (gr2 (a 18) (a 19))))))), ((a 14), .inl ((k5 4), 2, .inr (.inr (.inr (.inr (gr2 (a 20) (a 21))))))), ((a 15), .inl ((k5 4), 2, .inr (.inr (.inr (.inr (gr2 (a 22) (a 23))))))), ((a 16), .inl ((k5 0), 2, .inl (L.2 6))), ((a 17), .inl ((k5 3), 2, .inl (L.2 7))), ((a 18), .inl ((k5 0), 8, .inl (L.2 0))), ((a 19), .inl ((k5 0), 8, .inl (L.2 1))), ((a 20), .inl ((k5 0), 8, .inl (L.2 2))), ((a 21), .inl ((k5 0), 8, .inl (L.2 3))), ((a 22), .inl ((k5 0), 8, .inl (L.2 4))), ((a 23), .inl ((k5 0), 8, .inl (L.2 5))), (hm, .inl ((k5 0), 8, .inl fm))])) := by
  refine Met.ofW (cc := c_L_draft) (maxL := 4) (ret := none) (by decide) rfl ?_
  intro p e s m args below meth c s₁ B hml hv
  obtain ⟨rfl, hP, hK, hD0⟩ := hv
  have hx := B.exec
  have hb := B.bytes
  have hr := B.returns
  have hts : ∀ w ∈ wsA, w.before _ s = true := fun w h => atoms_spec (ws := w_L_draft) B.pre w (List.mem_cons_of_mem _ h)
  have hown : s.vm.findClass R_L = some m.cls := findClass_of_methodNamed B.named
  have hlocks := B.notSynchronized
  have hD := kx_D.self hD0
  have hS : va_S (kx_A ([((a 12), .inr (1, [.ref (a 13), .ref (a 14), .ref (a 15), .ref (a 16), .ref (a 17), .int (L.1 0), .int (L.1 1)])), ((a 13), .inl ((k5 4), 2, .inr (.inr (.inr (.inr (gr2 (a 18) (a 19))))))), ((a 14), .inl ((k5 4), 2, .inr (.inr (.inr (.inr (gr2 (a 20) (a 21))))))), ((a 15), .inl ((k5 4), 2, .inr (.inr (.inr (.inr (gr2 (a 22) (a 23))))))), ((a 16), .inl ((k5 0), 2, .inl (L.2 6))), ((a 17), .inl ((k5 3), 2, .inl (L.2 7))), ((a 18), .inl ((k5 0), 8, .inl (L.2 0))), ((a 19), .inl ((k5 0), 8, .inl (L.2 1))), ((a 20), .inl ((k5 0), 8, .inl (L.2 2))), ((a 21), .inl ((k5 0), 8, .inl (L.2 3))), ((a 22), .inl ((k5 0), 8, .inl (L.2 4))), ((a 23), .inl ((k5 0), 8, .inl (L.2 5))), (hm, .inl ((k5 0), 8, .inl fm))])) s.heap s.heap [] := va_S.rf
  have hl := lv_entry ([.ref (a 12), .int tg, .ref hm]) (n := 4) (Nat.le_of_ble_eq_true rfl)
  rw [lg_entry_eq]
  generalize (lg_sl ([.ref (a 12), .int tg, .ref hm]) ++ List.replicate (4 - (lg_sl ([.ref (a 12), .int tg, .ref hm])).length) Slot.unset).toArray = ls at hl ⊢
  have hl : lv_has ls 4 [(0, .ref (a 12)), (1, .int tg), (2, .ref hm)] := hl
  rcases hw with rfl | rfl
  · refine lv_iconst (v := 1) hx hb d_L_draft_0 (by decide) ?_
    refine lv_aload_n hx hb d_L_draft_1 rfl (lv_at hl 0 rfl) ?_
    refine va_get (D := (dC, dI)) (ci := 1) (v := .int (L.1 1)) (C := R_L) (T := T_L) (N := 7) hx hb hts wu_L hown hK hP 0 rfl rfl 6 (by decide) (hts _ wf_L_30) (fun _ h9 => h9) rfl d_L_draft_2 ?_
    refine lv_isub hx hb d_L_draft_5 ?_
    refine lv_istore_n (lv' := [(3, .int (1 - (L.1 1))), (0, .ref (a 12)), (1, .int tg), (2, .ref hm)]) hx hb d_L_draft_6 rfl hl (by decide) rfl (fun ls hl => ?_)
    refine lv_aload_n hx hb d_L_draft_7 rfl (lv_at hl 1 rfl) ?_
    refine lv_dup hx hb d_L_draft_8 rfl ?_
    refine va_get (D := (dC, dI)) (ci := 1) (v := .int (L.1 0)) (C := R_L) (T := T_L) (N := 7) hx hb hts wu_L hown hK hP 0 rfl rfl 5 (by decide) (hts _ wf_L_34) (fun _ h9 => h9) rfl d_L_draft_9 ?_
    refine lv_iconst (v := 1) hx hb d_L_draft_12 (by decide) ?_
    refine lv_iadd hx hb d_L_draft_13 ?_
    refine kx_put (ws' := [((a 12), .inr (1, [.ref (a 13), .ref (a 14), .ref (a 15), .ref (a 16), .ref (a 17), .int ((L.1 0) + 1), .int (L.1 1)])), ((a 13), .inl ((k5 4), 2, .inr (.inr (.inr (.inr (gr2 (a 18) (a 19))))))), ((a 14), .inl ((k5 4), 2, .inr (.inr (.inr (.inr (gr2 (a 20) (a 21))))))), ((a 15), .inl ((k5 4), 2, .inr (.inr (.inr (.inr (gr2 (a 22) (a 23))))))), ((a 16), .inl ((k5 0), 2, .inl (L.2 6))), ((a 17), .inl ((k5 3), 2, .inl (L.2 7))), ((a 18), .inl ((k5 0), 8, .inl (L.2 0))), ((a 19), .inl ((k5 0), 8, .inl (L.2 1))), ((a 20), .inl ((k5 0), 8, .inl (L.2 2))), ((a 21), .inl ((k5 0), 8, .inl (L.2 3))), ((a 22), .inl ((k5 0), 8, .inl (L.2 4))), ((a 23), .inl ((k5 0), 8, .inl (L.2 5))), (hm, .inl ((k5 0), 8, .inl fm))]) (D := (dC, dI)) (ci := 1) (v := .int ((L.1 0) + 1)) (ty := .int) (C := R_L) (T := T_L) (N := 7) hx hb hts wu_L ty_L ok_L nm_L hown hK hP hD hS 0 rfl rfl 5 (by decide) (hts _ wf_L_34) (fun _ h9 => h9) rfl (by decide +kernel) rfl rfl (Nat.le_of_ble_eq_true rfl) rfl d_L_draft_14 (fun H locs hP hD hS => ?_)
    refine lv_aload_n hx hb d_L_draft_17 rfl (lv_at hl 1 rfl) ?_
    refine va_get (D := (dC, dI)) (ci := 1) (v := .ref (a 16)) (C := R_L) (T := T_L) (N := 7) hx hb hts wu_L hown hK hP 0 rfl rfl 3 (by decide) (hts _ wf_L_22) (fun _ h9 => h9) rfl d_L_draft_18 ?_
    refine lv_iload_n hx hb d_L_draft_21 rfl (lv_at hl 0 rfl) ?_
    refine lv_aload_n hx hb d_L_draft_22 rfl (lv_at hl 1 rfl) ?_
    refine va_get (D := (dC, dI)) (ci := 1) (v := .int ((L.1 0) + 1)) (C := R_L) (T := T_L) (N := 7) hx hb hts wu_L hown hK hP 0 rfl rfl 5 (by decide) (hts _ wf_L_34) (fun _ h9 => h9) rfl d_L_draft_23 ?_
    refine kx_iast (ws' := [((a 12), .inr (1, [.ref (a 13), .ref (a 14), .ref (a 15), .ref (a 16), .ref (a 17), .int ((L.1 0) + 1), .int (L.1 1)])), ((a 13), .inl ((k5 4), 2, .inr (.inr (.inr (.inr (gr2 (a 18) (a 19))))))), ((a 14), .inl ((k5 4), 2, .inr (.inr (.inr (.inr (gr2 (a 20) (a 21))))))), ((a 15), .inl ((k5 4), 2, .inr (.inr (.inr (.inr (gr2 (a 22) (a 23))))))), ((a 16), .inl ((k5 0), 2, .inl (upd (L.2 6) 0 ((L.1 0) + 1)))), ((a 17), .inl ((k5 3), 2, .inl (L.2 7))), ((a 18), .inl ((k5 0), 8, .inl (L.2 0))), ((a 19), .inl ((k5 0), 8, .inl (L.2 1))), ((a 20), .inl ((k5 0), 8, .inl (L.2 2))), ((a 21), .inl ((k5 0), 8, .inl (L.2 3))), ((a 22), .inl ((k5 0), 8, .inl (L.2 4))), ((a 23), .inl ((k5 0), 8, .inl (L.2 5))), (hm, .inl ((k5 0), 8, .inl fm))]) hx hb hK hP hD hS 4 0 rfl rfl 0 (hq) (by omega) (by omega) rfl d_L_draft_26 (fun H locs hP hD hS => ?_)
    refine lv_aload_n hx hb d_L_draft_27 rfl (lv_at hl 1 rfl) ?_
    refine va_get (D := (dC, dI)) (ci := 1) (v := .ref (a 17)) (C := R_L) (T := T_L) (N := 7) hx hb hts wu_L hown hK hP 0 rfl rfl 4 (by decide) (hts _ wf_L_26) (fun _ h9 => h9) rfl d_L_draft_28 ?_
    refine lv_iload_n hx hb d_L_draft_31 rfl (lv_at hl 0 rfl) ?_
    refine lv_iload_n hx hb d_L_draft_32 rfl (lv_at hl 2 rfl) ?_
    refine kx_zast (ws' := [((a 12), .inr (1, [.ref (a 13), .ref (a 14), .ref (a 15), .ref (a 16), .ref (a 17), .int ((L.1 0) + 1), .int (L.1 1)])), ((a 13), .inl ((k5 4), 2, .inr (.inr (.inr (.inr (gr2 (a 18) (a 19))))))), ((a 14), .inl ((k5 4), 2, .inr (.inr (.inr (.inr (gr2 (a 20) (a 21))))))), ((a 15), .inl ((k5 4), 2, .inr (.inr (.inr (.inr (gr2 (a 22) (a 23))))))), ((a 16), .inl ((k5 0), 2, .inl (upd (L.2 6) 0 ((L.1 0) + 1)))), ((a 17), .inl ((k5 3), 2, .inl (upd (L.2 7) 0 tg))), ((a 18), .inl ((k5 0), 8, .inl (L.2 0))), ((a 19), .inl ((k5 0), 8, .inl (L.2 1))), ((a 20), .inl ((k5 0), 8, .inl (L.2 2))), ((a 21), .inl ((k5 0), 8, .inl (L.2 3))), ((a 22), .inl ((k5 0), 8, .inl (L.2 4))), ((a 23), .inl ((k5 0), 8, .inl (L.2 5))), (hm, .inl ((k5 0), 8, .inl fm))]) hx hb hK hP hD hS 5 3 rfl rfl 0 (hq) (by omega) (by omega) hz rfl d_L_draft_33 (fun H locs hP hD hS => ?_)
    refine lv_aload_n hx hb d_L_draft_34 rfl (lv_at hl 3 rfl) ?_
    refine lv_iconst (v := 0) hx hb d_L_draft_35 (by decide) ?_
    refine lv_aload_n hx hb d_L_draft_36 rfl (lv_at hl 1 rfl) ?_
    refine va_get (D := (dC, dI)) (ci := 1) (v := .ref (a 15)) (C := R_L) (T := T_L) (N := 7) hx hb hts wu_L hown hK hP 0 rfl rfl 2 (by decide) (hts _ wf_L_19) (fun _ h9 => h9) rfl d_L_draft_37 ?_
    refine lv_iload_n hx hb d_L_draft_40 rfl (lv_at hl 0 rfl) ?_
    refine kx_aald hx hb hK hP 3 4 rfl rfl 0 (hq) (by omega) (by omega) (v := (a 22)) rfl d_L_draft_41 ?_
    refine lv_iconst (v := 0) hx hb d_L_draft_42 (by decide) ?_
    refine lv_bipush (v := 8) hx hb d_L_draft_43 (by decide) ?_
    refine kx_copy (ws' := [((a 12), .inr (1, [.ref (a 13), .ref (a 14), .ref (a 15), .ref (a 16), .ref (a 17), .int ((L.1 0) + 1), .int (L.1 1)])), ((a 13), .inl ((k5 4), 2, .inr (.inr (.inr (.inr (gr2 (a 18) (a 19))))))), ((a 14), .inl ((k5 4), 2, .inr (.inr (.inr (.inr (gr2 (a 20) (a 21))))))), ((a 15), .inl ((k5 4), 2, .inr (.inr (.inr (.inr (gr2 (a 22) (a 23))))))), ((a 16), .inl ((k5 0), 2, .inl (upd (L.2 6) 0 ((L.1 0) + 1)))), ((a 17), .inl ((k5 3), 2, .inl (upd (L.2 7) 0 tg))), ((a 18), .inl ((k5 0), 8, .inl (L.2 0))), ((a 19), .inl ((k5 0), 8, .inl (L.2 1))), ((a 20), .inl ((k5 0), 8, .inl (L.2 2))), ((a 21), .inl ((k5 0), 8, .inl (L.2 3))), ((a 22), .inl ((k5 0), 8, .inl (va_cpy fm (L.2 4) 0 0 8))), ((a 23), .inl ((k5 0), 8, .inl (L.2 5))), (hm, .inl ((k5 0), 8, .inl fm))]) hx hb (hml.trans hl.1.symm) hown (hts _ wm_L_37) (hts _ wv_arraycopyName) (hts _ wt_arraycopyName) (hts _ wi_S) hK hP hD hS 12 10 0 0 rfl rfl rfl rfl rfl 0 0 8 (rfl) (rfl) (rfl) (by omega) (by omega) (by omega) (by omega) (fun i hi => rfl) rfl (Nat.le_of_ble_eq_true rfl) (Nat.le_of_ble_eq_true rfl) d_L_draft_45 (fun H locs hP hD hS => ?_)
    exact W.vret hx hb hr (fun t ht hW => kx_Qv ht hP (rfl) hS rfl) hS.2.2 d_L_draft_48
  · refine lv_iconst (v := 1) hx hb d_L_draft_0 (by decide) ?_
    refine lv_aload_n hx hb d_L_draft_1 rfl (lv_at hl 0 rfl) ?_
    refine va_get (D := (dC, dI)) (ci := 1) (v := .int (L.1 1)) (C := R_L) (T := T_L) (N := 7) hx hb hts wu_L hown hK hP 0 rfl rfl 6 (by decide) (hts _ wf_L_30) (fun _ h9 => h9) rfl d_L_draft_2 ?_
    refine lv_isub hx hb d_L_draft_5 ?_
    refine lv_istore_n (lv' := [(3, .int (1 - (L.1 1))), (0, .ref (a 12)), (1, .int tg), (2, .ref hm)]) hx hb d_L_draft_6 rfl hl (by decide) rfl (fun ls hl => ?_)
    refine lv_aload_n hx hb d_L_draft_7 rfl (lv_at hl 1 rfl) ?_
    refine lv_dup hx hb d_L_draft_8 rfl ?_
    refine va_get (D := (dC, dI)) (ci := 1) (v := .int (L.1 0)) (C := R_L) (T := T_L) (N := 7) hx hb hts wu_L hown hK hP 0 rfl rfl 5 (by decide) (hts _ wf_L_34) (fun _ h9 => h9) rfl d_L_draft_9 ?_
    refine lv_iconst (v := 1) hx hb d_L_draft_12 (by decide) ?_
    refine lv_iadd hx hb d_L_draft_13 ?_
    refine kx_put (ws' := [((a 12), .inr (1, [.ref (a 13), .ref (a 14), .ref (a 15), .ref (a 16), .ref (a 17), .int ((L.1 0) + 1), .int (L.1 1)])), ((a 13), .inl ((k5 4), 2, .inr (.inr (.inr (.inr (gr2 (a 18) (a 19))))))), ((a 14), .inl ((k5 4), 2, .inr (.inr (.inr (.inr (gr2 (a 20) (a 21))))))), ((a 15), .inl ((k5 4), 2, .inr (.inr (.inr (.inr (gr2 (a 22) (a 23))))))), ((a 16), .inl ((k5 0), 2, .inl (L.2 6))), ((a 17), .inl ((k5 3), 2, .inl (L.2 7))), ((a 18), .inl ((k5 0), 8, .inl (L.2 0))), ((a 19), .inl ((k5 0), 8, .inl (L.2 1))), ((a 20), .inl ((k5 0), 8, .inl (L.2 2))), ((a 21), .inl ((k5 0), 8, .inl (L.2 3))), ((a 22), .inl ((k5 0), 8, .inl (L.2 4))), ((a 23), .inl ((k5 0), 8, .inl (L.2 5))), (hm, .inl ((k5 0), 8, .inl fm))]) (D := (dC, dI)) (ci := 1) (v := .int ((L.1 0) + 1)) (ty := .int) (C := R_L) (T := T_L) (N := 7) hx hb hts wu_L ty_L ok_L nm_L hown hK hP hD hS 0 rfl rfl 5 (by decide) (hts _ wf_L_34) (fun _ h9 => h9) rfl (by decide +kernel) rfl rfl (Nat.le_of_ble_eq_true rfl) rfl d_L_draft_14 (fun H locs hP hD hS => ?_)
    refine lv_aload_n hx hb d_L_draft_17 rfl (lv_at hl 1 rfl) ?_
    refine va_get (D := (dC, dI)) (ci := 1) (v := .ref (a 16)) (C := R_L) (T := T_L) (N := 7) hx hb hts wu_L hown hK hP 0 rfl rfl 3 (by decide) (hts _ wf_L_22) (fun _ h9 => h9) rfl d_L_draft_18 ?_
    refine lv_iload_n hx hb d_L_draft_21 rfl (lv_at hl 0 rfl) ?_
    refine lv_aload_n hx hb d_L_draft_22 rfl (lv_at hl 1 rfl) ?_
    refine va_get (D := (dC, dI)) (ci := 1) (v := .int ((L.1 0) + 1)) (C := R_L) (T := T_L) (N := 7) hx hb hts wu_L hown hK hP 0 rfl rfl 5 (by decide) (hts _ wf_L_34) (fun _ h9 => h9) rfl d_L_draft_23 ?_
    refine kx_iast (ws' := [((a 12), .inr (1, [.ref (a 13), .ref (a 14), .ref (a 15), .ref (a 16), .ref (a 17), .int ((L.1 0) + 1), .int (L.1 1)])), ((a 13), .inl ((k5 4), 2, .inr (.inr (.inr (.inr (gr2 (a 18) (a 19))))))), ((a 14), .inl ((k5 4), 2, .inr (.inr (.inr (.inr (gr2 (a 20) (a 21))))))), ((a 15), .inl ((k5 4), 2, .inr (.inr (.inr (.inr (gr2 (a 22) (a 23))))))), ((a 16), .inl ((k5 0), 2, .inl (upd (L.2 6) 1 ((L.1 0) + 1)))), ((a 17), .inl ((k5 3), 2, .inl (L.2 7))), ((a 18), .inl ((k5 0), 8, .inl (L.2 0))), ((a 19), .inl ((k5 0), 8, .inl (L.2 1))), ((a 20), .inl ((k5 0), 8, .inl (L.2 2))), ((a 21), .inl ((k5 0), 8, .inl (L.2 3))), ((a 22), .inl ((k5 0), 8, .inl (L.2 4))), ((a 23), .inl ((k5 0), 8, .inl (L.2 5))), (hm, .inl ((k5 0), 8, .inl fm))]) hx hb hK hP hD hS 4 0 rfl rfl 1 (hq) (by omega) (by omega) rfl d_L_draft_26 (fun H locs hP hD hS => ?_)
    refine lv_aload_n hx hb d_L_draft_27 rfl (lv_at hl 1 rfl) ?_
    refine va_get (D := (dC, dI)) (ci := 1) (v := .ref (a 17)) (C := R_L) (T := T_L) (N := 7) hx hb hts wu_L hown hK hP 0 rfl rfl 4 (by decide) (hts _ wf_L_26) (fun _ h9 => h9) rfl d_L_draft_28 ?_
    refine lv_iload_n hx hb d_L_draft_31 rfl (lv_at hl 0 rfl) ?_
    refine lv_iload_n hx hb d_L_draft_32 rfl (lv_at hl 2 rfl) ?_
    refine kx_zast (ws' := [((a 12), .inr (1, [.ref (a 13), .ref (a 14), .ref (a 15), .ref (a 16), .ref (a 17), .int ((L.1 0) + 1), .int (L.1 1)])), ((a 13), .inl ((k5 4), 2, .inr (.inr (.inr (.inr (gr2 (a 18) (a 19))))))), ((a 14), .inl ((k5 4), 2, .inr (.inr (.inr (.inr (gr2 (a 20) (a 21))))))), ((a 15), .inl ((k5 4), 2, .inr (.inr (.inr (.inr (gr2 (a 22) (a 23))))))), ((a 16), .inl ((k5 0), 2, .inl (upd (L.2 6) 1 ((L.1 0) + 1)))), ((a 17), .inl ((k5 3), 2, .inl (upd (L.2 7) 1 tg))), ((a 18), .inl ((k5 0), 8, .inl (L.2 0))), ((a 19), .inl ((k5 0), 8, .inl (L.2 1))), ((a 20), .inl ((k5 0), 8, .inl (L.2 2))), ((a 21), .inl ((k5 0), 8, .inl (L.2 3))), ((a 22), .inl ((k5 0), 8, .inl (L.2 4))), ((a 23), .inl ((k5 0), 8, .inl (L.2 5))), (hm, .inl ((k5 0), 8, .inl fm))]) hx hb hK hP hD hS 5 3 rfl rfl 1 (hq) (by omega) (by omega) hz rfl d_L_draft_33 (fun H locs hP hD hS => ?_)
    refine lv_aload_n hx hb d_L_draft_34 rfl (lv_at hl 3 rfl) ?_
    refine lv_iconst (v := 0) hx hb d_L_draft_35 (by decide) ?_
    refine lv_aload_n hx hb d_L_draft_36 rfl (lv_at hl 1 rfl) ?_
    refine va_get (D := (dC, dI)) (ci := 1) (v := .ref (a 15)) (C := R_L) (T := T_L) (N := 7) hx hb hts wu_L hown hK hP 0 rfl rfl 2 (by decide) (hts _ wf_L_19) (fun _ h9 => h9) rfl d_L_draft_37 ?_
    refine lv_iload_n hx hb d_L_draft_40 rfl (lv_at hl 0 rfl) ?_
    refine kx_aald hx hb hK hP 3 4 rfl rfl 1 (hq) (by omega) (by omega) (v := (a 23)) rfl d_L_draft_41 ?_
    refine lv_iconst (v := 0) hx hb d_L_draft_42 (by decide) ?_
    refine lv_bipush (v := 8) hx hb d_L_draft_43 (by decide) ?_
    refine kx_copy (ws' := [((a 12), .inr (1, [.ref (a 13), .ref (a 14), .ref (a 15), .ref (a 16), .ref (a 17), .int ((L.1 0) + 1), .int (L.1 1)])), ((a 13), .inl ((k5 4), 2, .inr (.inr (.inr (.inr (gr2 (a 18) (a 19))))))), ((a 14), .inl ((k5 4), 2, .inr (.inr (.inr (.inr (gr2 (a 20) (a 21))))))), ((a 15), .inl ((k5 4), 2, .inr (.inr (.inr (.inr (gr2 (a 22) (a 23))))))), ((a 16), .inl ((k5 0), 2, .inl (upd (L.2 6) 1 ((L.1 0) + 1)))), ((a 17), .inl ((k5 3), 2, .inl (upd (L.2 7) 1 tg))), ((a 18), .inl ((k5 0), 8, .inl (L.2 0))), ((a 19), .inl ((k5 0), 8, .inl (L.2 1))), ((a 20), .inl ((k5 0), 8, .inl (L.2 2))), ((a 21), .inl ((k5 0), 8, .inl (L.2 3))), ((a 22), .inl ((k5 0), 8, .inl (L.2 4))), ((a 23), .inl ((k5 0), 8, .inl (va_cpy fm (L.2 5) 0 0 8))), (hm, .inl ((k5 0), 8, .inl fm))]) hx hb (hml.trans hl.1.symm) hown (hts _ wm_L_37) (hts _ wv_arraycopyName) (hts _ wt_arraycopyName) (hts _ wi_S) hK hP hD hS 12 11 0 0 rfl rfl rfl rfl rfl 0 0 8 (rfl) (rfl) (rfl) (by omega) (by omega) (by omega) (by omega) (fun i hi => rfl) rfl (Nat.le_of_ble_eq_true rfl) (Nat.le_of_ble_eq_true rfl) d_L_draft_45 (fun H locs hP hD hS => ?_)
    exact W.vret hx hb hr (fun t ht hW => kx_Qv ht hP (rfl) hS rfl) hS.2.2 d_L_draft_48
