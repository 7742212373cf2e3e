set_option maxHeartbeats 4000000 in
set_option maxRecDepth 100000 in
theorem k_D_powerFails (l : Launch) (dC : Nat → ClassId) (dI : Nat → Nat → Nat) (k5 : Nat → ClassId) (a : Nat → Nat) (P : PP) (G J : GG) (L : LL)  : Met l y_D_powerFails w_D_powerFails ({ frames := 1, cells := 0, slots := 0, locals := 20 }) (kx_Pc (dC, dI) clA (tyL k5) (wD a k5 P G J L) [.ref (a 0)]) (kx_Q (dC, dI) clA (wD a k5 P G J L) (wD a k5 (pPow 0 P) (gClear G) J L) (some (.int (-2)))) 0 0 (kx_A (wD a k5 P G J L)) := by
  refine Met.ofW (cc := c_D_powerFails) (maxL := 1) (ret := (some .int)) (by decide) rfl ?_
  intro p e s m args below meth c s₁ B hml hv
  obtain ⟨rfl, hP, hK, hD0⟩ := hv
  have hx := B.exec
  have hb := B.bytes
  have hr := B.returns
  have hts : ∀ w ∈ wsA, w.before _ s = true := fun w h => atoms_spec (ws := w_D_powerFails) B.pre w (List.mem_cons_of_mem _ h)
  have hown : s.vm.findClass R_D = some m.cls := findClass_of_methodNamed B.named
  have hlocks := B.notSynchronized
  have hD := kx_D.self hD0
  have hS : va_S (kx_A (wD a k5 P G J L)) s.heap s.heap [] := va_S.rf
  have hl := lv_entry ([.ref (a 0)]) (n := 1) (Nat.le_of_ble_eq_true rfl)
  rw [lg_entry_eq]
  generalize (lg_sl ([.ref (a 0)]) ++ List.replicate (1 - (lg_sl ([.ref (a 0)])).length) Slot.unset).toArray = ls at hl ⊢
  have hl : lv_has ls 1 [(0, .ref (a 0))] := hl
  refine lv_aload_n hx hb d_D_powerFails_0 rfl (lv_at hl 0 rfl) ?_
  refine lv_iconst (v := 0) hx hb d_D_powerFails_1 (by decide) ?_
  refine kx_put (ws' := (wD a k5 (pPow 0 P) G J L)) (D := (dC, dI)) (ci := 2) (v := .int 0) (ty := .boolean) (C := R_D) (T := T_D) (N := 9) hx hb hts wu_D ty_D ok_D nm_D hown hK hP hD hS 0 rfl rfl 8 (by decide) (hts _ wf_D_46) (fun _ h9 => h9) rfl (by decide +kernel) rfl rfl (Nat.le_of_ble_eq_true rfl) rfl d_D_powerFails_2 (fun H locs hP hD hS => ?_)
  refine lv_aload_n hx hb d_D_powerFails_5 rfl (lv_at hl 0 rfl) ?_
  refine va_get (D := (dC, dI)) (ci := 2) (v := .ref (a 4)) (C := R_D) (T := T_D) (N := 9) hx hb hts wu_D hown hK hP 0 rfl rfl 3 (by decide) (hts _ wf_D_24) (fun _ h9 => h9) rfl d_D_powerFails_6 ?_
  refine kx_V (ws2 := (wD a k5 (pPow 0 P) (gClear G) J L)) (As := []) (rest := []) ⟨hx, hb, hml, hown, hts⟩ (k_G_clear l dC dI k5 (a 4) (a 5) (a 6) (a 7) (G.1) (G.2.1) (G.2.2.1) (G.2.2.2.1) (G.2.2.2.2) ) (cwV 0 hts (goodV wm_D_109 wn_G_clear ws_G_clear wi_G wc_G_clear) rfl rfl rfl (by decide +kernel) ⟨Nat.le_of_ble_eq_true rfl, Nat.le_of_ble_eq_true rfl⟩) ⟨Nat.zero_le _, Nat.zero_le _⟩ hK hP hD hS [4, 5, 6, 7] (by decide) rfl 0 rfl rfl rfl rfl rfl rfl hl.1 rfl (Nat.le_of_ble_eq_true rfl) d_D_powerFails_9 (fun H locs hP hD hS => ?_)
  refine W.eq (g2 := F0 m 12 ls []) rfl ?_
  refine lv_bipush (v := (-2)) hx hb d_D_powerFails_12 (by decide) ?_
  exact W.iret (v := (-2)) hx hb hr (fun t ht hW => kx_Qi (rfl) ht hP (rfl) hS rfl) hS.2.2 d_D_powerFails_14
set_option maxHeartbeats 4000000 in
set_option maxRecDepth 100000 in
theorem k_D_writeLabel (l : Launch) (dC : Nat → ClassId) (dI : Nat → Nat → Nat) (k5 : Nat → ClassId) (a : Nat → Nat) (P : PP) (G J : GG) (L : LL) (bits : Int64) (w : Nat) (hw : w = 0 ∨ w = 1) (hq : 1 - L.1 1 = nI w) (n : Nat) (hn : P.1 = nI n) (hn8 : n ≤ 8) : Met l y_D_writeLabel w_D_writeLabel ({ frames := 2, cells := 0, slots := 0, locals := 45 }) (kx_Pc (dC, dI) clA (tyL k5) (wD a k5 P G J L) [.ref (a 0), .long bits]) (kx_Q (dC, dI) clA (wD a k5 P G J L) (wD a k5 P G J ((pWrite P bits w n L).1)) none) 0 0 (kx_A (wD a k5 P G J L)) := by
  refine Met.ofW (cc := c_D_writeLabel) (maxL := 5) (ret := none) (by decide) rfl ?_
  intro p e s m args below meth c s₁ B hml hv
  obtain ⟨rfl, hP, hK, hD0⟩ := hv
  have hx := B.exec
  have hb := B.bytes
  have hr := B.returns
  have hts : ∀ w ∈ wsA, w.before _ s = true := fun w h => atoms_spec (ws := w_D_writeLabel) B.pre w (List.mem_cons_of_mem _ h)
  have hown : s.vm.findClass R_D = some m.cls := findClass_of_methodNamed B.named
  have hlocks := B.notSynchronized
  have hD := kx_D.self hD0
  have hS : va_S (kx_A (wD a k5 P G J L)) s.heap s.heap [] := va_S.rf
  have hl := lv_entry ([.ref (a 0), .long bits]) (n := 5) (Nat.le_of_ble_eq_true rfl)
  rw [lg_entry_eq]
  generalize (lg_sl ([.ref (a 0), .long bits]) ++ List.replicate (5 - (lg_sl ([.ref (a 0), .long bits])).length) Slot.unset).toArray = ls at hl ⊢
  have hl : lv_has ls 5 [(0, .ref (a 0)), (1, .long bits)] := hl
  refine lv_iconst (v := 0) hx hb d_D_writeLabel_0 (by decide) ?_
  refine lv_istore_n (lv' := [(3, .int 0), (0, .ref (a 0)), (1, .long bits)]) hx hb d_D_writeLabel_1 rfl hl (by decide) rfl (fun ls hl => ?_)
  refine lv_iconst (v := 0) hx hb d_D_writeLabel_2 (by decide) ?_
  refine lv_istore (lv' := [(4, .int 0), (3, .int 0), (0, .ref (a 0)), (1, .long bits)]) hx hb d_D_writeLabel_3 hl (by decide) rfl (fun ls hl => ?_)
  have lp : ∀ (q9 i : Nat) (H : Heap) (locs : List Loc) (ls : Array Slot), i + q9 = n → va_P (dC, dI) clA (wD a k5 P G J ((pWrite P bits w i L).1)) H → va_D (kx_A (wD a k5 P G J L)) (wD a k5 P G J ((pWrite P bits w i L).1)) → va_S (kx_A (wD a k5 P G J L)) s.heap H locs → lv_has ls 5 [(4, .int (nI i)), (3, .int (nI ((pWrite P bits w i L).2))), (0, .ref (a 0)), (1, .long bits)] → W p l e (headSpec w_D_writeLabel ({ frames := 2, cells := 0, slots := 0, locals := 45 })).room s m ([.ref (a 0), .long bits] : List Value).toArray below meth c H locs 0 0 (MQ below (kx_Q (dC, dI) clA (wD a k5 P G J L) (wD a k5 P G J ((pWrite P bits w n L).1)) none) ([.ref (a 0), .long bits] : List Value).toArray s 0 0 (kx_A (wD a k5 P G J L))) (F0 m 5 ls []) := by
    intro q9
    induction q9 with
    | zero =>
      intro i H locs ls hi hP hD hS hl
      have hi : n = i := by omega
      subst hi
      refine lv_iload hx hb d_D_writeLabel_5 (lv_at hl 0 rfl) ?_
      refine lv_aload_n hx hb d_D_writeLabel_7 rfl (lv_at hl 2 rfl) ?_
      refine va_get (D := (dC, dI)) (ci := 2) (v := .int (P.1)) (C := R_D) (T := T_D) (N := 9) hx hb hts wu_D hown hK hP 0 rfl rfl 6 (by decide) (hts _ wf_D_64) (fun _ h9 => h9) rfl d_D_writeLabel_8 ?_
      refine lv_icmp_ge (tgt := 48) hx hb d_D_writeLabel_11 (by decide) (fun hc => ?_) (fun hc => ?_)
      · exact W.vret hx hb hr (fun t ht hW => kx_Qv ht hP (rfl) hS rfl) hS.2.2 d_D_writeLabel_48
      · exact absurd (by rw [hn]; exact nI_le (by omega) (by omega)) hc
    | succ q9 ih =>
      intro i H locs ls hi hP hD hS hl
      refine lv_iload hx hb d_D_writeLabel_5 (lv_at hl 0 rfl) ?_
      refine lv_aload_n hx hb d_D_writeLabel_7 rfl (lv_at hl 2 rfl) ?_
      refine va_get (D := (dC, dI)) (ci := 2) (v := .int (P.1)) (C := R_D) (T := T_D) (N := 9) hx hb hts wu_D hown hK hP 0 rfl rfl 6 (by decide) (hts _ wf_D_64) (fun _ h9 => h9) rfl d_D_writeLabel_8 ?_
      refine lv_icmp_ge (tgt := 48) hx hb d_D_writeLabel_11 (by decide) (fun hc => ?_) (fun hc => ?_)
      · exact absurd hc (by rw [hn]; exact nI_ge (by omega) (by omega))
      · refine lv_aload_n hx hb d_D_writeLabel_14 rfl (lv_at hl 2 rfl) ?_
        refine va_get (D := (dC, dI)) (ci := 2) (v := .ref (a 1)) (C := R_D) (T := T_D) (N := 9) hx hb hts wu_D hown hK hP 0 rfl rfl 0 (by decide) (hts _ wf_D_9) (fun _ h9 => h9) rfl d_D_writeLabel_15 ?_
        refine lv_iload hx hb d_D_writeLabel_18 (lv_at hl 0 rfl) ?_
        refine kx_iald hx hb hK hP 1 0 rfl rfl i (rfl) (by omega) (by omega) d_D_writeLabel_20 ?_
        refine lv_iconst (v := (-1)) hx hb d_D_writeLabel_21 (by decide) ?_
        refine lv_icmp_eq (tgt := 42) hx hb d_D_writeLabel_22 (by decide) (fun hd => ?_) (fun hd => ?_)
        · refine lv_iinc (v := nI (i + 1)) (lv' := [(4, .int (nI (i + 1))), (3, .int (nI ((pWrite P bits w i L).2))), (0, .ref (a 0)), (1, .long bits)]) hx hb d_D_writeLabel_42 hl (k := 0) rfl (nI_1 i) (by decide) rfl (fun ls hl => ?_)
          refine lv_goto (tgt := 5) hx hb d_D_writeLabel_45 (by decide) ?_
          have e : (pWrite P bits w (i + 1) L) = (pWrite P bits w i L) := if_pos hd
          exact ih (i + 1) H locs ls (by omega) (by rw [e]; exact hP) (by rw [e]; exact hD) hS (by rw [e]; exact (lv_sub hl [0, 1, 2, 3] rfl))
        · refine lv_aload_n hx hb d_D_writeLabel_25 rfl (lv_at hl 2 rfl) ?_
          refine va_get (D := (dC, dI)) (ci := 2) (v := .ref (a 12)) (C := R_D) (T := T_D) (N := 9) hx hb hts wu_D hown hK hP 0 rfl rfl 5 (by decide) (hts _ wf_D_34) (fun _ h9 => h9) rfl d_D_writeLabel_26 ?_
          refine lv_iload hx hb d_D_writeLabel_29 (lv_at hl 0 rfl) ?_
          refine lv_lload_n hx hb d_D_writeLabel_31 rfl (lv_at hl 3 rfl) ?_
          refine lv_iload_n hx hb d_D_writeLabel_32 rfl (lv_at hl 1 rfl) ?_
          refine kx_SR (As := [.long bits, .int (nI ((pWrite P bits w i L).2))]) (rest := [.int (nI i), .ref (a 12)]) ⟨hx, hb, hml, hown, hts⟩ (k_D_partDown l dC dI k5 bits (pWrite P bits w i L).2) (va_cwS 2 hts (goodS wm_D_191 wt_D_partDown wi_D wc_D_partDown) rfl rfl rfl (by decide +kernel) ⟨Nat.le_of_ble_eq_true rfl, Nat.le_of_ble_eq_true rfl⟩) ⟨Nat.zero_le _, Nat.zero_le _⟩ hK hP hD [] (by decide) rfl rfl hl.1 rfl (Nat.le_of_ble_eq_true rfl) d_D_writeLabel_33 ?_
          refine W.eq (g2 := F0 m 36 ls [.int (pPart bits (pWrite P bits w i L).2), .int (nI i), .ref (a 12)]) rfl ?_
          refine kx_V (ws2 := (wD a k5 P G J (lPut w i (pPart bits (pWrite P bits w i L).2) (pWrite P bits w i L).1))) (As := [.int (nI i), .int (pPart bits (pWrite P bits w i L).2)]) (rest := []) ⟨hx, hb, hml, hown, hts⟩ (k_L_putDraft l dC dI k5 a ((pWrite P bits w i L).1) w hw (by rw [pWrite_sc P bits w L i]; exact hq) i (by omega) (pPart bits (pWrite P bits w i L).2)) (cwV 2 hts (goodV wm_D_195 wn_L_putDraft ws_L_putDraft wi_L wc_L_putDraft) rfl rfl rfl (by decide +kernel) ⟨Nat.le_of_ble_eq_true rfl, Nat.le_of_ble_eq_true rfl⟩) ⟨Nat.zero_le _, Nat.zero_le _⟩ hK hP hD hS [12, 13, 14, 15, 16, 17, 18, 19, 20, 21, 22, 23] (by decide) rfl 0 rfl rfl rfl rfl rfl rfl hl.1 rfl (Nat.le_of_ble_eq_true rfl) d_D_writeLabel_36 (fun H locs hP hD hS => ?_)
          refine W.eq (g2 := F0 m 39 ls []) rfl ?_
          have e : (pWrite P bits w (i + 1) L) = (lPut w i (pPart bits (pWrite P bits w i L).2) (pWrite P bits w i L).1, (pWrite P bits w i L).2 + 1) := if_neg hd
          refine lv_iinc (v := nI ((pWrite P bits w i L).2 + 1)) (lv' := [(3, .int (nI ((pWrite P bits w i L).2 + 1))), (4, .int (nI i)), (0, .ref (a 0)), (1, .long bits)]) hx hb d_D_writeLabel_39 hl (k := 1) rfl (nI_1 _) (by decide) rfl (fun ls hl => ?_)
          refine lv_iinc (v := nI (i + 1)) (lv' := [(4, .int (nI (i + 1))), (3, .int (nI ((pWrite P bits w i L).2 + 1))), (0, .ref (a 0)), (1, .long bits)]) hx hb d_D_writeLabel_42 hl (k := 1) rfl (nI_1 i) (by decide) rfl (fun ls hl => ?_)
          refine lv_goto (tgt := 5) hx hb d_D_writeLabel_45 (by decide) ?_
          exact ih (i + 1) H locs ls (by omega) (by rw [e]; exact hP) (by rw [e]; exact hD) hS (by rw [e]; exact (lv_sub hl [0, 1, 2, 3] rfl))
  exact lp n 0 s.heap [] ls (by omega) hP hD hS (lv_sub hl [0, 1, 2, 3] rfl)
set_option maxHeartbeats 4000000 in
set_option maxRecDepth 100000 in
theorem k_D_writeLabelAgain (l : Launch) (dC : Nat → ClassId) (dI : Nat → Nat → Nat) (k5 : Nat → ClassId) (a : Nat → Nat) (P : PP) (G J : GG) (L : LL) (bits : Int64) (w : Nat) (hw : w = 0 ∨ w = 1) (hq : L.1 1 = nI w) (n : Nat) (hn : P.1 = nI n) (hn8 : n ≤ 8) : Met l y_D_writeLabelAgain w_D_writeLabelAgain ({ frames := 2, cells := 0, slots := 0, locals := 45 }) (kx_Pc (dC, dI) clA (tyL k5) (wD a k5 P G J L) [.ref (a 0), .long bits]) (kx_Q (dC, dI) clA (wD a k5 P G J L) (wD a k5 P G J ((pAgain bits w n L).1)) none) 0 0 (kx_A (wD a k5 P G J L)) := by
  refine Met.ofW (cc := c_D_writeLabelAgain) (maxL := 5) (ret := none) (by decide) rfl ?_
  intro p e s m args below meth c s₁ B hml hv
  obtain ⟨rfl, hP, hK, hD0⟩ := hv
  have hx := B.exec
  have hb := B.bytes
  have hr := B.returns
  have hts : ∀ w ∈ wsA, w.before _ s = true := fun w h => atoms_spec (ws := w_D_writeLabelAgain) B.pre w (List.mem_cons_of_mem _ h)
  have hown : s.vm.findClass R_D = some m.cls := findClass_of_methodNamed B.named
  have hlocks := B.notSynchronized
  have hD := kx_D.self hD0
  have hS : va_S (kx_A (wD a k5 P G J L)) s.heap s.heap [] := va_S.rf
  have hl := lv_entry ([.ref (a 0), .long bits]) (n := 5) (Nat.le_of_ble_eq_true rfl)
  rw [lg_entry_eq]
  generalize (lg_sl ([.ref (a 0), .long bits]) ++ List.replicate (5 - (lg_sl ([.ref (a 0), .long bits])).length) Slot.unset).toArray = ls at hl ⊢
  have hl : lv_has ls 5 [(0, .ref (a 0)), (1, .long bits)] := hl
  refine lv_iconst (v := 0) hx hb d_D_writeLabelAgain_0 (by decide) ?_
  refine lv_istore_n (lv' := [(3, .int 0), (0, .ref (a 0)), (1, .long bits)]) hx hb d_D_writeLabelAgain_1 rfl hl (by decide) rfl (fun ls hl => ?_)
  refine lv_iconst (v := 0) hx hb d_D_writeLabelAgain_2 (by decide) ?_
  refine lv_istore (lv' := [(4, .int 0), (3, .int 0), (0, .ref (a 0)), (1, .long bits)]) hx hb d_D_writeLabelAgain_3 hl (by decide) rfl (fun ls hl => ?_)
  have lp : ∀ (q9 i : Nat) (H : Heap) (locs : List Loc) (ls : Array Slot), i + q9 = n → va_P (dC, dI) clA (wD a k5 P G J ((pAgain bits w i L).1)) H → va_D (kx_A (wD a k5 P G J L)) (wD a k5 P G J ((pAgain bits w i L).1)) → va_S (kx_A (wD a k5 P G J L)) s.heap H locs → lv_has ls 5 [(4, .int (nI i)), (3, .int (nI ((pAgain bits w i L).2))), (0, .ref (a 0)), (1, .long bits)] → W p l e (headSpec w_D_writeLabelAgain ({ frames := 2, cells := 0, slots := 0, locals := 45 })).room s m ([.ref (a 0), .long bits] : List Value).toArray below meth c H locs 0 0 (MQ below (kx_Q (dC, dI) clA (wD a k5 P G J L) (wD a k5 P G J ((pAgain bits w n L).1)) none) ([.ref (a 0), .long bits] : List Value).toArray s 0 0 (kx_A (wD a k5 P G J L))) (F0 m 5 ls []) := by
    intro q9
    induction q9 with
    | zero =>
      intro i H locs ls hi hP hD hS hl
      have hi : n = i := by omega
      subst hi
      refine lv_iload hx hb d_D_writeLabelAgain_5 (lv_at hl 0 rfl) ?_
      refine lv_aload_n hx hb d_D_writeLabelAgain_7 rfl (lv_at hl 2 rfl) ?_
      refine va_get (D := (dC, dI)) (ci := 2) (v := .int (P.1)) (C := R_D) (T := T_D) (N := 9) hx hb hts wu_D hown hK hP 0 rfl rfl 6 (by decide) (hts _ wf_D_64) (fun _ h9 => h9) rfl d_D_writeLabelAgain_8 ?_
      refine lv_icmp_ge (tgt := 49) hx hb d_D_writeLabelAgain_11 (by decide) (fun hc => ?_) (fun hc => ?_)
      · exact W.vret hx hb hr (fun t ht hW => kx_Qv ht hP (rfl) hS rfl) hS.2.2 d_D_writeLabelAgain_49
      · exact absurd (by rw [hn]; exact nI_le (by omega) (by omega)) hc
    | succ q9 ih =>
      intro i H locs ls hi hP hD hS hl
      refine lv_iload hx hb d_D_writeLabelAgain_5 (lv_at hl 0 rfl) ?_
      refine lv_aload_n hx hb d_D_writeLabelAgain_7 rfl (lv_at hl 2 rfl) ?_
      refine va_get (D := (dC, dI)) (ci := 2) (v := .int (P.1)) (C := R_D) (T := T_D) (N := 9) hx hb hts wu_D hown hK hP 0 rfl rfl 6 (by decide) (hts _ wf_D_64) (fun _ h9 => h9) rfl d_D_writeLabelAgain_8 ?_
      refine lv_icmp_ge (tgt := 49) hx hb d_D_writeLabelAgain_11 (by decide) (fun hc => ?_) (fun hc => ?_)
      · exact absurd hc (by rw [hn]; exact nI_ge (by omega) (by omega))
      · refine lv_aload_n hx hb d_D_writeLabelAgain_14 rfl (lv_at hl 2 rfl) ?_
        refine va_get (D := (dC, dI)) (ci := 2) (v := .ref (a 12)) (C := R_D) (T := T_D) (N := 9) hx hb hts wu_D hown hK hP 0 rfl rfl 5 (by decide) (hts _ wf_D_34) (fun _ h9 => h9) rfl d_D_writeLabelAgain_15 ?_
        refine lv_iload hx hb d_D_writeLabelAgain_18 (lv_at hl 0 rfl) ?_
        refine kx_VR (As := [.int (nI i)]) (rest := []) ⟨hx, hb, hml, hown, hts⟩ (k_L_hasSome l dC dI k5 a ((pAgain bits w i L).1) i (by omega)) (cwV 1 hts (goodV wm_D_198 wn_L_hasSome ws_L_hasSome wi_L wc_L_hasSome) rfl rfl rfl (by decide +kernel) ⟨Nat.le_of_ble_eq_true rfl, Nat.le_of_ble_eq_true rfl⟩) ⟨Nat.zero_le _, Nat.zero_le _⟩ hK hP hD [12, 13, 14, 15, 16, 17, 18, 19, 20, 21, 22, 23] (by decide) rfl 0 rfl rfl rfl hl.1 rfl (Nat.le_of_ble_eq_true rfl) d_D_writeLabelAgain_20 ?_
        refine W.eq (g2 := F0 m 23 ls [.int (bI (lSome i (pAgain bits w i L).1))]) rfl ?_
        refine lv_if_eq (tgt := 43) hx hb d_D_writeLabelAgain_23 (by decide) (fun hd => ?_) (fun hd => ?_)
        · refine lv_iinc (v := nI (i + 1)) (lv' := [(4, .int (nI (i + 1))), (3, .int (nI ((pAgain bits w i L).2))), (0, .ref (a 0)), (1, .long bits)]) hx hb d_D_writeLabelAgain_43 hl (k := 0) rfl (nI_1 i) (by decide) rfl (fun ls hl => ?_)
          refine lv_goto (tgt := 5) hx hb d_D_writeLabelAgain_46 (by decide) ?_
          have e : (pAgain bits w (i + 1) L) = (pAgain bits w i L) := if_neg (by rw [bI_f hd]; exact Bool.false_ne_true)
          exact ih (i + 1) H locs ls (by omega) (by rw [e]; exact hP) (by rw [e]; exact hD) hS (by rw [e]; exact (lv_sub hl [0, 1, 2, 3] rfl))
        · refine lv_aload_n hx hb d_D_writeLabelAgain_26 rfl (lv_at hl 2 rfl) ?_
          refine va_get (D := (dC, dI)) (ci := 2) (v := .ref (a 12)) (C := R_D) (T := T_D) (N := 9) hx hb hts wu_D hown hK hP 0 rfl rfl 5 (by decide) (hts _ wf_D_34) (fun _ h9 => h9) rfl d_D_writeLabelAgain_27 ?_
          refine lv_iload hx hb d_D_writeLabelAgain_30 (lv_at hl 0 rfl) ?_
          refine lv_lload_n hx hb d_D_writeLabelAgain_32 rfl (lv_at hl 3 rfl) ?_
          refine lv_iload_n hx hb d_D_writeLabelAgain_33 rfl (lv_at hl 1 rfl) ?_
          refine kx_SR (As := [.long bits, .int (nI ((pAgain bits w i L).2))]) (rest := [.int (nI i), .ref (a 12)]) ⟨hx, hb, hml, hown, hts⟩ (k_D_partDown l dC dI k5 bits (pAgain bits w i L).2) (va_cwS 2 hts (goodS wm_D_191 wt_D_partDown wi_D wc_D_partDown) rfl rfl rfl (by decide +kernel) ⟨Nat.le_of_ble_eq_true rfl, Nat.le_of_ble_eq_true rfl⟩) ⟨Nat.zero_le _, Nat.zero_le _⟩ hK hP hD [] (by decide) rfl rfl hl.1 rfl (Nat.le_of_ble_eq_true rfl) d_D_writeLabelAgain_34 ?_
          refine W.eq (g2 := F0 m 37 ls [.int (pPart bits (pAgain bits w i L).2), .int (nI i), .ref (a 12)]) rfl ?_
          refine kx_V (ws2 := (wD a k5 P G J (lPut w i (pPart bits (pAgain bits w i L).2) (pAgain bits w i L).1))) (As := [.int (nI i), .int (pPart bits (pAgain bits w i L).2)]) (rest := []) ⟨hx, hb, hml, hown, hts⟩ (k_L_putCounting l dC dI k5 a ((pAgain bits w i L).1) w hw (by rw [pAgain_sc bits w L i]; exact hq) i (by omega) (pPart bits (pAgain bits w i L).2)) (cwV 2 hts (goodV wm_D_201 wn_L_putCounting ws_L_putCounting wi_L wc_L_putCounting) rfl rfl rfl (by decide +kernel) ⟨Nat.le_of_ble_eq_true rfl, Nat.le_of_ble_eq_true rfl⟩) ⟨Nat.zero_le _, Nat.zero_le _⟩ hK hP hD hS [12, 13, 14, 15, 16, 17, 18, 19, 20, 21, 22, 23] (by decide) rfl 0 rfl rfl rfl rfl rfl rfl hl.1 rfl (Nat.le_of_ble_eq_true rfl) d_D_writeLabelAgain_37 (fun H locs hP hD hS => ?_)
          refine W.eq (g2 := F0 m 40 ls []) rfl ?_
          have e : (pAgain bits w (i + 1) L) = (lPut w i (pPart bits (pAgain bits w i L).2) (pAgain bits w i L).1, (pAgain bits w i L).2 + 1) := if_pos (bI_t hd)
          refine lv_iinc (v := nI ((pAgain bits w i L).2 + 1)) (lv' := [(3, .int (nI ((pAgain bits w i L).2 + 1))), (4, .int (nI i)), (0, .ref (a 0)), (1, .long bits)]) hx hb d_D_writeLabelAgain_40 hl (k := 1) rfl (nI_1 _) (by decide) rfl (fun ls hl => ?_)
          refine lv_iinc (v := nI (i + 1)) (lv' := [(4, .int (nI (i + 1))), (3, .int (nI ((pAgain bits w i L).2 + 1))), (0, .ref (a 0)), (1, .long bits)]) hx hb d_D_writeLabelAgain_43 hl (k := 1) rfl (nI_1 i) (by decide) rfl (fun ls hl => ?_)
          refine lv_goto (tgt := 5) hx hb d_D_writeLabelAgain_46 (by decide) ?_
          exact ih (i + 1) H locs ls (by omega) (by rw [e]; exact hP) (by rw [e]; exact hD) hS (by rw [e]; exact (lv_sub hl [0, 1, 2, 3] rfl))
  exact lp n 0 s.heap [] ls (by omega) hP hD hS (lv_sub hl [0, 1, 2, 3] rfl)
set_option maxHeartbeats 4000000 in
set_option maxRecDepth 100000 in
theorem k_D_finishLabel (l : Launch) (dC : Nat → ClassId) (dI : Nat → Nat → Nat) (k5 : Nat → ClassId) (a : Nat → Nat) (P : PP) (G J : GG) (L : LL) (w : Nat) (hw : w = 0 ∨ w = 1) (hq : 1 - L.1 1 = nI w) (n : Nat) (hn : P.1 = nI n) (hn8 : n ≤ 8) : Met l y_D_finishLabel w_D_finishLabel ({ frames := 3, cells := 0, slots := 0, locals := 69 }) (kx_Pc (dC, dI) clA (tyL k5) (wD a k5 P G J L) [.ref (a 0)]) (kx_Q (dC, dI) clA (wD a k5 P G J L) (wD a k5 P G J (pFinish P w n L)) none) 0 0 (kx_A (wD a k5 P G J L)) := by
  refine Met.ofW (cc := c_D_finishLabel) (maxL := 1) (ret := none) (by decide) rfl ?_
  intro p e s m args below meth c s₁ B hml hv
  obtain ⟨rfl, hP, hK, hD0⟩ := hv
  have hx := B.exec
  have hb := B.bytes
  have hr := B.returns
  have hts : ∀ w ∈ wsA, w.before _ s = true := fun w h => atoms_spec (ws := w_D_finishLabel) B.pre w (List.mem_cons_of_mem _ h)
  have hown : s.vm.findClass R_D = some m.cls := findClass_of_methodNamed B.named
  have hlocks := B.notSynchronized
  have hD := kx_D.self hD0
  have hS : va_S (kx_A (wD a k5 P G J L)) s.heap s.heap [] := va_S.rf
  have hl := lv_entry ([.ref (a 0)]) (n := 1) (Nat.le_of_ble_eq_true rfl)
  rw [lg_entry_eq]
  generalize (lg_sl ([.ref (a 0)]) ++ List.replicate (1 - (lg_sl ([.ref (a 0)])).length) Slot.unset).toArray = ls at hl ⊢
  have hl : lv_has ls 1 [(0, .ref (a 0))] := hl
  refine lv_aload_n hx hb d_D_finishLabel_0 rfl (lv_at hl 0 rfl) ?_
  refine lv_ldc2 hx hb hown (hts _ wk_D_156) d_D_finishLabel_1 ?_
  refine kx_VW (w1 := (wD a k5 P G J ((pWrite P 6148914691236517205 w n L).1))) (As := [.long 6148914691236517205]) (rest := []) ⟨hx, hb, hml, hown, hts⟩ (k_D_writeLabel l dC dI k5 a P G J L 6148914691236517205 w hw hq n hn hn8) (cwV 1 hts (goodV wm_D_185 wn_D_writeLabel ws_D_writeLabel wi_D wc_D_writeLabel) rfl rfl rfl (by decide +kernel) ⟨Nat.le_of_ble_eq_true rfl, Nat.le_of_ble_eq_true rfl⟩) ⟨Nat.zero_le _, Nat.zero_le _⟩ hK hP hD hS 0 rfl rfl rfl rfl hl.1 rfl (Nat.le_of_ble_eq_true rfl) d_D_finishLabel_4 (fun H locs hP hD hS => ?_)
  refine W.eq (g2 := F0 m 7 ls []) rfl ?_
  refine lv_aload_n hx hb d_D_finishLabel_7 rfl (lv_at hl 0 rfl) ?_
  refine va_get (D := (dC, dI)) (ci := 2) (v := .ref (a 12)) (C := R_D) (T := T_D) (N := 9) hx hb hts wu_D hown hK hP 0 rfl rfl 5 (by decide) (hts _ wf_D_34) (fun _ h9 => h9) rfl d_D_finishLabel_8 ?_
  refine kx_V (ws2 := (wD a k5 P G J (pFinish P w n L))) (As := []) (rest := []) ⟨hx, hb, hml, hown, hts⟩ (k_L_draftCounts l dC dI k5 a ((pWrite P 6148914691236517205 w n L).1) ) (cwV 0 hts (goodV wm_D_188 wn_L_draftCounts ws_L_draftCounts wi_L wc_L_draftCounts) rfl rfl rfl (by decide +kernel) ⟨Nat.le_of_ble_eq_true rfl, Nat.le_of_ble_eq_true rfl⟩) ⟨Nat.zero_le _, Nat.zero_le _⟩ hK hP hD hS [12, 13, 14, 15, 16, 17, 18, 19, 20, 21, 22, 23] (by decide) rfl 0 rfl rfl rfl rfl rfl rfl hl.1 rfl (Nat.le_of_ble_eq_true rfl) d_D_finishLabel_11 (fun H locs hP hD hS => ?_)
  refine W.eq (g2 := F0 m 14 ls []) rfl ?_
  exact W.vret hx hb hr (fun t ht hW => kx_Qv ht hP (rfl) hS rfl) hS.2.2 d_D_finishLabel_14
set_option maxHeartbeats 4000000 in
set_option maxRecDepth 100000 in
theorem k_D_powerFailsInLabel (l : Launch) (dC : Nat → ClassId) (dI : Nat → Nat → Nat) (k5 : Nat → ClassId) (a : Nat → Nat) (P : PP) (G J : GG) (L : LL) (bits : Int64) (w : Nat) (hw : w = 0 ∨ w = 1) (hq : 1 - L.1 1 = nI w) (n : Nat) (hn : P.1 = nI n) (hn8 : n ≤ 8) : Met l y_D_powerFailsInLabel w_D_powerFailsInLabel ({ frames := 3, cells := 0, slots := 0, locals := 69 }) (kx_Pc (dC, dI) clA (tyL k5) (wD a k5 P G J L) [.ref (a 0), .long bits]) (kx_Q (dC, dI) clA (wD a k5 P G J L) (wD a k5 (pPow 0 P) (gClear G) J ((pWrite P bits w n L).1)) (some (.int (-2)))) 0 0 (kx_A (wD a k5 P G J L)) := by
  refine Met.ofW (cc := c_D_powerFailsInLabel) (maxL := 3) (ret := (some .int)) (by decide) rfl ?_
  intro p e s m args below meth c s₁ B hml hv
  obtain ⟨rfl, hP, hK, hD0⟩ := hv
  have hx := B.exec
  have hb := B.bytes
  have hr := B.returns
  have hts : ∀ w ∈ wsA, w.before _ s = true := fun w h => atoms_spec (ws := w_D_powerFailsInLabel) B.pre w (List.mem_cons_of_mem _ h)
  have hown : s.vm.findClass R_D = some m.cls := findClass_of_methodNamed B.named
  have hlocks := B.notSynchronized
  have hD := kx_D.self hD0
  have hS : va_S (kx_A (wD a k5 P G J L)) s.heap s.heap [] := va_S.rf
  have hl := lv_entry ([.ref (a 0), .long bits]) (n := 3) (Nat.le_of_ble_eq_true rfl)
  rw [lg_entry_eq]
  generalize (lg_sl ([.ref (a 0), .long bits]) ++ List.replicate (3 - (lg_sl ([.ref (a 0), .long bits])).length) Slot.unset).toArray = ls at hl ⊢
  have hl : lv_has ls 3 [(0, .ref (a 0)), (1, .long bits)] := hl
  refine lv_aload_n hx hb d_D_powerFailsInLabel_0 rfl (lv_at hl 0 rfl) ?_
  refine lv_lload_n hx hb d_D_powerFailsInLabel_1 rfl (lv_at hl 1 rfl) ?_
  refine kx_VW (w1 := (wD a k5 P G J ((pWrite P bits w n L).1))) (As := [.long bits]) (rest := []) ⟨hx, hb, hml, hown, hts⟩ (k_D_writeLabel l dC dI k5 a P G J L bits w hw hq n hn hn8) (cwV 1 hts (goodV wm_D_185 wn_D_writeLabel ws_D_writeLabel wi_D wc_D_writeLabel) rfl rfl rfl (by decide +kernel) ⟨Nat.le_of_ble_eq_true rfl, Nat.le_of_ble_eq_true rfl⟩) ⟨Nat.zero_le _, Nat.zero_le _⟩ hK hP hD hS 0 rfl rfl rfl rfl hl.1 rfl (Nat.le_of_ble_eq_true rfl) d_D_powerFailsInLabel_2 (fun H locs hP hD hS => ?_)
  refine W.eq (g2 := F0 m 5 ls []) rfl ?_
  refine lv_aload_n hx hb d_D_powerFailsInLabel_5 rfl (lv_at hl 0 rfl) ?_
  refine kx_VW (w1 := (wD a k5 (pPow 0 P) (gClear G) J ((pWrite P bits w n L).1))) (As := []) (rest := []) ⟨hx, hb, hml, hown, hts⟩ (k_D_powerFails l dC dI k5 a P G J (pWrite P bits w n L).1) (cwV 0 hts (goodV wm_D_87 wn_D_powerFails ws_D_powerFails wi_D wc_D_powerFails) rfl rfl rfl (by decide +kernel) ⟨Nat.le_of_ble_eq_true rfl, Nat.le_of_ble_eq_true rfl⟩) ⟨Nat.zero_le _, Nat.zero_le _⟩ hK hP hD hS 0 rfl rfl rfl rfl hl.1 rfl (Nat.le_of_ble_eq_true rfl) d_D_powerFailsInLabel_6 (fun H locs hP hD hS => ?_)
  refine W.eq (g2 := F0 m 9 ls [.int (-2)]) rfl ?_
  exact W.iret (v := (-2)) hx hb hr (fun t ht hW => kx_Qi (rfl) ht hP (rfl) hS rfl) hS.2.2 d_D_powerFailsInLabel_9
set_option maxHeartbeats 4000000 in
set_option maxRecDepth 100000 in
theorem k_D_takeMarksOfLabel (l : Launch) (dC : Nat → ClassId) (dI : Nat → Nat → Nat) (k5 : Nat → ClassId) (a : Nat → Nat) (P : PP) (G J : GG) (L : LL) (w : Nat) (hw : w = 0 ∨ w = 1) (hq : L.1 1 = nI w) (n : Nat) (hn : P.1 = nI n) (hn8 : n ≤ 8) : Met l y_D_takeMarksOfLabel w_D_takeMarksOfLabel ({ frames := 2, cells := 0, slots := 0, locals := 43 }) (kx_Pc (dC, dI) clA (tyL k5) (wD a k5 P G J L) [.ref (a 0)]) (kx_Q (dC, dI) clA (wD a k5 P G J L) (wD a k5 (pMark (pTake L w (pMk P) n) P) G J L) none) 0 0 (kx_A (wD a k5 P G J L)) := by
  refine Met.ofW (cc := c_D_takeMarksOfLabel) (maxL := 2) (ret := none) (by decide) rfl ?_
  intro p e s m args below meth c s₁ B hml hv
  obtain ⟨rfl, hP, hK, hD0⟩ := hv
  have hx := B.exec
  have hb := B.bytes
  have hr := B.returns
  have hts : ∀ w ∈ wsA, w.before _ s = true := fun w h => atoms_spec (ws := w_D_takeMarksOfLabel) B.pre w (List.mem_cons_of_mem _ h)
  have hown : s.vm.findClass R_D = some m.cls := findClass_of_methodNamed B.named
  have hlocks := B.notSynchronized
  have hD := kx_D.self hD0
  have hS : va_S (kx_A (wD a k5 P G J L)) s.heap s.heap [] := va_S.rf
  have hl := lv_entry ([.ref (a 0)]) (n := 2) (Nat.le_of_ble_eq_true rfl)
  rw [lg_entry_eq]
  generalize (lg_sl ([.ref (a 0)]) ++ List.replicate (2 - (lg_sl ([.ref (a 0)])).length) Slot.unset).toArray = ls at hl ⊢
  have hl : lv_has ls 2 [(0, .ref (a 0))] := hl
  refine lv_iconst (v := 0) hx hb d_D_takeMarksOfLabel_0 (by decide) ?_
  refine lv_istore_n (lv' := [(1, .int 0), (0, .ref (a 0))]) hx hb d_D_takeMarksOfLabel_1 rfl hl (by decide) rfl (fun ls hl => ?_)
  have lp : ∀ (q9 i : Nat) (H : Heap) (locs : List Loc) (ls : Array Slot), i + q9 = n → va_P (dC, dI) clA (wD a k5 (pMark (pTake L w (pMk P) i) P) G J L) H → va_D (kx_A (wD a k5 P G J L)) (wD a k5 (pMark (pTake L w (pMk P) i) P) G J L) → va_S (kx_A (wD a k5 P G J L)) s.heap H locs → lv_has ls 2 [(1, .int (nI i)), (0, .ref (a 0))] → W p l e (headSpec w_D_takeMarksOfLabel ({ frames := 2, cells := 0, slots := 0, locals := 43 })).room s m ([.ref (a 0)] : List Value).toArray below meth c H locs 0 0 (MQ below (kx_Q (dC, dI) clA (wD a k5 P G J L) (wD a k5 (pMark (pTake L w (pMk P) n) P) G J L) none) ([.ref (a 0)] : List Value).toArray s 0 0 (kx_A (wD a k5 P G J L))) (F0 m 2 ls []) := by
    intro q9
    induction q9 with
    | zero =>
      intro i H locs ls hi hP hD hS hl
      have hi : n = i := by omega
      subst hi
      refine lv_iload_n hx hb d_D_takeMarksOfLabel_2 rfl (lv_at hl 0 rfl) ?_
      refine lv_aload_n hx hb d_D_takeMarksOfLabel_3 rfl (lv_at hl 1 rfl) ?_
      refine va_get (D := (dC, dI)) (ci := 2) (v := .int ((pMark (pTake L w (pMk P) n) P).1)) (C := R_D) (T := T_D) (N := 9) hx hb hts wu_D hown hK hP 0 rfl rfl 6 (by decide) (hts _ wf_D_64) (fun _ h9 => h9) rfl d_D_takeMarksOfLabel_4 ?_
      refine lv_icmp_ge (tgt := 55) hx hb d_D_takeMarksOfLabel_7 (by decide) (fun hc => ?_) (fun hc => ?_)
      · exact W.vret hx hb hr (fun t ht hW => kx_Qv ht hP (rfl) hS rfl) hS.2.2 d_D_takeMarksOfLabel_55
      · exact absurd (by show P.1 ≤ _; rw [hn]; exact nI_le (by omega) (by omega)) hc
    | succ q9 ih =>
      intro i H locs ls hi hP hD hS hl
      refine lv_iload_n hx hb d_D_takeMarksOfLabel_2 rfl (lv_at hl 0 rfl) ?_
      refine lv_aload_n hx hb d_D_takeMarksOfLabel_3 rfl (lv_at hl 1 rfl) ?_
      refine va_get (D := (dC, dI)) (ci := 2) (v := .int ((pMark (pTake L w (pMk P) i) P).1)) (C := R_D) (T := T_D) (N := 9) hx hb hts wu_D hown hK hP 0 rfl rfl 6 (by decide) (hts _ wf_D_64) (fun _ h9 => h9) rfl d_D_takeMarksOfLabel_4 ?_
      refine lv_icmp_ge (tgt := 55) hx hb d_D_takeMarksOfLabel_7 (by decide) (fun hc => ?_) (fun hc => ?_)
      · exact absurd hc (by show ¬ P.1 ≤ _; rw [hn]; exact nI_ge (by omega) (by omega))
      · refine lv_aload_n hx hb d_D_takeMarksOfLabel_10 rfl (lv_at hl 1 rfl) ?_
        refine va_get (D := (dC, dI)) (ci := 2) (v := .ref (a 1)) (C := R_D) (T := T_D) (N := 9) hx hb hts wu_D hown hK hP 0 rfl rfl 0 (by decide) (hts _ wf_D_9) (fun _ h9 => h9) rfl d_D_takeMarksOfLabel_11 ?_
        refine lv_iload_n hx hb d_D_takeMarksOfLabel_14 rfl (lv_at hl 0 rfl) ?_
        refine kx_iald hx hb hK hP 1 0 rfl rfl i (rfl) (by omega) (by omega) d_D_takeMarksOfLabel_15 ?_
        refine lv_iconst (v := (-1)) hx hb d_D_takeMarksOfLabel_16 (by decide) ?_
        refine lv_icmp_eq (tgt := 49) hx hb d_D_takeMarksOfLabel_17 (by decide) (fun hd => ?_) (fun hd => ?_)
        · refine lv_iinc (v := nI (i + 1)) (lv' := [(1, .int (nI (i + 1))), (0, .ref (a 0))]) hx hb d_D_takeMarksOfLabel_49 hl (k := 0) rfl (nI_1 i) (by decide) rfl (fun ls hl => ?_)
          refine lv_goto (tgt := 2) hx hb d_D_takeMarksOfLabel_52 (by decide) ?_
          have e : (pTake L w (pMk P) (i + 1)) = (pTake L w (pMk P) i) := if_pos hd
          exact ih (i + 1) H locs ls (by omega) (by rw [e]; exact hP) (by rw [e]; exact hD) hS (lv_sub hl [0, 1] rfl)
        · refine lv_aload_n hx hb d_D_takeMarksOfLabel_20 rfl (lv_at hl 1 rfl) ?_
          refine va_get (D := (dC, dI)) (ci := 2) (v := .ref (a 1)) (C := R_D) (T := T_D) (N := 9) hx hb hts wu_D hown hK hP 0 rfl rfl 0 (by decide) (hts _ wf_D_9) (fun _ h9 => h9) rfl d_D_takeMarksOfLabel_21 ?_
          refine lv_iload_n hx hb d_D_takeMarksOfLabel_24 rfl (lv_at hl 0 rfl) ?_
          refine lv_aload_n hx hb d_D_takeMarksOfLabel_25 rfl (lv_at hl 1 rfl) ?_
          refine va_get (D := (dC, dI)) (ci := 2) (v := .ref (a 12)) (C := R_D) (T := T_D) (N := 9) hx hb hts wu_D hown hK hP 0 rfl rfl 5 (by decide) (hts _ wf_D_34) (fun _ h9 => h9) rfl d_D_takeMarksOfLabel_26 ?_
          refine lv_iload_n hx hb d_D_takeMarksOfLabel_29 rfl (lv_at hl 0 rfl) ?_
          refine kx_VR (As := [.int (nI i)]) (rest := [.int (nI i), .ref (a 1)]) ⟨hx, hb, hml, hown, hts⟩ (k_L_hasSome l dC dI k5 a L i (by omega)) (cwV 1 hts (goodV wm_D_198 wn_L_hasSome ws_L_hasSome wi_L wc_L_hasSome) rfl rfl rfl (by decide +kernel) ⟨Nat.le_of_ble_eq_true rfl, Nat.le_of_ble_eq_true rfl⟩) ⟨Nat.zero_le _, Nat.zero_le _⟩ hK hP hD [12, 13, 14, 15, 16, 17, 18, 19, 20, 21, 22, 23] (by decide) rfl 0 rfl rfl rfl hl.1 rfl (Nat.le_of_ble_eq_true rfl) d_D_takeMarksOfLabel_30 ?_
          refine W.eq (g2 := F0 m 33 ls [.int (bI (lSome i L)), .int (nI i), .ref (a 1)]) rfl ?_
          refine lv_if_eq (tgt := 47) hx hb d_D_takeMarksOfLabel_33 (by decide) (fun he => ?_) (fun he => ?_)
          · refine lv_iconst (v := 0) hx hb d_D_takeMarksOfLabel_47 (by decide) ?_
            refine kx_iast (ws' := (wD a k5 (pMark (upd (pTake L w (pMk P) i) i 0) P) G J L)) hx hb hK hP hD hS 1 0 rfl rfl i (rfl) (by omega) (by omega) rfl d_D_takeMarksOfLabel_48 (fun H locs hP hD hS => ?_)
            refine lv_iinc (v := nI (i + 1)) (lv' := [(1, .int (nI (i + 1))), (0, .ref (a 0))]) hx hb d_D_takeMarksOfLabel_49 hl (k := 0) rfl (nI_1 i) (by decide) rfl (fun ls hl => ?_)
            refine lv_goto (tgt := 2) hx hb d_D_takeMarksOfLabel_52 (by decide) ?_
            have e : (pTake L w (pMk P) (i + 1)) = upd (pTake L w (pMk P) i) i 0 := (if_neg hd).trans (by rw [if_neg (by rw [bI_f he]; exact Bool.false_ne_true)])
            exact ih (i + 1) H locs ls (by omega) (by rw [e]; exact hP) (by rw [e]; exact hD) hS (lv_sub hl [0, 1] rfl)
          · refine lv_aload_n hx hb d_D_takeMarksOfLabel_36 rfl (lv_at hl 1 rfl) ?_
            refine va_get (D := (dC, dI)) (ci := 2) (v := .ref (a 12)) (C := R_D) (T := T_D) (N := 9) hx hb hts wu_D hown hK hP 0 rfl rfl 5 (by decide) (hts _ wf_D_34) (fun _ h9 => h9) rfl d_D_takeMarksOfLabel_37 ?_
            refine lv_iload_n hx hb d_D_takeMarksOfLabel_40 rfl (lv_at hl 0 rfl) ?_
            refine kx_VR (As := [.int (nI i)]) (rest := [.int (nI i), .ref (a 1)]) ⟨hx, hb, hml, hown, hts⟩ (k_L_toldMark l dC dI k5 a L w hw hq i (by omega)) (cwV 1 hts (goodV wm_D_204 wn_L_toldMark ws_L_toldMark wi_L wc_L_toldMark) rfl rfl rfl (by decide +kernel) ⟨Nat.le_of_ble_eq_true rfl, Nat.le_of_ble_eq_true rfl⟩) ⟨Nat.zero_le _, Nat.zero_le _⟩ hK hP hD [12, 13, 14, 15, 16, 17, 18, 19, 20, 21, 22, 23] (by decide) rfl 0 rfl rfl rfl hl.1 rfl (Nat.le_of_ble_eq_true rfl) d_D_takeMarksOfLabel_41 ?_
            refine W.eq (g2 := F0 m 44 ls [.int (L.2 (4 + w) i), .int (nI i), .ref (a 1)]) rfl ?_
            refine lv_goto (tgt := 48) hx hb d_D_takeMarksOfLabel_44 (by decide) ?_
            refine kx_iast (ws' := (wD a k5 (pMark (upd (pTake L w (pMk P) i) i (L.2 (4 + w) i)) P) G J L)) hx hb hK hP hD hS 1 0 rfl rfl i (rfl) (by omega) (by omega) rfl d_D_takeMarksOfLabel_48 (fun H locs hP hD hS => ?_)
            refine lv_iinc (v := nI (i + 1)) (lv' := [(1, .int (nI (i + 1))), (0, .ref (a 0))]) hx hb d_D_takeMarksOfLabel_49 hl (k := 0) rfl (nI_1 i) (by decide) rfl (fun ls hl => ?_)
            refine lv_goto (tgt := 2) hx hb d_D_takeMarksOfLabel_52 (by decide) ?_
            have e : (pTake L w (pMk P) (i + 1)) = upd (pTake L w (pMk P) i) i (L.2 (4 + w) i) := (if_neg hd).trans (by rw [if_pos (bI_t he)])
            exact ih (i + 1) H locs ls (by omega) (by rw [e]; exact hP) (by rw [e]; exact hD) hS (lv_sub hl [0, 1] rfl)
  exact lp n 0 s.heap [] ls (by omega) hP hD hS (lv_sub hl [0, 1] rfl)
set_option maxHeartbeats 4000000 in
set_option maxRecDepth 100000 in
theorem k_D_canBeMissed (l : Launch) (dC : Nat → ClassId) (dI : Nat → Nat → Nat) (k5 : Nat → ClassId) (a : Nat → Nat) (P : PP) (G J : GG) (L : LL) (d : Nat) (hd : d < 8) (n : Nat) (hn : P.1 = nI n) (hn8 : n ≤ 8) (r : Nat) (er : P.2.1 = nI r) (hr2 : 2 ≤ r) (hr40 : r ≤ 40) : Met l y_D_canBeMissed w_D_canBeMissed ({ frames := 3, cells := 0, slots := 0, locals := 67 }) (kx_Pc (dC, dI) clA (tyL k5) (wD a k5 P G J L) [.ref (a 0), .int (nI d)]) (kx_R (some (.int (bI (pMiss P d n (r - 2)))))) 0 0 (fun _ => False) := by
  refine Met.ofW (cc := c_D_canBeMissed) (maxL := 3) (ret := (some .boolean)) (by decide) rfl ?_
  intro p e s m args below meth c s₁ B hml hv
  obtain ⟨rfl, hP, hK, hD0⟩ := hv
  have hx := B.exec
  have hb := B.bytes
  have hr := B.returns
  have hts : ∀ w ∈ wsA, w.before _ s = true := fun w h => atoms_spec (ws := w_D_canBeMissed) B.pre w (List.mem_cons_of_mem _ h)
  have hown : s.vm.findClass R_D = some m.cls := findClass_of_methodNamed B.named
  have hlocks := B.notSynchronized
  have hD := kx_D.self hD0
  have hS : va_S (kx_A (wD a k5 P G J L)) s.heap s.heap [] := va_S.rf
  have hl := lv_entry ([.ref (a 0), .int (nI d)]) (n := 3) (Nat.le_of_ble_eq_true rfl)
  rw [lg_entry_eq]
  generalize (lg_sl ([.ref (a 0), .int (nI d)]) ++ List.replicate (3 - (lg_sl ([.ref (a 0), .int (nI d)])).length) Slot.unset).toArray = ls at hl ⊢
  have hl : lv_has ls 3 [(0, .ref (a 0)), (1, .int (nI d))] := hl
  refine lv_iconst (v := 2) hx hb d_D_canBeMissed_0 (by decide) ?_
  refine lv_istore_n (lv' := [(2, .int 2), (0, .ref (a 0)), (1, .int (nI d))]) hx hb d_D_canBeMissed_1 rfl hl (by decide) rfl (fun ls hl => ?_)
  have lp : ∀ (q9 i : Nat) (ls : Array Slot), i + q9 = r - 2 → (pMiss P d n i = true) → lv_has ls 3 [(2, .int (nI (2 + i))), (0, .ref (a 0)), (1, .int (nI d))] → W p l e (headSpec w_D_canBeMissed ({ frames := 3, cells := 0, slots := 0, locals := 67 })).room s m ([.ref (a 0), .int (nI d)] : List Value).toArray below meth c s.heap [] 0 0 (MQ below (kx_R (some (.int (bI (pMiss P d n (r - 2)))))) ([.ref (a 0), .int (nI d)] : List Value).toArray s 0 0 (fun _ => False)) (F0 m 2 ls []) := by
    intro q9
    induction q9 with
    | zero =>
      intro i ls hi hm hl
      have hi : r - 2 = i := by omega
      subst hi
      refine lv_iload_n hx hb d_D_canBeMissed_2 rfl (lv_at hl 0 rfl) ?_
      refine lv_aload_n hx hb d_D_canBeMissed_3 rfl (lv_at hl 1 rfl) ?_
      refine va_get (D := (dC, dI)) (ci := 2) (v := .int (P.2.1)) (C := R_D) (T := T_D) (N := 9) hx hb hts wu_D hown hK hP 0 rfl rfl 7 (by decide) (hts _ wf_D_170) (fun _ h9 => h9) rfl d_D_canBeMissed_4 ?_
      refine lv_icmp_ge (tgt := 36) hx hb d_D_canBeMissed_7 (by decide) (fun hc => ?_) (fun hc => ?_)
      · refine lv_iconst (v := 1) hx hb d_D_canBeMissed_36 (by decide) ?_
        exact W.zret (v := 1) hx hb hr rfl (fun t ht hW => kx_Ri (by rw [hm]; rfl) ht) (fun _ h => absurd h List.not_mem_nil) d_D_canBeMissed_37
      · exact absurd (by rw [er]; exact nI_le (by omega) (by omega)) hc
    | succ q9 ih =>
      intro i ls hi hm hl
      refine lv_iload_n hx hb d_D_canBeMissed_2 rfl (lv_at hl 0 rfl) ?_
      refine lv_aload_n hx hb d_D_canBeMissed_3 rfl (lv_at hl 1 rfl) ?_
      refine va_get (D := (dC, dI)) (ci := 2) (v := .int (P.2.1)) (C := R_D) (T := T_D) (N := 9) hx hb hts wu_D hown hK hP 0 rfl rfl 7 (by decide) (hts _ wf_D_170) (fun _ h9 => h9) rfl d_D_canBeMissed_4 ?_
      refine lv_icmp_ge (tgt := 36) hx hb d_D_canBeMissed_7 (by decide) (fun hc => ?_) (fun hc => ?_)
      · exact absurd hc (by rw [er]; exact nI_ge (by omega) (by omega))
      · refine lv_aload_n hx hb d_D_canBeMissed_10 rfl (lv_at hl 1 rfl) ?_
        refine lv_iload_n hx hb d_D_canBeMissed_11 rfl (lv_at hl 2 rfl) ?_
        refine lv_iload_n hx hb d_D_canBeMissed_12 rfl (lv_at hl 0 rfl) ?_
        refine kx_VRW (As := [.int (nI d), .int (nI (2 + i))]) (rest := []) ⟨hx, hb, hml, hown, hts⟩ (k_D_isGone l dC dI k5 a P G J L d hd (nI (2 + i))) (cwV 2 hts (goodV wm_D_132 wn_D_isGone ws_D_isGone wi_D wc_D_isGone) rfl rfl rfl (by decide +kernel) ⟨Nat.le_of_ble_eq_true rfl, Nat.le_of_ble_eq_true rfl⟩) ⟨Nat.zero_le _, Nat.zero_le _⟩ hK hP hD 0 rfl rfl rfl hl.1 rfl (Nat.le_of_ble_eq_true rfl) d_D_canBeMissed_13 ?_
        refine W.eq (g2 := F0 m 16 ls [.int (bI (pGone P d (nI (2 + i))))]) rfl ?_
        refine lv_if_ne (tgt := 30) hx hb d_D_canBeMissed_16 (by decide) (fun hg => ?_) (fun hg => ?_)
        · refine lv_iinc (v := nI (2 + (i + 1))) (lv' := [(2, .int (nI (2 + (i + 1)))), (0, .ref (a 0)), (1, .int (nI d))]) hx hb d_D_canBeMissed_30 hl (k := 0) rfl (nI_1 (2 + i)) (by decide) rfl (fun ls hl => ?_)
          refine lv_goto (tgt := 2) hx hb d_D_canBeMissed_33 (by decide) ?_
          exact ih (i + 1) ls (by omega) (by rw [pMiss, hm, bI_t hg]; rfl) (lv_sub hl [0, 1, 2] rfl)
        · refine lv_aload_n hx hb d_D_canBeMissed_19 rfl (lv_at hl 1 rfl) ?_
          refine lv_iload_n hx hb d_D_canBeMissed_20 rfl (lv_at hl 0 rfl) ?_
          refine kx_VRW (As := [.int (nI (2 + i))]) (rest := []) ⟨hx, hb, hml, hown, hts⟩ (k_D_goneIn l dC dI k5 a P G J L (nI (2 + i)) n hn hn8) (cwV 1 hts (goodV wm_D_135 wn_D_goneIn ws_D_goneIn wi_D wc_D_goneIn) rfl rfl rfl (by decide +kernel) ⟨Nat.le_of_ble_eq_true rfl, Nat.le_of_ble_eq_true rfl⟩) ⟨Nat.zero_le _, Nat.zero_le _⟩ hK hP hD 0 rfl rfl rfl hl.1 rfl (Nat.le_of_ble_eq_true rfl) d_D_canBeMissed_21 ?_
          refine W.eq (g2 := F0 m 24 ls [.int (nI (pGoneIn P (nI (2 + i)) n))]) rfl ?_
          refine lv_iconst (v := 2) hx hb d_D_canBeMissed_24 (by decide) ?_
          refine lv_icmp_lt (tgt := 30) hx hb d_D_canBeMissed_25 (by decide) (fun hh => ?_) (fun hh => ?_)
          · refine lv_iinc (v := nI (2 + (i + 1))) (lv' := [(2, .int (nI (2 + (i + 1)))), (0, .ref (a 0)), (1, .int (nI d))]) hx hb d_D_canBeMissed_30 hl (k := 0) rfl (nI_1 (2 + i)) (by decide) rfl (fun ls hl => ?_)
            refine lv_goto (tgt := 2) hx hb d_D_canBeMissed_33 (by decide) ?_
            exact ih (i + 1) ls (by omega) (by rw [pMiss, hm, bI_f hg, decide_eq_true hh]; rfl) (lv_sub hl [0, 1, 2] rfl)
          · refine lv_iconst (v := 0) hx hb d_D_canBeMissed_28 (by decide) ?_
            exact W.zret (v := 0) hx hb hr rfl (fun t ht hW => kx_Ri (by rw [pMiss_f (m := i + 1) (by rw [pMiss, hm, bI_f hg, decide_eq_false hh]; rfl) (r - 2) (by omega)]; rfl) ht) (fun _ h => absurd h List.not_mem_nil) d_D_canBeMissed_29
  exact lp (r - 2) 0 ls (by omega) rfl (lv_sub hl [0, 1, 2] rfl)
set_option maxHeartbeats 4000000 in
set_option maxRecDepth 100000 in
theorem k_D_unitsOfJournal (l : Launch) (dC : Nat → ClassId) (dI : Nat → Nat → Nat) (k5 : Nat → ClassId) (a : Nat → Nat) (P : PP) (G J : GG) (L : LL) (n : Nat) (hn : P.1 = nI n) (hn8 : n ≤ 8) (hn4 : 4 ≤ n) (t : Nat) (ht : t ≤ 24) (et : J.1 = nI t) (hbl : ∀ j, j < t → J.2.2.1 j = nI (jBlk J j) ∧ jBlk J j < 204) (hrw : ∀ j, j < t → J.2.2.2.1 j = nI (jRow J j) ∧ jRow J j < 40) : Met l y_D_unitsOfJournal w_D_unitsOfJournal ({ frames := 2, cells := 0, slots := 0, locals := 43 }) (kx_Pc (dC, dI) clA (tyL k5) (wD a k5 P G J L) [.ref (a 0)]) (kx_R (some (.int (jU P J n t t)))) 0 0 (fun _ => False) := by
  refine Met.ofW (cc := c_D_unitsOfJournal) (maxL := 5) (ret := (some .int)) (by decide) rfl ?_
  intro p e s m args below meth c s₁ B hml hv
  obtain ⟨rfl, hP, hK, hD0⟩ := hv
  have hx := B.exec
  have hb := B.bytes
  have hr := B.returns
  have hts : ∀ w ∈ wsA, w.before _ s = true := fun w h => atoms_spec (ws := w_D_unitsOfJournal) B.pre w (List.mem_cons_of_mem _ h)
  have hown : s.vm.findClass R_D = some m.cls := findClass_of_methodNamed B.named
  have hlocks := B.notSynchronized
  have hD := kx_D.self hD0
  have hS : va_S (kx_A (wD a k5 P G J L)) s.heap s.heap [] := va_S.rf
  have hl := lv_entry ([.ref (a 0)]) (n := 5) (Nat.le_of_ble_eq_true rfl)
  rw [lg_entry_eq]
  generalize (lg_sl ([.ref (a 0)]) ++ List.replicate (5 - (lg_sl ([.ref (a 0)])).length) Slot.unset).toArray = ls at hl ⊢
  have hl : lv_has ls 5 [(0, .ref (a 0))] := hl
  refine lv_iconst (v := 0) hx hb d_D_unitsOfJournal_0 (by decide) ?_
  refine lv_istore_n (lv' := [(1, .int 0), (0, .ref (a 0))]) hx hb d_D_unitsOfJournal_1 rfl hl (by decide) rfl (fun ls hl => ?_)
  refine lv_iconst (v := 0) hx hb d_D_unitsOfJournal_2 (by decide) ?_
  refine lv_istore_n (lv' := [(2, .int 0), (1, .int 0), (0, .ref (a 0))]) hx hb d_D_unitsOfJournal_3 rfl hl (by decide) rfl (fun ls hl => ?_)
  have lp : ∀ (q9 i : Nat) (ls : Array Slot), i + q9 = t → lv_has ls 5 [(2, .int (nI i)), (1, .int (jU P J n t i)), (0, .ref (a 0))] → W p l e (headSpec w_D_unitsOfJournal ({ frames := 2, cells := 0, slots := 0, locals := 43 })).room s m ([.ref (a 0)] : List Value).toArray below meth c s.heap [] 0 0 (MQ below (kx_R (some (.int (jU P J n t t)))) ([.ref (a 0)] : List Value).toArray s 0 0 (fun _ => False)) (F0 m 4 ls []) := by
    intro q9
    induction q9 with
    | zero =>
      intro i ls hi hl
      have hi : t = i := by omega
      subst hi
      refine lv_iload_n hx hb d_D_unitsOfJournal_4 rfl (lv_at hl 0 rfl) ?_
      refine lv_aload_n hx hb d_D_unitsOfJournal_5 rfl (lv_at hl 2 rfl) ?_
      refine va_get (D := (dC, dI)) (ci := 2) (v := .ref (a 8)) (C := R_D) (T := T_D) (N := 9) hx hb hts wu_D hown hK hP 0 rfl rfl 4 (by decide) (hts _ wf_D_28) (fun _ h9 => h9) rfl d_D_unitsOfJournal_6 ?_
      refine kx_VR (As := []) (rest := [.int (nI t)]) ⟨hx, hb, hml, hown, hts⟩ (k_G_size l dC dI k5 (a 8) (a 9) (a 10) (a 11) J.1 J.2.1 J.2.2.1 J.2.2.2.1 J.2.2.2.2 ) (cwV 0 hts (goodV wm_D_112 wn_G_size ws_G_size wi_G wc_G_size) rfl rfl rfl (by decide +kernel) ⟨Nat.le_of_ble_eq_true rfl, Nat.le_of_ble_eq_true rfl⟩) ⟨Nat.zero_le _, Nat.zero_le _⟩ hK hP hD [8, 9, 10, 11] (by decide) rfl 0 rfl rfl rfl hl.1 rfl (Nat.le_of_ble_eq_true rfl) d_D_unitsOfJournal_9 ?_
      refine W.eq (g2 := F0 m 12 ls [.int J.1, .int (nI t)]) rfl ?_
      refine lv_icmp_ge (tgt := 86) hx hb d_D_unitsOfJournal_12 (by decide) (fun hc => ?_) (fun hc => ?_)
      · refine lv_iload_n hx hb d_D_unitsOfJournal_86 rfl (lv_at hl 1 rfl) ?_
        exact W.iret (v := (jU P J n t t)) hx hb hr (fun t ht hW => kx_Ri (rfl) ht) (fun _ h => absurd h List.not_mem_nil) d_D_unitsOfJournal_87
      · exact absurd (by rw [et]; exact nI_le (by omega) (by omega)) hc
    | succ q9 ih =>
      intro i ls hi hl
      refine lv_iload_n hx hb d_D_unitsOfJournal_4 rfl (lv_at hl 0 rfl) ?_
      refine lv_aload_n hx hb d_D_unitsOfJournal_5 rfl (lv_at hl 2 rfl) ?_
      refine va_get (D := (dC, dI)) (ci := 2) (v := .ref (a 8)) (C := R_D) (T := T_D) (N := 9) hx hb hts wu_D hown hK hP 0 rfl rfl 4 (by decide) (hts _ wf_D_28) (fun _ h9 => h9) rfl d_D_unitsOfJournal_6 ?_
      refine kx_VR (As := []) (rest := [.int (nI i)]) ⟨hx, hb, hml, hown, hts⟩ (k_G_size l dC dI k5 (a 8) (a 9) (a 10) (a 11) J.1 J.2.1 J.2.2.1 J.2.2.2.1 J.2.2.2.2 ) (cwV 0 hts (goodV wm_D_112 wn_G_size ws_G_size wi_G wc_G_size) rfl rfl rfl (by decide +kernel) ⟨Nat.le_of_ble_eq_true rfl, Nat.le_of_ble_eq_true rfl⟩) ⟨Nat.zero_le _, Nat.zero_le _⟩ hK hP hD [8, 9, 10, 11] (by decide) rfl 0 rfl rfl rfl hl.1 rfl (Nat.le_of_ble_eq_true rfl) d_D_unitsOfJournal_9 ?_
      refine W.eq (g2 := F0 m 12 ls [.int J.1, .int (nI i)]) rfl ?_
      refine lv_icmp_ge (tgt := 86) hx hb d_D_unitsOfJournal_12 (by decide) (fun hc => ?_) (fun hc => ?_)
      · exact absurd hc (by rw [et]; exact nI_ge (by omega) (by omega))
      · obtain ⟨hb1, hb2⟩ := hbl i (by omega)
        obtain ⟨hr1, hr2⟩ := hrw i (by omega)
        refine lv_aload_n hx hb d_D_unitsOfJournal_15 rfl (lv_at hl 2 rfl) ?_
        refine va_get (D := (dC, dI)) (ci := 2) (v := .ref (a 8)) (C := R_D) (T := T_D) (N := 9) hx hb hts wu_D hown hK hP 0 rfl rfl 4 (by decide) (hts _ wf_D_28) (fun _ h9 => h9) rfl d_D_unitsOfJournal_16 ?_
        refine lv_iload_n hx hb d_D_unitsOfJournal_19 rfl (lv_at hl 0 rfl) ?_
        refine kx_VR (As := [.int (nI i)]) (rest := []) ⟨hx, hb, hml, hown, hts⟩ (k_G_rowAt l dC dI k5 (a 8) (a 9) (a 10) (a 11) J.1 J.2.1 J.2.2.1 J.2.2.2.1 J.2.2.2.2 (nI i) i (by omega) rfl) (cwV 1 hts (goodV wm_D_207 wn_G_rowAt ws_G_rowAt wi_G wc_G_rowAt) rfl rfl rfl (by decide +kernel) ⟨Nat.le_of_ble_eq_true rfl, Nat.le_of_ble_eq_true rfl⟩) ⟨Nat.zero_le _, Nat.zero_le _⟩ hK hP hD [8, 9, 10, 11] (by decide) rfl 0 rfl rfl rfl hl.1 rfl (Nat.le_of_ble_eq_true rfl) d_D_unitsOfJournal_20 ?_
        refine W.eq (g2 := F0 m 23 ls [.int (J.2.2.2.1 i)]) rfl ?_
        rw [hr1]
        refine lv_istore_n (lv' := [(3, .int (nI (jRow J i))), (2, .int (nI i)), (1, .int (jU P J n t i)), (0, .ref (a 0))]) hx hb d_D_unitsOfJournal_23 rfl hl (by decide) rfl (fun ls hl => ?_)
        refine lv_aload_n hx hb d_D_unitsOfJournal_24 rfl (lv_at hl 3 rfl) ?_
        refine va_get (D := (dC, dI)) (ci := 2) (v := .ref (a 8)) (C := R_D) (T := T_D) (N := 9) hx hb hts wu_D hown hK hP 0 rfl rfl 4 (by decide) (hts _ wf_D_28) (fun _ h9 => h9) rfl d_D_unitsOfJournal_25 ?_
        refine lv_iload_n hx hb d_D_unitsOfJournal_28 rfl (lv_at hl 1 rfl) ?_
        refine kx_VR (As := [.int (nI i)]) (rest := []) ⟨hx, hb, hml, hown, hts⟩ (k_G_blockAt l dC dI k5 (a 8) (a 9) (a 10) (a 11) J.1 J.2.1 J.2.2.1 J.2.2.2.1 J.2.2.2.2 (nI i) i (by omega) rfl) (cwV 1 hts (goodV wm_D_210 wn_G_blockAt ws_G_blockAt wi_G wc_G_blockAt) rfl rfl rfl (by decide +kernel) ⟨Nat.le_of_ble_eq_true rfl, Nat.le_of_ble_eq_true rfl⟩) ⟨Nat.zero_le _, Nat.zero_le _⟩ hK hP hD [8, 9, 10, 11] (by decide) rfl 0 rfl rfl rfl hl.1 rfl (Nat.le_of_ble_eq_true rfl) d_D_unitsOfJournal_29 ?_
        refine W.eq (g2 := F0 m 32 ls [.int (J.2.2.1 i)]) rfl ?_
        rw [hb1]
        refine lv_aload_n hx hb d_D_unitsOfJournal_32 rfl (lv_at hl 3 rfl) ?_
        refine va_get (D := (dC, dI)) (ci := 2) (v := .int (P.1)) (C := R_D) (T := T_D) (N := 9) hx hb hts wu_D hown hK hP 0 rfl rfl 6 (by decide) (hts _ wf_D_64) (fun _ h9 => h9) rfl d_D_unitsOfJournal_33 ?_
        refine lv_iconst (v := 2) hx hb d_D_unitsOfJournal_36 (by decide) ?_
        refine lv_isub hx hb d_D_unitsOfJournal_37 ?_
        refine lv_irem hx hb d_D_unitsOfJournal_38 (by rw [hn, show (nI n - 2) = nI (n - 2) from pk_sub (a := n) (b := 2) (by omega)]; exact nI_ne0 (by omega) (by omega)) ?_
        rw [show (nI (jBlk J i) - nI (jBlk J i) / (P.1 - 2) * (P.1 - 2)) = nI (jBlk J i % (n - 2)) from by rw [hn, show (nI n - 2) = nI (n - 2) from pk_sub (a := n) (b := 2) (by omega)]; exact pk_rem (by omega) (by omega) (by omega)]
        have hmd : jBlk J i % (n - 2) < n - 2 := Nat.mod_lt _ (by omega)
        refine lv_istore (lv' := [(4, .int (nI (jBlk J i % (n - 2)))), (3, .int (nI (jRow J i))), (2, .int (nI i)), (1, .int (jU P J n t i)), (0, .ref (a 0))]) hx hb d_D_unitsOfJournal_39 hl (by decide) rfl (fun ls hl => ?_)
        refine lv_iload_n hx hb d_D_unitsOfJournal_41 rfl (lv_at hl 3 rfl) ?_
        refine lv_aload_n hx hb d_D_unitsOfJournal_42 rfl (lv_at hl 4 rfl) ?_
        refine lv_iload_n hx hb d_D_unitsOfJournal_43 rfl (lv_at hl 1 rfl) ?_
        refine lv_iconst (v := 2) hx hb d_D_unitsOfJournal_44 (by decide) ?_
        refine lv_iload hx hb d_D_unitsOfJournal_45 (lv_at hl 0 rfl) ?_
        refine lv_iadd hx hb d_D_unitsOfJournal_47 ?_
        rw [show (2 + nI (jBlk J i % (n - 2))) = nI (2 + jBlk J i % (n - 2)) from nI_add 2 _]
        refine kx_VRW (As := [.int (nI (jRow J i)), .int (nI (2 + jBlk J i % (n - 2)))]) (rest := [.int (jU P J n t i)]) ⟨hx, hb, hml, hown, hts⟩ (k_D_takesUnit l dC dI k5 a P G J L (nI (jRow J i)) (nI (2 + jBlk J i % (n - 2))) ((jRow J i + (2 + jBlk J i % (n - 2))) % n) (by have := Nat.mod_lt (jRow J i + (2 + jBlk J i % (n - 2))) (show 0 < n by omega); omega) (by rw [hn]; exact nI_ne0 (by omega) (by omega)) (by rw [hn, show (nI (jRow J i) + (nI (2 + jBlk J i % (n - 2)))) = nI (jRow J i + (2 + jBlk J i % (n - 2))) from nI_add _ _]; exact pk_rem (by omega) (by omega) (by omega))) (cwV 2 hts (goodV wm_D_213 wn_D_takesUnit ws_D_takesUnit wi_D wc_D_takesUnit) rfl rfl rfl (by decide +kernel) ⟨Nat.le_of_ble_eq_true rfl, Nat.le_of_ble_eq_true rfl⟩) ⟨Nat.zero_le _, Nat.zero_le _⟩ hK hP hD 0 rfl rfl rfl hl.1 rfl (Nat.le_of_ble_eq_true rfl) d_D_unitsOfJournal_48 ?_
        refine W.eq (g2 := F0 m 51 ls [.int (tU P n (jRow J i) (2 + jBlk J i % (n - 2))), .int (jU P J n t i)]) rfl ?_
        refine lv_iadd hx hb d_D_unitsOfJournal_51 ?_
        refine lv_istore_n (lv' := [(1, .int ((jU P J n t i) + (tU P n (jRow J i) (2 + jBlk J i % (n - 2))))), (4, .int (nI (jBlk J i % (n - 2)))), (3, .int (nI (jRow J i))), (2, .int (nI i)), (0, .ref (a 0))]) hx hb d_D_unitsOfJournal_52 rfl hl (by decide) rfl (fun ls hl => ?_)
        refine lv_aload_n hx hb d_D_unitsOfJournal_53 rfl (lv_at hl 4 rfl) ?_
        refine va_get (D := (dC, dI)) (ci := 2) (v := .ref (a 8)) (C := R_D) (T := T_D) (N := 9) hx hb hts wu_D hown hK hP 0 rfl rfl 4 (by decide) (hts _ wf_D_28) (fun _ h9 => h9) rfl d_D_unitsOfJournal_54 ?_
        refine lv_iload_n hx hb d_D_unitsOfJournal_57 rfl (lv_at hl 3 rfl) ?_
        refine kx_VR (As := [.int (nI i)]) (rest := []) ⟨hx, hb, hml, hown, hts⟩ (k_G_isFirstOfRow l dC dI k5 (a 8) (a 9) (a 10) (a 11) J.1 J.2.1 J.2.2.1 J.2.2.2.1 J.2.2.2.2 t i ht (by omega) et) (cwV 1 hts (goodV wm_D_216 wn_G_isFirstOfRow ws_G_isFirstOfRow wi_G wc_G_isFirstOfRow) rfl rfl rfl (by decide +kernel) ⟨Nat.le_of_ble_eq_true rfl, Nat.le_of_ble_eq_true rfl⟩) ⟨Nat.zero_le _, Nat.zero_le _⟩ hK hP hD [8, 9, 10, 11] (by decide) rfl 0 rfl rfl rfl hl.1 rfl (Nat.le_of_ble_eq_true rfl) d_D_unitsOfJournal_58 ?_
        refine W.eq (g2 := F0 m 61 ls [.int (bI (decide (oI (gFind J.2.2.2.1 (J.2.2.2.1 i) t) = nI i)))]) rfl ?_
        refine lv_if_eq (tgt := 80) hx hb d_D_unitsOfJournal_61 (by decide) (fun hf => ?_) (fun hf => ?_)
        · refine lv_iinc (v := nI (i + 1)) (lv' := [(2, .int (nI (i + 1))), (1, .int ((jU P J n t i) + (tU P n (jRow J i) (2 + jBlk J i % (n - 2))))), (4, .int (nI (jBlk J i % (n - 2)))), (3, .int (nI (jRow J i))), (0, .ref (a 0))]) hx hb d_D_unitsOfJournal_80 hl (k := 3) rfl (nI_1 i) (by decide) rfl (fun ls hl => ?_)
          refine lv_goto (tgt := 4) hx hb d_D_unitsOfJournal_83 (by decide) ?_
          exact ih (i + 1) ls (by omega) (by rw [show jU P J n t (i + 1) = jU P J n t i + tU P n (jRow J i) (2 + jBlk J i % (n - 2)) from if_neg (of_decide_eq_false (bI_f hf))]; exact (lv_sub hl [0, 1, 4] rfl))
        · refine lv_iload_n hx hb d_D_unitsOfJournal_64 rfl (lv_at hl 0 rfl) ?_
          refine lv_aload_n hx hb d_D_unitsOfJournal_65 rfl (lv_at hl 4 rfl) ?_
          refine lv_iload_n hx hb d_D_unitsOfJournal_66 rfl (lv_at hl 2 rfl) ?_
          refine lv_iconst (v := 0) hx hb d_D_unitsOfJournal_67 (by decide) ?_
          refine kx_VRW (As := [.int (nI (jRow J i)), .int 0]) (rest := [.int ((jU P J n t i) + (tU P n (jRow J i) (2 + jBlk J i % (n - 2))))]) ⟨hx, hb, hml, hown, hts⟩ (k_D_takesUnit l dC dI k5 a P G J L (nI (jRow J i)) 0 ((jRow J i + 0) % n) (by have := Nat.mod_lt (jRow J i + 0) (show 0 < n by omega); omega) (by rw [hn]; exact nI_ne0 (by omega) (by omega)) (by rw [hn, show (nI (jRow J i) + 0) = nI (jRow J i + 0) from nI_add _ _]; exact pk_rem (by omega) (by omega) (by omega))) (cwV 2 hts (goodV wm_D_213 wn_D_takesUnit ws_D_takesUnit wi_D wc_D_takesUnit) rfl rfl rfl (by decide +kernel) ⟨Nat.le_of_ble_eq_true rfl, Nat.le_of_ble_eq_true rfl⟩) ⟨Nat.zero_le _, Nat.zero_le _⟩ hK hP hD 0 rfl rfl rfl hl.1 rfl (Nat.le_of_ble_eq_true rfl) d_D_unitsOfJournal_68 ?_
          refine W.eq (g2 := F0 m 71 ls [.int (tU P n (jRow J i) 0), .int ((jU P J n t i) + (tU P n (jRow J i) (2 + jBlk J i % (n - 2))))]) rfl ?_
          refine lv_aload_n hx hb d_D_unitsOfJournal_71 rfl (lv_at hl 4 rfl) ?_
          refine lv_iload_n hx hb d_D_unitsOfJournal_72 rfl (lv_at hl 2 rfl) ?_
          refine lv_iconst (v := 1) hx hb d_D_unitsOfJournal_73 (by decide) ?_
          refine kx_VRW (As := [.int (nI (jRow J i)), .int 1]) (rest := [.int (tU P n (jRow J i) 0), .int ((jU P J n t i) + (tU P n (jRow J i) (2 + jBlk J i % (n - 2))))]) ⟨hx, hb, hml, hown, hts⟩ (k_D_takesUnit l dC dI k5 a P G J L (nI (jRow J i)) 1 ((jRow J i + 1) % n) (by have := Nat.mod_lt (jRow J i + 1) (show 0 < n by omega); omega) (by rw [hn]; exact nI_ne0 (by omega) (by omega)) (by rw [hn, show (nI (jRow J i) + 1) = nI (jRow J i + 1) from nI_add _ _]; exact pk_rem (by omega) (by omega) (by omega))) (cwV 2 hts (goodV wm_D_213 wn_D_takesUnit ws_D_takesUnit wi_D wc_D_takesUnit) rfl rfl rfl (by decide +kernel) ⟨Nat.le_of_ble_eq_true rfl, Nat.le_of_ble_eq_true rfl⟩) ⟨Nat.zero_le _, Nat.zero_le _⟩ hK hP hD 0 rfl rfl rfl hl.1 rfl (Nat.le_of_ble_eq_true rfl) d_D_unitsOfJournal_74 ?_
          refine W.eq (g2 := F0 m 77 ls [.int (tU P n (jRow J i) 1), .int (tU P n (jRow J i) 0), .int ((jU P J n t i) + (tU P n (jRow J i) (2 + jBlk J i % (n - 2))))]) rfl ?_
          refine lv_iadd hx hb d_D_unitsOfJournal_77 ?_
          refine lv_iadd hx hb d_D_unitsOfJournal_78 ?_
          refine lv_istore_n (lv' := [(1, .int (((jU P J n t i) + (tU P n (jRow J i) (2 + jBlk J i % (n - 2)))) + ((tU P n (jRow J i) 0) + (tU P n (jRow J i) 1)))), (4, .int (nI (jBlk J i % (n - 2)))), (3, .int (nI (jRow J i))), (2, .int (nI i)), (0, .ref (a 0))]) hx hb d_D_unitsOfJournal_79 rfl hl (by decide) rfl (fun ls hl => ?_)
          refine lv_iinc (v := nI (i + 1)) (lv' := [(2, .int (nI (i + 1))), (1, .int (((jU P J n t i) + (tU P n (jRow J i) (2 + jBlk J i % (n - 2)))) + ((tU P n (jRow J i) 0) + (tU P n (jRow J i) 1)))), (4, .int (nI (jBlk J i % (n - 2)))), (3, .int (nI (jRow J i))), (0, .ref (a 0))]) hx hb d_D_unitsOfJournal_80 hl (k := 3) rfl (nI_1 i) (by decide) rfl (fun ls hl => ?_)
          refine lv_goto (tgt := 4) hx hb d_D_unitsOfJournal_83 (by decide) ?_
          exact ih (i + 1) ls (by omega) (by rw [show jU P J n t (i + 1) = (jU P J n t i + tU P n (jRow J i) (2 + jBlk J i % (n - 2))) + (tU P n (jRow J i) 0 + tU P n (jRow J i) 1) from if_pos (of_decide_eq_true (bI_t hf))]; exact (lv_sub hl [0, 1, 4] rfl))
  exact lp t 0 ls (by omega) (lv_sub hl [0, 1, 2] rfl)
