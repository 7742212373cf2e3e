set_option maxHeartbeats 4000000 in
set_option maxRecDepth 100000 in
theorem k_L_findCounting (l : Launch) (dC : Nat → ClassId) (dI : Nat → Nat → Nat) (k5 : Nat → ClassId) (a : Nat → Nat) (L : LL) : Met l y_L_findCounting w_L_findCounting ({ frames := 1, cells := 0, slots := 0, locals := 22 }) (kx_Pc (dC, dI) clA (tyL k5) (wL a k5 L) [.ref (a 12)]) (kx_Q (dC, dI) clA (wL a k5 L) (wL a k5 (lFind L)) none) 0 0 (kx_A (wL a k5 L)) := by
  refine Met.ofW (cc := c_L_findCounting) (maxL := 4) (ret := none) (by decide) rfl ?_
  intro p e s m args below meth c s₁ B hml hv
  obtain ⟨rfl, hP, hK, hD0⟩ := hv
  have hx := B.exec
  have hb := B.bytes
  have hr := B.returns
  have hts : ∀ w ∈ wsA, w.before _ s = true := fun w h => atoms_spec (ws := w_L_findCounting) B.pre w (List.mem_cons_of_mem _ h)
  have hown : s.vm.findClass R_L = some m.cls := findClass_of_methodNamed B.named
  have hlocks := B.notSynchronized
  have hD := kx_D.self hD0
  have hS : va_S (kx_A (wL a k5 L)) s.heap s.heap [] := va_S.rf
  have hl := lv_entry ([.ref (a 12)]) (n := 4) (Nat.le_of_ble_eq_true rfl)
  rw [lg_entry_eq]
  generalize (lg_sl ([.ref (a 12)]) ++ List.replicate (4 - (lg_sl ([.ref (a 12)])).length) Slot.unset).toArray = ls at hl ⊢
  have hl : lv_has ls 4 [(0, .ref (a 12))] := hl
  have lp1 : ∀ (q9 i : Nat) (H : Heap) (locs : List Loc) (ls : Array Slot), i + q9 = 8 → va_P (dC, dI) clA (wL a k5 (va_up L.1 1 (lScan L 1 i (lScan L 0 8 (0, L.1 1))).2, L.2)) H → va_D (kx_A (wL a k5 L)) (wL a k5 (va_up L.1 1 (lScan L 1 i (lScan L 0 8 (0, L.1 1))).2, L.2)) → va_S (kx_A (wL a k5 L)) s.heap H locs → lv_has ls 4 [(3, .int (nI i)), (2, .int 1), (1, .int ((lScan L 1 i (lScan L 0 8 (0, L.1 1))).1)), (0, .ref (a 12))] → W p l e (headSpec w_L_findCounting ({ frames := 1, cells := 0, slots := 0, locals := 22 })).room s m ([.ref (a 12)] : List Value).toArray below meth c H locs 0 0 (MQ below (kx_Q (dC, dI) clA (wL a k5 L) (wL a k5 (lFind L)) none) ([.ref (a 12)] : List Value).toArray s 0 0 (kx_A (wL a k5 L))) (F0 m 11 ls []) := by
    intro q9
    induction q9 with
    | zero =>
      intro i H locs ls hi hP hD hS hl
      have hi : 8 = i := by omega
      subst hi
      refine lv_iload_n hx hb d_L_findCounting_11 rfl (lv_at hl 0 rfl) ?_
      refine lv_bipush (v := 8) hx hb d_L_findCounting_12 (by decide) ?_
      refine lv_icmp_ge (tgt := 58) hx hb d_L_findCounting_14 (by decide) (fun hc => ?_) (fun hc => ?_)
      · refine lv_iinc (v := 2) (lv' := [(2, .int 2), (3, .int (nI 8)), (1, .int ((lScan L 1 8 (lScan L 0 8 (0, L.1 1))).1)), (0, .ref (a 12))]) hx hb d_L_findCounting_58 hl (k := 1) rfl (by decide) (by decide) rfl (fun ls hl => ?_)
        refine lv_goto (tgt := 4) hx hb d_L_findCounting_61 (by decide) ?_
        refine lv_iload_n hx hb d_L_findCounting_4 rfl (lv_at hl 0 rfl) ?_
        refine lv_iconst (v := 2) hx hb d_L_findCounting_5 (by decide) ?_
        refine lv_icmp_ge (tgt := 64) hx hb d_L_findCounting_6 (by decide) (fun hc_1 => ?_) (fun hc_1 => ?_)
        · exact W.vret hx hb hr (fun t ht hW => kx_Qv ht hP (rfl) hS rfl) hS.2.2 d_L_findCounting_64
        · exact absurd hc_1 (by decide)
      · exact absurd (by rw [show (8 : Int32) = nI 8 from rfl]; exact nI_le (by omega) (by omega)) hc
    | succ q9 ih =>
      intro i H locs ls hi hP hD hS hl
      refine lv_iload_n hx hb d_L_findCounting_11 rfl (lv_at hl 0 rfl) ?_
      refine lv_bipush (v := 8) hx hb d_L_findCounting_12 (by decide) ?_
      refine lv_icmp_ge (tgt := 58) hx hb d_L_findCounting_14 (by decide) (fun hc => ?_) (fun hc => ?_)
      · exact absurd hc (by rw [show (8 : Int32) = nI 8 from rfl]; exact nI_ge (by omega) (by omega))
      · refine lv_aload_n hx hb d_L_findCounting_17 rfl (lv_at hl 3 rfl) ?_
        refine lv_iload_n hx hb d_L_findCounting_18 rfl (lv_at hl 1 rfl) ?_
        refine lv_iload_n hx hb d_L_findCounting_19 rfl (lv_at hl 0 rfl) ?_
        refine kx_VRW (As := [.int (nI 1), .int (nI i)]) (rest := []) ⟨hx, hb, hml, hown, hts⟩ (k_L_has l dC dI k5 a (va_up L.1 1 (lScan L 1 i (lScan L 0 8 (0, L.1 1))).2, L.2) 1 (by decide) i (by omega)) (cwV 2 hts (goodV wm_L_47 wn_L_has ws_L_has wi_L wc_L_has) rfl rfl rfl (by decide +kernel) ⟨Nat.le_of_ble_eq_true rfl, Nat.le_of_ble_eq_true rfl⟩) ⟨Nat.zero_le _, Nat.zero_le _⟩ hK hP hD 0 rfl rfl rfl hl.1 rfl (Nat.le_of_ble_eq_true rfl) d_L_findCounting_20 ?_
        refine W.eq (g2 := F0 m 23 ls [.int (bI (lHas 1 i L))]) rfl ?_
        refine lv_if_eq (tgt := 52) hx hb d_L_findCounting_23 (by decide) (fun hd => ?_) (fun hd => ?_)
        · refine lv_iinc (v := nI (i + 1)) (lv' := [(3, .int (nI (i + 1))), (2, .int 1), (1, .int ((lScan L 1 i (lScan L 0 8 (0, L.1 1))).1)), (0, .ref (a 12))]) hx hb d_L_findCounting_52 hl (k := 0) rfl (nI_1 i) (by decide) rfl (fun ls hl => ?_)
          refine lv_goto (tgt := 11) hx hb d_L_findCounting_55 (by decide) ?_
          have e : (lScan L 1 (i + 1) (lScan L 0 8 (0, L.1 1))) = (lScan L 1 i (lScan L 0 8 (0, L.1 1))) := if_neg (fun z => by rw [bI_f hd] at z; exact absurd z.1 Bool.false_ne_true)
          exact ih (i + 1) H locs ls (by omega) (by rw [e]; exact hP) (by rw [e]; exact hD) hS (by rw [e]; exact (lv_sub hl [0, 1, 2, 3] rfl))
        · refine lv_aload_n hx hb d_L_findCounting_26 rfl (lv_at hl 3 rfl) ?_
          refine va_get (D := (dC, dI)) (ci := 1) (v := .ref (a 13)) (C := R_L) (T := T_L) (N := 7) hx hb hts wu_L hown hK hP 0 rfl rfl 0 (by decide) (hts _ wf_L_11) (fun _ h9 => h9) rfl d_L_findCounting_27 ?_
          refine lv_iload_n hx hb d_L_findCounting_30 rfl (lv_at hl 1 rfl) ?_
          refine kx_aald hx hb hK hP 1 4 rfl rfl 1 (by decide) (by omega) (by omega) (v := (a 19)) rfl d_L_findCounting_31 ?_
          refine lv_iload_n hx hb d_L_findCounting_32 rfl (lv_at hl 0 rfl) ?_
          refine kx_iald hx hb hK hP 7 0 rfl rfl i (rfl) (by omega) (by omega) d_L_findCounting_33 ?_
          refine lv_iload_n hx hb d_L_findCounting_34 rfl (lv_at hl 2 rfl) ?_
          refine lv_icmp_le (tgt := 52) hx hb d_L_findCounting_35 (by decide) (fun he => ?_) (fun he => ?_)
          · refine lv_iinc (v := nI (i + 1)) (lv' := [(3, .int (nI (i + 1))), (2, .int 1), (1, .int ((lScan L 1 i (lScan L 0 8 (0, L.1 1))).1)), (0, .ref (a 12))]) hx hb d_L_findCounting_52 hl (k := 0) rfl (nI_1 i) (by decide) rfl (fun ls hl => ?_)
            refine lv_goto (tgt := 11) hx hb d_L_findCounting_55 (by decide) ?_
            have e : (lScan L 1 (i + 1) (lScan L 0 8 (0, L.1 1))) = (lScan L 1 i (lScan L 0 8 (0, L.1 1))) := if_neg (fun z => absurd z.2 (Int32.not_lt.mpr he))
            exact ih (i + 1) H locs ls (by omega) (by rw [e]; exact hP) (by rw [e]; exact hD) hS (by rw [e]; exact (lv_sub hl [0, 1, 2, 3] rfl))
          · refine lv_aload_n hx hb d_L_findCounting_38 rfl (lv_at hl 3 rfl) ?_
            refine va_get (D := (dC, dI)) (ci := 1) (v := .ref (a 13)) (C := R_L) (T := T_L) (N := 7) hx hb hts wu_L hown hK hP 0 rfl rfl 0 (by decide) (hts _ wf_L_11) (fun _ h9 => h9) rfl d_L_findCounting_39 ?_
            refine lv_iload_n hx hb d_L_findCounting_42 rfl (lv_at hl 1 rfl) ?_
            refine kx_aald hx hb hK hP 1 4 rfl rfl 1 (by decide) (by omega) (by omega) (v := (a 19)) rfl d_L_findCounting_43 ?_
            refine lv_iload_n hx hb d_L_findCounting_44 rfl (lv_at hl 0 rfl) ?_
            refine kx_iald hx hb hK hP 7 0 rfl rfl i (rfl) (by omega) (by omega) d_L_findCounting_45 ?_
            refine lv_istore_n (lv' := [(1, .int (((va_up L.1 1 (lScan L 1 i (lScan L 0 8 (0, L.1 1))).2, L.2).2 1) i)), (3, .int (nI i)), (2, .int 1), (0, .ref (a 12))]) hx hb d_L_findCounting_46 rfl hl (by decide) rfl (fun ls hl => ?_)
            refine lv_aload_n hx hb d_L_findCounting_47 rfl (lv_at hl 3 rfl) ?_
            refine lv_iload_n hx hb d_L_findCounting_48 rfl (lv_at hl 2 rfl) ?_
            refine kx_put (ws' := (wL a k5 (va_up L.1 1 (nI 1), L.2))) (D := (dC, dI)) (ci := 1) (v := .int 1) (ty := .int) (C := R_L) (T := T_L) (N := 7) hx hb hts wu_L ty_L ok_L nm_L hown hK hP hD hS 0 rfl rfl 6 (by decide) (hts _ wf_L_30) (fun _ h9 => h9) rfl (by decide +kernel) rfl rfl (Nat.le_of_ble_eq_true rfl) rfl d_L_findCounting_49 (fun H locs hP hD hS => ?_)
            refine lv_iinc (v := nI (i + 1)) (lv' := [(3, .int (nI (i + 1))), (1, .int (((va_up L.1 1 (lScan L 1 i (lScan L 0 8 (0, L.1 1))).2, L.2).2 1) i)), (2, .int 1), (0, .ref (a 12))]) hx hb d_L_findCounting_52 hl (k := 1) rfl (nI_1 i) (by decide) rfl (fun ls hl => ?_)
            refine lv_goto (tgt := 11) hx hb d_L_findCounting_55 (by decide) ?_
            have e : (lScan L 1 (i + 1) (lScan L 0 8 (0, L.1 1))) = (L.2 1 i, nI 1) := if_pos ⟨bI_t hd, Int32.not_le.mp he⟩
            exact ih (i + 1) H locs ls (by omega) (by rw [e]; exact hP) (by rw [e]; exact hD) hS (by rw [e]; exact (lv_sub hl [0, 2, 1, 3] rfl))
  have lp0 : ∀ (q9 i : Nat) (H : Heap) (locs : List Loc) (ls : Array Slot), i + q9 = 8 → va_P (dC, dI) clA (wL a k5 (va_up L.1 1 (lScan L 0 i (0, L.1 1)).2, L.2)) H → va_D (kx_A (wL a k5 L)) (wL a k5 (va_up L.1 1 (lScan L 0 i (0, L.1 1)).2, L.2)) → va_S (kx_A (wL a k5 L)) s.heap H locs → lv_has ls 4 [(3, .int (nI i)), (2, .int 0), (1, .int ((lScan L 0 i (0, L.1 1)).1)), (0, .ref (a 12))] → W p l e (headSpec w_L_findCounting ({ frames := 1, cells := 0, slots := 0, locals := 22 })).room s m ([.ref (a 12)] : List Value).toArray below meth c H locs 0 0 (MQ below (kx_Q (dC, dI) clA (wL a k5 L) (wL a k5 (lFind L)) none) ([.ref (a 12)] : List Value).toArray s 0 0 (kx_A (wL a k5 L))) (F0 m 11 ls []) := by
    intro q9
    induction q9 with
    | zero =>
      intro i H locs ls hi hP hD hS hl
      have hi : 8 = i := by omega
      subst hi
      refine lv_iload_n hx hb d_L_findCounting_11 rfl (lv_at hl 0 rfl) ?_
      refine lv_bipush (v := 8) hx hb d_L_findCounting_12 (by decide) ?_
      refine lv_icmp_ge (tgt := 58) hx hb d_L_findCounting_14 (by decide) (fun hc => ?_) (fun hc => ?_)
      · refine lv_iinc (v := 1) (lv' := [(2, .int 1), (3, .int (nI 8)), (1, .int ((lScan L 0 8 (0, L.1 1)).1)), (0, .ref (a 12))]) hx hb d_L_findCounting_58 hl (k := 1) rfl (by decide) (by decide) rfl (fun ls hl => ?_)
        refine lv_goto (tgt := 4) hx hb d_L_findCounting_61 (by decide) ?_
        refine lv_iload_n hx hb d_L_findCounting_4 rfl (lv_at hl 0 rfl) ?_
        refine lv_iconst (v := 2) hx hb d_L_findCounting_5 (by decide) ?_
        refine lv_icmp_ge (tgt := 64) hx hb d_L_findCounting_6 (by decide) (fun hc_2 => ?_) (fun hc_2 => ?_)
        · exact absurd hc_2 (by decide)
        · refine lv_iconst (v := 0) hx hb d_L_findCounting_9 (by decide) ?_
          refine lv_istore_n (lv' := [(3, .int 0), (2, .int 1), (1, .int ((lScan L 0 8 (0, L.1 1)).1)), (0, .ref (a 12))]) hx hb d_L_findCounting_10 rfl hl (by decide) rfl (fun ls hl => ?_)
          exact lp1 8 0 H locs ls (by omega) hP hD hS (lv_sub hl [0, 1, 2, 3] rfl)
      · exact absurd (by rw [show (8 : Int32) = nI 8 from rfl]; exact nI_le (by omega) (by omega)) hc
    | succ q9 ih =>
      intro i H locs ls hi hP hD hS hl
      refine lv_iload_n hx hb d_L_findCounting_11 rfl (lv_at hl 0 rfl) ?_
      refine lv_bipush (v := 8) hx hb d_L_findCounting_12 (by decide) ?_
      refine lv_icmp_ge (tgt := 58) hx hb d_L_findCounting_14 (by decide) (fun hc => ?_) (fun hc => ?_)
      · exact absurd hc (by rw [show (8 : Int32) = nI 8 from rfl]; exact nI_ge (by omega) (by omega))
      · refine lv_aload_n hx hb d_L_findCounting_17 rfl (lv_at hl 3 rfl) ?_
        refine lv_iload_n hx hb d_L_findCounting_18 rfl (lv_at hl 1 rfl) ?_
        refine lv_iload_n hx hb d_L_findCounting_19 rfl (lv_at hl 0 rfl) ?_
        refine kx_VRW (As := [.int (nI 0), .int (nI i)]) (rest := []) ⟨hx, hb, hml, hown, hts⟩ (k_L_has l dC dI k5 a (va_up L.1 1 (lScan L 0 i (0, L.1 1)).2, L.2) 0 (by decide) i (by omega)) (cwV 2 hts (goodV wm_L_47 wn_L_has ws_L_has wi_L wc_L_has) rfl rfl rfl (by decide +kernel) ⟨Nat.le_of_ble_eq_true rfl, Nat.le_of_ble_eq_true rfl⟩) ⟨Nat.zero_le _, Nat.zero_le _⟩ hK hP hD 0 rfl rfl rfl hl.1 rfl (Nat.le_of_ble_eq_true rfl) d_L_findCounting_20 ?_
        refine W.eq (g2 := F0 m 23 ls [.int (bI (lHas 0 i L))]) rfl ?_
        refine lv_if_eq (tgt := 52) hx hb d_L_findCounting_23 (by decide) (fun hd => ?_) (fun hd => ?_)
        · refine lv_iinc (v := nI (i + 1)) (lv' := [(3, .int (nI (i + 1))), (2, .int 0), (1, .int ((lScan L 0 i (0, L.1 1)).1)), (0, .ref (a 12))]) hx hb d_L_findCounting_52 hl (k := 0) rfl (nI_1 i) (by decide) rfl (fun ls hl => ?_)
          refine lv_goto (tgt := 11) hx hb d_L_findCounting_55 (by decide) ?_
          have e : (lScan L 0 (i + 1) (0, L.1 1)) = (lScan L 0 i (0, L.1 1)) := if_neg (fun z => by rw [bI_f hd] at z; exact absurd z.1 Bool.false_ne_true)
          exact ih (i + 1) H locs ls (by omega) (by rw [e]; exact hP) (by rw [e]; exact hD) hS (by rw [e]; exact (lv_sub hl [0, 1, 2, 3] rfl))
        · refine lv_aload_n hx hb d_L_findCounting_26 rfl (lv_at hl 3 rfl) ?_
          refine va_get (D := (dC, dI)) (ci := 1) (v := .ref (a 13)) (C := R_L) (T := T_L) (N := 7) hx hb hts wu_L hown hK hP 0 rfl rfl 0 (by decide) (hts _ wf_L_11) (fun _ h9 => h9) rfl d_L_findCounting_27 ?_
          refine lv_iload_n hx hb d_L_findCounting_30 rfl (lv_at hl 1 rfl) ?_
          refine kx_aald hx hb hK hP 1 4 rfl rfl 0 (by decide) (by omega) (by omega) (v := (a 18)) rfl d_L_findCounting_31 ?_
          refine lv_iload_n hx hb d_L_findCounting_32 rfl (lv_at hl 0 rfl) ?_
          refine kx_iald hx hb hK hP 6 0 rfl rfl i (rfl) (by omega) (by omega) d_L_findCounting_33 ?_
          refine lv_iload_n hx hb d_L_findCounting_34 rfl (lv_at hl 2 rfl) ?_
          refine lv_icmp_le (tgt := 52) hx hb d_L_findCounting_35 (by decide) (fun he => ?_) (fun he => ?_)
          · refine lv_iinc (v := nI (i + 1)) (lv' := [(3, .int (nI (i + 1))), (2, .int 0), (1, .int ((lScan L 0 i (0, L.1 1)).1)), (0, .ref (a 12))]) hx hb d_L_findCounting_52 hl (k := 0) rfl (nI_1 i) (by decide) rfl (fun ls hl => ?_)
            refine lv_goto (tgt := 11) hx hb d_L_findCounting_55 (by decide) ?_
            have e : (lScan L 0 (i + 1) (0, L.1 1)) = (lScan L 0 i (0, L.1 1)) := if_neg (fun z => absurd z.2 (Int32.not_lt.mpr he))
            exact ih (i + 1) H locs ls (by omega) (by rw [e]; exact hP) (by rw [e]; exact hD) hS (by rw [e]; exact (lv_sub hl [0, 1, 2, 3] rfl))
          · refine lv_aload_n hx hb d_L_findCounting_38 rfl (lv_at hl 3 rfl) ?_
            refine va_get (D := (dC, dI)) (ci := 1) (v := .ref (a 13)) (C := R_L) (T := T_L) (N := 7) hx hb hts wu_L hown hK hP 0 rfl rfl 0 (by decide) (hts _ wf_L_11) (fun _ h9 => h9) rfl d_L_findCounting_39 ?_
            refine lv_iload_n hx hb d_L_findCounting_42 rfl (lv_at hl 1 rfl) ?_
            refine kx_aald hx hb hK hP 1 4 rfl rfl 0 (by decide) (by omega) (by omega) (v := (a 18)) rfl d_L_findCounting_43 ?_
            refine lv_iload_n hx hb d_L_findCounting_44 rfl (lv_at hl 0 rfl) ?_
            refine kx_iald hx hb hK hP 6 0 rfl rfl i (rfl) (by omega) (by omega) d_L_findCounting_45 ?_
            refine lv_istore_n (lv' := [(1, .int (((va_up L.1 1 (lScan L 0 i (0, L.1 1)).2, L.2).2 0) i)), (3, .int (nI i)), (2, .int 0), (0, .ref (a 12))]) hx hb d_L_findCounting_46 rfl hl (by decide) rfl (fun ls hl => ?_)
            refine lv_aload_n hx hb d_L_findCounting_47 rfl (lv_at hl 3 rfl) ?_
            refine lv_iload_n hx hb d_L_findCounting_48 rfl (lv_at hl 2 rfl) ?_
            refine kx_put (ws' := (wL a k5 (va_up L.1 1 (nI 0), L.2))) (D := (dC, dI)) (ci := 1) (v := .int 0) (ty := .int) (C := R_L) (T := T_L) (N := 7) hx hb hts wu_L ty_L ok_L nm_L hown hK hP hD hS 0 rfl rfl 6 (by decide) (hts _ wf_L_30) (fun _ h9 => h9) rfl (by decide +kernel) rfl rfl (Nat.le_of_ble_eq_true rfl) rfl d_L_findCounting_49 (fun H locs hP hD hS => ?_)
            refine lv_iinc (v := nI (i + 1)) (lv' := [(3, .int (nI (i + 1))), (1, .int (((va_up L.1 1 (lScan L 0 i (0, L.1 1)).2, L.2).2 0) i)), (2, .int 0), (0, .ref (a 12))]) hx hb d_L_findCounting_52 hl (k := 1) rfl (nI_1 i) (by decide) rfl (fun ls hl => ?_)
            refine lv_goto (tgt := 11) hx hb d_L_findCounting_55 (by decide) ?_
            have e : (lScan L 0 (i + 1) (0, L.1 1)) = (L.2 0 i, nI 0) := if_pos ⟨bI_t hd, Int32.not_le.mp he⟩
            exact ih (i + 1) H locs ls (by omega) (by rw [e]; exact hP) (by rw [e]; exact hD) hS (by rw [e]; exact (lv_sub hl [0, 2, 1, 3] rfl))
  refine lv_iconst (v := 0) hx hb d_L_findCounting_0 (by decide) ?_
  refine lv_istore_n (lv' := [(1, .int 0), (0, .ref (a 12))]) hx hb d_L_findCounting_1 rfl hl (by decide) rfl (fun ls hl => ?_)
  refine lv_iconst (v := 0) hx hb d_L_findCounting_2 (by decide) ?_
  refine lv_istore_n (lv' := [(2, .int 0), (1, .int 0), (0, .ref (a 12))]) hx hb d_L_findCounting_3 rfl hl (by decide) rfl (fun ls hl => ?_)
  refine lv_iload_n hx hb d_L_findCounting_4 rfl (lv_at hl 0 rfl) ?_
  refine lv_iconst (v := 2) hx hb d_L_findCounting_5 (by decide) ?_
  refine lv_icmp_ge (tgt := 64) hx hb d_L_findCounting_6 (by decide) (fun hc_3 => ?_) (fun hc_3 => ?_)
  · exact absurd hc_3 (by decide)
  · refine lv_iconst (v := 0) hx hb d_L_findCounting_9 (by decide) ?_
    refine lv_istore_n (lv' := [(3, .int 0), (2, .int 0), (1, .int 0), (0, .ref (a 12))]) hx hb d_L_findCounting_10 rfl hl (by decide) rfl (fun ls hl => ?_)
    exact lp0 8 0 s.heap [] ls (by omega) hP hD hS (lv_sub hl [0, 1, 2, 3] rfl)
set_option maxHeartbeats 4000000 in
set_option maxRecDepth 100000 in
theorem k_D_layOut (l : Launch) (dC : Nat → ClassId) (dI : Nat → Nat → Nat) (k5 : Nat → ClassId) (a : Nat → Nat) (P : PP) (G J : GG) (L : LL) (x y : Int32) (n : Nat) (hn : x = nI n) (hn8 : n ≤ 8) (w : Nat) (hw : w = 0 ∨ w = 1) (hq : 1 - L.1 1 = nI w) : Met l y_D_layOut w_D_layOut ({ frames := 4, cells := 0, slots := 0, locals := 89 }) (kx_Pc (dC, dI) clA (tyL k5) (wD a k5 P G J L) [.ref (a 0), .int x, .int y]) (kx_Q (dC, dI) clA (wD a k5 P G J L) (wD a k5 (pLay x y P) (gClear G) J (lLay (pLay x y P) w n L)) none) 0 0 (kx_A (wD a k5 P G J L)) := by
  refine Met.ofW (cc := c_D_layOut) (maxL := 4) (ret := none) (by decide) rfl ?_
  intro p e s m args below meth c s₁ B hml hv
  obtain ⟨rfl, hP, hK, hD0⟩ := hv
  have hx := B.exec
  have hb := B.bytes
  have hr := B.returns
  have hts : ∀ w ∈ wsA, w.before _ s = true := fun w h => atoms_spec (ws := w_D_layOut) B.pre w (List.mem_cons_of_mem _ h)
  have hown : s.vm.findClass R_D = some m.cls := findClass_of_methodNamed B.named
  have hlocks := B.notSynchronized
  have hD := kx_D.self hD0
  have hS : va_S (kx_A (wD a k5 P G J L)) s.heap s.heap [] := va_S.rf
  have hl := lv_entry ([.ref (a 0), .int x, .int y]) (n := 4) (Nat.le_of_ble_eq_true rfl)
  rw [lg_entry_eq]
  generalize (lg_sl ([.ref (a 0), .int x, .int y]) ++ List.replicate (4 - (lg_sl ([.ref (a 0), .int x, .int y])).length) Slot.unset).toArray = ls at hl ⊢
  have hl : lv_has ls 4 [(0, .ref (a 0)), (1, .int x), (2, .int y)] := hl
  refine lv_aload_n hx hb d_D_layOut_0 rfl (lv_at hl 0 rfl) ?_
  refine lv_iload_n hx hb d_D_layOut_1 rfl (lv_at hl 1 rfl) ?_
  refine kx_put (ws' := (wD a k5 (x, P.2) G J L)) (D := (dC, dI)) (ci := 2) (v := .int x) (ty := .int) (C := R_D) (T := T_D) (N := 9) hx hb hts wu_D ty_D ok_D nm_D hown hK hP hD hS 0 rfl rfl 6 (by decide) (hts _ wf_D_64) (fun _ h9 => h9) rfl (by decide +kernel) rfl rfl (Nat.le_of_ble_eq_true rfl) rfl d_D_layOut_2 (fun H locs hP hD hS => ?_)
  refine lv_aload_n hx hb d_D_layOut_5 rfl (lv_at hl 0 rfl) ?_
  refine lv_iload_n hx hb d_D_layOut_6 rfl (lv_at hl 2 rfl) ?_
  refine kx_put (ws' := (wD a k5 (x, y, P.2.2) G J L)) (D := (dC, dI)) (ci := 2) (v := .int y) (ty := .int) (C := R_D) (T := T_D) (N := 9) hx hb hts wu_D ty_D ok_D nm_D hown hK hP hD hS 0 rfl rfl 7 (by decide) (hts _ wf_D_170) (fun _ h9 => h9) rfl (by decide +kernel) rfl rfl (Nat.le_of_ble_eq_true rfl) rfl d_D_layOut_7 (fun H locs hP hD hS => ?_)
  refine lv_aload_n hx hb d_D_layOut_10 rfl (lv_at hl 0 rfl) ?_
  refine lv_iconst (v := 1) hx hb d_D_layOut_11 (by decide) ?_
  refine kx_put (ws' := (wD a k5 (x, y, 1, P.2.2.2) G J L)) (D := (dC, dI)) (ci := 2) (v := .int 1) (ty := .boolean) (C := R_D) (T := T_D) (N := 9) hx hb hts wu_D ty_D ok_D nm_D hown hK hP hD hS 0 rfl rfl 8 (by decide) (hts _ wf_D_46) (fun _ h9 => h9) rfl (by decide +kernel) rfl rfl (Nat.le_of_ble_eq_true rfl) rfl d_D_layOut_12 (fun H locs hP hD hS => ?_)
  refine lv_aload_n hx hb d_D_layOut_15 rfl (lv_at hl 0 rfl) ?_
  refine va_get (D := (dC, dI)) (ci := 2) (v := .ref (a 1)) (C := R_D) (T := T_D) (N := 9) hx hb hts wu_D hown hK hP 0 rfl rfl 0 (by decide) (hts _ wf_D_9) (fun _ h9 => h9) rfl d_D_layOut_16 ?_
  refine lv_iload_n hx hb d_D_layOut_19 rfl (lv_at hl 2 rfl) ?_
  refine kx_S (ws2 := (wD a k5 (x, y, 1, fill0 (pMk P) y 8, P.2.2.2.2) G J L)) (As := [.ref (a 1), .int y]) (rest := []) ⟨hx, hb, hml, hown, hts⟩ (k_J_fillI l dC dI k5 (a 1) 8 (by omega) (pMk P) y) (va_cwS 2 hts (goodS wm_D_173 wt_J_fillI wi_J wc_J_fillI) rfl rfl rfl (by decide +kernel) ⟨Nat.le_of_ble_eq_true rfl, Nat.le_of_ble_eq_true rfl⟩) ⟨Nat.zero_le _, Nat.zero_le _⟩ hK hP hD hS [1] (by decide) rfl rfl rfl rfl rfl hl.1 rfl (Nat.le_of_ble_eq_true rfl) d_D_layOut_20 (fun H locs hP hD hS => ?_)
  refine W.eq (g2 := F0 m 23 ls []) rfl ?_
  refine lv_aload_n hx hb d_D_layOut_23 rfl (lv_at hl 0 rfl) ?_
  refine va_get (D := (dC, dI)) (ci := 2) (v := .ref (a 2)) (C := R_D) (T := T_D) (N := 9) hx hb hts wu_D hown hK hP 0 rfl rfl 1 (by decide) (hts _ wf_D_13) (fun _ h9 => h9) rfl d_D_layOut_24 ?_
  refine lv_lconst (v := 0) hx hb d_D_layOut_27 (by decide) ?_
  refine kx_S (ws2 := (wD a k5 (x, y, 1, fill0 (pMk P) y 8, fillL (pRt P) 0 8, P.2.2.2.2.2) G J L)) (As := [.ref (a 2), .long 0]) (rest := []) ⟨hx, hb, hml, hown, hts⟩ (k_J_fillJ l dC dI k5 (a 2) 8 (by omega) (pRt P) 0) (va_cwS 2 hts (goodS wm_D_179 wt_J_fillJ wi_J wc_J_fillJ) rfl rfl rfl (by decide +kernel) ⟨Nat.le_of_ble_eq_true rfl, Nat.le_of_ble_eq_true rfl⟩) ⟨Nat.zero_le _, Nat.zero_le _⟩ hK hP hD hS [2] (by decide) rfl rfl rfl rfl rfl hl.1 rfl (Nat.le_of_ble_eq_true rfl) d_D_layOut_28 (fun H locs hP hD hS => ?_)
  refine W.eq (g2 := F0 m 31 ls []) rfl ?_
  refine lv_aload_n hx hb d_D_layOut_31 rfl (lv_at hl 0 rfl) ?_
  refine va_get (D := (dC, dI)) (ci := 2) (v := .ref (a 3)) (C := R_D) (T := T_D) (N := 9) hx hb hts wu_D hown hK hP 0 rfl rfl 2 (by decide) (hts _ wf_D_17) (fun _ h9 => h9) rfl d_D_layOut_32 ?_
  refine lv_iconst (v := 0) hx hb d_D_layOut_35 (by decide) ?_
  refine kx_S (ws2 := (wD a k5 (pLay x y P) G J L)) (As := [.ref (a 3), .int 0]) (rest := []) ⟨hx, hb, hml, hown, hts⟩ (k_J_fillB l dC dI k5 (a 3) 13056 (by omega) (pKp P) 0) (va_cwS 2 hts (goodS wm_D_182 wt_J_fillB wi_J wc_J_fillB) rfl rfl rfl (by decide +kernel) ⟨Nat.le_of_ble_eq_true rfl, Nat.le_of_ble_eq_true rfl⟩) ⟨Nat.zero_le _, Nat.zero_le _⟩ hK hP hD hS [3] (by decide) rfl rfl rfl rfl rfl hl.1 rfl (Nat.le_of_ble_eq_true rfl) d_D_layOut_36 (fun H locs hP hD hS => ?_)
  refine W.eq (g2 := F0 m 39 ls []) rfl ?_
  refine lv_aload_n hx hb d_D_layOut_39 rfl (lv_at hl 0 rfl) ?_
  refine va_get (D := (dC, dI)) (ci := 2) (v := .ref (a 4)) (C := R_D) (T := T_D) (N := 9) hx hb hts wu_D hown hK hP 0 rfl rfl 3 (by decide) (hts _ wf_D_24) (fun _ h9 => h9) rfl d_D_layOut_40 ?_
  refine kx_V (ws2 := (wD a k5 (pLay x y P) (gClear G) J L)) (As := []) (rest := []) ⟨hx, hb, hml, hown, hts⟩ (k_G_clear l dC dI k5 (a 4) (a 5) (a 6) (a 7) (G.1) (G.2.1) (G.2.2.1) (G.2.2.2.1) (G.2.2.2.2) ) (cwV 0 hts (goodV wm_D_109 wn_G_clear ws_G_clear wi_G wc_G_clear) rfl rfl rfl (by decide +kernel) ⟨Nat.le_of_ble_eq_true rfl, Nat.le_of_ble_eq_true rfl⟩) ⟨Nat.zero_le _, Nat.zero_le _⟩ hK hP hD hS [4, 5, 6, 7] (by decide) rfl 0 rfl rfl rfl rfl rfl rfl hl.1 rfl (Nat.le_of_ble_eq_true rfl) d_D_layOut_43 (fun H locs hP hD hS => ?_)
  refine W.eq (g2 := F0 m 46 ls []) rfl ?_
  refine lv_iconst (v := 0) hx hb d_D_layOut_46 (by decide) ?_
  refine lv_istore_n (lv' := [(3, .int 0), (0, .ref (a 0)), (1, .int x), (2, .int y)]) hx hb d_D_layOut_47 rfl hl (by decide) rfl (fun ls hl => ?_)
  have lp : ∀ (q9 i : Nat) (H : Heap) (locs : List Loc) (ls : Array Slot), i + q9 = 8 → va_P (dC, dI) clA (wD a k5 (pLay x y P) (gClear G) J (lWipes L i)) H → va_D (kx_A (wD a k5 P G J L)) (wD a k5 (pLay x y P) (gClear G) J (lWipes L i)) → va_S (kx_A (wD a k5 P G J L)) s.heap H locs → lv_has ls 4 [(3, .int (nI i)), (0, .ref (a 0)), (1, .int x), (2, .int y)] → W p l e (headSpec w_D_layOut ({ frames := 4, cells := 0, slots := 0, locals := 89 })).room s m ([.ref (a 0), .int x, .int y] : List Value).toArray below meth c H locs 0 0 (MQ below (kx_Q (dC, dI) clA (wD a k5 P G J L) (wD a k5 (pLay x y P) (gClear G) J (lLay (pLay x y P) w n L)) none) ([.ref (a 0), .int x, .int y] : List Value).toArray s 0 0 (kx_A (wD a k5 P G J L))) (F0 m 48 ls []) := by
    intro q9
    induction q9 with
    | zero =>
      intro i H locs ls hi hP hD hS hl
      have hi : 8 = i := by omega
      subst hi
      refine lv_iload_n hx hb d_D_layOut_48 rfl (lv_at hl 0 rfl) ?_
      refine lv_bipush (v := 8) hx hb d_D_layOut_49 (by decide) ?_
      refine lv_icmp_ge (tgt := 68) hx hb d_D_layOut_51 (by decide) (fun hc => ?_) (fun hc => ?_)
      · have hq2 : 1 - (lWipes L 8).1 1 = nI w := by rw [lWipes_sc]; exact hq
        refine lv_aload_n hx hb d_D_layOut_68 rfl (lv_at hl 1 rfl) ?_
        refine va_get (D := (dC, dI)) (ci := 2) (v := .ref (a 12)) (C := R_D) (T := T_D) (N := 9) hx hb hts wu_D hown hK hP 0 rfl rfl 5 (by decide) (hts _ wf_D_34) (fun _ h9 => h9) rfl d_D_layOut_69 ?_
        refine lv_iconst (v := 0) hx hb d_D_layOut_72 (by decide) ?_
        refine lv_aload_n hx hb d_D_layOut_73 rfl (lv_at hl 1 rfl) ?_
        refine va_get (D := (dC, dI)) (ci := 2) (v := .ref (a 1)) (C := R_D) (T := T_D) (N := 9) hx hb hts wu_D hown hK hP 0 rfl rfl 0 (by decide) (hts _ wf_D_9) (fun _ h9 => h9) rfl d_D_layOut_74 ?_
        have hq := hq2
        refine kx_V (ws2 := (wD a k5 (pLay x y P) (gClear G) J (lDraft w 0 ((pLay x y P).2.2.2.1) (lWipes L 8)))) (As := [.int 0, .ref (a 1)]) (rest := []) ⟨hx, hb, hml, hown, hts⟩ (k_L_draft l dC dI k5 a (lWipes L 8) w hw hq (a 1) ((pLay x y P).2.2.2.1) 0 rfl) (cwV 2 hts (goodV wm_D_94 wn_L_draft ws_L_draft wi_L wc_L_draft) rfl rfl rfl (by decide +kernel) ⟨Nat.le_of_ble_eq_true rfl, Nat.le_of_ble_eq_true rfl⟩) ⟨Nat.zero_le _, Nat.zero_le _⟩ hK hP hD hS [12, 13, 14, 15, 16, 17, 18, 19, 20, 21, 22, 23, 1] (by decide) rfl 0 rfl rfl rfl rfl rfl rfl hl.1 rfl (Nat.le_of_ble_eq_true rfl) d_D_layOut_77 (fun H locs hP hD hS => ?_)
        refine W.eq (g2 := F0 m 80 ls []) rfl ?_
        refine lv_aload_n hx hb d_D_layOut_80 rfl (lv_at hl 1 rfl) ?_
        refine kx_VW (w1 := (wD a k5 (pLay x y P) (gClear G) J (lLay (pLay x y P) w n L))) (As := []) (rest := []) ⟨hx, hb, hml, hown, hts⟩ (k_D_finishLabel l dC dI k5 a (pLay x y P) (gClear G) J (lDraft w 0 (pMk (pLay x y P)) (lWipes L 8)) w hw hq n hn hn8) (cwV 0 hts (goodV wm_D_102 wn_D_finishLabel ws_D_finishLabel wi_D wc_D_finishLabel) rfl rfl rfl (by decide +kernel) ⟨Nat.le_of_ble_eq_true rfl, Nat.le_of_ble_eq_true rfl⟩) ⟨Nat.zero_le _, Nat.zero_le _⟩ hK hP hD hS 0 rfl rfl rfl rfl hl.1 rfl (Nat.le_of_ble_eq_true rfl) d_D_layOut_81 (fun H locs hP hD hS => ?_)
        refine W.eq (g2 := F0 m 84 ls []) rfl ?_
        exact W.vret hx hb hr (fun t ht hW => kx_Qv ht hP (rfl) hS rfl) hS.2.2 d_D_layOut_84
      · exact absurd (by rw [show (8 : Int32) = nI 8 from rfl]; exact nI_le (by omega) (by omega)) hc
    | succ q9 ih =>
      intro i H locs ls hi hP hD hS hl
      refine lv_iload_n hx hb d_D_layOut_48 rfl (lv_at hl 0 rfl) ?_
      refine lv_bipush (v := 8) hx hb d_D_layOut_49 (by decide) ?_
      refine lv_icmp_ge (tgt := 68) hx hb d_D_layOut_51 (by decide) (fun hc => ?_) (fun hc => ?_)
      · exact absurd hc (by rw [show (8 : Int32) = nI 8 from rfl]; exact nI_ge (by omega) (by omega))
      · refine lv_aload_n hx hb d_D_layOut_54 rfl (lv_at hl 1 rfl) ?_
        refine va_get (D := (dC, dI)) (ci := 2) (v := .ref (a 12)) (C := R_D) (T := T_D) (N := 9) hx hb hts wu_D hown hK hP 0 rfl rfl 5 (by decide) (hts _ wf_D_34) (fun _ h9 => h9) rfl d_D_layOut_55 ?_
        refine lv_iload_n hx hb d_D_layOut_58 rfl (lv_at hl 0 rfl) ?_
        refine kx_V (ws2 := (wD a k5 (pLay x y P) (gClear G) J (lWipes L (i + 1)))) (As := [.int (nI i)]) (rest := []) ⟨hx, hb, hml, hown, hts⟩ (k_L_wipe l dC dI k5 a (lWipes L i) i (by omega)) (cwV 1 hts (goodV wm_D_122 wn_L_wipe ws_L_wipe wi_L wc_L_wipe) rfl rfl rfl (by decide +kernel) ⟨Nat.le_of_ble_eq_true rfl, Nat.le_of_ble_eq_true rfl⟩) ⟨Nat.zero_le _, Nat.zero_le _⟩ hK hP hD hS [12, 13, 14, 15, 16, 17, 18, 19, 20, 21, 22, 23] (by decide) rfl 0 rfl rfl rfl rfl rfl rfl hl.1 rfl (Nat.le_of_ble_eq_true rfl) d_D_layOut_59 (fun H locs hP hD hS => ?_)
        refine W.eq (g2 := F0 m 62 ls []) rfl ?_
        refine lv_iinc (v := nI (i + 1)) (lv' := [(3, .int (nI (i + 1))), (0, .ref (a 0)), (1, .int x), (2, .int y)]) hx hb d_D_layOut_62 hl (k := 0) rfl (nI_1 i) (by decide) rfl (fun ls hl => ?_)
        refine lv_goto (tgt := 48) hx hb d_D_layOut_65 (by decide) ?_
        exact ih (i + 1) H locs ls (by omega) hP hD hS (lv_sub hl [0, 1, 2, 3] rfl)
  exact lp 8 0 H locs ls (by omega) hP hD hS (lv_sub hl [0, 1, 2, 3] rfl)
def d_fail (P : PP) (G J : GG) (L : LL)  : SS × Int32 := (if (P.2.2.1) = 0 then ((P, G, J, L), (-2)) else (((pPow 0 P), (gClear G), J, L), 0))
set_option maxHeartbeats 4000000 in
set_option maxRecDepth 100000 in
theorem k_D_fail (l : Launch) (dC : Nat → ClassId) (dI : Nat → Nat → Nat) (k5 : Nat → ClassId) (a : Nat → Nat) (P : PP) (G J : GG) (L : LL)   : Met l y_D_fail w_D_fail ({ frames := 2, cells := 0, slots := 0, locals := 40 }) (kx_Pc (dC, dI) clA (tyL k5) (wD a k5 P G J L) [.ref (a 0)]) (kx_Q (dC, dI) clA (wD a k5 P G J L) (wS a k5 (d_fail P G J L ).1) (some (.int (d_fail P G J L ).2))) 0 0 (kx_A (wD a k5 P G J L)) := by
  refine Met.ofW (cc := c_D_fail) (maxL := 1) (ret := (some .int)) (by decide) rfl ?_
  intro p e s m args below meth c s₁ B hml hv
  obtain ⟨rfl, hP, hK, hD0⟩ := hv
  have hx := B.exec
  have hb := B.bytes
  have hr := B.returns
  have hts : ∀ w ∈ wsA, w.before _ s = true := fun w h => atoms_spec (ws := w_D_fail) B.pre w (List.mem_cons_of_mem _ h)
  have hown : s.vm.findClass R_D = some m.cls := findClass_of_methodNamed B.named
  have hlocks := B.notSynchronized
  have hD := kx_D.self hD0
  have hS : va_S (kx_A (wD a k5 P G J L)) s.heap s.heap [] := va_S.rf
  have hl := lv_entry ([.ref (a 0)]) (n := 1) (Nat.le_of_ble_eq_true rfl)
  rw [lg_entry_eq]
  generalize (lg_sl ([.ref (a 0)]) ++ List.replicate (1 - (lg_sl ([.ref (a 0)])).length) Slot.unset).toArray = ls at hl ⊢
  have hl : lv_has ls 1 [(0, .ref (a 0))] := hl
  refine lv_aload_n hx hb d_D_fail_0 rfl (lv_at hl 0 rfl) ?_
  refine va_get (D := (dC, dI)) (ci := 2) (v := .int (P.2.2.1)) (C := R_D) (T := T_D) (N := 9) hx hb hts wu_D hown hK hP 0 rfl rfl 8 (by decide) (hts _ wf_D_46) (fun _ h9 => h9) rfl d_D_fail_1 ?_
  refine lv_if_ne (tgt := 10) hx hb d_D_fail_4 (by decide) (fun hc_1 => ?_) (fun hc_1 => ?_)
  · refine lv_aload_n hx hb d_D_fail_10 rfl (lv_at hl 0 rfl) ?_
    refine kx_VW (w1 := (wD a k5 (pPow 0 P) (gClear G) J L)) (As := []) (rest := []) ⟨hx, hb, hml, hown, hts⟩ (k_D_powerFails l dC dI k5 a P G J L) (cwV 0 hts (goodV wm_D_87 wn_D_powerFails ws_D_powerFails wi_D wc_D_powerFails) rfl rfl rfl (by decide +kernel) ⟨Nat.le_of_ble_eq_true rfl, Nat.le_of_ble_eq_true rfl⟩) ⟨Nat.zero_le _, Nat.zero_le _⟩ hK hP hD hS 0 rfl rfl rfl rfl hl.1 rfl (Nat.le_of_ble_eq_true rfl) d_D_fail_11 (fun H locs hP hD hS => ?_)
    refine W.eq (g2 := F0 m 14 ls [.int (-2)]) rfl ?_
    refine lv_pop hx hb d_D_fail_14 rfl ?_
    refine lv_iconst (v := 0) hx hb d_D_fail_15 (by decide) ?_
    have e : d_fail P G J L  = (((pPow 0 P), (gClear G), J, L), 0) := by unfold d_fail; rw [if_neg hc_1]
    exact W.iret (v := 0) hx hb hr (fun t ht hW => kx_Qi (by rw [e]) ht hP (by rw [e]) hS rfl) hS.2.2 d_D_fail_16
  · refine lv_bipush (v := (-2)) hx hb d_D_fail_7 (by decide) ?_
    have e : d_fail P G J L  = ((P, G, J, L), (-2)) := by unfold d_fail; rw [if_pos hc_1]
    exact W.iret (v := (-2)) hx hb hr (fun t ht hW => kx_Qi (by rw [e]) ht hP (by rw [e]) hS rfl) hS.2.2 d_D_fail_9
def d_check (P : PP) (G J : GG) (L : LL)  : SS × Int32 := (if (P.2.2.1) = 0 then ((P, G, J, L), (-2)) else ((P, G, J, L), 0))
set_option maxHeartbeats 4000000 in
set_option maxRecDepth 100000 in
theorem k_D_check (l : Launch) (dC : Nat → ClassId) (dI : Nat → Nat → Nat) (k5 : Nat → ClassId) (a : Nat → Nat) (P : PP) (G J : GG) (L : LL)   : Met l y_D_check w_D_check ({ frames := 0, cells := 0, slots := 0, locals := 0 }) (kx_Pc (dC, dI) clA (tyL k5) (wD a k5 P G J L) [.ref (a 0)]) (kx_Q (dC, dI) clA (wD a k5 P G J L) (wS a k5 (d_check P G J L ).1) (some (.int (d_check P G J L ).2))) 0 0 (kx_A (wD a k5 P G J L)) := by
  refine Met.ofW (cc := c_D_check) (maxL := 1) (ret := (some .int)) (by decide) rfl ?_
  intro p e s m args below meth c s₁ B hml hv
  obtain ⟨rfl, hP, hK, hD0⟩ := hv
  have hx := B.exec
  have hb := B.bytes
  have hr := B.returns
  have hts : ∀ w ∈ wsA, w.before _ s = true := fun w h => atoms_spec (ws := w_D_check) B.pre w (List.mem_cons_of_mem _ h)
  have hown : s.vm.findClass R_D = some m.cls := findClass_of_methodNamed B.named
  have hlocks := B.notSynchronized
  have hD := kx_D.self hD0
  have hS : va_S (kx_A (wD a k5 P G J L)) s.heap s.heap [] := va_S.rf
  have hl := lv_entry ([.ref (a 0)]) (n := 1) (Nat.le_of_ble_eq_true rfl)
  rw [lg_entry_eq]
  generalize (lg_sl ([.ref (a 0)]) ++ List.replicate (1 - (lg_sl ([.ref (a 0)])).length) Slot.unset).toArray = ls at hl ⊢
  have hl : lv_has ls 1 [(0, .ref (a 0))] := hl
  refine lv_aload_n hx hb d_D_check_0 rfl (lv_at hl 0 rfl) ?_
  refine va_get (D := (dC, dI)) (ci := 2) (v := .int (P.2.2.1)) (C := R_D) (T := T_D) (N := 9) hx hb hts wu_D hown hK hP 0 rfl rfl 8 (by decide) (hts _ wf_D_46) (fun _ h9 => h9) rfl d_D_check_1 ?_
  refine lv_if_eq (tgt := 11) hx hb d_D_check_4 (by decide) (fun hc_1 => ?_) (fun hc_1 => ?_)
  · refine lv_bipush (v := (-2)) hx hb d_D_check_11 (by decide) ?_
    have e : d_check P G J L  = ((P, G, J, L), (-2)) := by unfold d_check; rw [if_pos hc_1]
    exact W.iret (v := (-2)) hx hb hr (fun t ht hW => kx_Qi (by rw [e]) ht hP (by rw [e]) hS rfl) hS.2.2 d_D_check_13
  · refine lv_iconst (v := 0) hx hb d_D_check_7 (by decide) ?_
    refine lv_goto (tgt := 13) hx hb d_D_check_8 (by decide) ?_
    have e : d_check P G J L  = ((P, G, J, L), 0) := by unfold d_check; rw [if_neg hc_1]
    exact W.iret (v := 0) hx hb hr (fun t ht hW => kx_Qi (by rw [e]) ht hP (by rw [e]) hS rfl) hS.2.2 d_D_check_13
def d_gone (P : PP) (G J : GG) (L : LL) (n : Nat) (t : Int32) : SS × Int32 := (if (bI (decide (¬ t < 2 ∧ ¬ P.2.1 ≤ t))) = 0 then ((P, G, J, L), (-1)) else ((P, G, J, L), (nI (pGoneIn P t n))))
set_option maxHeartbeats 4000000 in
set_option maxRecDepth 100000 in
theorem k_D_gone (l : Launch) (dC : Nat → ClassId) (dI : Nat → Nat → Nat) (k5 : Nat → ClassId) (a : Nat → Nat) (P : PP) (G J : GG) (L : LL) (n : Nat) (t : Int32) (hn : P.1 = nI n) (hn8 : n ≤ 8) : Met l y_D_gone w_D_gone ({ frames := 3, cells := 0, slots := 0, locals := 67 }) (kx_Pc (dC, dI) clA (tyL k5) (wD a k5 P G J L) [.ref (a 0), .int t]) (kx_Q (dC, dI) clA (wD a k5 P G J L) (wS a k5 (d_gone P G J L n t).1) (some (.int (d_gone P G J L n t).2))) 0 0 (kx_A (wD a k5 P G J L)) := by
  refine Met.ofW (cc := c_D_gone) (maxL := 2) (ret := (some .int)) (by decide) rfl ?_
  intro p e s m args below meth c s₁ B hml hv
  obtain ⟨rfl, hP, hK, hD0⟩ := hv
  have hx := B.exec
  have hb := B.bytes
  have hr := B.returns
  have hts : ∀ w ∈ wsA, w.before _ s = true := fun w h => atoms_spec (ws := w_D_gone) B.pre w (List.mem_cons_of_mem _ h)
  have hown : s.vm.findClass R_D = some m.cls := findClass_of_methodNamed B.named
  have hlocks := B.notSynchronized
  have hD := kx_D.self hD0
  have hS : va_S (kx_A (wD a k5 P G J L)) s.heap s.heap [] := va_S.rf
  have hl := lv_entry ([.ref (a 0), .int t]) (n := 2) (Nat.le_of_ble_eq_true rfl)
  rw [lg_entry_eq]
  generalize (lg_sl ([.ref (a 0), .int t]) ++ List.replicate (2 - (lg_sl ([.ref (a 0), .int t])).length) Slot.unset).toArray = ls at hl ⊢
  have hl : lv_has ls 2 [(0, .ref (a 0)), (1, .int t)] := hl
  refine lv_aload_n hx hb d_D_gone_0 rfl (lv_at hl 0 rfl) ?_
  refine lv_iload_n hx hb d_D_gone_1 rfl (lv_at hl 1 rfl) ?_
  refine kx_VRW (As := [.int t]) (rest := []) ⟨hx, hb, hml, hown, hts⟩ (k_D_isRow l dC dI k5 a P G J L t) (cwV 1 hts (goodV wm_D_129 wn_D_isRow ws_D_isRow wi_D wc_D_isRow) rfl rfl rfl (by decide +kernel) ⟨Nat.le_of_ble_eq_true rfl, Nat.le_of_ble_eq_true rfl⟩) ⟨Nat.zero_le _, Nat.zero_le _⟩ hK hP hD 0 rfl rfl rfl hl.1 rfl (Nat.le_of_ble_eq_true rfl) d_D_gone_2 ?_
  refine W.eq (g2 := F0 m 5 ls [.int (bI (decide (¬ t < 2 ∧ ¬ P.2.1 ≤ t)))]) rfl ?_
  refine lv_if_eq (tgt := 16) hx hb d_D_gone_5 (by decide) (fun hc_1 => ?_) (fun hc_1 => ?_)
  · refine lv_iconst (v := (-1)) hx hb d_D_gone_16 (by decide) ?_
    have e : d_gone P G J L n t = ((P, G, J, L), (-1)) := by unfold d_gone; rw [if_pos hc_1]
    exact W.iret (v := (-1)) hx hb hr (fun t ht hW => kx_Qi (by rw [e]) ht hP (by rw [e]) hS rfl) hS.2.2 d_D_gone_17
  · refine lv_aload_n hx hb d_D_gone_8 rfl (lv_at hl 0 rfl) ?_
    refine lv_iload_n hx hb d_D_gone_9 rfl (lv_at hl 1 rfl) ?_
    refine kx_VRW (As := [.int t]) (rest := []) ⟨hx, hb, hml, hown, hts⟩ (k_D_goneIn l dC dI k5 a P G J L t n hn hn8) (cwV 1 hts (goodV wm_D_135 wn_D_goneIn ws_D_goneIn wi_D wc_D_goneIn) rfl rfl rfl (by decide +kernel) ⟨Nat.le_of_ble_eq_true rfl, Nat.le_of_ble_eq_true rfl⟩) ⟨Nat.zero_le _, Nat.zero_le _⟩ hK hP hD 0 rfl rfl rfl hl.1 rfl (Nat.le_of_ble_eq_true rfl) d_D_gone_10 ?_
    refine W.eq (g2 := F0 m 13 ls [.int (nI (pGoneIn P t n))]) rfl ?_
    refine lv_goto (tgt := 17) hx hb d_D_gone_13 (by decide) ?_
    have e : d_gone P G J L n t = ((P, G, J, L), (nI (pGoneIn P t n))) := by unfold d_gone; rw [if_neg hc_1]
    exact W.iret (v := (nI (pGoneIn P t n))) hx hb hr (fun t ht hW => kx_Qi (by rw [e]) ht hP (by rw [e]) hS rfl) hS.2.2 d_D_gone_17
def d_status (P : PP) (G J : GG) (L : LL) (n : Nat) (d : Int32) : SS × Int32 := (if (bI (decide (¬ d < 0 ∧ ¬ P.1 ≤ d))) = 0 then ((P, G, J, L), (-3)) else ((P, G, J, L), ((P.2.2.2.1) d.toNatClampNeg)))
set_option maxHeartbeats 4000000 in
set_option maxRecDepth 100000 in
theorem k_D_status (l : Launch) (dC : Nat → ClassId) (dI : Nat → Nat → Nat) (k5 : Nat → ClassId) (a : Nat → Nat) (P : PP) (G J : GG) (L : LL) (n : Nat) (d : Int32) (hn : P.1 = nI n) (hn8 : n ≤ 8) : Met l y_D_status w_D_status ({ frames := 1, cells := 0, slots := 0, locals := 21 }) (kx_Pc (dC, dI) clA (tyL k5) (wD a k5 P G J L) [.ref (a 0), .int d]) (kx_Q (dC, dI) clA (wD a k5 P G J L) (wS a k5 (d_status P G J L n d).1) (some (.int (d_status P G J L n d).2))) 0 0 (kx_A (wD a k5 P G J L)) := by
  refine Met.ofW (cc := c_D_status) (maxL := 2) (ret := (some .int)) (by decide) rfl ?_
  intro p e s m args below meth c s₁ B hml hv
  obtain ⟨rfl, hP, hK, hD0⟩ := hv
  have hx := B.exec
  have hb := B.bytes
  have hr := B.returns
  have hts : ∀ w ∈ wsA, w.before _ s = true := fun w h => atoms_spec (ws := w_D_status) B.pre w (List.mem_cons_of_mem _ h)
  have hown : s.vm.findClass R_D = some m.cls := findClass_of_methodNamed B.named
  have hlocks := B.notSynchronized
  have hD := kx_D.self hD0
  have hS : va_S (kx_A (wD a k5 P G J L)) s.heap s.heap [] := va_S.rf
  have hl := lv_entry ([.ref (a 0), .int d]) (n := 2) (Nat.le_of_ble_eq_true rfl)
  rw [lg_entry_eq]
  generalize (lg_sl ([.ref (a 0), .int d]) ++ List.replicate (2 - (lg_sl ([.ref (a 0), .int d])).length) Slot.unset).toArray = ls at hl ⊢
  have hl : lv_has ls 2 [(0, .ref (a 0)), (1, .int d)] := hl
  refine lv_aload_n hx hb d_D_status_0 rfl (lv_at hl 0 rfl) ?_
  refine lv_iload_n hx hb d_D_status_1 rfl (lv_at hl 1 rfl) ?_
  refine kx_VRW (As := [.int d]) (rest := []) ⟨hx, hb, hml, hown, hts⟩ (k_D_isDisk l dC dI k5 a P G J L d) (cwV 1 hts (goodV wm_D_115 wn_D_isDisk ws_D_isDisk wi_D wc_D_isDisk) rfl rfl rfl (by decide +kernel) ⟨Nat.le_of_ble_eq_true rfl, Nat.le_of_ble_eq_true rfl⟩) ⟨Nat.zero_le _, Nat.zero_le _⟩ hK hP hD 0 rfl rfl rfl hl.1 rfl (Nat.le_of_ble_eq_true rfl) d_D_status_2 ?_
  refine W.eq (g2 := F0 m 5 ls [.int (bI (decide (¬ d < 0 ∧ ¬ P.1 ≤ d)))]) rfl ?_
  refine lv_if_eq (tgt := 17) hx hb d_D_status_5 (by decide) (fun hc_1 => ?_) (fun hc_1 => ?_)
  · refine lv_bipush (v := (-3)) hx hb d_D_status_17 (by decide) ?_
    have e : d_status P G J L n d = ((P, G, J, L), (-3)) := by unfold d_status; rw [if_pos hc_1]
    exact W.iret (v := (-3)) hx hb hr (fun t ht hW => kx_Qi (by rw [e]) ht hP (by rw [e]) hS rfl) hS.2.2 d_D_status_19
  · refine lv_aload_n hx hb d_D_status_8 rfl (lv_at hl 0 rfl) ?_
    refine va_get (D := (dC, dI)) (ci := 2) (v := .ref (a 1)) (C := R_D) (T := T_D) (N := 9) hx hb hts wu_D hown hK hP 0 rfl rfl 0 (by decide) (hts _ wf_D_9) (fun _ h9 => h9) rfl d_D_status_9 ?_
    refine lv_iload_n hx hb d_D_status_12 rfl (lv_at hl 1 rfl) ?_
    refine kx_iald hx hb hK hP 1 0 rfl rfl d.toNatClampNeg ((isD (bI_t hc_1) hn (by omega)).1) (by have := (isD (bI_t hc_1) hn (by omega)).2; omega) (by omega) d_D_status_13 ?_
    refine lv_goto (tgt := 19) hx hb d_D_status_14 (by decide) ?_
    have e : d_status P G J L n d = ((P, G, J, L), ((P.2.2.2.1) d.toNatClampNeg)) := by unfold d_status; rw [if_neg hc_1]
    exact W.iret (v := ((P.2.2.2.1) d.toNatClampNeg)) hx hb hr (fun t ht hW => kx_Qi (by rw [e]) ht hP (by rw [e]) hS rfl) hS.2.2 d_D_status_19
def d_forget (P : PP) (G J : GG) (L : LL)  : SS × Int32 := (if (P.2.2.1) = 0 then ((P, G, J, L), (-2)) else ((P, (gClear G), J, L), G.1))
set_option maxHeartbeats 4000000 in
set_option maxRecDepth 100000 in
theorem k_D_forget (l : Launch) (dC : Nat → ClassId) (dI : Nat → Nat → Nat) (k5 : Nat → ClassId) (a : Nat → Nat) (P : PP) (G J : GG) (L : LL)   : Met l y_D_forget w_D_forget ({ frames := 1, cells := 0, slots := 0, locals := 20 }) (kx_Pc (dC, dI) clA (tyL k5) (wD a k5 P G J L) [.ref (a 0)]) (kx_Q (dC, dI) clA (wD a k5 P G J L) (wS a k5 (d_forget P G J L ).1) (some (.int (d_forget P G J L ).2))) 0 0 (kx_A (wD a k5 P G J L)) := by
  refine Met.ofW (cc := c_D_forget) (maxL := 2) (ret := (some .int)) (by decide) rfl ?_
  intro p e s m args below meth c s₁ B hml hv
  obtain ⟨rfl, hP, hK, hD0⟩ := hv
  have hx := B.exec
  have hb := B.bytes
  have hr := B.returns
  have hts : ∀ w ∈ wsA, w.before _ s = true := fun w h => atoms_spec (ws := w_D_forget) B.pre w (List.mem_cons_of_mem _ h)
  have hown : s.vm.findClass R_D = some m.cls := findClass_of_methodNamed B.named
  have hlocks := B.notSynchronized
  have hD := kx_D.self hD0
  have hS : va_S (kx_A (wD a k5 P G J L)) s.heap s.heap [] := va_S.rf
  have hl := lv_entry ([.ref (a 0)]) (n := 2) (Nat.le_of_ble_eq_true rfl)
  rw [lg_entry_eq]
  generalize (lg_sl ([.ref (a 0)]) ++ List.replicate (2 - (lg_sl ([.ref (a 0)])).length) Slot.unset).toArray = ls at hl ⊢
  have hl : lv_has ls 2 [(0, .ref (a 0))] := hl
  refine lv_aload_n hx hb d_D_forget_0 rfl (lv_at hl 0 rfl) ?_
  refine va_get (D := (dC, dI)) (ci := 2) (v := .int (P.2.2.1)) (C := R_D) (T := T_D) (N := 9) hx hb hts wu_D hown hK hP 0 rfl rfl 8 (by decide) (hts _ wf_D_46) (fun _ h9 => h9) rfl d_D_forget_1 ?_
  refine lv_if_ne (tgt := 10) hx hb d_D_forget_4 (by decide) (fun hc_1 => ?_) (fun hc_1 => ?_)
  · refine lv_aload_n hx hb d_D_forget_10 rfl (lv_at hl 0 rfl) ?_
    refine va_get (D := (dC, dI)) (ci := 2) (v := .ref (a 4)) (C := R_D) (T := T_D) (N := 9) hx hb hts wu_D hown hK hP 0 rfl rfl 3 (by decide) (hts _ wf_D_24) (fun _ h9 => h9) rfl d_D_forget_11 ?_
    refine kx_VR (As := []) (rest := []) ⟨hx, hb, hml, hown, hts⟩ (k_G_size l dC dI k5 (a 4) (a 5) (a 6) (a 7) (G.1) (G.2.1) (G.2.2.1) (G.2.2.2.1) (G.2.2.2.2) ) (cwV 0 hts (goodV wm_D_112 wn_G_size ws_G_size wi_G wc_G_size) rfl rfl rfl (by decide +kernel) ⟨Nat.le_of_ble_eq_true rfl, Nat.le_of_ble_eq_true rfl⟩) ⟨Nat.zero_le _, Nat.zero_le _⟩ hK hP hD [4, 5, 6, 7] (by decide) rfl 0 rfl rfl rfl hl.1 rfl (Nat.le_of_ble_eq_true rfl) d_D_forget_14 ?_
    refine W.eq (g2 := F0 m 17 ls [.int G.1]) rfl ?_
    refine lv_istore_n (lv' := [(1, .int G.1), (0, .ref (a 0))]) hx hb d_D_forget_17 rfl hl (by decide) rfl (fun ls hl => ?_)
    refine lv_aload_n hx hb d_D_forget_18 rfl (lv_at hl 1 rfl) ?_
    refine va_get (D := (dC, dI)) (ci := 2) (v := .ref (a 4)) (C := R_D) (T := T_D) (N := 9) hx hb hts wu_D hown hK hP 0 rfl rfl 3 (by decide) (hts _ wf_D_24) (fun _ h9 => h9) rfl d_D_forget_19 ?_
    refine kx_V (ws2 := (wD a k5 P (gClear G) J L)) (As := []) (rest := []) ⟨hx, hb, hml, hown, hts⟩ (k_G_clear l dC dI k5 (a 4) (a 5) (a 6) (a 7) (G.1) (G.2.1) (G.2.2.1) (G.2.2.2.1) (G.2.2.2.2) ) (cwV 0 hts (goodV wm_D_109 wn_G_clear ws_G_clear wi_G wc_G_clear) rfl rfl rfl (by decide +kernel) ⟨Nat.le_of_ble_eq_true rfl, Nat.le_of_ble_eq_true rfl⟩) ⟨Nat.zero_le _, Nat.zero_le _⟩ hK hP hD hS [4, 5, 6, 7] (by decide) rfl 0 rfl rfl rfl rfl rfl rfl hl.1 rfl (Nat.le_of_ble_eq_true rfl) d_D_forget_22 (fun H locs hP hD hS => ?_)
    refine W.eq (g2 := F0 m 25 ls []) rfl ?_
    refine lv_iload_n hx hb d_D_forget_25 rfl (lv_at hl 0 rfl) ?_
    have e : d_forget P G J L  = ((P, (gClear G), J, L), G.1) := by unfold d_forget; rw [if_neg hc_1]
    exact W.iret (v := G.1) hx hb hr (fun t ht hW => kx_Qi (by rw [e]) ht hP (by rw [e]) hS rfl) hS.2.2 d_D_forget_26
  · refine lv_bipush (v := (-2)) hx hb d_D_forget_7 (by decide) ?_
    have e : d_forget P G J L  = ((P, G, J, L), (-2)) := by unfold d_forget; rw [if_pos hc_1]
    exact W.iret (v := (-2)) hx hb hr (fun t ht hW => kx_Qi (by rw [e]) ht hP (by rw [e]) hS rfl) hS.2.2 d_D_forget_9
