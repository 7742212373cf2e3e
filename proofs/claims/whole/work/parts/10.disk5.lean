def d_write (P : PP) (G J : GG) (L : LL) (tk : Nat) (b t cn v : Int32) : SS × Int32 := (if (P.2.2.1) = 0 then ((P, G, J, L), (-2)) else (if (bI (decide (¬ b < 0 ∧ ¬ (P.1 - 2) * (P.2.1 - 6) ≤ b ∧ ¬ t < 0 ∧ ¬ 64 ≤ t))) = 0 then ((P, G, J, L), (-1)) else (if cn < 1 then ((P, G, J, L), (-1)) else (if (64 - t) < cn then ((P, G, J, L), (-1)) else (if v < 0 then ((P, G, J, L), (-1)) else (if v ≤ 255 then (if 0 ≤ (oI (gFind G.2.2.1 b tk)) then ((P, (gSet (((oI (gFind G.2.2.1 b tk)) * 64 + t).toNatClampNeg) (cn.toNatClampNeg) v.toInt8.toInt32 G), J, L), (gUse (gSet (((oI (gFind G.2.2.1 b tk)) * 64 + t).toNatClampNeg) (cn.toNatClampNeg) v.toInt8.toInt32 G))) else (if (gMore G tk (6 + b / (P.1 - 2))) ≤ (4 * ((P.1) - 2)) then ((P, (gSet (((nI tk) * 64 + t).toNatClampNeg) (cn.toNatClampNeg) v.toInt8.toInt32 (gTake (b.toNatClampNeg) tk (6 + b / (P.1 - 2)) (pKp P) G)), J, L), (gUse (gSet (((nI tk) * 64 + t).toNatClampNeg) (cn.toNatClampNeg) v.toInt8.toInt32 (gTake (b.toNatClampNeg) tk (6 + b / (P.1 - 2)) (pKp P) G)))) else ((P, G, J, L), (-3)))) else ((P, G, J, L), (-1))))))))
set_option maxHeartbeats 4000000 in
set_option maxRecDepth 100000 in
theorem k_D_write (l : Launch) (dC : Nat → ClassId) (dI : Nat → Nat → Nat) (k5 : Nat → ClassId) (a : Nat → Nat) (P : PP) (G J : GG) (L : LL) (tk : Nat) (b t cn v : Int32) (n r : Nat) (hn : P.1 = nI n) (hn4 : 4 ≤ n) (hn8 : n ≤ 8) (er : P.2.1 = nI r) (hr2 : 12 ≤ r) (hr40 : r ≤ 40) (hG : GI G tk) (htk : tk ≤ 21) (hK2 : sb_Fit (pKp P)) : Met l y_D_write w_D_write ({ frames := 3, cells := 0, slots := 0, locals := 71 }) (kx_Pc (dC, dI) clA (tyL k5) (wD a k5 P G J L) [.ref (a 0), .int b, .int t, .int cn, .int v]) (kx_Q (dC, dI) clA (wD a k5 P G J L) (wS a k5 (d_write P G J L tk b t cn v).1) (some (.int (d_write P G J L tk b t cn v).2))) 0 0 (kx_A (wD a k5 P G J L)) := by
  refine Met.ofW (cc := c_D_write) (maxL := 7) (ret := (some .int)) (by decide) rfl ?_
  intro p e s m args below meth c s₁ B hml hv
  obtain ⟨rfl, hP, hK, hD0⟩ := hv
  have hx := B.exec
  have hb := B.bytes
  have hr := B.returns
  have hts : ∀ w ∈ wsA, w.before _ s = true := fun w h => atoms_spec (ws := w_D_write) B.pre w (List.mem_cons_of_mem _ h)
  have hown : s.vm.findClass R_D = some m.cls := findClass_of_methodNamed B.named
  have hlocks := B.notSynchronized
  have hD := kx_D.self hD0
  have hS : va_S (kx_A (wD a k5 P G J L)) s.heap s.heap [] := va_S.rf
  have hl := lv_entry ([.ref (a 0), .int b, .int t, .int cn, .int v]) (n := 7) (Nat.le_of_ble_eq_true rfl)
  rw [lg_entry_eq]
  generalize (lg_sl ([.ref (a 0), .int b, .int t, .int cn, .int v]) ++ List.replicate (7 - (lg_sl ([.ref (a 0), .int b, .int t, .int cn, .int v])).length) Slot.unset).toArray = ls at hl ⊢
  have hl : lv_has ls 7 [(0, .ref (a 0)), (1, .int b), (2, .int t), (3, .int cn), (4, .int v)] := hl
  refine lv_aload_n hx hb d_D_write_0 rfl (lv_at hl 0 rfl) ?_
  refine va_get (D := (dC, dI)) (ci := 2) (v := .int (P.2.2.1)) (C := R_D) (T := T_D) (N := 9) hx hb hts wu_D hown hK hP 0 rfl rfl 8 (by decide) (hts _ wf_D_46) (fun _ h9 => h9) rfl d_D_write_1 ?_
  refine lv_if_ne (tgt := 10) hx hb d_D_write_4 (by decide) (fun hc_1 => ?_) (fun hc_1 => ?_)
  · refine lv_aload_n hx hb d_D_write_10 rfl (lv_at hl 0 rfl) ?_
    refine lv_iload_n hx hb d_D_write_11 rfl (lv_at hl 1 rfl) ?_
    refine lv_iload_n hx hb d_D_write_12 rfl (lv_at hl 2 rfl) ?_
    refine kx_VRW (As := [.int b, .int t]) (rest := []) ⟨hx, hb, hml, hown, hts⟩ (k_D_isByte l dC dI k5 a P G J L b t) (cwV 2 hts (goodV wm_D_50 wn_D_isByte ws_D_isByte wi_D wc_D_isByte) rfl rfl rfl (by decide +kernel) ⟨Nat.le_of_ble_eq_true rfl, Nat.le_of_ble_eq_true rfl⟩) ⟨Nat.zero_le _, Nat.zero_le _⟩ hK hP hD 0 rfl rfl rfl hl.1 rfl (Nat.le_of_ble_eq_true rfl) d_D_write_13 ?_
    refine W.eq (g2 := F0 m 16 ls [.int (bI (decide (¬ b < 0 ∧ ¬ (P.1 - 2) * (P.2.1 - 6) ≤ b ∧ ¬ t < 0 ∧ ¬ 64 ≤ t)))]) rfl ?_
    refine lv_if_eq (tgt := 45) hx hb d_D_write_16 (by decide) (fun hc_2 => ?_) (fun hc_2 => ?_)
    · refine lv_iconst (v := (-1)) hx hb d_D_write_45 (by decide) ?_
      have e : d_write P G J L tk b t cn v = ((P, G, J, L), (-1)) := by unfold d_write; rw [if_neg hc_1, if_pos hc_2]
      exact W.iret (v := (-1)) hx hb hr (fun t ht hW => kx_Qi (by rw [e]) ht hP (by rw [e]) hS rfl) hS.2.2 d_D_write_46
    · refine lv_iload_n hx hb d_D_write_19 rfl (lv_at hl 3 rfl) ?_
      refine lv_iconst (v := 1) hx hb d_D_write_20 (by decide) ?_
      refine lv_icmp_lt (tgt := 45) hx hb d_D_write_21 (by decide) (fun hc_3 => ?_) (fun hc_3 => ?_)
      · refine lv_iconst (v := (-1)) hx hb d_D_write_45 (by decide) ?_
        have e : d_write P G J L tk b t cn v = ((P, G, J, L), (-1)) := by unfold d_write; rw [if_neg hc_1, if_neg hc_2, if_pos hc_3]
        exact W.iret (v := (-1)) hx hb hr (fun t ht hW => kx_Qi (by rw [e]) ht hP (by rw [e]) hS rfl) hS.2.2 d_D_write_46
      · refine lv_iload_n hx hb d_D_write_24 rfl (lv_at hl 3 rfl) ?_
        refine lv_bipush (v := 64) hx hb d_D_write_25 (by decide) ?_
        refine lv_iload_n hx hb d_D_write_27 rfl (lv_at hl 2 rfl) ?_
        refine lv_isub hx hb d_D_write_28 ?_
        refine lv_icmp_gt (tgt := 45) hx hb d_D_write_29 (by decide) (fun hc_4 => ?_) (fun hc_4 => ?_)
        · refine lv_iconst (v := (-1)) hx hb d_D_write_45 (by decide) ?_
          have e : d_write P G J L tk b t cn v = ((P, G, J, L), (-1)) := by unfold d_write; rw [if_neg hc_1, if_neg hc_2, if_neg hc_3, if_pos hc_4]
          exact W.iret (v := (-1)) hx hb hr (fun t ht hW => kx_Qi (by rw [e]) ht hP (by rw [e]) hS rfl) hS.2.2 d_D_write_46
        · refine lv_iload hx hb d_D_write_32 (lv_at hl 4 rfl) ?_
          refine lv_if_lt (tgt := 45) hx hb d_D_write_34 (by decide) (fun hc_5 => ?_) (fun hc_5 => ?_)
          · refine lv_iconst (v := (-1)) hx hb d_D_write_45 (by decide) ?_
            have e : d_write P G J L tk b t cn v = ((P, G, J, L), (-1)) := by unfold d_write; rw [if_neg hc_1, if_neg hc_2, if_neg hc_3, if_neg hc_4, if_pos hc_5]
            exact W.iret (v := (-1)) hx hb hr (fun t ht hW => kx_Qi (by rw [e]) ht hP (by rw [e]) hS rfl) hS.2.2 d_D_write_46
          · refine lv_iload hx hb d_D_write_37 (lv_at hl 4 rfl) ?_
            refine lv_sipush (v := 255) hx hb d_D_write_39 (by decide) ?_
            refine lv_icmp_le (tgt := 47) hx hb d_D_write_42 (by decide) (fun hc_6 => ?_) (fun hc_6 => ?_)
            · obtain ⟨eb, et, hβ, hα, h204⟩ := isB (bI_t hc_2) hn er hn4 hn8 hr2 hr40
              refine lv_aload_n hx hb d_D_write_47 rfl (lv_at hl 0 rfl) ?_
              refine va_get (D := (dC, dI)) (ci := 2) (v := .ref (a 4)) (C := R_D) (T := T_D) (N := 9) hx hb hts wu_D hown hK hP 0 rfl rfl 3 (by decide) (hts _ wf_D_24) (fun _ h9 => h9) rfl d_D_write_48 ?_
              refine lv_iload_n hx hb d_D_write_51 rfl (lv_at hl 1 rfl) ?_
              refine kx_VR (As := [.int b]) (rest := []) ⟨hx, hb, hml, hown, hts⟩ (k_G_placeOf l dC dI k5 (a 4) (a 5) (a 6) (a 7) (G.1) (G.2.1) (G.2.2.1) (G.2.2.2.1) (G.2.2.2.2) tk hG.2.1 b hG.1) (cwV 1 hts (goodV wm_D_54 wn_G_placeOf ws_G_placeOf wi_G wc_G_placeOf) rfl rfl rfl (by decide +kernel) ⟨Nat.le_of_ble_eq_true rfl, Nat.le_of_ble_eq_true rfl⟩) ⟨Nat.zero_le _, Nat.zero_le _⟩ hK hP hD [4, 5, 6, 7] (by decide) rfl 0 rfl rfl rfl hl.1 rfl (Nat.le_of_ble_eq_true rfl) d_D_write_52 ?_
              refine W.eq (g2 := F0 m 55 ls [.int (oI (gFind G.2.2.1 b tk))]) rfl ?_
              refine lv_istore (lv' := [(5, .int (oI (gFind G.2.2.1 b tk))), (0, .ref (a 0)), (1, .int b), (2, .int t), (3, .int cn), (4, .int v)]) hx hb d_D_write_55 hl (by decide) rfl (fun ls hl => ?_)
              refine lv_iload hx hb d_D_write_57 (lv_at hl 0 rfl) ?_
              refine lv_if_ge (tgt := 108) hx hb d_D_write_59 (by decide) (fun hc_7 => ?_) (fun hc_7 => ?_)
              · refine lv_aload_n hx hb d_D_write_108 rfl (lv_at hl 1 rfl) ?_
                refine va_get (D := (dC, dI)) (ci := 2) (v := .ref (a 4)) (C := R_D) (T := T_D) (N := 9) hx hb hts wu_D hown hK hP 0 rfl rfl 3 (by decide) (hts _ wf_D_24) (fun _ h9 => h9) rfl d_D_write_109 ?_
                refine lv_iload hx hb d_D_write_112 (lv_at hl 0 rfl) ?_
                refine lv_iload_n hx hb d_D_write_114 rfl (lv_at hl 3 rfl) ?_
                refine lv_iload_n hx hb d_D_write_115 rfl (lv_at hl 4 rfl) ?_
                refine lv_iload hx hb d_D_write_116 (lv_at hl 5 rfl) ?_
                obtain ⟨p9, ep⟩ := oI_ge hc_7
                have hp9 := (gFind_spec ep).1
                have s9 := set64 (pl := (oI (gFind G.2.2.1 b tk))) (p := p9) (n := 0) (by rw [ep]; rfl) et hα (by omega) hc_3 hc_4
                refine kx_V (ws2 := (wD a k5 P (gSet (((oI (gFind G.2.2.1 b tk)) * 64 + t).toNatClampNeg) (cn.toNatClampNeg) v.toInt8.toInt32 G) J L)) (As := [.int (oI (gFind G.2.2.1 b tk)), .int t, .int cn, .int v]) (rest := []) ⟨hx, hb, hml, hown, hts⟩ (k_G_set l dC dI k5 (a 4) (a 5) (a 6) (a 7) (G.1) (G.2.1) (G.2.2.1) (G.2.2.2.1) (G.2.2.2.2) (oI (gFind G.2.2.1 b tk)) t cn v (((oI (gFind G.2.2.1 b tk)) * 64 + t).toNatClampNeg) (cn.toNatClampNeg) s9.2.2.1 s9.1 s9.2.1) (cwV 4 hts (goodV wm_D_72 wn_G_set ws_G_set wi_G wc_G_set) rfl rfl rfl (by decide +kernel) ⟨Nat.le_of_ble_eq_true rfl, Nat.le_of_ble_eq_true rfl⟩) ⟨Nat.zero_le _, Nat.zero_le _⟩ hK hP hD hS [4, 5, 6, 7] (by decide) rfl 0 rfl rfl rfl rfl rfl rfl hl.1 rfl (Nat.le_of_ble_eq_true rfl) d_D_write_118 (fun H locs hP hD hS => ?_)
                refine W.eq (g2 := F0 m 121 ls []) rfl ?_
                refine lv_aload_n hx hb d_D_write_121 rfl (lv_at hl 1 rfl) ?_
                refine va_get (D := (dC, dI)) (ci := 2) (v := .ref (a 4)) (C := R_D) (T := T_D) (N := 9) hx hb hts wu_D hown hK hP 0 rfl rfl 3 (by decide) (hts _ wf_D_24) (fun _ h9 => h9) rfl d_D_write_122 ?_
                refine kx_VR (As := []) (rest := []) ⟨hx, hb, hml, hown, hts⟩ (k_G_use l dC dI k5 (a 4) (a 5) (a 6) (a 7) ((gSet (((oI (gFind G.2.2.1 b tk)) * 64 + t).toNatClampNeg) (cn.toNatClampNeg) v.toInt8.toInt32 G).1) ((gSet (((oI (gFind G.2.2.1 b tk)) * 64 + t).toNatClampNeg) (cn.toNatClampNeg) v.toInt8.toInt32 G).2.1) ((gSet (((oI (gFind G.2.2.1 b tk)) * 64 + t).toNatClampNeg) (cn.toNatClampNeg) v.toInt8.toInt32 G).2.2.1) ((gSet (((oI (gFind G.2.2.1 b tk)) * 64 + t).toNatClampNeg) (cn.toNatClampNeg) v.toInt8.toInt32 G).2.2.2.1) ((gSet (((oI (gFind G.2.2.1 b tk)) * 64 + t).toNatClampNeg) (cn.toNatClampNeg) v.toInt8.toInt32 G).2.2.2.2) ) (cwV 0 hts (goodV wm_D_76 wn_G_use ws_G_use wi_G wc_G_use) rfl rfl rfl (by decide +kernel) ⟨Nat.le_of_ble_eq_true rfl, Nat.le_of_ble_eq_true rfl⟩) ⟨Nat.zero_le _, Nat.zero_le _⟩ hK hP hD [4, 5, 6, 7] (by decide) rfl 0 rfl rfl rfl hl.1 rfl (Nat.le_of_ble_eq_true rfl) d_D_write_125 ?_
                refine W.eq (g2 := F0 m 128 ls [.int (gUse (gSet (((oI (gFind G.2.2.1 b tk)) * 64 + t).toNatClampNeg) (cn.toNatClampNeg) v.toInt8.toInt32 G))]) rfl ?_
                have e : d_write P G J L tk b t cn v = ((P, (gSet (((oI (gFind G.2.2.1 b tk)) * 64 + t).toNatClampNeg) (cn.toNatClampNeg) v.toInt8.toInt32 G), J, L), (gUse (gSet (((oI (gFind G.2.2.1 b tk)) * 64 + t).toNatClampNeg) (cn.toNatClampNeg) v.toInt8.toInt32 G))) := by unfold d_write; rw [if_neg hc_1, if_neg hc_2, if_neg hc_3, if_neg hc_4, if_neg hc_5, if_pos hc_6, if_pos hc_7]
                exact W.iret (v := (gUse (gSet (((oI (gFind G.2.2.1 b tk)) * 64 + t).toNatClampNeg) (cn.toNatClampNeg) v.toInt8.toInt32 G))) hx hb hr (fun t ht hW => kx_Qi (by rw [e]) ht hP (by rw [e]) hS rfl) hS.2.2 d_D_write_128
              · refine lv_aload_n hx hb d_D_write_62 rfl (lv_at hl 1 rfl) ?_
                refine lv_iload_n hx hb d_D_write_63 rfl (lv_at hl 2 rfl) ?_
                refine kx_VRW (As := [.int b]) (rest := []) ⟨hx, hb, hml, hown, hts⟩ (k_D_rowOf l dC dI k5 a P G J L b (by rw [hn, show (nI n - 2) = nI (n - 2) from pk_sub (a := n) (b := 2) (by omega)]; exact nI_ne0 (by omega) (by omega))) (cwV 1 hts (goodV wm_D_58 wn_D_rowOf ws_D_rowOf wi_D wc_D_rowOf) rfl rfl rfl (by decide +kernel) ⟨Nat.le_of_ble_eq_true rfl, Nat.le_of_ble_eq_true rfl⟩) ⟨Nat.zero_le _, Nat.zero_le _⟩ hK hP hD 0 rfl rfl rfl hl.1 rfl (Nat.le_of_ble_eq_true rfl) d_D_write_64 ?_
                refine W.eq (g2 := F0 m 67 ls [.int (6 + b / (P.1 - 2))]) rfl ?_
                refine lv_istore (lv' := [(6, .int (6 + b / (P.1 - 2))), (5, .int (oI (gFind G.2.2.1 b tk))), (0, .ref (a 0)), (1, .int b), (2, .int t), (3, .int cn), (4, .int v)]) hx hb d_D_write_67 hl (by decide) rfl (fun ls hl => ?_)
                refine lv_aload_n hx hb d_D_write_69 rfl (lv_at hl 2 rfl) ?_
                refine va_get (D := (dC, dI)) (ci := 2) (v := .ref (a 4)) (C := R_D) (T := T_D) (N := 9) hx hb hts wu_D hown hK hP 0 rfl rfl 3 (by decide) (hts _ wf_D_24) (fun _ h9 => h9) rfl d_D_write_70 ?_
                refine lv_iload hx hb d_D_write_73 (lv_at hl 0 rfl) ?_
                refine kx_VR (As := [.int (6 + b / (P.1 - 2))]) (rest := []) ⟨hx, hb, hml, hown, hts⟩ (k_G_useWithOneMore l dC dI k5 (a 4) (a 5) (a 6) (a 7) (G.1) (G.2.1) (G.2.2.1) (G.2.2.2.1) (G.2.2.2.2) tk hG.2.1 (6 + b / (P.1 - 2)) hG.1) (cwV 1 hts (goodV wm_D_61 wn_G_useWithOneMore ws_G_useWithOneMore wi_G wc_G_useWithOneMore) rfl rfl rfl (by decide +kernel) ⟨Nat.le_of_ble_eq_true rfl, Nat.le_of_ble_eq_true rfl⟩) ⟨Nat.zero_le _, Nat.zero_le _⟩ hK hP hD [4, 5, 6, 7] (by decide) rfl 0 rfl rfl rfl hl.1 rfl (Nat.le_of_ble_eq_true rfl) d_D_write_75 ?_
                refine W.eq (g2 := F0 m 78 ls [.int (gMore G tk (6 + b / (P.1 - 2)))]) rfl ?_
                refine lv_iconst (v := 4) hx hb d_D_write_78 (by decide) ?_
                refine lv_aload_n hx hb d_D_write_79 rfl (lv_at hl 2 rfl) ?_
                refine va_get (D := (dC, dI)) (ci := 2) (v := .int (P.1)) (C := R_D) (T := T_D) (N := 9) hx hb hts wu_D hown hK hP 0 rfl rfl 6 (by decide) (hts _ wf_D_64) (fun _ h9 => h9) rfl d_D_write_80 ?_
                refine lv_iconst (v := 2) hx hb d_D_write_83 (by decide) ?_
                refine lv_isub hx hb d_D_write_84 ?_
                refine lv_imul hx hb d_D_write_85 ?_
                refine lv_icmp_le (tgt := 92) hx hb d_D_write_86 (by decide) (fun hc_8 => ?_) (fun hc_8 => ?_)
                · refine lv_aload_n hx hb d_D_write_92 rfl (lv_at hl 2 rfl) ?_
                  refine va_get (D := (dC, dI)) (ci := 2) (v := .ref (a 4)) (C := R_D) (T := T_D) (N := 9) hx hb hts wu_D hown hK hP 0 rfl rfl 3 (by decide) (hts _ wf_D_24) (fun _ h9 => h9) rfl d_D_write_93 ?_
                  refine lv_iload_n hx hb d_D_write_96 rfl (lv_at hl 3 rfl) ?_
                  refine lv_iload hx hb d_D_write_97 (lv_at hl 0 rfl) ?_
                  refine lv_aload_n hx hb d_D_write_99 rfl (lv_at hl 2 rfl) ?_
                  refine va_get (D := (dC, dI)) (ci := 2) (v := .ref (a 3)) (C := R_D) (T := T_D) (N := 9) hx hb hts wu_D hown hK hP 0 rfl rfl 2 (by decide) (hts _ wf_D_17) (fun _ h9 => h9) rfl d_D_write_100 ?_
                  refine W.eq (g2 := F0 m 103 ls [.ref (a 3), .int (6 + b / (P.1 - 2)), .int (nI (b.toNatClampNeg)), .ref (a 4)]) (by rw [← eb]) ?_
                  refine kx_V (ws2 := (wD a k5 P (gTake (b.toNatClampNeg) tk (6 + b / (P.1 - 2)) (pKp P) G) J L)) (As := [.int (nI (b.toNatClampNeg)), .int (6 + b / (P.1 - 2)), .ref (a 3)]) (rest := []) ⟨hx, hb, hml, hown, hts⟩ (k_G_take l dC dI k5 (a 4) (a 5) (a 6) (a 7) (G.1) (G.2.1) (G.2.2.1) (G.2.2.2.1) (G.2.2.2.2) (a 3) (pKp P) tk (b.toNatClampNeg) (by omega) h204 (6 + b / (P.1 - 2)) hG.1 hK2) (cwV 3 hts (goodV wm_D_68 wn_G_take ws_G_take wi_G wc_G_take) rfl rfl rfl (by decide +kernel) ⟨Nat.le_of_ble_eq_true rfl, Nat.le_of_ble_eq_true rfl⟩) ⟨Nat.zero_le _, Nat.zero_le _⟩ hK hP hD hS [4, 5, 6, 7, 3] (by decide) rfl 0 rfl rfl rfl rfl rfl rfl hl.1 rfl (Nat.le_of_ble_eq_true rfl) d_D_write_103 (fun H locs hP hD hS => ?_)
                  refine W.eq (g2 := F0 m 106 ls [.int (nI tk)]) rfl ?_
                  refine lv_istore (lv' := [(5, .int (nI tk)), (6, .int (6 + b / (P.1 - 2))), (0, .ref (a 0)), (1, .int b), (2, .int t), (3, .int cn), (4, .int v)]) hx hb d_D_write_106 hl (by decide) rfl (fun ls hl => ?_)
                  refine lv_aload_n hx hb d_D_write_108 rfl (lv_at hl 2 rfl) ?_
                  refine va_get (D := (dC, dI)) (ci := 2) (v := .ref (a 4)) (C := R_D) (T := T_D) (N := 9) hx hb hts wu_D hown hK hP 0 rfl rfl 3 (by decide) (hts _ wf_D_24) (fun _ h9 => h9) rfl d_D_write_109 ?_
                  refine lv_iload hx hb d_D_write_112 (lv_at hl 0 rfl) ?_
                  refine lv_iload_n hx hb d_D_write_114 rfl (lv_at hl 4 rfl) ?_
                  refine lv_iload_n hx hb d_D_write_115 rfl (lv_at hl 5 rfl) ?_
                  refine lv_iload hx hb d_D_write_116 (lv_at hl 6 rfl) ?_
                  have s9 := set64 (pl := (nI tk)) (p := tk) (n := 0) (rfl) et hα (by omega) hc_3 hc_4
                  refine kx_V (ws2 := (wD a k5 P (gSet (((nI tk) * 64 + t).toNatClampNeg) (cn.toNatClampNeg) v.toInt8.toInt32 (gTake (b.toNatClampNeg) tk (6 + b / (P.1 - 2)) (pKp P) G)) J L)) (As := [.int (nI tk), .int t, .int cn, .int v]) (rest := []) ⟨hx, hb, hml, hown, hts⟩ (k_G_set l dC dI k5 (a 4) (a 5) (a 6) (a 7) ((gTake (b.toNatClampNeg) tk (6 + b / (P.1 - 2)) (pKp P) G).1) ((gTake (b.toNatClampNeg) tk (6 + b / (P.1 - 2)) (pKp P) G).2.1) ((gTake (b.toNatClampNeg) tk (6 + b / (P.1 - 2)) (pKp P) G).2.2.1) ((gTake (b.toNatClampNeg) tk (6 + b / (P.1 - 2)) (pKp P) G).2.2.2.1) ((gTake (b.toNatClampNeg) tk (6 + b / (P.1 - 2)) (pKp P) G).2.2.2.2) (nI tk) t cn v (((nI tk) * 64 + t).toNatClampNeg) (cn.toNatClampNeg) s9.2.2.1 s9.1 s9.2.1) (cwV 4 hts (goodV wm_D_72 wn_G_set ws_G_set wi_G wc_G_set) rfl rfl rfl (by decide +kernel) ⟨Nat.le_of_ble_eq_true rfl, Nat.le_of_ble_eq_true rfl⟩) ⟨Nat.zero_le _, Nat.zero_le _⟩ hK hP hD hS [4, 5, 6, 7] (by decide) rfl 0 rfl rfl rfl rfl rfl rfl hl.1 rfl (Nat.le_of_ble_eq_true rfl) d_D_write_118 (fun H locs hP hD hS => ?_)
                  refine W.eq (g2 := F0 m 121 ls []) rfl ?_
                  refine lv_aload_n hx hb d_D_write_121 rfl (lv_at hl 2 rfl) ?_
                  refine va_get (D := (dC, dI)) (ci := 2) (v := .ref (a 4)) (C := R_D) (T := T_D) (N := 9) hx hb hts wu_D hown hK hP 0 rfl rfl 3 (by decide) (hts _ wf_D_24) (fun _ h9 => h9) rfl d_D_write_122 ?_
                  refine kx_VR (As := []) (rest := []) ⟨hx, hb, hml, hown, hts⟩ (k_G_use l dC dI k5 (a 4) (a 5) (a 6) (a 7) ((gSet (((nI tk) * 64 + t).toNatClampNeg) (cn.toNatClampNeg) v.toInt8.toInt32 (gTake (b.toNatClampNeg) tk (6 + b / (P.1 - 2)) (pKp P) G)).1) ((gSet (((nI tk) * 64 + t).toNatClampNeg) (cn.toNatClampNeg) v.toInt8.toInt32 (gTake (b.toNatClampNeg) tk (6 + b / (P.1 - 2)) (pKp P) G)).2.1) ((gSet (((nI tk) * 64 + t).toNatClampNeg) (cn.toNatClampNeg) v.toInt8.toInt32 (gTake (b.toNatClampNeg) tk (6 + b / (P.1 - 2)) (pKp P) G)).2.2.1) ((gSet (((nI tk) * 64 + t).toNatClampNeg) (cn.toNatClampNeg) v.toInt8.toInt32 (gTake (b.toNatClampNeg) tk (6 + b / (P.1 - 2)) (pKp P) G)).2.2.2.1) ((gSet (((nI tk) * 64 + t).toNatClampNeg) (cn.toNatClampNeg) v.toInt8.toInt32 (gTake (b.toNatClampNeg) tk (6 + b / (P.1 - 2)) (pKp P) G)).2.2.2.2) ) (cwV 0 hts (goodV wm_D_76 wn_G_use ws_G_use wi_G wc_G_use) rfl rfl rfl (by decide +kernel) ⟨Nat.le_of_ble_eq_true rfl, Nat.le_of_ble_eq_true rfl⟩) ⟨Nat.zero_le _, Nat.zero_le _⟩ hK hP hD [4, 5, 6, 7] (by decide) rfl 0 rfl rfl rfl hl.1 rfl (Nat.le_of_ble_eq_true rfl) d_D_write_125 ?_
                  refine W.eq (g2 := F0 m 128 ls [.int (gUse (gSet (((nI tk) * 64 + t).toNatClampNeg) (cn.toNatClampNeg) v.toInt8.toInt32 (gTake (b.toNatClampNeg) tk (6 + b / (P.1 - 2)) (pKp P) G)))]) rfl ?_
                  have e : d_write P G J L tk b t cn v = ((P, (gSet (((nI tk) * 64 + t).toNatClampNeg) (cn.toNatClampNeg) v.toInt8.toInt32 (gTake (b.toNatClampNeg) tk (6 + b / (P.1 - 2)) (pKp P) G)), J, L), (gUse (gSet (((nI tk) * 64 + t).toNatClampNeg) (cn.toNatClampNeg) v.toInt8.toInt32 (gTake (b.toNatClampNeg) tk (6 + b / (P.1 - 2)) (pKp P) G)))) := by unfold d_write; rw [if_neg hc_1, if_neg hc_2, if_neg hc_3, if_neg hc_4, if_neg hc_5, if_pos hc_6, if_neg hc_7, if_pos hc_8]
                  exact W.iret (v := (gUse (gSet (((nI tk) * 64 + t).toNatClampNeg) (cn.toNatClampNeg) v.toInt8.toInt32 (gTake (b.toNatClampNeg) tk (6 + b / (P.1 - 2)) (pKp P) G)))) hx hb hr (fun t ht hW => kx_Qi (by rw [e]) ht hP (by rw [e]) hS rfl) hS.2.2 d_D_write_128
                · refine lv_bipush (v := (-3)) hx hb d_D_write_89 (by decide) ?_
                  have e : d_write P G J L tk b t cn v = ((P, G, J, L), (-3)) := by unfold d_write; rw [if_neg hc_1, if_neg hc_2, if_neg hc_3, if_neg hc_4, if_neg hc_5, if_pos hc_6, if_neg hc_7, if_neg hc_8]
                  exact W.iret (v := (-3)) hx hb hr (fun t ht hW => kx_Qi (by rw [e]) ht hP (by rw [e]) hS rfl) hS.2.2 d_D_write_91
            · refine lv_iconst (v := (-1)) hx hb d_D_write_45 (by decide) ?_
              have e : d_write P G J L tk b t cn v = ((P, G, J, L), (-1)) := by unfold d_write; rw [if_neg hc_1, if_neg hc_2, if_neg hc_3, if_neg hc_4, if_neg hc_5, if_neg hc_6]
              exact W.iret (v := (-1)) hx hb hr (fun t ht hW => kx_Qi (by rw [e]) ht hP (by rw [e]) hS rfl) hS.2.2 d_D_write_46
  · refine lv_bipush (v := (-2)) hx hb d_D_write_7 (by decide) ?_
    have e : d_write P G J L tk b t cn v = ((P, G, J, L), (-2)) := by unfold d_write; rw [if_pos hc_1]
    exact W.iret (v := (-2)) hx hb hr (fun t ht hW => kx_Qi (by rw [e]) ht hP (by rw [e]) hS rfl) hS.2.2 d_D_write_9
def d_commit (P : PP) (G J : GG) (L : LL) (n w tk : Nat) (x : Int32) (bits : Int64) : SS × Int32 := (if (P.2.2.1) = 0 then ((P, G, J, L), (-2)) else (if x < 0 then ((P, G, J, L), (-1)) else (if x ≤ 4 then (if (bI (decide (G.1 = 0))) = 0 then (if x = 1 then (((pPow 0 P), (gClear G), J, L), (-2)) else (if x = 2 then (((pPow 0 P), (gClear G), (gBecome tk G J), ((pWrite P bits w n (lDraft w 1 (P.2.2.2.1) L)).1)), (-2)) else (if x = 3 then (((pPow 0 P), (gClear G), (gBecome tk G J), (pFinish P w n (lDraft w 1 (P.2.2.2.1) L))), (-2)) else (if x = 4 then (((pPow 0 (pKeep (gKeep (gBecome tk G J) tk (P.2.2.2.2.2)) P)), (gClear G), (gBecome tk G J), ((pWrite (pKeep (gKeep (gBecome tk G J) tk (P.2.2.2.2.2)) P) bits (1 - w) n (lDraft (1 - w) 0 ((pKeep (gKeep (gBecome tk G J) tk (P.2.2.2.2.2)) P).2.2.2.1) (pFinish P w n (lDraft w 1 (P.2.2.2.1) L)))).1)), (-2)) else (((pKeep (gKeep (gBecome tk G J) tk (P.2.2.2.2.2)) P), (gClear G), (gBecome tk G J), (pFinish (pKeep (gKeep (gBecome tk G J) tk (P.2.2.2.2.2)) P) (1 - w) n (lDraft (1 - w) 0 ((pKeep (gKeep (gBecome tk G J) tk (P.2.2.2.2.2)) P).2.2.2.1) (pFinish P w n (lDraft w 1 (P.2.2.2.1) L))))), (gUse G)))))) else ((P, G, J, L), 0)) else ((P, G, J, L), (-1)))))
set_option maxHeartbeats 4000000 in
set_option maxRecDepth 100000 in
theorem k_D_commit (l : Launch) (dC : Nat → ClassId) (dI : Nat → Nat → Nat) (k5 : Nat → ClassId) (a : Nat → Nat) (P : PP) (G J : GG) (L : LL) (n w tk : Nat) (x : Int32) (bits : Int64) (tj : Nat) (hn : P.1 = nI n) (hn4 : 4 ≤ n) (hn8 : n ≤ 8) (hw : w = 0 ∨ w = 1) (hq : 1 - L.1 1 = nI w) (hG : GI G tk) (hJ : GI J tj) : Met l y_D_commit w_D_commit ({ frames := 4, cells := 0, slots := 0, locals := 91 }) (kx_Pc (dC, dI) clA (tyL k5) (wD a k5 P G J L) [.ref (a 0), .int x, .long bits]) (kx_Q (dC, dI) clA (wD a k5 P G J L) (wS a k5 (d_commit P G J L n w tk x bits).1) (some (.int (d_commit P G J L n w tk x bits).2))) 0 0 (kx_A (wD a k5 P G J L)) := by
  refine Met.ofW (cc := c_D_commit) (maxL := 5) (ret := (some .int)) (by decide) rfl ?_
  intro p e s m args below meth c s₁ B hml hv
  obtain ⟨rfl, hP, hK, hD0⟩ := hv
  have hx := B.exec
  have hb := B.bytes
  have hr := B.returns
  have hts : ∀ w ∈ wsA, w.before _ s = true := fun w h => atoms_spec (ws := w_D_commit) B.pre w (List.mem_cons_of_mem _ h)
  have hown : s.vm.findClass R_D = some m.cls := findClass_of_methodNamed B.named
  have hlocks := B.notSynchronized
  have hD := kx_D.self hD0
  have hS : va_S (kx_A (wD a k5 P G J L)) s.heap s.heap [] := va_S.rf
  have hl := lv_entry ([.ref (a 0), .int x, .long bits]) (n := 5) (Nat.le_of_ble_eq_true rfl)
  rw [lg_entry_eq]
  generalize (lg_sl ([.ref (a 0), .int x, .long bits]) ++ List.replicate (5 - (lg_sl ([.ref (a 0), .int x, .long bits])).length) Slot.unset).toArray = ls at hl ⊢
  have hl : lv_has ls 5 [(0, .ref (a 0)), (1, .int x), (2, .long bits)] := hl
  refine lv_aload_n hx hb d_D_commit_0 rfl (lv_at hl 0 rfl) ?_
  refine va_get (D := (dC, dI)) (ci := 2) (v := .int (P.2.2.1)) (C := R_D) (T := T_D) (N := 9) hx hb hts wu_D hown hK hP 0 rfl rfl 8 (by decide) (hts _ wf_D_46) (fun _ h9 => h9) rfl d_D_commit_1 ?_
  refine lv_if_ne (tgt := 10) hx hb d_D_commit_4 (by decide) (fun hc_1 => ?_) (fun hc_1 => ?_)
  · refine lv_iload_n hx hb d_D_commit_10 rfl (lv_at hl 1 rfl) ?_
    refine lv_if_lt (tgt := 19) hx hb d_D_commit_11 (by decide) (fun hc_2 => ?_) (fun hc_2 => ?_)
    · refine lv_iconst (v := (-1)) hx hb d_D_commit_19 (by decide) ?_
      have e : d_commit P G J L n w tk x bits = ((P, G, J, L), (-1)) := by unfold d_commit; rw [if_neg hc_1, if_pos hc_2]
      exact W.iret (v := (-1)) hx hb hr (fun t ht hW => kx_Qi (by rw [e]) ht hP (by rw [e]) hS rfl) hS.2.2 d_D_commit_20
    · refine lv_iload_n hx hb d_D_commit_14 rfl (lv_at hl 1 rfl) ?_
      refine lv_iconst (v := 4) hx hb d_D_commit_15 (by decide) ?_
      refine lv_icmp_le (tgt := 21) hx hb d_D_commit_16 (by decide) (fun hc_3 => ?_) (fun hc_3 => ?_)
      · refine lv_aload_n hx hb d_D_commit_21 rfl (lv_at hl 0 rfl) ?_
        refine va_get (D := (dC, dI)) (ci := 2) (v := .ref (a 4)) (C := R_D) (T := T_D) (N := 9) hx hb hts wu_D hown hK hP 0 rfl rfl 3 (by decide) (hts _ wf_D_24) (fun _ h9 => h9) rfl d_D_commit_22 ?_
        refine kx_VR (As := []) (rest := []) ⟨hx, hb, hml, hown, hts⟩ (k_G_isEmpty l dC dI k5 (a 4) (a 5) (a 6) (a 7) (G.1) (G.2.1) (G.2.2.1) (G.2.2.2.1) (G.2.2.2.2) ) (cwV 0 hts (goodV wm_D_83 wn_G_isEmpty ws_G_isEmpty wi_G wc_G_isEmpty) rfl rfl rfl (by decide +kernel) ⟨Nat.le_of_ble_eq_true rfl, Nat.le_of_ble_eq_true rfl⟩) ⟨Nat.zero_le _, Nat.zero_le _⟩ hK hP hD [4, 5, 6, 7] (by decide) rfl 0 rfl rfl rfl hl.1 rfl (Nat.le_of_ble_eq_true rfl) d_D_commit_25 ?_
        refine W.eq (g2 := F0 m 28 ls [.int (bI (decide (G.1 = 0)))]) rfl ?_
        refine lv_if_eq (tgt := 33) hx hb d_D_commit_28 (by decide) (fun hc_4 => ?_) (fun hc_4 => ?_)
        · refine lv_iload_n hx hb d_D_commit_33 rfl (lv_at hl 1 rfl) ?_
          refine lv_iconst (v := 1) hx hb d_D_commit_34 (by decide) ?_
          refine lv_icmp_ne (tgt := 43) hx hb d_D_commit_35 (by decide) (fun hc_5 => ?_) (fun hc_5 => ?_)
          · refine lv_aload_n hx hb d_D_commit_43 rfl (lv_at hl 0 rfl) ?_
            refine va_get (D := (dC, dI)) (ci := 2) (v := .ref (a 8)) (C := R_D) (T := T_D) (N := 9) hx hb hts wu_D hown hK hP 0 rfl rfl 4 (by decide) (hts _ wf_D_28) (fun _ h9 => h9) rfl d_D_commit_44 ?_
            refine lv_aload_n hx hb d_D_commit_47 rfl (lv_at hl 0 rfl) ?_
            refine va_get (D := (dC, dI)) (ci := 2) (v := .ref (a 4)) (C := R_D) (T := T_D) (N := 9) hx hb hts wu_D hown hK hP 0 rfl rfl 3 (by decide) (hts _ wf_D_24) (fun _ h9 => h9) rfl d_D_commit_48 ?_
            refine kx_V (ws2 := (wD a k5 P G (gBecome tk G J) L)) (As := [.ref (a 4)]) (rest := []) ⟨hx, hb, hml, hown, hts⟩ (k_G_become l dC dI k5 (a 8) (a 9) (a 10) (a 11) (J.1) (J.2.1) (J.2.2.1) (J.2.2.2.1) (J.2.2.2.2) (a 4) (a 5) (a 6) (a 7) (G.1) (G.2.1) (G.2.2.1) (G.2.2.2.1) (G.2.2.2.2) tk hG.2.1 hG.1 hG.2.2.1) (cwV 1 hts (goodV wm_D_90 wn_G_become ws_G_become wi_G wc_G_become) rfl rfl rfl (by decide +kernel) ⟨Nat.le_of_ble_eq_true rfl, Nat.le_of_ble_eq_true rfl⟩) ⟨Nat.zero_le _, Nat.zero_le _⟩ hK hP hD hS [8, 9, 10, 11, 4, 5, 6, 7] (by decide) rfl 0 rfl rfl rfl rfl rfl rfl hl.1 rfl (Nat.le_of_ble_eq_true rfl) d_D_commit_51 (fun H locs hP hD hS => ?_)
            refine W.eq (g2 := F0 m 54 ls []) rfl ?_
            refine lv_aload_n hx hb d_D_commit_54 rfl (lv_at hl 0 rfl) ?_
            refine va_get (D := (dC, dI)) (ci := 2) (v := .ref (a 12)) (C := R_D) (T := T_D) (N := 9) hx hb hts wu_D hown hK hP 0 rfl rfl 5 (by decide) (hts _ wf_D_34) (fun _ h9 => h9) rfl d_D_commit_55 ?_
            refine lv_iconst (v := 1) hx hb d_D_commit_58 (by decide) ?_
            refine lv_aload_n hx hb d_D_commit_59 rfl (lv_at hl 0 rfl) ?_
            refine va_get (D := (dC, dI)) (ci := 2) (v := .ref (a 1)) (C := R_D) (T := T_D) (N := 9) hx hb hts wu_D hown hK hP 0 rfl rfl 0 (by decide) (hts _ wf_D_9) (fun _ h9 => h9) rfl d_D_commit_60 ?_
            refine kx_V (ws2 := (wD a k5 P G (gBecome tk G J) (lDraft w 1 (P.2.2.2.1) L))) (As := [.int 1, .ref (a 1)]) (rest := []) ⟨hx, hb, hml, hown, hts⟩ (k_L_draft l dC dI k5 a L w hw hq (a 1) (P.2.2.2.1) 1 rfl) (cwV 2 hts (goodV wm_D_94 wn_L_draft ws_L_draft wi_L wc_L_draft) rfl rfl rfl (by decide +kernel) ⟨Nat.le_of_ble_eq_true rfl, Nat.le_of_ble_eq_true rfl⟩) ⟨Nat.zero_le _, Nat.zero_le _⟩ hK hP hD hS [12, 13, 14, 15, 16, 17, 18, 19, 20, 21, 22, 23, 1] (by decide) rfl 0 rfl rfl rfl rfl rfl rfl hl.1 rfl (Nat.le_of_ble_eq_true rfl) d_D_commit_63 (fun H locs hP hD hS => ?_)
            refine W.eq (g2 := F0 m 66 ls []) rfl ?_
            refine lv_iload_n hx hb d_D_commit_66 rfl (lv_at hl 1 rfl) ?_
            refine lv_iconst (v := 2) hx hb d_D_commit_67 (by decide) ?_
            refine lv_icmp_ne (tgt := 77) hx hb d_D_commit_68 (by decide) (fun hc_6 => ?_) (fun hc_6 => ?_)
            · refine lv_aload_n hx hb d_D_commit_77 rfl (lv_at hl 0 rfl) ?_
              refine kx_VW (w1 := (wD a k5 P G (gBecome tk G J) (pFinish P w n (lDraft w 1 (P.2.2.2.1) L)))) (As := []) (rest := []) ⟨hx, hb, hml, hown, hts⟩ (k_D_finishLabel l dC dI k5 a P G (gBecome tk G J) (lDraft w 1 (P.2.2.2.1) L) w hw hq n hn hn8) (cwV 0 hts (goodV wm_D_102 wn_D_finishLabel ws_D_finishLabel wi_D wc_D_finishLabel) rfl rfl rfl (by decide +kernel) ⟨Nat.le_of_ble_eq_true rfl, Nat.le_of_ble_eq_true rfl⟩) ⟨Nat.zero_le _, Nat.zero_le _⟩ hK hP hD hS 0 rfl rfl rfl rfl hl.1 rfl (Nat.le_of_ble_eq_true rfl) d_D_commit_78 (fun H locs hP hD hS => ?_)
              refine W.eq (g2 := F0 m 81 ls []) rfl ?_
              refine lv_iload_n hx hb d_D_commit_81 rfl (lv_at hl 1 rfl) ?_
              refine lv_iconst (v := 3) hx hb d_D_commit_82 (by decide) ?_
              refine lv_icmp_ne (tgt := 91) hx hb d_D_commit_83 (by decide) (fun hc_7 => ?_) (fun hc_7 => ?_)
              · refine lv_aload_n hx hb d_D_commit_91 rfl (lv_at hl 0 rfl) ?_
                refine va_get (D := (dC, dI)) (ci := 2) (v := .ref (a 8)) (C := R_D) (T := T_D) (N := 9) hx hb hts wu_D hown hK hP 0 rfl rfl 4 (by decide) (hts _ wf_D_28) (fun _ h9 => h9) rfl d_D_commit_92 ?_
                refine lv_aload_n hx hb d_D_commit_95 rfl (lv_at hl 0 rfl) ?_
                refine va_get (D := (dC, dI)) (ci := 2) (v := .ref (a 3)) (C := R_D) (T := T_D) (N := 9) hx hb hts wu_D hown hK hP 0 rfl rfl 2 (by decide) (hts _ wf_D_17) (fun _ h9 => h9) rfl d_D_commit_96 ?_
                refine kx_V (ws2 := (wD a k5 (pKeep (gKeep (gBecome tk G J) tk (P.2.2.2.2.2)) P) G (gBecome tk G J) (pFinish P w n (lDraft w 1 (P.2.2.2.1) L)))) (As := [.ref (a 3)]) (rest := []) ⟨hx, hb, hml, hown, hts⟩ (k_G_keepIn l dC dI k5 (a 8) (a 9) (a 10) (a 11) ((gBecome tk G J).1) ((gBecome tk G J).2.1) ((gBecome tk G J).2.2.1) ((gBecome tk G J).2.2.2.1) ((gBecome tk G J).2.2.2.2) (a 3) (P.2.2.2.2.2) tk (GI_become hG hJ).2.1 (GI_become hG hJ).1 (GI_become hG hJ).2.2.1 (GI_become hG hJ).2.2.2.1) (cwV 1 hts (goodV wm_D_105 wn_G_keepIn ws_G_keepIn wi_G wc_G_keepIn) rfl rfl rfl (by decide +kernel) ⟨Nat.le_of_ble_eq_true rfl, Nat.le_of_ble_eq_true rfl⟩) ⟨Nat.zero_le _, Nat.zero_le _⟩ hK hP hD hS [8, 9, 10, 11, 3] (by decide) rfl 0 rfl rfl rfl rfl rfl rfl hl.1 rfl (Nat.le_of_ble_eq_true rfl) d_D_commit_99 (fun H locs hP hD hS => ?_)
                refine W.eq (g2 := F0 m 102 ls []) rfl ?_
                refine lv_aload_n hx hb d_D_commit_102 rfl (lv_at hl 0 rfl) ?_
                refine va_get (D := (dC, dI)) (ci := 2) (v := .ref (a 12)) (C := R_D) (T := T_D) (N := 9) hx hb hts wu_D hown hK hP 0 rfl rfl 5 (by decide) (hts _ wf_D_34) (fun _ h9 => h9) rfl d_D_commit_103 ?_
                refine lv_iconst (v := 0) hx hb d_D_commit_106 (by decide) ?_
                refine lv_aload_n hx hb d_D_commit_107 rfl (lv_at hl 0 rfl) ?_
                refine va_get (D := (dC, dI)) (ci := 2) (v := .ref (a 1)) (C := R_D) (T := T_D) (N := 9) hx hb hts wu_D hown hK hP 0 rfl rfl 0 (by decide) (hts _ wf_D_9) (fun _ h9 => h9) rfl d_D_commit_108 ?_
                refine kx_V (ws2 := (wD a k5 (pKeep (gKeep (gBecome tk G J) tk (P.2.2.2.2.2)) P) G (gBecome tk G J) (lDraft (1 - w) 0 ((pKeep (gKeep (gBecome tk G J) tk (P.2.2.2.2.2)) P).2.2.2.1) (pFinish P w n (lDraft w 1 (P.2.2.2.1) L))))) (As := [.int 0, .ref (a 1)]) (rest := []) ⟨hx, hb, hml, hown, hts⟩ (k_L_draft l dC dI k5 a (pFinish P w n (lDraft w 1 (P.2.2.2.1) L)) (1 - w) (flipO hw) (pFinish_q hw hq) (a 1) ((pKeep (gKeep (gBecome tk G J) tk (P.2.2.2.2.2)) P).2.2.2.1) 0 rfl) (cwV 2 hts (goodV wm_D_94 wn_L_draft ws_L_draft wi_L wc_L_draft) rfl rfl rfl (by decide +kernel) ⟨Nat.le_of_ble_eq_true rfl, Nat.le_of_ble_eq_true rfl⟩) ⟨Nat.zero_le _, Nat.zero_le _⟩ hK hP hD hS [12, 13, 14, 15, 16, 17, 18, 19, 20, 21, 22, 23, 1] (by decide) rfl 0 rfl rfl rfl rfl rfl rfl hl.1 rfl (Nat.le_of_ble_eq_true rfl) d_D_commit_111 (fun H locs hP hD hS => ?_)
                refine W.eq (g2 := F0 m 114 ls []) rfl ?_
                refine lv_iload_n hx hb d_D_commit_114 rfl (lv_at hl 1 rfl) ?_
                refine lv_iconst (v := 4) hx hb d_D_commit_115 (by decide) ?_
                refine lv_icmp_ne (tgt := 125) hx hb d_D_commit_116 (by decide) (fun hc_8 => ?_) (fun hc_8 => ?_)
                · refine lv_aload_n hx hb d_D_commit_125 rfl (lv_at hl 0 rfl) ?_
                  refine kx_VW (w1 := (wD a k5 (pKeep (gKeep (gBecome tk G J) tk (P.2.2.2.2.2)) P) G (gBecome tk G J) (pFinish (pKeep (gKeep (gBecome tk G J) tk (P.2.2.2.2.2)) P) (1 - w) n (lDraft (1 - w) 0 ((pKeep (gKeep (gBecome tk G J) tk (P.2.2.2.2.2)) P).2.2.2.1) (pFinish P w n (lDraft w 1 (P.2.2.2.1) L)))))) (As := []) (rest := []) ⟨hx, hb, hml, hown, hts⟩ (k_D_finishLabel l dC dI k5 a (pKeep (gKeep (gBecome tk G J) tk (P.2.2.2.2.2)) P) G (gBecome tk G J) (lDraft (1 - w) 0 ((pKeep (gKeep (gBecome tk G J) tk (P.2.2.2.2.2)) P).2.2.2.1) (pFinish P w n (lDraft w 1 (P.2.2.2.1) L))) (1 - w) (flipO hw) (pFinish_q hw hq) n hn hn8) (cwV 0 hts (goodV wm_D_102 wn_D_finishLabel ws_D_finishLabel wi_D wc_D_finishLabel) rfl rfl rfl (by decide +kernel) ⟨Nat.le_of_ble_eq_true rfl, Nat.le_of_ble_eq_true rfl⟩) ⟨Nat.zero_le _, Nat.zero_le _⟩ hK hP hD hS 0 rfl rfl rfl rfl hl.1 rfl (Nat.le_of_ble_eq_true rfl) d_D_commit_126 (fun H locs hP hD hS => ?_)
                  refine W.eq (g2 := F0 m 129 ls []) rfl ?_
                  refine lv_aload_n hx hb d_D_commit_129 rfl (lv_at hl 0 rfl) ?_
                  refine va_get (D := (dC, dI)) (ci := 2) (v := .ref (a 4)) (C := R_D) (T := T_D) (N := 9) hx hb hts wu_D hown hK hP 0 rfl rfl 3 (by decide) (hts _ wf_D_24) (fun _ h9 => h9) rfl d_D_commit_130 ?_
                  refine kx_VR (As := []) (rest := []) ⟨hx, hb, hml, hown, hts⟩ (k_G_use l dC dI k5 (a 4) (a 5) (a 6) (a 7) (G.1) (G.2.1) (G.2.2.1) (G.2.2.2.1) (G.2.2.2.2) ) (cwV 0 hts (goodV wm_D_76 wn_G_use ws_G_use wi_G wc_G_use) rfl rfl rfl (by decide +kernel) ⟨Nat.le_of_ble_eq_true rfl, Nat.le_of_ble_eq_true rfl⟩) ⟨Nat.zero_le _, Nat.zero_le _⟩ hK hP hD [4, 5, 6, 7] (by decide) rfl 0 rfl rfl rfl hl.1 rfl (Nat.le_of_ble_eq_true rfl) d_D_commit_133 ?_
                  refine W.eq (g2 := F0 m 136 ls [.int (gUse G)]) rfl ?_
                  refine lv_istore (lv' := [(4, .int (gUse G)), (0, .ref (a 0)), (1, .int x), (2, .long bits)]) hx hb d_D_commit_136 hl (by decide) rfl (fun ls hl => ?_)
                  refine lv_aload_n hx hb d_D_commit_138 rfl (lv_at hl 1 rfl) ?_
                  refine va_get (D := (dC, dI)) (ci := 2) (v := .ref (a 4)) (C := R_D) (T := T_D) (N := 9) hx hb hts wu_D hown hK hP 0 rfl rfl 3 (by decide) (hts _ wf_D_24) (fun _ h9 => h9) rfl d_D_commit_139 ?_
                  refine kx_V (ws2 := (wD a k5 (pKeep (gKeep (gBecome tk G J) tk (P.2.2.2.2.2)) P) (gClear G) (gBecome tk G J) (pFinish (pKeep (gKeep (gBecome tk G J) tk (P.2.2.2.2.2)) P) (1 - w) n (lDraft (1 - w) 0 ((pKeep (gKeep (gBecome tk G J) tk (P.2.2.2.2.2)) P).2.2.2.1) (pFinish P w n (lDraft w 1 (P.2.2.2.1) L)))))) (As := []) (rest := []) ⟨hx, hb, hml, hown, hts⟩ (k_G_clear l dC dI k5 (a 4) (a 5) (a 6) (a 7) (G.1) (G.2.1) (G.2.2.1) (G.2.2.2.1) (G.2.2.2.2)) (cwV 0 hts (goodV wm_D_109 wn_G_clear ws_G_clear wi_G wc_G_clear) rfl rfl rfl (by decide +kernel) ⟨Nat.le_of_ble_eq_true rfl, Nat.le_of_ble_eq_true rfl⟩) ⟨Nat.zero_le _, Nat.zero_le _⟩ hK hP hD hS [4, 5, 6, 7] (by decide) rfl 0 rfl rfl rfl rfl rfl rfl hl.1 rfl (Nat.le_of_ble_eq_true rfl) d_D_commit_142 (fun H locs hP hD hS => ?_)
                  refine W.eq (g2 := F0 m 145 ls []) rfl ?_
                  refine lv_iload hx hb d_D_commit_145 (lv_at hl 0 rfl) ?_
                  have e : d_commit P G J L n w tk x bits = (((pKeep (gKeep (gBecome tk G J) tk (P.2.2.2.2.2)) P), (gClear G), (gBecome tk G J), (pFinish (pKeep (gKeep (gBecome tk G J) tk (P.2.2.2.2.2)) P) (1 - w) n (lDraft (1 - w) 0 ((pKeep (gKeep (gBecome tk G J) tk (P.2.2.2.2.2)) P).2.2.2.1) (pFinish P w n (lDraft w 1 (P.2.2.2.1) L))))), (gUse G)) := by unfold d_commit; rw [if_neg hc_1, if_neg hc_2, if_pos hc_3, if_pos hc_4, if_neg hc_5, if_neg hc_6, if_neg hc_7, if_neg hc_8]
                  exact W.iret (v := (gUse G)) hx hb hr (fun t ht hW => kx_Qi (by rw [e]) ht hP (by rw [e]) hS rfl) hS.2.2 d_D_commit_147
                · refine lv_aload_n hx hb d_D_commit_119 rfl (lv_at hl 0 rfl) ?_
                  refine lv_lload_n hx hb d_D_commit_120 rfl (lv_at hl 2 rfl) ?_
                  refine kx_VW (w1 := (wD a k5 (pPow 0 (pKeep (gKeep (gBecome tk G J) tk (P.2.2.2.2.2)) P)) (gClear G) (gBecome tk G J) ((pWrite (pKeep (gKeep (gBecome tk G J) tk (P.2.2.2.2.2)) P) bits (1 - w) n (lDraft (1 - w) 0 ((pKeep (gKeep (gBecome tk G J) tk (P.2.2.2.2.2)) P).2.2.2.1) (pFinish P w n (lDraft w 1 (P.2.2.2.1) L)))).1))) (As := [.long bits]) (rest := []) ⟨hx, hb, hml, hown, hts⟩ (k_D_powerFailsInLabel l dC dI k5 a (pKeep (gKeep (gBecome tk G J) tk (P.2.2.2.2.2)) P) G (gBecome tk G J) (lDraft (1 - w) 0 ((pKeep (gKeep (gBecome tk G J) tk (P.2.2.2.2.2)) P).2.2.2.1) (pFinish P w n (lDraft w 1 (P.2.2.2.1) L))) bits (1 - w) (flipO hw) (pFinish_q hw hq) n hn hn8) (cwV 1 hts (goodV wm_D_98 wn_D_powerFailsInLabel ws_D_powerFailsInLabel wi_D wc_D_powerFailsInLabel) rfl rfl rfl (by decide +kernel) ⟨Nat.le_of_ble_eq_true rfl, Nat.le_of_ble_eq_true rfl⟩) ⟨Nat.zero_le _, Nat.zero_le _⟩ hK hP hD hS 0 rfl rfl rfl rfl hl.1 rfl (Nat.le_of_ble_eq_true rfl) d_D_commit_121 (fun H locs hP hD hS => ?_)
                  refine W.eq (g2 := F0 m 124 ls [.int (-2)]) rfl ?_
                  have e : d_commit P G J L n w tk x bits = (((pPow 0 (pKeep (gKeep (gBecome tk G J) tk (P.2.2.2.2.2)) P)), (gClear G), (gBecome tk G J), ((pWrite (pKeep (gKeep (gBecome tk G J) tk (P.2.2.2.2.2)) P) bits (1 - w) n (lDraft (1 - w) 0 ((pKeep (gKeep (gBecome tk G J) tk (P.2.2.2.2.2)) P).2.2.2.1) (pFinish P w n (lDraft w 1 (P.2.2.2.1) L)))).1)), (-2)) := by unfold d_commit; rw [if_neg hc_1, if_neg hc_2, if_pos hc_3, if_pos hc_4, if_neg hc_5, if_neg hc_6, if_neg hc_7, if_pos hc_8]
                  exact W.iret (v := (-2)) hx hb hr (fun t ht hW => kx_Qi (by rw [e]) ht hP (by rw [e]) hS rfl) hS.2.2 d_D_commit_124
              · refine lv_aload_n hx hb d_D_commit_86 rfl (lv_at hl 0 rfl) ?_
                refine kx_VW (w1 := (wD a k5 (pPow 0 P) (gClear G) (gBecome tk G J) (pFinish P w n (lDraft w 1 (P.2.2.2.1) L)))) (As := []) (rest := []) ⟨hx, hb, hml, hown, hts⟩ (k_D_powerFails l dC dI k5 a P G (gBecome tk G J) (pFinish P w n (lDraft w 1 (P.2.2.2.1) L))) (cwV 0 hts (goodV wm_D_87 wn_D_powerFails ws_D_powerFails wi_D wc_D_powerFails) rfl rfl rfl (by decide +kernel) ⟨Nat.le_of_ble_eq_true rfl, Nat.le_of_ble_eq_true rfl⟩) ⟨Nat.zero_le _, Nat.zero_le _⟩ hK hP hD hS 0 rfl rfl rfl rfl hl.1 rfl (Nat.le_of_ble_eq_true rfl) d_D_commit_87 (fun H locs hP hD hS => ?_)
                refine W.eq (g2 := F0 m 90 ls [.int (-2)]) rfl ?_
                have e : d_commit P G J L n w tk x bits = (((pPow 0 P), (gClear G), (gBecome tk G J), (pFinish P w n (lDraft w 1 (P.2.2.2.1) L))), (-2)) := by unfold d_commit; rw [if_neg hc_1, if_neg hc_2, if_pos hc_3, if_pos hc_4, if_neg hc_5, if_neg hc_6, if_pos hc_7]
                exact W.iret (v := (-2)) hx hb hr (fun t ht hW => kx_Qi (by rw [e]) ht hP (by rw [e]) hS rfl) hS.2.2 d_D_commit_90
            · refine lv_aload_n hx hb d_D_commit_71 rfl (lv_at hl 0 rfl) ?_
              refine lv_lload_n hx hb d_D_commit_72 rfl (lv_at hl 2 rfl) ?_
              refine kx_VW (w1 := (wD a k5 (pPow 0 P) (gClear G) (gBecome tk G J) ((pWrite P bits w n (lDraft w 1 (P.2.2.2.1) L)).1))) (As := [.long bits]) (rest := []) ⟨hx, hb, hml, hown, hts⟩ (k_D_powerFailsInLabel l dC dI k5 a P G (gBecome tk G J) (lDraft w 1 (P.2.2.2.1) L) bits w hw hq n hn hn8) (cwV 1 hts (goodV wm_D_98 wn_D_powerFailsInLabel ws_D_powerFailsInLabel wi_D wc_D_powerFailsInLabel) rfl rfl rfl (by decide +kernel) ⟨Nat.le_of_ble_eq_true rfl, Nat.le_of_ble_eq_true rfl⟩) ⟨Nat.zero_le _, Nat.zero_le _⟩ hK hP hD hS 0 rfl rfl rfl rfl hl.1 rfl (Nat.le_of_ble_eq_true rfl) d_D_commit_73 (fun H locs hP hD hS => ?_)
              refine W.eq (g2 := F0 m 76 ls [.int (-2)]) rfl ?_
              have e : d_commit P G J L n w tk x bits = (((pPow 0 P), (gClear G), (gBecome tk G J), ((pWrite P bits w n (lDraft w 1 (P.2.2.2.1) L)).1)), (-2)) := by unfold d_commit; rw [if_neg hc_1, if_neg hc_2, if_pos hc_3, if_pos hc_4, if_neg hc_5, if_pos hc_6]
              exact W.iret (v := (-2)) hx hb hr (fun t ht hW => kx_Qi (by rw [e]) ht hP (by rw [e]) hS rfl) hS.2.2 d_D_commit_76
          · refine lv_aload_n hx hb d_D_commit_38 rfl (lv_at hl 0 rfl) ?_
            refine kx_VW (w1 := (wD a k5 (pPow 0 P) (gClear G) J L)) (As := []) (rest := []) ⟨hx, hb, hml, hown, hts⟩ (k_D_powerFails l dC dI k5 a P G J L) (cwV 0 hts (goodV wm_D_87 wn_D_powerFails ws_D_powerFails wi_D wc_D_powerFails) rfl rfl rfl (by decide +kernel) ⟨Nat.le_of_ble_eq_true rfl, Nat.le_of_ble_eq_true rfl⟩) ⟨Nat.zero_le _, Nat.zero_le _⟩ hK hP hD hS 0 rfl rfl rfl rfl hl.1 rfl (Nat.le_of_ble_eq_true rfl) d_D_commit_39 (fun H locs hP hD hS => ?_)
            refine W.eq (g2 := F0 m 42 ls [.int (-2)]) rfl ?_
            have e : d_commit P G J L n w tk x bits = (((pPow 0 P), (gClear G), J, L), (-2)) := by unfold d_commit; rw [if_neg hc_1, if_neg hc_2, if_pos hc_3, if_pos hc_4, if_pos hc_5]
            exact W.iret (v := (-2)) hx hb hr (fun t ht hW => kx_Qi (by rw [e]) ht hP (by rw [e]) hS rfl) hS.2.2 d_D_commit_42
        · refine lv_iconst (v := 0) hx hb d_D_commit_31 (by decide) ?_
          have e : d_commit P G J L n w tk x bits = ((P, G, J, L), 0) := by unfold d_commit; rw [if_neg hc_1, if_neg hc_2, if_pos hc_3, if_neg hc_4]
          exact W.iret (v := 0) hx hb hr (fun t ht hW => kx_Qi (by rw [e]) ht hP (by rw [e]) hS rfl) hS.2.2 d_D_commit_32
      · refine lv_iconst (v := (-1)) hx hb d_D_commit_19 (by decide) ?_
        have e : d_commit P G J L n w tk x bits = ((P, G, J, L), (-1)) := by unfold d_commit; rw [if_neg hc_1, if_neg hc_2, if_neg hc_3]
        exact W.iret (v := (-1)) hx hb hr (fun t ht hW => kx_Qi (by rw [e]) ht hP (by rw [e]) hS rfl) hS.2.2 d_D_commit_20
  · refine lv_bipush (v := (-2)) hx hb d_D_commit_7 (by decide) ?_
    have e : d_commit P G J L n w tk x bits = ((P, G, J, L), (-2)) := by unfold d_commit; rw [if_pos hc_1]
    exact W.iret (v := (-2)) hx hb hr (fun t ht hW => kx_Qi (by rw [e]) ht hP (by rw [e]) hS rfl) hS.2.2 d_D_commit_9
def d_fill (P : PP) (G J : GG) (L : LL) (n w : Nat) (d x : Int32) (bits : Int64) : SS × Int32 := (if (P.2.2.1) = 0 then ((P, G, J, L), (-2)) else (if (bI (decide (¬ d < 0 ∧ ¬ P.1 ≤ d))) = 0 then ((P, G, J, L), (-1)) else (if (bI (decide (¬ pMk P (d.toNatClampNeg) = -1 ∧ ¬ P.2.1 ≤ pMk P (d.toNatClampNeg)))) = 0 then ((P, G, J, L), (-1)) else (if x < 0 then ((P, G, J, L), (-1)) else (if x ≤ 2 then (if x = 1 then (((pPow 0 P), (gClear G), J, L), (-2)) else (if x = 2 then (((pPow 0 P), (gClear G), J, ((pWrite P bits w n (lTell w (d.toNatClampNeg) (pMk P (d.toNatClampNeg) + 1) (lDraft w 0 (P.2.2.2.1) L))).1)), (-2)) else (((pMark (upd (pMk P) (d.toNatClampNeg) (pMk P (d.toNatClampNeg) + 1)) P), G, J, (pFinish P w n (lTell w (d.toNatClampNeg) (pMk P (d.toNatClampNeg) + 1) (lDraft w 0 (pMk P) L)))), (((P.2.2.2.1) d.toNatClampNeg) + 1)))) else ((P, G, J, L), (-1)))))))
set_option maxHeartbeats 4000000 in
set_option maxRecDepth 100000 in
theorem k_D_fill (l : Launch) (dC : Nat → ClassId) (dI : Nat → Nat → Nat) (k5 : Nat → ClassId) (a : Nat → Nat) (P : PP) (G J : GG) (L : LL) (n w : Nat) (d x : Int32) (bits : Int64) (hn : P.1 = nI n) (hn4 : 4 ≤ n) (hn8 : n ≤ 8) (hw : w = 0 ∨ w = 1) (hq : 1 - L.1 1 = nI w) : Met l y_D_fill w_D_fill ({ frames := 4, cells := 0, slots := 0, locals := 91 }) (kx_Pc (dC, dI) clA (tyL k5) (wD a k5 P G J L) [.ref (a 0), .int d, .int x, .long bits]) (kx_Q (dC, dI) clA (wD a k5 P G J L) (wS a k5 (d_fill P G J L n w d x bits).1) (some (.int (d_fill P G J L n w d x bits).2))) 0 0 (kx_A (wD a k5 P G J L)) := by
  refine Met.ofW (cc := c_D_fill) (maxL := 6) (ret := (some .int)) (by decide) rfl ?_
  intro p e s m args below meth c s₁ B hml hv
  obtain ⟨rfl, hP, hK, hD0⟩ := hv
  have hx := B.exec
  have hb := B.bytes
  have hr := B.returns
  have hts : ∀ w ∈ wsA, w.before _ s = true := fun w h => atoms_spec (ws := w_D_fill) B.pre w (List.mem_cons_of_mem _ h)
  have hown : s.vm.findClass R_D = some m.cls := findClass_of_methodNamed B.named
  have hlocks := B.notSynchronized
  have hD := kx_D.self hD0
  have hS : va_S (kx_A (wD a k5 P G J L)) s.heap s.heap [] := va_S.rf
  have hl := lv_entry ([.ref (a 0), .int d, .int x, .long bits]) (n := 6) (Nat.le_of_ble_eq_true rfl)
  rw [lg_entry_eq]
  generalize (lg_sl ([.ref (a 0), .int d, .int x, .long bits]) ++ List.replicate (6 - (lg_sl ([.ref (a 0), .int d, .int x, .long bits])).length) Slot.unset).toArray = ls at hl ⊢
  have hl : lv_has ls 6 [(0, .ref (a 0)), (1, .int d), (2, .int x), (3, .long bits)] := hl
  refine lv_aload_n hx hb d_D_fill_0 rfl (lv_at hl 0 rfl) ?_
  refine va_get (D := (dC, dI)) (ci := 2) (v := .int (P.2.2.1)) (C := R_D) (T := T_D) (N := 9) hx hb hts wu_D hown hK hP 0 rfl rfl 8 (by decide) (hts _ wf_D_46) (fun _ h9 => h9) rfl d_D_fill_1 ?_
  refine lv_if_ne (tgt := 10) hx hb d_D_fill_4 (by decide) (fun hc_1 => ?_) (fun hc_1 => ?_)
  · refine lv_aload_n hx hb d_D_fill_10 rfl (lv_at hl 0 rfl) ?_
    refine lv_iload_n hx hb d_D_fill_11 rfl (lv_at hl 1 rfl) ?_
    refine kx_VRW (As := [.int d]) (rest := []) ⟨hx, hb, hml, hown, hts⟩ (k_D_isDisk l dC dI k5 a P G J L d) (cwV 1 hts (goodV wm_D_115 wn_D_isDisk ws_D_isDisk wi_D wc_D_isDisk) rfl rfl rfl (by decide +kernel) ⟨Nat.le_of_ble_eq_true rfl, Nat.le_of_ble_eq_true rfl⟩) ⟨Nat.zero_le _, Nat.zero_le _⟩ hK hP hD 0 rfl rfl rfl hl.1 rfl (Nat.le_of_ble_eq_true rfl) d_D_fill_12 ?_
    refine W.eq (g2 := F0 m 15 ls [.int (bI (decide (¬ d < 0 ∧ ¬ P.1 ≤ d)))]) rfl ?_
    refine lv_if_eq (tgt := 35) hx hb d_D_fill_15 (by decide) (fun hc_2 => ?_) (fun hc_2 => ?_)
    · refine lv_iconst (v := (-1)) hx hb d_D_fill_35 (by decide) ?_
      have e : d_fill P G J L n w d x bits = ((P, G, J, L), (-1)) := by unfold d_fill; rw [if_neg hc_1, if_pos hc_2]
      exact W.iret (v := (-1)) hx hb hr (fun t ht hW => kx_Qi (by rw [e]) ht hP (by rw [e]) hS rfl) hS.2.2 d_D_fill_36
    · refine lv_aload_n hx hb d_D_fill_18 rfl (lv_at hl 0 rfl) ?_
      refine lv_iload_n hx hb d_D_fill_19 rfl (lv_at hl 1 rfl) ?_
      refine W.eq (g2 := F0 m 20 ls [.int (nI (d.toNatClampNeg)), .ref (a 0)]) (by rw [← (isD (bI_t hc_2) hn (by omega)).1]) ?_
      refine kx_VRW (As := [.int (nI (d.toNatClampNeg))]) (rest := []) ⟨hx, hb, hml, hown, hts⟩ (k_D_isBlank l dC dI k5 a P G J L (d.toNatClampNeg) (by have := (isD (bI_t hc_2) hn (by omega)).2; omega)) (cwV 1 hts (goodV wm_D_138 wn_D_isBlank ws_D_isBlank wi_D wc_D_isBlank) rfl rfl rfl (by decide +kernel) ⟨Nat.le_of_ble_eq_true rfl, Nat.le_of_ble_eq_true rfl⟩) ⟨Nat.zero_le _, Nat.zero_le _⟩ hK hP hD 0 rfl rfl rfl hl.1 rfl (Nat.le_of_ble_eq_true rfl) d_D_fill_20 ?_
      refine W.eq (g2 := F0 m 23 ls [.int (bI (decide (¬ pMk P (d.toNatClampNeg) = -1 ∧ ¬ P.2.1 ≤ pMk P (d.toNatClampNeg))))]) rfl ?_
      refine lv_if_eq (tgt := 35) hx hb d_D_fill_23 (by decide) (fun hc_3 => ?_) (fun hc_3 => ?_)
      · refine lv_iconst (v := (-1)) hx hb d_D_fill_35 (by decide) ?_
        have e : d_fill P G J L n w d x bits = ((P, G, J, L), (-1)) := by unfold d_fill; rw [if_neg hc_1, if_neg hc_2, if_pos hc_3]
        exact W.iret (v := (-1)) hx hb hr (fun t ht hW => kx_Qi (by rw [e]) ht hP (by rw [e]) hS rfl) hS.2.2 d_D_fill_36
      · refine lv_iload_n hx hb d_D_fill_26 rfl (lv_at hl 2 rfl) ?_
        refine lv_if_lt (tgt := 35) hx hb d_D_fill_27 (by decide) (fun hc_4 => ?_) (fun hc_4 => ?_)
        · refine lv_iconst (v := (-1)) hx hb d_D_fill_35 (by decide) ?_
          have e : d_fill P G J L n w d x bits = ((P, G, J, L), (-1)) := by unfold d_fill; rw [if_neg hc_1, if_neg hc_2, if_neg hc_3, if_pos hc_4]
          exact W.iret (v := (-1)) hx hb hr (fun t ht hW => kx_Qi (by rw [e]) ht hP (by rw [e]) hS rfl) hS.2.2 d_D_fill_36
        · refine lv_iload_n hx hb d_D_fill_30 rfl (lv_at hl 2 rfl) ?_
          refine lv_iconst (v := 2) hx hb d_D_fill_31 (by decide) ?_
          refine lv_icmp_le (tgt := 37) hx hb d_D_fill_32 (by decide) (fun hc_5 => ?_) (fun hc_5 => ?_)
          · refine lv_iload_n hx hb d_D_fill_37 rfl (lv_at hl 2 rfl) ?_
            refine lv_iconst (v := 1) hx hb d_D_fill_38 (by decide) ?_
            refine lv_icmp_ne (tgt := 47) hx hb d_D_fill_39 (by decide) (fun hc_6 => ?_) (fun hc_6 => ?_)
            · refine lv_aload_n hx hb d_D_fill_47 rfl (lv_at hl 0 rfl) ?_
              refine va_get (D := (dC, dI)) (ci := 2) (v := .ref (a 1)) (C := R_D) (T := T_D) (N := 9) hx hb hts wu_D hown hK hP 0 rfl rfl 0 (by decide) (hts _ wf_D_9) (fun _ h9 => h9) rfl d_D_fill_48 ?_
              refine lv_iload_n hx hb d_D_fill_51 rfl (lv_at hl 1 rfl) ?_
              refine kx_iald hx hb hK hP 1 0 rfl rfl d.toNatClampNeg ((isD (bI_t hc_2) hn (by omega)).1) (by have := (isD (bI_t hc_2) hn (by omega)).2; omega) (by omega) d_D_fill_52 ?_
              refine lv_iconst (v := 1) hx hb d_D_fill_53 (by decide) ?_
              refine lv_iadd hx hb d_D_fill_54 ?_
              refine lv_istore (lv' := [(5, .int (((P.2.2.2.1) d.toNatClampNeg) + 1)), (0, .ref (a 0)), (1, .int d), (2, .int x), (3, .long bits)]) hx hb d_D_fill_55 hl (by decide) rfl (fun ls hl => ?_)
              refine lv_aload_n hx hb d_D_fill_57 rfl (lv_at hl 1 rfl) ?_
              refine va_get (D := (dC, dI)) (ci := 2) (v := .ref (a 12)) (C := R_D) (T := T_D) (N := 9) hx hb hts wu_D hown hK hP 0 rfl rfl 5 (by decide) (hts _ wf_D_34) (fun _ h9 => h9) rfl d_D_fill_58 ?_
              refine lv_iconst (v := 0) hx hb d_D_fill_61 (by decide) ?_
              refine lv_aload_n hx hb d_D_fill_62 rfl (lv_at hl 1 rfl) ?_
              refine va_get (D := (dC, dI)) (ci := 2) (v := .ref (a 1)) (C := R_D) (T := T_D) (N := 9) hx hb hts wu_D hown hK hP 0 rfl rfl 0 (by decide) (hts _ wf_D_9) (fun _ h9 => h9) rfl d_D_fill_63 ?_
              refine kx_V (ws2 := (wD a k5 P G J (lDraft w 0 (P.2.2.2.1) L))) (As := [.int 0, .ref (a 1)]) (rest := []) ⟨hx, hb, hml, hown, hts⟩ (k_L_draft l dC dI k5 a L w hw hq (a 1) (P.2.2.2.1) 0 rfl) (cwV 2 hts (goodV wm_D_94 wn_L_draft ws_L_draft wi_L wc_L_draft) rfl rfl rfl (by decide +kernel) ⟨Nat.le_of_ble_eq_true rfl, Nat.le_of_ble_eq_true rfl⟩) ⟨Nat.zero_le _, Nat.zero_le _⟩ hK hP hD hS [12, 13, 14, 15, 16, 17, 18, 19, 20, 21, 22, 23, 1] (by decide) rfl 0 rfl rfl rfl rfl rfl rfl hl.1 rfl (Nat.le_of_ble_eq_true rfl) d_D_fill_66 (fun H locs hP hD hS => ?_)
              refine W.eq (g2 := F0 m 69 ls []) rfl ?_
              refine lv_aload_n hx hb d_D_fill_69 rfl (lv_at hl 1 rfl) ?_
              refine va_get (D := (dC, dI)) (ci := 2) (v := .ref (a 12)) (C := R_D) (T := T_D) (N := 9) hx hb hts wu_D hown hK hP 0 rfl rfl 5 (by decide) (hts _ wf_D_34) (fun _ h9 => h9) rfl d_D_fill_70 ?_
              refine lv_iload_n hx hb d_D_fill_73 rfl (lv_at hl 2 rfl) ?_
              refine lv_iload hx hb d_D_fill_74 (lv_at hl 0 rfl) ?_
              refine W.eq (g2 := F0 m 76 ls [.int (((P.2.2.2.1) d.toNatClampNeg) + 1), .int (nI (d.toNatClampNeg)), .ref (a 12)]) (by rw [← (isD (bI_t hc_2) hn (by omega)).1]) ?_
              refine kx_V (ws2 := (wD a k5 P G J (lTell w (d.toNatClampNeg) (pMk P (d.toNatClampNeg) + 1) (lDraft w 0 (P.2.2.2.1) L)))) (As := [.int (nI (d.toNatClampNeg)), .int (((P.2.2.2.1) d.toNatClampNeg) + 1)]) (rest := []) ⟨hx, hb, hml, hown, hts⟩ (k_L_tell l dC dI k5 a (lDraft w 0 (P.2.2.2.1) L) w hw hq (d.toNatClampNeg) (by have := (isD (bI_t hc_2) hn (by omega)).2; omega) (pMk P (d.toNatClampNeg) + 1)) (cwV 2 hts (goodV wm_D_141 wn_L_tell ws_L_tell wi_L wc_L_tell) rfl rfl rfl (by decide +kernel) ⟨Nat.le_of_ble_eq_true rfl, Nat.le_of_ble_eq_true rfl⟩) ⟨Nat.zero_le _, Nat.zero_le _⟩ hK hP hD hS [12, 13, 14, 15, 16, 17, 18, 19, 20, 21, 22, 23] (by decide) rfl 0 rfl rfl rfl rfl rfl rfl hl.1 rfl (Nat.le_of_ble_eq_true rfl) d_D_fill_76 (fun H locs hP hD hS => ?_)
              refine W.eq (g2 := F0 m 79 ls []) rfl ?_
              refine lv_iload_n hx hb d_D_fill_79 rfl (lv_at hl 3 rfl) ?_
              refine lv_iconst (v := 2) hx hb d_D_fill_80 (by decide) ?_
              refine lv_icmp_ne (tgt := 90) hx hb d_D_fill_81 (by decide) (fun hc_7 => ?_) (fun hc_7 => ?_)
              · refine lv_aload_n hx hb d_D_fill_90 rfl (lv_at hl 1 rfl) ?_
                refine kx_VW (w1 := (wD a k5 P G J (pFinish P w n (lTell w (d.toNatClampNeg) (pMk P (d.toNatClampNeg) + 1) (lDraft w 0 (P.2.2.2.1) L))))) (As := []) (rest := []) ⟨hx, hb, hml, hown, hts⟩ (k_D_finishLabel l dC dI k5 a P G J (lTell w (d.toNatClampNeg) (pMk P (d.toNatClampNeg) + 1) (lDraft w 0 (P.2.2.2.1) L)) w hw hq n hn hn8) (cwV 0 hts (goodV wm_D_102 wn_D_finishLabel ws_D_finishLabel wi_D wc_D_finishLabel) rfl rfl rfl (by decide +kernel) ⟨Nat.le_of_ble_eq_true rfl, Nat.le_of_ble_eq_true rfl⟩) ⟨Nat.zero_le _, Nat.zero_le _⟩ hK hP hD hS 0 rfl rfl rfl rfl hl.1 rfl (Nat.le_of_ble_eq_true rfl) d_D_fill_91 (fun H locs hP hD hS => ?_)
                refine W.eq (g2 := F0 m 94 ls []) rfl ?_
                refine lv_aload_n hx hb d_D_fill_94 rfl (lv_at hl 1 rfl) ?_
                refine va_get (D := (dC, dI)) (ci := 2) (v := .ref (a 1)) (C := R_D) (T := T_D) (N := 9) hx hb hts wu_D hown hK hP 0 rfl rfl 0 (by decide) (hts _ wf_D_9) (fun _ h9 => h9) rfl d_D_fill_95 ?_
                refine lv_iload_n hx hb d_D_fill_98 rfl (lv_at hl 2 rfl) ?_
                refine lv_iload hx hb d_D_fill_99 (lv_at hl 0 rfl) ?_
                refine kx_iast (ws' := (wD a k5 (pMark (upd (pMk P) (d.toNatClampNeg) (pMk P (d.toNatClampNeg) + 1)) P) G J (pFinish P w n (lTell w (d.toNatClampNeg) (pMk P (d.toNatClampNeg) + 1) (lDraft w 0 (pMk P) L))))) hx hb hK hP hD hS 1 0 rfl rfl d.toNatClampNeg ((isD (bI_t hc_2) hn (by omega)).1) (by have := (isD (bI_t hc_2) hn (by omega)).2; omega) (by omega) rfl d_D_fill_101 (fun H locs hP hD hS => ?_)
                refine lv_iload hx hb d_D_fill_102 (lv_at hl 0 rfl) ?_
                have e : d_fill P G J L n w d x bits = (((pMark (upd (pMk P) (d.toNatClampNeg) (pMk P (d.toNatClampNeg) + 1)) P), G, J, (pFinish P w n (lTell w (d.toNatClampNeg) (pMk P (d.toNatClampNeg) + 1) (lDraft w 0 (pMk P) L)))), (((P.2.2.2.1) d.toNatClampNeg) + 1)) := by unfold d_fill; rw [if_neg hc_1, if_neg hc_2, if_neg hc_3, if_neg hc_4, if_pos hc_5, if_neg hc_6, if_neg hc_7]
                exact W.iret (v := (((P.2.2.2.1) d.toNatClampNeg) + 1)) hx hb hr (fun t ht hW => kx_Qi (by rw [e]) ht hP (by rw [e]) hS rfl) hS.2.2 d_D_fill_104
              · refine lv_aload_n hx hb d_D_fill_84 rfl (lv_at hl 1 rfl) ?_
                refine lv_lload_n hx hb d_D_fill_85 rfl (lv_at hl 4 rfl) ?_
                refine kx_VW (w1 := (wD a k5 (pPow 0 P) (gClear G) J ((pWrite P bits w n (lTell w (d.toNatClampNeg) (pMk P (d.toNatClampNeg) + 1) (lDraft w 0 (P.2.2.2.1) L))).1))) (As := [.long bits]) (rest := []) ⟨hx, hb, hml, hown, hts⟩ (k_D_powerFailsInLabel l dC dI k5 a P G J (lTell w (d.toNatClampNeg) (pMk P (d.toNatClampNeg) + 1) (lDraft w 0 (P.2.2.2.1) L)) bits w hw hq n hn hn8) (cwV 1 hts (goodV wm_D_98 wn_D_powerFailsInLabel ws_D_powerFailsInLabel wi_D wc_D_powerFailsInLabel) rfl rfl rfl (by decide +kernel) ⟨Nat.le_of_ble_eq_true rfl, Nat.le_of_ble_eq_true rfl⟩) ⟨Nat.zero_le _, Nat.zero_le _⟩ hK hP hD hS 0 rfl rfl rfl rfl hl.1 rfl (Nat.le_of_ble_eq_true rfl) d_D_fill_86 (fun H locs hP hD hS => ?_)
                refine W.eq (g2 := F0 m 89 ls [.int (-2)]) rfl ?_
                have e : d_fill P G J L n w d x bits = (((pPow 0 P), (gClear G), J, ((pWrite P bits w n (lTell w (d.toNatClampNeg) (pMk P (d.toNatClampNeg) + 1) (lDraft w 0 (P.2.2.2.1) L))).1)), (-2)) := by unfold d_fill; rw [if_neg hc_1, if_neg hc_2, if_neg hc_3, if_neg hc_4, if_pos hc_5, if_neg hc_6, if_pos hc_7]
                exact W.iret (v := (-2)) hx hb hr (fun t ht hW => kx_Qi (by rw [e]) ht hP (by rw [e]) hS rfl) hS.2.2 d_D_fill_89
            · refine lv_aload_n hx hb d_D_fill_42 rfl (lv_at hl 0 rfl) ?_
              refine kx_VW (w1 := (wD a k5 (pPow 0 P) (gClear G) J L)) (As := []) (rest := []) ⟨hx, hb, hml, hown, hts⟩ (k_D_powerFails l dC dI k5 a P G J L) (cwV 0 hts (goodV wm_D_87 wn_D_powerFails ws_D_powerFails wi_D wc_D_powerFails) rfl rfl rfl (by decide +kernel) ⟨Nat.le_of_ble_eq_true rfl, Nat.le_of_ble_eq_true rfl⟩) ⟨Nat.zero_le _, Nat.zero_le _⟩ hK hP hD hS 0 rfl rfl rfl rfl hl.1 rfl (Nat.le_of_ble_eq_true rfl) d_D_fill_43 (fun H locs hP hD hS => ?_)
              refine W.eq (g2 := F0 m 46 ls [.int (-2)]) rfl ?_
              have e : d_fill P G J L n w d x bits = (((pPow 0 P), (gClear G), J, L), (-2)) := by unfold d_fill; rw [if_neg hc_1, if_neg hc_2, if_neg hc_3, if_neg hc_4, if_pos hc_5, if_pos hc_6]
              exact W.iret (v := (-2)) hx hb hr (fun t ht hW => kx_Qi (by rw [e]) ht hP (by rw [e]) hS rfl) hS.2.2 d_D_fill_46
          · refine lv_iconst (v := (-1)) hx hb d_D_fill_35 (by decide) ?_
            have e : d_fill P G J L n w d x bits = ((P, G, J, L), (-1)) := by unfold d_fill; rw [if_neg hc_1, if_neg hc_2, if_neg hc_3, if_neg hc_4, if_neg hc_5]
            exact W.iret (v := (-1)) hx hb hr (fun t ht hW => kx_Qi (by rw [e]) ht hP (by rw [e]) hS rfl) hS.2.2 d_D_fill_36
  · refine lv_bipush (v := (-2)) hx hb d_D_fill_7 (by decide) ?_
    have e : d_fill P G J L n w d x bits = ((P, G, J, L), (-2)) := by unfold d_fill; rw [if_pos hc_1]
    exact W.iret (v := (-2)) hx hb hr (fun t ht hW => kx_Qi (by rw [e]) ht hP (by rw [e]) hS rfl) hS.2.2 d_D_fill_9
def d_mount (P : PP) (G J : GG) (L : LL) (n w tj : Nat) (x : Int32) (bits : Int64) : SS × Int32 := (if (P.2.2.1) = 0 then (if x < 0 then ((P, G, J, L), (-1)) else (if x ≤ 3 then (if x = 1 then ((P, G, J, ((pAgain bits w n (lFind L)).1)), (-2)) else (if (((pAgain 6148914691236517205 w n (lFind L)).1).2 7 w) = 0 then (if x = 3 then (((pPow 0 (pMark (pTake ((pAgain 6148914691236517205 w n (lFind L)).1) w (pMk P) n) P)), (gClear G), J, ((pWrite (pMark (pTake ((pAgain 6148914691236517205 w n (lFind L)).1) w (pMk P) n) P) bits (1 - w) n (lDraft (1 - w) 0 ((pMark (pTake ((pAgain 6148914691236517205 w n (lFind L)).1) w (pMk P) n) P).2.2.2.1) ((pAgain 6148914691236517205 w n (lFind L)).1))).1)), (-2)) else (((pPow 1 (pMark (pTake ((pAgain 6148914691236517205 w n (lFind L)).1) w (pMk P) n) P)), G, J, (pFinish (pMark (pTake ((pAgain 6148914691236517205 w n (lFind L)).1) w (pMk P) n) P) (1 - w) n (lDraft (1 - w) 0 ((pMark (pTake ((pAgain 6148914691236517205 w n (lFind L)).1) w (pMk P) n) P).2.2.2.1) ((pAgain 6148914691236517205 w n (lFind L)).1)))), 0)) else (if x = 2 then (((pMark (pTake ((pAgain 6148914691236517205 w n (lFind L)).1) w (pMk P) n) P), G, J, ((pAgain 6148914691236517205 w n (lFind L)).1)), (-2)) else (if x = 3 then (((pPow 0 (pKeep (gKeep J tj ((pMark (pTake ((pAgain 6148914691236517205 w n (lFind L)).1) w (pMk P) n) P).2.2.2.2.2)) (pMark (pTake ((pAgain 6148914691236517205 w n (lFind L)).1) w (pMk P) n) P))), (gClear G), J, ((pWrite (pKeep (gKeep J tj ((pMark (pTake ((pAgain 6148914691236517205 w n (lFind L)).1) w (pMk P) n) P).2.2.2.2.2)) (pMark (pTake ((pAgain 6148914691236517205 w n (lFind L)).1) w (pMk P) n) P)) bits (1 - w) n (lDraft (1 - w) 0 ((pKeep (gKeep J tj ((pMark (pTake ((pAgain 6148914691236517205 w n (lFind L)).1) w (pMk P) n) P).2.2.2.2.2)) (pMark (pTake ((pAgain 6148914691236517205 w n (lFind L)).1) w (pMk P) n) P)).2.2.2.1) ((pAgain 6148914691236517205 w n (lFind L)).1))).1)), (-2)) else (((pPow 1 (pKeep (gKeep J tj ((pMark (pTake ((pAgain 6148914691236517205 w n (lFind L)).1) w (pMk P) n) P).2.2.2.2.2)) (pMark (pTake ((pAgain 6148914691236517205 w n (lFind L)).1) w (pMk P) n) P))), G, J, (pFinish (pKeep (gKeep J tj ((pMark (pTake ((pAgain 6148914691236517205 w n (lFind L)).1) w (pMk P) n) P).2.2.2.2.2)) (pMark (pTake ((pAgain 6148914691236517205 w n (lFind L)).1) w (pMk P) n) P)) (1 - w) n (lDraft (1 - w) 0 ((pKeep (gKeep J tj ((pMark (pTake ((pAgain 6148914691236517205 w n (lFind L)).1) w (pMk P) n) P).2.2.2.2.2)) (pMark (pTake ((pAgain 6148914691236517205 w n (lFind L)).1) w (pMk P) n) P)).2.2.2.1) ((pAgain 6148914691236517205 w n (lFind L)).1)))), (jU (pKeep (gKeep J tj ((pMark (pTake ((pAgain 6148914691236517205 w n (lFind L)).1) w (pMk P) n) P).2.2.2.2.2)) (pMark (pTake ((pAgain 6148914691236517205 w n (lFind L)).1) w (pMk P) n) P)) J n tj tj)))))) else ((P, G, J, L), (-1)))) else ((P, G, J, L), (-1)))
set_option maxHeartbeats 4000000 in
set_option maxRecDepth 100000 in
theorem k_D_mount (l : Launch) (dC : Nat → ClassId) (dI : Nat → Nat → Nat) (k5 : Nat → ClassId) (a : Nat → Nat) (P : PP) (G J : GG) (L : LL) (n w tj : Nat) (x : Int32) (bits : Int64) (hn : P.1 = nI n) (hn4 : 4 ≤ n) (hn8 : n ≤ 8) (hw : w = 0 ∨ w = 1) (hf : (lFind L).1 1 = nI w) (hz : L.2 7 w = 0 ∨ L.2 7 w = 1) (hJ : GI J tj) : Met l y_D_mount w_D_mount ({ frames := 4, cells := 0, slots := 0, locals := 91 }) (kx_Pc (dC, dI) clA (tyL k5) (wD a k5 P G J L) [.ref (a 0), .int x, .long bits]) (kx_Q (dC, dI) clA (wD a k5 P G J L) (wS a k5 (d_mount P G J L n w tj x bits).1) (some (.int (d_mount P G J L n w tj x bits).2))) 0 0 (kx_A (wD a k5 P G J L)) := by
  refine Met.ofW (cc := c_D_mount) (maxL := 5) (ret := (some .int)) (by decide) rfl ?_
  intro p e s m args below meth c s₁ B hml hv
  obtain ⟨rfl, hP, hK, hD0⟩ := hv
  have hx := B.exec
  have hb := B.bytes
  have hr := B.returns
  have hts : ∀ w ∈ wsA, w.before _ s = true := fun w h => atoms_spec (ws := w_D_mount) B.pre w (List.mem_cons_of_mem _ h)
  have hown : s.vm.findClass R_D = some m.cls := findClass_of_methodNamed B.named
  have hlocks := B.notSynchronized
  have hD := kx_D.self hD0
  have hS : va_S (kx_A (wD a k5 P G J L)) s.heap s.heap [] := va_S.rf
  have hl := lv_entry ([.ref (a 0), .int x, .long bits]) (n := 5) (Nat.le_of_ble_eq_true rfl)
  rw [lg_entry_eq]
  generalize (lg_sl ([.ref (a 0), .int x, .long bits]) ++ List.replicate (5 - (lg_sl ([.ref (a 0), .int x, .long bits])).length) Slot.unset).toArray = ls at hl ⊢
  have hl : lv_has ls 5 [(0, .ref (a 0)), (1, .int x), (2, .long bits)] := hl
  refine lv_aload_n hx hb d_D_mount_0 rfl (lv_at hl 0 rfl) ?_
  refine va_get (D := (dC, dI)) (ci := 2) (v := .int (P.2.2.1)) (C := R_D) (T := T_D) (N := 9) hx hb hts wu_D hown hK hP 0 rfl rfl 8 (by decide) (hts _ wf_D_46) (fun _ h9 => h9) rfl d_D_mount_1 ?_
  refine lv_if_ne (tgt := 16) hx hb d_D_mount_4 (by decide) (fun hc_1 => ?_) (fun hc_1 => ?_)
  · refine lv_iconst (v := (-1)) hx hb d_D_mount_16 (by decide) ?_
    have e : d_mount P G J L n w tj x bits = ((P, G, J, L), (-1)) := by unfold d_mount; rw [if_neg hc_1]
    exact W.iret (v := (-1)) hx hb hr (fun t ht hW => kx_Qi (by rw [e]) ht hP (by rw [e]) hS rfl) hS.2.2 d_D_mount_17
  · refine lv_iload_n hx hb d_D_mount_7 rfl (lv_at hl 1 rfl) ?_
    refine lv_if_lt (tgt := 16) hx hb d_D_mount_8 (by decide) (fun hc_2 => ?_) (fun hc_2 => ?_)
    · refine lv_iconst (v := (-1)) hx hb d_D_mount_16 (by decide) ?_
      have e : d_mount P G J L n w tj x bits = ((P, G, J, L), (-1)) := by unfold d_mount; rw [if_pos hc_1, if_pos hc_2]
      exact W.iret (v := (-1)) hx hb hr (fun t ht hW => kx_Qi (by rw [e]) ht hP (by rw [e]) hS rfl) hS.2.2 d_D_mount_17
    · refine lv_iload_n hx hb d_D_mount_11 rfl (lv_at hl 1 rfl) ?_
      refine lv_iconst (v := 3) hx hb d_D_mount_12 (by decide) ?_
      refine lv_icmp_le (tgt := 18) hx hb d_D_mount_13 (by decide) (fun hc_3 => ?_) (fun hc_3 => ?_)
      · refine lv_aload_n hx hb d_D_mount_18 rfl (lv_at hl 0 rfl) ?_
        refine va_get (D := (dC, dI)) (ci := 2) (v := .ref (a 12)) (C := R_D) (T := T_D) (N := 9) hx hb hts wu_D hown hK hP 0 rfl rfl 5 (by decide) (hts _ wf_D_34) (fun _ h9 => h9) rfl d_D_mount_19 ?_
        refine kx_V (ws2 := (wD a k5 P G J (lFind L))) (As := []) (rest := []) ⟨hx, hb, hml, hown, hts⟩ (k_L_findCounting l dC dI k5 a L) (cwV 0 hts (goodV wm_D_149 wn_L_findCounting ws_L_findCounting wi_L wc_L_findCounting) rfl rfl rfl (by decide +kernel) ⟨Nat.le_of_ble_eq_true rfl, Nat.le_of_ble_eq_true rfl⟩) ⟨Nat.zero_le _, Nat.zero_le _⟩ hK hP hD hS [12, 13, 14, 15, 16, 17, 18, 19, 20, 21, 22, 23] (by decide) rfl 0 rfl rfl rfl rfl rfl rfl hl.1 rfl (Nat.le_of_ble_eq_true rfl) d_D_mount_22 (fun H locs hP hD hS => ?_)
        refine W.eq (g2 := F0 m 25 ls []) rfl ?_
        refine lv_iload_n hx hb d_D_mount_25 rfl (lv_at hl 1 rfl) ?_
        refine lv_iconst (v := 1) hx hb d_D_mount_26 (by decide) ?_
        refine lv_icmp_ne (tgt := 38) hx hb d_D_mount_27 (by decide) (fun hc_4 => ?_) (fun hc_4 => ?_)
        · refine lv_aload_n hx hb d_D_mount_38 rfl (lv_at hl 0 rfl) ?_
          refine lv_ldc2 hx hb hown (hts _ wk_D_156) d_D_mount_39 ?_
          refine kx_VW (w1 := (wD a k5 P G J ((pAgain 6148914691236517205 w n (lFind L)).1))) (As := [.long 6148914691236517205]) (rest := []) ⟨hx, hb, hml, hown, hts⟩ (k_D_writeLabelAgain l dC dI k5 a P G J (lFind L) 6148914691236517205 w hw hf n hn hn8) (cwV 1 hts (goodV wm_D_152 wn_D_writeLabelAgain ws_D_writeLabelAgain wi_D wc_D_writeLabelAgain) rfl rfl rfl (by decide +kernel) ⟨Nat.le_of_ble_eq_true rfl, Nat.le_of_ble_eq_true rfl⟩) ⟨Nat.zero_le _, Nat.zero_le _⟩ hK hP hD hS 0 rfl rfl rfl rfl hl.1 rfl (Nat.le_of_ble_eq_true rfl) d_D_mount_42 (fun H locs hP hD hS => ?_)
          refine W.eq (g2 := F0 m 45 ls []) rfl ?_
          refine lv_aload_n hx hb d_D_mount_45 rfl (lv_at hl 0 rfl) ?_
          refine kx_VW (w1 := (wD a k5 (pMark (pTake ((pAgain 6148914691236517205 w n (lFind L)).1) w (pMk P) n) P) G J ((pAgain 6148914691236517205 w n (lFind L)).1))) (As := []) (rest := []) ⟨hx, hb, hml, hown, hts⟩ (k_D_takeMarksOfLabel l dC dI k5 a P G J ((pAgain 6148914691236517205 w n (lFind L)).1) w hw (show (((pAgain 6148914691236517205 w n (lFind L)).1)).1 1 = nI w by rw [pAgain_sc]; exact hf) n hn hn8) (cwV 0 hts (goodV wm_D_158 wn_D_takeMarksOfLabel ws_D_takeMarksOfLabel wi_D wc_D_takeMarksOfLabel) rfl rfl rfl (by decide +kernel) ⟨Nat.le_of_ble_eq_true rfl, Nat.le_of_ble_eq_true rfl⟩) ⟨Nat.zero_le _, Nat.zero_le _⟩ hK hP hD hS 0 rfl rfl rfl rfl hl.1 rfl (Nat.le_of_ble_eq_true rfl) d_D_mount_46 (fun H locs hP hD hS => ?_)
          refine W.eq (g2 := F0 m 49 ls []) rfl ?_
          refine lv_iconst (v := 0) hx hb d_D_mount_49 (by decide) ?_
          refine lv_istore (lv' := [(4, .int 0), (0, .ref (a 0)), (1, .int x), (2, .long bits)]) hx hb d_D_mount_50 hl (by decide) rfl (fun ls hl => ?_)
          refine lv_aload_n hx hb d_D_mount_52 rfl (lv_at hl 1 rfl) ?_
          refine va_get (D := (dC, dI)) (ci := 2) (v := .ref (a 12)) (C := R_D) (T := T_D) (N := 9) hx hb hts wu_D hown hK hP 0 rfl rfl 5 (by decide) (hts _ wf_D_34) (fun _ h9 => h9) rfl d_D_mount_53 ?_
          refine kx_VR (As := []) (rest := []) ⟨hx, hb, hml, hown, hts⟩ (k_L_tellsOfGroup l dC dI k5 a ((pAgain 6148914691236517205 w n (lFind L)).1) w hw (show (((pAgain 6148914691236517205 w n (lFind L)).1)).1 1 = nI w by rw [pAgain_sc]; exact hf) (narB (by rw [pAgain_ar _ _ hw _ 7 (by omega)]; exact hz))) (cwV 0 hts (goodV wm_D_161 wn_L_tellsOfGroup ws_L_tellsOfGroup wi_L wc_L_tellsOfGroup) rfl rfl rfl (by decide +kernel) ⟨Nat.le_of_ble_eq_true rfl, Nat.le_of_ble_eq_true rfl⟩) ⟨Nat.zero_le _, Nat.zero_le _⟩ hK hP hD [12, 13, 14, 15, 16, 17, 18, 19, 20, 21, 22, 23] (by decide) rfl 0 rfl rfl rfl hl.1 rfl (Nat.le_of_ble_eq_true rfl) d_D_mount_56 ?_
          refine W.eq (g2 := F0 m 59 ls [.int (((pAgain 6148914691236517205 w n (lFind L)).1).2 7 w)]) rfl ?_
          refine lv_if_eq (tgt := 87) hx hb d_D_mount_59 (by decide) (fun hc_5 => ?_) (fun hc_5 => ?_)
          · refine lv_aload_n hx hb d_D_mount_87 rfl (lv_at hl 1 rfl) ?_
            refine va_get (D := (dC, dI)) (ci := 2) (v := .ref (a 12)) (C := R_D) (T := T_D) (N := 9) hx hb hts wu_D hown hK hP 0 rfl rfl 5 (by decide) (hts _ wf_D_34) (fun _ h9 => h9) rfl d_D_mount_88 ?_
            refine lv_iconst (v := 0) hx hb d_D_mount_91 (by decide) ?_
            refine lv_aload_n hx hb d_D_mount_92 rfl (lv_at hl 1 rfl) ?_
            refine va_get (D := (dC, dI)) (ci := 2) (v := .ref (a 1)) (C := R_D) (T := T_D) (N := 9) hx hb hts wu_D hown hK hP 0 rfl rfl 0 (by decide) (hts _ wf_D_9) (fun _ h9 => h9) rfl d_D_mount_93 ?_
            refine kx_V (ws2 := (wD a k5 (pMark (pTake ((pAgain 6148914691236517205 w n (lFind L)).1) w (pMk P) n) P) G J (lDraft (1 - w) 0 ((pMark (pTake ((pAgain 6148914691236517205 w n (lFind L)).1) w (pMk P) n) P).2.2.2.1) ((pAgain 6148914691236517205 w n (lFind L)).1)))) (As := [.int 0, .ref (a 1)]) (rest := []) ⟨hx, hb, hml, hown, hts⟩ (k_L_draft l dC dI k5 a ((pAgain 6148914691236517205 w n (lFind L)).1) (1 - w) (flipO hw) (show 1 - (((pAgain 6148914691236517205 w n (lFind L)).1)).1 1 = nI (1 - w) by rw [pAgain_sc, hf]; exact flipW hw) (a 1) ((pMark (pTake ((pAgain 6148914691236517205 w n (lFind L)).1) w (pMk P) n) P).2.2.2.1) 0 rfl) (cwV 2 hts (goodV wm_D_94 wn_L_draft ws_L_draft wi_L wc_L_draft) rfl rfl rfl (by decide +kernel) ⟨Nat.le_of_ble_eq_true rfl, Nat.le_of_ble_eq_true rfl⟩) ⟨Nat.zero_le _, Nat.zero_le _⟩ hK hP hD hS [12, 13, 14, 15, 16, 17, 18, 19, 20, 21, 22, 23, 1] (by decide) rfl 0 rfl rfl rfl rfl rfl rfl hl.1 rfl (Nat.le_of_ble_eq_true rfl) d_D_mount_96 (fun H locs hP hD hS => ?_)
            refine W.eq (g2 := F0 m 99 ls []) rfl ?_
            refine lv_iload_n hx hb d_D_mount_99 rfl (lv_at hl 2 rfl) ?_
            refine lv_iconst (v := 3) hx hb d_D_mount_100 (by decide) ?_
            refine lv_icmp_ne (tgt := 110) hx hb d_D_mount_101 (by decide) (fun hc_6 => ?_) (fun hc_6 => ?_)
            · refine lv_aload_n hx hb d_D_mount_110 rfl (lv_at hl 1 rfl) ?_
              refine kx_VW (w1 := (wD a k5 (pMark (pTake ((pAgain 6148914691236517205 w n (lFind L)).1) w (pMk P) n) P) G J (pFinish (pMark (pTake ((pAgain 6148914691236517205 w n (lFind L)).1) w (pMk P) n) P) (1 - w) n (lDraft (1 - w) 0 ((pMark (pTake ((pAgain 6148914691236517205 w n (lFind L)).1) w (pMk P) n) P).2.2.2.1) ((pAgain 6148914691236517205 w n (lFind L)).1))))) (As := []) (rest := []) ⟨hx, hb, hml, hown, hts⟩ (k_D_finishLabel l dC dI k5 a (pMark (pTake ((pAgain 6148914691236517205 w n (lFind L)).1) w (pMk P) n) P) G J (lDraft (1 - w) 0 ((pMark (pTake ((pAgain 6148914691236517205 w n (lFind L)).1) w (pMk P) n) P).2.2.2.1) ((pAgain 6148914691236517205 w n (lFind L)).1)) (1 - w) (flipO hw) (show 1 - (((pAgain 6148914691236517205 w n (lFind L)).1)).1 1 = nI (1 - w) by rw [pAgain_sc, hf]; exact flipW hw) n hn hn8) (cwV 0 hts (goodV wm_D_102 wn_D_finishLabel ws_D_finishLabel wi_D wc_D_finishLabel) rfl rfl rfl (by decide +kernel) ⟨Nat.le_of_ble_eq_true rfl, Nat.le_of_ble_eq_true rfl⟩) ⟨Nat.zero_le _, Nat.zero_le _⟩ hK hP hD hS 0 rfl rfl rfl rfl hl.1 rfl (Nat.le_of_ble_eq_true rfl) d_D_mount_111 (fun H locs hP hD hS => ?_)
              refine W.eq (g2 := F0 m 114 ls []) rfl ?_
              refine lv_aload_n hx hb d_D_mount_114 rfl (lv_at hl 1 rfl) ?_
              refine lv_iconst (v := 1) hx hb d_D_mount_115 (by decide) ?_
              refine kx_put (ws' := (wD a k5 (pPow 1 (pMark (pTake ((pAgain 6148914691236517205 w n (lFind L)).1) w (pMk P) n) P)) G J (pFinish (pMark (pTake ((pAgain 6148914691236517205 w n (lFind L)).1) w (pMk P) n) P) (1 - w) n (lDraft (1 - w) 0 ((pMark (pTake ((pAgain 6148914691236517205 w n (lFind L)).1) w (pMk P) n) P).2.2.2.1) ((pAgain 6148914691236517205 w n (lFind L)).1))))) (D := (dC, dI)) (ci := 2) (v := .int 1) (ty := .boolean) (C := R_D) (T := T_D) (N := 9) hx hb hts wu_D ty_D ok_D nm_D hown hK hP hD hS 0 rfl rfl 8 (by decide) (hts _ wf_D_46) (fun _ h9 => h9) rfl (by decide +kernel) rfl rfl (Nat.le_of_ble_eq_true rfl) rfl d_D_mount_116 (fun H locs hP hD hS => ?_)
              refine lv_iload hx hb d_D_mount_119 (lv_at hl 0 rfl) ?_
              have e : d_mount P G J L n w tj x bits = (((pPow 1 (pMark (pTake ((pAgain 6148914691236517205 w n (lFind L)).1) w (pMk P) n) P)), G, J, (pFinish (pMark (pTake ((pAgain 6148914691236517205 w n (lFind L)).1) w (pMk P) n) P) (1 - w) n (lDraft (1 - w) 0 ((pMark (pTake ((pAgain 6148914691236517205 w n (lFind L)).1) w (pMk P) n) P).2.2.2.1) ((pAgain 6148914691236517205 w n (lFind L)).1)))), 0) := by unfold d_mount; rw [if_pos hc_1, if_neg hc_2, if_pos hc_3, if_neg hc_4, if_pos hc_5, if_neg hc_6]
              exact W.iret (v := 0) hx hb hr (fun t ht hW => kx_Qi (by rw [e]) ht hP (by rw [e]) hS rfl) hS.2.2 d_D_mount_121
            · refine lv_aload_n hx hb d_D_mount_104 rfl (lv_at hl 1 rfl) ?_
              refine lv_lload_n hx hb d_D_mount_105 rfl (lv_at hl 3 rfl) ?_
              refine kx_VW (w1 := (wD a k5 (pPow 0 (pMark (pTake ((pAgain 6148914691236517205 w n (lFind L)).1) w (pMk P) n) P)) (gClear G) J ((pWrite (pMark (pTake ((pAgain 6148914691236517205 w n (lFind L)).1) w (pMk P) n) P) bits (1 - w) n (lDraft (1 - w) 0 ((pMark (pTake ((pAgain 6148914691236517205 w n (lFind L)).1) w (pMk P) n) P).2.2.2.1) ((pAgain 6148914691236517205 w n (lFind L)).1))).1))) (As := [.long bits]) (rest := []) ⟨hx, hb, hml, hown, hts⟩ (k_D_powerFailsInLabel l dC dI k5 a (pMark (pTake ((pAgain 6148914691236517205 w n (lFind L)).1) w (pMk P) n) P) G J (lDraft (1 - w) 0 ((pMark (pTake ((pAgain 6148914691236517205 w n (lFind L)).1) w (pMk P) n) P).2.2.2.1) ((pAgain 6148914691236517205 w n (lFind L)).1)) bits (1 - w) (flipO hw) (show 1 - (((pAgain 6148914691236517205 w n (lFind L)).1)).1 1 = nI (1 - w) by rw [pAgain_sc, hf]; exact flipW hw) n hn hn8) (cwV 1 hts (goodV wm_D_98 wn_D_powerFailsInLabel ws_D_powerFailsInLabel wi_D wc_D_powerFailsInLabel) rfl rfl rfl (by decide +kernel) ⟨Nat.le_of_ble_eq_true rfl, Nat.le_of_ble_eq_true rfl⟩) ⟨Nat.zero_le _, Nat.zero_le _⟩ hK hP hD hS 0 rfl rfl rfl rfl hl.1 rfl (Nat.le_of_ble_eq_true rfl) d_D_mount_106 (fun H locs hP hD hS => ?_)
              refine W.eq (g2 := F0 m 109 ls [.int (-2)]) rfl ?_
              have e : d_mount P G J L n w tj x bits = (((pPow 0 (pMark (pTake ((pAgain 6148914691236517205 w n (lFind L)).1) w (pMk P) n) P)), (gClear G), J, ((pWrite (pMark (pTake ((pAgain 6148914691236517205 w n (lFind L)).1) w (pMk P) n) P) bits (1 - w) n (lDraft (1 - w) 0 ((pMark (pTake ((pAgain 6148914691236517205 w n (lFind L)).1) w (pMk P) n) P).2.2.2.1) ((pAgain 6148914691236517205 w n (lFind L)).1))).1)), (-2)) := by unfold d_mount; rw [if_pos hc_1, if_neg hc_2, if_pos hc_3, if_neg hc_4, if_pos hc_5, if_pos hc_6]
              exact W.iret (v := (-2)) hx hb hr (fun t ht hW => kx_Qi (by rw [e]) ht hP (by rw [e]) hS rfl) hS.2.2 d_D_mount_109
          · refine lv_iload_n hx hb d_D_mount_62 rfl (lv_at hl 2 rfl) ?_
            refine lv_iconst (v := 2) hx hb d_D_mount_63 (by decide) ?_
            refine lv_icmp_ne (tgt := 70) hx hb d_D_mount_64 (by decide) (fun hc_7 => ?_) (fun hc_7 => ?_)
            · refine lv_aload_n hx hb d_D_mount_70 rfl (lv_at hl 1 rfl) ?_
              refine va_get (D := (dC, dI)) (ci := 2) (v := .ref (a 8)) (C := R_D) (T := T_D) (N := 9) hx hb hts wu_D hown hK hP 0 rfl rfl 4 (by decide) (hts _ wf_D_28) (fun _ h9 => h9) rfl d_D_mount_71 ?_
              refine lv_aload_n hx hb d_D_mount_74 rfl (lv_at hl 1 rfl) ?_
              refine va_get (D := (dC, dI)) (ci := 2) (v := .ref (a 3)) (C := R_D) (T := T_D) (N := 9) hx hb hts wu_D hown hK hP 0 rfl rfl 2 (by decide) (hts _ wf_D_17) (fun _ h9 => h9) rfl d_D_mount_75 ?_
              refine kx_V (ws2 := (wD a k5 (pKeep (gKeep J tj ((pMark (pTake ((pAgain 6148914691236517205 w n (lFind L)).1) w (pMk P) n) P).2.2.2.2.2)) (pMark (pTake ((pAgain 6148914691236517205 w n (lFind L)).1) w (pMk P) n) P)) G J ((pAgain 6148914691236517205 w n (lFind L)).1))) (As := [.ref (a 3)]) (rest := []) ⟨hx, hb, hml, hown, hts⟩ (k_G_keepIn l dC dI k5 (a 8) (a 9) (a 10) (a 11) (J.1) (J.2.1) (J.2.2.1) (J.2.2.2.1) (J.2.2.2.2) (a 3) ((pMark (pTake ((pAgain 6148914691236517205 w n (lFind L)).1) w (pMk P) n) P).2.2.2.2.2) tj hJ.2.1 hJ.1 hJ.2.2.1 hJ.2.2.2.1) (cwV 1 hts (goodV wm_D_105 wn_G_keepIn ws_G_keepIn wi_G wc_G_keepIn) rfl rfl rfl (by decide +kernel) ⟨Nat.le_of_ble_eq_true rfl, Nat.le_of_ble_eq_true rfl⟩) ⟨Nat.zero_le _, Nat.zero_le _⟩ hK hP hD hS [8, 9, 10, 11, 3] (by decide) rfl 0 rfl rfl rfl rfl rfl rfl hl.1 rfl (Nat.le_of_ble_eq_true rfl) d_D_mount_78 (fun H locs hP hD hS => ?_)
              refine W.eq (g2 := F0 m 81 ls []) rfl ?_
              refine lv_aload_n hx hb d_D_mount_81 rfl (lv_at hl 1 rfl) ?_
              refine kx_VRW (As := []) (rest := []) ⟨hx, hb, hml, hown, hts⟩ (k_D_unitsOfJournal l dC dI k5 a (pKeep (gKeep J tj ((pMark (pTake ((pAgain 6148914691236517205 w n (lFind L)).1) w (pMk P) n) P).2.2.2.2.2)) (pMark (pTake ((pAgain 6148914691236517205 w n (lFind L)).1) w (pMk P) n) P)) G J ((pAgain 6148914691236517205 w n (lFind L)).1) n hn hn8 hn4 tj hJ.2.1 hJ.1 hJ.2.2.2.1 hJ.2.2.2.2) (cwV 0 hts (goodV wm_D_164 wn_D_unitsOfJournal ws_D_unitsOfJournal wi_D wc_D_unitsOfJournal) rfl rfl rfl (by decide +kernel) ⟨Nat.le_of_ble_eq_true rfl, Nat.le_of_ble_eq_true rfl⟩) ⟨Nat.zero_le _, Nat.zero_le _⟩ hK hP hD 0 rfl rfl rfl hl.1 rfl (Nat.le_of_ble_eq_true rfl) d_D_mount_82 ?_
              refine W.eq (g2 := F0 m 85 ls [.int (jU (pKeep (gKeep J tj ((pMark (pTake ((pAgain 6148914691236517205 w n (lFind L)).1) w (pMk P) n) P).2.2.2.2.2)) (pMark (pTake ((pAgain 6148914691236517205 w n (lFind L)).1) w (pMk P) n) P)) J n tj tj)]) rfl ?_
              refine lv_istore (lv' := [(4, .int (jU (pKeep (gKeep J tj ((pMark (pTake ((pAgain 6148914691236517205 w n (lFind L)).1) w (pMk P) n) P).2.2.2.2.2)) (pMark (pTake ((pAgain 6148914691236517205 w n (lFind L)).1) w (pMk P) n) P)) J n tj tj)), (0, .ref (a 0)), (1, .int x), (2, .long bits)]) hx hb d_D_mount_85 hl (by decide) rfl (fun ls hl => ?_)
              refine lv_aload_n hx hb d_D_mount_87 rfl (lv_at hl 1 rfl) ?_
              refine va_get (D := (dC, dI)) (ci := 2) (v := .ref (a 12)) (C := R_D) (T := T_D) (N := 9) hx hb hts wu_D hown hK hP 0 rfl rfl 5 (by decide) (hts _ wf_D_34) (fun _ h9 => h9) rfl d_D_mount_88 ?_
              refine lv_iconst (v := 0) hx hb d_D_mount_91 (by decide) ?_
              refine lv_aload_n hx hb d_D_mount_92 rfl (lv_at hl 1 rfl) ?_
              refine va_get (D := (dC, dI)) (ci := 2) (v := .ref (a 1)) (C := R_D) (T := T_D) (N := 9) hx hb hts wu_D hown hK hP 0 rfl rfl 0 (by decide) (hts _ wf_D_9) (fun _ h9 => h9) rfl d_D_mount_93 ?_
              refine kx_V (ws2 := (wD a k5 (pKeep (gKeep J tj ((pMark (pTake ((pAgain 6148914691236517205 w n (lFind L)).1) w (pMk P) n) P).2.2.2.2.2)) (pMark (pTake ((pAgain 6148914691236517205 w n (lFind L)).1) w (pMk P) n) P)) G J (lDraft (1 - w) 0 ((pKeep (gKeep J tj ((pMark (pTake ((pAgain 6148914691236517205 w n (lFind L)).1) w (pMk P) n) P).2.2.2.2.2)) (pMark (pTake ((pAgain 6148914691236517205 w n (lFind L)).1) w (pMk P) n) P)).2.2.2.1) ((pAgain 6148914691236517205 w n (lFind L)).1)))) (As := [.int 0, .ref (a 1)]) (rest := []) ⟨hx, hb, hml, hown, hts⟩ (k_L_draft l dC dI k5 a ((pAgain 6148914691236517205 w n (lFind L)).1) (1 - w) (flipO hw) (show 1 - (((pAgain 6148914691236517205 w n (lFind L)).1)).1 1 = nI (1 - w) by rw [pAgain_sc, hf]; exact flipW hw) (a 1) ((pKeep (gKeep J tj ((pMark (pTake ((pAgain 6148914691236517205 w n (lFind L)).1) w (pMk P) n) P).2.2.2.2.2)) (pMark (pTake ((pAgain 6148914691236517205 w n (lFind L)).1) w (pMk P) n) P)).2.2.2.1) 0 rfl) (cwV 2 hts (goodV wm_D_94 wn_L_draft ws_L_draft wi_L wc_L_draft) rfl rfl rfl (by decide +kernel) ⟨Nat.le_of_ble_eq_true rfl, Nat.le_of_ble_eq_true rfl⟩) ⟨Nat.zero_le _, Nat.zero_le _⟩ hK hP hD hS [12, 13, 14, 15, 16, 17, 18, 19, 20, 21, 22, 23, 1] (by decide) rfl 0 rfl rfl rfl rfl rfl rfl hl.1 rfl (Nat.le_of_ble_eq_true rfl) d_D_mount_96 (fun H locs hP hD hS => ?_)
              refine W.eq (g2 := F0 m 99 ls []) rfl ?_
              refine lv_iload_n hx hb d_D_mount_99 rfl (lv_at hl 2 rfl) ?_
              refine lv_iconst (v := 3) hx hb d_D_mount_100 (by decide) ?_
              refine lv_icmp_ne (tgt := 110) hx hb d_D_mount_101 (by decide) (fun hc_8 => ?_) (fun hc_8 => ?_)
              · refine lv_aload_n hx hb d_D_mount_110 rfl (lv_at hl 1 rfl) ?_
                refine kx_VW (w1 := (wD a k5 (pKeep (gKeep J tj ((pMark (pTake ((pAgain 6148914691236517205 w n (lFind L)).1) w (pMk P) n) P).2.2.2.2.2)) (pMark (pTake ((pAgain 6148914691236517205 w n (lFind L)).1) w (pMk P) n) P)) G J (pFinish (pKeep (gKeep J tj ((pMark (pTake ((pAgain 6148914691236517205 w n (lFind L)).1) w (pMk P) n) P).2.2.2.2.2)) (pMark (pTake ((pAgain 6148914691236517205 w n (lFind L)).1) w (pMk P) n) P)) (1 - w) n (lDraft (1 - w) 0 ((pKeep (gKeep J tj ((pMark (pTake ((pAgain 6148914691236517205 w n (lFind L)).1) w (pMk P) n) P).2.2.2.2.2)) (pMark (pTake ((pAgain 6148914691236517205 w n (lFind L)).1) w (pMk P) n) P)).2.2.2.1) ((pAgain 6148914691236517205 w n (lFind L)).1))))) (As := []) (rest := []) ⟨hx, hb, hml, hown, hts⟩ (k_D_finishLabel l dC dI k5 a (pKeep (gKeep J tj ((pMark (pTake ((pAgain 6148914691236517205 w n (lFind L)).1) w (pMk P) n) P).2.2.2.2.2)) (pMark (pTake ((pAgain 6148914691236517205 w n (lFind L)).1) w (pMk P) n) P)) G J (lDraft (1 - w) 0 ((pKeep (gKeep J tj ((pMark (pTake ((pAgain 6148914691236517205 w n (lFind L)).1) w (pMk P) n) P).2.2.2.2.2)) (pMark (pTake ((pAgain 6148914691236517205 w n (lFind L)).1) w (pMk P) n) P)).2.2.2.1) ((pAgain 6148914691236517205 w n (lFind L)).1)) (1 - w) (flipO hw) (show 1 - (((pAgain 6148914691236517205 w n (lFind L)).1)).1 1 = nI (1 - w) by rw [pAgain_sc, hf]; exact flipW hw) n hn hn8) (cwV 0 hts (goodV wm_D_102 wn_D_finishLabel ws_D_finishLabel wi_D wc_D_finishLabel) rfl rfl rfl (by decide +kernel) ⟨Nat.le_of_ble_eq_true rfl, Nat.le_of_ble_eq_true rfl⟩) ⟨Nat.zero_le _, Nat.zero_le _⟩ hK hP hD hS 0 rfl rfl rfl rfl hl.1 rfl (Nat.le_of_ble_eq_true rfl) d_D_mount_111 (fun H locs hP hD hS => ?_)
                refine W.eq (g2 := F0 m 114 ls []) rfl ?_
                refine lv_aload_n hx hb d_D_mount_114 rfl (lv_at hl 1 rfl) ?_
                refine lv_iconst (v := 1) hx hb d_D_mount_115 (by decide) ?_
                refine kx_put (ws' := (wD a k5 (pPow 1 (pKeep (gKeep J tj ((pMark (pTake ((pAgain 6148914691236517205 w n (lFind L)).1) w (pMk P) n) P).2.2.2.2.2)) (pMark (pTake ((pAgain 6148914691236517205 w n (lFind L)).1) w (pMk P) n) P))) G J (pFinish (pKeep (gKeep J tj ((pMark (pTake ((pAgain 6148914691236517205 w n (lFind L)).1) w (pMk P) n) P).2.2.2.2.2)) (pMark (pTake ((pAgain 6148914691236517205 w n (lFind L)).1) w (pMk P) n) P)) (1 - w) n (lDraft (1 - w) 0 ((pKeep (gKeep J tj ((pMark (pTake ((pAgain 6148914691236517205 w n (lFind L)).1) w (pMk P) n) P).2.2.2.2.2)) (pMark (pTake ((pAgain 6148914691236517205 w n (lFind L)).1) w (pMk P) n) P)).2.2.2.1) ((pAgain 6148914691236517205 w n (lFind L)).1))))) (D := (dC, dI)) (ci := 2) (v := .int 1) (ty := .boolean) (C := R_D) (T := T_D) (N := 9) hx hb hts wu_D ty_D ok_D nm_D hown hK hP hD hS 0 rfl rfl 8 (by decide) (hts _ wf_D_46) (fun _ h9 => h9) rfl (by decide +kernel) rfl rfl (Nat.le_of_ble_eq_true rfl) rfl d_D_mount_116 (fun H locs hP hD hS => ?_)
                refine lv_iload hx hb d_D_mount_119 (lv_at hl 0 rfl) ?_
                have e : d_mount P G J L n w tj x bits = (((pPow 1 (pKeep (gKeep J tj ((pMark (pTake ((pAgain 6148914691236517205 w n (lFind L)).1) w (pMk P) n) P).2.2.2.2.2)) (pMark (pTake ((pAgain 6148914691236517205 w n (lFind L)).1) w (pMk P) n) P))), G, J, (pFinish (pKeep (gKeep J tj ((pMark (pTake ((pAgain 6148914691236517205 w n (lFind L)).1) w (pMk P) n) P).2.2.2.2.2)) (pMark (pTake ((pAgain 6148914691236517205 w n (lFind L)).1) w (pMk P) n) P)) (1 - w) n (lDraft (1 - w) 0 ((pKeep (gKeep J tj ((pMark (pTake ((pAgain 6148914691236517205 w n (lFind L)).1) w (pMk P) n) P).2.2.2.2.2)) (pMark (pTake ((pAgain 6148914691236517205 w n (lFind L)).1) w (pMk P) n) P)).2.2.2.1) ((pAgain 6148914691236517205 w n (lFind L)).1)))), (jU (pKeep (gKeep J tj ((pMark (pTake ((pAgain 6148914691236517205 w n (lFind L)).1) w (pMk P) n) P).2.2.2.2.2)) (pMark (pTake ((pAgain 6148914691236517205 w n (lFind L)).1) w (pMk P) n) P)) J n tj tj)) := by unfold d_mount; rw [if_pos hc_1, if_neg hc_2, if_pos hc_3, if_neg hc_4, if_neg hc_5, if_neg hc_7, if_neg hc_8]
                exact W.iret (v := (jU (pKeep (gKeep J tj ((pMark (pTake ((pAgain 6148914691236517205 w n (lFind L)).1) w (pMk P) n) P).2.2.2.2.2)) (pMark (pTake ((pAgain 6148914691236517205 w n (lFind L)).1) w (pMk P) n) P)) J n tj tj)) hx hb hr (fun t ht hW => kx_Qi (by rw [e]) ht hP (by rw [e]) hS rfl) hS.2.2 d_D_mount_121
              · refine lv_aload_n hx hb d_D_mount_104 rfl (lv_at hl 1 rfl) ?_
                refine lv_lload_n hx hb d_D_mount_105 rfl (lv_at hl 3 rfl) ?_
                refine kx_VW (w1 := (wD a k5 (pPow 0 (pKeep (gKeep J tj ((pMark (pTake ((pAgain 6148914691236517205 w n (lFind L)).1) w (pMk P) n) P).2.2.2.2.2)) (pMark (pTake ((pAgain 6148914691236517205 w n (lFind L)).1) w (pMk P) n) P))) (gClear G) J ((pWrite (pKeep (gKeep J tj ((pMark (pTake ((pAgain 6148914691236517205 w n (lFind L)).1) w (pMk P) n) P).2.2.2.2.2)) (pMark (pTake ((pAgain 6148914691236517205 w n (lFind L)).1) w (pMk P) n) P)) bits (1 - w) n (lDraft (1 - w) 0 ((pKeep (gKeep J tj ((pMark (pTake ((pAgain 6148914691236517205 w n (lFind L)).1) w (pMk P) n) P).2.2.2.2.2)) (pMark (pTake ((pAgain 6148914691236517205 w n (lFind L)).1) w (pMk P) n) P)).2.2.2.1) ((pAgain 6148914691236517205 w n (lFind L)).1))).1))) (As := [.long bits]) (rest := []) ⟨hx, hb, hml, hown, hts⟩ (k_D_powerFailsInLabel l dC dI k5 a (pKeep (gKeep J tj ((pMark (pTake ((pAgain 6148914691236517205 w n (lFind L)).1) w (pMk P) n) P).2.2.2.2.2)) (pMark (pTake ((pAgain 6148914691236517205 w n (lFind L)).1) w (pMk P) n) P)) G J (lDraft (1 - w) 0 ((pKeep (gKeep J tj ((pMark (pTake ((pAgain 6148914691236517205 w n (lFind L)).1) w (pMk P) n) P).2.2.2.2.2)) (pMark (pTake ((pAgain 6148914691236517205 w n (lFind L)).1) w (pMk P) n) P)).2.2.2.1) ((pAgain 6148914691236517205 w n (lFind L)).1)) bits (1 - w) (flipO hw) (show 1 - (((pAgain 6148914691236517205 w n (lFind L)).1)).1 1 = nI (1 - w) by rw [pAgain_sc, hf]; exact flipW hw) n hn hn8) (cwV 1 hts (goodV wm_D_98 wn_D_powerFailsInLabel ws_D_powerFailsInLabel wi_D wc_D_powerFailsInLabel) rfl rfl rfl (by decide +kernel) ⟨Nat.le_of_ble_eq_true rfl, Nat.le_of_ble_eq_true rfl⟩) ⟨Nat.zero_le _, Nat.zero_le _⟩ hK hP hD hS 0 rfl rfl rfl rfl hl.1 rfl (Nat.le_of_ble_eq_true rfl) d_D_mount_106 (fun H locs hP hD hS => ?_)
                refine W.eq (g2 := F0 m 109 ls [.int (-2)]) rfl ?_
                have e : d_mount P G J L n w tj x bits = (((pPow 0 (pKeep (gKeep J tj ((pMark (pTake ((pAgain 6148914691236517205 w n (lFind L)).1) w (pMk P) n) P).2.2.2.2.2)) (pMark (pTake ((pAgain 6148914691236517205 w n (lFind L)).1) w (pMk P) n) P))), (gClear G), J, ((pWrite (pKeep (gKeep J tj ((pMark (pTake ((pAgain 6148914691236517205 w n (lFind L)).1) w (pMk P) n) P).2.2.2.2.2)) (pMark (pTake ((pAgain 6148914691236517205 w n (lFind L)).1) w (pMk P) n) P)) bits (1 - w) n (lDraft (1 - w) 0 ((pKeep (gKeep J tj ((pMark (pTake ((pAgain 6148914691236517205 w n (lFind L)).1) w (pMk P) n) P).2.2.2.2.2)) (pMark (pTake ((pAgain 6148914691236517205 w n (lFind L)).1) w (pMk P) n) P)).2.2.2.1) ((pAgain 6148914691236517205 w n (lFind L)).1))).1)), (-2)) := by unfold d_mount; rw [if_pos hc_1, if_neg hc_2, if_pos hc_3, if_neg hc_4, if_neg hc_5, if_neg hc_7, if_pos hc_8]
                exact W.iret (v := (-2)) hx hb hr (fun t ht hW => kx_Qi (by rw [e]) ht hP (by rw [e]) hS rfl) hS.2.2 d_D_mount_109
            · refine lv_bipush (v := (-2)) hx hb d_D_mount_67 (by decide) ?_
              have e : d_mount P G J L n w tj x bits = (((pMark (pTake ((pAgain 6148914691236517205 w n (lFind L)).1) w (pMk P) n) P), G, J, ((pAgain 6148914691236517205 w n (lFind L)).1)), (-2)) := by unfold d_mount; rw [if_pos hc_1, if_neg hc_2, if_pos hc_3, if_neg hc_4, if_neg hc_5, if_pos hc_7]
              exact W.iret (v := (-2)) hx hb hr (fun t ht hW => kx_Qi (by rw [e]) ht hP (by rw [e]) hS rfl) hS.2.2 d_D_mount_69
        · refine lv_aload_n hx hb d_D_mount_30 rfl (lv_at hl 0 rfl) ?_
          refine lv_lload_n hx hb d_D_mount_31 rfl (lv_at hl 2 rfl) ?_
          refine kx_VW (w1 := (wD a k5 P G J ((pAgain bits w n (lFind L)).1))) (As := [.long bits]) (rest := []) ⟨hx, hb, hml, hown, hts⟩ (k_D_writeLabelAgain l dC dI k5 a P G J (lFind L) bits w hw hf n hn hn8) (cwV 1 hts (goodV wm_D_152 wn_D_writeLabelAgain ws_D_writeLabelAgain wi_D wc_D_writeLabelAgain) rfl rfl rfl (by decide +kernel) ⟨Nat.le_of_ble_eq_true rfl, Nat.le_of_ble_eq_true rfl⟩) ⟨Nat.zero_le _, Nat.zero_le _⟩ hK hP hD hS 0 rfl rfl rfl rfl hl.1 rfl (Nat.le_of_ble_eq_true rfl) d_D_mount_32 (fun H locs hP hD hS => ?_)
          refine W.eq (g2 := F0 m 35 ls []) rfl ?_
          refine lv_bipush (v := (-2)) hx hb d_D_mount_35 (by decide) ?_
          have e : d_mount P G J L n w tj x bits = ((P, G, J, ((pAgain bits w n (lFind L)).1)), (-2)) := by unfold d_mount; rw [if_pos hc_1, if_neg hc_2, if_pos hc_3, if_pos hc_4]
          exact W.iret (v := (-2)) hx hb hr (fun t ht hW => kx_Qi (by rw [e]) ht hP (by rw [e]) hS rfl) hS.2.2 d_D_mount_37
      · refine lv_iconst (v := (-1)) hx hb d_D_mount_16 (by decide) ?_
        have e : d_mount P G J L n w tj x bits = ((P, G, J, L), (-1)) := by unfold d_mount; rw [if_pos hc_1, if_neg hc_2, if_neg hc_3]
        exact W.iret (v := (-1)) hx hb hr (fun t ht hW => kx_Qi (by rw [e]) ht hP (by rw [e]) hS rfl) hS.2.2 d_D_mount_17
def d_scrub (P : PP) (G J : GG) (L : LL) (n : Nat) (t x : Int32) (bits : Int64) : SS × Int32 := (if (P.2.2.1) = 0 then ((P, G, J, L), (-2)) else (if (bI (decide (¬ t < 2 ∧ ¬ P.2.1 ≤ t))) = 0 then ((P, G, J, L), (-1)) else (if x < 0 then ((P, G, J, L), (-1)) else (if x ≤ 1 then (if (nI (pRotIn P t n)) = 0 then ((P, G, J, L), 0) else (if x = 1 then (((pPow 0 P), (gClear G), J, L), (-2)) else ((pRot (pScrub (pRt P) t n) P, G, J, L), nI (pRotIn P t n)))) else ((P, G, J, L), (-1))))))
set_option maxHeartbeats 4000000 in
set_option maxRecDepth 100000 in
theorem k_D_scrub (l : Launch) (dC : Nat → ClassId) (dI : Nat → Nat → Nat) (k5 : Nat → ClassId) (a : Nat → Nat) (P : PP) (G J : GG) (L : LL) (n : Nat) (t x : Int32) (bits : Int64) (hn : P.1 = nI n) (hn4 : 4 ≤ n) (hn8 : n ≤ 8) : Met l y_D_scrub w_D_scrub ({ frames := 2, cells := 0, slots := 0, locals := 45 }) (kx_Pc (dC, dI) clA (tyL k5) (wD a k5 P G J L) [.ref (a 0), .int t, .int x, .long bits]) (kx_Q (dC, dI) clA (wD a k5 P G J L) (wS a k5 (d_scrub P G J L n t x bits).1) (some (.int (d_scrub P G J L n t x bits).2))) 0 0 (kx_A (wD a k5 P G J L)) := by
  refine Met.ofW (cc := c_D_scrub) (maxL := 7) (ret := (some .int)) (by decide) rfl ?_
  intro p e s m args below meth c s₁ B hml hv
  obtain ⟨rfl, hP, hK, hD0⟩ := hv
  have hx := B.exec
  have hb := B.bytes
  have hr := B.returns
  have hts : ∀ w ∈ wsA, w.before _ s = true := fun w h => atoms_spec (ws := w_D_scrub) B.pre w (List.mem_cons_of_mem _ h)
  have hown : s.vm.findClass R_D = some m.cls := findClass_of_methodNamed B.named
  have hlocks := B.notSynchronized
  have hD := kx_D.self hD0
  have hS : va_S (kx_A (wD a k5 P G J L)) s.heap s.heap [] := va_S.rf
  have hl := lv_entry ([.ref (a 0), .int t, .int x, .long bits]) (n := 7) (Nat.le_of_ble_eq_true rfl)
  rw [lg_entry_eq]
  generalize (lg_sl ([.ref (a 0), .int t, .int x, .long bits]) ++ List.replicate (7 - (lg_sl ([.ref (a 0), .int t, .int x, .long bits])).length) Slot.unset).toArray = ls at hl ⊢
  have hl : lv_has ls 7 [(0, .ref (a 0)), (1, .int t), (2, .int x), (3, .long bits)] := hl
  refine lv_aload_n hx hb d_D_scrub_0 rfl (lv_at hl 0 rfl) ?_
  refine va_get (D := (dC, dI)) (ci := 2) (v := .int (P.2.2.1)) (C := R_D) (T := T_D) (N := 9) hx hb hts wu_D hown hK hP 0 rfl rfl 8 (by decide) (hts _ wf_D_46) (fun _ h9 => h9) rfl d_D_scrub_1 ?_
  refine lv_if_ne (tgt := 10) hx hb d_D_scrub_4 (by decide) (fun hc_1 => ?_) (fun hc_1 => ?_)
  · refine lv_aload_n hx hb d_D_scrub_10 rfl (lv_at hl 0 rfl) ?_
    refine lv_iload_n hx hb d_D_scrub_11 rfl (lv_at hl 1 rfl) ?_
    refine kx_VRW (As := [.int t]) (rest := []) ⟨hx, hb, hml, hown, hts⟩ (k_D_isRow l dC dI k5 a P G J L t) (cwV 1 hts (goodV wm_D_129 wn_D_isRow ws_D_isRow wi_D wc_D_isRow) rfl rfl rfl (by decide +kernel) ⟨Nat.le_of_ble_eq_true rfl, Nat.le_of_ble_eq_true rfl⟩) ⟨Nat.zero_le _, Nat.zero_le _⟩ hK hP hD 0 rfl rfl rfl hl.1 rfl (Nat.le_of_ble_eq_true rfl) d_D_scrub_12 ?_
    refine W.eq (g2 := F0 m 15 ls [.int (bI (decide (¬ t < 2 ∧ ¬ P.2.1 ≤ t)))]) rfl ?_
    refine lv_if_eq (tgt := 27) hx hb d_D_scrub_15 (by decide) (fun hc_2 => ?_) (fun hc_2 => ?_)
    · refine lv_iconst (v := (-1)) hx hb d_D_scrub_27 (by decide) ?_
      have e : d_scrub P G J L n t x bits = ((P, G, J, L), (-1)) := by unfold d_scrub; rw [if_neg hc_1, if_pos hc_2]
      exact W.iret (v := (-1)) hx hb hr (fun t ht hW => kx_Qi (by rw [e]) ht hP (by rw [e]) hS rfl) hS.2.2 d_D_scrub_28
    · refine lv_iload_n hx hb d_D_scrub_18 rfl (lv_at hl 2 rfl) ?_
      refine lv_if_lt (tgt := 27) hx hb d_D_scrub_19 (by decide) (fun hc_3 => ?_) (fun hc_3 => ?_)
      · refine lv_iconst (v := (-1)) hx hb d_D_scrub_27 (by decide) ?_
        have e : d_scrub P G J L n t x bits = ((P, G, J, L), (-1)) := by unfold d_scrub; rw [if_neg hc_1, if_neg hc_2, if_pos hc_3]
        exact W.iret (v := (-1)) hx hb hr (fun t ht hW => kx_Qi (by rw [e]) ht hP (by rw [e]) hS rfl) hS.2.2 d_D_scrub_28
      · refine lv_iload_n hx hb d_D_scrub_22 rfl (lv_at hl 2 rfl) ?_
        refine lv_iconst (v := 1) hx hb d_D_scrub_23 (by decide) ?_
        refine lv_icmp_le (tgt := 29) hx hb d_D_scrub_24 (by decide) (fun hc_4 => ?_) (fun hc_4 => ?_)
        · refine lv_aload_n hx hb d_D_scrub_29 rfl (lv_at hl 0 rfl) ?_
          refine lv_iload_n hx hb d_D_scrub_30 rfl (lv_at hl 1 rfl) ?_
          refine kx_VRW (As := [.int t]) (rest := []) ⟨hx, hb, hml, hown, hts⟩ (k_D_rottenIn l dC dI k5 a P G J L t n hn hn8) (cwV 1 hts (goodV wm_D_144 wn_D_rottenIn ws_D_rottenIn wi_D wc_D_rottenIn) rfl rfl rfl (by decide +kernel) ⟨Nat.le_of_ble_eq_true rfl, Nat.le_of_ble_eq_true rfl⟩) ⟨Nat.zero_le _, Nat.zero_le _⟩ hK hP hD 0 rfl rfl rfl hl.1 rfl (Nat.le_of_ble_eq_true rfl) d_D_scrub_31 ?_
          refine W.eq (g2 := F0 m 34 ls [.int (nI (pRotIn P t n))]) rfl ?_
          refine lv_istore (lv' := [(5, .int (nI (pRotIn P t n))), (0, .ref (a 0)), (1, .int t), (2, .int x), (3, .long bits)]) hx hb d_D_scrub_34 hl (by decide) rfl (fun ls hl => ?_)
          refine lv_iload hx hb d_D_scrub_36 (lv_at hl 0 rfl) ?_
          refine lv_if_ne (tgt := 43) hx hb d_D_scrub_38 (by decide) (fun hc_5 => ?_) (fun hc_5 => ?_)
          · refine lv_iload_n hx hb d_D_scrub_43 rfl (lv_at hl 3 rfl) ?_
            refine lv_iconst (v := 1) hx hb d_D_scrub_44 (by decide) ?_
            refine lv_icmp_ne (tgt := 53) hx hb d_D_scrub_45 (by decide) (fun hc_6 => ?_) (fun hc_6 => ?_)
            · refine lv_iconst (v := 0) hx hb d_D_scrub_53 (by decide) ?_
              refine lv_istore (lv' := [(6, .int 0), (5, .int (nI (pRotIn P t n))), (0, .ref (a 0)), (1, .int t), (2, .int x), (3, .long bits)]) hx hb d_D_scrub_54 hl (by decide) rfl (fun ls hl => ?_)
              have lp : ∀ (q9 i : Nat) (H : Heap) (locs : List Loc) (ls : Array Slot), i + q9 = n → va_P (dC, dI) clA (wD a k5 (pRot (pScrub (pRt P) t i) P) G J L) H → va_D (kx_A (wD a k5 P G J L)) (wD a k5 (pRot (pScrub (pRt P) t i) P) G J L) → va_S (kx_A (wD a k5 P G J L)) s.heap H locs → lv_has ls 7 [(6, .int (nI i)), (5, .int (nI (pRotIn P t n))), (0, .ref (a 0)), (1, .int t), (2, .int x), (3, .long bits)] → W p l e (headSpec w_D_scrub ({ frames := 2, cells := 0, slots := 0, locals := 45 })).room s m ([.ref (a 0), .int t, .int x, .long bits] : List Value).toArray below meth c H locs 0 0 (MQ below (kx_Q (dC, dI) clA (wD a k5 P G J L) (wS a k5 (d_scrub P G J L n t x bits).1) (some (.int (d_scrub P G J L n t x bits).2))) ([.ref (a 0), .int t, .int x, .long bits] : List Value).toArray s 0 0 (kx_A (wD a k5 P G J L))) (F0 m 56 ls []) := by
                intro q9
                induction q9 with
                | zero =>
                  intro i H locs ls hi hP hD hS hl
                  have hi : n = i := by omega
                  subst hi
                  refine lv_iload hx hb d_D_scrub_56 (lv_at hl 0 rfl) ?_
                  refine lv_aload_n hx hb d_D_scrub_58 rfl (lv_at hl 2 rfl) ?_
                  refine va_get (D := (dC, dI)) (ci := 2) (v := .int ((pRot (pScrub (pRt P) t n) P).1)) (C := R_D) (T := T_D) (N := 9) hx hb hts wu_D hown hK hP 0 rfl rfl 6 (by decide) (hts _ wf_D_64) (fun _ h9 => h9) rfl d_D_scrub_59 ?_
                  refine lv_icmp_ge (tgt := 88) hx hb d_D_scrub_62 (by decide) (fun hc => ?_) (fun hc => ?_)
                  · refine lv_iload hx hb d_D_scrub_88 (lv_at hl 1 rfl) ?_
                    have e : d_scrub P G J L n t x bits = (((pRot (pScrub (pRt P) t n) P), G, J, L), (nI (pRotIn P t n))) := by unfold d_scrub; rw [if_neg hc_1, if_neg hc_2, if_neg hc_3, if_pos hc_4, if_neg hc_5, if_neg hc_6]
                    exact W.iret (v := (nI (pRotIn P t n))) hx hb hr (fun t ht hW => kx_Qi (by rw [e]) ht hP (by rw [e]) hS rfl) hS.2.2 d_D_scrub_90
                  · exact absurd (by show P.1 ≤ _; rw [hn]; exact nI_le (by omega) (by omega)) hc
                | succ q9 ih =>
                  intro i H locs ls hi hP hD hS hl
                  refine lv_iload hx hb d_D_scrub_56 (lv_at hl 0 rfl) ?_
                  refine lv_aload_n hx hb d_D_scrub_58 rfl (lv_at hl 2 rfl) ?_
                  refine va_get (D := (dC, dI)) (ci := 2) (v := .int ((pRot (pScrub (pRt P) t i) P).1)) (C := R_D) (T := T_D) (N := 9) hx hb hts wu_D hown hK hP 0 rfl rfl 6 (by decide) (hts _ wf_D_64) (fun _ h9 => h9) rfl d_D_scrub_59 ?_
                  refine lv_icmp_ge (tgt := 88) hx hb d_D_scrub_62 (by decide) (fun hc => ?_) (fun hc => ?_)
                  · exact absurd hc (by show ¬ P.1 ≤ _; rw [hn]; exact nI_ge (by omega) (by omega))
                  · refine lv_aload_n hx hb d_D_scrub_65 rfl (lv_at hl 2 rfl) ?_
                    refine va_get (D := (dC, dI)) (ci := 2) (v := .ref (a 2)) (C := R_D) (T := T_D) (N := 9) hx hb hts wu_D hown hK hP 0 rfl rfl 1 (by decide) (hts _ wf_D_13) (fun _ h9 => h9) rfl d_D_scrub_66 ?_
                    refine lv_iload hx hb d_D_scrub_69 (lv_at hl 0 rfl) ?_
                    refine lv_dup2_11 hx hb d_D_scrub_71 rfl rfl ?_
                    refine kx_lald hx hb hK hP 2 1 rfl rfl i (rfl) (by omega) (by omega) d_D_scrub_72 ?_
                    refine lv_lconst (v := 1) hx hb d_D_scrub_73 (by decide) ?_
                    refine lv_iload_n hx hb d_D_scrub_74 rfl (lv_at hl 3 rfl) ?_
                    refine lv_lshl (v := (1 <<< (t.toInt64 &&& 63))) hx hb d_D_scrub_75 rfl ?_
                    refine lv_ldc2 hx hb hown (hts _ wk_D_147) d_D_scrub_76 ?_
                    refine lv_lxor hx hb d_D_scrub_79 ?_
                    refine lv_land hx hb d_D_scrub_80 ?_
                    refine kx_last (ws' := (wD a k5 (pRot (pScrub (pRt P) t (i + 1)) P) G J L)) hx hb hK hP hD hS 2 1 rfl rfl i (rfl) (by omega) (by omega) rfl d_D_scrub_81 (fun H locs hP hD hS => ?_)
                    refine lv_iinc (v := nI (i + 1)) (lv' := [(6, .int (nI (i + 1))), (5, .int (nI (pRotIn P t n))), (0, .ref (a 0)), (1, .int t), (2, .int x), (3, .long bits)]) hx hb d_D_scrub_82 hl (k := 0) rfl (nI_1 i) (by decide) rfl (fun ls hl => ?_)
                    refine lv_goto (tgt := 56) hx hb d_D_scrub_85 (by decide) ?_
                    exact ih (i + 1) H locs ls (by omega) hP hD hS (lv_sub hl [0, 1, 2, 3, 4, 5] rfl)
              exact lp n 0 s.heap [] ls (by omega) hP hD hS (lv_sub hl [0, 1, 2, 3, 4, 5] rfl)
            · refine lv_aload_n hx hb d_D_scrub_48 rfl (lv_at hl 1 rfl) ?_
              refine kx_VW (w1 := (wD a k5 (pPow 0 P) (gClear G) J L)) (As := []) (rest := []) ⟨hx, hb, hml, hown, hts⟩ (k_D_powerFails l dC dI k5 a P G J L) (cwV 0 hts (goodV wm_D_87 wn_D_powerFails ws_D_powerFails wi_D wc_D_powerFails) rfl rfl rfl (by decide +kernel) ⟨Nat.le_of_ble_eq_true rfl, Nat.le_of_ble_eq_true rfl⟩) ⟨Nat.zero_le _, Nat.zero_le _⟩ hK hP hD hS 0 rfl rfl rfl rfl hl.1 rfl (Nat.le_of_ble_eq_true rfl) d_D_scrub_49 (fun H locs hP hD hS => ?_)
              refine W.eq (g2 := F0 m 52 ls [.int (-2)]) rfl ?_
              have e : d_scrub P G J L n t x bits = (((pPow 0 P), (gClear G), J, L), (-2)) := by unfold d_scrub; rw [if_neg hc_1, if_neg hc_2, if_neg hc_3, if_pos hc_4, if_neg hc_5, if_pos hc_6]
              exact W.iret (v := (-2)) hx hb hr (fun t ht hW => kx_Qi (by rw [e]) ht hP (by rw [e]) hS rfl) hS.2.2 d_D_scrub_52
          · refine lv_iconst (v := 0) hx hb d_D_scrub_41 (by decide) ?_
            have e : d_scrub P G J L n t x bits = ((P, G, J, L), 0) := by unfold d_scrub; rw [if_neg hc_1, if_neg hc_2, if_neg hc_3, if_pos hc_4, if_pos hc_5]
            exact W.iret (v := 0) hx hb hr (fun t ht hW => kx_Qi (by rw [e]) ht hP (by rw [e]) hS rfl) hS.2.2 d_D_scrub_42
        · refine lv_iconst (v := (-1)) hx hb d_D_scrub_27 (by decide) ?_
          have e : d_scrub P G J L n t x bits = ((P, G, J, L), (-1)) := by unfold d_scrub; rw [if_neg hc_1, if_neg hc_2, if_neg hc_3, if_neg hc_4]
          exact W.iret (v := (-1)) hx hb hr (fun t ht hW => kx_Qi (by rw [e]) ht hP (by rw [e]) hS rfl) hS.2.2 d_D_scrub_28
  · refine lv_bipush (v := (-2)) hx hb d_D_scrub_7 (by decide) ?_
    have e : d_scrub P G J L n t x bits = ((P, G, J, L), (-2)) := by unfold d_scrub; rw [if_pos hc_1]
    exact W.iret (v := (-2)) hx hb hr (fun t ht hW => kx_Qi (by rw [e]) ht hP (by rw [e]) hS rfl) hS.2.2 d_D_scrub_9
