set_option maxHeartbeats 4000000 in
set_option maxRecDepth 100000 in
theorem k_M_has (l : Launch) (dC : Nat → ClassId) (dI : Nat → Nat → Nat) (k5 : Nat → ClassId) (b : Nat → Nat) (vT vn vr vo vl vb : Int32) (fN fK fW fL fM fE fR fF fS fP fY fT fJ fI : FF) (d : Nat) (hd : d < 8) : Met l y_M_has w_M_has ({ frames := 0, cells := 0, slots := 0, locals := 0 }) (kx_Pc (dC, dI) clA (tyL k5) (wMd b k5 vT vn vr vo vl vb fN fK fW fL fM fE fR fF fS fP fY fT fJ fI) [.ref (b 0), .int (nI d)]) (kx_R (some (.int (mHas fL fF fS d)))) 0 0 (fun _ => False) := by
  refine Met.ofW (cc := c_M_has) (maxL := 4) (ret := (some .int)) (by decide) rfl ?_
  intro p e s m args below meth c s₁ B hml hv
  obtain ⟨rfl, hP, hK, hD0⟩ := hv
  have hx := B.exec
  have hb := B.bytes
  have hr := B.returns
  have hts : ∀ w ∈ wsA, w.before _ s = true := fun w h => atoms_spec (ws := w_M_has) B.pre w (List.mem_cons_of_mem _ h)
  have hown : s.vm.findClass R_M = some m.cls := findClass_of_methodNamed B.named
  have hlocks := B.notSynchronized
  have hD := kx_D.self hD0
  have hS : va_S (kx_A (wMd b k5 vT vn vr vo vl vb fN fK fW fL fM fE fR fF fS fP fY fT fJ fI)) s.heap s.heap [] := va_S.rf
  have hl := lv_entry ([.ref (b 0), .int (nI d)]) (n := 4) (Nat.le_of_ble_eq_true rfl)
  rw [lg_entry_eq]
  generalize (lg_sl ([.ref (b 0), .int (nI d)]) ++ List.replicate (4 - (lg_sl ([.ref (b 0), .int (nI d)])).length) Slot.unset).toArray = ls at hl ⊢
  have hl : lv_has ls 4 [(0, .ref (b 0)), (1, .int (nI d))] := hl
  refine lv_iconst (v := 0) hx hb d_M_has_0 (by decide) ?_
  refine lv_istore_n (lv' := [(2, .int 0), (0, .ref (b 0)), (1, .int (nI d))]) hx hb d_M_has_1 rfl hl (by decide) rfl (fun ls hl => ?_)
  refine lv_iconst (v := 2) hx hb d_M_has_2 (by decide) ?_
  refine lv_iload_n hx hb d_M_has_3 rfl (lv_at hl 2 rfl) ?_
  refine lv_imul hx hb d_M_has_4 ?_
  refine lv_istore_n (lv' := [(3, .int (2 * (nI d))), (2, .int 0), (0, .ref (b 0)), (1, .int (nI d))]) hx hb d_M_has_5 rfl hl (by decide) rfl (fun ls hl => ?_)
  refine lv_iload_n hx hb d_M_has_6 rfl (lv_at hl 0 rfl) ?_
  refine lv_iconst (v := 2) hx hb d_M_has_7 (by decide) ?_
  refine lv_iload_n hx hb d_M_has_8 rfl (lv_at hl 3 rfl) ?_
  refine lv_imul hx hb d_M_has_9 ?_
  refine lv_iconst (v := 2) hx hb d_M_has_10 (by decide) ?_
  refine lv_iadd hx hb d_M_has_11 ?_
  refine lv_icmp_ge (tgt := 66) hx hb d_M_has_12 (by decide) (fun hc_1 => ?_) (fun hc_1 => ?_)
  · exact absurd hc_1 (by rw [show (2 : Int32) * nI d = nI (2 * d) from pk_mul 2 d, show nI (2 * d) + 2 = nI (2 * d + 2) from nI_add _ 2]; exact nI_ge (by omega) (by omega))
  · refine lv_aload_n hx hb d_M_has_15 rfl (lv_at hl 2 rfl) ?_
    refine va_get (D := (dC, dI)) (ci := 3) (v := .ref (b 4)) (C := R_M) (T := T_M) (N := 20) hx hb hts wu_M hown hK hP 0 rfl rfl 7 (by decide) (hts _ wf_M_20) (fun _ h9 => h9) rfl d_M_has_16 ?_
    refine lv_iload_n hx hb d_M_has_19 rfl (lv_at hl 3 rfl) ?_
    refine kx_zald hx hb hK hP 4 3 rfl rfl d (rfl) (by omega) (by omega) d_M_has_20 ?_
    refine lv_if_ne (tgt := 66) hx hb d_M_has_21 (by decide) (fun hc_2 => ?_) (fun hc_2 => ?_)
    · refine lv_iload_n hx hb d_M_has_66 rfl (lv_at hl 1 rfl) ?_
      exact W.iret (v := 0) hx hb hr (fun t ht hW => kx_Ri (by unfold mHas; rw [if_neg hc_2]) ht) (fun _ h => absurd h List.not_mem_nil) d_M_has_67
    · refine lv_aload_n hx hb d_M_has_24 rfl (lv_at hl 2 rfl) ?_
      refine va_get (D := (dC, dI)) (ci := 3) (v := .ref (b 8)) (C := R_M) (T := T_M) (N := 20) hx hb hts wu_M hown hK hP 0 rfl rfl 11 (by decide) (hts _ wf_M_33) (fun _ h9 => h9) rfl d_M_has_25 ?_
      refine lv_iload_n hx hb d_M_has_28 rfl (lv_at hl 0 rfl) ?_
      refine kx_iald hx hb hK hP 8 0 rfl rfl (2 * d) (pk_mul 2 d) (by omega) (by omega) d_M_has_29 ?_
      refine lv_aload_n hx hb d_M_has_30 rfl (lv_at hl 2 rfl) ?_
      refine va_get (D := (dC, dI)) (ci := 3) (v := .ref (b 9)) (C := R_M) (T := T_M) (N := 20) hx hb hts wu_M hown hK hP 0 rfl rfl 12 (by decide) (hts _ wf_M_36) (fun _ h9 => h9) rfl d_M_has_31 ?_
      refine lv_iload_n hx hb d_M_has_34 rfl (lv_at hl 0 rfl) ?_
      refine kx_iald hx hb hK hP 9 0 rfl rfl (2 * d) (pk_mul 2 d) (by omega) (by omega) d_M_has_35 ?_
      refine lv_icmp_ne (tgt := 58) hx hb d_M_has_36 (by decide) (fun hc_3 => ?_) (fun hc_3 => ?_)
      · refine lv_iload_n hx hb d_M_has_58 rfl (lv_at hl 1 rfl) ?_
        refine W.eq (g2 := F0 m 59 ls [.int (mHas1 fF fS (2 * d) 0)]) (by rw [show mHas1 fF fS (2 * d) 0 = _ from if_neg (fun z => hc_3 z.1)]) ?_
        refine lv_istore_n (lv' := [(2, .int (mHas1 fF fS (2 * d) 0)), (3, .int (2 * (nI d))), (0, .ref (b 0)), (1, .int (nI d))]) hx hb d_M_has_59 rfl hl (by decide) rfl (fun ls hl => ?_)
        refine lv_iinc (v := (2 * (nI d)) + 1) (lv' := [(3, .int ((2 * (nI d)) + 1)), (2, .int (mHas1 fF fS (2 * d) 0)), (0, .ref (b 0)), (1, .int (nI d))]) hx hb d_M_has_60 hl (k := 1) rfl rfl (by decide) rfl (fun ls hl => ?_)
        refine lv_goto (tgt := 6) hx hb d_M_has_63 (by decide) ?_
        refine lv_iload_n hx hb d_M_has_6 rfl (lv_at hl 0 rfl) ?_
        refine lv_iconst (v := 2) hx hb d_M_has_7 (by decide) ?_
        refine lv_iload_n hx hb d_M_has_8 rfl (lv_at hl 3 rfl) ?_
        refine lv_imul hx hb d_M_has_9 ?_
        refine lv_iconst (v := 2) hx hb d_M_has_10 (by decide) ?_
        refine lv_iadd hx hb d_M_has_11 ?_
        refine lv_icmp_ge (tgt := 66) hx hb d_M_has_12 (by decide) (fun hc_4 => ?_) (fun hc_4 => ?_)
        · exact absurd hc_4 (by rw [show (2 : Int32) * nI d = nI (2 * d) from pk_mul 2 d, show nI (2 * d) + 2 = nI (2 * d + 2) from nI_add _ 2, show nI (2 * d) + 1 = nI (2 * d + 1) from nI_1 _]; exact nI_ge (by omega) (by omega))
        · refine lv_aload_n hx hb d_M_has_15 rfl (lv_at hl 2 rfl) ?_
          refine va_get (D := (dC, dI)) (ci := 3) (v := .ref (b 4)) (C := R_M) (T := T_M) (N := 20) hx hb hts wu_M hown hK hP 0 rfl rfl 7 (by decide) (hts _ wf_M_20) (fun _ h9 => h9) rfl d_M_has_16 ?_
          refine lv_iload_n hx hb d_M_has_19 rfl (lv_at hl 3 rfl) ?_
          refine kx_zald hx hb hK hP 4 3 rfl rfl d (rfl) (by omega) (by omega) d_M_has_20 ?_
          refine lv_if_ne (tgt := 66) hx hb d_M_has_21 (by decide) (fun hc_5 => ?_) (fun hc_5 => ?_)
          · exact absurd hc_2 hc_5
          · refine lv_aload_n hx hb d_M_has_24 rfl (lv_at hl 2 rfl) ?_
            refine va_get (D := (dC, dI)) (ci := 3) (v := .ref (b 8)) (C := R_M) (T := T_M) (N := 20) hx hb hts wu_M hown hK hP 0 rfl rfl 11 (by decide) (hts _ wf_M_33) (fun _ h9 => h9) rfl d_M_has_25 ?_
            refine lv_iload_n hx hb d_M_has_28 rfl (lv_at hl 0 rfl) ?_
            refine kx_iald hx hb hK hP 8 0 rfl rfl (2 * d + 1) (by rw [show (2 : Int32) * nI d = nI (2 * d) from pk_mul 2 d]; exact nI_1 _) (by omega) (by omega) d_M_has_29 ?_
            refine lv_aload_n hx hb d_M_has_30 rfl (lv_at hl 2 rfl) ?_
            refine va_get (D := (dC, dI)) (ci := 3) (v := .ref (b 9)) (C := R_M) (T := T_M) (N := 20) hx hb hts wu_M hown hK hP 0 rfl rfl 12 (by decide) (hts _ wf_M_36) (fun _ h9 => h9) rfl d_M_has_31 ?_
            refine lv_iload_n hx hb d_M_has_34 rfl (lv_at hl 0 rfl) ?_
            refine kx_iald hx hb hK hP 9 0 rfl rfl (2 * d + 1) (by rw [show (2 : Int32) * nI d = nI (2 * d) from pk_mul 2 d]; exact nI_1 _) (by omega) (by omega) d_M_has_35 ?_
            refine lv_icmp_ne (tgt := 58) hx hb d_M_has_36 (by decide) (fun hc_6 => ?_) (fun hc_6 => ?_)
            · refine lv_iload_n hx hb d_M_has_58 rfl (lv_at hl 1 rfl) ?_
              refine W.eq (g2 := F0 m 59 ls [.int (mHas1 fF fS (2 * d + 1) (mHas1 fF fS (2 * d) 0))]) (by rw [show mHas1 fF fS (2 * d + 1) (mHas1 fF fS (2 * d) 0) = _ from if_neg (fun z => hc_6 z.1)]) ?_
              refine lv_istore_n (lv' := [(2, .int (mHas1 fF fS (2 * d + 1) (mHas1 fF fS (2 * d) 0))), (3, .int ((2 * (nI d)) + 1)), (0, .ref (b 0)), (1, .int (nI d))]) hx hb d_M_has_59 rfl hl (by decide) rfl (fun ls hl => ?_)
              refine lv_iinc (v := ((2 * (nI d)) + 1) + 1) (lv' := [(3, .int (((2 * (nI d)) + 1) + 1)), (2, .int (mHas1 fF fS (2 * d + 1) (mHas1 fF fS (2 * d) 0))), (0, .ref (b 0)), (1, .int (nI d))]) hx hb d_M_has_60 hl (k := 1) rfl rfl (by decide) rfl (fun ls hl => ?_)
              refine lv_goto (tgt := 6) hx hb d_M_has_63 (by decide) ?_
              refine lv_iload_n hx hb d_M_has_6 rfl (lv_at hl 0 rfl) ?_
              refine lv_iconst (v := 2) hx hb d_M_has_7 (by decide) ?_
              refine lv_iload_n hx hb d_M_has_8 rfl (lv_at hl 3 rfl) ?_
              refine lv_imul hx hb d_M_has_9 ?_
              refine lv_iconst (v := 2) hx hb d_M_has_10 (by decide) ?_
              refine lv_iadd hx hb d_M_has_11 ?_
              refine lv_icmp_ge (tgt := 66) hx hb d_M_has_12 (by decide) (fun hc_7 => ?_) (fun hc_7 => ?_)
              · refine lv_iload_n hx hb d_M_has_66 rfl (lv_at hl 1 rfl) ?_
                exact W.iret (v := (mHas1 fF fS (2 * d + 1) (mHas1 fF fS (2 * d) 0))) hx hb hr (fun t ht hW => kx_Ri (by unfold mHas; rw [if_pos hc_2]) ht) (fun _ h => absurd h List.not_mem_nil) d_M_has_67
              · exact absurd (by rw [show (2 : Int32) * nI d = nI (2 * d) from pk_mul 2 d, show nI (2 * d) + 2 = nI (2 * d + 2) from nI_add _ 2, show nI (2 * d) + 1 = nI (2 * d + 1) from nI_1 _, show nI (2 * d + 1) + 1 = nI (2 * d + 2) from nI_1 _]; exact nI_le (Nat.le_refl _) (by omega)) hc_7
            · refine lv_aload_n hx hb d_M_has_39 rfl (lv_at hl 2 rfl) ?_
              refine va_get (D := (dC, dI)) (ci := 3) (v := .ref (b 8)) (C := R_M) (T := T_M) (N := 20) hx hb hts wu_M hown hK hP 0 rfl rfl 11 (by decide) (hts _ wf_M_33) (fun _ h9 => h9) rfl d_M_has_40 ?_
              refine lv_iload_n hx hb d_M_has_43 rfl (lv_at hl 0 rfl) ?_
              refine kx_iald hx hb hK hP 8 0 rfl rfl (2 * d + 1) (by rw [show (2 : Int32) * nI d = nI (2 * d) from pk_mul 2 d]; exact nI_1 _) (by omega) (by omega) d_M_has_44 ?_
              refine lv_iload_n hx hb d_M_has_45 rfl (lv_at hl 1 rfl) ?_
              refine lv_icmp_le (tgt := 58) hx hb d_M_has_46 (by decide) (fun hc_8 => ?_) (fun hc_8 => ?_)
              · refine lv_iload_n hx hb d_M_has_58 rfl (lv_at hl 1 rfl) ?_
                refine W.eq (g2 := F0 m 59 ls [.int (mHas1 fF fS (2 * d + 1) (mHas1 fF fS (2 * d) 0))]) (by rw [show mHas1 fF fS (2 * d + 1) (mHas1 fF fS (2 * d) 0) = _ from if_neg (fun z => absurd z.2 (Int32.not_lt.mpr hc_8))]) ?_
                refine lv_istore_n (lv' := [(2, .int (mHas1 fF fS (2 * d + 1) (mHas1 fF fS (2 * d) 0))), (3, .int ((2 * (nI d)) + 1)), (0, .ref (b 0)), (1, .int (nI d))]) hx hb d_M_has_59 rfl hl (by decide) rfl (fun ls hl => ?_)
                refine lv_iinc (v := ((2 * (nI d)) + 1) + 1) (lv' := [(3, .int (((2 * (nI d)) + 1) + 1)), (2, .int (mHas1 fF fS (2 * d + 1) (mHas1 fF fS (2 * d) 0))), (0, .ref (b 0)), (1, .int (nI d))]) hx hb d_M_has_60 hl (k := 1) rfl rfl (by decide) rfl (fun ls hl => ?_)
                refine lv_goto (tgt := 6) hx hb d_M_has_63 (by decide) ?_
                refine lv_iload_n hx hb d_M_has_6 rfl (lv_at hl 0 rfl) ?_
                refine lv_iconst (v := 2) hx hb d_M_has_7 (by decide) ?_
                refine lv_iload_n hx hb d_M_has_8 rfl (lv_at hl 3 rfl) ?_
                refine lv_imul hx hb d_M_has_9 ?_
                refine lv_iconst (v := 2) hx hb d_M_has_10 (by decide) ?_
                refine lv_iadd hx hb d_M_has_11 ?_
                refine lv_icmp_ge (tgt := 66) hx hb d_M_has_12 (by decide) (fun hc_9 => ?_) (fun hc_9 => ?_)
                · refine lv_iload_n hx hb d_M_has_66 rfl (lv_at hl 1 rfl) ?_
                  exact W.iret (v := (mHas1 fF fS (2 * d + 1) (mHas1 fF fS (2 * d) 0))) hx hb hr (fun t ht hW => kx_Ri (by unfold mHas; rw [if_pos hc_2]) ht) (fun _ h => absurd h List.not_mem_nil) d_M_has_67
                · exact absurd (by rw [show (2 : Int32) * nI d = nI (2 * d) from pk_mul 2 d, show nI (2 * d) + 2 = nI (2 * d + 2) from nI_add _ 2, show nI (2 * d) + 1 = nI (2 * d + 1) from nI_1 _, show nI (2 * d + 1) + 1 = nI (2 * d + 2) from nI_1 _]; exact nI_le (Nat.le_refl _) (by omega)) hc_9
              · refine lv_aload_n hx hb d_M_has_49 rfl (lv_at hl 2 rfl) ?_
                refine va_get (D := (dC, dI)) (ci := 3) (v := .ref (b 8)) (C := R_M) (T := T_M) (N := 20) hx hb hts wu_M hown hK hP 0 rfl rfl 11 (by decide) (hts _ wf_M_33) (fun _ h9 => h9) rfl d_M_has_50 ?_
                refine lv_iload_n hx hb d_M_has_53 rfl (lv_at hl 0 rfl) ?_
                refine kx_iald hx hb hK hP 8 0 rfl rfl (2 * d + 1) (by rw [show (2 : Int32) * nI d = nI (2 * d) from pk_mul 2 d]; exact nI_1 _) (by omega) (by omega) d_M_has_54 ?_
                refine lv_goto (tgt := 59) hx hb d_M_has_55 (by decide) ?_
                refine W.eq (g2 := F0 m 59 ls [.int (mHas1 fF fS (2 * d + 1) (mHas1 fF fS (2 * d) 0))]) (by rw [show mHas1 fF fS (2 * d + 1) (mHas1 fF fS (2 * d) 0) = _ from if_pos ⟨hc_6, Int32.not_le.mp hc_8⟩]) ?_
                refine lv_istore_n (lv' := [(2, .int (mHas1 fF fS (2 * d + 1) (mHas1 fF fS (2 * d) 0))), (3, .int ((2 * (nI d)) + 1)), (0, .ref (b 0)), (1, .int (nI d))]) hx hb d_M_has_59 rfl hl (by decide) rfl (fun ls hl => ?_)
                refine lv_iinc (v := ((2 * (nI d)) + 1) + 1) (lv' := [(3, .int (((2 * (nI d)) + 1) + 1)), (2, .int (mHas1 fF fS (2 * d + 1) (mHas1 fF fS (2 * d) 0))), (0, .ref (b 0)), (1, .int (nI d))]) hx hb d_M_has_60 hl (k := 1) rfl rfl (by decide) rfl (fun ls hl => ?_)
                refine lv_goto (tgt := 6) hx hb d_M_has_63 (by decide) ?_
                refine lv_iload_n hx hb d_M_has_6 rfl (lv_at hl 0 rfl) ?_
                refine lv_iconst (v := 2) hx hb d_M_has_7 (by decide) ?_
                refine lv_iload_n hx hb d_M_has_8 rfl (lv_at hl 3 rfl) ?_
                refine lv_imul hx hb d_M_has_9 ?_
                refine lv_iconst (v := 2) hx hb d_M_has_10 (by decide) ?_
                refine lv_iadd hx hb d_M_has_11 ?_
                refine lv_icmp_ge (tgt := 66) hx hb d_M_has_12 (by decide) (fun hc_10 => ?_) (fun hc_10 => ?_)
                · refine lv_iload_n hx hb d_M_has_66 rfl (lv_at hl 1 rfl) ?_
                  exact W.iret (v := (mHas1 fF fS (2 * d + 1) (mHas1 fF fS (2 * d) 0))) hx hb hr (fun t ht hW => kx_Ri (by unfold mHas; rw [if_pos hc_2]) ht) (fun _ h => absurd h List.not_mem_nil) d_M_has_67
                · exact absurd (by rw [show (2 : Int32) * nI d = nI (2 * d) from pk_mul 2 d, show nI (2 * d) + 2 = nI (2 * d + 2) from nI_add _ 2, show nI (2 * d) + 1 = nI (2 * d + 1) from nI_1 _, show nI (2 * d + 1) + 1 = nI (2 * d + 2) from nI_1 _]; exact nI_le (Nat.le_refl _) (by omega)) hc_10
      · refine lv_aload_n hx hb d_M_has_39 rfl (lv_at hl 2 rfl) ?_
        refine va_get (D := (dC, dI)) (ci := 3) (v := .ref (b 8)) (C := R_M) (T := T_M) (N := 20) hx hb hts wu_M hown hK hP 0 rfl rfl 11 (by decide) (hts _ wf_M_33) (fun _ h9 => h9) rfl d_M_has_40 ?_
        refine lv_iload_n hx hb d_M_has_43 rfl (lv_at hl 0 rfl) ?_
        refine kx_iald hx hb hK hP 8 0 rfl rfl (2 * d) (pk_mul 2 d) (by omega) (by omega) d_M_has_44 ?_
        refine lv_iload_n hx hb d_M_has_45 rfl (lv_at hl 1 rfl) ?_
        refine lv_icmp_le (tgt := 58) hx hb d_M_has_46 (by decide) (fun hc_11 => ?_) (fun hc_11 => ?_)
        · refine lv_iload_n hx hb d_M_has_58 rfl (lv_at hl 1 rfl) ?_
          refine W.eq (g2 := F0 m 59 ls [.int (mHas1 fF fS (2 * d) 0)]) (by rw [show mHas1 fF fS (2 * d) 0 = _ from if_neg (fun z => absurd z.2 (Int32.not_lt.mpr hc_11))]) ?_
          refine lv_istore_n (lv' := [(2, .int (mHas1 fF fS (2 * d) 0)), (3, .int (2 * (nI d))), (0, .ref (b 0)), (1, .int (nI d))]) hx hb d_M_has_59 rfl hl (by decide) rfl (fun ls hl => ?_)
          refine lv_iinc (v := (2 * (nI d)) + 1) (lv' := [(3, .int ((2 * (nI d)) + 1)), (2, .int (mHas1 fF fS (2 * d) 0)), (0, .ref (b 0)), (1, .int (nI d))]) hx hb d_M_has_60 hl (k := 1) rfl rfl (by decide) rfl (fun ls hl => ?_)
          refine lv_goto (tgt := 6) hx hb d_M_has_63 (by decide) ?_
          refine lv_iload_n hx hb d_M_has_6 rfl (lv_at hl 0 rfl) ?_
          refine lv_iconst (v := 2) hx hb d_M_has_7 (by decide) ?_
          refine lv_iload_n hx hb d_M_has_8 rfl (lv_at hl 3 rfl) ?_
          refine lv_imul hx hb d_M_has_9 ?_
          refine lv_iconst (v := 2) hx hb d_M_has_10 (by decide) ?_
          refine lv_iadd hx hb d_M_has_11 ?_
          refine lv_icmp_ge (tgt := 66) hx hb d_M_has_12 (by decide) (fun hc_12 => ?_) (fun hc_12 => ?_)
          · exact absurd hc_12 (by rw [show (2 : Int32) * nI d = nI (2 * d) from pk_mul 2 d, show nI (2 * d) + 2 = nI (2 * d + 2) from nI_add _ 2, show nI (2 * d) + 1 = nI (2 * d + 1) from nI_1 _]; exact nI_ge (by omega) (by omega))
          · refine lv_aload_n hx hb d_M_has_15 rfl (lv_at hl 2 rfl) ?_
            refine va_get (D := (dC, dI)) (ci := 3) (v := .ref (b 4)) (C := R_M) (T := T_M) (N := 20) hx hb hts wu_M hown hK hP 0 rfl rfl 7 (by decide) (hts _ wf_M_20) (fun _ h9 => h9) rfl d_M_has_16 ?_
            refine lv_iload_n hx hb d_M_has_19 rfl (lv_at hl 3 rfl) ?_
            refine kx_zald hx hb hK hP 4 3 rfl rfl d (rfl) (by omega) (by omega) d_M_has_20 ?_
            refine lv_if_ne (tgt := 66) hx hb d_M_has_21 (by decide) (fun hc_13 => ?_) (fun hc_13 => ?_)
            · exact absurd hc_2 hc_13
            · refine lv_aload_n hx hb d_M_has_24 rfl (lv_at hl 2 rfl) ?_
              refine va_get (D := (dC, dI)) (ci := 3) (v := .ref (b 8)) (C := R_M) (T := T_M) (N := 20) hx hb hts wu_M hown hK hP 0 rfl rfl 11 (by decide) (hts _ wf_M_33) (fun _ h9 => h9) rfl d_M_has_25 ?_
              refine lv_iload_n hx hb d_M_has_28 rfl (lv_at hl 0 rfl) ?_
              refine kx_iald hx hb hK hP 8 0 rfl rfl (2 * d + 1) (by rw [show (2 : Int32) * nI d = nI (2 * d) from pk_mul 2 d]; exact nI_1 _) (by omega) (by omega) d_M_has_29 ?_
              refine lv_aload_n hx hb d_M_has_30 rfl (lv_at hl 2 rfl) ?_
              refine va_get (D := (dC, dI)) (ci := 3) (v := .ref (b 9)) (C := R_M) (T := T_M) (N := 20) hx hb hts wu_M hown hK hP 0 rfl rfl 12 (by decide) (hts _ wf_M_36) (fun _ h9 => h9) rfl d_M_has_31 ?_
              refine lv_iload_n hx hb d_M_has_34 rfl (lv_at hl 0 rfl) ?_
              refine kx_iald hx hb hK hP 9 0 rfl rfl (2 * d + 1) (by rw [show (2 : Int32) * nI d = nI (2 * d) from pk_mul 2 d]; exact nI_1 _) (by omega) (by omega) d_M_has_35 ?_
              refine lv_icmp_ne (tgt := 58) hx hb d_M_has_36 (by decide) (fun hc_14 => ?_) (fun hc_14 => ?_)
              · refine lv_iload_n hx hb d_M_has_58 rfl (lv_at hl 1 rfl) ?_
                refine W.eq (g2 := F0 m 59 ls [.int (mHas1 fF fS (2 * d + 1) (mHas1 fF fS (2 * d) 0))]) (by rw [show mHas1 fF fS (2 * d + 1) (mHas1 fF fS (2 * d) 0) = _ from if_neg (fun z => hc_14 z.1)]) ?_
                refine lv_istore_n (lv' := [(2, .int (mHas1 fF fS (2 * d + 1) (mHas1 fF fS (2 * d) 0))), (3, .int ((2 * (nI d)) + 1)), (0, .ref (b 0)), (1, .int (nI d))]) hx hb d_M_has_59 rfl hl (by decide) rfl (fun ls hl => ?_)
                refine lv_iinc (v := ((2 * (nI d)) + 1) + 1) (lv' := [(3, .int (((2 * (nI d)) + 1) + 1)), (2, .int (mHas1 fF fS (2 * d + 1) (mHas1 fF fS (2 * d) 0))), (0, .ref (b 0)), (1, .int (nI d))]) hx hb d_M_has_60 hl (k := 1) rfl rfl (by decide) rfl (fun ls hl => ?_)
                refine lv_goto (tgt := 6) hx hb d_M_has_63 (by decide) ?_
                refine lv_iload_n hx hb d_M_has_6 rfl (lv_at hl 0 rfl) ?_
                refine lv_iconst (v := 2) hx hb d_M_has_7 (by decide) ?_
                refine lv_iload_n hx hb d_M_has_8 rfl (lv_at hl 3 rfl) ?_
                refine lv_imul hx hb d_M_has_9 ?_
                refine lv_iconst (v := 2) hx hb d_M_has_10 (by decide) ?_
                refine lv_iadd hx hb d_M_has_11 ?_
                refine lv_icmp_ge (tgt := 66) hx hb d_M_has_12 (by decide) (fun hc_15 => ?_) (fun hc_15 => ?_)
                · refine lv_iload_n hx hb d_M_has_66 rfl (lv_at hl 1 rfl) ?_
                  exact W.iret (v := (mHas1 fF fS (2 * d + 1) (mHas1 fF fS (2 * d) 0))) hx hb hr (fun t ht hW => kx_Ri (by unfold mHas; rw [if_pos hc_2]) ht) (fun _ h => absurd h List.not_mem_nil) d_M_has_67
                · exact absurd (by rw [show (2 : Int32) * nI d = nI (2 * d) from pk_mul 2 d, show nI (2 * d) + 2 = nI (2 * d + 2) from nI_add _ 2, show nI (2 * d) + 1 = nI (2 * d + 1) from nI_1 _, show nI (2 * d + 1) + 1 = nI (2 * d + 2) from nI_1 _]; exact nI_le (Nat.le_refl _) (by omega)) hc_15
              · refine lv_aload_n hx hb d_M_has_39 rfl (lv_at hl 2 rfl) ?_
                refine va_get (D := (dC, dI)) (ci := 3) (v := .ref (b 8)) (C := R_M) (T := T_M) (N := 20) hx hb hts wu_M hown hK hP 0 rfl rfl 11 (by decide) (hts _ wf_M_33) (fun _ h9 => h9) rfl d_M_has_40 ?_
                refine lv_iload_n hx hb d_M_has_43 rfl (lv_at hl 0 rfl) ?_
                refine kx_iald hx hb hK hP 8 0 rfl rfl (2 * d + 1) (by rw [show (2 : Int32) * nI d = nI (2 * d) from pk_mul 2 d]; exact nI_1 _) (by omega) (by omega) d_M_has_44 ?_
                refine lv_iload_n hx hb d_M_has_45 rfl (lv_at hl 1 rfl) ?_
                refine lv_icmp_le (tgt := 58) hx hb d_M_has_46 (by decide) (fun hc_16 => ?_) (fun hc_16 => ?_)
                · refine lv_iload_n hx hb d_M_has_58 rfl (lv_at hl 1 rfl) ?_
                  refine W.eq (g2 := F0 m 59 ls [.int (mHas1 fF fS (2 * d + 1) (mHas1 fF fS (2 * d) 0))]) (by rw [show mHas1 fF fS (2 * d + 1) (mHas1 fF fS (2 * d) 0) = _ from if_neg (fun z => absurd z.2 (Int32.not_lt.mpr hc_16))]) ?_
                  refine lv_istore_n (lv' := [(2, .int (mHas1 fF fS (2 * d + 1) (mHas1 fF fS (2 * d) 0))), (3, .int ((2 * (nI d)) + 1)), (0, .ref (b 0)), (1, .int (nI d))]) hx hb d_M_has_59 rfl hl (by decide) rfl (fun ls hl => ?_)
                  refine lv_iinc (v := ((2 * (nI d)) + 1) + 1) (lv' := [(3, .int (((2 * (nI d)) + 1) + 1)), (2, .int (mHas1 fF fS (2 * d + 1) (mHas1 fF fS (2 * d) 0))), (0, .ref (b 0)), (1, .int (nI d))]) hx hb d_M_has_60 hl (k := 1) rfl rfl (by decide) rfl (fun ls hl => ?_)
                  refine lv_goto (tgt := 6) hx hb d_M_has_63 (by decide) ?_
                  refine lv_iload_n hx hb d_M_has_6 rfl (lv_at hl 0 rfl) ?_
                  refine lv_iconst (v := 2) hx hb d_M_has_7 (by decide) ?_
                  refine lv_iload_n hx hb d_M_has_8 rfl (lv_at hl 3 rfl) ?_
                  refine lv_imul hx hb d_M_has_9 ?_
                  refine lv_iconst (v := 2) hx hb d_M_has_10 (by decide) ?_
                  refine lv_iadd hx hb d_M_has_11 ?_
                  refine lv_icmp_ge (tgt := 66) hx hb d_M_has_12 (by decide) (fun hc_17 => ?_) (fun hc_17 => ?_)
                  · refine lv_iload_n hx hb d_M_has_66 rfl (lv_at hl 1 rfl) ?_
                    exact W.iret (v := (mHas1 fF fS (2 * d + 1) (mHas1 fF fS (2 * d) 0))) hx hb hr (fun t ht hW => kx_Ri (by unfold mHas; rw [if_pos hc_2]) ht) (fun _ h => absurd h List.not_mem_nil) d_M_has_67
                  · exact absurd (by rw [show (2 : Int32) * nI d = nI (2 * d) from pk_mul 2 d, show nI (2 * d) + 2 = nI (2 * d + 2) from nI_add _ 2, show nI (2 * d) + 1 = nI (2 * d + 1) from nI_1 _, show nI (2 * d + 1) + 1 = nI (2 * d + 2) from nI_1 _]; exact nI_le (Nat.le_refl _) (by omega)) hc_17
                · refine lv_aload_n hx hb d_M_has_49 rfl (lv_at hl 2 rfl) ?_
                  refine va_get (D := (dC, dI)) (ci := 3) (v := .ref (b 8)) (C := R_M) (T := T_M) (N := 20) hx hb hts wu_M hown hK hP 0 rfl rfl 11 (by decide) (hts _ wf_M_33) (fun _ h9 => h9) rfl d_M_has_50 ?_
                  refine lv_iload_n hx hb d_M_has_53 rfl (lv_at hl 0 rfl) ?_
                  refine kx_iald hx hb hK hP 8 0 rfl rfl (2 * d + 1) (by rw [show (2 : Int32) * nI d = nI (2 * d) from pk_mul 2 d]; exact nI_1 _) (by omega) (by omega) d_M_has_54 ?_
                  refine lv_goto (tgt := 59) hx hb d_M_has_55 (by decide) ?_
                  refine W.eq (g2 := F0 m 59 ls [.int (mHas1 fF fS (2 * d + 1) (mHas1 fF fS (2 * d) 0))]) (by rw [show mHas1 fF fS (2 * d + 1) (mHas1 fF fS (2 * d) 0) = _ from if_pos ⟨hc_14, Int32.not_le.mp hc_16⟩]) ?_
                  refine lv_istore_n (lv' := [(2, .int (mHas1 fF fS (2 * d + 1) (mHas1 fF fS (2 * d) 0))), (3, .int ((2 * (nI d)) + 1)), (0, .ref (b 0)), (1, .int (nI d))]) hx hb d_M_has_59 rfl hl (by decide) rfl (fun ls hl => ?_)
                  refine lv_iinc (v := ((2 * (nI d)) + 1) + 1) (lv' := [(3, .int (((2 * (nI d)) + 1) + 1)), (2, .int (mHas1 fF fS (2 * d + 1) (mHas1 fF fS (2 * d) 0))), (0, .ref (b 0)), (1, .int (nI d))]) hx hb d_M_has_60 hl (k := 1) rfl rfl (by decide) rfl (fun ls hl => ?_)
                  refine lv_goto (tgt := 6) hx hb d_M_has_63 (by decide) ?_
                  refine lv_iload_n hx hb d_M_has_6 rfl (lv_at hl 0 rfl) ?_
                  refine lv_iconst (v := 2) hx hb d_M_has_7 (by decide) ?_
                  refine lv_iload_n hx hb d_M_has_8 rfl (lv_at hl 3 rfl) ?_
                  refine lv_imul hx hb d_M_has_9 ?_
                  refine lv_iconst (v := 2) hx hb d_M_has_10 (by decide) ?_
                  refine lv_iadd hx hb d_M_has_11 ?_
                  refine lv_icmp_ge (tgt := 66) hx hb d_M_has_12 (by decide) (fun hc_18 => ?_) (fun hc_18 => ?_)
                  · refine lv_iload_n hx hb d_M_has_66 rfl (lv_at hl 1 rfl) ?_
                    exact W.iret (v := (mHas1 fF fS (2 * d + 1) (mHas1 fF fS (2 * d) 0))) hx hb hr (fun t ht hW => kx_Ri (by unfold mHas; rw [if_pos hc_2]) ht) (fun _ h => absurd h List.not_mem_nil) d_M_has_67
                  · exact absurd (by rw [show (2 : Int32) * nI d = nI (2 * d) from pk_mul 2 d, show nI (2 * d) + 2 = nI (2 * d + 2) from nI_add _ 2, show nI (2 * d) + 1 = nI (2 * d + 1) from nI_1 _, show nI (2 * d + 1) + 1 = nI (2 * d + 2) from nI_1 _]; exact nI_le (Nat.le_refl _) (by omega)) hc_18
        · refine lv_aload_n hx hb d_M_has_49 rfl (lv_at hl 2 rfl) ?_
          refine va_get (D := (dC, dI)) (ci := 3) (v := .ref (b 8)) (C := R_M) (T := T_M) (N := 20) hx hb hts wu_M hown hK hP 0 rfl rfl 11 (by decide) (hts _ wf_M_33) (fun _ h9 => h9) rfl d_M_has_50 ?_
          refine lv_iload_n hx hb d_M_has_53 rfl (lv_at hl 0 rfl) ?_
          refine kx_iald hx hb hK hP 8 0 rfl rfl (2 * d) (pk_mul 2 d) (by omega) (by omega) d_M_has_54 ?_
          refine lv_goto (tgt := 59) hx hb d_M_has_55 (by decide) ?_
          refine W.eq (g2 := F0 m 59 ls [.int (mHas1 fF fS (2 * d) 0)]) (by rw [show mHas1 fF fS (2 * d) 0 = _ from if_pos ⟨hc_3, Int32.not_le.mp hc_11⟩]) ?_
          refine lv_istore_n (lv' := [(2, .int (mHas1 fF fS (2 * d) 0)), (3, .int (2 * (nI d))), (0, .ref (b 0)), (1, .int (nI d))]) hx hb d_M_has_59 rfl hl (by decide) rfl (fun ls hl => ?_)
          refine lv_iinc (v := (2 * (nI d)) + 1) (lv' := [(3, .int ((2 * (nI d)) + 1)), (2, .int (mHas1 fF fS (2 * d) 0)), (0, .ref (b 0)), (1, .int (nI d))]) hx hb d_M_has_60 hl (k := 1) rfl rfl (by decide) rfl (fun ls hl => ?_)
          refine lv_goto (tgt := 6) hx hb d_M_has_63 (by decide) ?_
          refine lv_iload_n hx hb d_M_has_6 rfl (lv_at hl 0 rfl) ?_
          refine lv_iconst (v := 2) hx hb d_M_has_7 (by decide) ?_
          refine lv_iload_n hx hb d_M_has_8 rfl (lv_at hl 3 rfl) ?_
          refine lv_imul hx hb d_M_has_9 ?_
          refine lv_iconst (v := 2) hx hb d_M_has_10 (by decide) ?_
          refine lv_iadd hx hb d_M_has_11 ?_
          refine lv_icmp_ge (tgt := 66) hx hb d_M_has_12 (by decide) (fun hc_19 => ?_) (fun hc_19 => ?_)
          · exact absurd hc_19 (by rw [show (2 : Int32) * nI d = nI (2 * d) from pk_mul 2 d, show nI (2 * d) + 2 = nI (2 * d + 2) from nI_add _ 2, show nI (2 * d) + 1 = nI (2 * d + 1) from nI_1 _]; exact nI_ge (by omega) (by omega))
          · refine lv_aload_n hx hb d_M_has_15 rfl (lv_at hl 2 rfl) ?_
            refine va_get (D := (dC, dI)) (ci := 3) (v := .ref (b 4)) (C := R_M) (T := T_M) (N := 20) hx hb hts wu_M hown hK hP 0 rfl rfl 7 (by decide) (hts _ wf_M_20) (fun _ h9 => h9) rfl d_M_has_16 ?_
            refine lv_iload_n hx hb d_M_has_19 rfl (lv_at hl 3 rfl) ?_
            refine kx_zald hx hb hK hP 4 3 rfl rfl d (rfl) (by omega) (by omega) d_M_has_20 ?_
            refine lv_if_ne (tgt := 66) hx hb d_M_has_21 (by decide) (fun hc_20 => ?_) (fun hc_20 => ?_)
            · exact absurd hc_2 hc_20
            · refine lv_aload_n hx hb d_M_has_24 rfl (lv_at hl 2 rfl) ?_
              refine va_get (D := (dC, dI)) (ci := 3) (v := .ref (b 8)) (C := R_M) (T := T_M) (N := 20) hx hb hts wu_M hown hK hP 0 rfl rfl 11 (by decide) (hts _ wf_M_33) (fun _ h9 => h9) rfl d_M_has_25 ?_
              refine lv_iload_n hx hb d_M_has_28 rfl (lv_at hl 0 rfl) ?_
              refine kx_iald hx hb hK hP 8 0 rfl rfl (2 * d + 1) (by rw [show (2 : Int32) * nI d = nI (2 * d) from pk_mul 2 d]; exact nI_1 _) (by omega) (by omega) d_M_has_29 ?_
              refine lv_aload_n hx hb d_M_has_30 rfl (lv_at hl 2 rfl) ?_
              refine va_get (D := (dC, dI)) (ci := 3) (v := .ref (b 9)) (C := R_M) (T := T_M) (N := 20) hx hb hts wu_M hown hK hP 0 rfl rfl 12 (by decide) (hts _ wf_M_36) (fun _ h9 => h9) rfl d_M_has_31 ?_
              refine lv_iload_n hx hb d_M_has_34 rfl (lv_at hl 0 rfl) ?_
              refine kx_iald hx hb hK hP 9 0 rfl rfl (2 * d + 1) (by rw [show (2 : Int32) * nI d = nI (2 * d) from pk_mul 2 d]; exact nI_1 _) (by omega) (by omega) d_M_has_35 ?_
              refine lv_icmp_ne (tgt := 58) hx hb d_M_has_36 (by decide) (fun hc_21 => ?_) (fun hc_21 => ?_)
              · refine lv_iload_n hx hb d_M_has_58 rfl (lv_at hl 1 rfl) ?_
                refine W.eq (g2 := F0 m 59 ls [.int (mHas1 fF fS (2 * d + 1) (mHas1 fF fS (2 * d) 0))]) (by rw [show mHas1 fF fS (2 * d + 1) (mHas1 fF fS (2 * d) 0) = _ from if_neg (fun z => hc_21 z.1)]) ?_
                refine lv_istore_n (lv' := [(2, .int (mHas1 fF fS (2 * d + 1) (mHas1 fF fS (2 * d) 0))), (3, .int ((2 * (nI d)) + 1)), (0, .ref (b 0)), (1, .int (nI d))]) hx hb d_M_has_59 rfl hl (by decide) rfl (fun ls hl => ?_)
                refine lv_iinc (v := ((2 * (nI d)) + 1) + 1) (lv' := [(3, .int (((2 * (nI d)) + 1) + 1)), (2, .int (mHas1 fF fS (2 * d + 1) (mHas1 fF fS (2 * d) 0))), (0, .ref (b 0)), (1, .int (nI d))]) hx hb d_M_has_60 hl (k := 1) rfl rfl (by decide) rfl (fun ls hl => ?_)
                refine lv_goto (tgt := 6) hx hb d_M_has_63 (by decide) ?_
                refine lv_iload_n hx hb d_M_has_6 rfl (lv_at hl 0 rfl) ?_
                refine lv_iconst (v := 2) hx hb d_M_has_7 (by decide) ?_
                refine lv_iload_n hx hb d_M_has_8 rfl (lv_at hl 3 rfl) ?_
                refine lv_imul hx hb d_M_has_9 ?_
                refine lv_iconst (v := 2) hx hb d_M_has_10 (by decide) ?_
                refine lv_iadd hx hb d_M_has_11 ?_
                refine lv_icmp_ge (tgt := 66) hx hb d_M_has_12 (by decide) (fun hc_22 => ?_) (fun hc_22 => ?_)
                · refine lv_iload_n hx hb d_M_has_66 rfl (lv_at hl 1 rfl) ?_
                  exact W.iret (v := (mHas1 fF fS (2 * d + 1) (mHas1 fF fS (2 * d) 0))) hx hb hr (fun t ht hW => kx_Ri (by unfold mHas; rw [if_pos hc_2]) ht) (fun _ h => absurd h List.not_mem_nil) d_M_has_67
                · exact absurd (by rw [show (2 : Int32) * nI d = nI (2 * d) from pk_mul 2 d, show nI (2 * d) + 2 = nI (2 * d + 2) from nI_add _ 2, show nI (2 * d) + 1 = nI (2 * d + 1) from nI_1 _, show nI (2 * d + 1) + 1 = nI (2 * d + 2) from nI_1 _]; exact nI_le (Nat.le_refl _) (by omega)) hc_22
              · refine lv_aload_n hx hb d_M_has_39 rfl (lv_at hl 2 rfl) ?_
                refine va_get (D := (dC, dI)) (ci := 3) (v := .ref (b 8)) (C := R_M) (T := T_M) (N := 20) hx hb hts wu_M hown hK hP 0 rfl rfl 11 (by decide) (hts _ wf_M_33) (fun _ h9 => h9) rfl d_M_has_40 ?_
                refine lv_iload_n hx hb d_M_has_43 rfl (lv_at hl 0 rfl) ?_
                refine kx_iald hx hb hK hP 8 0 rfl rfl (2 * d + 1) (by rw [show (2 : Int32) * nI d = nI (2 * d) from pk_mul 2 d]; exact nI_1 _) (by omega) (by omega) d_M_has_44 ?_
                refine lv_iload_n hx hb d_M_has_45 rfl (lv_at hl 1 rfl) ?_
                refine lv_icmp_le (tgt := 58) hx hb d_M_has_46 (by decide) (fun hc_23 => ?_) (fun hc_23 => ?_)
                · refine lv_iload_n hx hb d_M_has_58 rfl (lv_at hl 1 rfl) ?_
                  refine W.eq (g2 := F0 m 59 ls [.int (mHas1 fF fS (2 * d + 1) (mHas1 fF fS (2 * d) 0))]) (by rw [show mHas1 fF fS (2 * d + 1) (mHas1 fF fS (2 * d) 0) = _ from if_neg (fun z => absurd z.2 (Int32.not_lt.mpr hc_23))]) ?_
                  refine lv_istore_n (lv' := [(2, .int (mHas1 fF fS (2 * d + 1) (mHas1 fF fS (2 * d) 0))), (3, .int ((2 * (nI d)) + 1)), (0, .ref (b 0)), (1, .int (nI d))]) hx hb d_M_has_59 rfl hl (by decide) rfl (fun ls hl => ?_)
                  refine lv_iinc (v := ((2 * (nI d)) + 1) + 1) (lv' := [(3, .int (((2 * (nI d)) + 1) + 1)), (2, .int (mHas1 fF fS (2 * d + 1) (mHas1 fF fS (2 * d) 0))), (0, .ref (b 0)), (1, .int (nI d))]) hx hb d_M_has_60 hl (k := 1) rfl rfl (by decide) rfl (fun ls hl => ?_)
                  refine lv_goto (tgt := 6) hx hb d_M_has_63 (by decide) ?_
                  refine lv_iload_n hx hb d_M_has_6 rfl (lv_at hl 0 rfl) ?_
                  refine lv_iconst (v := 2) hx hb d_M_has_7 (by decide) ?_
                  refine lv_iload_n hx hb d_M_has_8 rfl (lv_at hl 3 rfl) ?_
                  refine lv_imul hx hb d_M_has_9 ?_
                  refine lv_iconst (v := 2) hx hb d_M_has_10 (by decide) ?_
                  refine lv_iadd hx hb d_M_has_11 ?_
                  refine lv_icmp_ge (tgt := 66) hx hb d_M_has_12 (by decide) (fun hc_24 => ?_) (fun hc_24 => ?_)
                  · refine lv_iload_n hx hb d_M_has_66 rfl (lv_at hl 1 rfl) ?_
                    exact W.iret (v := (mHas1 fF fS (2 * d + 1) (mHas1 fF fS (2 * d) 0))) hx hb hr (fun t ht hW => kx_Ri (by unfold mHas; rw [if_pos hc_2]) ht) (fun _ h => absurd h List.not_mem_nil) d_M_has_67
                  · exact absurd (by rw [show (2 : Int32) * nI d = nI (2 * d) from pk_mul 2 d, show nI (2 * d) + 2 = nI (2 * d + 2) from nI_add _ 2, show nI (2 * d) + 1 = nI (2 * d + 1) from nI_1 _, show nI (2 * d + 1) + 1 = nI (2 * d + 2) from nI_1 _]; exact nI_le (Nat.le_refl _) (by omega)) hc_24
                · refine lv_aload_n hx hb d_M_has_49 rfl (lv_at hl 2 rfl) ?_
                  refine va_get (D := (dC, dI)) (ci := 3) (v := .ref (b 8)) (C := R_M) (T := T_M) (N := 20) hx hb hts wu_M hown hK hP 0 rfl rfl 11 (by decide) (hts _ wf_M_33) (fun _ h9 => h9) rfl d_M_has_50 ?_
                  refine lv_iload_n hx hb d_M_has_53 rfl (lv_at hl 0 rfl) ?_
                  refine kx_iald hx hb hK hP 8 0 rfl rfl (2 * d + 1) (by rw [show (2 : Int32) * nI d = nI (2 * d) from pk_mul 2 d]; exact nI_1 _) (by omega) (by omega) d_M_has_54 ?_
                  refine lv_goto (tgt := 59) hx hb d_M_has_55 (by decide) ?_
                  refine W.eq (g2 := F0 m 59 ls [.int (mHas1 fF fS (2 * d + 1) (mHas1 fF fS (2 * d) 0))]) (by rw [show mHas1 fF fS (2 * d + 1) (mHas1 fF fS (2 * d) 0) = _ from if_pos ⟨hc_21, Int32.not_le.mp hc_23⟩]) ?_
                  refine lv_istore_n (lv' := [(2, .int (mHas1 fF fS (2 * d + 1) (mHas1 fF fS (2 * d) 0))), (3, .int ((2 * (nI d)) + 1)), (0, .ref (b 0)), (1, .int (nI d))]) hx hb d_M_has_59 rfl hl (by decide) rfl (fun ls hl => ?_)
                  refine lv_iinc (v := ((2 * (nI d)) + 1) + 1) (lv' := [(3, .int (((2 * (nI d)) + 1) + 1)), (2, .int (mHas1 fF fS (2 * d + 1) (mHas1 fF fS (2 * d) 0))), (0, .ref (b 0)), (1, .int (nI d))]) hx hb d_M_has_60 hl (k := 1) rfl rfl (by decide) rfl (fun ls hl => ?_)
                  refine lv_goto (tgt := 6) hx hb d_M_has_63 (by decide) ?_
                  refine lv_iload_n hx hb d_M_has_6 rfl (lv_at hl 0 rfl) ?_
                  refine lv_iconst (v := 2) hx hb d_M_has_7 (by decide) ?_
                  refine lv_iload_n hx hb d_M_has_8 rfl (lv_at hl 3 rfl) ?_
                  refine lv_imul hx hb d_M_has_9 ?_
                  refine lv_iconst (v := 2) hx hb d_M_has_10 (by decide) ?_
                  refine lv_iadd hx hb d_M_has_11 ?_
                  refine lv_icmp_ge (tgt := 66) hx hb d_M_has_12 (by decide) (fun hc_25 => ?_) (fun hc_25 => ?_)
                  · refine lv_iload_n hx hb d_M_has_66 rfl (lv_at hl 1 rfl) ?_
                    exact W.iret (v := (mHas1 fF fS (2 * d + 1) (mHas1 fF fS (2 * d) 0))) hx hb hr (fun t ht hW => kx_Ri (by unfold mHas; rw [if_pos hc_2]) ht) (fun _ h => absurd h List.not_mem_nil) d_M_has_67
                  · exact absurd (by rw [show (2 : Int32) * nI d = nI (2 * d) from pk_mul 2 d, show nI (2 * d) + 2 = nI (2 * d + 2) from nI_add _ 2, show nI (2 * d) + 1 = nI (2 * d + 1) from nI_1 _, show nI (2 * d + 1) + 1 = nI (2 * d + 2) from nI_1 _]; exact nI_le (Nat.le_refl _) (by omega)) hc_25
set_option maxHeartbeats 4000000 in
set_option maxRecDepth 100000 in
theorem k_M_newLabel (l : Launch) (dC : Nat → ClassId) (dI : Nat → Nat → Nat) (k5 : Nat → ClassId) (b : Nat → Nat) (vT vn vr vo vl vb : Int32) (fN fK fW fL fM fE fR fF fS fP fY fT fJ fI : FF) (tg : Int32) (hz : vp_nar .boolean tg = tg) (bs la : Nat) (hvb : vb = nI bs) (hvl : vl = nI la) (hbs : bs < 1300) (hla : la + 1 < 1300) : Met l y_M_newLabel w_M_newLabel ({ frames := 0, cells := 0, slots := 0, locals := 0 }) (kx_Pc (dC, dI) clA (tyL k5) (wMd b k5 vT vn vr vo vl vb fN fK fW fL fM fE fR fF fS fP fY fT fJ fI) [.ref (b 0), .int tg]) (kx_Q (dC, dI) clA (wMd b k5 vT vn vr vo vl vb fN fK fW fL fM fE fR fF fS fP fY fT fJ fI) (wMd b k5 vT vn vr vo (vl + 1) vb fN fK fW fL fM fE fR fF fS (upd fP (la + 1) (1 - fP bs)) (upd fY (la + 1) tg) (mTell fM (la + 1) fT 8) fJ fI) none) 0 0 (kx_A (wMd b k5 vT vn vr vo vl vb fN fK fW fL fM fE fR fF fS fP fY fT fJ fI)) := by
  refine Met.ofW (cc := c_M_newLabel) (maxL := 4) (ret := none) (by decide) rfl ?_
  intro p e s m args below meth c s₁ B hml hv
  obtain ⟨rfl, hP, hK, hD0⟩ := hv
  have hx := B.exec
  have hb := B.bytes
  have hr := B.returns
  have hts : ∀ w ∈ wsA, w.before _ s = true := fun w h => atoms_spec (ws := w_M_newLabel) B.pre w (List.mem_cons_of_mem _ h)
  have hown : s.vm.findClass R_M = some m.cls := findClass_of_methodNamed B.named
  have hlocks := B.notSynchronized
  have hD := kx_D.self hD0
  have hS : va_S (kx_A (wMd b k5 vT vn vr vo vl vb fN fK fW fL fM fE fR fF fS fP fY fT fJ fI)) s.heap s.heap [] := va_S.rf
  have hl := lv_entry ([.ref (b 0), .int tg]) (n := 4) (Nat.le_of_ble_eq_true rfl)
  rw [lg_entry_eq]
  generalize (lg_sl ([.ref (b 0), .int tg]) ++ List.replicate (4 - (lg_sl ([.ref (b 0), .int tg])).length) Slot.unset).toArray = ls at hl ⊢
  have hl : lv_has ls 4 [(0, .ref (b 0)), (1, .int tg)] := hl
  refine lv_iconst (v := 1) hx hb d_M_newLabel_0 (by decide) ?_
  refine lv_aload_n hx hb d_M_newLabel_1 rfl (lv_at hl 0 rfl) ?_
  refine va_get (D := (dC, dI)) (ci := 3) (v := .ref (b 10)) (C := R_M) (T := T_M) (N := 20) hx hb hts wu_M hown hK hP 0 rfl rfl 15 (by decide) (hts _ wf_M_39) (fun _ h9 => h9) rfl d_M_newLabel_2 ?_
  refine lv_aload_n hx hb d_M_newLabel_5 rfl (lv_at hl 0 rfl) ?_
  refine va_get (D := (dC, dI)) (ci := 3) (v := .int vb) (C := R_M) (T := T_M) (N := 20) hx hb hts wu_M hown hK hP 0 rfl rfl 14 (by decide) (hts _ wf_M_75) (fun _ h9 => h9) rfl d_M_newLabel_6 ?_
  refine kx_iald hx hb hK hP 10 0 rfl rfl bs (hvb) (by omega) (by omega) d_M_newLabel_9 ?_
  refine lv_isub hx hb d_M_newLabel_10 ?_
  refine lv_istore_n (lv' := [(2, .int (1 - (fP bs))), (0, .ref (b 0)), (1, .int tg)]) hx hb d_M_newLabel_11 rfl hl (by decide) rfl (fun ls hl => ?_)
  refine lv_aload_n hx hb d_M_newLabel_12 rfl (lv_at hl 1 rfl) ?_
  refine lv_dup hx hb d_M_newLabel_13 rfl ?_
  refine va_get (D := (dC, dI)) (ci := 3) (v := .int vl) (C := R_M) (T := T_M) (N := 20) hx hb hts wu_M hown hK hP 0 rfl rfl 13 (by decide) (hts _ wf_M_72) (fun _ h9 => h9) rfl d_M_newLabel_14 ?_
  refine lv_iconst (v := 1) hx hb d_M_newLabel_17 (by decide) ?_
  refine lv_iadd hx hb d_M_newLabel_18 ?_
  refine kx_put (ws' := (wMd b k5 vT vn vr vo (vl + 1) vb fN fK fW fL fM fE fR fF fS fP fY fT fJ fI)) (D := (dC, dI)) (ci := 3) (v := .int (vl + 1)) (ty := .int) (C := R_M) (T := T_M) (N := 20) hx hb hts wu_M ty_M ok_M nm_M hown hK hP hD hS 0 rfl rfl 13 (by decide) (hts _ wf_M_72) (fun _ h9 => h9) rfl (by decide +kernel) rfl rfl (Nat.le_of_ble_eq_true rfl) rfl d_M_newLabel_19 (fun H locs hP hD hS => ?_)
  refine lv_aload_n hx hb d_M_newLabel_22 rfl (lv_at hl 1 rfl) ?_
  refine va_get (D := (dC, dI)) (ci := 3) (v := .ref (b 10)) (C := R_M) (T := T_M) (N := 20) hx hb hts wu_M hown hK hP 0 rfl rfl 15 (by decide) (hts _ wf_M_39) (fun _ h9 => h9) rfl d_M_newLabel_23 ?_
  refine lv_aload_n hx hb d_M_newLabel_26 rfl (lv_at hl 1 rfl) ?_
  refine va_get (D := (dC, dI)) (ci := 3) (v := .int (vl + 1)) (C := R_M) (T := T_M) (N := 20) hx hb hts wu_M hown hK hP 0 rfl rfl 13 (by decide) (hts _ wf_M_72) (fun _ h9 => h9) rfl d_M_newLabel_27 ?_
  refine lv_iload_n hx hb d_M_newLabel_30 rfl (lv_at hl 0 rfl) ?_
  refine kx_iast (ws' := (wMd b k5 vT vn vr vo (vl + 1) vb fN fK fW fL fM fE fR fF fS (upd fP (la + 1) (1 - fP bs)) fY fT fJ fI)) hx hb hK hP hD hS 10 0 rfl rfl (la + 1) (by rw [hvl]; exact nI_1 la) (by omega) (by omega) rfl d_M_newLabel_31 (fun H locs hP hD hS => ?_)
  refine lv_aload_n hx hb d_M_newLabel_32 rfl (lv_at hl 1 rfl) ?_
  refine va_get (D := (dC, dI)) (ci := 3) (v := .ref (b 11)) (C := R_M) (T := T_M) (N := 20) hx hb hts wu_M hown hK hP 0 rfl rfl 16 (by decide) (hts _ wf_M_42) (fun _ h9 => h9) rfl d_M_newLabel_33 ?_
  refine lv_aload_n hx hb d_M_newLabel_36 rfl (lv_at hl 1 rfl) ?_
  refine va_get (D := (dC, dI)) (ci := 3) (v := .int (vl + 1)) (C := R_M) (T := T_M) (N := 20) hx hb hts wu_M hown hK hP 0 rfl rfl 13 (by decide) (hts _ wf_M_72) (fun _ h9 => h9) rfl d_M_newLabel_37 ?_
  refine lv_iload_n hx hb d_M_newLabel_40 rfl (lv_at hl 2 rfl) ?_
  refine kx_zast (ws' := (wMd b k5 vT vn vr vo (vl + 1) vb fN fK fW fL fM fE fR fF fS (upd fP (la + 1) (1 - fP bs)) (upd fY (la + 1) tg) fT fJ fI)) hx hb hK hP hD hS 11 3 rfl rfl (la + 1) (by rw [hvl]; exact nI_1 la) (by omega) (by omega) hz rfl d_M_newLabel_41 (fun H locs hP hD hS => ?_)
  refine lv_iconst (v := 0) hx hb d_M_newLabel_42 (by decide) ?_
  refine lv_istore_n (lv' := [(3, .int 0), (2, .int (1 - (fP bs))), (0, .ref (b 0)), (1, .int tg)]) hx hb d_M_newLabel_43 rfl hl (by decide) rfl (fun ls hl => ?_)
  have lp : ∀ (q9 i : Nat) (H : Heap) (locs : List Loc) (ls : Array Slot), i + q9 = 8 → va_P (dC, dI) clA (wMd b k5 vT vn vr vo (vl + 1) vb fN fK fW fL fM fE fR fF fS (upd fP (la + 1) (1 - fP bs)) (upd fY (la + 1) tg) (mTell fM (la + 1) fT i) fJ fI) H → va_D (kx_A (wMd b k5 vT vn vr vo vl vb fN fK fW fL fM fE fR fF fS fP fY fT fJ fI)) (wMd b k5 vT vn vr vo (vl + 1) vb fN fK fW fL fM fE fR fF fS (upd fP (la + 1) (1 - fP bs)) (upd fY (la + 1) tg) (mTell fM (la + 1) fT i) fJ fI) → va_S (kx_A (wMd b k5 vT vn vr vo vl vb fN fK fW fL fM fE fR fF fS fP fY fT fJ fI)) s.heap H locs → lv_has ls 4 [(3, .int (nI i)), (2, .int (1 - (fP bs))), (0, .ref (b 0)), (1, .int tg)] → W p l e (headSpec w_M_newLabel ({ frames := 0, cells := 0, slots := 0, locals := 0 })).room s m ([.ref (b 0), .int tg] : List Value).toArray below meth c H locs 0 0 (MQ below (kx_Q (dC, dI) clA (wMd b k5 vT vn vr vo vl vb fN fK fW fL fM fE fR fF fS fP fY fT fJ fI) (wMd b k5 vT vn vr vo (vl + 1) vb fN fK fW fL fM fE fR fF fS (upd fP (la + 1) (1 - fP bs)) (upd fY (la + 1) tg) (mTell fM (la + 1) fT 8) fJ fI) none) ([.ref (b 0), .int tg] : List Value).toArray s 0 0 (kx_A (wMd b k5 vT vn vr vo vl vb fN fK fW fL fM fE fR fF fS fP fY fT fJ fI))) (F0 m 44 ls []) := by
    intro q9
    induction q9 with
    | zero =>
      intro i H locs ls hi hP hD hS hl
      have hi : 8 = i := by omega
      subst hi
      refine lv_iload_n hx hb d_M_newLabel_44 rfl (lv_at hl 0 rfl) ?_
      refine lv_bipush (v := 8) hx hb d_M_newLabel_45 (by decide) ?_
      refine lv_icmp_ge (tgt := 76) hx hb d_M_newLabel_47 (by decide) (fun hc => ?_) (fun hc => ?_)
      · exact W.vret hx hb hr (fun t ht hW => kx_Qv ht hP (rfl) hS rfl) hS.2.2 d_M_newLabel_76
      · exact absurd (by rw [show (8 : Int32) = nI 8 from rfl]; exact nI_le (by omega) (by omega)) hc
    | succ q9 ih =>
      intro i H locs ls hi hP hD hS hl
      refine lv_iload_n hx hb d_M_newLabel_44 rfl (lv_at hl 0 rfl) ?_
      refine lv_bipush (v := 8) hx hb d_M_newLabel_45 (by decide) ?_
      refine lv_icmp_ge (tgt := 76) hx hb d_M_newLabel_47 (by decide) (fun hc => ?_) (fun hc => ?_)
      · exact absurd hc (by rw [show (8 : Int32) = nI 8 from rfl]; exact nI_ge (by omega) (by omega))
      · refine lv_aload_n hx hb d_M_newLabel_50 rfl (lv_at hl 2 rfl) ?_
        refine va_get (D := (dC, dI)) (ci := 3) (v := .ref (b 12)) (C := R_M) (T := T_M) (N := 20) hx hb hts wu_M hown hK hP 0 rfl rfl 17 (by decide) (hts _ wf_M_45) (fun _ h9 => h9) rfl d_M_newLabel_51 ?_
        refine lv_bipush (v := 8) hx hb d_M_newLabel_54 (by decide) ?_
        refine lv_aload_n hx hb d_M_newLabel_56 rfl (lv_at hl 2 rfl) ?_
        refine va_get (D := (dC, dI)) (ci := 3) (v := .int (vl + 1)) (C := R_M) (T := T_M) (N := 20) hx hb hts wu_M hown hK hP 0 rfl rfl 13 (by decide) (hts _ wf_M_72) (fun _ h9 => h9) rfl d_M_newLabel_57 ?_
        refine lv_imul hx hb d_M_newLabel_60 ?_
        refine lv_iload_n hx hb d_M_newLabel_61 rfl (lv_at hl 0 rfl) ?_
        refine lv_iadd hx hb d_M_newLabel_62 ?_
        refine lv_aload_n hx hb d_M_newLabel_63 rfl (lv_at hl 2 rfl) ?_
        refine va_get (D := (dC, dI)) (ci := 3) (v := .ref (b 5)) (C := R_M) (T := T_M) (N := 20) hx hb hts wu_M hown hK hP 0 rfl rfl 8 (by decide) (hts _ wf_M_23) (fun _ h9 => h9) rfl d_M_newLabel_64 ?_
        refine lv_iload_n hx hb d_M_newLabel_67 rfl (lv_at hl 0 rfl) ?_
        refine kx_iald hx hb hK hP 5 0 rfl rfl i (rfl) (by omega) (by omega) d_M_newLabel_68 ?_
        refine kx_iast (ws' := (wMd b k5 vT vn vr vo (vl + 1) vb fN fK fW fL fM fE fR fF fS (upd fP (la + 1) (1 - fP bs)) (upd fY (la + 1) tg) (mTell fM (la + 1) fT (i + 1)) fJ fI)) hx hb hK hP hD hS 12 0 rfl rfl (8 * (la + 1) + i) (by rw [hvl, show nI la + 1 = nI (la + 1) from nI_1 la, show (8 : Int32) * nI (la + 1) = nI (8 * (la + 1)) from pk_mul 8 _]; exact nI_add _ _) (by omega) (by omega) rfl d_M_newLabel_69 (fun H locs hP hD hS => ?_)
        refine lv_iinc (v := nI (i + 1)) (lv' := [(3, .int (nI (i + 1))), (2, .int (1 - (fP bs))), (0, .ref (b 0)), (1, .int tg)]) hx hb d_M_newLabel_70 hl (k := 0) rfl (nI_1 i) (by decide) rfl (fun ls hl => ?_)
        refine lv_goto (tgt := 44) hx hb d_M_newLabel_73 (by decide) ?_
        exact ih (i + 1) H locs ls (by omega) hP hD hS (lv_sub hl [0, 1, 2, 3] rfl)
  exact lp 8 0 H locs ls (by omega) hP hD hS (lv_sub hl [0, 1, 2, 3] rfl)
set_option maxHeartbeats 4000000 in
set_option maxRecDepth 100000 in
theorem k_M_spread (l : Launch) (dC : Nat → ClassId) (dI : Nat → Nat → Nat) (k5 : Nat → ClassId) (b : Nat → Nat) (vT vn vr vo vl vb : Int32) (fN fK fW fL fM fE fR fF fS fP fY fT fJ fI : FF) (x p9 : Nat) (sm fl : Int32) (bits : Int64) (hx9 : x < 1300) (hp9 : p9 = 0 ∨ p9 = 1) (ep : fP x = nI p9) (n : Nat) (hn : vn = nI n) (hn4 : 4 ≤ n) (hn8 : n ≤ 8) : Met l y_M_spread w_M_spread ({ frames := 1, cells := 0, slots := 0, locals := 23 }) (kx_Pc (dC, dI) clA (tyL k5) (wMd b k5 vT vn vr vo vl vb fN fK fW fL fM fE fR fF fS fP fY fT fJ fI) [.ref (b 0), .int (nI x), .int sm, .int fl, .long bits]) (kx_Q (dC, dI) clA (wMd b k5 vT vn vr vo vl vb fN fK fW fL fM fE fR fF fS fP fY fT fJ fI) (wMd b k5 vT vn vr vo vl vb fN fK fW fL fM fE fR ((mSp fL x p9 sm fl bits fF fS n).1) ((mSp fL x p9 sm fl bits fF fS n).2.1) fP fY fT fJ fI) none) 0 0 (kx_A (wMd b k5 vT vn vr vo vl vb fN fK fW fL fM fE fR fF fS fP fY fT fJ fI)) := by
  refine Met.ofW (cc := c_M_spread) (maxL := 10) (ret := none) (by decide) rfl ?_
  intro p e s m args below meth c s₁ B hml hv
  obtain ⟨rfl, hP, hK, hD0⟩ := hv
  have hx := B.exec
  have hb := B.bytes
  have hr := B.returns
  have hts : ∀ w ∈ wsA, w.before _ s = true := fun w h => atoms_spec (ws := w_M_spread) B.pre w (List.mem_cons_of_mem _ h)
  have hown : s.vm.findClass R_M = some m.cls := findClass_of_methodNamed B.named
  have hlocks := B.notSynchronized
  have hD := kx_D.self hD0
  have hS : va_S (kx_A (wMd b k5 vT vn vr vo vl vb fN fK fW fL fM fE fR fF fS fP fY fT fJ fI)) s.heap s.heap [] := va_S.rf
  have hl := lv_entry ([.ref (b 0), .int (nI x), .int sm, .int fl, .long bits]) (n := 10) (Nat.le_of_ble_eq_true rfl)
  rw [lg_entry_eq]
  generalize (lg_sl ([.ref (b 0), .int (nI x), .int sm, .int fl, .long bits]) ++ List.replicate (10 - (lg_sl ([.ref (b 0), .int (nI x), .int sm, .int fl, .long bits])).length) Slot.unset).toArray = ls at hl ⊢
  have hl : lv_has ls 10 [(0, .ref (b 0)), (1, .int (nI x)), (2, .int sm), (3, .int fl), (4, .long bits)] := hl
  refine lv_iconst (v := 0) hx hb d_M_spread_0 (by decide) ?_
  refine lv_istore (lv' := [(6, .int 0), (0, .ref (b 0)), (1, .int (nI x)), (2, .int sm), (3, .int fl), (4, .long bits)]) hx hb d_M_spread_1 hl (by decide) rfl (fun ls hl => ?_)
  refine lv_iconst (v := 0) hx hb d_M_spread_3 (by decide) ?_
  refine lv_istore (lv' := [(7, .int 0), (6, .int 0), (0, .ref (b 0)), (1, .int (nI x)), (2, .int sm), (3, .int fl), (4, .long bits)]) hx hb d_M_spread_4 hl (by decide) rfl (fun ls hl => ?_)
  have lp : ∀ (q9 i : Nat) (H : Heap) (locs : List Loc) (ls : Array Slot), i + q9 = n → va_P (dC, dI) clA (wMd b k5 vT vn vr vo vl vb fN fK fW fL fM fE fR ((mSp fL x p9 sm fl bits fF fS i).1) ((mSp fL x p9 sm fl bits fF fS i).2.1) fP fY fT fJ fI) H → va_D (kx_A (wMd b k5 vT vn vr vo vl vb fN fK fW fL fM fE fR fF fS fP fY fT fJ fI)) (wMd b k5 vT vn vr vo vl vb fN fK fW fL fM fE fR ((mSp fL x p9 sm fl bits fF fS i).1) ((mSp fL x p9 sm fl bits fF fS i).2.1) fP fY fT fJ fI) → va_S (kx_A (wMd b k5 vT vn vr vo vl vb fN fK fW fL fM fE fR fF fS fP fY fT fJ fI)) s.heap H locs → lv_has ls 10 [(7, .int (nI i)), (6, .int (nI ((mSp fL x p9 sm fl bits fF fS i).2.2))), (0, .ref (b 0)), (1, .int (nI x)), (2, .int sm), (3, .int fl), (4, .long bits)] → W p l e (headSpec w_M_spread ({ frames := 1, cells := 0, slots := 0, locals := 23 })).room s m ([.ref (b 0), .int (nI x), .int sm, .int fl, .long bits] : List Value).toArray below meth c H locs 0 0 (MQ below (kx_Q (dC, dI) clA (wMd b k5 vT vn vr vo vl vb fN fK fW fL fM fE fR fF fS fP fY fT fJ fI) (wMd b k5 vT vn vr vo vl vb fN fK fW fL fM fE fR ((mSp fL x p9 sm fl bits fF fS n).1) ((mSp fL x p9 sm fl bits fF fS n).2.1) fP fY fT fJ fI) none) ([.ref (b 0), .int (nI x), .int sm, .int fl, .long bits] : List Value).toArray s 0 0 (kx_A (wMd b k5 vT vn vr vo vl vb fN fK fW fL fM fE fR fF fS fP fY fT fJ fI))) (F0 m 6 ls []) := by
    intro q9
    induction q9 with
    | zero =>
      intro i H locs ls hi hP hD hS hl
      have hi : n = i := by omega
      subst hi
      refine lv_iload hx hb d_M_spread_6 (lv_at hl 0 rfl) ?_
      refine lv_aload_n hx hb d_M_spread_8 rfl (lv_at hl 2 rfl) ?_
      refine va_get (D := (dC, dI)) (ci := 3) (v := .int vn) (C := R_M) (T := T_M) (N := 20) hx hb hts wu_M hown hK hP 0 rfl rfl 1 (by decide) (hts _ wf_M_62) (fun _ h9 => h9) rfl d_M_spread_9 ?_
      refine lv_icmp_ge (tgt := 138) hx hb d_M_spread_12 (by decide) (fun hc => ?_) (fun hc => ?_)
      · exact W.vret hx hb hr (fun t ht hW => kx_Qv ht hP (rfl) hS rfl) hS.2.2 d_M_spread_138
      · exact absurd (by rw [hn]; exact nI_le (by omega) (by omega)) hc
    | succ q9 ih =>
      intro i H locs ls hi hP hD hS hl
      refine lv_iload hx hb d_M_spread_6 (lv_at hl 0 rfl) ?_
      refine lv_aload_n hx hb d_M_spread_8 rfl (lv_at hl 2 rfl) ?_
      refine va_get (D := (dC, dI)) (ci := 3) (v := .int vn) (C := R_M) (T := T_M) (N := 20) hx hb hts wu_M hown hK hP 0 rfl rfl 1 (by decide) (hts _ wf_M_62) (fun _ h9 => h9) rfl d_M_spread_9 ?_
      refine lv_icmp_ge (tgt := 138) hx hb d_M_spread_12 (by decide) (fun hc => ?_) (fun hc => ?_)
      · exact absurd hc (by rw [hn]; exact nI_ge (by omega) (by omega))
      · refine lv_aload_n hx hb d_M_spread_15 rfl (lv_at hl 2 rfl) ?_
        refine va_get (D := (dC, dI)) (ci := 3) (v := .ref (b 4)) (C := R_M) (T := T_M) (N := 20) hx hb hts wu_M hown hK hP 0 rfl rfl 7 (by decide) (hts _ wf_M_20) (fun _ h9 => h9) rfl d_M_spread_16 ?_
        refine lv_iload hx hb d_M_spread_19 (lv_at hl 0 rfl) ?_
        refine kx_zald hx hb hK hP 4 3 rfl rfl i (rfl) (by omega) (by omega) d_M_spread_21 ?_
        refine lv_if_ne (tgt := 132) hx hb d_M_spread_22 (by decide) (fun hlo => ?_) (fun hlo => ?_)
        · have e : (mSp fL x p9 sm fl bits fF fS (i + 1)) = (mSp fL x p9 sm fl bits fF fS i) := if_neg (fun z => hlo z.1)
          refine lv_iinc (v := nI (i + 1)) (lv' := [(7, .int (nI (i + 1))), (6, .int (nI ((mSp fL x p9 sm fl bits fF fS i).2.2))), (0, .ref (b 0)), (1, .int (nI x)), (2, .int sm), (3, .int fl), (4, .long bits)]) hx hb d_M_spread_132 hl (k := 0) rfl (nI_1 i) (by decide) rfl (fun ls hl => ?_)
          refine lv_goto (tgt := 6) hx hb d_M_spread_135 (by decide) ?_
          exact ih (i + 1) H locs ls (by omega) (by rw [e]; exact hP) (by rw [e]; exact hD) hS (by rw [e]; exact (lv_sub hl [0, 1, 2, 3, 4, 5, 6] rfl))
        · refine lv_iload_n hx hb d_M_spread_25 rfl (lv_at hl 4 rfl) ?_
          refine lv_if_eq (tgt := 38) hx hb d_M_spread_26 (by decide) (fun hsm => ?_) (fun hsm => ?_)
          · have e : (mSp fL x p9 sm fl bits fF fS (i + 1)) = (mPut1 (mHow fl bits (mSp fL x p9 sm fl bits fF fS i).2.2) x (mSp fL x p9 sm fl bits fF fS i).1 (2 * i + p9), mPut2 (mHow fl bits (mSp fL x p9 sm fl bits fF fS i).2.2) x (mSp fL x p9 sm fl bits fF fS i).2.1 (2 * i + p9), (mSp fL x p9 sm fl bits fF fS i).2.2 + 1) := if_pos ⟨hlo, Or.inl hsm⟩
            refine lv_iload_n hx hb d_M_spread_38 rfl (lv_at hl 5 rfl) ?_
            refine lv_if_eq (tgt := 53) hx hb d_M_spread_39 (by decide) (fun hfl => ?_) (fun hfl => ?_)
            · have eh : mHow fl bits (mSp fL x p9 sm fl bits fF fS i).2.2 = 1 := if_pos hfl
              refine lv_iconst (v := 1) hx hb d_M_spread_53 (by decide) ?_
              refine lv_istore (lv' := [(8, .int 1), (7, .int (nI i)), (6, .int (nI ((mSp fL x p9 sm fl bits fF fS i).2.2))), (0, .ref (b 0)), (1, .int (nI x)), (2, .int sm), (3, .int fl), (4, .long bits)]) hx hb d_M_spread_54 hl (by decide) rfl (fun ls hl => ?_)
              refine lv_iconst (v := 2) hx hb d_M_spread_56 (by decide) ?_
              refine lv_iload hx hb d_M_spread_57 (lv_at hl 1 rfl) ?_
              refine lv_imul hx hb d_M_spread_59 ?_
              refine lv_aload_n hx hb d_M_spread_60 rfl (lv_at hl 3 rfl) ?_
              refine va_get (D := (dC, dI)) (ci := 3) (v := .ref (b 10)) (C := R_M) (T := T_M) (N := 20) hx hb hts wu_M hown hK hP 0 rfl rfl 15 (by decide) (hts _ wf_M_39) (fun _ h9 => h9) rfl d_M_spread_61 ?_
              refine lv_iload_n hx hb d_M_spread_64 rfl (lv_at hl 4 rfl) ?_
              refine kx_iald hx hb hK hP 10 0 rfl rfl x (rfl) (by omega) (by omega) d_M_spread_65 ?_
              refine lv_iadd hx hb d_M_spread_66 ?_
              refine lv_istore (lv' := [(9, .int ((2 * (nI i)) + (fP x))), (8, .int 1), (7, .int (nI i)), (6, .int (nI ((mSp fL x p9 sm fl bits fF fS i).2.2))), (0, .ref (b 0)), (1, .int (nI x)), (2, .int sm), (3, .int fl), (4, .long bits)]) hx hb d_M_spread_67 hl (by decide) rfl (fun ls hl => ?_)
              refine lv_aload_n hx hb d_M_spread_69 rfl (lv_at hl 4 rfl) ?_
              refine va_get (D := (dC, dI)) (ci := 3) (v := .ref (b 8)) (C := R_M) (T := T_M) (N := 20) hx hb hts wu_M hown hK hP 0 rfl rfl 11 (by decide) (hts _ wf_M_33) (fun _ h9 => h9) rfl d_M_spread_70 ?_
              refine lv_iload hx hb d_M_spread_73 (lv_at hl 0 rfl) ?_
              refine lv_iload hx hb d_M_spread_75 (lv_at hl 1 rfl) ?_
              refine lv_iconst (v := 1) hx hb d_M_spread_77 (by decide) ?_
              refine lv_icmp_eq (tgt := 87) hx hb d_M_spread_78 (by decide) (fun hc_1 => ?_) (fun hc_1 => ?_)
              · refine lv_iload_n hx hb d_M_spread_87 rfl (lv_at hl 5 rfl) ?_
                refine lv_goto (tgt := 98) hx hb d_M_spread_88 (by decide) ?_
                refine kx_iast (ws' := (wMd b k5 vT vn vr vo vl vb fN fK fW fL fM fE fR (upd ((mSp fL x p9 sm fl bits fF fS i).1) (2 * i + p9) (nI x)) ((mSp fL x p9 sm fl bits fF fS i).2.1) fP fY fT fJ fI)) hx hb hK hP hD hS 8 0 rfl rfl (2 * i + p9) (by rw [ep, show (2 : Int32) * nI i = nI (2 * i) from pk_mul 2 i]; exact nI_add _ _) (by omega) (by omega) rfl d_M_spread_98 (fun H locs hP hD hS => ?_)
                refine lv_aload_n hx hb d_M_spread_99 rfl (lv_at hl 4 rfl) ?_
                refine va_get (D := (dC, dI)) (ci := 3) (v := .ref (b 9)) (C := R_M) (T := T_M) (N := 20) hx hb hts wu_M hown hK hP 0 rfl rfl 12 (by decide) (hts _ wf_M_36) (fun _ h9 => h9) rfl d_M_spread_100 ?_
                refine lv_iload hx hb d_M_spread_103 (lv_at hl 0 rfl) ?_
                refine lv_iload hx hb d_M_spread_105 (lv_at hl 1 rfl) ?_
                refine lv_iconst (v := 1) hx hb d_M_spread_107 (by decide) ?_
                refine lv_icmp_eq (tgt := 117) hx hb d_M_spread_108 (by decide) (fun hc_2 => ?_) (fun hc_2 => ?_)
                · refine lv_iload_n hx hb d_M_spread_117 rfl (lv_at hl 5 rfl) ?_
                  refine lv_goto (tgt := 128) hx hb d_M_spread_118 (by decide) ?_
                  refine kx_iast (ws' := (wMd b k5 vT vn vr vo vl vb fN fK fW fL fM fE fR (upd ((mSp fL x p9 sm fl bits fF fS i).1) (2 * i + p9) (nI x)) (upd ((mSp fL x p9 sm fl bits fF fS i).2.1) (2 * i + p9) (nI x)) fP fY fT fJ fI)) hx hb hK hP hD hS 9 0 rfl rfl (2 * i + p9) (by rw [ep, show (2 : Int32) * nI i = nI (2 * i) from pk_mul 2 i]; exact nI_add _ _) (by omega) (by omega) rfl d_M_spread_128 (fun H locs hP hD hS => ?_)
                  refine lv_iinc (v := nI ((mSp fL x p9 sm fl bits fF fS i).2.2 + 1)) (lv' := [(6, .int (nI ((mSp fL x p9 sm fl bits fF fS i).2.2 + 1))), (9, .int ((2 * (nI i)) + (fP x))), (8, .int 1), (7, .int (nI i)), (0, .ref (b 0)), (1, .int (nI x)), (2, .int sm), (3, .int fl), (4, .long bits)]) hx hb d_M_spread_129 hl (k := 3) rfl (nI_1 _) (by decide) rfl (fun ls hl => ?_)
                  refine lv_iinc (v := nI (i + 1)) (lv' := [(7, .int (nI (i + 1))), (6, .int (nI ((mSp fL x p9 sm fl bits fF fS i).2.2 + 1))), (9, .int ((2 * (nI i)) + (fP x))), (8, .int 1), (0, .ref (b 0)), (1, .int (nI x)), (2, .int sm), (3, .int fl), (4, .long bits)]) hx hb d_M_spread_132 hl (k := 3) rfl (nI_1 i) (by decide) rfl (fun ls hl => ?_)
                  refine lv_goto (tgt := 6) hx hb d_M_spread_135 (by decide) ?_
                  exact ih (i + 1) H locs ls (by omega) (by rw [e, eh, mPut1_t (by decide), mPut2_t (by decide)]; exact hP) (by rw [e, eh, mPut1_t (by decide), mPut2_t (by decide)]; exact hD) hS (by rw [e]; exact (lv_sub hl [0, 1, 4, 5, 6, 7, 8] rfl))
                · exact absurd hc_1 hc_2
              · exact absurd hc_1 (by decide)
            · refine lv_aload_n hx hb d_M_spread_42 rfl (lv_at hl 2 rfl) ?_
              refine lv_lload hx hb d_M_spread_43 (lv_at hl 6 rfl) ?_
              refine lv_iload hx hb d_M_spread_45 (lv_at hl 1 rfl) ?_
              refine kx_VRW (As := [.long bits, .int (nI ((mSp fL x p9 sm fl bits fF fS i).2.2))]) (rest := []) ⟨hx, hb, hml, hown, hts⟩ (k_M_bitsOf l dC dI k5 b vT vn vr vo vl vb fN fK fW fL fM fE fR ((mSp fL x p9 sm fl bits fF fS i).1) ((mSp fL x p9 sm fl bits fF fS i).2.1) fP fY fT fJ fI bits (mSp fL x p9 sm fl bits fF fS i).2.2 (by have := mSp_k fL x p9 sm fl bits fF fS i; omega)) (cwV 2 hts (goodV wm_M_96 wn_M_bitsOf ws_M_bitsOf wi_M wc_M_bitsOf) rfl rfl rfl (by decide +kernel) ⟨Nat.le_of_ble_eq_true rfl, Nat.le_of_ble_eq_true rfl⟩) ⟨Nat.zero_le _, Nat.zero_le _⟩ hK hP hD 0 rfl rfl rfl hl.1 rfl (Nat.le_of_ble_eq_true rfl) d_M_spread_47 ?_
              refine W.eq (g2 := F0 m 50 ls [.int (mBits bits (mSp fL x p9 sm fl bits fF fS i).2.2)]) rfl ?_
              have eh : mHow fl bits (mSp fL x p9 sm fl bits fF fS i).2.2 = mBits bits (mSp fL x p9 sm fl bits fF fS i).2.2 := if_neg hfl
              refine lv_goto (tgt := 54) hx hb d_M_spread_50 (by decide) ?_
              refine lv_istore (lv' := [(8, .int (mBits bits (mSp fL x p9 sm fl bits fF fS i).2.2)), (7, .int (nI i)), (6, .int (nI ((mSp fL x p9 sm fl bits fF fS i).2.2))), (0, .ref (b 0)), (1, .int (nI x)), (2, .int sm), (3, .int fl), (4, .long bits)]) hx hb d_M_spread_54 hl (by decide) rfl (fun ls hl => ?_)
              refine lv_iconst (v := 2) hx hb d_M_spread_56 (by decide) ?_
              refine lv_iload hx hb d_M_spread_57 (lv_at hl 1 rfl) ?_
              refine lv_imul hx hb d_M_spread_59 ?_
              refine lv_aload_n hx hb d_M_spread_60 rfl (lv_at hl 3 rfl) ?_
              refine va_get (D := (dC, dI)) (ci := 3) (v := .ref (b 10)) (C := R_M) (T := T_M) (N := 20) hx hb hts wu_M hown hK hP 0 rfl rfl 15 (by decide) (hts _ wf_M_39) (fun _ h9 => h9) rfl d_M_spread_61 ?_
              refine lv_iload_n hx hb d_M_spread_64 rfl (lv_at hl 4 rfl) ?_
              refine kx_iald hx hb hK hP 10 0 rfl rfl x (rfl) (by omega) (by omega) d_M_spread_65 ?_
              refine lv_iadd hx hb d_M_spread_66 ?_
              refine lv_istore (lv' := [(9, .int ((2 * (nI i)) + (fP x))), (8, .int (mBits bits (mSp fL x p9 sm fl bits fF fS i).2.2)), (7, .int (nI i)), (6, .int (nI ((mSp fL x p9 sm fl bits fF fS i).2.2))), (0, .ref (b 0)), (1, .int (nI x)), (2, .int sm), (3, .int fl), (4, .long bits)]) hx hb d_M_spread_67 hl (by decide) rfl (fun ls hl => ?_)
              refine lv_aload_n hx hb d_M_spread_69 rfl (lv_at hl 4 rfl) ?_
              refine va_get (D := (dC, dI)) (ci := 3) (v := .ref (b 8)) (C := R_M) (T := T_M) (N := 20) hx hb hts wu_M hown hK hP 0 rfl rfl 11 (by decide) (hts _ wf_M_33) (fun _ h9 => h9) rfl d_M_spread_70 ?_
              refine lv_iload hx hb d_M_spread_73 (lv_at hl 0 rfl) ?_
              refine lv_iload hx hb d_M_spread_75 (lv_at hl 1 rfl) ?_
              refine lv_iconst (v := 1) hx hb d_M_spread_77 (by decide) ?_
              refine lv_icmp_eq (tgt := 87) hx hb d_M_spread_78 (by decide) (fun hc_3 => ?_) (fun hc_3 => ?_)
              · refine lv_iload_n hx hb d_M_spread_87 rfl (lv_at hl 5 rfl) ?_
                refine lv_goto (tgt := 98) hx hb d_M_spread_88 (by decide) ?_
                refine kx_iast (ws' := (wMd b k5 vT vn vr vo vl vb fN fK fW fL fM fE fR (upd ((mSp fL x p9 sm fl bits fF fS i).1) (2 * i + p9) (nI x)) ((mSp fL x p9 sm fl bits fF fS i).2.1) fP fY fT fJ fI)) hx hb hK hP hD hS 8 0 rfl rfl (2 * i + p9) (by rw [ep, show (2 : Int32) * nI i = nI (2 * i) from pk_mul 2 i]; exact nI_add _ _) (by omega) (by omega) rfl d_M_spread_98 (fun H locs hP hD hS => ?_)
                refine lv_aload_n hx hb d_M_spread_99 rfl (lv_at hl 4 rfl) ?_
                refine va_get (D := (dC, dI)) (ci := 3) (v := .ref (b 9)) (C := R_M) (T := T_M) (N := 20) hx hb hts wu_M hown hK hP 0 rfl rfl 12 (by decide) (hts _ wf_M_36) (fun _ h9 => h9) rfl d_M_spread_100 ?_
                refine lv_iload hx hb d_M_spread_103 (lv_at hl 0 rfl) ?_
                refine lv_iload hx hb d_M_spread_105 (lv_at hl 1 rfl) ?_
                refine lv_iconst (v := 1) hx hb d_M_spread_107 (by decide) ?_
                refine lv_icmp_eq (tgt := 117) hx hb d_M_spread_108 (by decide) (fun hc_4 => ?_) (fun hc_4 => ?_)
                · refine lv_iload_n hx hb d_M_spread_117 rfl (lv_at hl 5 rfl) ?_
                  refine lv_goto (tgt := 128) hx hb d_M_spread_118 (by decide) ?_
                  refine kx_iast (ws' := (wMd b k5 vT vn vr vo vl vb fN fK fW fL fM fE fR (upd ((mSp fL x p9 sm fl bits fF fS i).1) (2 * i + p9) (nI x)) (upd ((mSp fL x p9 sm fl bits fF fS i).2.1) (2 * i + p9) (nI x)) fP fY fT fJ fI)) hx hb hK hP hD hS 9 0 rfl rfl (2 * i + p9) (by rw [ep, show (2 : Int32) * nI i = nI (2 * i) from pk_mul 2 i]; exact nI_add _ _) (by omega) (by omega) rfl d_M_spread_128 (fun H locs hP hD hS => ?_)
                  refine lv_iinc (v := nI ((mSp fL x p9 sm fl bits fF fS i).2.2 + 1)) (lv' := [(6, .int (nI ((mSp fL x p9 sm fl bits fF fS i).2.2 + 1))), (9, .int ((2 * (nI i)) + (fP x))), (8, .int (mBits bits (mSp fL x p9 sm fl bits fF fS i).2.2)), (7, .int (nI i)), (0, .ref (b 0)), (1, .int (nI x)), (2, .int sm), (3, .int fl), (4, .long bits)]) hx hb d_M_spread_129 hl (k := 3) rfl (nI_1 _) (by decide) rfl (fun ls hl => ?_)
                  refine lv_iinc (v := nI (i + 1)) (lv' := [(7, .int (nI (i + 1))), (6, .int (nI ((mSp fL x p9 sm fl bits fF fS i).2.2 + 1))), (9, .int ((2 * (nI i)) + (fP x))), (8, .int (mBits bits (mSp fL x p9 sm fl bits fF fS i).2.2)), (0, .ref (b 0)), (1, .int (nI x)), (2, .int sm), (3, .int fl), (4, .long bits)]) hx hb d_M_spread_132 hl (k := 3) rfl (nI_1 i) (by decide) rfl (fun ls hl => ?_)
                  refine lv_goto (tgt := 6) hx hb d_M_spread_135 (by decide) ?_
                  exact ih (i + 1) H locs ls (by omega) (by rw [e, eh, mPut1_t (by simp [hc_3, hc_4]), mPut2_t (by simp [hc_3, hc_4])]; exact hP) (by rw [e, eh, mPut1_t (by simp [hc_3, hc_4]), mPut2_t (by simp [hc_3, hc_4])]; exact hD) hS (by rw [e]; exact (lv_sub hl [0, 1, 4, 5, 6, 7, 8] rfl))
                · exact absurd hc_3 hc_4
              · refine lv_iload hx hb d_M_spread_81 (lv_at hl 1 rfl) ?_
                refine lv_iconst (v := 2) hx hb d_M_spread_83 (by decide) ?_
                refine lv_icmp_ne (tgt := 91) hx hb d_M_spread_84 (by decide) (fun hc_5 => ?_) (fun hc_5 => ?_)
                · refine lv_aload_n hx hb d_M_spread_91 rfl (lv_at hl 4 rfl) ?_
                  refine va_get (D := (dC, dI)) (ci := 3) (v := .ref (b 8)) (C := R_M) (T := T_M) (N := 20) hx hb hts wu_M hown hK hP 0 rfl rfl 11 (by decide) (hts _ wf_M_33) (fun _ h9 => h9) rfl d_M_spread_92 ?_
                  refine lv_iload hx hb d_M_spread_95 (lv_at hl 0 rfl) ?_
                  refine kx_iald hx hb hK hP 8 0 rfl rfl (2 * i + p9) (by rw [ep, show (2 : Int32) * nI i = nI (2 * i) from pk_mul 2 i]; exact nI_add _ _) (by omega) (by omega) d_M_spread_97 ?_
                  refine kx_iast (ws' := (wMd b k5 vT vn vr vo vl vb fN fK fW fL fM fE fR (upd ((mSp fL x p9 sm fl bits fF fS i).1) (2 * i + p9) (((mSp fL x p9 sm fl bits fF fS i).1) (2 * i + p9))) ((mSp fL x p9 sm fl bits fF fS i).2.1) fP fY fT fJ fI)) hx hb hK hP hD hS 8 0 rfl rfl (2 * i + p9) (by rw [ep, show (2 : Int32) * nI i = nI (2 * i) from pk_mul 2 i]; exact nI_add _ _) (by omega) (by omega) rfl d_M_spread_98 (fun H locs hP hD hS => ?_)
                  refine lv_aload_n hx hb d_M_spread_99 rfl (lv_at hl 4 rfl) ?_
                  refine va_get (D := (dC, dI)) (ci := 3) (v := .ref (b 9)) (C := R_M) (T := T_M) (N := 20) hx hb hts wu_M hown hK hP 0 rfl rfl 12 (by decide) (hts _ wf_M_36) (fun _ h9 => h9) rfl d_M_spread_100 ?_
                  refine lv_iload hx hb d_M_spread_103 (lv_at hl 0 rfl) ?_
                  refine lv_iload hx hb d_M_spread_105 (lv_at hl 1 rfl) ?_
                  refine lv_iconst (v := 1) hx hb d_M_spread_107 (by decide) ?_
                  refine lv_icmp_eq (tgt := 117) hx hb d_M_spread_108 (by decide) (fun hc_6 => ?_) (fun hc_6 => ?_)
                  · exact absurd hc_6 hc_3
                  · refine lv_iload hx hb d_M_spread_111 (lv_at hl 1 rfl) ?_
                    refine lv_iconst (v := 3) hx hb d_M_spread_113 (by decide) ?_
                    refine lv_icmp_ne (tgt := 121) hx hb d_M_spread_114 (by decide) (fun hc_7 => ?_) (fun hc_7 => ?_)
                    · refine lv_aload_n hx hb d_M_spread_121 rfl (lv_at hl 4 rfl) ?_
                      refine va_get (D := (dC, dI)) (ci := 3) (v := .ref (b 9)) (C := R_M) (T := T_M) (N := 20) hx hb hts wu_M hown hK hP 0 rfl rfl 12 (by decide) (hts _ wf_M_36) (fun _ h9 => h9) rfl d_M_spread_122 ?_
                      refine lv_iload hx hb d_M_spread_125 (lv_at hl 0 rfl) ?_
                      refine kx_iald hx hb hK hP 9 0 rfl rfl (2 * i + p9) (by rw [ep, show (2 : Int32) * nI i = nI (2 * i) from pk_mul 2 i]; exact nI_add _ _) (by omega) (by omega) d_M_spread_127 ?_
                      refine kx_iast (ws' := (wMd b k5 vT vn vr vo vl vb fN fK fW fL fM fE fR (upd ((mSp fL x p9 sm fl bits fF fS i).1) (2 * i + p9) (((mSp fL x p9 sm fl bits fF fS i).1) (2 * i + p9))) (upd ((mSp fL x p9 sm fl bits fF fS i).2.1) (2 * i + p9) (((mSp fL x p9 sm fl bits fF fS i).2.1) (2 * i + p9))) fP fY fT fJ fI)) hx hb hK hP hD hS 9 0 rfl rfl (2 * i + p9) (by rw [ep, show (2 : Int32) * nI i = nI (2 * i) from pk_mul 2 i]; exact nI_add _ _) (by omega) (by omega) rfl d_M_spread_128 (fun H locs hP hD hS => ?_)
                      refine lv_iinc (v := nI ((mSp fL x p9 sm fl bits fF fS i).2.2 + 1)) (lv' := [(6, .int (nI ((mSp fL x p9 sm fl bits fF fS i).2.2 + 1))), (9, .int ((2 * (nI i)) + (fP x))), (8, .int (mBits bits (mSp fL x p9 sm fl bits fF fS i).2.2)), (7, .int (nI i)), (0, .ref (b 0)), (1, .int (nI x)), (2, .int sm), (3, .int fl), (4, .long bits)]) hx hb d_M_spread_129 hl (k := 3) rfl (nI_1 _) (by decide) rfl (fun ls hl => ?_)
                      refine lv_iinc (v := nI (i + 1)) (lv' := [(7, .int (nI (i + 1))), (6, .int (nI ((mSp fL x p9 sm fl bits fF fS i).2.2 + 1))), (9, .int ((2 * (nI i)) + (fP x))), (8, .int (mBits bits (mSp fL x p9 sm fl bits fF fS i).2.2)), (0, .ref (b 0)), (1, .int (nI x)), (2, .int sm), (3, .int fl), (4, .long bits)]) hx hb d_M_spread_132 hl (k := 3) rfl (nI_1 i) (by decide) rfl (fun ls hl => ?_)
                      refine lv_goto (tgt := 6) hx hb d_M_spread_135 (by decide) ?_
                      exact ih (i + 1) H locs ls (by omega) (by rw [e, eh, mPut1_f (by simp [hc_3, hc_5, hc_6, hc_7]), mPut2_f (by simp [hc_3, hc_5, hc_6, hc_7])]; exact hP) (by rw [e, eh, mPut1_f (by simp [hc_3, hc_5, hc_6, hc_7]), mPut2_f (by simp [hc_3, hc_5, hc_6, hc_7])]; exact hD) hS (by rw [e]; exact (lv_sub hl [0, 1, 4, 5, 6, 7, 8] rfl))
                    · refine lv_iload_n hx hb d_M_spread_117 rfl (lv_at hl 5 rfl) ?_
                      refine lv_goto (tgt := 128) hx hb d_M_spread_118 (by decide) ?_
                      refine kx_iast (ws' := (wMd b k5 vT vn vr vo vl vb fN fK fW fL fM fE fR (upd ((mSp fL x p9 sm fl bits fF fS i).1) (2 * i + p9) (((mSp fL x p9 sm fl bits fF fS i).1) (2 * i + p9))) (upd ((mSp fL x p9 sm fl bits fF fS i).2.1) (2 * i + p9) (nI x)) fP fY fT fJ fI)) hx hb hK hP hD hS 9 0 rfl rfl (2 * i + p9) (by rw [ep, show (2 : Int32) * nI i = nI (2 * i) from pk_mul 2 i]; exact nI_add _ _) (by omega) (by omega) rfl d_M_spread_128 (fun H locs hP hD hS => ?_)
                      refine lv_iinc (v := nI ((mSp fL x p9 sm fl bits fF fS i).2.2 + 1)) (lv' := [(6, .int (nI ((mSp fL x p9 sm fl bits fF fS i).2.2 + 1))), (9, .int ((2 * (nI i)) + (fP x))), (8, .int (mBits bits (mSp fL x p9 sm fl bits fF fS i).2.2)), (7, .int (nI i)), (0, .ref (b 0)), (1, .int (nI x)), (2, .int sm), (3, .int fl), (4, .long bits)]) hx hb d_M_spread_129 hl (k := 3) rfl (nI_1 _) (by decide) rfl (fun ls hl => ?_)
                      refine lv_iinc (v := nI (i + 1)) (lv' := [(7, .int (nI (i + 1))), (6, .int (nI ((mSp fL x p9 sm fl bits fF fS i).2.2 + 1))), (9, .int ((2 * (nI i)) + (fP x))), (8, .int (mBits bits (mSp fL x p9 sm fl bits fF fS i).2.2)), (0, .ref (b 0)), (1, .int (nI x)), (2, .int sm), (3, .int fl), (4, .long bits)]) hx hb d_M_spread_132 hl (k := 3) rfl (nI_1 i) (by decide) rfl (fun ls hl => ?_)
                      refine lv_goto (tgt := 6) hx hb d_M_spread_135 (by decide) ?_
                      exact ih (i + 1) H locs ls (by omega) (by rw [e, eh, mPut1_f (by simp [hc_3, hc_5, hc_6, hc_7]), mPut2_t (by simp [hc_3, hc_5, hc_6, hc_7])]; exact hP) (by rw [e, eh, mPut1_f (by simp [hc_3, hc_5, hc_6, hc_7]), mPut2_t (by simp [hc_3, hc_5, hc_6, hc_7])]; exact hD) hS (by rw [e]; exact (lv_sub hl [0, 1, 4, 5, 6, 7, 8] rfl))
                · refine lv_iload_n hx hb d_M_spread_87 rfl (lv_at hl 5 rfl) ?_
                  refine lv_goto (tgt := 98) hx hb d_M_spread_88 (by decide) ?_
                  refine kx_iast (ws' := (wMd b k5 vT vn vr vo vl vb fN fK fW fL fM fE fR (upd ((mSp fL x p9 sm fl bits fF fS i).1) (2 * i + p9) (nI x)) ((mSp fL x p9 sm fl bits fF fS i).2.1) fP fY fT fJ fI)) hx hb hK hP hD hS 8 0 rfl rfl (2 * i + p9) (by rw [ep, show (2 : Int32) * nI i = nI (2 * i) from pk_mul 2 i]; exact nI_add _ _) (by omega) (by omega) rfl d_M_spread_98 (fun H locs hP hD hS => ?_)
                  refine lv_aload_n hx hb d_M_spread_99 rfl (lv_at hl 4 rfl) ?_
                  refine va_get (D := (dC, dI)) (ci := 3) (v := .ref (b 9)) (C := R_M) (T := T_M) (N := 20) hx hb hts wu_M hown hK hP 0 rfl rfl 12 (by decide) (hts _ wf_M_36) (fun _ h9 => h9) rfl d_M_spread_100 ?_
                  refine lv_iload hx hb d_M_spread_103 (lv_at hl 0 rfl) ?_
                  refine lv_iload hx hb d_M_spread_105 (lv_at hl 1 rfl) ?_
                  refine lv_iconst (v := 1) hx hb d_M_spread_107 (by decide) ?_
                  refine lv_icmp_eq (tgt := 117) hx hb d_M_spread_108 (by decide) (fun hc_8 => ?_) (fun hc_8 => ?_)
                  · exact absurd (hc_5.symm.trans hc_8) (by decide)
                  · refine lv_iload hx hb d_M_spread_111 (lv_at hl 1 rfl) ?_
                    refine lv_iconst (v := 3) hx hb d_M_spread_113 (by decide) ?_
                    refine lv_icmp_ne (tgt := 121) hx hb d_M_spread_114 (by decide) (fun hc_9 => ?_) (fun hc_9 => ?_)
                    · refine lv_aload_n hx hb d_M_spread_121 rfl (lv_at hl 4 rfl) ?_
                      refine va_get (D := (dC, dI)) (ci := 3) (v := .ref (b 9)) (C := R_M) (T := T_M) (N := 20) hx hb hts wu_M hown hK hP 0 rfl rfl 12 (by decide) (hts _ wf_M_36) (fun _ h9 => h9) rfl d_M_spread_122 ?_
                      refine lv_iload hx hb d_M_spread_125 (lv_at hl 0 rfl) ?_
                      refine kx_iald hx hb hK hP 9 0 rfl rfl (2 * i + p9) (by rw [ep, show (2 : Int32) * nI i = nI (2 * i) from pk_mul 2 i]; exact nI_add _ _) (by omega) (by omega) d_M_spread_127 ?_
                      refine kx_iast (ws' := (wMd b k5 vT vn vr vo vl vb fN fK fW fL fM fE fR (upd ((mSp fL x p9 sm fl bits fF fS i).1) (2 * i + p9) (nI x)) (upd ((mSp fL x p9 sm fl bits fF fS i).2.1) (2 * i + p9) (((mSp fL x p9 sm fl bits fF fS i).2.1) (2 * i + p9))) fP fY fT fJ fI)) hx hb hK hP hD hS 9 0 rfl rfl (2 * i + p9) (by rw [ep, show (2 : Int32) * nI i = nI (2 * i) from pk_mul 2 i]; exact nI_add _ _) (by omega) (by omega) rfl d_M_spread_128 (fun H locs hP hD hS => ?_)
                      refine lv_iinc (v := nI ((mSp fL x p9 sm fl bits fF fS i).2.2 + 1)) (lv' := [(6, .int (nI ((mSp fL x p9 sm fl bits fF fS i).2.2 + 1))), (9, .int ((2 * (nI i)) + (fP x))), (8, .int (mBits bits (mSp fL x p9 sm fl bits fF fS i).2.2)), (7, .int (nI i)), (0, .ref (b 0)), (1, .int (nI x)), (2, .int sm), (3, .int fl), (4, .long bits)]) hx hb d_M_spread_129 hl (k := 3) rfl (nI_1 _) (by decide) rfl (fun ls hl => ?_)
                      refine lv_iinc (v := nI (i + 1)) (lv' := [(7, .int (nI (i + 1))), (6, .int (nI ((mSp fL x p9 sm fl bits fF fS i).2.2 + 1))), (9, .int ((2 * (nI i)) + (fP x))), (8, .int (mBits bits (mSp fL x p9 sm fl bits fF fS i).2.2)), (0, .ref (b 0)), (1, .int (nI x)), (2, .int sm), (3, .int fl), (4, .long bits)]) hx hb d_M_spread_132 hl (k := 3) rfl (nI_1 i) (by decide) rfl (fun ls hl => ?_)
                      refine lv_goto (tgt := 6) hx hb d_M_spread_135 (by decide) ?_
                      exact ih (i + 1) H locs ls (by omega) (by rw [e, eh, mPut1_t (by simp [hc_3, hc_5, hc_8, hc_9]), mPut2_f (by simp [hc_3, hc_5, hc_8, hc_9])]; exact hP) (by rw [e, eh, mPut1_t (by simp [hc_3, hc_5, hc_8, hc_9]), mPut2_f (by simp [hc_3, hc_5, hc_8, hc_9])]; exact hD) hS (by rw [e]; exact (lv_sub hl [0, 1, 4, 5, 6, 7, 8] rfl))
                    · exact absurd (hc_5.symm.trans hc_9) (by decide)
          · refine lv_aload_n hx hb d_M_spread_29 rfl (lv_at hl 2 rfl) ?_
            refine lv_iload hx hb d_M_spread_30 (lv_at hl 0 rfl) ?_
            refine kx_VRW (As := [.int (nI i)]) (rest := []) ⟨hx, hb, hml, hown, hts⟩ (k_M_has l dC dI k5 b vT vn vr vo vl vb fN fK fW fL fM fE fR ((mSp fL x p9 sm fl bits fF fS i).1) ((mSp fL x p9 sm fl bits fF fS i).2.1) fP fY fT fJ fI i (by omega)) (cwV 1 hts (goodV wm_M_92 wn_M_has ws_M_has wi_M wc_M_has) rfl rfl rfl (by decide +kernel) ⟨Nat.le_of_ble_eq_true rfl, Nat.le_of_ble_eq_true rfl⟩) ⟨Nat.zero_le _, Nat.zero_le _⟩ hK hP hD 0 rfl rfl rfl hl.1 rfl (Nat.le_of_ble_eq_true rfl) d_M_spread_32 ?_
            refine W.eq (g2 := F0 m 35 ls [.int (mHas fL (mSp fL x p9 sm fl bits fF fS i).1 (mSp fL x p9 sm fl bits fF fS i).2.1 i)]) rfl ?_
            refine lv_if_le (tgt := 132) hx hb d_M_spread_35 (by decide) (fun hh => ?_) (fun hh => ?_)
            · have e : (mSp fL x p9 sm fl bits fF fS (i + 1)) = (mSp fL x p9 sm fl bits fF fS i) := if_neg (fun z => z.2.elim hsm (fun q => q hh))
              refine lv_iinc (v := nI (i + 1)) (lv' := [(7, .int (nI (i + 1))), (6, .int (nI ((mSp fL x p9 sm fl bits fF fS i).2.2))), (0, .ref (b 0)), (1, .int (nI x)), (2, .int sm), (3, .int fl), (4, .long bits)]) hx hb d_M_spread_132 hl (k := 0) rfl (nI_1 i) (by decide) rfl (fun ls hl => ?_)
              refine lv_goto (tgt := 6) hx hb d_M_spread_135 (by decide) ?_
              exact ih (i + 1) H locs ls (by omega) (by rw [e]; exact hP) (by rw [e]; exact hD) hS (by rw [e]; exact (lv_sub hl [0, 1, 2, 3, 4, 5, 6] rfl))
            · have e : (mSp fL x p9 sm fl bits fF fS (i + 1)) = (mPut1 (mHow fl bits (mSp fL x p9 sm fl bits fF fS i).2.2) x (mSp fL x p9 sm fl bits fF fS i).1 (2 * i + p9), mPut2 (mHow fl bits (mSp fL x p9 sm fl bits fF fS i).2.2) x (mSp fL x p9 sm fl bits fF fS i).2.1 (2 * i + p9), (mSp fL x p9 sm fl bits fF fS i).2.2 + 1) := if_pos ⟨hlo, Or.inr hh⟩
              refine lv_iload_n hx hb d_M_spread_38 rfl (lv_at hl 5 rfl) ?_
              refine lv_if_eq (tgt := 53) hx hb d_M_spread_39 (by decide) (fun hfl => ?_) (fun hfl => ?_)
              · have eh : mHow fl bits (mSp fL x p9 sm fl bits fF fS i).2.2 = 1 := if_pos hfl
                refine lv_iconst (v := 1) hx hb d_M_spread_53 (by decide) ?_
                refine lv_istore (lv' := [(8, .int 1), (7, .int (nI i)), (6, .int (nI ((mSp fL x p9 sm fl bits fF fS i).2.2))), (0, .ref (b 0)), (1, .int (nI x)), (2, .int sm), (3, .int fl), (4, .long bits)]) hx hb d_M_spread_54 hl (by decide) rfl (fun ls hl => ?_)
                refine lv_iconst (v := 2) hx hb d_M_spread_56 (by decide) ?_
                refine lv_iload hx hb d_M_spread_57 (lv_at hl 1 rfl) ?_
                refine lv_imul hx hb d_M_spread_59 ?_
                refine lv_aload_n hx hb d_M_spread_60 rfl (lv_at hl 3 rfl) ?_
                refine va_get (D := (dC, dI)) (ci := 3) (v := .ref (b 10)) (C := R_M) (T := T_M) (N := 20) hx hb hts wu_M hown hK hP 0 rfl rfl 15 (by decide) (hts _ wf_M_39) (fun _ h9 => h9) rfl d_M_spread_61 ?_
                refine lv_iload_n hx hb d_M_spread_64 rfl (lv_at hl 4 rfl) ?_
                refine kx_iald hx hb hK hP 10 0 rfl rfl x (rfl) (by omega) (by omega) d_M_spread_65 ?_
                refine lv_iadd hx hb d_M_spread_66 ?_
                refine lv_istore (lv' := [(9, .int ((2 * (nI i)) + (fP x))), (8, .int 1), (7, .int (nI i)), (6, .int (nI ((mSp fL x p9 sm fl bits fF fS i).2.2))), (0, .ref (b 0)), (1, .int (nI x)), (2, .int sm), (3, .int fl), (4, .long bits)]) hx hb d_M_spread_67 hl (by decide) rfl (fun ls hl => ?_)
                refine lv_aload_n hx hb d_M_spread_69 rfl (lv_at hl 4 rfl) ?_
                refine va_get (D := (dC, dI)) (ci := 3) (v := .ref (b 8)) (C := R_M) (T := T_M) (N := 20) hx hb hts wu_M hown hK hP 0 rfl rfl 11 (by decide) (hts _ wf_M_33) (fun _ h9 => h9) rfl d_M_spread_70 ?_
                refine lv_iload hx hb d_M_spread_73 (lv_at hl 0 rfl) ?_
                refine lv_iload hx hb d_M_spread_75 (lv_at hl 1 rfl) ?_
                refine lv_iconst (v := 1) hx hb d_M_spread_77 (by decide) ?_
                refine lv_icmp_eq (tgt := 87) hx hb d_M_spread_78 (by decide) (fun hc_10 => ?_) (fun hc_10 => ?_)
                · refine lv_iload_n hx hb d_M_spread_87 rfl (lv_at hl 5 rfl) ?_
                  refine lv_goto (tgt := 98) hx hb d_M_spread_88 (by decide) ?_
                  refine kx_iast (ws' := (wMd b k5 vT vn vr vo vl vb fN fK fW fL fM fE fR (upd ((mSp fL x p9 sm fl bits fF fS i).1) (2 * i + p9) (nI x)) ((mSp fL x p9 sm fl bits fF fS i).2.1) fP fY fT fJ fI)) hx hb hK hP hD hS 8 0 rfl rfl (2 * i + p9) (by rw [ep, show (2 : Int32) * nI i = nI (2 * i) from pk_mul 2 i]; exact nI_add _ _) (by omega) (by omega) rfl d_M_spread_98 (fun H locs hP hD hS => ?_)
                  refine lv_aload_n hx hb d_M_spread_99 rfl (lv_at hl 4 rfl) ?_
                  refine va_get (D := (dC, dI)) (ci := 3) (v := .ref (b 9)) (C := R_M) (T := T_M) (N := 20) hx hb hts wu_M hown hK hP 0 rfl rfl 12 (by decide) (hts _ wf_M_36) (fun _ h9 => h9) rfl d_M_spread_100 ?_
                  refine lv_iload hx hb d_M_spread_103 (lv_at hl 0 rfl) ?_
                  refine lv_iload hx hb d_M_spread_105 (lv_at hl 1 rfl) ?_
                  refine lv_iconst (v := 1) hx hb d_M_spread_107 (by decide) ?_
                  refine lv_icmp_eq (tgt := 117) hx hb d_M_spread_108 (by decide) (fun hc_11 => ?_) (fun hc_11 => ?_)
                  · refine lv_iload_n hx hb d_M_spread_117 rfl (lv_at hl 5 rfl) ?_
                    refine lv_goto (tgt := 128) hx hb d_M_spread_118 (by decide) ?_
                    refine kx_iast (ws' := (wMd b k5 vT vn vr vo vl vb fN fK fW fL fM fE fR (upd ((mSp fL x p9 sm fl bits fF fS i).1) (2 * i + p9) (nI x)) (upd ((mSp fL x p9 sm fl bits fF fS i).2.1) (2 * i + p9) (nI x)) fP fY fT fJ fI)) hx hb hK hP hD hS 9 0 rfl rfl (2 * i + p9) (by rw [ep, show (2 : Int32) * nI i = nI (2 * i) from pk_mul 2 i]; exact nI_add _ _) (by omega) (by omega) rfl d_M_spread_128 (fun H locs hP hD hS => ?_)
                    refine lv_iinc (v := nI ((mSp fL x p9 sm fl bits fF fS i).2.2 + 1)) (lv' := [(6, .int (nI ((mSp fL x p9 sm fl bits fF fS i).2.2 + 1))), (9, .int ((2 * (nI i)) + (fP x))), (8, .int 1), (7, .int (nI i)), (0, .ref (b 0)), (1, .int (nI x)), (2, .int sm), (3, .int fl), (4, .long bits)]) hx hb d_M_spread_129 hl (k := 3) rfl (nI_1 _) (by decide) rfl (fun ls hl => ?_)
                    refine lv_iinc (v := nI (i + 1)) (lv' := [(7, .int (nI (i + 1))), (6, .int (nI ((mSp fL x p9 sm fl bits fF fS i).2.2 + 1))), (9, .int ((2 * (nI i)) + (fP x))), (8, .int 1), (0, .ref (b 0)), (1, .int (nI x)), (2, .int sm), (3, .int fl), (4, .long bits)]) hx hb d_M_spread_132 hl (k := 3) rfl (nI_1 i) (by decide) rfl (fun ls hl => ?_)
                    refine lv_goto (tgt := 6) hx hb d_M_spread_135 (by decide) ?_
                    exact ih (i + 1) H locs ls (by omega) (by rw [e, eh, mPut1_t (by decide), mPut2_t (by decide)]; exact hP) (by rw [e, eh, mPut1_t (by decide), mPut2_t (by decide)]; exact hD) hS (by rw [e]; exact (lv_sub hl [0, 1, 4, 5, 6, 7, 8] rfl))
                  · exact absurd hc_10 hc_11
                · exact absurd hc_10 (by decide)
              · refine lv_aload_n hx hb d_M_spread_42 rfl (lv_at hl 2 rfl) ?_
                refine lv_lload hx hb d_M_spread_43 (lv_at hl 6 rfl) ?_
                refine lv_iload hx hb d_M_spread_45 (lv_at hl 1 rfl) ?_
                refine kx_VRW (As := [.long bits, .int (nI ((mSp fL x p9 sm fl bits fF fS i).2.2))]) (rest := []) ⟨hx, hb, hml, hown, hts⟩ (k_M_bitsOf l dC dI k5 b vT vn vr vo vl vb fN fK fW fL fM fE fR ((mSp fL x p9 sm fl bits fF fS i).1) ((mSp fL x p9 sm fl bits fF fS i).2.1) fP fY fT fJ fI bits (mSp fL x p9 sm fl bits fF fS i).2.2 (by have := mSp_k fL x p9 sm fl bits fF fS i; omega)) (cwV 2 hts (goodV wm_M_96 wn_M_bitsOf ws_M_bitsOf wi_M wc_M_bitsOf) rfl rfl rfl (by decide +kernel) ⟨Nat.le_of_ble_eq_true rfl, Nat.le_of_ble_eq_true rfl⟩) ⟨Nat.zero_le _, Nat.zero_le _⟩ hK hP hD 0 rfl rfl rfl hl.1 rfl (Nat.le_of_ble_eq_true rfl) d_M_spread_47 ?_
                refine W.eq (g2 := F0 m 50 ls [.int (mBits bits (mSp fL x p9 sm fl bits fF fS i).2.2)]) rfl ?_
                have eh : mHow fl bits (mSp fL x p9 sm fl bits fF fS i).2.2 = mBits bits (mSp fL x p9 sm fl bits fF fS i).2.2 := if_neg hfl
                refine lv_goto (tgt := 54) hx hb d_M_spread_50 (by decide) ?_
                refine lv_istore (lv' := [(8, .int (mBits bits (mSp fL x p9 sm fl bits fF fS i).2.2)), (7, .int (nI i)), (6, .int (nI ((mSp fL x p9 sm fl bits fF fS i).2.2))), (0, .ref (b 0)), (1, .int (nI x)), (2, .int sm), (3, .int fl), (4, .long bits)]) hx hb d_M_spread_54 hl (by decide) rfl (fun ls hl => ?_)
                refine lv_iconst (v := 2) hx hb d_M_spread_56 (by decide) ?_
                refine lv_iload hx hb d_M_spread_57 (lv_at hl 1 rfl) ?_
                refine lv_imul hx hb d_M_spread_59 ?_
                refine lv_aload_n hx hb d_M_spread_60 rfl (lv_at hl 3 rfl) ?_
                refine va_get (D := (dC, dI)) (ci := 3) (v := .ref (b 10)) (C := R_M) (T := T_M) (N := 20) hx hb hts wu_M hown hK hP 0 rfl rfl 15 (by decide) (hts _ wf_M_39) (fun _ h9 => h9) rfl d_M_spread_61 ?_
                refine lv_iload_n hx hb d_M_spread_64 rfl (lv_at hl 4 rfl) ?_
                refine kx_iald hx hb hK hP 10 0 rfl rfl x (rfl) (by omega) (by omega) d_M_spread_65 ?_
                refine lv_iadd hx hb d_M_spread_66 ?_
                refine lv_istore (lv' := [(9, .int ((2 * (nI i)) + (fP x))), (8, .int (mBits bits (mSp fL x p9 sm fl bits fF fS i).2.2)), (7, .int (nI i)), (6, .int (nI ((mSp fL x p9 sm fl bits fF fS i).2.2))), (0, .ref (b 0)), (1, .int (nI x)), (2, .int sm), (3, .int fl), (4, .long bits)]) hx hb d_M_spread_67 hl (by decide) rfl (fun ls hl => ?_)
                refine lv_aload_n hx hb d_M_spread_69 rfl (lv_at hl 4 rfl) ?_
                refine va_get (D := (dC, dI)) (ci := 3) (v := .ref (b 8)) (C := R_M) (T := T_M) (N := 20) hx hb hts wu_M hown hK hP 0 rfl rfl 11 (by decide) (hts _ wf_M_33) (fun _ h9 => h9) rfl d_M_spread_70 ?_
                refine lv_iload hx hb d_M_spread_73 (lv_at hl 0 rfl) ?_
                refine lv_iload hx hb d_M_spread_75 (lv_at hl 1 rfl) ?_
                refine lv_iconst (v := 1) hx hb d_M_spread_77 (by decide) ?_
                refine lv_icmp_eq (tgt := 87) hx hb d_M_spread_78 (by decide) (fun hc_12 => ?_) (fun hc_12 => ?_)
                · refine lv_iload_n hx hb d_M_spread_87 rfl (lv_at hl 5 rfl) ?_
                  refine lv_goto (tgt := 98) hx hb d_M_spread_88 (by decide) ?_
                  refine kx_iast (ws' := (wMd b k5 vT vn vr vo vl vb fN fK fW fL fM fE fR (upd ((mSp fL x p9 sm fl bits fF fS i).1) (2 * i + p9) (nI x)) ((mSp fL x p9 sm fl bits fF fS i).2.1) fP fY fT fJ fI)) hx hb hK hP hD hS 8 0 rfl rfl (2 * i + p9) (by rw [ep, show (2 : Int32) * nI i = nI (2 * i) from pk_mul 2 i]; exact nI_add _ _) (by omega) (by omega) rfl d_M_spread_98 (fun H locs hP hD hS => ?_)
                  refine lv_aload_n hx hb d_M_spread_99 rfl (lv_at hl 4 rfl) ?_
                  refine va_get (D := (dC, dI)) (ci := 3) (v := .ref (b 9)) (C := R_M) (T := T_M) (N := 20) hx hb hts wu_M hown hK hP 0 rfl rfl 12 (by decide) (hts _ wf_M_36) (fun _ h9 => h9) rfl d_M_spread_100 ?_
                  refine lv_iload hx hb d_M_spread_103 (lv_at hl 0 rfl) ?_
                  refine lv_iload hx hb d_M_spread_105 (lv_at hl 1 rfl) ?_
                  refine lv_iconst (v := 1) hx hb d_M_spread_107 (by decide) ?_
                  refine lv_icmp_eq (tgt := 117) hx hb d_M_spread_108 (by decide) (fun hc_13 => ?_) (fun hc_13 => ?_)
                  · refine lv_iload_n hx hb d_M_spread_117 rfl (lv_at hl 5 rfl) ?_
                    refine lv_goto (tgt := 128) hx hb d_M_spread_118 (by decide) ?_
                    refine kx_iast (ws' := (wMd b k5 vT vn vr vo vl vb fN fK fW fL fM fE fR (upd ((mSp fL x p9 sm fl bits fF fS i).1) (2 * i + p9) (nI x)) (upd ((mSp fL x p9 sm fl bits fF fS i).2.1) (2 * i + p9) (nI x)) fP fY fT fJ fI)) hx hb hK hP hD hS 9 0 rfl rfl (2 * i + p9) (by rw [ep, show (2 : Int32) * nI i = nI (2 * i) from pk_mul 2 i]; exact nI_add _ _) (by omega) (by omega) rfl d_M_spread_128 (fun H locs hP hD hS => ?_)
                    refine lv_iinc (v := nI ((mSp fL x p9 sm fl bits fF fS i).2.2 + 1)) (lv' := [(6, .int (nI ((mSp fL x p9 sm fl bits fF fS i).2.2 + 1))), (9, .int ((2 * (nI i)) + (fP x))), (8, .int (mBits bits (mSp fL x p9 sm fl bits fF fS i).2.2)), (7, .int (nI i)), (0, .ref (b 0)), (1, .int (nI x)), (2, .int sm), (3, .int fl), (4, .long bits)]) hx hb d_M_spread_129 hl (k := 3) rfl (nI_1 _) (by decide) rfl (fun ls hl => ?_)
                    refine lv_iinc (v := nI (i + 1)) (lv' := [(7, .int (nI (i + 1))), (6, .int (nI ((mSp fL x p9 sm fl bits fF fS i).2.2 + 1))), (9, .int ((2 * (nI i)) + (fP x))), (8, .int (mBits bits (mSp fL x p9 sm fl bits fF fS i).2.2)), (0, .ref (b 0)), (1, .int (nI x)), (2, .int sm), (3, .int fl), (4, .long bits)]) hx hb d_M_spread_132 hl (k := 3) rfl (nI_1 i) (by decide) rfl (fun ls hl => ?_)
                    refine lv_goto (tgt := 6) hx hb d_M_spread_135 (by decide) ?_
                    exact ih (i + 1) H locs ls (by omega) (by rw [e, eh, mPut1_t (by simp [hc_12, hc_13]), mPut2_t (by simp [hc_12, hc_13])]; exact hP) (by rw [e, eh, mPut1_t (by simp [hc_12, hc_13]), mPut2_t (by simp [hc_12, hc_13])]; exact hD) hS (by rw [e]; exact (lv_sub hl [0, 1, 4, 5, 6, 7, 8] rfl))
                  · exact absurd hc_12 hc_13
                · refine lv_iload hx hb d_M_spread_81 (lv_at hl 1 rfl) ?_
                  refine lv_iconst (v := 2) hx hb d_M_spread_83 (by decide) ?_
                  refine lv_icmp_ne (tgt := 91) hx hb d_M_spread_84 (by decide) (fun hc_14 => ?_) (fun hc_14 => ?_)
                  · refine lv_aload_n hx hb d_M_spread_91 rfl (lv_at hl 4 rfl) ?_
                    refine va_get (D := (dC, dI)) (ci := 3) (v := .ref (b 8)) (C := R_M) (T := T_M) (N := 20) hx hb hts wu_M hown hK hP 0 rfl rfl 11 (by decide) (hts _ wf_M_33) (fun _ h9 => h9) rfl d_M_spread_92 ?_
                    refine lv_iload hx hb d_M_spread_95 (lv_at hl 0 rfl) ?_
                    refine kx_iald hx hb hK hP 8 0 rfl rfl (2 * i + p9) (by rw [ep, show (2 : Int32) * nI i = nI (2 * i) from pk_mul 2 i]; exact nI_add _ _) (by omega) (by omega) d_M_spread_97 ?_
                    refine kx_iast (ws' := (wMd b k5 vT vn vr vo vl vb fN fK fW fL fM fE fR (upd ((mSp fL x p9 sm fl bits fF fS i).1) (2 * i + p9) (((mSp fL x p9 sm fl bits fF fS i).1) (2 * i + p9))) ((mSp fL x p9 sm fl bits fF fS i).2.1) fP fY fT fJ fI)) hx hb hK hP hD hS 8 0 rfl rfl (2 * i + p9) (by rw [ep, show (2 : Int32) * nI i = nI (2 * i) from pk_mul 2 i]; exact nI_add _ _) (by omega) (by omega) rfl d_M_spread_98 (fun H locs hP hD hS => ?_)
                    refine lv_aload_n hx hb d_M_spread_99 rfl (lv_at hl 4 rfl) ?_
                    refine va_get (D := (dC, dI)) (ci := 3) (v := .ref (b 9)) (C := R_M) (T := T_M) (N := 20) hx hb hts wu_M hown hK hP 0 rfl rfl 12 (by decide) (hts _ wf_M_36) (fun _ h9 => h9) rfl d_M_spread_100 ?_
                    refine lv_iload hx hb d_M_spread_103 (lv_at hl 0 rfl) ?_
                    refine lv_iload hx hb d_M_spread_105 (lv_at hl 1 rfl) ?_
                    refine lv_iconst (v := 1) hx hb d_M_spread_107 (by decide) ?_
                    refine lv_icmp_eq (tgt := 117) hx hb d_M_spread_108 (by decide) (fun hc_15 => ?_) (fun hc_15 => ?_)
                    · exact absurd hc_15 hc_12
                    · refine lv_iload hx hb d_M_spread_111 (lv_at hl 1 rfl) ?_
                      refine lv_iconst (v := 3) hx hb d_M_spread_113 (by decide) ?_
                      refine lv_icmp_ne (tgt := 121) hx hb d_M_spread_114 (by decide) (fun hc_16 => ?_) (fun hc_16 => ?_)
                      · refine lv_aload_n hx hb d_M_spread_121 rfl (lv_at hl 4 rfl) ?_
                        refine va_get (D := (dC, dI)) (ci := 3) (v := .ref (b 9)) (C := R_M) (T := T_M) (N := 20) hx hb hts wu_M hown hK hP 0 rfl rfl 12 (by decide) (hts _ wf_M_36) (fun _ h9 => h9) rfl d_M_spread_122 ?_
                        refine lv_iload hx hb d_M_spread_125 (lv_at hl 0 rfl) ?_
                        refine kx_iald hx hb hK hP 9 0 rfl rfl (2 * i + p9) (by rw [ep, show (2 : Int32) * nI i = nI (2 * i) from pk_mul 2 i]; exact nI_add _ _) (by omega) (by omega) d_M_spread_127 ?_
                        refine kx_iast (ws' := (wMd b k5 vT vn vr vo vl vb fN fK fW fL fM fE fR (upd ((mSp fL x p9 sm fl bits fF fS i).1) (2 * i + p9) (((mSp fL x p9 sm fl bits fF fS i).1) (2 * i + p9))) (upd ((mSp fL x p9 sm fl bits fF fS i).2.1) (2 * i + p9) (((mSp fL x p9 sm fl bits fF fS i).2.1) (2 * i + p9))) fP fY fT fJ fI)) hx hb hK hP hD hS 9 0 rfl rfl (2 * i + p9) (by rw [ep, show (2 : Int32) * nI i = nI (2 * i) from pk_mul 2 i]; exact nI_add _ _) (by omega) (by omega) rfl d_M_spread_128 (fun H locs hP hD hS => ?_)
                        refine lv_iinc (v := nI ((mSp fL x p9 sm fl bits fF fS i).2.2 + 1)) (lv' := [(6, .int (nI ((mSp fL x p9 sm fl bits fF fS i).2.2 + 1))), (9, .int ((2 * (nI i)) + (fP x))), (8, .int (mBits bits (mSp fL x p9 sm fl bits fF fS i).2.2)), (7, .int (nI i)), (0, .ref (b 0)), (1, .int (nI x)), (2, .int sm), (3, .int fl), (4, .long bits)]) hx hb d_M_spread_129 hl (k := 3) rfl (nI_1 _) (by decide) rfl (fun ls hl => ?_)
                        refine lv_iinc (v := nI (i + 1)) (lv' := [(7, .int (nI (i + 1))), (6, .int (nI ((mSp fL x p9 sm fl bits fF fS i).2.2 + 1))), (9, .int ((2 * (nI i)) + (fP x))), (8, .int (mBits bits (mSp fL x p9 sm fl bits fF fS i).2.2)), (0, .ref (b 0)), (1, .int (nI x)), (2, .int sm), (3, .int fl), (4, .long bits)]) hx hb d_M_spread_132 hl (k := 3) rfl (nI_1 i) (by decide) rfl (fun ls hl => ?_)
                        refine lv_goto (tgt := 6) hx hb d_M_spread_135 (by decide) ?_
                        exact ih (i + 1) H locs ls (by omega) (by rw [e, eh, mPut1_f (by simp [hc_12, hc_14, hc_15, hc_16]), mPut2_f (by simp [hc_12, hc_14, hc_15, hc_16])]; exact hP) (by rw [e, eh, mPut1_f (by simp [hc_12, hc_14, hc_15, hc_16]), mPut2_f (by simp [hc_12, hc_14, hc_15, hc_16])]; exact hD) hS (by rw [e]; exact (lv_sub hl [0, 1, 4, 5, 6, 7, 8] rfl))
                      · refine lv_iload_n hx hb d_M_spread_117 rfl (lv_at hl 5 rfl) ?_
                        refine lv_goto (tgt := 128) hx hb d_M_spread_118 (by decide) ?_
                        refine kx_iast (ws' := (wMd b k5 vT vn vr vo vl vb fN fK fW fL fM fE fR (upd ((mSp fL x p9 sm fl bits fF fS i).1) (2 * i + p9) (((mSp fL x p9 sm fl bits fF fS i).1) (2 * i + p9))) (upd ((mSp fL x p9 sm fl bits fF fS i).2.1) (2 * i + p9) (nI x)) fP fY fT fJ fI)) hx hb hK hP hD hS 9 0 rfl rfl (2 * i + p9) (by rw [ep, show (2 : Int32) * nI i = nI (2 * i) from pk_mul 2 i]; exact nI_add _ _) (by omega) (by omega) rfl d_M_spread_128 (fun H locs hP hD hS => ?_)
                        refine lv_iinc (v := nI ((mSp fL x p9 sm fl bits fF fS i).2.2 + 1)) (lv' := [(6, .int (nI ((mSp fL x p9 sm fl bits fF fS i).2.2 + 1))), (9, .int ((2 * (nI i)) + (fP x))), (8, .int (mBits bits (mSp fL x p9 sm fl bits fF fS i).2.2)), (7, .int (nI i)), (0, .ref (b 0)), (1, .int (nI x)), (2, .int sm), (3, .int fl), (4, .long bits)]) hx hb d_M_spread_129 hl (k := 3) rfl (nI_1 _) (by decide) rfl (fun ls hl => ?_)
                        refine lv_iinc (v := nI (i + 1)) (lv' := [(7, .int (nI (i + 1))), (6, .int (nI ((mSp fL x p9 sm fl bits fF fS i).2.2 + 1))), (9, .int ((2 * (nI i)) + (fP x))), (8, .int (mBits bits (mSp fL x p9 sm fl bits fF fS i).2.2)), (0, .ref (b 0)), (1, .int (nI x)), (2, .int sm), (3, .int fl), (4, .long bits)]) hx hb d_M_spread_132 hl (k := 3) rfl (nI_1 i) (by decide) rfl (fun ls hl => ?_)
                        refine lv_goto (tgt := 6) hx hb d_M_spread_135 (by decide) ?_
                        exact ih (i + 1) H locs ls (by omega) (by rw [e, eh, mPut1_f (by simp [hc_12, hc_14, hc_15, hc_16]), mPut2_t (by simp [hc_12, hc_14, hc_15, hc_16])]; exact hP) (by rw [e, eh, mPut1_f (by simp [hc_12, hc_14, hc_15, hc_16]), mPut2_t (by simp [hc_12, hc_14, hc_15, hc_16])]; exact hD) hS (by rw [e]; exact (lv_sub hl [0, 1, 4, 5, 6, 7, 8] rfl))
                  · refine lv_iload_n hx hb d_M_spread_87 rfl (lv_at hl 5 rfl) ?_
                    refine lv_goto (tgt := 98) hx hb d_M_spread_88 (by decide) ?_
                    refine kx_iast (ws' := (wMd b k5 vT vn vr vo vl vb fN fK fW fL fM fE fR (upd ((mSp fL x p9 sm fl bits fF fS i).1) (2 * i + p9) (nI x)) ((mSp fL x p9 sm fl bits fF fS i).2.1) fP fY fT fJ fI)) hx hb hK hP hD hS 8 0 rfl rfl (2 * i + p9) (by rw [ep, show (2 : Int32) * nI i = nI (2 * i) from pk_mul 2 i]; exact nI_add _ _) (by omega) (by omega) rfl d_M_spread_98 (fun H locs hP hD hS => ?_)
                    refine lv_aload_n hx hb d_M_spread_99 rfl (lv_at hl 4 rfl) ?_
                    refine va_get (D := (dC, dI)) (ci := 3) (v := .ref (b 9)) (C := R_M) (T := T_M) (N := 20) hx hb hts wu_M hown hK hP 0 rfl rfl 12 (by decide) (hts _ wf_M_36) (fun _ h9 => h9) rfl d_M_spread_100 ?_
                    refine lv_iload hx hb d_M_spread_103 (lv_at hl 0 rfl) ?_
                    refine lv_iload hx hb d_M_spread_105 (lv_at hl 1 rfl) ?_
                    refine lv_iconst (v := 1) hx hb d_M_spread_107 (by decide) ?_
                    refine lv_icmp_eq (tgt := 117) hx hb d_M_spread_108 (by decide) (fun hc_17 => ?_) (fun hc_17 => ?_)
                    · exact absurd (hc_14.symm.trans hc_17) (by decide)
                    · refine lv_iload hx hb d_M_spread_111 (lv_at hl 1 rfl) ?_
                      refine lv_iconst (v := 3) hx hb d_M_spread_113 (by decide) ?_
                      refine lv_icmp_ne (tgt := 121) hx hb d_M_spread_114 (by decide) (fun hc_18 => ?_) (fun hc_18 => ?_)
                      · refine lv_aload_n hx hb d_M_spread_121 rfl (lv_at hl 4 rfl) ?_
                        refine va_get (D := (dC, dI)) (ci := 3) (v := .ref (b 9)) (C := R_M) (T := T_M) (N := 20) hx hb hts wu_M hown hK hP 0 rfl rfl 12 (by decide) (hts _ wf_M_36) (fun _ h9 => h9) rfl d_M_spread_122 ?_
                        refine lv_iload hx hb d_M_spread_125 (lv_at hl 0 rfl) ?_
                        refine kx_iald hx hb hK hP 9 0 rfl rfl (2 * i + p9) (by rw [ep, show (2 : Int32) * nI i = nI (2 * i) from pk_mul 2 i]; exact nI_add _ _) (by omega) (by omega) d_M_spread_127 ?_
                        refine kx_iast (ws' := (wMd b k5 vT vn vr vo vl vb fN fK fW fL fM fE fR (upd ((mSp fL x p9 sm fl bits fF fS i).1) (2 * i + p9) (nI x)) (upd ((mSp fL x p9 sm fl bits fF fS i).2.1) (2 * i + p9) (((mSp fL x p9 sm fl bits fF fS i).2.1) (2 * i + p9))) fP fY fT fJ fI)) hx hb hK hP hD hS 9 0 rfl rfl (2 * i + p9) (by rw [ep, show (2 : Int32) * nI i = nI (2 * i) from pk_mul 2 i]; exact nI_add _ _) (by omega) (by omega) rfl d_M_spread_128 (fun H locs hP hD hS => ?_)
                        refine lv_iinc (v := nI ((mSp fL x p9 sm fl bits fF fS i).2.2 + 1)) (lv' := [(6, .int (nI ((mSp fL x p9 sm fl bits fF fS i).2.2 + 1))), (9, .int ((2 * (nI i)) + (fP x))), (8, .int (mBits bits (mSp fL x p9 sm fl bits fF fS i).2.2)), (7, .int (nI i)), (0, .ref (b 0)), (1, .int (nI x)), (2, .int sm), (3, .int fl), (4, .long bits)]) hx hb d_M_spread_129 hl (k := 3) rfl (nI_1 _) (by decide) rfl (fun ls hl => ?_)
                        refine lv_iinc (v := nI (i + 1)) (lv' := [(7, .int (nI (i + 1))), (6, .int (nI ((mSp fL x p9 sm fl bits fF fS i).2.2 + 1))), (9, .int ((2 * (nI i)) + (fP x))), (8, .int (mBits bits (mSp fL x p9 sm fl bits fF fS i).2.2)), (0, .ref (b 0)), (1, .int (nI x)), (2, .int sm), (3, .int fl), (4, .long bits)]) hx hb d_M_spread_132 hl (k := 3) rfl (nI_1 i) (by decide) rfl (fun ls hl => ?_)
                        refine lv_goto (tgt := 6) hx hb d_M_spread_135 (by decide) ?_
                        exact ih (i + 1) H locs ls (by omega) (by rw [e, eh, mPut1_t (by simp [hc_12, hc_14, hc_17, hc_18]), mPut2_f (by simp [hc_12, hc_14, hc_17, hc_18])]; exact hP) (by rw [e, eh, mPut1_t (by simp [hc_12, hc_14, hc_17, hc_18]), mPut2_f (by simp [hc_12, hc_14, hc_17, hc_18])]; exact hD) hS (by rw [e]; exact (lv_sub hl [0, 1, 4, 5, 6, 7, 8] rfl))
                      · exact absurd (hc_14.symm.trans hc_18) (by decide)
  exact lp n 0 s.heap [] ls (by omega) hP hD hS (lv_sub hl [0, 1, 2, 3, 4, 5, 6] rfl)
