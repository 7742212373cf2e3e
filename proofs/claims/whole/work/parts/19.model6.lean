def m_write (vT vn vr vo vl vb : Int32) (fN fK fW fL fM fE fR fF fS fP fY fT fJ fI : FF) (n r : Nat) (x t cn v : Int32) : MT × Int32 := (if vo = 0 then (if (bI (decide (x < 0 ∨ ¬ x < ((vn - 2) * (vr - 6))))) = 0 then (if cn < 1 then ((0, vn, vr, vo, vl, vb, fN, fK, fW, fL, fM, fE, fR, fF, fS, fP, fY, fT, fJ, fI), (-1)) else (if 64 < cn then ((0, vn, vr, vo, vl, vb, fN, fK, fW, fL, fM, fE, fR, fF, fS, fP, fY, fT, fJ, fI), (-1)) else (if t < 0 then ((0, vn, vr, vo, vl, vb, fN, fK, fW, fL, fM, fE, fR, fF, fS, fP, fY, fT, fJ, fI), (-1)) else (if (64 - cn) < t then ((0, vn, vr, vo, vl, vb, fN, fK, fW, fL, fM, fE, fR, fF, fS, fP, fY, fT, fJ, fI), (-1)) else (if v < 0 then ((0, vn, vr, vo, vl, vb, fN, fK, fW, fL, fM, fE, fR, fF, fS, fP, fY, fT, fJ, fI), (-1)) else (if v ≤ 255 then (if (mUse (upd fW (x.toNatClampNeg) 1) n r) ≤ (4 * (vn - 2)) then ((0, vn, vr, vo, vl, vb, (fillF fN (vp_nar .byte v.toInt8.toInt32) (64 * (x.toNatClampNeg) + (t.toNatClampNeg)) (cn.toNatClampNeg)), fK, (upd fW (x.toNatClampNeg) 1), fL, fM, fE, fR, fF, fS, fP, fY, fT, fJ, fI), (mUse (upd fW (x.toNatClampNeg) 1) n r)) else ((0, vn, vr, vo, vl, vb, fN, fK, (upd (upd fW (x.toNatClampNeg) 1) (x.toNatClampNeg) (fW (x.toNatClampNeg))), fL, fM, fE, fR, fF, fS, fP, fY, fT, fJ, fI), (-3))) else ((0, vn, vr, vo, vl, vb, fN, fK, fW, fL, fM, fE, fR, fF, fS, fP, fY, fT, fJ, fI), (-1)))))))) else ((0, vn, vr, vo, vl, vb, fN, fK, fW, fL, fM, fE, fR, fF, fS, fP, fY, fT, fJ, fI), (-1))) else ((0, vn, vr, vo, vl, vb, fN, fK, fW, fL, fM, fE, fR, fF, fS, fP, fY, fT, fJ, fI), (-2)))
set_option maxHeartbeats 4000000 in
set_option maxRecDepth 100000 in
theorem k_M_write (l : Launch) (dC : Nat → ClassId) (dI : Nat → Nat → Nat) (k5 : Nat → ClassId) (b : Nat → Nat) (vT vn vr vo vl vb : Int32) (fN fK fW fL fM fE fR fF fS fP fY fT fJ fI : FF) (n r : Nat) (x t cn v : Int32) (hn : vn = nI n) (hn4 : 4 ≤ n) (hn8 : n ≤ 8) (er : vr = nI r) (hr2 : 12 ≤ r) (hr40 : r ≤ 40) (hWz : ∀ j, fW j = 0 ∨ fW j = 1) : Met l y_M_write w_M_write ({ frames := 3, cells := 0, slots := 0, locals := 68 }) (kx_Pc (dC, dI) clA (tyL k5) (wMd b k5 vT vn vr vo vl vb fN fK fW fL fM fE fR fF fS fP fY fT fJ fI) [.ref (b 0), .int x, .int t, .int cn, .int v]) (kx_Q (dC, dI) clA (wMd b k5 vT vn vr vo vl vb fN fK fW fL fM fE fR fF fS fP fY fT fJ fI) (wMS b k5 (m_write vT vn vr vo vl vb fN fK fW fL fM fE fR fF fS fP fY fT fJ fI n r x t cn v).1) (some (.int (m_write vT vn vr vo vl vb fN fK fW fL fM fE fR fF fS fP fY fT fJ fI n r x t cn v).2))) 0 0 (kx_A (wMd b k5 vT vn vr vo vl vb fN fK fW fL fM fE fR fF fS fP fY fT fJ fI)) := by
  refine Met.ofW (cc := c_M_write) (maxL := 7) (ret := (some .int)) (by decide) rfl ?_
  intro p e s m args below meth c s₁ B hml hv
  obtain ⟨rfl, hP, hK, hD0⟩ := hv
  have hx := B.exec
  have hb := B.bytes
  have hr := B.returns
  have hts : ∀ w ∈ wsA, w.before _ s = true := fun w h => atoms_spec (ws := w_M_write) B.pre w (List.mem_cons_of_mem _ h)
  have hown : s.vm.findClass R_M = some m.cls := findClass_of_methodNamed B.named
  have hlocks := B.notSynchronized
  have hD := kx_D.self hD0
  have hS : va_S (kx_A (wMd b k5 vT vn vr vo vl vb fN fK fW fL fM fE fR fF fS fP fY fT fJ fI)) s.heap s.heap [] := va_S.rf
  have hl := lv_entry ([.ref (b 0), .int x, .int t, .int cn, .int v]) (n := 7) (Nat.le_of_ble_eq_true rfl)
  rw [lg_entry_eq]
  generalize (lg_sl ([.ref (b 0), .int x, .int t, .int cn, .int v]) ++ List.replicate (7 - (lg_sl ([.ref (b 0), .int x, .int t, .int cn, .int v])).length) Slot.unset).toArray = ls at hl ⊢
  have hl : lv_has ls 7 [(0, .ref (b 0)), (1, .int x), (2, .int t), (3, .int cn), (4, .int v)] := hl
  refine lv_aload_n hx hb d_M_write_0 rfl (lv_at hl 0 rfl) ?_
  refine lv_iconst (v := 0) hx hb d_M_write_1 (by decide) ?_
  refine kx_put (ws' := (wMd b k5 0 vn vr vo vl vb fN fK fW fL fM fE fR fF fS fP fY fT fJ fI)) (D := (dC, dI)) (ci := 3) (v := .int 0) (ty := .int) (C := R_M) (T := T_M) (N := 20) hx hb hts wu_M ty_M ok_M nm_M hown hK hP hD hS 0 rfl rfl 0 (by decide) (hts _ wf_M_58) (fun _ h9 => h9) rfl (by decide +kernel) rfl rfl (Nat.le_of_ble_eq_true rfl) rfl d_M_write_2 (fun H locs hP hD hS => ?_)
  refine lv_aload_n hx hb d_M_write_5 rfl (lv_at hl 0 rfl) ?_
  refine va_get (D := (dC, dI)) (ci := 3) (v := .int vo) (C := R_M) (T := T_M) (N := 20) hx hb hts wu_M hown hK hP 0 rfl rfl 3 (by decide) (hts _ wf_M_68) (fun _ h9 => h9) rfl d_M_write_6 ?_
  refine lv_if_eq (tgt := 15) hx hb d_M_write_9 (by decide) (fun hc_1 => ?_) (fun hc_1 => ?_)
  · refine lv_aload_n hx hb d_M_write_15 rfl (lv_at hl 0 rfl) ?_
    refine lv_iload_n hx hb d_M_write_16 rfl (lv_at hl 1 rfl) ?_
    refine kx_VRW (As := [.int x]) (rest := []) ⟨hx, hb, hml, hown, hts⟩ (k_M_noBlock l dC dI k5 b 0 vn vr vo vl vb fN fK fW fL fM fE fR fF fS fP fY fT fJ fI x) (cwV 1 hts (goodV wm_M_131 wn_M_noBlock ws_M_noBlock wi_M wc_M_noBlock) rfl rfl rfl (by decide +kernel) ⟨Nat.le_of_ble_eq_true rfl, Nat.le_of_ble_eq_true rfl⟩) ⟨Nat.zero_le _, Nat.zero_le _⟩ hK hP hD 0 rfl rfl rfl hl.1 rfl (Nat.le_of_ble_eq_true rfl) d_M_write_17 ?_
    refine W.eq (g2 := F0 m 20 ls [.int (bI (decide (x < 0 ∨ ¬ x < ((vn - 2) * (vr - 6)))))]) rfl ?_
    refine lv_if_ne (tgt := 59) hx hb d_M_write_20 (by decide) (fun hc_2 => ?_) (fun hc_2 => ?_)
    · refine lv_iconst (v := (-1)) hx hb d_M_write_59 (by decide) ?_
      have e : m_write vT vn vr vo vl vb fN fK fW fL fM fE fR fF fS fP fY fT fJ fI n r x t cn v = ((0, vn, vr, vo, vl, vb, fN, fK, fW, fL, fM, fE, fR, fF, fS, fP, fY, fT, fJ, fI), (-1)) := by unfold m_write; rw [if_pos hc_1, if_neg hc_2]
      exact W.iret (v := (-1)) hx hb hr (fun t ht hW => kx_Qi (by rw [e]) ht hP (by rw [e]) hS rfl) hS.2.2 d_M_write_60
    · refine lv_iload_n hx hb d_M_write_23 rfl (lv_at hl 3 rfl) ?_
      refine lv_iconst (v := 1) hx hb d_M_write_24 (by decide) ?_
      refine lv_icmp_lt (tgt := 59) hx hb d_M_write_25 (by decide) (fun hc_3 => ?_) (fun hc_3 => ?_)
      · refine lv_iconst (v := (-1)) hx hb d_M_write_59 (by decide) ?_
        have e : m_write vT vn vr vo vl vb fN fK fW fL fM fE fR fF fS fP fY fT fJ fI n r x t cn v = ((0, vn, vr, vo, vl, vb, fN, fK, fW, fL, fM, fE, fR, fF, fS, fP, fY, fT, fJ, fI), (-1)) := by unfold m_write; rw [if_pos hc_1, if_pos hc_2, if_pos hc_3]
        exact W.iret (v := (-1)) hx hb hr (fun t ht hW => kx_Qi (by rw [e]) ht hP (by rw [e]) hS rfl) hS.2.2 d_M_write_60
      · refine lv_iload_n hx hb d_M_write_28 rfl (lv_at hl 3 rfl) ?_
        refine lv_bipush (v := 64) hx hb d_M_write_29 (by decide) ?_
        refine lv_icmp_gt (tgt := 59) hx hb d_M_write_31 (by decide) (fun hc_4 => ?_) (fun hc_4 => ?_)
        · refine lv_iconst (v := (-1)) hx hb d_M_write_59 (by decide) ?_
          have e : m_write vT vn vr vo vl vb fN fK fW fL fM fE fR fF fS fP fY fT fJ fI n r x t cn v = ((0, vn, vr, vo, vl, vb, fN, fK, fW, fL, fM, fE, fR, fF, fS, fP, fY, fT, fJ, fI), (-1)) := by unfold m_write; rw [if_pos hc_1, if_pos hc_2, if_neg hc_3, if_pos hc_4]
          exact W.iret (v := (-1)) hx hb hr (fun t ht hW => kx_Qi (by rw [e]) ht hP (by rw [e]) hS rfl) hS.2.2 d_M_write_60
        · refine lv_iload_n hx hb d_M_write_34 rfl (lv_at hl 2 rfl) ?_
          refine lv_if_lt (tgt := 59) hx hb d_M_write_35 (by decide) (fun hc_5 => ?_) (fun hc_5 => ?_)
          · refine lv_iconst (v := (-1)) hx hb d_M_write_59 (by decide) ?_
            have e : m_write vT vn vr vo vl vb fN fK fW fL fM fE fR fF fS fP fY fT fJ fI n r x t cn v = ((0, vn, vr, vo, vl, vb, fN, fK, fW, fL, fM, fE, fR, fF, fS, fP, fY, fT, fJ, fI), (-1)) := by unfold m_write; rw [if_pos hc_1, if_pos hc_2, if_neg hc_3, if_neg hc_4, if_pos hc_5]
            exact W.iret (v := (-1)) hx hb hr (fun t ht hW => kx_Qi (by rw [e]) ht hP (by rw [e]) hS rfl) hS.2.2 d_M_write_60
          · refine lv_iload_n hx hb d_M_write_38 rfl (lv_at hl 2 rfl) ?_
            refine lv_bipush (v := 64) hx hb d_M_write_39 (by decide) ?_
            refine lv_iload_n hx hb d_M_write_41 rfl (lv_at hl 3 rfl) ?_
            refine lv_isub hx hb d_M_write_42 ?_
            refine lv_icmp_gt (tgt := 59) hx hb d_M_write_43 (by decide) (fun hc_6 => ?_) (fun hc_6 => ?_)
            · refine lv_iconst (v := (-1)) hx hb d_M_write_59 (by decide) ?_
              have e : m_write vT vn vr vo vl vb fN fK fW fL fM fE fR fF fS fP fY fT fJ fI n r x t cn v = ((0, vn, vr, vo, vl, vb, fN, fK, fW, fL, fM, fE, fR, fF, fS, fP, fY, fT, fJ, fI), (-1)) := by unfold m_write; rw [if_pos hc_1, if_pos hc_2, if_neg hc_3, if_neg hc_4, if_neg hc_5, if_pos hc_6]
              exact W.iret (v := (-1)) hx hb hr (fun t ht hW => kx_Qi (by rw [e]) ht hP (by rw [e]) hS rfl) hS.2.2 d_M_write_60
            · refine lv_iload hx hb d_M_write_46 (lv_at hl 4 rfl) ?_
              refine lv_if_lt (tgt := 59) hx hb d_M_write_48 (by decide) (fun hc_7 => ?_) (fun hc_7 => ?_)
              · refine lv_iconst (v := (-1)) hx hb d_M_write_59 (by decide) ?_
                have e : m_write vT vn vr vo vl vb fN fK fW fL fM fE fR fF fS fP fY fT fJ fI n r x t cn v = ((0, vn, vr, vo, vl, vb, fN, fK, fW, fL, fM, fE, fR, fF, fS, fP, fY, fT, fJ, fI), (-1)) := by unfold m_write; rw [if_pos hc_1, if_pos hc_2, if_neg hc_3, if_neg hc_4, if_neg hc_5, if_neg hc_6, if_pos hc_7]
                exact W.iret (v := (-1)) hx hb hr (fun t ht hW => kx_Qi (by rw [e]) ht hP (by rw [e]) hS rfl) hS.2.2 d_M_write_60
              · refine lv_iload hx hb d_M_write_51 (lv_at hl 4 rfl) ?_
                refine lv_sipush (v := 255) hx hb d_M_write_53 (by decide) ?_
                refine lv_icmp_le (tgt := 61) hx hb d_M_write_56 (by decide) (fun hc_8 => ?_) (fun hc_8 => ?_)
                · refine lv_aload_n hx hb d_M_write_61 rfl (lv_at hl 0 rfl) ?_
                  refine va_get (D := (dC, dI)) (ci := 3) (v := .ref (b 3)) (C := R_M) (T := T_M) (N := 20) hx hb hts wu_M hown hK hP 0 rfl rfl 6 (by decide) (hts _ wf_M_16) (fun _ h9 => h9) rfl d_M_write_62 ?_
                  refine lv_iload_n hx hb d_M_write_65 rfl (lv_at hl 1 rfl) ?_
                  refine kx_zald hx hb hK hP 3 3 rfl rfl (x.toNatClampNeg) ((noD hc_2 (blk_nI hn er hn4 hr2) (by have := blk_le hn8 hr40; omega)).1) (by have := (noD hc_2 (blk_nI hn er hn4 hr2) (by have := blk_le hn8 hr40; omega)).2; have := blk_le hn8 hr40; omega) (by omega) d_M_write_66 ?_
                  refine lv_istore (lv' := [(5, .int (fW (x.toNatClampNeg))), (0, .ref (b 0)), (1, .int x), (2, .int t), (3, .int cn), (4, .int v)]) hx hb d_M_write_67 hl (by decide) rfl (fun ls hl => ?_)
                  refine lv_aload_n hx hb d_M_write_69 rfl (lv_at hl 1 rfl) ?_
                  refine va_get (D := (dC, dI)) (ci := 3) (v := .ref (b 3)) (C := R_M) (T := T_M) (N := 20) hx hb hts wu_M hown hK hP 0 rfl rfl 6 (by decide) (hts _ wf_M_16) (fun _ h9 => h9) rfl d_M_write_70 ?_
                  refine lv_iload_n hx hb d_M_write_73 rfl (lv_at hl 2 rfl) ?_
                  refine lv_iconst (v := 1) hx hb d_M_write_74 (by decide) ?_
                  refine kx_zast (ws' := (wMd b k5 0 vn vr vo vl vb fN fK (upd fW (x.toNatClampNeg) 1) fL fM fE fR fF fS fP fY fT fJ fI)) hx hb hK hP hD hS 3 3 rfl rfl (x.toNatClampNeg) ((noD hc_2 (blk_nI hn er hn4 hr2) (by have := blk_le hn8 hr40; omega)).1) (by have := (noD hc_2 (blk_nI hn er hn4 hr2) (by have := blk_le hn8 hr40; omega)).2; have := blk_le hn8 hr40; omega) (by omega) rfl rfl d_M_write_75 (fun H locs hP hD hS => ?_)
                  refine lv_aload_n hx hb d_M_write_76 rfl (lv_at hl 1 rfl) ?_
                  refine kx_VRW (As := []) (rest := []) ⟨hx, hb, hml, hown, hts⟩ (k_M_use l dC dI k5 b 0 vn vr vo vl vb fN fK (upd fW (x.toNatClampNeg) 1) fL fM fE fR fF fS fP fY fT fJ fI n hn hn4 hn8 r er hr2 hr40) (cwV 0 hts (goodV wm_M_134 wn_M_use ws_M_use wi_M wc_M_use) rfl rfl rfl (by decide +kernel) ⟨Nat.le_of_ble_eq_true rfl, Nat.le_of_ble_eq_true rfl⟩) ⟨Nat.zero_le _, Nat.zero_le _⟩ hK hP hD 0 rfl rfl rfl hl.1 rfl (Nat.le_of_ble_eq_true rfl) d_M_write_77 ?_
                  refine W.eq (g2 := F0 m 80 ls [.int (mUse (upd fW (x.toNatClampNeg) 1) n r)]) rfl ?_
                  refine lv_iconst (v := 4) hx hb d_M_write_80 (by decide) ?_
                  refine lv_aload_n hx hb d_M_write_81 rfl (lv_at hl 1 rfl) ?_
                  refine va_get (D := (dC, dI)) (ci := 3) (v := .int vn) (C := R_M) (T := T_M) (N := 20) hx hb hts wu_M hown hK hP 0 rfl rfl 1 (by decide) (hts _ wf_M_62) (fun _ h9 => h9) rfl d_M_write_82 ?_
                  refine lv_iconst (v := 2) hx hb d_M_write_85 (by decide) ?_
                  refine lv_isub hx hb d_M_write_86 ?_
                  refine lv_imul hx hb d_M_write_87 ?_
                  refine lv_icmp_le (tgt := 102) hx hb d_M_write_88 (by decide) (fun hc_9 => ?_) (fun hc_9 => ?_)
                  · refine lv_iconst (v := 0) hx hb d_M_write_102 (by decide) ?_
                    refine lv_istore (lv' := [(6, .int 0), (5, .int (fW (x.toNatClampNeg))), (0, .ref (b 0)), (1, .int x), (2, .int t), (3, .int cn), (4, .int v)]) hx hb d_M_write_103 hl (by decide) rfl (fun ls hl => ?_)
                    have w9 := wr9 hc_3 hc_4 hc_5 hc_6
                    have lp105 : ∀ (q9 i : Nat) (H : Heap) (locs : List Loc) (ls : Array Slot), i + q9 = (cn.toNatClampNeg) → va_P (dC, dI) clA (wMd b k5 0 vn vr vo vl vb (fillF fN (vp_nar .byte v.toInt8.toInt32) (64 * (x.toNatClampNeg) + (t.toNatClampNeg)) i) fK (upd fW (x.toNatClampNeg) 1) fL fM fE fR fF fS fP fY fT fJ fI) H → va_D (kx_A (wMd b k5 vT vn vr vo vl vb fN fK fW fL fM fE fR fF fS fP fY fT fJ fI)) (wMd b k5 0 vn vr vo vl vb (fillF fN (vp_nar .byte v.toInt8.toInt32) (64 * (x.toNatClampNeg) + (t.toNatClampNeg)) i) fK (upd fW (x.toNatClampNeg) 1) fL fM fE fR fF fS fP fY fT fJ fI) → va_S (kx_A (wMd b k5 vT vn vr vo vl vb fN fK fW fL fM fE fR fF fS fP fY fT fJ fI)) s.heap H locs → lv_has ls 7 [(6, .int (nI i)), (5, .int (fW (x.toNatClampNeg))), (0, .ref (b 0)), (1, .int x), (2, .int t), (3, .int cn), (4, .int v)] → W p l e (headSpec w_M_write ({ frames := 3, cells := 0, slots := 0, locals := 68 })).room s m ([.ref (b 0), .int x, .int t, .int cn, .int v] : List Value).toArray below meth c H locs 0 0 (MQ below (kx_Q (dC, dI) clA (wMd b k5 vT vn vr vo vl vb fN fK fW fL fM fE fR fF fS fP fY fT fJ fI) (wMS b k5 (m_write vT vn vr vo vl vb fN fK fW fL fM fE fR fF fS fP fY fT fJ fI n r x t cn v).1) (some (.int (m_write vT vn vr vo vl vb fN fK fW fL fM fE fR fF fS fP fY fT fJ fI n r x t cn v).2))) ([.ref (b 0), .int x, .int t, .int cn, .int v] : List Value).toArray s 0 0 (kx_A (wMd b k5 vT vn vr vo vl vb fN fK fW fL fM fE fR fF fS fP fY fT fJ fI))) (F0 m 105 ls []) := by
                      intro q9
                      induction q9 with
                      | zero =>
                        intro i H locs ls hi hP hD hS hl
                        have hi : (cn.toNatClampNeg) = i := by omega
                        subst hi
                        refine lv_iload hx hb d_M_write_105 (lv_at hl 0 rfl) ?_
                        refine lv_iload_n hx hb d_M_write_107 rfl (lv_at hl 5 rfl) ?_
                        refine lv_icmp_ge (tgt := 134) hx hb d_M_write_108 (by decide) (fun hc => ?_) (fun hc => ?_)
                        · have w9 := w9
                          refine lv_aload_n hx hb d_M_write_134 rfl (lv_at hl 2 rfl) ?_
                          refine kx_VRW (As := []) (rest := []) ⟨hx, hb, hml, hown, hts⟩ (k_M_use l dC dI k5 b 0 vn vr vo vl vb (fillF fN (vp_nar .byte v.toInt8.toInt32) (64 * (x.toNatClampNeg) + (t.toNatClampNeg)) (cn.toNatClampNeg)) fK (upd fW (x.toNatClampNeg) 1) fL fM fE fR fF fS fP fY fT fJ fI n hn hn4 hn8 r er hr2 hr40) (cwV 0 hts (goodV wm_M_134 wn_M_use ws_M_use wi_M wc_M_use) rfl rfl rfl (by decide +kernel) ⟨Nat.le_of_ble_eq_true rfl, Nat.le_of_ble_eq_true rfl⟩) ⟨Nat.zero_le _, Nat.zero_le _⟩ hK hP hD 0 rfl rfl rfl hl.1 rfl (Nat.le_of_ble_eq_true rfl) d_M_write_135 ?_
                          refine W.eq (g2 := F0 m 138 ls [.int (mUse (upd fW (x.toNatClampNeg) 1) n r)]) rfl ?_
                          have e : m_write vT vn vr vo vl vb fN fK fW fL fM fE fR fF fS fP fY fT fJ fI n r x t cn v = ((0, vn, vr, vo, vl, vb, (fillF fN (vp_nar .byte v.toInt8.toInt32) (64 * (x.toNatClampNeg) + (t.toNatClampNeg)) (cn.toNatClampNeg)), fK, (upd fW (x.toNatClampNeg) 1), fL, fM, fE, fR, fF, fS, fP, fY, fT, fJ, fI), (mUse (upd fW (x.toNatClampNeg) 1) n r)) := by unfold m_write; rw [if_pos hc_1, if_pos hc_2, if_neg hc_3, if_neg hc_4, if_neg hc_5, if_neg hc_6, if_neg hc_7, if_pos hc_8, if_pos hc_9]
                          exact W.iret (v := (mUse (upd fW (x.toNatClampNeg) 1) n r)) hx hb hr (fun t ht hW => kx_Qi (by rw [e]) ht hP (by rw [e]) hS rfl) hS.2.2 d_M_write_138
                        · exact absurd (Int32.le_iff_toInt_le.mpr (Int.le_of_eq (congrArg Int32.toInt w9.2.1))) hc
                      | succ q9 ih =>
                        intro i H locs ls hi hP hD hS hl
                        refine lv_iload hx hb d_M_write_105 (lv_at hl 0 rfl) ?_
                        refine lv_iload_n hx hb d_M_write_107 rfl (lv_at hl 5 rfl) ?_
                        refine lv_icmp_ge (tgt := 134) hx hb d_M_write_108 (by decide) (fun hc => ?_) (fun hc => ?_)
                        · exact absurd hc (by rw [show cn = nI (cn.toNatClampNeg) from w9.2.1]; exact nI_ge (by omega) (by have := w9.2.2.2; omega))
                        · refine lv_aload_n hx hb d_M_write_111 rfl (lv_at hl 2 rfl) ?_
                          refine va_get (D := (dC, dI)) (ci := 3) (v := .ref (b 1)) (C := R_M) (T := T_M) (N := 20) hx hb hts wu_M hown hK hP 0 rfl rfl 4 (by decide) (hts _ wf_M_7) (fun _ h9 => h9) rfl d_M_write_112 ?_
                          refine lv_bipush (v := 64) hx hb d_M_write_115 (by decide) ?_
                          refine lv_iload_n hx hb d_M_write_117 rfl (lv_at hl 3 rfl) ?_
                          refine lv_imul hx hb d_M_write_118 ?_
                          refine lv_iload_n hx hb d_M_write_119 rfl (lv_at hl 4 rfl) ?_
                          refine lv_iadd hx hb d_M_write_120 ?_
                          refine lv_iload hx hb d_M_write_121 (lv_at hl 0 rfl) ?_
                          refine lv_iadd hx hb d_M_write_123 ?_
                          refine lv_iload hx hb d_M_write_124 (lv_at hl 6 rfl) ?_
                          refine lv_i2b (v := v.toInt8.toInt32) hx hb d_M_write_126 rfl ?_
                          refine kx_bast (ws' := (wMd b k5 0 vn vr vo vl vb (fillF fN (vp_nar .byte v.toInt8.toInt32) (64 * (x.toNatClampNeg) + (t.toNatClampNeg)) (i + 1)) fK (upd fW (x.toNatClampNeg) 1) fL fM fE fR fF fS fP fY fT fJ fI)) hx hb hK hP hD hS 1 2 rfl rfl (64 * (x.toNatClampNeg) + (t.toNatClampNeg) + i) (by rw [i64 (noD hc_2 (blk_nI hn er hn4 hr2) (by have := blk_le hn8 hr40; omega)).1 w9.1]; exact nI_add _ _) (by have := (noD hc_2 (blk_nI hn er hn4 hr2) (by have := blk_le hn8 hr40; omega)).2; have := blk_le hn8 hr40; have := w9.2.2.2; omega) (by omega) rfl d_M_write_127 (fun H locs hP hD hS => ?_)
                          refine lv_iinc (v := nI (i + 1)) (lv' := [(6, .int (nI (i + 1))), (5, .int (fW (x.toNatClampNeg))), (0, .ref (b 0)), (1, .int x), (2, .int t), (3, .int cn), (4, .int v)]) hx hb d_M_write_128 hl (k := 0) rfl (nI_1 i) (by decide) rfl (fun ls hl => ?_)
                          refine lv_goto (tgt := 105) hx hb d_M_write_131 (by decide) ?_
                          exact ih (i + 1) H locs ls (by omega) hP hD hS (lv_sub hl [0, 1, 2, 3, 4, 5, 6] rfl)
                    exact lp105 (cn.toNatClampNeg) 0 H locs ls (by omega) hP hD hS (lv_sub hl [0, 1, 2, 3, 4, 5, 6] rfl)
                  · refine lv_aload_n hx hb d_M_write_91 rfl (lv_at hl 1 rfl) ?_
                    refine va_get (D := (dC, dI)) (ci := 3) (v := .ref (b 3)) (C := R_M) (T := T_M) (N := 20) hx hb hts wu_M hown hK hP 0 rfl rfl 6 (by decide) (hts _ wf_M_16) (fun _ h9 => h9) rfl d_M_write_92 ?_
                    refine lv_iload_n hx hb d_M_write_95 rfl (lv_at hl 2 rfl) ?_
                    refine lv_iload hx hb d_M_write_96 (lv_at hl 0 rfl) ?_
                    refine kx_zast (ws' := (wMd b k5 0 vn vr vo vl vb fN fK (upd (upd fW (x.toNatClampNeg) 1) (x.toNatClampNeg) (fW (x.toNatClampNeg))) fL fM fE fR fF fS fP fY fT fJ fI)) hx hb hK hP hD hS 3 3 rfl rfl (x.toNatClampNeg) ((noD hc_2 (blk_nI hn er hn4 hr2) (by have := blk_le hn8 hr40; omega)).1) (by have := (noD hc_2 (blk_nI hn er hn4 hr2) (by have := blk_le hn8 hr40; omega)).2; have := blk_le hn8 hr40; omega) (by omega) (narZ (hWz _)) rfl d_M_write_98 (fun H locs hP hD hS => ?_)
                    refine lv_bipush (v := (-3)) hx hb d_M_write_99 (by decide) ?_
                    have e : m_write vT vn vr vo vl vb fN fK fW fL fM fE fR fF fS fP fY fT fJ fI n r x t cn v = ((0, vn, vr, vo, vl, vb, fN, fK, (upd (upd fW (x.toNatClampNeg) 1) (x.toNatClampNeg) (fW (x.toNatClampNeg))), fL, fM, fE, fR, fF, fS, fP, fY, fT, fJ, fI), (-3)) := by unfold m_write; rw [if_pos hc_1, if_pos hc_2, if_neg hc_3, if_neg hc_4, if_neg hc_5, if_neg hc_6, if_neg hc_7, if_pos hc_8, if_neg hc_9]
                    exact W.iret (v := (-3)) hx hb hr (fun t ht hW => kx_Qi (by rw [e]) ht hP (by rw [e]) hS rfl) hS.2.2 d_M_write_101
                · refine lv_iconst (v := (-1)) hx hb d_M_write_59 (by decide) ?_
                  have e : m_write vT vn vr vo vl vb fN fK fW fL fM fE fR fF fS fP fY fT fJ fI n r x t cn v = ((0, vn, vr, vo, vl, vb, fN, fK, fW, fL, fM, fE, fR, fF, fS, fP, fY, fT, fJ, fI), (-1)) := by unfold m_write; rw [if_pos hc_1, if_pos hc_2, if_neg hc_3, if_neg hc_4, if_neg hc_5, if_neg hc_6, if_neg hc_7, if_neg hc_8]
                  exact W.iret (v := (-1)) hx hb hr (fun t ht hW => kx_Qi (by rw [e]) ht hP (by rw [e]) hS rfl) hS.2.2 d_M_write_60
  · refine lv_bipush (v := (-2)) hx hb d_M_write_12 (by decide) ?_
    have e : m_write vT vn vr vo vl vb fN fK fW fL fM fE fR fF fS fP fY fT fJ fI n r x t cn v = ((0, vn, vr, vo, vl, vb, fN, fK, fW, fL, fM, fE, fR, fF, fS, fP, fY, fT, fJ, fI), (-2)) := by unfold m_write; rw [if_neg hc_1]
    exact W.iret (v := (-2)) hx hb hr (fun t ht hW => kx_Qi (by rw [e]) ht hP (by rw [e]) hS rfl) hS.2.2 d_M_write_14
def m_commit (vT vn vr vo vl vb : Int32) (fN fK fW fL fM fE fR fF fS fP fY fT fJ fI : FF) (n r bs la p9 : Nat) (z : Int32) (bits : Int64) : MT × Int32 := (if vo = 0 then (if z < 0 then ((0, vn, vr, vo, vl, vb, fN, fK, fW, fL, fM, fE, fR, fF, fS, fP, fY, fT, fJ, fI), (-1)) else (if z ≤ 4 then (if (mUse fW n r) = 0 then ((0, vn, vr, vo, vl, vb, fN, fK, fW, fL, fM, fE, fR, fF, fS, fP, fY, fT, fJ, fI), 0) else (if z = 1 then ((0, vn, vr, 1, vl, vb, fN, fK, (fill0 fW 0 204), fL, fM, fE, fR, fF, fS, fP, fY, fT, fJ, fI), (-2)) else (if z = 2 then ((0, vn, vr, 1, (vl + 1), vb, fN, fK, (fill0 fW 0 204), fL, fM, fE, fR, (mSp fL (la + 1) p9 0 1 bits fF fS n).1, (mSp fL (la + 1) p9 0 1 bits fF fS n).2.1, (upd fP (la + 1) (1 - fP bs)), (upd fY (la + 1) 1), (mTell fM (la + 1) fT 8), (mAll fN fJ ((n - 2) * (r - 6))), (mSame fW fI ((n - 2) * (r - 6)))), (-2)) else (if z = 3 then ((0, vn, vr, 1, (vl + 1), (vl + 1), fN, fK, (fill0 fW 0 204), fL, fM, fE, fR, (mSp fL (la + 1) p9 0 0 0 fF fS n).1, (mSp fL (la + 1) p9 0 0 0 fF fS n).2.1, (upd fP (la + 1) (1 - fP bs)), (upd fY (la + 1) 1), (mTell fM (la + 1) fT 8), (mAll fN fJ ((n - 2) * (r - 6))), (mSame fW fI ((n - 2) * (r - 6)))), (-2)) else (if z = 4 then ((0, vn, vr, 1, ((vl + 1) + 1), (vl + 1), fN, (mPlace (mSame fW fI ((n - 2) * (r - 6))) (mAll fN fJ ((n - 2) * (r - 6))) fK ((n - 2) * (r - 6))), (fill0 fW 0 204), fL, fM, fE, fR, (mSp fL ((la + 1) + 1) (1 - p9) 0 1 bits ((mSp fL (la + 1) p9 0 0 0 fF fS n).1) ((mSp fL (la + 1) p9 0 0 0 fF fS n).2.1) n).1, (mSp fL ((la + 1) + 1) (1 - p9) 0 1 bits ((mSp fL (la + 1) p9 0 0 0 fF fS n).1) ((mSp fL (la + 1) p9 0 0 0 fF fS n).2.1) n).2.1, (upd (upd fP (la + 1) (1 - fP bs)) ((la + 1) + 1) (1 - (upd fP (la + 1) (1 - fP bs)) (la + 1))), (upd (upd fY (la + 1) 1) ((la + 1) + 1) 0), (mTell fM ((la + 1) + 1) (mTell fM (la + 1) fT 8) 8), (mAll fN fJ ((n - 2) * (r - 6))), (mSame fW fI ((n - 2) * (r - 6)))), (-2)) else ((0, vn, vr, vo, ((vl + 1) + 1), ((vl + 1) + 1), fN, (mPlace (mSame fW fI ((n - 2) * (r - 6))) (mAll fN fJ ((n - 2) * (r - 6))) fK ((n - 2) * (r - 6))), (fill0 fW 0 ((n - 2) * (r - 6))), fL, fM, fE, fR, (mSp fL ((la + 1) + 1) (1 - p9) 0 0 0 ((mSp fL (la + 1) p9 0 0 0 fF fS n).1) ((mSp fL (la + 1) p9 0 0 0 fF fS n).2.1) n).1, (mSp fL ((la + 1) + 1) (1 - p9) 0 0 0 ((mSp fL (la + 1) p9 0 0 0 fF fS n).1) ((mSp fL (la + 1) p9 0 0 0 fF fS n).2.1) n).2.1, (upd (upd fP (la + 1) (1 - fP bs)) ((la + 1) + 1) (1 - (upd fP (la + 1) (1 - fP bs)) (la + 1))), (upd (upd fY (la + 1) 1) ((la + 1) + 1) 0), (mTell fM ((la + 1) + 1) (mTell fM (la + 1) fT 8) 8), (mAll fN fJ ((n - 2) * (r - 6))), (mSame fW fI ((n - 2) * (r - 6)))), (mUse fW n r))))))) else ((0, vn, vr, vo, vl, vb, fN, fK, fW, fL, fM, fE, fR, fF, fS, fP, fY, fT, fJ, fI), (-1)))) else ((0, vn, vr, vo, vl, vb, fN, fK, fW, fL, fM, fE, fR, fF, fS, fP, fY, fT, fJ, fI), (-2)))
set_option maxHeartbeats 4000000 in
set_option maxRecDepth 100000 in
theorem k_M_commit (l : Launch) (dC : Nat → ClassId) (dI : Nat → Nat → Nat) (k5 : Nat → ClassId) (b : Nat → Nat) (vT vn vr vo vl vb : Int32) (fN fK fW fL fM fE fR fF fS fP fY fT fJ fI : FF) (n r bs la p9 : Nat) (z : Int32) (bits : Int64) (hn : vn = nI n) (hn4 : 4 ≤ n) (hn8 : n ≤ 8) (er : vr = nI r) (hr2 : 12 ≤ r) (hr40 : r ≤ 40) (hvb : vb = nI bs) (hvl : vl = nI la) (hbs : bs < 1300) (hla : la + 3 < 1300) (hp9 : p9 = 0 ∨ p9 = 1) (hrow : 1 - fP bs = nI p9) (hWz : ∀ j, fW j = 0 ∨ fW j = 1) : Met l y_M_commit w_M_commit ({ frames := 3, cells := 0, slots := 0, locals := 75 }) (kx_Pc (dC, dI) clA (tyL k5) (wMd b k5 vT vn vr vo vl vb fN fK fW fL fM fE fR fF fS fP fY fT fJ fI) [.ref (b 0), .int z, .long bits]) (kx_Q (dC, dI) clA (wMd b k5 vT vn vr vo vl vb fN fK fW fL fM fE fR fF fS fP fY fT fJ fI) (wMS b k5 (m_commit vT vn vr vo vl vb fN fK fW fL fM fE fR fF fS fP fY fT fJ fI n r bs la p9 z bits).1) (some (.int (m_commit vT vn vr vo vl vb fN fK fW fL fM fE fR fF fS fP fY fT fJ fI n r bs la p9 z bits).2))) 0 0 (kx_A (wMd b k5 vT vn vr vo vl vb fN fK fW fL fM fE fR fF fS fP fY fT fJ fI)) := by
  refine Met.ofW (cc := c_M_commit) (maxL := 6) (ret := (some .int)) (by decide) rfl ?_
  intro p e s m args below meth c s₁ B hml hv
  obtain ⟨rfl, hP, hK, hD0⟩ := hv
  have hx := B.exec
  have hb := B.bytes
  have hr := B.returns
  have hts : ∀ w ∈ wsA, w.before _ s = true := fun w h => atoms_spec (ws := w_M_commit) B.pre w (List.mem_cons_of_mem _ h)
  have hown : s.vm.findClass R_M = some m.cls := findClass_of_methodNamed B.named
  have hlocks := B.notSynchronized
  have hD := kx_D.self hD0
  have hS : va_S (kx_A (wMd b k5 vT vn vr vo vl vb fN fK fW fL fM fE fR fF fS fP fY fT fJ fI)) s.heap s.heap [] := va_S.rf
  have hl := lv_entry ([.ref (b 0), .int z, .long bits]) (n := 6) (Nat.le_of_ble_eq_true rfl)
  rw [lg_entry_eq]
  generalize (lg_sl ([.ref (b 0), .int z, .long bits]) ++ List.replicate (6 - (lg_sl ([.ref (b 0), .int z, .long bits])).length) Slot.unset).toArray = ls at hl ⊢
  have hl : lv_has ls 6 [(0, .ref (b 0)), (1, .int z), (2, .long bits)] := hl
  refine lv_aload_n hx hb d_M_commit_0 rfl (lv_at hl 0 rfl) ?_
  refine lv_iconst (v := 0) hx hb d_M_commit_1 (by decide) ?_
  refine kx_put (ws' := (wMd b k5 0 vn vr vo vl vb fN fK fW fL fM fE fR fF fS fP fY fT fJ fI)) (D := (dC, dI)) (ci := 3) (v := .int 0) (ty := .int) (C := R_M) (T := T_M) (N := 20) hx hb hts wu_M ty_M ok_M nm_M hown hK hP hD hS 0 rfl rfl 0 (by decide) (hts _ wf_M_58) (fun _ h9 => h9) rfl (by decide +kernel) rfl rfl (Nat.le_of_ble_eq_true rfl) rfl d_M_commit_2 (fun H locs hP hD hS => ?_)
  refine lv_aload_n hx hb d_M_commit_5 rfl (lv_at hl 0 rfl) ?_
  refine va_get (D := (dC, dI)) (ci := 3) (v := .int vo) (C := R_M) (T := T_M) (N := 20) hx hb hts wu_M hown hK hP 0 rfl rfl 3 (by decide) (hts _ wf_M_68) (fun _ h9 => h9) rfl d_M_commit_6 ?_
  refine lv_if_eq (tgt := 15) hx hb d_M_commit_9 (by decide) (fun hc_1 => ?_) (fun hc_1 => ?_)
  · refine lv_iload_n hx hb d_M_commit_15 rfl (lv_at hl 1 rfl) ?_
    refine lv_if_lt (tgt := 24) hx hb d_M_commit_16 (by decide) (fun hc_2 => ?_) (fun hc_2 => ?_)
    · refine lv_iconst (v := (-1)) hx hb d_M_commit_24 (by decide) ?_
      have e : m_commit vT vn vr vo vl vb fN fK fW fL fM fE fR fF fS fP fY fT fJ fI n r bs la p9 z bits = ((0, vn, vr, vo, vl, vb, fN, fK, fW, fL, fM, fE, fR, fF, fS, fP, fY, fT, fJ, fI), (-1)) := by unfold m_commit; rw [if_pos hc_1, if_pos hc_2]
      exact W.iret (v := (-1)) hx hb hr (fun t ht hW => kx_Qi (by rw [e]) ht hP (by rw [e]) hS rfl) hS.2.2 d_M_commit_25
    · refine lv_iload_n hx hb d_M_commit_19 rfl (lv_at hl 1 rfl) ?_
      refine lv_iconst (v := 4) hx hb d_M_commit_20 (by decide) ?_
      refine lv_icmp_le (tgt := 26) hx hb d_M_commit_21 (by decide) (fun hc_3 => ?_) (fun hc_3 => ?_)
      · refine lv_aload_n hx hb d_M_commit_26 rfl (lv_at hl 0 rfl) ?_
        refine kx_VRW (As := []) (rest := []) ⟨hx, hb, hml, hown, hts⟩ (k_M_use l dC dI k5 b 0 vn vr vo vl vb fN fK fW fL fM fE fR fF fS fP fY fT fJ fI n hn hn4 hn8 r er hr2 hr40) (cwV 0 hts (goodV wm_M_134 wn_M_use ws_M_use wi_M wc_M_use) rfl rfl rfl (by decide +kernel) ⟨Nat.le_of_ble_eq_true rfl, Nat.le_of_ble_eq_true rfl⟩) ⟨Nat.zero_le _, Nat.zero_le _⟩ hK hP hD 0 rfl rfl rfl hl.1 rfl (Nat.le_of_ble_eq_true rfl) d_M_commit_27 ?_
        refine W.eq (g2 := F0 m 30 ls [.int (mUse fW n r)]) rfl ?_
        refine lv_istore (lv' := [(4, .int (mUse fW n r)), (0, .ref (b 0)), (1, .int z), (2, .long bits)]) hx hb d_M_commit_30 hl (by decide) rfl (fun ls hl => ?_)
        refine lv_iload hx hb d_M_commit_32 (lv_at hl 0 rfl) ?_
        refine lv_if_ne (tgt := 39) hx hb d_M_commit_34 (by decide) (fun hc_4 => ?_) (fun hc_4 => ?_)
        · refine lv_iload_n hx hb d_M_commit_39 rfl (lv_at hl 2 rfl) ?_
          refine lv_iconst (v := 1) hx hb d_M_commit_40 (by decide) ?_
          refine lv_icmp_ne (tgt := 49) hx hb d_M_commit_41 (by decide) (fun hc_5 => ?_) (fun hc_5 => ?_)
          · refine lv_iconst (v := 0) hx hb d_M_commit_49 (by decide) ?_
            refine lv_istore (lv' := [(5, .int 0), (4, .int (mUse fW n r)), (0, .ref (b 0)), (1, .int z), (2, .long bits)]) hx hb d_M_commit_50 hl (by decide) rfl (fun ls hl => ?_)
            have lp52 : ∀ (q9 i : Nat) (H : Heap) (locs : List Loc) (ls : Array Slot), i + q9 = ((n - 2) * (r - 6)) → va_P (dC, dI) clA (wMd b k5 0 vn vr vo vl vb fN fK fW fL fM fE fR fF fS fP fY fT (mAll fN fJ i) (mSame fW fI i)) H → va_D (kx_A (wMd b k5 vT vn vr vo vl vb fN fK fW fL fM fE fR fF fS fP fY fT fJ fI)) (wMd b k5 0 vn vr vo vl vb fN fK fW fL fM fE fR fF fS fP fY fT (mAll fN fJ i) (mSame fW fI i)) → va_S (kx_A (wMd b k5 vT vn vr vo vl vb fN fK fW fL fM fE fR fF fS fP fY fT fJ fI)) s.heap H locs → lv_has ls 6 [(5, .int (nI i)), (4, .int (mUse fW n r)), (0, .ref (b 0)), (1, .int z), (2, .long bits)] → W p l e (headSpec w_M_commit ({ frames := 3, cells := 0, slots := 0, locals := 75 })).room s m ([.ref (b 0), .int z, .long bits] : List Value).toArray below meth c H locs 0 0 (MQ below (kx_Q (dC, dI) clA (wMd b k5 vT vn vr vo vl vb fN fK fW fL fM fE fR fF fS fP fY fT fJ fI) (wMS b k5 (m_commit vT vn vr vo vl vb fN fK fW fL fM fE fR fF fS fP fY fT fJ fI n r bs la p9 z bits).1) (some (.int (m_commit vT vn vr vo vl vb fN fK fW fL fM fE fR fF fS fP fY fT fJ fI n r bs la p9 z bits).2))) ([.ref (b 0), .int z, .long bits] : List Value).toArray s 0 0 (kx_A (wMd b k5 vT vn vr vo vl vb fN fK fW fL fM fE fR fF fS fP fY fT fJ fI))) (F0 m 52 ls []) := by
              intro q9
              induction q9 with
              | zero =>
                intro i H locs ls hi hP hD hS hl
                have hi : ((n - 2) * (r - 6)) = i := by omega
                subst hi
                refine lv_iload hx hb d_M_commit_52 (lv_at hl 0 rfl) ?_
                refine lv_aload_n hx hb d_M_commit_54 rfl (lv_at hl 2 rfl) ?_
                refine kx_VRW (As := []) (rest := [.int (nI ((n - 2) * (r - 6)))]) ⟨hx, hb, hml, hown, hts⟩ (k_M_blocks l dC dI k5 b 0 vn vr vo vl vb fN fK fW fL fM fE fR fF fS fP fY fT (mAll fN fJ ((n - 2) * (r - 6))) (mSame fW fI ((n - 2) * (r - 6))) ) (cwV 0 hts (goodV wm_M_86 wn_M_blocks ws_M_blocks wi_M wc_M_blocks) rfl rfl rfl (by decide +kernel) ⟨Nat.le_of_ble_eq_true rfl, Nat.le_of_ble_eq_true rfl⟩) ⟨Nat.zero_le _, Nat.zero_le _⟩ hK hP hD 0 rfl rfl rfl hl.1 rfl (Nat.le_of_ble_eq_true rfl) d_M_commit_55 ?_
                refine W.eq (g2 := F0 m 58 ls [.int ((vn - 2) * (vr - 6)), .int (nI ((n - 2) * (r - 6)))]) rfl ?_
                refine lv_icmp_ge (tgt := 95) hx hb d_M_commit_58 (by decide) (fun hc => ?_) (fun hc => ?_)
                · refine lv_iload_n hx hb d_M_commit_95 rfl (lv_at hl 3 rfl) ?_
                  refine lv_iconst (v := 2) hx hb d_M_commit_96 (by decide) ?_
                  refine lv_icmp_ne (tgt := 107) hx hb d_M_commit_97 (by decide) (fun hc_6 => ?_) (fun hc_6 => ?_)
                  · refine lv_aload_n hx hb d_M_commit_107 rfl (lv_at hl 2 rfl) ?_
                    refine lv_iconst (v := 1) hx hb d_M_commit_108 (by decide) ?_
                    refine kx_VW (w1 := (wMd b k5 0 vn vr vo (vl + 1) (vl + 1) fN fK fW fL fM fE fR ((mSp fL (la + 1) p9 0 0 0 fF fS n).1) ((mSp fL (la + 1) p9 0 0 0 fF fS n).2.1) (upd fP (la + 1) (1 - fP bs)) (upd fY (la + 1) 1) (mTell fM (la + 1) fT 8) (mAll fN fJ ((n - 2) * (r - 6))) (mSame fW fI ((n - 2) * (r - 6))))) (As := [.int 1]) (rest := []) ⟨hx, hb, hml, hown, hts⟩ (k_M_label l dC dI k5 b 0 vn vr vo vl vb fN fK fW fL fM fE fR fF fS fP fY fT (mAll fN fJ ((n - 2) * (r - 6))) (mSame fW fI ((n - 2) * (r - 6))) 1 rfl bs la hvb hvl hbs (by omega) p9 hp9 hrow n hn hn4 hn8) (cwV 1 hts (goodV wm_M_82 wn_M_label ws_M_label wi_M wc_M_label) rfl rfl rfl (by decide +kernel) ⟨Nat.le_of_ble_eq_true rfl, Nat.le_of_ble_eq_true rfl⟩) ⟨Nat.zero_le _, Nat.zero_le _⟩ hK hP hD hS 0 rfl rfl rfl rfl hl.1 rfl (Nat.le_of_ble_eq_true rfl) d_M_commit_109 (fun H locs hP hD hS => ?_)
                    refine W.eq (g2 := F0 m 112 ls []) rfl ?_
                    refine lv_iload_n hx hb d_M_commit_112 rfl (lv_at hl 3 rfl) ?_
                    refine lv_iconst (v := 3) hx hb d_M_commit_113 (by decide) ?_
                    refine lv_icmp_ne (tgt := 122) hx hb d_M_commit_114 (by decide) (fun hc_7 => ?_) (fun hc_7 => ?_)
                    · refine lv_aload_n hx hb d_M_commit_122 rfl (lv_at hl 2 rfl) ?_
                      refine kx_VW (w1 := (wMd b k5 0 vn vr vo (vl + 1) (vl + 1) fN (mPlace (mSame fW fI ((n - 2) * (r - 6))) (mAll fN fJ ((n - 2) * (r - 6))) fK ((n - 2) * (r - 6))) fW fL fM fE fR ((mSp fL (la + 1) p9 0 0 0 fF fS n).1) ((mSp fL (la + 1) p9 0 0 0 fF fS n).2.1) (upd fP (la + 1) (1 - fP bs)) (upd fY (la + 1) 1) (mTell fM (la + 1) fT 8) (mAll fN fJ ((n - 2) * (r - 6))) (mSame fW fI ((n - 2) * (r - 6))))) (As := []) (rest := []) ⟨hx, hb, hml, hown, hts⟩ (k_M_place l dC dI k5 b 0 vn vr vo (vl + 1) (vl + 1) fN fK fW fL fM fE fR ((mSp fL (la + 1) p9 0 0 0 fF fS n).1) ((mSp fL (la + 1) p9 0 0 0 fF fS n).2.1) (upd fP (la + 1) (1 - fP bs)) (upd fY (la + 1) 1) (mTell fM (la + 1) fT 8) (mAll fN fJ ((n - 2) * (r - 6))) (mSame fW fI ((n - 2) * (r - 6))) n hn hn4 hn8 r er hr2 hr40) (cwV 0 hts (goodV wm_M_145 wn_M_place ws_M_place wi_M wc_M_place) rfl rfl rfl (by decide +kernel) ⟨Nat.le_of_ble_eq_true rfl, Nat.le_of_ble_eq_true rfl⟩) ⟨Nat.zero_le _, Nat.zero_le _⟩ hK hP hD hS 0 rfl rfl rfl rfl hl.1 rfl (Nat.le_of_ble_eq_true rfl) d_M_commit_123 (fun H locs hP hD hS => ?_)
                      refine W.eq (g2 := F0 m 126 ls []) rfl ?_
                      refine lv_iload_n hx hb d_M_commit_126 rfl (lv_at hl 3 rfl) ?_
                      refine lv_iconst (v := 4) hx hb d_M_commit_127 (by decide) ?_
                      refine lv_icmp_ne (tgt := 138) hx hb d_M_commit_128 (by decide) (fun hc_8 => ?_) (fun hc_8 => ?_)
                      · refine lv_aload_n hx hb d_M_commit_138 rfl (lv_at hl 2 rfl) ?_
                        refine lv_iconst (v := 0) hx hb d_M_commit_139 (by decide) ?_
                        refine kx_VW (w1 := (wMd b k5 0 vn vr vo ((vl + 1) + 1) ((vl + 1) + 1) fN (mPlace (mSame fW fI ((n - 2) * (r - 6))) (mAll fN fJ ((n - 2) * (r - 6))) fK ((n - 2) * (r - 6))) fW fL fM fE fR ((mSp fL ((la + 1) + 1) (1 - p9) 0 0 0 ((mSp fL (la + 1) p9 0 0 0 fF fS n).1) ((mSp fL (la + 1) p9 0 0 0 fF fS n).2.1) n).1) ((mSp fL ((la + 1) + 1) (1 - p9) 0 0 0 ((mSp fL (la + 1) p9 0 0 0 fF fS n).1) ((mSp fL (la + 1) p9 0 0 0 fF fS n).2.1) n).2.1) (upd (upd fP (la + 1) (1 - fP bs)) ((la + 1) + 1) (1 - (upd fP (la + 1) (1 - fP bs)) (la + 1))) (upd (upd fY (la + 1) 1) ((la + 1) + 1) 0) (mTell fM ((la + 1) + 1) (mTell fM (la + 1) fT 8) 8) (mAll fN fJ ((n - 2) * (r - 6))) (mSame fW fI ((n - 2) * (r - 6))))) (As := [.int 0]) (rest := []) ⟨hx, hb, hml, hown, hts⟩ (k_M_label l dC dI k5 b 0 vn vr vo (vl + 1) (vl + 1) fN (mPlace (mSame fW fI ((n - 2) * (r - 6))) (mAll fN fJ ((n - 2) * (r - 6))) fK ((n - 2) * (r - 6))) fW fL fM fE fR ((mSp fL (la + 1) p9 0 0 0 fF fS n).1) ((mSp fL (la + 1) p9 0 0 0 fF fS n).2.1) (upd fP (la + 1) (1 - fP bs)) (upd fY (la + 1) 1) (mTell fM (la + 1) fT 8) (mAll fN fJ ((n - 2) * (r - 6))) (mSame fW fI ((n - 2) * (r - 6))) 0 rfl (la + 1) (la + 1) (by rw [hvl]; exact nI_1 la) (by rw [hvl]; exact nI_1 la) (by omega) (by omega) (1 - p9) (flipO hp9) (by rw [pk_us, hrow]; exact flipW hp9) n hn hn4 hn8) (cwV 1 hts (goodV wm_M_82 wn_M_label ws_M_label wi_M wc_M_label) rfl rfl rfl (by decide +kernel) ⟨Nat.le_of_ble_eq_true rfl, Nat.le_of_ble_eq_true rfl⟩) ⟨Nat.zero_le _, Nat.zero_le _⟩ hK hP hD hS 0 rfl rfl rfl rfl hl.1 rfl (Nat.le_of_ble_eq_true rfl) d_M_commit_140 (fun H locs hP hD hS => ?_)
                        refine W.eq (g2 := F0 m 143 ls []) rfl ?_
                        refine lv_iconst (v := 0) hx hb d_M_commit_143 (by decide) ?_
                        refine lv_istore (lv' := [(5, .int 0), (4, .int (mUse fW n r)), (0, .ref (b 0)), (1, .int z), (2, .long bits)]) hx hb d_M_commit_144 hl (by decide) rfl (fun ls hl => ?_)
                        have lp146 : ∀ (q9 i : Nat) (H : Heap) (locs : List Loc) (ls : Array Slot), i + q9 = ((n - 2) * (r - 6)) → va_P (dC, dI) clA (wMd b k5 0 vn vr vo ((vl + 1) + 1) ((vl + 1) + 1) fN (mPlace (mSame fW fI ((n - 2) * (r - 6))) (mAll fN fJ ((n - 2) * (r - 6))) fK ((n - 2) * (r - 6))) (fill0 fW 0 i) fL fM fE fR ((mSp fL ((la + 1) + 1) (1 - p9) 0 0 0 ((mSp fL (la + 1) p9 0 0 0 fF fS n).1) ((mSp fL (la + 1) p9 0 0 0 fF fS n).2.1) n).1) ((mSp fL ((la + 1) + 1) (1 - p9) 0 0 0 ((mSp fL (la + 1) p9 0 0 0 fF fS n).1) ((mSp fL (la + 1) p9 0 0 0 fF fS n).2.1) n).2.1) (upd (upd fP (la + 1) (1 - fP bs)) ((la + 1) + 1) (1 - (upd fP (la + 1) (1 - fP bs)) (la + 1))) (upd (upd fY (la + 1) 1) ((la + 1) + 1) 0) (mTell fM ((la + 1) + 1) (mTell fM (la + 1) fT 8) 8) (mAll fN fJ ((n - 2) * (r - 6))) (mSame fW fI ((n - 2) * (r - 6)))) H → va_D (kx_A (wMd b k5 vT vn vr vo vl vb fN fK fW fL fM fE fR fF fS fP fY fT fJ fI)) (wMd b k5 0 vn vr vo ((vl + 1) + 1) ((vl + 1) + 1) fN (mPlace (mSame fW fI ((n - 2) * (r - 6))) (mAll fN fJ ((n - 2) * (r - 6))) fK ((n - 2) * (r - 6))) (fill0 fW 0 i) fL fM fE fR ((mSp fL ((la + 1) + 1) (1 - p9) 0 0 0 ((mSp fL (la + 1) p9 0 0 0 fF fS n).1) ((mSp fL (la + 1) p9 0 0 0 fF fS n).2.1) n).1) ((mSp fL ((la + 1) + 1) (1 - p9) 0 0 0 ((mSp fL (la + 1) p9 0 0 0 fF fS n).1) ((mSp fL (la + 1) p9 0 0 0 fF fS n).2.1) n).2.1) (upd (upd fP (la + 1) (1 - fP bs)) ((la + 1) + 1) (1 - (upd fP (la + 1) (1 - fP bs)) (la + 1))) (upd (upd fY (la + 1) 1) ((la + 1) + 1) 0) (mTell fM ((la + 1) + 1) (mTell fM (la + 1) fT 8) 8) (mAll fN fJ ((n - 2) * (r - 6))) (mSame fW fI ((n - 2) * (r - 6)))) → va_S (kx_A (wMd b k5 vT vn vr vo vl vb fN fK fW fL fM fE fR fF fS fP fY fT fJ fI)) s.heap H locs → lv_has ls 6 [(5, .int (nI i)), (4, .int (mUse fW n r)), (0, .ref (b 0)), (1, .int z), (2, .long bits)] → W p l e (headSpec w_M_commit ({ frames := 3, cells := 0, slots := 0, locals := 75 })).room s m ([.ref (b 0), .int z, .long bits] : List Value).toArray below meth c H locs 0 0 (MQ below (kx_Q (dC, dI) clA (wMd b k5 vT vn vr vo vl vb fN fK fW fL fM fE fR fF fS fP fY fT fJ fI) (wMS b k5 (m_commit vT vn vr vo vl vb fN fK fW fL fM fE fR fF fS fP fY fT fJ fI n r bs la p9 z bits).1) (some (.int (m_commit vT vn vr vo vl vb fN fK fW fL fM fE fR fF fS fP fY fT fJ fI n r bs la p9 z bits).2))) ([.ref (b 0), .int z, .long bits] : List Value).toArray s 0 0 (kx_A (wMd b k5 vT vn vr vo vl vb fN fK fW fL fM fE fR fF fS fP fY fT fJ fI))) (F0 m 146 ls []) := by
                          intro q9
                          induction q9 with
                          | zero =>
                            intro i H locs ls hi hP hD hS hl
                            have hi : ((n - 2) * (r - 6)) = i := by omega
                            subst hi
                            refine lv_iload hx hb d_M_commit_146 (lv_at hl 0 rfl) ?_
                            refine lv_aload_n hx hb d_M_commit_148 rfl (lv_at hl 2 rfl) ?_
                            refine kx_VRW (As := []) (rest := [.int (nI ((n - 2) * (r - 6)))]) ⟨hx, hb, hml, hown, hts⟩ (k_M_blocks l dC dI k5 b 0 vn vr vo ((vl + 1) + 1) ((vl + 1) + 1) fN (mPlace (mSame fW fI ((n - 2) * (r - 6))) (mAll fN fJ ((n - 2) * (r - 6))) fK ((n - 2) * (r - 6))) (fill0 fW 0 ((n - 2) * (r - 6))) fL fM fE fR ((mSp fL ((la + 1) + 1) (1 - p9) 0 0 0 ((mSp fL (la + 1) p9 0 0 0 fF fS n).1) ((mSp fL (la + 1) p9 0 0 0 fF fS n).2.1) n).1) ((mSp fL ((la + 1) + 1) (1 - p9) 0 0 0 ((mSp fL (la + 1) p9 0 0 0 fF fS n).1) ((mSp fL (la + 1) p9 0 0 0 fF fS n).2.1) n).2.1) (upd (upd fP (la + 1) (1 - fP bs)) ((la + 1) + 1) (1 - (upd fP (la + 1) (1 - fP bs)) (la + 1))) (upd (upd fY (la + 1) 1) ((la + 1) + 1) 0) (mTell fM ((la + 1) + 1) (mTell fM (la + 1) fT 8) 8) (mAll fN fJ ((n - 2) * (r - 6))) (mSame fW fI ((n - 2) * (r - 6))) ) (cwV 0 hts (goodV wm_M_86 wn_M_blocks ws_M_blocks wi_M wc_M_blocks) rfl rfl rfl (by decide +kernel) ⟨Nat.le_of_ble_eq_true rfl, Nat.le_of_ble_eq_true rfl⟩) ⟨Nat.zero_le _, Nat.zero_le _⟩ hK hP hD 0 rfl rfl rfl hl.1 rfl (Nat.le_of_ble_eq_true rfl) d_M_commit_149 ?_
                            refine W.eq (g2 := F0 m 152 ls [.int ((vn - 2) * (vr - 6)), .int (nI ((n - 2) * (r - 6)))]) rfl ?_
                            refine lv_icmp_ge (tgt := 169) hx hb d_M_commit_152 (by decide) (fun hc => ?_) (fun hc => ?_)
                            · refine lv_iload hx hb d_M_commit_169 (lv_at hl 1 rfl) ?_
                              have e : m_commit vT vn vr vo vl vb fN fK fW fL fM fE fR fF fS fP fY fT fJ fI n r bs la p9 z bits = ((0, vn, vr, vo, ((vl + 1) + 1), ((vl + 1) + 1), fN, (mPlace (mSame fW fI ((n - 2) * (r - 6))) (mAll fN fJ ((n - 2) * (r - 6))) fK ((n - 2) * (r - 6))), (fill0 fW 0 ((n - 2) * (r - 6))), fL, fM, fE, fR, (mSp fL ((la + 1) + 1) (1 - p9) 0 0 0 ((mSp fL (la + 1) p9 0 0 0 fF fS n).1) ((mSp fL (la + 1) p9 0 0 0 fF fS n).2.1) n).1, (mSp fL ((la + 1) + 1) (1 - p9) 0 0 0 ((mSp fL (la + 1) p9 0 0 0 fF fS n).1) ((mSp fL (la + 1) p9 0 0 0 fF fS n).2.1) n).2.1, (upd (upd fP (la + 1) (1 - fP bs)) ((la + 1) + 1) (1 - (upd fP (la + 1) (1 - fP bs)) (la + 1))), (upd (upd fY (la + 1) 1) ((la + 1) + 1) 0), (mTell fM ((la + 1) + 1) (mTell fM (la + 1) fT 8) 8), (mAll fN fJ ((n - 2) * (r - 6))), (mSame fW fI ((n - 2) * (r - 6)))), (mUse fW n r)) := by unfold m_commit; rw [if_pos hc_1, if_neg hc_2, if_pos hc_3, if_neg hc_4, if_neg hc_5, if_neg hc_6, if_neg hc_7, if_neg hc_8]
                              exact W.iret (v := (mUse fW n r)) hx hb hr (fun t ht hW => kx_Qi (by rw [e]) ht hP (by rw [e]) hS rfl) hS.2.2 d_M_commit_171
                            · exact absurd (by rw [blk_nI hn er hn4 hr2]; exact nI_le (by omega) (by have := blk_le hn8 hr40; omega)) hc
                          | succ q9 ih =>
                            intro i H locs ls hi hP hD hS hl
                            refine lv_iload hx hb d_M_commit_146 (lv_at hl 0 rfl) ?_
                            refine lv_aload_n hx hb d_M_commit_148 rfl (lv_at hl 2 rfl) ?_
                            refine kx_VRW (As := []) (rest := [.int (nI i)]) ⟨hx, hb, hml, hown, hts⟩ (k_M_blocks l dC dI k5 b 0 vn vr vo ((vl + 1) + 1) ((vl + 1) + 1) fN (mPlace (mSame fW fI ((n - 2) * (r - 6))) (mAll fN fJ ((n - 2) * (r - 6))) fK ((n - 2) * (r - 6))) (fill0 fW 0 i) fL fM fE fR ((mSp fL ((la + 1) + 1) (1 - p9) 0 0 0 ((mSp fL (la + 1) p9 0 0 0 fF fS n).1) ((mSp fL (la + 1) p9 0 0 0 fF fS n).2.1) n).1) ((mSp fL ((la + 1) + 1) (1 - p9) 0 0 0 ((mSp fL (la + 1) p9 0 0 0 fF fS n).1) ((mSp fL (la + 1) p9 0 0 0 fF fS n).2.1) n).2.1) (upd (upd fP (la + 1) (1 - fP bs)) ((la + 1) + 1) (1 - (upd fP (la + 1) (1 - fP bs)) (la + 1))) (upd (upd fY (la + 1) 1) ((la + 1) + 1) 0) (mTell fM ((la + 1) + 1) (mTell fM (la + 1) fT 8) 8) (mAll fN fJ ((n - 2) * (r - 6))) (mSame fW fI ((n - 2) * (r - 6))) ) (cwV 0 hts (goodV wm_M_86 wn_M_blocks ws_M_blocks wi_M wc_M_blocks) rfl rfl rfl (by decide +kernel) ⟨Nat.le_of_ble_eq_true rfl, Nat.le_of_ble_eq_true rfl⟩) ⟨Nat.zero_le _, Nat.zero_le _⟩ hK hP hD 0 rfl rfl rfl hl.1 rfl (Nat.le_of_ble_eq_true rfl) d_M_commit_149 ?_
                            refine W.eq (g2 := F0 m 152 ls [.int ((vn - 2) * (vr - 6)), .int (nI i)]) rfl ?_
                            refine lv_icmp_ge (tgt := 169) hx hb d_M_commit_152 (by decide) (fun hc => ?_) (fun hc => ?_)
                            · exact absurd hc (by rw [blk_nI hn er hn4 hr2]; exact nI_ge (by omega) (by have := blk_le hn8 hr40; omega))
                            · have hB := blk_le hn8 hr40
                              refine lv_aload_n hx hb d_M_commit_155 rfl (lv_at hl 2 rfl) ?_
                              refine va_get (D := (dC, dI)) (ci := 3) (v := .ref (b 3)) (C := R_M) (T := T_M) (N := 20) hx hb hts wu_M hown hK hP 0 rfl rfl 6 (by decide) (hts _ wf_M_16) (fun _ h9 => h9) rfl d_M_commit_156 ?_
                              refine lv_iload hx hb d_M_commit_159 (lv_at hl 0 rfl) ?_
                              refine lv_iconst (v := 0) hx hb d_M_commit_161 (by decide) ?_
                              refine kx_zast (ws' := (wMd b k5 0 vn vr vo ((vl + 1) + 1) ((vl + 1) + 1) fN (mPlace (mSame fW fI ((n - 2) * (r - 6))) (mAll fN fJ ((n - 2) * (r - 6))) fK ((n - 2) * (r - 6))) (fill0 fW 0 (i + 1)) fL fM fE fR ((mSp fL ((la + 1) + 1) (1 - p9) 0 0 0 ((mSp fL (la + 1) p9 0 0 0 fF fS n).1) ((mSp fL (la + 1) p9 0 0 0 fF fS n).2.1) n).1) ((mSp fL ((la + 1) + 1) (1 - p9) 0 0 0 ((mSp fL (la + 1) p9 0 0 0 fF fS n).1) ((mSp fL (la + 1) p9 0 0 0 fF fS n).2.1) n).2.1) (upd (upd fP (la + 1) (1 - fP bs)) ((la + 1) + 1) (1 - (upd fP (la + 1) (1 - fP bs)) (la + 1))) (upd (upd fY (la + 1) 1) ((la + 1) + 1) 0) (mTell fM ((la + 1) + 1) (mTell fM (la + 1) fT 8) 8) (mAll fN fJ ((n - 2) * (r - 6))) (mSame fW fI ((n - 2) * (r - 6))))) hx hb hK hP hD hS 3 3 rfl rfl i (rfl) (by omega) (by omega) rfl rfl d_M_commit_162 (fun H locs hP hD hS => ?_)
                              refine lv_iinc (v := nI (i + 1)) (lv' := [(5, .int (nI (i + 1))), (4, .int (mUse fW n r)), (0, .ref (b 0)), (1, .int z), (2, .long bits)]) hx hb d_M_commit_163 hl (k := 0) rfl (nI_1 i) (by decide) rfl (fun ls hl => ?_)
                              refine lv_goto (tgt := 146) hx hb d_M_commit_166 (by decide) ?_
                              exact ih (i + 1) H locs ls (by omega) hP hD hS (lv_sub hl [0, 1, 2, 3, 4] rfl)
                        exact lp146 ((n - 2) * (r - 6)) 0 H locs ls (by omega) hP hD hS (lv_sub hl [0, 1, 2, 3, 4] rfl)
                      · refine lv_aload_n hx hb d_M_commit_131 rfl (lv_at hl 2 rfl) ?_
                        refine lv_iconst (v := 0) hx hb d_M_commit_132 (by decide) ?_
                        refine lv_lload_n hx hb d_M_commit_133 rfl (lv_at hl 4 rfl) ?_
                        refine kx_VW (w1 := (wMd b k5 0 vn vr 1 ((vl + 1) + 1) (vl + 1) fN (mPlace (mSame fW fI ((n - 2) * (r - 6))) (mAll fN fJ ((n - 2) * (r - 6))) fK ((n - 2) * (r - 6))) (fill0 fW 0 204) fL fM fE fR ((mSp fL ((la + 1) + 1) (1 - p9) 0 1 bits ((mSp fL (la + 1) p9 0 0 0 fF fS n).1) ((mSp fL (la + 1) p9 0 0 0 fF fS n).2.1) n).1) ((mSp fL ((la + 1) + 1) (1 - p9) 0 1 bits ((mSp fL (la + 1) p9 0 0 0 fF fS n).1) ((mSp fL (la + 1) p9 0 0 0 fF fS n).2.1) n).2.1) (upd (upd fP (la + 1) (1 - fP bs)) ((la + 1) + 1) (1 - (upd fP (la + 1) (1 - fP bs)) (la + 1))) (upd (upd fY (la + 1) 1) ((la + 1) + 1) 0) (mTell fM ((la + 1) + 1) (mTell fM (la + 1) fT 8) 8) (mAll fN fJ ((n - 2) * (r - 6))) (mSame fW fI ((n - 2) * (r - 6))))) (As := [.int 0, .long bits]) (rest := []) ⟨hx, hb, hml, hown, hts⟩ (k_M_stopAtLabel l dC dI k5 b 0 vn vr vo (vl + 1) (vl + 1) fN (mPlace (mSame fW fI ((n - 2) * (r - 6))) (mAll fN fJ ((n - 2) * (r - 6))) fK ((n - 2) * (r - 6))) fW fL fM fE fR ((mSp fL (la + 1) p9 0 0 0 fF fS n).1) ((mSp fL (la + 1) p9 0 0 0 fF fS n).2.1) (upd fP (la + 1) (1 - fP bs)) (upd fY (la + 1) 1) (mTell fM (la + 1) fT 8) (mAll fN fJ ((n - 2) * (r - 6))) (mSame fW fI ((n - 2) * (r - 6))) 0 rfl bits (la + 1) (la + 1) (by rw [hvl]; exact nI_1 la) (by rw [hvl]; exact nI_1 la) (by omega) (by omega) (1 - p9) (flipO hp9) (by rw [pk_us, hrow]; exact flipW hp9) n hn hn4 hn8) (cwV 2 hts (goodV wm_M_141 wn_M_stopAtLabel ws_M_stopAtLabel wi_M wc_M_stopAtLabel) rfl rfl rfl (by decide +kernel) ⟨Nat.le_of_ble_eq_true rfl, Nat.le_of_ble_eq_true rfl⟩) ⟨Nat.zero_le _, Nat.zero_le _⟩ hK hP hD hS 0 rfl rfl rfl rfl hl.1 rfl (Nat.le_of_ble_eq_true rfl) d_M_commit_134 (fun H locs hP hD hS => ?_)
                        refine W.eq (g2 := F0 m 137 ls [.int (-2)]) rfl ?_
                        have e : m_commit vT vn vr vo vl vb fN fK fW fL fM fE fR fF fS fP fY fT fJ fI n r bs la p9 z bits = ((0, vn, vr, 1, ((vl + 1) + 1), (vl + 1), fN, (mPlace (mSame fW fI ((n - 2) * (r - 6))) (mAll fN fJ ((n - 2) * (r - 6))) fK ((n - 2) * (r - 6))), (fill0 fW 0 204), fL, fM, fE, fR, (mSp fL ((la + 1) + 1) (1 - p9) 0 1 bits ((mSp fL (la + 1) p9 0 0 0 fF fS n).1) ((mSp fL (la + 1) p9 0 0 0 fF fS n).2.1) n).1, (mSp fL ((la + 1) + 1) (1 - p9) 0 1 bits ((mSp fL (la + 1) p9 0 0 0 fF fS n).1) ((mSp fL (la + 1) p9 0 0 0 fF fS n).2.1) n).2.1, (upd (upd fP (la + 1) (1 - fP bs)) ((la + 1) + 1) (1 - (upd fP (la + 1) (1 - fP bs)) (la + 1))), (upd (upd fY (la + 1) 1) ((la + 1) + 1) 0), (mTell fM ((la + 1) + 1) (mTell fM (la + 1) fT 8) 8), (mAll fN fJ ((n - 2) * (r - 6))), (mSame fW fI ((n - 2) * (r - 6)))), (-2)) := by unfold m_commit; rw [if_pos hc_1, if_neg hc_2, if_pos hc_3, if_neg hc_4, if_neg hc_5, if_neg hc_6, if_neg hc_7, if_pos hc_8]
                        exact W.iret (v := (-2)) hx hb hr (fun t ht hW => kx_Qi (by rw [e]) ht hP (by rw [e]) hS rfl) hS.2.2 d_M_commit_137
                    · refine lv_aload_n hx hb d_M_commit_117 rfl (lv_at hl 2 rfl) ?_
                      refine kx_VW (w1 := (wMd b k5 0 vn vr 1 (vl + 1) (vl + 1) fN fK (fill0 fW 0 204) fL fM fE fR ((mSp fL (la + 1) p9 0 0 0 fF fS n).1) ((mSp fL (la + 1) p9 0 0 0 fF fS n).2.1) (upd fP (la + 1) (1 - fP bs)) (upd fY (la + 1) 1) (mTell fM (la + 1) fT 8) (mAll fN fJ ((n - 2) * (r - 6))) (mSame fW fI ((n - 2) * (r - 6))))) (As := []) (rest := []) ⟨hx, hb, hml, hown, hts⟩ (k_M_powerOff l dC dI k5 b 0 vn vr vo (vl + 1) (vl + 1) fN fK fW fL fM fE fR ((mSp fL (la + 1) p9 0 0 0 fF fS n).1) ((mSp fL (la + 1) p9 0 0 0 fF fS n).2.1) (upd fP (la + 1) (1 - fP bs)) (upd fY (la + 1) 1) (mTell fM (la + 1) fT 8) (mAll fN fJ ((n - 2) * (r - 6))) (mSame fW fI ((n - 2) * (r - 6))) ) (cwV 0 hts (goodV wm_M_107 wn_M_powerOff ws_M_powerOff wi_M wc_M_powerOff) rfl rfl rfl (by decide +kernel) ⟨Nat.le_of_ble_eq_true rfl, Nat.le_of_ble_eq_true rfl⟩) ⟨Nat.zero_le _, Nat.zero_le _⟩ hK hP hD hS 0 rfl rfl rfl rfl hl.1 rfl (Nat.le_of_ble_eq_true rfl) d_M_commit_118 (fun H locs hP hD hS => ?_)
                      refine W.eq (g2 := F0 m 121 ls [.int (-2)]) rfl ?_
                      have e : m_commit vT vn vr vo vl vb fN fK fW fL fM fE fR fF fS fP fY fT fJ fI n r bs la p9 z bits = ((0, vn, vr, 1, (vl + 1), (vl + 1), fN, fK, (fill0 fW 0 204), fL, fM, fE, fR, (mSp fL (la + 1) p9 0 0 0 fF fS n).1, (mSp fL (la + 1) p9 0 0 0 fF fS n).2.1, (upd fP (la + 1) (1 - fP bs)), (upd fY (la + 1) 1), (mTell fM (la + 1) fT 8), (mAll fN fJ ((n - 2) * (r - 6))), (mSame fW fI ((n - 2) * (r - 6)))), (-2)) := by unfold m_commit; rw [if_pos hc_1, if_neg hc_2, if_pos hc_3, if_neg hc_4, if_neg hc_5, if_neg hc_6, if_pos hc_7]
                      exact W.iret (v := (-2)) hx hb hr (fun t ht hW => kx_Qi (by rw [e]) ht hP (by rw [e]) hS rfl) hS.2.2 d_M_commit_121
                  · refine lv_aload_n hx hb d_M_commit_100 rfl (lv_at hl 2 rfl) ?_
                    refine lv_iconst (v := 1) hx hb d_M_commit_101 (by decide) ?_
                    refine lv_lload_n hx hb d_M_commit_102 rfl (lv_at hl 4 rfl) ?_
                    refine kx_VW (w1 := (wMd b k5 0 vn vr 1 (vl + 1) vb fN fK (fill0 fW 0 204) fL fM fE fR ((mSp fL (la + 1) p9 0 1 bits fF fS n).1) ((mSp fL (la + 1) p9 0 1 bits fF fS n).2.1) (upd fP (la + 1) (1 - fP bs)) (upd fY (la + 1) 1) (mTell fM (la + 1) fT 8) (mAll fN fJ ((n - 2) * (r - 6))) (mSame fW fI ((n - 2) * (r - 6))))) (As := [.int 1, .long bits]) (rest := []) ⟨hx, hb, hml, hown, hts⟩ (k_M_stopAtLabel l dC dI k5 b 0 vn vr vo vl vb fN fK fW fL fM fE fR fF fS fP fY fT (mAll fN fJ ((n - 2) * (r - 6))) (mSame fW fI ((n - 2) * (r - 6))) 1 rfl bits bs la hvb hvl hbs (by omega) p9 hp9 hrow n hn hn4 hn8) (cwV 2 hts (goodV wm_M_141 wn_M_stopAtLabel ws_M_stopAtLabel wi_M wc_M_stopAtLabel) rfl rfl rfl (by decide +kernel) ⟨Nat.le_of_ble_eq_true rfl, Nat.le_of_ble_eq_true rfl⟩) ⟨Nat.zero_le _, Nat.zero_le _⟩ hK hP hD hS 0 rfl rfl rfl rfl hl.1 rfl (Nat.le_of_ble_eq_true rfl) d_M_commit_103 (fun H locs hP hD hS => ?_)
                    refine W.eq (g2 := F0 m 106 ls [.int (-2)]) rfl ?_
                    have e : m_commit vT vn vr vo vl vb fN fK fW fL fM fE fR fF fS fP fY fT fJ fI n r bs la p9 z bits = ((0, vn, vr, 1, (vl + 1), vb, fN, fK, (fill0 fW 0 204), fL, fM, fE, fR, (mSp fL (la + 1) p9 0 1 bits fF fS n).1, (mSp fL (la + 1) p9 0 1 bits fF fS n).2.1, (upd fP (la + 1) (1 - fP bs)), (upd fY (la + 1) 1), (mTell fM (la + 1) fT 8), (mAll fN fJ ((n - 2) * (r - 6))), (mSame fW fI ((n - 2) * (r - 6)))), (-2)) := by unfold m_commit; rw [if_pos hc_1, if_neg hc_2, if_pos hc_3, if_neg hc_4, if_neg hc_5, if_pos hc_6]
                    exact W.iret (v := (-2)) hx hb hr (fun t ht hW => kx_Qi (by rw [e]) ht hP (by rw [e]) hS rfl) hS.2.2 d_M_commit_106
                · exact absurd (by rw [blk_nI hn er hn4 hr2]; exact nI_le (by omega) (by have := blk_le hn8 hr40; omega)) hc
              | succ q9 ih =>
                intro i H locs ls hi hP hD hS hl
                refine lv_iload hx hb d_M_commit_52 (lv_at hl 0 rfl) ?_
                refine lv_aload_n hx hb d_M_commit_54 rfl (lv_at hl 2 rfl) ?_
                refine kx_VRW (As := []) (rest := [.int (nI i)]) ⟨hx, hb, hml, hown, hts⟩ (k_M_blocks l dC dI k5 b 0 vn vr vo vl vb fN fK fW fL fM fE fR fF fS fP fY fT (mAll fN fJ i) (mSame fW fI i) ) (cwV 0 hts (goodV wm_M_86 wn_M_blocks ws_M_blocks wi_M wc_M_blocks) rfl rfl rfl (by decide +kernel) ⟨Nat.le_of_ble_eq_true rfl, Nat.le_of_ble_eq_true rfl⟩) ⟨Nat.zero_le _, Nat.zero_le _⟩ hK hP hD 0 rfl rfl rfl hl.1 rfl (Nat.le_of_ble_eq_true rfl) d_M_commit_55 ?_
                refine W.eq (g2 := F0 m 58 ls [.int ((vn - 2) * (vr - 6)), .int (nI i)]) rfl ?_
                refine lv_icmp_ge (tgt := 95) hx hb d_M_commit_58 (by decide) (fun hc => ?_) (fun hc => ?_)
                · exact absurd hc (by rw [blk_nI hn er hn4 hr2]; exact nI_ge (by omega) (by have := blk_le hn8 hr40; omega))
                · have hB := blk_le hn8 hr40
                  refine lv_aload_n hx hb d_M_commit_61 rfl (lv_at hl 2 rfl) ?_
                  refine va_get (D := (dC, dI)) (ci := 3) (v := .ref (b 14)) (C := R_M) (T := T_M) (N := 20) hx hb hts wu_M hown hK hP 0 rfl rfl 19 (by decide) (hts _ wf_M_51) (fun _ h9 => h9) rfl d_M_commit_62 ?_
                  refine lv_iload hx hb d_M_commit_65 (lv_at hl 0 rfl) ?_
                  refine lv_aload_n hx hb d_M_commit_67 rfl (lv_at hl 2 rfl) ?_
                  refine va_get (D := (dC, dI)) (ci := 3) (v := .ref (b 3)) (C := R_M) (T := T_M) (N := 20) hx hb hts wu_M hown hK hP 0 rfl rfl 6 (by decide) (hts _ wf_M_16) (fun _ h9 => h9) rfl d_M_commit_68 ?_
                  refine lv_iload hx hb d_M_commit_71 (lv_at hl 0 rfl) ?_
                  refine kx_zald hx hb hK hP 3 3 rfl rfl i (rfl) (by omega) (by omega) d_M_commit_73 ?_
                  refine kx_zast (ws' := (wMd b k5 0 vn vr vo vl vb fN fK fW fL fM fE fR fF fS fP fY fT (mAll fN fJ i) (mSame fW fI (i + 1)))) hx hb hK hP hD hS 14 3 rfl rfl i (rfl) (by omega) (by omega) (narZ (hWz _)) rfl d_M_commit_74 (fun H locs hP hD hS => ?_)
                  refine lv_aload_n hx hb d_M_commit_75 rfl (lv_at hl 2 rfl) ?_
                  refine lv_aload_n hx hb d_M_commit_76 rfl (lv_at hl 2 rfl) ?_
                  refine va_get (D := (dC, dI)) (ci := 3) (v := .ref (b 1)) (C := R_M) (T := T_M) (N := 20) hx hb hts wu_M hown hK hP 0 rfl rfl 4 (by decide) (hts _ wf_M_7) (fun _ h9 => h9) rfl d_M_commit_77 ?_
                  refine lv_aload_n hx hb d_M_commit_80 rfl (lv_at hl 2 rfl) ?_
                  refine va_get (D := (dC, dI)) (ci := 3) (v := .ref (b 13)) (C := R_M) (T := T_M) (N := 20) hx hb hts wu_M hown hK hP 0 rfl rfl 18 (by decide) (hts _ wf_M_48) (fun _ h9 => h9) rfl d_M_commit_81 ?_
                  refine lv_iload hx hb d_M_commit_84 (lv_at hl 0 rfl) ?_
                  refine kx_VW (w1 := (wMd b k5 0 vn vr vo vl vb fN fK fW fL fM fE fR fF fS fP fY fT (mCopy fN (mAll fN fJ i) (64 * i) 64) (mSame fW fI (i + 1)))) (As := [.ref (b 1), .ref (b 13), .int (nI i)]) (rest := []) ⟨hx, hb, hml, hown, hts⟩ (k_M_copyNJ l dC dI k5 b 0 vn vr vo vl vb fN fK fW fL fM fE fR fF fS fP fY fT (mAll fN fJ i) (mSame fW fI (i + 1)) i (by omega)) (cwV 3 hts (goodV wm_M_137 wn_M_copy ws_M_copy wi_M wc_M_copy) rfl rfl rfl (by decide +kernel) ⟨Nat.le_of_ble_eq_true rfl, Nat.le_of_ble_eq_true rfl⟩) ⟨Nat.zero_le _, Nat.zero_le _⟩ hK hP hD hS 0 rfl rfl rfl rfl hl.1 rfl (Nat.le_of_ble_eq_true rfl) d_M_commit_86 (fun H locs hP hD hS => ?_)
                  refine W.eq (g2 := F0 m 89 ls []) rfl ?_
                  refine lv_iinc (v := nI (i + 1)) (lv' := [(5, .int (nI (i + 1))), (4, .int (mUse fW n r)), (0, .ref (b 0)), (1, .int z), (2, .long bits)]) hx hb d_M_commit_89 hl (k := 0) rfl (nI_1 i) (by decide) rfl (fun ls hl => ?_)
                  refine lv_goto (tgt := 52) hx hb d_M_commit_92 (by decide) ?_
                  exact ih (i + 1) H locs ls (by omega) hP hD hS (lv_sub hl [0, 1, 2, 3, 4] rfl)
            exact lp52 ((n - 2) * (r - 6)) 0 H locs ls (by omega) hP hD hS (lv_sub hl [0, 1, 2, 3, 4] rfl)
          · refine lv_aload_n hx hb d_M_commit_44 rfl (lv_at hl 1 rfl) ?_
            refine kx_VW (w1 := (wMd b k5 0 vn vr 1 vl vb fN fK (fill0 fW 0 204) fL fM fE fR fF fS fP fY fT fJ fI)) (As := []) (rest := []) ⟨hx, hb, hml, hown, hts⟩ (k_M_powerOff l dC dI k5 b 0 vn vr vo vl vb fN fK fW fL fM fE fR fF fS fP fY fT fJ fI ) (cwV 0 hts (goodV wm_M_107 wn_M_powerOff ws_M_powerOff wi_M wc_M_powerOff) rfl rfl rfl (by decide +kernel) ⟨Nat.le_of_ble_eq_true rfl, Nat.le_of_ble_eq_true rfl⟩) ⟨Nat.zero_le _, Nat.zero_le _⟩ hK hP hD hS 0 rfl rfl rfl rfl hl.1 rfl (Nat.le_of_ble_eq_true rfl) d_M_commit_45 (fun H locs hP hD hS => ?_)
            refine W.eq (g2 := F0 m 48 ls [.int (-2)]) rfl ?_
            have e : m_commit vT vn vr vo vl vb fN fK fW fL fM fE fR fF fS fP fY fT fJ fI n r bs la p9 z bits = ((0, vn, vr, 1, vl, vb, fN, fK, (fill0 fW 0 204), fL, fM, fE, fR, fF, fS, fP, fY, fT, fJ, fI), (-2)) := by unfold m_commit; rw [if_pos hc_1, if_neg hc_2, if_pos hc_3, if_neg hc_4, if_pos hc_5]
            exact W.iret (v := (-2)) hx hb hr (fun t ht hW => kx_Qi (by rw [e]) ht hP (by rw [e]) hS rfl) hS.2.2 d_M_commit_48
        · refine lv_iconst (v := 0) hx hb d_M_commit_37 (by decide) ?_
          have e : m_commit vT vn vr vo vl vb fN fK fW fL fM fE fR fF fS fP fY fT fJ fI n r bs la p9 z bits = ((0, vn, vr, vo, vl, vb, fN, fK, fW, fL, fM, fE, fR, fF, fS, fP, fY, fT, fJ, fI), 0) := by unfold m_commit; rw [if_pos hc_1, if_neg hc_2, if_pos hc_3, if_pos hc_4]
          exact W.iret (v := 0) hx hb hr (fun t ht hW => kx_Qi (by rw [e]) ht hP (by rw [e]) hS rfl) hS.2.2 d_M_commit_38
      · refine lv_iconst (v := (-1)) hx hb d_M_commit_24 (by decide) ?_
        have e : m_commit vT vn vr vo vl vb fN fK fW fL fM fE fR fF fS fP fY fT fJ fI n r bs la p9 z bits = ((0, vn, vr, vo, vl, vb, fN, fK, fW, fL, fM, fE, fR, fF, fS, fP, fY, fT, fJ, fI), (-1)) := by unfold m_commit; rw [if_pos hc_1, if_neg hc_2, if_neg hc_3]
        exact W.iret (v := (-1)) hx hb hr (fun t ht hW => kx_Qi (by rw [e]) ht hP (by rw [e]) hS rfl) hS.2.2 d_M_commit_25
  · refine lv_bipush (v := (-2)) hx hb d_M_commit_12 (by decide) ?_
    have e : m_commit vT vn vr vo vl vb fN fK fW fL fM fE fR fF fS fP fY fT fJ fI n r bs la p9 z bits = ((0, vn, vr, vo, vl, vb, fN, fK, fW, fL, fM, fE, fR, fF, fS, fP, fY, fT, fJ, fI), (-2)) := by unfold m_commit; rw [if_neg hc_1]
    exact W.iret (v := (-2)) hx hb hr (fun t ht hW => kx_Qi (by rw [e]) ht hP (by rw [e]) hS rfl) hS.2.2 d_M_commit_14
def m_lay (vT vn vr vo vl vb : Int32) (fN fK fW fL fM fE fR fF fS fP fY fT fJ fI : FF) (x y : Int32) : MT × Int32 := (if x < 4 then ((0, vn, vr, vo, vl, vb, fN, fK, fW, fL, fM, fE, fR, fF, fS, fP, fY, fT, fJ, fI), (-1)) else (if 8 < x then ((0, vn, vr, vo, vl, vb, fN, fK, fW, fL, fM, fE, fR, fF, fS, fP, fY, fT, fJ, fI), (-1)) else (if y < 12 then ((0, vn, vr, vo, vl, vb, fN, fK, fW, fL, fM, fE, fR, fF, fS, fP, fY, fT, fJ, fI), (-1)) else (if y ≤ 40 then ((0, x, y, 0, (0 + 1), (0 + 1), (fill0 fN (vp_nar .byte 0) 13056), (fill0 fK (vp_nar .byte 0) 13056), (fill0 fW 0 204), (fill0 fL 0 8), (fill0 fM y 8), fE, (fill0 fR 0 320), (mSp (fill0 fL 0 8) (0 + 1) 1 0 0 0 (mWipes fF 8) (mWipes fS 8) (x.toNatClampNeg)).1, (mSp (fill0 fL 0 8) (0 + 1) 1 0 0 0 (mWipes fF 8) (mWipes fS 8) (x.toNatClampNeg)).2.1, (upd (upd fP 0 0) (0 + 1) (1 - (upd fP 0 0) 0)), (upd fY (0 + 1) 0), (mTell (fill0 fM y 8) (0 + 1) fT 8), fJ, (fill0 fI 0 204)), ((x - 2) * (y - 6))) else ((0, vn, vr, vo, vl, vb, fN, fK, fW, fL, fM, fE, fR, fF, fS, fP, fY, fT, fJ, fI), (-1))))))
set_option maxHeartbeats 4000000 in
set_option maxRecDepth 100000 in
theorem k_M_lay (l : Launch) (dC : Nat → ClassId) (dI : Nat → Nat → Nat) (k5 : Nat → ClassId) (b : Nat → Nat) (vT vn vr vo vl vb : Int32) (fN fK fW fL fM fE fR fF fS fP fY fT fJ fI : FF) (x y : Int32)  : Met l y_M_lay w_M_lay ({ frames := 3, cells := 0, slots := 0, locals := 73 }) (kx_Pc (dC, dI) clA (tyL k5) (wMd b k5 vT vn vr vo vl vb fN fK fW fL fM fE fR fF fS fP fY fT fJ fI) [.ref (b 0), .int x, .int y]) (kx_Q (dC, dI) clA (wMd b k5 vT vn vr vo vl vb fN fK fW fL fM fE fR fF fS fP fY fT fJ fI) (wMS b k5 (m_lay vT vn vr vo vl vb fN fK fW fL fM fE fR fF fS fP fY fT fJ fI x y).1) (some (.int (m_lay vT vn vr vo vl vb fN fK fW fL fM fE fR fF fS fP fY fT fJ fI x y).2))) 0 0 (kx_A (wMd b k5 vT vn vr vo vl vb fN fK fW fL fM fE fR fF fS fP fY fT fJ fI)) := by
  refine Met.ofW (cc := c_M_lay) (maxL := 4) (ret := (some .int)) (by decide) rfl ?_
  intro p e s m args below meth c s₁ B hml hv
  obtain ⟨rfl, hP, hK, hD0⟩ := hv
  have hx := B.exec
  have hb := B.bytes
  have hr := B.returns
  have hts : ∀ w ∈ wsA, w.before _ s = true := fun w h => atoms_spec (ws := w_M_lay) B.pre w (List.mem_cons_of_mem _ h)
  have hown : s.vm.findClass R_M = some m.cls := findClass_of_methodNamed B.named
  have hlocks := B.notSynchronized
  have hD := kx_D.self hD0
  have hS : va_S (kx_A (wMd b k5 vT vn vr vo vl vb fN fK fW fL fM fE fR fF fS fP fY fT fJ fI)) s.heap s.heap [] := va_S.rf
  have hl := lv_entry ([.ref (b 0), .int x, .int y]) (n := 4) (Nat.le_of_ble_eq_true rfl)
  rw [lg_entry_eq]
  generalize (lg_sl ([.ref (b 0), .int x, .int y]) ++ List.replicate (4 - (lg_sl ([.ref (b 0), .int x, .int y])).length) Slot.unset).toArray = ls at hl ⊢
  have hl : lv_has ls 4 [(0, .ref (b 0)), (1, .int x), (2, .int y)] := hl
  refine lv_aload_n hx hb d_M_lay_0 rfl (lv_at hl 0 rfl) ?_
  refine lv_iconst (v := 0) hx hb d_M_lay_1 (by decide) ?_
  refine kx_put (ws' := (wMd b k5 0 vn vr vo vl vb fN fK fW fL fM fE fR fF fS fP fY fT fJ fI)) (D := (dC, dI)) (ci := 3) (v := .int 0) (ty := .int) (C := R_M) (T := T_M) (N := 20) hx hb hts wu_M ty_M ok_M nm_M hown hK hP hD hS 0 rfl rfl 0 (by decide) (hts _ wf_M_58) (fun _ h9 => h9) rfl (by decide +kernel) rfl rfl (Nat.le_of_ble_eq_true rfl) rfl d_M_lay_2 (fun H locs hP hD hS => ?_)
  refine lv_iload_n hx hb d_M_lay_5 rfl (lv_at hl 1 rfl) ?_
  refine lv_iconst (v := 4) hx hb d_M_lay_6 (by decide) ?_
  refine lv_icmp_lt (tgt := 28) hx hb d_M_lay_7 (by decide) (fun hc_1 => ?_) (fun hc_1 => ?_)
  · refine lv_iconst (v := (-1)) hx hb d_M_lay_28 (by decide) ?_
    have e : m_lay vT vn vr vo vl vb fN fK fW fL fM fE fR fF fS fP fY fT fJ fI x y = ((0, vn, vr, vo, vl, vb, fN, fK, fW, fL, fM, fE, fR, fF, fS, fP, fY, fT, fJ, fI), (-1)) := by unfold m_lay; rw [if_pos hc_1]
    exact W.iret (v := (-1)) hx hb hr (fun t ht hW => kx_Qi (by rw [e]) ht hP (by rw [e]) hS rfl) hS.2.2 d_M_lay_29
  · refine lv_iload_n hx hb d_M_lay_10 rfl (lv_at hl 1 rfl) ?_
    refine lv_bipush (v := 8) hx hb d_M_lay_11 (by decide) ?_
    refine lv_icmp_gt (tgt := 28) hx hb d_M_lay_13 (by decide) (fun hc_2 => ?_) (fun hc_2 => ?_)
    · refine lv_iconst (v := (-1)) hx hb d_M_lay_28 (by decide) ?_
      have e : m_lay vT vn vr vo vl vb fN fK fW fL fM fE fR fF fS fP fY fT fJ fI x y = ((0, vn, vr, vo, vl, vb, fN, fK, fW, fL, fM, fE, fR, fF, fS, fP, fY, fT, fJ, fI), (-1)) := by unfold m_lay; rw [if_neg hc_1, if_pos hc_2]
      exact W.iret (v := (-1)) hx hb hr (fun t ht hW => kx_Qi (by rw [e]) ht hP (by rw [e]) hS rfl) hS.2.2 d_M_lay_29
    · refine lv_iload_n hx hb d_M_lay_16 rfl (lv_at hl 2 rfl) ?_
      refine lv_bipush (v := 12) hx hb d_M_lay_17 (by decide) ?_
      refine lv_icmp_lt (tgt := 28) hx hb d_M_lay_19 (by decide) (fun hc_3 => ?_) (fun hc_3 => ?_)
      · refine lv_iconst (v := (-1)) hx hb d_M_lay_28 (by decide) ?_
        have e : m_lay vT vn vr vo vl vb fN fK fW fL fM fE fR fF fS fP fY fT fJ fI x y = ((0, vn, vr, vo, vl, vb, fN, fK, fW, fL, fM, fE, fR, fF, fS, fP, fY, fT, fJ, fI), (-1)) := by unfold m_lay; rw [if_neg hc_1, if_neg hc_2, if_pos hc_3]
        exact W.iret (v := (-1)) hx hb hr (fun t ht hW => kx_Qi (by rw [e]) ht hP (by rw [e]) hS rfl) hS.2.2 d_M_lay_29
      · refine lv_iload_n hx hb d_M_lay_22 rfl (lv_at hl 2 rfl) ?_
        refine lv_bipush (v := 40) hx hb d_M_lay_23 (by decide) ?_
        refine lv_icmp_le (tgt := 30) hx hb d_M_lay_25 (by decide) (fun hc_4 => ?_) (fun hc_4 => ?_)
        · refine lv_aload_n hx hb d_M_lay_30 rfl (lv_at hl 0 rfl) ?_
          refine lv_iload_n hx hb d_M_lay_31 rfl (lv_at hl 1 rfl) ?_
          refine kx_put (ws' := (wMd b k5 0 x vr vo vl vb fN fK fW fL fM fE fR fF fS fP fY fT fJ fI)) (D := (dC, dI)) (ci := 3) (v := .int x) (ty := .int) (C := R_M) (T := T_M) (N := 20) hx hb hts wu_M ty_M ok_M nm_M hown hK hP hD hS 0 rfl rfl 1 (by decide) (hts _ wf_M_62) (fun _ h9 => h9) rfl (by decide +kernel) rfl rfl (Nat.le_of_ble_eq_true rfl) rfl d_M_lay_32 (fun H locs hP hD hS => ?_)
          refine lv_aload_n hx hb d_M_lay_35 rfl (lv_at hl 0 rfl) ?_
          refine lv_iload_n hx hb d_M_lay_36 rfl (lv_at hl 2 rfl) ?_
          refine kx_put (ws' := (wMd b k5 0 x y vo vl vb fN fK fW fL fM fE fR fF fS fP fY fT fJ fI)) (D := (dC, dI)) (ci := 3) (v := .int y) (ty := .int) (C := R_M) (T := T_M) (N := 20) hx hb hts wu_M ty_M ok_M nm_M hown hK hP hD hS 0 rfl rfl 2 (by decide) (hts _ wf_M_65) (fun _ h9 => h9) rfl (by decide +kernel) rfl rfl (Nat.le_of_ble_eq_true rfl) rfl d_M_lay_37 (fun H locs hP hD hS => ?_)
          refine lv_aload_n hx hb d_M_lay_40 rfl (lv_at hl 0 rfl) ?_
          refine lv_iconst (v := 0) hx hb d_M_lay_41 (by decide) ?_
          refine kx_put (ws' := (wMd b k5 0 x y 0 vl vb fN fK fW fL fM fE fR fF fS fP fY fT fJ fI)) (D := (dC, dI)) (ci := 3) (v := .int 0) (ty := .boolean) (C := R_M) (T := T_M) (N := 20) hx hb hts wu_M ty_M ok_M nm_M hown hK hP hD hS 0 rfl rfl 3 (by decide) (hts _ wf_M_68) (fun _ h9 => h9) rfl (by decide +kernel) rfl rfl (Nat.le_of_ble_eq_true rfl) rfl d_M_lay_42 (fun H locs hP hD hS => ?_)
          refine lv_iconst (v := 0) hx hb d_M_lay_45 (by decide) ?_
          refine lv_istore_n (lv' := [(3, .int 0), (0, .ref (b 0)), (1, .int x), (2, .int y)]) hx hb d_M_lay_46 rfl hl (by decide) rfl (fun ls hl => ?_)
          have lp47 : ∀ (q9 i : Nat) (H : Heap) (locs : List Loc) (ls : Array Slot), i + q9 = 13056 → va_P (dC, dI) clA (wMd b k5 0 x y 0 vl vb (fill0 fN (vp_nar .byte 0) i) (fill0 fK (vp_nar .byte 0) i) fW fL fM fE fR fF fS fP fY fT fJ fI) H → va_D (kx_A (wMd b k5 vT vn vr vo vl vb fN fK fW fL fM fE fR fF fS fP fY fT fJ fI)) (wMd b k5 0 x y 0 vl vb (fill0 fN (vp_nar .byte 0) i) (fill0 fK (vp_nar .byte 0) i) fW fL fM fE fR fF fS fP fY fT fJ fI) → va_S (kx_A (wMd b k5 vT vn vr vo vl vb fN fK fW fL fM fE fR fF fS fP fY fT fJ fI)) s.heap H locs → lv_has ls 4 [(3, .int (nI i)), (0, .ref (b 0)), (1, .int x), (2, .int y)] → W p l e (headSpec w_M_lay ({ frames := 3, cells := 0, slots := 0, locals := 73 })).room s m ([.ref (b 0), .int x, .int y] : List Value).toArray below meth c H locs 0 0 (MQ below (kx_Q (dC, dI) clA (wMd b k5 vT vn vr vo vl vb fN fK fW fL fM fE fR fF fS fP fY fT fJ fI) (wMS b k5 (m_lay vT vn vr vo vl vb fN fK fW fL fM fE fR fF fS fP fY fT fJ fI x y).1) (some (.int (m_lay vT vn vr vo vl vb fN fK fW fL fM fE fR fF fS fP fY fT fJ fI x y).2))) ([.ref (b 0), .int x, .int y] : List Value).toArray s 0 0 (kx_A (wMd b k5 vT vn vr vo vl vb fN fK fW fL fM fE fR fF fS fP fY fT fJ fI))) (F0 m 47 ls []) := by
            intro q9
            induction q9 with
            | zero =>
              intro i H locs ls hi hP hD hS hl
              have hi : 13056 = i := by omega
              subst hi
              refine lv_iload_n hx hb d_M_lay_47 rfl (lv_at hl 0 rfl) ?_
              refine lv_sipush (v := 13056) hx hb d_M_lay_48 (by decide) ?_
              refine lv_icmp_ge (tgt := 74) hx hb d_M_lay_51 (by decide) (fun hc => ?_) (fun hc => ?_)
              · refine lv_iconst (v := 0) hx hb d_M_lay_74 (by decide) ?_
                refine lv_istore_n (lv' := [(3, .int 0), (0, .ref (b 0)), (1, .int x), (2, .int y)]) hx hb d_M_lay_75 rfl hl (by decide) rfl (fun ls hl => ?_)
                have lp76 : ∀ (q9 i : Nat) (H : Heap) (locs : List Loc) (ls : Array Slot), i + q9 = 204 → va_P (dC, dI) clA (wMd b k5 0 x y 0 vl vb (fill0 fN (vp_nar .byte 0) 13056) (fill0 fK (vp_nar .byte 0) 13056) (fill0 fW 0 i) fL fM fE fR fF fS fP fY fT fJ (fill0 fI 0 i)) H → va_D (kx_A (wMd b k5 vT vn vr vo vl vb fN fK fW fL fM fE fR fF fS fP fY fT fJ fI)) (wMd b k5 0 x y 0 vl vb (fill0 fN (vp_nar .byte 0) 13056) (fill0 fK (vp_nar .byte 0) 13056) (fill0 fW 0 i) fL fM fE fR fF fS fP fY fT fJ (fill0 fI 0 i)) → va_S (kx_A (wMd b k5 vT vn vr vo vl vb fN fK fW fL fM fE fR fF fS fP fY fT fJ fI)) s.heap H locs → lv_has ls 4 [(3, .int (nI i)), (0, .ref (b 0)), (1, .int x), (2, .int y)] → W p l e (headSpec w_M_lay ({ frames := 3, cells := 0, slots := 0, locals := 73 })).room s m ([.ref (b 0), .int x, .int y] : List Value).toArray below meth c H locs 0 0 (MQ below (kx_Q (dC, dI) clA (wMd b k5 vT vn vr vo vl vb fN fK fW fL fM fE fR fF fS fP fY fT fJ fI) (wMS b k5 (m_lay vT vn vr vo vl vb fN fK fW fL fM fE fR fF fS fP fY fT fJ fI x y).1) (some (.int (m_lay vT vn vr vo vl vb fN fK fW fL fM fE fR fF fS fP fY fT fJ fI x y).2))) ([.ref (b 0), .int x, .int y] : List Value).toArray s 0 0 (kx_A (wMd b k5 vT vn vr vo vl vb fN fK fW fL fM fE fR fF fS fP fY fT fJ fI))) (F0 m 76 ls []) := by
                  intro q9
                  induction q9 with
                  | zero =>
                    intro i H locs ls hi hP hD hS hl
                    have hi : 204 = i := by omega
                    subst hi
                    refine lv_iload_n hx hb d_M_lay_76 rfl (lv_at hl 0 rfl) ?_
                    refine lv_sipush (v := 204) hx hb d_M_lay_77 (by decide) ?_
                    refine lv_icmp_ge (tgt := 103) hx hb d_M_lay_80 (by decide) (fun hc => ?_) (fun hc => ?_)
                    · refine lv_iconst (v := 0) hx hb d_M_lay_103 (by decide) ?_
                      refine lv_istore_n (lv' := [(3, .int 0), (0, .ref (b 0)), (1, .int x), (2, .int y)]) hx hb d_M_lay_104 rfl hl (by decide) rfl (fun ls hl => ?_)
                      have lp105 : ∀ (q9 i : Nat) (H : Heap) (locs : List Loc) (ls : Array Slot), i + q9 = 320 → va_P (dC, dI) clA (wMd b k5 0 x y 0 vl vb (fill0 fN (vp_nar .byte 0) 13056) (fill0 fK (vp_nar .byte 0) 13056) (fill0 fW 0 204) fL fM fE (fill0 fR 0 i) fF fS fP fY fT fJ (fill0 fI 0 204)) H → va_D (kx_A (wMd b k5 vT vn vr vo vl vb fN fK fW fL fM fE fR fF fS fP fY fT fJ fI)) (wMd b k5 0 x y 0 vl vb (fill0 fN (vp_nar .byte 0) 13056) (fill0 fK (vp_nar .byte 0) 13056) (fill0 fW 0 204) fL fM fE (fill0 fR 0 i) fF fS fP fY fT fJ (fill0 fI 0 204)) → va_S (kx_A (wMd b k5 vT vn vr vo vl vb fN fK fW fL fM fE fR fF fS fP fY fT fJ fI)) s.heap H locs → lv_has ls 4 [(3, .int (nI i)), (0, .ref (b 0)), (1, .int x), (2, .int y)] → W p l e (headSpec w_M_lay ({ frames := 3, cells := 0, slots := 0, locals := 73 })).room s m ([.ref (b 0), .int x, .int y] : List Value).toArray below meth c H locs 0 0 (MQ below (kx_Q (dC, dI) clA (wMd b k5 vT vn vr vo vl vb fN fK fW fL fM fE fR fF fS fP fY fT fJ fI) (wMS b k5 (m_lay vT vn vr vo vl vb fN fK fW fL fM fE fR fF fS fP fY fT fJ fI x y).1) (some (.int (m_lay vT vn vr vo vl vb fN fK fW fL fM fE fR fF fS fP fY fT fJ fI x y).2))) ([.ref (b 0), .int x, .int y] : List Value).toArray s 0 0 (kx_A (wMd b k5 vT vn vr vo vl vb fN fK fW fL fM fE fR fF fS fP fY fT fJ fI))) (F0 m 105 ls []) := by
                        intro q9
                        induction q9 with
                        | zero =>
                          intro i H locs ls hi hP hD hS hl
                          have hi : 320 = i := by omega
                          subst hi
                          refine lv_iload_n hx hb d_M_lay_105 rfl (lv_at hl 0 rfl) ?_
                          refine lv_sipush (v := 320) hx hb d_M_lay_106 (by decide) ?_
                          refine lv_icmp_ge (tgt := 125) hx hb d_M_lay_109 (by decide) (fun hc => ?_) (fun hc => ?_)
                          · refine lv_aload_n hx hb d_M_lay_125 rfl (lv_at hl 1 rfl) ?_
                            refine lv_iconst (v := 0) hx hb d_M_lay_126 (by decide) ?_
                            refine kx_put (ws' := (wMd b k5 0 x y 0 0 vb (fill0 fN (vp_nar .byte 0) 13056) (fill0 fK (vp_nar .byte 0) 13056) (fill0 fW 0 204) fL fM fE (fill0 fR 0 320) fF fS fP fY fT fJ (fill0 fI 0 204))) (D := (dC, dI)) (ci := 3) (v := .int 0) (ty := .int) (C := R_M) (T := T_M) (N := 20) hx hb hts wu_M ty_M ok_M nm_M hown hK hP hD hS 0 rfl rfl 13 (by decide) (hts _ wf_M_72) (fun _ h9 => h9) rfl (by decide +kernel) rfl rfl (Nat.le_of_ble_eq_true rfl) rfl d_M_lay_127 (fun H locs hP hD hS => ?_)
                            refine lv_aload_n hx hb d_M_lay_130 rfl (lv_at hl 1 rfl) ?_
                            refine lv_iconst (v := 0) hx hb d_M_lay_131 (by decide) ?_
                            refine kx_put (ws' := (wMd b k5 0 x y 0 0 0 (fill0 fN (vp_nar .byte 0) 13056) (fill0 fK (vp_nar .byte 0) 13056) (fill0 fW 0 204) fL fM fE (fill0 fR 0 320) fF fS fP fY fT fJ (fill0 fI 0 204))) (D := (dC, dI)) (ci := 3) (v := .int 0) (ty := .int) (C := R_M) (T := T_M) (N := 20) hx hb hts wu_M ty_M ok_M nm_M hown hK hP hD hS 0 rfl rfl 14 (by decide) (hts _ wf_M_75) (fun _ h9 => h9) rfl (by decide +kernel) rfl rfl (Nat.le_of_ble_eq_true rfl) rfl d_M_lay_132 (fun H locs hP hD hS => ?_)
                            refine lv_aload_n hx hb d_M_lay_135 rfl (lv_at hl 1 rfl) ?_
                            refine va_get (D := (dC, dI)) (ci := 3) (v := .ref (b 10)) (C := R_M) (T := T_M) (N := 20) hx hb hts wu_M hown hK hP 0 rfl rfl 15 (by decide) (hts _ wf_M_39) (fun _ h9 => h9) rfl d_M_lay_136 ?_
                            refine lv_iconst (v := 0) hx hb d_M_lay_139 (by decide) ?_
                            refine lv_iconst (v := 0) hx hb d_M_lay_140 (by decide) ?_
                            refine kx_iast (ws' := (wMd b k5 0 x y 0 0 0 (fill0 fN (vp_nar .byte 0) 13056) (fill0 fK (vp_nar .byte 0) 13056) (fill0 fW 0 204) fL fM fE (fill0 fR 0 320) fF fS (upd fP 0 0) fY fT fJ (fill0 fI 0 204))) hx hb hK hP hD hS 10 0 rfl rfl 0 (by decide) (by omega) (by omega) rfl d_M_lay_141 (fun H locs hP hD hS => ?_)
                            refine lv_iconst (v := 0) hx hb d_M_lay_142 (by decide) ?_
                            refine lv_istore_n (lv' := [(3, .int 0), (0, .ref (b 0)), (1, .int x), (2, .int y)]) hx hb d_M_lay_143 rfl hl (by decide) rfl (fun ls hl => ?_)
                            have lp144 : ∀ (q9 i : Nat) (H : Heap) (locs : List Loc) (ls : Array Slot), i + q9 = 8 → va_P (dC, dI) clA (wMd b k5 0 x y 0 0 0 (fill0 fN (vp_nar .byte 0) 13056) (fill0 fK (vp_nar .byte 0) 13056) (fill0 fW 0 204) (fill0 fL 0 i) (fill0 fM y i) fE (fill0 fR 0 320) (mWipes fF i) (mWipes fS i) (upd fP 0 0) fY fT fJ (fill0 fI 0 204)) H → va_D (kx_A (wMd b k5 vT vn vr vo vl vb fN fK fW fL fM fE fR fF fS fP fY fT fJ fI)) (wMd b k5 0 x y 0 0 0 (fill0 fN (vp_nar .byte 0) 13056) (fill0 fK (vp_nar .byte 0) 13056) (fill0 fW 0 204) (fill0 fL 0 i) (fill0 fM y i) fE (fill0 fR 0 320) (mWipes fF i) (mWipes fS i) (upd fP 0 0) fY fT fJ (fill0 fI 0 204)) → va_S (kx_A (wMd b k5 vT vn vr vo vl vb fN fK fW fL fM fE fR fF fS fP fY fT fJ fI)) s.heap H locs → lv_has ls 4 [(3, .int (nI i)), (0, .ref (b 0)), (1, .int x), (2, .int y)] → W p l e (headSpec w_M_lay ({ frames := 3, cells := 0, slots := 0, locals := 73 })).room s m ([.ref (b 0), .int x, .int y] : List Value).toArray below meth c H locs 0 0 (MQ below (kx_Q (dC, dI) clA (wMd b k5 vT vn vr vo vl vb fN fK fW fL fM fE fR fF fS fP fY fT fJ fI) (wMS b k5 (m_lay vT vn vr vo vl vb fN fK fW fL fM fE fR fF fS fP fY fT fJ fI x y).1) (some (.int (m_lay vT vn vr vo vl vb fN fK fW fL fM fE fR fF fS fP fY fT fJ fI x y).2))) ([.ref (b 0), .int x, .int y] : List Value).toArray s 0 0 (kx_A (wMd b k5 vT vn vr vo vl vb fN fK fW fL fM fE fR fF fS fP fY fT fJ fI))) (F0 m 144 ls []) := by
                              intro q9
                              induction q9 with
                              | zero =>
                                intro i H locs ls hi hP hD hS hl
                                have hi : 8 = i := by omega
                                subst hi
                                refine lv_iload_n hx hb d_M_lay_144 rfl (lv_at hl 0 rfl) ?_
                                refine lv_bipush (v := 8) hx hb d_M_lay_145 (by decide) ?_
                                refine lv_icmp_ge (tgt := 178) hx hb d_M_lay_147 (by decide) (fun hc => ?_) (fun hc => ?_)
                                · refine lv_aload_n hx hb d_M_lay_178 rfl (lv_at hl 1 rfl) ?_
                                  refine lv_iconst (v := 0) hx hb d_M_lay_179 (by decide) ?_
                                  refine kx_VW (w1 := (wMd b k5 0 x y 0 (0 + 1) (0 + 1) (fill0 fN (vp_nar .byte 0) 13056) (fill0 fK (vp_nar .byte 0) 13056) (fill0 fW 0 204) (fill0 fL 0 8) (fill0 fM y 8) fE (fill0 fR 0 320) ((mSp (fill0 fL 0 8) (0 + 1) 1 0 0 0 (mWipes fF 8) (mWipes fS 8) (x.toNatClampNeg)).1) ((mSp (fill0 fL 0 8) (0 + 1) 1 0 0 0 (mWipes fF 8) (mWipes fS 8) (x.toNatClampNeg)).2.1) (upd (upd fP 0 0) (0 + 1) (1 - (upd fP 0 0) 0)) (upd fY (0 + 1) 0) (mTell (fill0 fM y 8) (0 + 1) fT 8) fJ (fill0 fI 0 204))) (As := [.int 0]) (rest := []) ⟨hx, hb, hml, hown, hts⟩ (k_M_label l dC dI k5 b 0 x y 0 0 0 (fill0 fN (vp_nar .byte 0) 13056) (fill0 fK (vp_nar .byte 0) 13056) (fill0 fW 0 204) (fill0 fL 0 8) (fill0 fM y 8) fE (fill0 fR 0 320) (mWipes fF 8) (mWipes fS 8) (upd fP 0 0) fY fT fJ (fill0 fI 0 204) 0 rfl 0 0 rfl rfl (by omega) (by omega) 1 (by omega) (by rw [pk_us]; rfl) (x.toNatClampNeg) (lay_n hc_1 hc_2).1 (lay_n hc_1 hc_2).2.1 (lay_n hc_1 hc_2).2.2) (cwV 1 hts (goodV wm_M_82 wn_M_label ws_M_label wi_M wc_M_label) rfl rfl rfl (by decide +kernel) ⟨Nat.le_of_ble_eq_true rfl, Nat.le_of_ble_eq_true rfl⟩) ⟨Nat.zero_le _, Nat.zero_le _⟩ hK hP hD hS 0 rfl rfl rfl rfl hl.1 rfl (Nat.le_of_ble_eq_true rfl) d_M_lay_180 (fun H locs hP hD hS => ?_)
                                  refine W.eq (g2 := F0 m 183 ls []) rfl ?_
                                  refine lv_aload_n hx hb d_M_lay_183 rfl (lv_at hl 1 rfl) ?_
                                  refine kx_VRW (As := []) (rest := []) ⟨hx, hb, hml, hown, hts⟩ (k_M_blocks l dC dI k5 b 0 x y 0 (0 + 1) (0 + 1) (fill0 fN (vp_nar .byte 0) 13056) (fill0 fK (vp_nar .byte 0) 13056) (fill0 fW 0 204) (fill0 fL 0 8) (fill0 fM y 8) fE (fill0 fR 0 320) ((mSp (fill0 fL 0 8) (0 + 1) 1 0 0 0 (mWipes fF 8) (mWipes fS 8) (x.toNatClampNeg)).1) ((mSp (fill0 fL 0 8) (0 + 1) 1 0 0 0 (mWipes fF 8) (mWipes fS 8) (x.toNatClampNeg)).2.1) (upd (upd fP 0 0) (0 + 1) (1 - (upd fP 0 0) 0)) (upd fY (0 + 1) 0) (mTell (fill0 fM y 8) (0 + 1) fT 8) fJ (fill0 fI 0 204) ) (cwV 0 hts (goodV wm_M_86 wn_M_blocks ws_M_blocks wi_M wc_M_blocks) rfl rfl rfl (by decide +kernel) ⟨Nat.le_of_ble_eq_true rfl, Nat.le_of_ble_eq_true rfl⟩) ⟨Nat.zero_le _, Nat.zero_le _⟩ hK hP hD 0 rfl rfl rfl hl.1 rfl (Nat.le_of_ble_eq_true rfl) d_M_lay_184 ?_
                                  refine W.eq (g2 := F0 m 187 ls [.int ((x - 2) * (y - 6))]) rfl ?_
                                  have e : m_lay vT vn vr vo vl vb fN fK fW fL fM fE fR fF fS fP fY fT fJ fI x y = ((0, x, y, 0, (0 + 1), (0 + 1), (fill0 fN (vp_nar .byte 0) 13056), (fill0 fK (vp_nar .byte 0) 13056), (fill0 fW 0 204), (fill0 fL 0 8), (fill0 fM y 8), fE, (fill0 fR 0 320), (mSp (fill0 fL 0 8) (0 + 1) 1 0 0 0 (mWipes fF 8) (mWipes fS 8) (x.toNatClampNeg)).1, (mSp (fill0 fL 0 8) (0 + 1) 1 0 0 0 (mWipes fF 8) (mWipes fS 8) (x.toNatClampNeg)).2.1, (upd (upd fP 0 0) (0 + 1) (1 - (upd fP 0 0) 0)), (upd fY (0 + 1) 0), (mTell (fill0 fM y 8) (0 + 1) fT 8), fJ, (fill0 fI 0 204)), ((x - 2) * (y - 6))) := by unfold m_lay; rw [if_neg hc_1, if_neg hc_2, if_neg hc_3, if_pos hc_4]
                                  exact W.iret (v := ((x - 2) * (y - 6))) hx hb hr (fun t ht hW => kx_Qi (by rw [e]) ht hP (by rw [e]) hS rfl) hS.2.2 d_M_lay_187
                                · exact absurd (by rw [show (8 : Int32) = nI 8 from rfl]; exact nI_le (by omega) (by omega)) hc
                              | succ q9 ih =>
                                intro i H locs ls hi hP hD hS hl
                                refine lv_iload_n hx hb d_M_lay_144 rfl (lv_at hl 0 rfl) ?_
                                refine lv_bipush (v := 8) hx hb d_M_lay_145 (by decide) ?_
                                refine lv_icmp_ge (tgt := 178) hx hb d_M_lay_147 (by decide) (fun hc => ?_) (fun hc => ?_)
                                · exact absurd hc (by rw [show (8 : Int32) = nI 8 from rfl]; exact nI_ge (by omega) (by omega))
                                · refine lv_aload_n hx hb d_M_lay_150 rfl (lv_at hl 1 rfl) ?_
                                  refine va_get (D := (dC, dI)) (ci := 3) (v := .ref (b 4)) (C := R_M) (T := T_M) (N := 20) hx hb hts wu_M hown hK hP 0 rfl rfl 7 (by decide) (hts _ wf_M_20) (fun _ h9 => h9) rfl d_M_lay_151 ?_
                                  refine lv_iload_n hx hb d_M_lay_154 rfl (lv_at hl 0 rfl) ?_
                                  refine lv_iconst (v := 0) hx hb d_M_lay_155 (by decide) ?_
                                  refine kx_zast (ws' := (wMd b k5 0 x y 0 0 0 (fill0 fN (vp_nar .byte 0) 13056) (fill0 fK (vp_nar .byte 0) 13056) (fill0 fW 0 204) (fill0 fL 0 (i + 1)) (fill0 fM y i) fE (fill0 fR 0 320) (mWipes fF i) (mWipes fS i) (upd fP 0 0) fY fT fJ (fill0 fI 0 204))) hx hb hK hP hD hS 4 3 rfl rfl i (rfl) (by omega) (by omega) rfl rfl d_M_lay_156 (fun H locs hP hD hS => ?_)
                                  refine lv_aload_n hx hb d_M_lay_157 rfl (lv_at hl 1 rfl) ?_
                                  refine va_get (D := (dC, dI)) (ci := 3) (v := .ref (b 5)) (C := R_M) (T := T_M) (N := 20) hx hb hts wu_M hown hK hP 0 rfl rfl 8 (by decide) (hts _ wf_M_23) (fun _ h9 => h9) rfl d_M_lay_158 ?_
                                  refine lv_iload_n hx hb d_M_lay_161 rfl (lv_at hl 0 rfl) ?_
                                  refine lv_aload_n hx hb d_M_lay_162 rfl (lv_at hl 1 rfl) ?_
                                  refine va_get (D := (dC, dI)) (ci := 3) (v := .int y) (C := R_M) (T := T_M) (N := 20) hx hb hts wu_M hown hK hP 0 rfl rfl 2 (by decide) (hts _ wf_M_65) (fun _ h9 => h9) rfl d_M_lay_163 ?_
                                  refine kx_iast (ws' := (wMd b k5 0 x y 0 0 0 (fill0 fN (vp_nar .byte 0) 13056) (fill0 fK (vp_nar .byte 0) 13056) (fill0 fW 0 204) (fill0 fL 0 (i + 1)) (fill0 fM y (i + 1)) fE (fill0 fR 0 320) (mWipes fF i) (mWipes fS i) (upd fP 0 0) fY fT fJ (fill0 fI 0 204))) hx hb hK hP hD hS 5 0 rfl rfl i (rfl) (by omega) (by omega) rfl d_M_lay_166 (fun H locs hP hD hS => ?_)
                                  refine lv_aload_n hx hb d_M_lay_167 rfl (lv_at hl 1 rfl) ?_
                                  refine lv_iload_n hx hb d_M_lay_168 rfl (lv_at hl 0 rfl) ?_
                                  refine kx_VW (w1 := (wMd b k5 0 x y 0 0 0 (fill0 fN (vp_nar .byte 0) 13056) (fill0 fK (vp_nar .byte 0) 13056) (fill0 fW 0 204) (fill0 fL 0 (i + 1)) (fill0 fM y (i + 1)) fE (fill0 fR 0 320) (mWipes fF (i + 1)) (mWipes fS (i + 1)) (upd fP 0 0) fY fT fJ (fill0 fI 0 204))) (As := [.int (nI i)]) (rest := []) ⟨hx, hb, hml, hown, hts⟩ (k_M_wipe l dC dI k5 b 0 x y 0 0 0 (fill0 fN (vp_nar .byte 0) 13056) (fill0 fK (vp_nar .byte 0) 13056) (fill0 fW 0 204) (fill0 fL 0 (i + 1)) (fill0 fM y (i + 1)) fE (fill0 fR 0 320) (mWipes fF i) (mWipes fS i) (upd fP 0 0) fY fT fJ (fill0 fI 0 204) i (by omega)) (cwV 1 hts (goodV wm_M_78 wn_M_wipe ws_M_wipe wi_M wc_M_wipe) rfl rfl rfl (by decide +kernel) ⟨Nat.le_of_ble_eq_true rfl, Nat.le_of_ble_eq_true rfl⟩) ⟨Nat.zero_le _, Nat.zero_le _⟩ hK hP hD hS 0 rfl rfl rfl rfl hl.1 rfl (Nat.le_of_ble_eq_true rfl) d_M_lay_169 (fun H locs hP hD hS => ?_)
                                  refine W.eq (g2 := F0 m 172 ls []) rfl ?_
                                  refine lv_iinc (v := nI (i + 1)) (lv' := [(3, .int (nI (i + 1))), (0, .ref (b 0)), (1, .int x), (2, .int y)]) hx hb d_M_lay_172 hl (k := 0) rfl (nI_1 i) (by decide) rfl (fun ls hl => ?_)
                                  refine lv_goto (tgt := 144) hx hb d_M_lay_175 (by decide) ?_
                                  exact ih (i + 1) H locs ls (by omega) hP hD hS (lv_sub hl [0, 1, 2, 3] rfl)
                            exact lp144 8 0 H locs ls (by omega) hP hD hS (lv_sub hl [0, 1, 2, 3] rfl)
                          · exact absurd (by rw [show (320 : Int32) = nI 320 from rfl]; exact nI_le (by omega) (by omega)) hc
                        | succ q9 ih =>
                          intro i H locs ls hi hP hD hS hl
                          refine lv_iload_n hx hb d_M_lay_105 rfl (lv_at hl 0 rfl) ?_
                          refine lv_sipush (v := 320) hx hb d_M_lay_106 (by decide) ?_
                          refine lv_icmp_ge (tgt := 125) hx hb d_M_lay_109 (by decide) (fun hc => ?_) (fun hc => ?_)
                          · exact absurd hc (by rw [show (320 : Int32) = nI 320 from rfl]; exact nI_ge (by omega) (by omega))
                          · refine lv_aload_n hx hb d_M_lay_112 rfl (lv_at hl 1 rfl) ?_
                            refine va_get (D := (dC, dI)) (ci := 3) (v := .ref (b 7)) (C := R_M) (T := T_M) (N := 20) hx hb hts wu_M hown hK hP 0 rfl rfl 10 (by decide) (hts _ wf_M_30) (fun _ h9 => h9) rfl d_M_lay_113 ?_
                            refine lv_iload_n hx hb d_M_lay_116 rfl (lv_at hl 0 rfl) ?_
                            refine lv_iconst (v := 0) hx hb d_M_lay_117 (by decide) ?_
                            refine kx_zast (ws' := (wMd b k5 0 x y 0 vl vb (fill0 fN (vp_nar .byte 0) 13056) (fill0 fK (vp_nar .byte 0) 13056) (fill0 fW 0 204) fL fM fE (fill0 fR 0 (i + 1)) fF fS fP fY fT fJ (fill0 fI 0 204))) hx hb hK hP hD hS 7 3 rfl rfl i (rfl) (by omega) (by omega) rfl rfl d_M_lay_118 (fun H locs hP hD hS => ?_)
                            refine lv_iinc (v := nI (i + 1)) (lv' := [(3, .int (nI (i + 1))), (0, .ref (b 0)), (1, .int x), (2, .int y)]) hx hb d_M_lay_119 hl (k := 0) rfl (nI_1 i) (by decide) rfl (fun ls hl => ?_)
                            refine lv_goto (tgt := 105) hx hb d_M_lay_122 (by decide) ?_
                            exact ih (i + 1) H locs ls (by omega) hP hD hS (lv_sub hl [0, 1, 2, 3] rfl)
                      exact lp105 320 0 H locs ls (by omega) hP hD hS (lv_sub hl [0, 1, 2, 3] rfl)
                    · exact absurd (by rw [show (204 : Int32) = nI 204 from rfl]; exact nI_le (by omega) (by omega)) hc
                  | succ q9 ih =>
                    intro i H locs ls hi hP hD hS hl
                    refine lv_iload_n hx hb d_M_lay_76 rfl (lv_at hl 0 rfl) ?_
                    refine lv_sipush (v := 204) hx hb d_M_lay_77 (by decide) ?_
                    refine lv_icmp_ge (tgt := 103) hx hb d_M_lay_80 (by decide) (fun hc => ?_) (fun hc => ?_)
                    · exact absurd hc (by rw [show (204 : Int32) = nI 204 from rfl]; exact nI_ge (by omega) (by omega))
                    · refine lv_aload_n hx hb d_M_lay_83 rfl (lv_at hl 1 rfl) ?_
                      refine va_get (D := (dC, dI)) (ci := 3) (v := .ref (b 3)) (C := R_M) (T := T_M) (N := 20) hx hb hts wu_M hown hK hP 0 rfl rfl 6 (by decide) (hts _ wf_M_16) (fun _ h9 => h9) rfl d_M_lay_84 ?_
                      refine lv_iload_n hx hb d_M_lay_87 rfl (lv_at hl 0 rfl) ?_
                      refine lv_iconst (v := 0) hx hb d_M_lay_88 (by decide) ?_
                      refine kx_zast (ws' := (wMd b k5 0 x y 0 vl vb (fill0 fN (vp_nar .byte 0) 13056) (fill0 fK (vp_nar .byte 0) 13056) (fill0 fW 0 (i + 1)) fL fM fE fR fF fS fP fY fT fJ (fill0 fI 0 i))) hx hb hK hP hD hS 3 3 rfl rfl i (rfl) (by omega) (by omega) rfl rfl d_M_lay_89 (fun H locs hP hD hS => ?_)
                      refine lv_aload_n hx hb d_M_lay_90 rfl (lv_at hl 1 rfl) ?_
                      refine va_get (D := (dC, dI)) (ci := 3) (v := .ref (b 14)) (C := R_M) (T := T_M) (N := 20) hx hb hts wu_M hown hK hP 0 rfl rfl 19 (by decide) (hts _ wf_M_51) (fun _ h9 => h9) rfl d_M_lay_91 ?_
                      refine lv_iload_n hx hb d_M_lay_94 rfl (lv_at hl 0 rfl) ?_
                      refine lv_iconst (v := 0) hx hb d_M_lay_95 (by decide) ?_
                      refine kx_zast (ws' := (wMd b k5 0 x y 0 vl vb (fill0 fN (vp_nar .byte 0) 13056) (fill0 fK (vp_nar .byte 0) 13056) (fill0 fW 0 (i + 1)) fL fM fE fR fF fS fP fY fT fJ (fill0 fI 0 (i + 1)))) hx hb hK hP hD hS 14 3 rfl rfl i (rfl) (by omega) (by omega) rfl rfl d_M_lay_96 (fun H locs hP hD hS => ?_)
                      refine lv_iinc (v := nI (i + 1)) (lv' := [(3, .int (nI (i + 1))), (0, .ref (b 0)), (1, .int x), (2, .int y)]) hx hb d_M_lay_97 hl (k := 0) rfl (nI_1 i) (by decide) rfl (fun ls hl => ?_)
                      refine lv_goto (tgt := 76) hx hb d_M_lay_100 (by decide) ?_
                      exact ih (i + 1) H locs ls (by omega) hP hD hS (lv_sub hl [0, 1, 2, 3] rfl)
                exact lp76 204 0 H locs ls (by omega) hP hD hS (lv_sub hl [0, 1, 2, 3] rfl)
              · exact absurd (by rw [show (13056 : Int32) = nI 13056 from rfl]; exact nI_le (by omega) (by omega)) hc
            | succ q9 ih =>
              intro i H locs ls hi hP hD hS hl
              refine lv_iload_n hx hb d_M_lay_47 rfl (lv_at hl 0 rfl) ?_
              refine lv_sipush (v := 13056) hx hb d_M_lay_48 (by decide) ?_
              refine lv_icmp_ge (tgt := 74) hx hb d_M_lay_51 (by decide) (fun hc => ?_) (fun hc => ?_)
              · exact absurd hc (by rw [show (13056 : Int32) = nI 13056 from rfl]; exact nI_ge (by omega) (by omega))
              · refine lv_aload_n hx hb d_M_lay_54 rfl (lv_at hl 1 rfl) ?_
                refine va_get (D := (dC, dI)) (ci := 3) (v := .ref (b 1)) (C := R_M) (T := T_M) (N := 20) hx hb hts wu_M hown hK hP 0 rfl rfl 4 (by decide) (hts _ wf_M_7) (fun _ h9 => h9) rfl d_M_lay_55 ?_
                refine lv_iload_n hx hb d_M_lay_58 rfl (lv_at hl 0 rfl) ?_
                refine lv_iconst (v := 0) hx hb d_M_lay_59 (by decide) ?_
                refine kx_bast (ws' := (wMd b k5 0 x y 0 vl vb (fill0 fN (vp_nar .byte 0) (i + 1)) (fill0 fK (vp_nar .byte 0) i) fW fL fM fE fR fF fS fP fY fT fJ fI)) hx hb hK hP hD hS 1 2 rfl rfl i (rfl) (by omega) (by omega) rfl d_M_lay_60 (fun H locs hP hD hS => ?_)
                refine lv_aload_n hx hb d_M_lay_61 rfl (lv_at hl 1 rfl) ?_
                refine va_get (D := (dC, dI)) (ci := 3) (v := .ref (b 2)) (C := R_M) (T := T_M) (N := 20) hx hb hts wu_M hown hK hP 0 rfl rfl 5 (by decide) (hts _ wf_M_13) (fun _ h9 => h9) rfl d_M_lay_62 ?_
                refine lv_iload_n hx hb d_M_lay_65 rfl (lv_at hl 0 rfl) ?_
                refine lv_iconst (v := 0) hx hb d_M_lay_66 (by decide) ?_
                refine kx_bast (ws' := (wMd b k5 0 x y 0 vl vb (fill0 fN (vp_nar .byte 0) (i + 1)) (fill0 fK (vp_nar .byte 0) (i + 1)) fW fL fM fE fR fF fS fP fY fT fJ fI)) hx hb hK hP hD hS 2 2 rfl rfl i (rfl) (by omega) (by omega) rfl d_M_lay_67 (fun H locs hP hD hS => ?_)
                refine lv_iinc (v := nI (i + 1)) (lv' := [(3, .int (nI (i + 1))), (0, .ref (b 0)), (1, .int x), (2, .int y)]) hx hb d_M_lay_68 hl (k := 0) rfl (nI_1 i) (by decide) rfl (fun ls hl => ?_)
                refine lv_goto (tgt := 47) hx hb d_M_lay_71 (by decide) ?_
                exact ih (i + 1) H locs ls (by omega) hP hD hS (lv_sub hl [0, 1, 2, 3] rfl)
          exact lp47 13056 0 H locs ls (by omega) hP hD hS (lv_sub hl [0, 1, 2, 3] rfl)
        · refine lv_iconst (v := (-1)) hx hb d_M_lay_28 (by decide) ?_
          have e : m_lay vT vn vr vo vl vb fN fK fW fL fM fE fR fF fS fP fY fT fJ fI x y = ((0, vn, vr, vo, vl, vb, fN, fK, fW, fL, fM, fE, fR, fF, fS, fP, fY, fT, fJ, fI), (-1)) := by unfold m_lay; rw [if_neg hc_1, if_neg hc_2, if_neg hc_3, if_neg hc_4]
          exact W.iret (v := (-1)) hx hb hr (fun t ht hW => kx_Qi (by rw [e]) ht hP (by rw [e]) hS rfl) hS.2.2 d_M_lay_29
