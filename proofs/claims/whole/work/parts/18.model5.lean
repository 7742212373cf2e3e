def m_lose (vT vn vr vo vl vb : Int32) (fN fK fW fL fM fE fR fF fS fP fY fT fJ fI : FF) (n r : Nat) (d : Int32) : MT × Int32 := (if (bI (decide (d < 0 ∨ ¬ d < vn))) = 0 then (if (fL (d.toNatClampNeg)) = 0 then (if mMiss fL fM fR (d.toNatClampNeg) n (r - 2) = true then ((0, vn, vr, vo, vl, vb, fN, fK, fW, (upd fL (d.toNatClampNeg) 1), fM, fE, (fillF fR 0 (40 * (d.toNatClampNeg)) 40), (upd (upd fF (2 * (d.toNatClampNeg)) 0) (2 * (d.toNatClampNeg) + 1) 0), (upd (upd fS (2 * (d.toNatClampNeg)) 0) (2 * (d.toNatClampNeg) + 1) 0), fP, fY, fT, fJ, fI), (nI (cnt (fun q9 => nz ((upd fL (d.toNatClampNeg) 1) q9)) n))) else ((0, vn, vr, vo, vl, vb, fN, fK, fW, fL, fM, fE, fR, fF, fS, fP, fY, fT, fJ, fI), (-3))) else ((0, vn, vr, vo, vl, vb, fN, fK, fW, fL, fM, fE, fR, fF, fS, fP, fY, fT, fJ, fI), (-1))) else ((0, vn, vr, vo, vl, vb, fN, fK, fW, fL, fM, fE, fR, fF, fS, fP, fY, fT, fJ, fI), (-1)))
set_option maxHeartbeats 4000000 in
set_option maxRecDepth 100000 in
theorem k_M_lose (l : Launch) (dC : Nat → ClassId) (dI : Nat → Nat → Nat) (k5 : Nat → ClassId) (b : Nat → Nat) (vT vn vr vo vl vb : Int32) (fN fK fW fL fM fE fR fF fS fP fY fT fJ fI : FF) (n r : Nat) (d : Int32) (hn : vn = nI n) (hn4 : 4 ≤ n) (hn8 : n ≤ 8) (er : vr = nI r) (hr2 : 12 ≤ r) (hr40 : r ≤ 40) : Met l y_M_lose w_M_lose ({ frames := 2, cells := 0, slots := 0, locals := 45 }) (kx_Pc (dC, dI) clA (tyL k5) (wMd b k5 vT vn vr vo vl vb fN fK fW fL fM fE fR fF fS fP fY fT fJ fI) [.ref (b 0), .int d]) (kx_Q (dC, dI) clA (wMd b k5 vT vn vr vo vl vb fN fK fW fL fM fE fR fF fS fP fY fT fJ fI) (wMS b k5 (m_lose vT vn vr vo vl vb fN fK fW fL fM fE fR fF fS fP fY fT fJ fI n r d).1) (some (.int (m_lose vT vn vr vo vl vb fN fK fW fL fM fE fR fF fS fP fY fT fJ fI n r d).2))) 0 0 (kx_A (wMd b k5 vT vn vr vo vl vb fN fK fW fL fM fE fR fF fS fP fY fT fJ fI)) := by
  refine Met.ofW (cc := c_M_lose) (maxL := 3) (ret := (some .int)) (by decide) rfl ?_
  intro p e s m args below meth c s₁ B hml hv
  obtain ⟨rfl, hP, hK, hD0⟩ := hv
  have hx := B.exec
  have hb := B.bytes
  have hr := B.returns
  have hts : ∀ w ∈ wsA, w.before _ s = true := fun w h => atoms_spec (ws := w_M_lose) B.pre w (List.mem_cons_of_mem _ h)
  have hown : s.vm.findClass R_M = some m.cls := findClass_of_methodNamed B.named
  have hlocks := B.notSynchronized
  have hD := kx_D.self hD0
  have hS : va_S (kx_A (wMd b k5 vT vn vr vo vl vb fN fK fW fL fM fE fR fF fS fP fY fT fJ fI)) s.heap s.heap [] := va_S.rf
  have hl := lv_entry ([.ref (b 0), .int d]) (n := 3) (Nat.le_of_ble_eq_true rfl)
  rw [lg_entry_eq]
  generalize (lg_sl ([.ref (b 0), .int d]) ++ List.replicate (3 - (lg_sl ([.ref (b 0), .int d])).length) Slot.unset).toArray = ls at hl ⊢
  have hl : lv_has ls 3 [(0, .ref (b 0)), (1, .int d)] := hl
  refine lv_aload_n hx hb d_M_lose_0 rfl (lv_at hl 0 rfl) ?_
  refine lv_iconst (v := 0) hx hb d_M_lose_1 (by decide) ?_
  refine kx_put (ws' := (wMd b k5 0 vn vr vo vl vb fN fK fW fL fM fE fR fF fS fP fY fT fJ fI)) (D := (dC, dI)) (ci := 3) (v := .int 0) (ty := .int) (C := R_M) (T := T_M) (N := 20) hx hb hts wu_M ty_M ok_M nm_M hown hK hP hD hS 0 rfl rfl 0 (by decide) (hts _ wf_M_58) (fun _ h9 => h9) rfl (by decide +kernel) rfl rfl (Nat.le_of_ble_eq_true rfl) rfl d_M_lose_2 (fun H locs hP hD hS => ?_)
  refine lv_aload_n hx hb d_M_lose_5 rfl (lv_at hl 0 rfl) ?_
  refine lv_iload_n hx hb d_M_lose_6 rfl (lv_at hl 1 rfl) ?_
  refine kx_VRW (As := [.int d]) (rest := []) ⟨hx, hb, hml, hown, hts⟩ (k_M_noDisk l dC dI k5 b 0 vn vr vo vl vb fN fK fW fL fM fE fR fF fS fP fY fT fJ fI d) (cwV 1 hts (goodV wm_M_117 wn_M_noDisk ws_M_noDisk wi_M wc_M_noDisk) rfl rfl rfl (by decide +kernel) ⟨Nat.le_of_ble_eq_true rfl, Nat.le_of_ble_eq_true rfl⟩) ⟨Nat.zero_le _, Nat.zero_le _⟩ hK hP hD 0 rfl rfl rfl hl.1 rfl (Nat.le_of_ble_eq_true rfl) d_M_lose_7 ?_
  refine W.eq (g2 := F0 m 10 ls [.int (bI (decide (d < 0 ∨ ¬ d < vn)))]) rfl ?_
  refine lv_if_ne (tgt := 22) hx hb d_M_lose_10 (by decide) (fun hc_1 => ?_) (fun hc_1 => ?_)
  · refine lv_iconst (v := (-1)) hx hb d_M_lose_22 (by decide) ?_
    have e : m_lose vT vn vr vo vl vb fN fK fW fL fM fE fR fF fS fP fY fT fJ fI n r d = ((0, vn, vr, vo, vl, vb, fN, fK, fW, fL, fM, fE, fR, fF, fS, fP, fY, fT, fJ, fI), (-1)) := by unfold m_lose; rw [if_neg hc_1]
    exact W.iret (v := (-1)) hx hb hr (fun t ht hW => kx_Qi (by rw [e]) ht hP (by rw [e]) hS rfl) hS.2.2 d_M_lose_23
  · refine lv_aload_n hx hb d_M_lose_13 rfl (lv_at hl 0 rfl) ?_
    refine va_get (D := (dC, dI)) (ci := 3) (v := .ref (b 4)) (C := R_M) (T := T_M) (N := 20) hx hb hts wu_M hown hK hP 0 rfl rfl 7 (by decide) (hts _ wf_M_20) (fun _ h9 => h9) rfl d_M_lose_14 ?_
    refine lv_iload_n hx hb d_M_lose_17 rfl (lv_at hl 1 rfl) ?_
    refine kx_zald hx hb hK hP 4 3 rfl rfl (d.toNatClampNeg) ((noD hc_1 hn (by omega)).1) (by have := (noD hc_1 hn (by omega)).2; omega) (by omega) d_M_lose_18 ?_
    refine lv_if_eq (tgt := 24) hx hb d_M_lose_19 (by decide) (fun hc_2 => ?_) (fun hc_2 => ?_)
    · refine lv_iconst (v := 2) hx hb d_M_lose_24 (by decide) ?_
      refine lv_istore_n (lv' := [(2, .int 2), (0, .ref (b 0)), (1, .int d)]) hx hb d_M_lose_25 rfl hl (by decide) rfl (fun ls hl => ?_)
      have lp26 : ∀ (q9 i : Nat) (ls : Array Slot), i + q9 = (r - 2) → (mMiss fL fM fR (d.toNatClampNeg) n i = true) → lv_has ls 3 [(2, .int (nI (2 + i))), (0, .ref (b 0)), (1, .int d)] → W p l e (headSpec w_M_lose ({ frames := 2, cells := 0, slots := 0, locals := 45 })).room s m ([.ref (b 0), .int d] : List Value).toArray below meth c H locs 0 0 (MQ below (kx_Q (dC, dI) clA (wMd b k5 vT vn vr vo vl vb fN fK fW fL fM fE fR fF fS fP fY fT fJ fI) (wMS b k5 (m_lose vT vn vr vo vl vb fN fK fW fL fM fE fR fF fS fP fY fT fJ fI n r d).1) (some (.int (m_lose vT vn vr vo vl vb fN fK fW fL fM fE fR fF fS fP fY fT fJ fI n r d).2))) ([.ref (b 0), .int d] : List Value).toArray s 0 0 (kx_A (wMd b k5 vT vn vr vo vl vb fN fK fW fL fM fE fR fF fS fP fY fT fJ fI))) (F0 m 26 ls []) := by
        intro q9
        induction q9 with
        | zero =>
          intro i ls hi hm hl
          have hi : (r - 2) = i := by omega
          subst hi
          refine lv_iload_n hx hb d_M_lose_26 rfl (lv_at hl 0 rfl) ?_
          refine lv_aload_n hx hb d_M_lose_27 rfl (lv_at hl 1 rfl) ?_
          refine va_get (D := (dC, dI)) (ci := 3) (v := .int vr) (C := R_M) (T := T_M) (N := 20) hx hb hts wu_M hown hK hP 0 rfl rfl 2 (by decide) (hts _ wf_M_65) (fun _ h9 => h9) rfl d_M_lose_28 ?_
          refine lv_icmp_ge (tgt := 61) hx hb d_M_lose_31 (by decide) (fun hc => ?_) (fun hc => ?_)
          · refine lv_aload_n hx hb d_M_lose_61 rfl (lv_at hl 1 rfl) ?_
            refine va_get (D := (dC, dI)) (ci := 3) (v := .ref (b 4)) (C := R_M) (T := T_M) (N := 20) hx hb hts wu_M hown hK hP 0 rfl rfl 7 (by decide) (hts _ wf_M_20) (fun _ h9 => h9) rfl d_M_lose_62 ?_
            refine lv_iload_n hx hb d_M_lose_65 rfl (lv_at hl 2 rfl) ?_
            refine lv_iconst (v := 1) hx hb d_M_lose_66 (by decide) ?_
            refine kx_zast (ws' := (wMd b k5 0 vn vr vo vl vb fN fK fW (upd fL (d.toNatClampNeg) 1) fM fE fR fF fS fP fY fT fJ fI)) hx hb hK hP hD hS 4 3 rfl rfl (d.toNatClampNeg) ((noD hc_1 hn (by omega)).1) (by have := (noD hc_1 hn (by omega)).2; omega) (by omega) rfl rfl d_M_lose_67 (fun H locs hP hD hS => ?_)
            refine lv_aload_n hx hb d_M_lose_68 rfl (lv_at hl 1 rfl) ?_
            refine lv_iload_n hx hb d_M_lose_69 rfl (lv_at hl 2 rfl) ?_
            refine W.eq (g2 := F0 m 70 ls [.int (nI (d.toNatClampNeg)), .ref (b 0)]) (by rw [← (noD hc_1 hn (by omega)).1]) ?_
            refine kx_VW (w1 := (wMd b k5 0 vn vr vo vl vb fN fK fW (upd fL (d.toNatClampNeg) 1) fM fE fR (upd (upd fF (2 * (d.toNatClampNeg)) 0) (2 * (d.toNatClampNeg) + 1) 0) (upd (upd fS (2 * (d.toNatClampNeg)) 0) (2 * (d.toNatClampNeg) + 1) 0) fP fY fT fJ fI)) (As := [.int (nI (d.toNatClampNeg))]) (rest := []) ⟨hx, hb, hml, hown, hts⟩ (k_M_wipe l dC dI k5 b 0 vn vr vo vl vb fN fK fW (upd fL (d.toNatClampNeg) 1) fM fE fR fF fS fP fY fT fJ fI (d.toNatClampNeg) (by have := (noD hc_1 hn (by omega)).2; omega)) (cwV 1 hts (goodV wm_M_78 wn_M_wipe ws_M_wipe wi_M wc_M_wipe) rfl rfl rfl (by decide +kernel) ⟨Nat.le_of_ble_eq_true rfl, Nat.le_of_ble_eq_true rfl⟩) ⟨Nat.zero_le _, Nat.zero_le _⟩ hK hP hD hS 0 rfl rfl rfl rfl hl.1 rfl (Nat.le_of_ble_eq_true rfl) d_M_lose_70 (fun H locs hP hD hS => ?_)
            refine W.eq (g2 := F0 m 73 ls []) rfl ?_
            refine lv_iconst (v := 0) hx hb d_M_lose_73 (by decide) ?_
            refine lv_istore_n (lv' := [(2, .int 0), (0, .ref (b 0)), (1, .int d)]) hx hb d_M_lose_74 rfl hl (by decide) rfl (fun ls hl => ?_)
            have lp75 : ∀ (q9 i : Nat) (H : Heap) (locs : List Loc) (ls : Array Slot), i + q9 = 40 → va_P (dC, dI) clA (wMd b k5 0 vn vr vo vl vb fN fK fW (upd fL (d.toNatClampNeg) 1) fM fE (fillF fR 0 (40 * (d.toNatClampNeg)) i) (upd (upd fF (2 * (d.toNatClampNeg)) 0) (2 * (d.toNatClampNeg) + 1) 0) (upd (upd fS (2 * (d.toNatClampNeg)) 0) (2 * (d.toNatClampNeg) + 1) 0) fP fY fT fJ fI) H → va_D (kx_A (wMd b k5 vT vn vr vo vl vb fN fK fW fL fM fE fR fF fS fP fY fT fJ fI)) (wMd b k5 0 vn vr vo vl vb fN fK fW (upd fL (d.toNatClampNeg) 1) fM fE (fillF fR 0 (40 * (d.toNatClampNeg)) i) (upd (upd fF (2 * (d.toNatClampNeg)) 0) (2 * (d.toNatClampNeg) + 1) 0) (upd (upd fS (2 * (d.toNatClampNeg)) 0) (2 * (d.toNatClampNeg) + 1) 0) fP fY fT fJ fI) → va_S (kx_A (wMd b k5 vT vn vr vo vl vb fN fK fW fL fM fE fR fF fS fP fY fT fJ fI)) s.heap H locs → lv_has ls 3 [(2, .int (nI i)), (0, .ref (b 0)), (1, .int d)] → W p l e (headSpec w_M_lose ({ frames := 2, cells := 0, slots := 0, locals := 45 })).room s m ([.ref (b 0), .int d] : List Value).toArray below meth c H locs 0 0 (MQ below (kx_Q (dC, dI) clA (wMd b k5 vT vn vr vo vl vb fN fK fW fL fM fE fR fF fS fP fY fT fJ fI) (wMS b k5 (m_lose vT vn vr vo vl vb fN fK fW fL fM fE fR fF fS fP fY fT fJ fI n r d).1) (some (.int (m_lose vT vn vr vo vl vb fN fK fW fL fM fE fR fF fS fP fY fT fJ fI n r d).2))) ([.ref (b 0), .int d] : List Value).toArray s 0 0 (kx_A (wMd b k5 vT vn vr vo vl vb fN fK fW fL fM fE fR fF fS fP fY fT fJ fI))) (F0 m 75 ls []) := by
              intro q9
              induction q9 with
              | zero =>
                intro i H locs ls hi hP hD hS hl
                have hi : 40 = i := by omega
                subst hi
                refine lv_iload_n hx hb d_M_lose_75 rfl (lv_at hl 0 rfl) ?_
                refine lv_bipush (v := 40) hx hb d_M_lose_76 (by decide) ?_
                refine lv_icmp_ge (tgt := 99) hx hb d_M_lose_78 (by decide) (fun hc => ?_) (fun hc => ?_)
                · refine lv_aload_n hx hb d_M_lose_99 rfl (lv_at hl 1 rfl) ?_
                  refine kx_VRW (As := []) (rest := []) ⟨hx, hb, hml, hown, hts⟩ (k_M_manyLost l dC dI k5 b 0 vn vr vo vl vb fN fK fW (upd fL (d.toNatClampNeg) 1) fM fE (fillF fR 0 (40 * (d.toNatClampNeg)) 40) (upd (upd fF (2 * (d.toNatClampNeg)) 0) (2 * (d.toNatClampNeg) + 1) 0) (upd (upd fS (2 * (d.toNatClampNeg)) 0) (2 * (d.toNatClampNeg) + 1) 0) fP fY fT fJ fI n hn hn4 hn8) (cwV 0 hts (goodV wm_M_148 wn_M_manyLost ws_M_manyLost wi_M wc_M_manyLost) rfl rfl rfl (by decide +kernel) ⟨Nat.le_of_ble_eq_true rfl, Nat.le_of_ble_eq_true rfl⟩) ⟨Nat.zero_le _, Nat.zero_le _⟩ hK hP hD 0 rfl rfl rfl hl.1 rfl (Nat.le_of_ble_eq_true rfl) d_M_lose_100 ?_
                  refine W.eq (g2 := F0 m 103 ls [.int (nI (cnt (fun q9 => nz ((upd fL (d.toNatClampNeg) 1) q9)) n))]) rfl ?_
                  have e : m_lose vT vn vr vo vl vb fN fK fW fL fM fE fR fF fS fP fY fT fJ fI n r d = ((0, vn, vr, vo, vl, vb, fN, fK, fW, (upd fL (d.toNatClampNeg) 1), fM, fE, (fillF fR 0 (40 * (d.toNatClampNeg)) 40), (upd (upd fF (2 * (d.toNatClampNeg)) 0) (2 * (d.toNatClampNeg) + 1) 0), (upd (upd fS (2 * (d.toNatClampNeg)) 0) (2 * (d.toNatClampNeg) + 1) 0), fP, fY, fT, fJ, fI), (nI (cnt (fun q9 => nz ((upd fL (d.toNatClampNeg) 1) q9)) n))) := by unfold m_lose; rw [if_pos hc_1, if_pos hc_2, if_pos hm]
                  exact W.iret (v := (nI (cnt (fun q9 => nz ((upd fL (d.toNatClampNeg) 1) q9)) n))) hx hb hr (fun t ht hW => kx_Qi (by rw [e]) ht hP (by rw [e]) hS rfl) hS.2.2 d_M_lose_103
                · exact absurd (by rw [show (40 : Int32) = nI 40 from rfl]; exact nI_le (by omega) (by omega)) hc
              | succ q9 ih =>
                intro i H locs ls hi hP hD hS hl
                refine lv_iload_n hx hb d_M_lose_75 rfl (lv_at hl 0 rfl) ?_
                refine lv_bipush (v := 40) hx hb d_M_lose_76 (by decide) ?_
                refine lv_icmp_ge (tgt := 99) hx hb d_M_lose_78 (by decide) (fun hc => ?_) (fun hc => ?_)
                · exact absurd hc (by rw [show (40 : Int32) = nI 40 from rfl]; exact nI_ge (by omega) (by omega))
                · refine lv_aload_n hx hb d_M_lose_81 rfl (lv_at hl 1 rfl) ?_
                  refine va_get (D := (dC, dI)) (ci := 3) (v := .ref (b 7)) (C := R_M) (T := T_M) (N := 20) hx hb hts wu_M hown hK hP 0 rfl rfl 10 (by decide) (hts _ wf_M_30) (fun _ h9 => h9) rfl d_M_lose_82 ?_
                  refine lv_bipush (v := 40) hx hb d_M_lose_85 (by decide) ?_
                  refine lv_iload_n hx hb d_M_lose_87 rfl (lv_at hl 2 rfl) ?_
                  refine lv_imul hx hb d_M_lose_88 ?_
                  refine lv_iload_n hx hb d_M_lose_89 rfl (lv_at hl 0 rfl) ?_
                  refine lv_iadd hx hb d_M_lose_90 ?_
                  refine lv_iconst (v := 0) hx hb d_M_lose_91 (by decide) ?_
                  refine kx_zast (ws' := (wMd b k5 0 vn vr vo vl vb fN fK fW (upd fL (d.toNatClampNeg) 1) fM fE (fillF fR 0 (40 * (d.toNatClampNeg)) (i + 1)) (upd (upd fF (2 * (d.toNatClampNeg)) 0) (2 * (d.toNatClampNeg) + 1) 0) (upd (upd fS (2 * (d.toNatClampNeg)) 0) (2 * (d.toNatClampNeg) + 1) 0) fP fY fT fJ fI)) hx hb hK hP hD hS 7 3 rfl rfl (40 * (d.toNatClampNeg) + i) (i40 (noD hc_1 hn (by omega)).1 rfl) (by have := (noD hc_1 hn (by omega)).2; omega) (by omega) rfl rfl d_M_lose_92 (fun H locs hP hD hS => ?_)
                  refine lv_iinc (v := nI (i + 1)) (lv' := [(2, .int (nI (i + 1))), (0, .ref (b 0)), (1, .int d)]) hx hb d_M_lose_93 hl (k := 0) rfl (nI_1 i) (by decide) rfl (fun ls hl => ?_)
                  refine lv_goto (tgt := 75) hx hb d_M_lose_96 (by decide) ?_
                  exact ih (i + 1) H locs ls (by omega) hP hD hS (lv_sub hl [0, 1, 2] rfl)
            exact lp75 40 0 H locs ls (by omega) hP hD hS (lv_sub hl [0, 1, 2] rfl)
          · exact absurd (by rw [er]; exact nI_le (by omega) (by omega)) hc
        | succ q9 ih =>
          intro i ls hi hm hl
          refine lv_iload_n hx hb d_M_lose_26 rfl (lv_at hl 0 rfl) ?_
          refine lv_aload_n hx hb d_M_lose_27 rfl (lv_at hl 1 rfl) ?_
          refine va_get (D := (dC, dI)) (ci := 3) (v := .int vr) (C := R_M) (T := T_M) (N := 20) hx hb hts wu_M hown hK hP 0 rfl rfl 2 (by decide) (hts _ wf_M_65) (fun _ h9 => h9) rfl d_M_lose_28 ?_
          refine lv_icmp_ge (tgt := 61) hx hb d_M_lose_31 (by decide) (fun hc => ?_) (fun hc => ?_)
          · exact absurd hc (by rw [er]; exact nI_ge (by omega) (by omega))
          · refine lv_aload_n hx hb d_M_lose_34 rfl (lv_at hl 1 rfl) ?_
            refine lv_iload_n hx hb d_M_lose_35 rfl (lv_at hl 2 rfl) ?_
            refine lv_iload_n hx hb d_M_lose_36 rfl (lv_at hl 0 rfl) ?_
            refine W.eq (g2 := F0 m 37 ls [.int (nI (2 + i)), .int (nI (d.toNatClampNeg)), .ref (b 0)]) (by rw [← (noD hc_1 hn (by omega)).1]) ?_
            refine kx_VRW (As := [.int (nI (d.toNatClampNeg)), .int (nI (2 + i))]) (rest := []) ⟨hx, hb, hml, hown, hts⟩ (k_M_isGone l dC dI k5 b 0 vn vr vo vl vb fN fK fW fL fM fE fR fF fS fP fY fT fJ fI (d.toNatClampNeg) (2 + i) (by have := (noD hc_1 hn (by omega)).2; omega) (by omega)) (cwV 2 hts (goodV wm_M_110 wn_M_isGone ws_M_isGone wi_M wc_M_isGone) rfl rfl rfl (by decide +kernel) ⟨Nat.le_of_ble_eq_true rfl, Nat.le_of_ble_eq_true rfl⟩) ⟨Nat.zero_le _, Nat.zero_le _⟩ hK hP hD 0 rfl rfl rfl hl.1 rfl (Nat.le_of_ble_eq_true rfl) d_M_lose_37 ?_
            refine W.eq (g2 := F0 m 40 ls [.int (bI (mGone fL fM fR (d.toNatClampNeg) (2 + i)))]) rfl ?_
            refine lv_if_ne (tgt := 55) hx hb d_M_lose_40 (by decide) (fun hg => ?_) (fun hg => ?_)
            · refine lv_iinc (v := nI (2 + (i + 1))) (lv' := [(2, .int (nI (2 + (i + 1)))), (0, .ref (b 0)), (1, .int d)]) hx hb d_M_lose_55 hl (k := 0) rfl (nI_1 (2 + i)) (by decide) rfl (fun ls hl => ?_)
              refine lv_goto (tgt := 26) hx hb d_M_lose_58 (by decide) ?_
              exact ih (i + 1) ls (by omega) (by rw [mMiss, hm, bI_t hg]; rfl) (lv_sub hl [0, 1, 2] rfl)
            · refine lv_aload_n hx hb d_M_lose_43 rfl (lv_at hl 1 rfl) ?_
              refine lv_iload_n hx hb d_M_lose_44 rfl (lv_at hl 0 rfl) ?_
              refine kx_VRW (As := [.int (nI (2 + i))]) (rest := []) ⟨hx, hb, hml, hown, hts⟩ (k_M_goneIn l dC dI k5 b 0 vn vr vo vl vb fN fK fW fL fM fE fR fF fS fP fY fT fJ fI n hn hn4 hn8 (2 + i) (by omega)) (cwV 1 hts (goodV wm_M_114 wn_M_goneIn ws_M_goneIn wi_M wc_M_goneIn) rfl rfl rfl (by decide +kernel) ⟨Nat.le_of_ble_eq_true rfl, Nat.le_of_ble_eq_true rfl⟩) ⟨Nat.zero_le _, Nat.zero_le _⟩ hK hP hD 0 rfl rfl rfl hl.1 rfl (Nat.le_of_ble_eq_true rfl) d_M_lose_45 ?_
              refine W.eq (g2 := F0 m 48 ls [.int (nI (cnt (fun q => mGone fL fM fR q (2 + i)) n))]) rfl ?_
              refine lv_iconst (v := 2) hx hb d_M_lose_48 (by decide) ?_
              refine lv_icmp_ne (tgt := 55) hx hb d_M_lose_49 (by decide) (fun hh => ?_) (fun hh => ?_)
              · refine lv_iinc (v := nI (2 + (i + 1))) (lv' := [(2, .int (nI (2 + (i + 1)))), (0, .ref (b 0)), (1, .int d)]) hx hb d_M_lose_55 hl (k := 0) rfl (nI_1 (2 + i)) (by decide) rfl (fun ls hl => ?_)
                refine lv_goto (tgt := 26) hx hb d_M_lose_58 (by decide) ?_
                exact ih (i + 1) ls (by omega) (by rw [mMiss, hm, bI_f hg, decide_eq_false hh]; rfl) (lv_sub hl [0, 1, 2] rfl)
              · have hmf : ¬ mMiss fL fM fR (d.toNatClampNeg) n (r - 2) = true := by rw [mMiss_f (m := i + 1) (by rw [mMiss, hm, bI_f hg, decide_eq_true hh]; rfl) (r - 2) (by omega)]; exact Bool.false_ne_true
                refine lv_bipush (v := (-3)) hx hb d_M_lose_52 (by decide) ?_
                have e : m_lose vT vn vr vo vl vb fN fK fW fL fM fE fR fF fS fP fY fT fJ fI n r d = ((0, vn, vr, vo, vl, vb, fN, fK, fW, fL, fM, fE, fR, fF, fS, fP, fY, fT, fJ, fI), (-3)) := by unfold m_lose; rw [if_pos hc_1, if_pos hc_2, if_neg hmf]
                exact W.iret (v := (-3)) hx hb hr (fun t ht hW => kx_Qi (by rw [e]) ht hP (by rw [e]) hS rfl) hS.2.2 d_M_lose_54
      exact lp26 (r - 2) 0 ls (by omega) rfl (lv_sub hl [0, 1, 2] rfl)
    · refine lv_iconst (v := (-1)) hx hb d_M_lose_22 (by decide) ?_
      have e : m_lose vT vn vr vo vl vb fN fK fW fL fM fE fR fF fS fP fY fT fJ fI n r d = ((0, vn, vr, vo, vl, vb, fN, fK, fW, fL, fM, fE, fR, fF, fS, fP, fY, fT, fJ, fI), (-1)) := by unfold m_lose; rw [if_pos hc_1, if_neg hc_2]
      exact W.iret (v := (-1)) hx hb hr (fun t ht hW => kx_Qi (by rw [e]) ht hP (by rw [e]) hS rfl) hS.2.2 d_M_lose_23
def m_scrub (vT vn vr vo vl vb : Int32) (fN fK fW fL fM fE fR fF fS fP fY fT fJ fI : FF) (n : Nat) (x z : Int32) (bits : Int64) : MT × Int32 := (if vo = 0 then (if x < 2 then ((0, vn, vr, vo, vl, vb, fN, fK, fW, fL, fM, fE, fR, fF, fS, fP, fY, fT, fJ, fI), (-1)) else (if vr ≤ x then ((0, vn, vr, vo, vl, vb, fN, fK, fW, fL, fM, fE, fR, fF, fS, fP, fY, fT, fJ, fI), (-1)) else (if z < 0 then ((0, vn, vr, vo, vl, vb, fN, fK, fW, fL, fM, fE, fR, fF, fS, fP, fY, fT, fJ, fI), (-1)) else (if z ≤ 1 then (if (nI (cnt (fun q9 => nz (fR (40 * q9 + (x.toNatClampNeg)))) n)) ≤ 0 then ((0, vn, vr, vo, vl, vb, fN, fK, fW, fL, fM, fE, (mScrub fR (x.toNatClampNeg) n), fF, fS, fP, fY, fT, fJ, fI), (nI (cnt (fun q9 => nz (fR (40 * q9 + (x.toNatClampNeg)))) n))) else (if z = 1 then ((0, vn, vr, 1, vl, vb, fN, fK, (fill0 fW 0 204), fL, fM, fE, fR, fF, fS, fP, fY, fT, fJ, fI), (-2)) else ((0, vn, vr, vo, vl, vb, fN, fK, fW, fL, fM, fE, (mScrub fR (x.toNatClampNeg) n), fF, fS, fP, fY, fT, fJ, fI), (nI (cnt (fun q9 => nz (fR (40 * q9 + (x.toNatClampNeg)))) n))))) else ((0, vn, vr, vo, vl, vb, fN, fK, fW, fL, fM, fE, fR, fF, fS, fP, fY, fT, fJ, fI), (-1)))))) else ((0, vn, vr, vo, vl, vb, fN, fK, fW, fL, fM, fE, fR, fF, fS, fP, fY, fT, fJ, fI), (-2)))
set_option maxHeartbeats 4000000 in
set_option maxRecDepth 100000 in
theorem k_M_scrub (l : Launch) (dC : Nat → ClassId) (dI : Nat → Nat → Nat) (k5 : Nat → ClassId) (b : Nat → Nat) (vT vn vr vo vl vb : Int32) (fN fK fW fL fM fE fR fF fS fP fY fT fJ fI : FF) (n : Nat) (x z : Int32) (bits : Int64) (r : Nat) (hn : vn = nI n) (hn4 : 4 ≤ n) (hn8 : n ≤ 8) (er : vr = nI r) (hr2 : 12 ≤ r) (hr40 : r ≤ 40) : Met l y_M_scrub w_M_scrub ({ frames := 1, cells := 0, slots := 0, locals := 21 }) (kx_Pc (dC, dI) clA (tyL k5) (wMd b k5 vT vn vr vo vl vb fN fK fW fL fM fE fR fF fS fP fY fT fJ fI) [.ref (b 0), .int x, .int z, .long bits]) (kx_Q (dC, dI) clA (wMd b k5 vT vn vr vo vl vb fN fK fW fL fM fE fR fF fS fP fY fT fJ fI) (wMS b k5 (m_scrub vT vn vr vo vl vb fN fK fW fL fM fE fR fF fS fP fY fT fJ fI n x z bits).1) (some (.int (m_scrub vT vn vr vo vl vb fN fK fW fL fM fE fR fF fS fP fY fT fJ fI n x z bits).2))) 0 0 (kx_A (wMd b k5 vT vn vr vo vl vb fN fK fW fL fM fE fR fF fS fP fY fT fJ fI)) := by
  refine Met.ofW (cc := c_M_scrub) (maxL := 7) (ret := (some .int)) (by decide) rfl ?_
  intro p e s m args below meth c s₁ B hml hv
  obtain ⟨rfl, hP, hK, hD0⟩ := hv
  have hx := B.exec
  have hb := B.bytes
  have hr := B.returns
  have hts : ∀ w ∈ wsA, w.before _ s = true := fun w h => atoms_spec (ws := w_M_scrub) B.pre w (List.mem_cons_of_mem _ h)
  have hown : s.vm.findClass R_M = some m.cls := findClass_of_methodNamed B.named
  have hlocks := B.notSynchronized
  have hD := kx_D.self hD0
  have hS : va_S (kx_A (wMd b k5 vT vn vr vo vl vb fN fK fW fL fM fE fR fF fS fP fY fT fJ fI)) s.heap s.heap [] := va_S.rf
  have hl := lv_entry ([.ref (b 0), .int x, .int z, .long bits]) (n := 7) (Nat.le_of_ble_eq_true rfl)
  rw [lg_entry_eq]
  generalize (lg_sl ([.ref (b 0), .int x, .int z, .long bits]) ++ List.replicate (7 - (lg_sl ([.ref (b 0), .int x, .int z, .long bits])).length) Slot.unset).toArray = ls at hl ⊢
  have hl : lv_has ls 7 [(0, .ref (b 0)), (1, .int x), (2, .int z), (3, .long bits)] := hl
  refine lv_aload_n hx hb d_M_scrub_0 rfl (lv_at hl 0 rfl) ?_
  refine lv_iconst (v := 0) hx hb d_M_scrub_1 (by decide) ?_
  refine kx_put (ws' := (wMd b k5 0 vn vr vo vl vb fN fK fW fL fM fE fR fF fS fP fY fT fJ fI)) (D := (dC, dI)) (ci := 3) (v := .int 0) (ty := .int) (C := R_M) (T := T_M) (N := 20) hx hb hts wu_M ty_M ok_M nm_M hown hK hP hD hS 0 rfl rfl 0 (by decide) (hts _ wf_M_58) (fun _ h9 => h9) rfl (by decide +kernel) rfl rfl (Nat.le_of_ble_eq_true rfl) rfl d_M_scrub_2 (fun H locs hP hD hS => ?_)
  refine lv_aload_n hx hb d_M_scrub_5 rfl (lv_at hl 0 rfl) ?_
  refine va_get (D := (dC, dI)) (ci := 3) (v := .int vo) (C := R_M) (T := T_M) (N := 20) hx hb hts wu_M hown hK hP 0 rfl rfl 3 (by decide) (hts _ wf_M_68) (fun _ h9 => h9) rfl d_M_scrub_6 ?_
  refine lv_if_eq (tgt := 15) hx hb d_M_scrub_9 (by decide) (fun hc_1 => ?_) (fun hc_1 => ?_)
  · refine lv_iload_n hx hb d_M_scrub_15 rfl (lv_at hl 1 rfl) ?_
    refine lv_iconst (v := 2) hx hb d_M_scrub_16 (by decide) ?_
    refine lv_icmp_lt (tgt := 37) hx hb d_M_scrub_17 (by decide) (fun hc_2 => ?_) (fun hc_2 => ?_)
    · refine lv_iconst (v := (-1)) hx hb d_M_scrub_37 (by decide) ?_
      have e : m_scrub vT vn vr vo vl vb fN fK fW fL fM fE fR fF fS fP fY fT fJ fI n x z bits = ((0, vn, vr, vo, vl, vb, fN, fK, fW, fL, fM, fE, fR, fF, fS, fP, fY, fT, fJ, fI), (-1)) := by unfold m_scrub; rw [if_pos hc_1, if_pos hc_2]
      exact W.iret (v := (-1)) hx hb hr (fun t ht hW => kx_Qi (by rw [e]) ht hP (by rw [e]) hS rfl) hS.2.2 d_M_scrub_38
    · refine lv_iload_n hx hb d_M_scrub_20 rfl (lv_at hl 1 rfl) ?_
      refine lv_aload_n hx hb d_M_scrub_21 rfl (lv_at hl 0 rfl) ?_
      refine va_get (D := (dC, dI)) (ci := 3) (v := .int vr) (C := R_M) (T := T_M) (N := 20) hx hb hts wu_M hown hK hP 0 rfl rfl 2 (by decide) (hts _ wf_M_65) (fun _ h9 => h9) rfl d_M_scrub_22 ?_
      refine lv_icmp_ge (tgt := 37) hx hb d_M_scrub_25 (by decide) (fun hc_3 => ?_) (fun hc_3 => ?_)
      · refine lv_iconst (v := (-1)) hx hb d_M_scrub_37 (by decide) ?_
        have e : m_scrub vT vn vr vo vl vb fN fK fW fL fM fE fR fF fS fP fY fT fJ fI n x z bits = ((0, vn, vr, vo, vl, vb, fN, fK, fW, fL, fM, fE, fR, fF, fS, fP, fY, fT, fJ, fI), (-1)) := by unfold m_scrub; rw [if_pos hc_1, if_neg hc_2, if_pos hc_3]
        exact W.iret (v := (-1)) hx hb hr (fun t ht hW => kx_Qi (by rw [e]) ht hP (by rw [e]) hS rfl) hS.2.2 d_M_scrub_38
      · refine lv_iload_n hx hb d_M_scrub_28 rfl (lv_at hl 2 rfl) ?_
        refine lv_if_lt (tgt := 37) hx hb d_M_scrub_29 (by decide) (fun hc_4 => ?_) (fun hc_4 => ?_)
        · refine lv_iconst (v := (-1)) hx hb d_M_scrub_37 (by decide) ?_
          have e : m_scrub vT vn vr vo vl vb fN fK fW fL fM fE fR fF fS fP fY fT fJ fI n x z bits = ((0, vn, vr, vo, vl, vb, fN, fK, fW, fL, fM, fE, fR, fF, fS, fP, fY, fT, fJ, fI), (-1)) := by unfold m_scrub; rw [if_pos hc_1, if_neg hc_2, if_neg hc_3, if_pos hc_4]
          exact W.iret (v := (-1)) hx hb hr (fun t ht hW => kx_Qi (by rw [e]) ht hP (by rw [e]) hS rfl) hS.2.2 d_M_scrub_38
        · refine lv_iload_n hx hb d_M_scrub_32 rfl (lv_at hl 2 rfl) ?_
          refine lv_iconst (v := 1) hx hb d_M_scrub_33 (by decide) ?_
          refine lv_icmp_le (tgt := 39) hx hb d_M_scrub_34 (by decide) (fun hc_5 => ?_) (fun hc_5 => ?_)
          · refine lv_iconst (v := 0) hx hb d_M_scrub_39 (by decide) ?_
            refine lv_istore (lv' := [(5, .int 0), (0, .ref (b 0)), (1, .int x), (2, .int z), (3, .long bits)]) hx hb d_M_scrub_40 hl (by decide) rfl (fun ls hl => ?_)
            refine lv_iconst (v := 0) hx hb d_M_scrub_42 (by decide) ?_
            refine lv_istore (lv' := [(6, .int 0), (5, .int 0), (0, .ref (b 0)), (1, .int x), (2, .int z), (3, .long bits)]) hx hb d_M_scrub_43 hl (by decide) rfl (fun ls hl => ?_)
            have lp45 : ∀ (q9 i : Nat) (ls : Array Slot), i + q9 = n → lv_has ls 7 [(6, .int (nI i)), (5, .int (nI (cnt (fun q9 => nz (fR (40 * q9 + (x.toNatClampNeg)))) i))), (0, .ref (b 0)), (1, .int x), (2, .int z), (3, .long bits)] → W p l e (headSpec w_M_scrub ({ frames := 1, cells := 0, slots := 0, locals := 21 })).room s m ([.ref (b 0), .int x, .int z, .long bits] : List Value).toArray below meth c H locs 0 0 (MQ below (kx_Q (dC, dI) clA (wMd b k5 vT vn vr vo vl vb fN fK fW fL fM fE fR fF fS fP fY fT fJ fI) (wMS b k5 (m_scrub vT vn vr vo vl vb fN fK fW fL fM fE fR fF fS fP fY fT fJ fI n x z bits).1) (some (.int (m_scrub vT vn vr vo vl vb fN fK fW fL fM fE fR fF fS fP fY fT fJ fI n x z bits).2))) ([.ref (b 0), .int x, .int z, .long bits] : List Value).toArray s 0 0 (kx_A (wMd b k5 vT vn vr vo vl vb fN fK fW fL fM fE fR fF fS fP fY fT fJ fI))) (F0 m 45 ls []) := by
              intro q9
              induction q9 with
              | zero =>
                intro i ls hi hl
                have hi : n = i := by omega
                subst hi
                refine lv_iload hx hb d_M_scrub_45 (lv_at hl 0 rfl) ?_
                refine lv_aload_n hx hb d_M_scrub_47 rfl (lv_at hl 2 rfl) ?_
                refine va_get (D := (dC, dI)) (ci := 3) (v := .int vn) (C := R_M) (T := T_M) (N := 20) hx hb hts wu_M hown hK hP 0 rfl rfl 1 (by decide) (hts _ wf_M_62) (fun _ h9 => h9) rfl d_M_scrub_48 ?_
                refine lv_icmp_ge (tgt := 85) hx hb d_M_scrub_51 (by decide) (fun hc => ?_) (fun hc => ?_)
                · refine lv_iload hx hb d_M_scrub_85 (lv_at hl 1 rfl) ?_
                  refine lv_if_le (tgt := 100) hx hb d_M_scrub_87 (by decide) (fun hc_6 => ?_) (fun hc_6 => ?_)
                  · refine lv_iconst (v := 0) hx hb d_M_scrub_100 (by decide) ?_
                    refine lv_istore (lv' := [(6, .int 0), (5, .int (nI (cnt (fun q9 => nz (fR (40 * q9 + (x.toNatClampNeg)))) n))), (0, .ref (b 0)), (1, .int x), (2, .int z), (3, .long bits)]) hx hb d_M_scrub_101 hl (by decide) rfl (fun ls hl => ?_)
                    have lp103 : ∀ (q9 i : Nat) (H : Heap) (locs : List Loc) (ls : Array Slot), i + q9 = n → va_P (dC, dI) clA (wMd b k5 0 vn vr vo vl vb fN fK fW fL fM fE (mScrub fR (x.toNatClampNeg) i) fF fS fP fY fT fJ fI) H → va_D (kx_A (wMd b k5 vT vn vr vo vl vb fN fK fW fL fM fE fR fF fS fP fY fT fJ fI)) (wMd b k5 0 vn vr vo vl vb fN fK fW fL fM fE (mScrub fR (x.toNatClampNeg) i) fF fS fP fY fT fJ fI) → va_S (kx_A (wMd b k5 vT vn vr vo vl vb fN fK fW fL fM fE fR fF fS fP fY fT fJ fI)) s.heap H locs → lv_has ls 7 [(6, .int (nI i)), (5, .int (nI (cnt (fun q9 => nz (fR (40 * q9 + (x.toNatClampNeg)))) n))), (0, .ref (b 0)), (1, .int x), (2, .int z), (3, .long bits)] → W p l e (headSpec w_M_scrub ({ frames := 1, cells := 0, slots := 0, locals := 21 })).room s m ([.ref (b 0), .int x, .int z, .long bits] : List Value).toArray below meth c H locs 0 0 (MQ below (kx_Q (dC, dI) clA (wMd b k5 vT vn vr vo vl vb fN fK fW fL fM fE fR fF fS fP fY fT fJ fI) (wMS b k5 (m_scrub vT vn vr vo vl vb fN fK fW fL fM fE fR fF fS fP fY fT fJ fI n x z bits).1) (some (.int (m_scrub vT vn vr vo vl vb fN fK fW fL fM fE fR fF fS fP fY fT fJ fI n x z bits).2))) ([.ref (b 0), .int x, .int z, .long bits] : List Value).toArray s 0 0 (kx_A (wMd b k5 vT vn vr vo vl vb fN fK fW fL fM fE fR fF fS fP fY fT fJ fI))) (F0 m 103 ls []) := by
                      intro q9
                      induction q9 with
                      | zero =>
                        intro i H locs ls hi hP hD hS hl
                        have hi : n = i := by omega
                        subst hi
                        refine lv_iload hx hb d_M_scrub_103 (lv_at hl 0 rfl) ?_
                        refine lv_aload_n hx hb d_M_scrub_105 rfl (lv_at hl 2 rfl) ?_
                        refine va_get (D := (dC, dI)) (ci := 3) (v := .int vn) (C := R_M) (T := T_M) (N := 20) hx hb hts wu_M hown hK hP 0 rfl rfl 1 (by decide) (hts _ wf_M_62) (fun _ h9 => h9) rfl d_M_scrub_106 ?_
                        refine lv_icmp_ge (tgt := 131) hx hb d_M_scrub_109 (by decide) (fun hc => ?_) (fun hc => ?_)
                        · refine lv_iload hx hb d_M_scrub_131 (lv_at hl 1 rfl) ?_
                          have e : m_scrub vT vn vr vo vl vb fN fK fW fL fM fE fR fF fS fP fY fT fJ fI n x z bits = ((0, vn, vr, vo, vl, vb, fN, fK, fW, fL, fM, fE, (mScrub fR (x.toNatClampNeg) n), fF, fS, fP, fY, fT, fJ, fI), (nI (cnt (fun q9 => nz (fR (40 * q9 + (x.toNatClampNeg)))) n))) := by unfold m_scrub; rw [if_pos hc_1, if_neg hc_2, if_neg hc_3, if_neg hc_4, if_pos hc_5, if_pos hc_6]
                          exact W.iret (v := (nI (cnt (fun q9 => nz (fR (40 * q9 + (x.toNatClampNeg)))) n))) hx hb hr (fun t ht hW => kx_Qi (by rw [e]) ht hP (by rw [e]) hS rfl) hS.2.2 d_M_scrub_133
                        · exact absurd (by rw [hn]; exact nI_le (by omega) (by omega)) hc
                      | succ q9 ih =>
                        intro i H locs ls hi hP hD hS hl
                        refine lv_iload hx hb d_M_scrub_103 (lv_at hl 0 rfl) ?_
                        refine lv_aload_n hx hb d_M_scrub_105 rfl (lv_at hl 2 rfl) ?_
                        refine va_get (D := (dC, dI)) (ci := 3) (v := .int vn) (C := R_M) (T := T_M) (N := 20) hx hb hts wu_M hown hK hP 0 rfl rfl 1 (by decide) (hts _ wf_M_62) (fun _ h9 => h9) rfl d_M_scrub_106 ?_
                        refine lv_icmp_ge (tgt := 131) hx hb d_M_scrub_109 (by decide) (fun hc => ?_) (fun hc => ?_)
                        · exact absurd hc (by rw [hn]; exact nI_ge (by omega) (by omega))
                        · refine lv_aload_n hx hb d_M_scrub_112 rfl (lv_at hl 2 rfl) ?_
                          refine va_get (D := (dC, dI)) (ci := 3) (v := .ref (b 7)) (C := R_M) (T := T_M) (N := 20) hx hb hts wu_M hown hK hP 0 rfl rfl 10 (by decide) (hts _ wf_M_30) (fun _ h9 => h9) rfl d_M_scrub_113 ?_
                          refine lv_bipush (v := 40) hx hb d_M_scrub_116 (by decide) ?_
                          refine lv_iload hx hb d_M_scrub_118 (lv_at hl 0 rfl) ?_
                          refine lv_imul hx hb d_M_scrub_120 ?_
                          refine lv_iload_n hx hb d_M_scrub_121 rfl (lv_at hl 3 rfl) ?_
                          refine lv_iadd hx hb d_M_scrub_122 ?_
                          refine lv_iconst (v := 0) hx hb d_M_scrub_123 (by decide) ?_
                          refine kx_zast (ws' := (wMd b k5 0 vn vr vo vl vb fN fK fW fL fM fE (mScrub fR (x.toNatClampNeg) (i + 1)) fF fS fP fY fT fJ fI)) hx hb hK hP hD hS 7 3 rfl rfl (40 * i + (x.toNatClampNeg)) (i40 rfl (rw_t hc_2 (Int32.not_le.mp hc_3) er (by omega)).1) (by have := (rw_t hc_2 (Int32.not_le.mp hc_3) er (by omega)).2.2; omega) (by omega) rfl rfl d_M_scrub_124 (fun H locs hP hD hS => ?_)
                          refine lv_iinc (v := nI (i + 1)) (lv' := [(6, .int (nI (i + 1))), (5, .int (nI (cnt (fun q9 => nz (fR (40 * q9 + (x.toNatClampNeg)))) n))), (0, .ref (b 0)), (1, .int x), (2, .int z), (3, .long bits)]) hx hb d_M_scrub_125 hl (k := 0) rfl (nI_1 i) (by decide) rfl (fun ls hl => ?_)
                          refine lv_goto (tgt := 103) hx hb d_M_scrub_128 (by decide) ?_
                          exact ih (i + 1) H locs ls (by omega) hP hD hS (lv_sub hl [0, 1, 2, 3, 4, 5] rfl)
                    exact lp103 n 0 H locs ls (by omega) hP hD hS (lv_sub hl [0, 1, 2, 3, 4, 5] rfl)
                  · refine lv_iload_n hx hb d_M_scrub_90 rfl (lv_at hl 4 rfl) ?_
                    refine lv_iconst (v := 1) hx hb d_M_scrub_91 (by decide) ?_
                    refine lv_icmp_ne (tgt := 100) hx hb d_M_scrub_92 (by decide) (fun hc_7 => ?_) (fun hc_7 => ?_)
                    · refine lv_iconst (v := 0) hx hb d_M_scrub_100 (by decide) ?_
                      refine lv_istore (lv' := [(6, .int 0), (5, .int (nI (cnt (fun q9 => nz (fR (40 * q9 + (x.toNatClampNeg)))) n))), (0, .ref (b 0)), (1, .int x), (2, .int z), (3, .long bits)]) hx hb d_M_scrub_101 hl (by decide) rfl (fun ls hl => ?_)
                      have lp103 : ∀ (q9 i : Nat) (H : Heap) (locs : List Loc) (ls : Array Slot), i + q9 = n → va_P (dC, dI) clA (wMd b k5 0 vn vr vo vl vb fN fK fW fL fM fE (mScrub fR (x.toNatClampNeg) i) fF fS fP fY fT fJ fI) H → va_D (kx_A (wMd b k5 vT vn vr vo vl vb fN fK fW fL fM fE fR fF fS fP fY fT fJ fI)) (wMd b k5 0 vn vr vo vl vb fN fK fW fL fM fE (mScrub fR (x.toNatClampNeg) i) fF fS fP fY fT fJ fI) → va_S (kx_A (wMd b k5 vT vn vr vo vl vb fN fK fW fL fM fE fR fF fS fP fY fT fJ fI)) s.heap H locs → lv_has ls 7 [(6, .int (nI i)), (5, .int (nI (cnt (fun q9 => nz (fR (40 * q9 + (x.toNatClampNeg)))) n))), (0, .ref (b 0)), (1, .int x), (2, .int z), (3, .long bits)] → W p l e (headSpec w_M_scrub ({ frames := 1, cells := 0, slots := 0, locals := 21 })).room s m ([.ref (b 0), .int x, .int z, .long bits] : List Value).toArray below meth c H locs 0 0 (MQ below (kx_Q (dC, dI) clA (wMd b k5 vT vn vr vo vl vb fN fK fW fL fM fE fR fF fS fP fY fT fJ fI) (wMS b k5 (m_scrub vT vn vr vo vl vb fN fK fW fL fM fE fR fF fS fP fY fT fJ fI n x z bits).1) (some (.int (m_scrub vT vn vr vo vl vb fN fK fW fL fM fE fR fF fS fP fY fT fJ fI n x z bits).2))) ([.ref (b 0), .int x, .int z, .long bits] : List Value).toArray s 0 0 (kx_A (wMd b k5 vT vn vr vo vl vb fN fK fW fL fM fE fR fF fS fP fY fT fJ fI))) (F0 m 103 ls []) := by
                        intro q9
                        induction q9 with
                        | zero =>
                          intro i H locs ls hi hP hD hS hl
                          have hi : n = i := by omega
                          subst hi
                          refine lv_iload hx hb d_M_scrub_103 (lv_at hl 0 rfl) ?_
                          refine lv_aload_n hx hb d_M_scrub_105 rfl (lv_at hl 2 rfl) ?_
                          refine va_get (D := (dC, dI)) (ci := 3) (v := .int vn) (C := R_M) (T := T_M) (N := 20) hx hb hts wu_M hown hK hP 0 rfl rfl 1 (by decide) (hts _ wf_M_62) (fun _ h9 => h9) rfl d_M_scrub_106 ?_
                          refine lv_icmp_ge (tgt := 131) hx hb d_M_scrub_109 (by decide) (fun hc => ?_) (fun hc => ?_)
                          · refine lv_iload hx hb d_M_scrub_131 (lv_at hl 1 rfl) ?_
                            have e : m_scrub vT vn vr vo vl vb fN fK fW fL fM fE fR fF fS fP fY fT fJ fI n x z bits = ((0, vn, vr, vo, vl, vb, fN, fK, fW, fL, fM, fE, (mScrub fR (x.toNatClampNeg) n), fF, fS, fP, fY, fT, fJ, fI), (nI (cnt (fun q9 => nz (fR (40 * q9 + (x.toNatClampNeg)))) n))) := by unfold m_scrub; rw [if_pos hc_1, if_neg hc_2, if_neg hc_3, if_neg hc_4, if_pos hc_5, if_neg hc_6, if_neg hc_7]
                            exact W.iret (v := (nI (cnt (fun q9 => nz (fR (40 * q9 + (x.toNatClampNeg)))) n))) hx hb hr (fun t ht hW => kx_Qi (by rw [e]) ht hP (by rw [e]) hS rfl) hS.2.2 d_M_scrub_133
                          · exact absurd (by rw [hn]; exact nI_le (by omega) (by omega)) hc
                        | succ q9 ih =>
                          intro i H locs ls hi hP hD hS hl
                          refine lv_iload hx hb d_M_scrub_103 (lv_at hl 0 rfl) ?_
                          refine lv_aload_n hx hb d_M_scrub_105 rfl (lv_at hl 2 rfl) ?_
                          refine va_get (D := (dC, dI)) (ci := 3) (v := .int vn) (C := R_M) (T := T_M) (N := 20) hx hb hts wu_M hown hK hP 0 rfl rfl 1 (by decide) (hts _ wf_M_62) (fun _ h9 => h9) rfl d_M_scrub_106 ?_
                          refine lv_icmp_ge (tgt := 131) hx hb d_M_scrub_109 (by decide) (fun hc => ?_) (fun hc => ?_)
                          · exact absurd hc (by rw [hn]; exact nI_ge (by omega) (by omega))
                          · refine lv_aload_n hx hb d_M_scrub_112 rfl (lv_at hl 2 rfl) ?_
                            refine va_get (D := (dC, dI)) (ci := 3) (v := .ref (b 7)) (C := R_M) (T := T_M) (N := 20) hx hb hts wu_M hown hK hP 0 rfl rfl 10 (by decide) (hts _ wf_M_30) (fun _ h9 => h9) rfl d_M_scrub_113 ?_
                            refine lv_bipush (v := 40) hx hb d_M_scrub_116 (by decide) ?_
                            refine lv_iload hx hb d_M_scrub_118 (lv_at hl 0 rfl) ?_
                            refine lv_imul hx hb d_M_scrub_120 ?_
                            refine lv_iload_n hx hb d_M_scrub_121 rfl (lv_at hl 3 rfl) ?_
                            refine lv_iadd hx hb d_M_scrub_122 ?_
                            refine lv_iconst (v := 0) hx hb d_M_scrub_123 (by decide) ?_
                            refine kx_zast (ws' := (wMd b k5 0 vn vr vo vl vb fN fK fW fL fM fE (mScrub fR (x.toNatClampNeg) (i + 1)) fF fS fP fY fT fJ fI)) hx hb hK hP hD hS 7 3 rfl rfl (40 * i + (x.toNatClampNeg)) (i40 rfl (rw_t hc_2 (Int32.not_le.mp hc_3) er (by omega)).1) (by have := (rw_t hc_2 (Int32.not_le.mp hc_3) er (by omega)).2.2; omega) (by omega) rfl rfl d_M_scrub_124 (fun H locs hP hD hS => ?_)
                            refine lv_iinc (v := nI (i + 1)) (lv' := [(6, .int (nI (i + 1))), (5, .int (nI (cnt (fun q9 => nz (fR (40 * q9 + (x.toNatClampNeg)))) n))), (0, .ref (b 0)), (1, .int x), (2, .int z), (3, .long bits)]) hx hb d_M_scrub_125 hl (k := 0) rfl (nI_1 i) (by decide) rfl (fun ls hl => ?_)
                            refine lv_goto (tgt := 103) hx hb d_M_scrub_128 (by decide) ?_
                            exact ih (i + 1) H locs ls (by omega) hP hD hS (lv_sub hl [0, 1, 2, 3, 4, 5] rfl)
                      exact lp103 n 0 H locs ls (by omega) hP hD hS (lv_sub hl [0, 1, 2, 3, 4, 5] rfl)
                    · refine lv_aload_n hx hb d_M_scrub_95 rfl (lv_at hl 2 rfl) ?_
                      refine kx_VW (w1 := (wMd b k5 0 vn vr 1 vl vb fN fK (fill0 fW 0 204) fL fM fE fR fF fS fP fY fT fJ fI)) (As := []) (rest := []) ⟨hx, hb, hml, hown, hts⟩ (k_M_powerOff l dC dI k5 b 0 vn vr vo vl vb fN fK fW fL fM fE fR fF fS fP fY fT fJ fI ) (cwV 0 hts (goodV wm_M_107 wn_M_powerOff ws_M_powerOff wi_M wc_M_powerOff) rfl rfl rfl (by decide +kernel) ⟨Nat.le_of_ble_eq_true rfl, Nat.le_of_ble_eq_true rfl⟩) ⟨Nat.zero_le _, Nat.zero_le _⟩ hK hP hD hS 0 rfl rfl rfl rfl hl.1 rfl (Nat.le_of_ble_eq_true rfl) d_M_scrub_96 (fun H locs hP hD hS => ?_)
                      refine W.eq (g2 := F0 m 99 ls [.int (-2)]) rfl ?_
                      have e : m_scrub vT vn vr vo vl vb fN fK fW fL fM fE fR fF fS fP fY fT fJ fI n x z bits = ((0, vn, vr, 1, vl, vb, fN, fK, (fill0 fW 0 204), fL, fM, fE, fR, fF, fS, fP, fY, fT, fJ, fI), (-2)) := by unfold m_scrub; rw [if_pos hc_1, if_neg hc_2, if_neg hc_3, if_neg hc_4, if_pos hc_5, if_neg hc_6, if_pos hc_7]
                      exact W.iret (v := (-2)) hx hb hr (fun t ht hW => kx_Qi (by rw [e]) ht hP (by rw [e]) hS rfl) hS.2.2 d_M_scrub_99
                · exact absurd (by rw [hn]; exact nI_le (by omega) (by omega)) hc
              | succ q9 ih =>
                intro i ls hi hl
                refine lv_iload hx hb d_M_scrub_45 (lv_at hl 0 rfl) ?_
                refine lv_aload_n hx hb d_M_scrub_47 rfl (lv_at hl 2 rfl) ?_
                refine va_get (D := (dC, dI)) (ci := 3) (v := .int vn) (C := R_M) (T := T_M) (N := 20) hx hb hts wu_M hown hK hP 0 rfl rfl 1 (by decide) (hts _ wf_M_62) (fun _ h9 => h9) rfl d_M_scrub_48 ?_
                refine lv_icmp_ge (tgt := 85) hx hb d_M_scrub_51 (by decide) (fun hc => ?_) (fun hc => ?_)
                · exact absurd hc (by rw [hn]; exact nI_ge (by omega) (by omega))
                · refine lv_iload hx hb d_M_scrub_54 (lv_at hl 1 rfl) ?_
                  refine lv_aload_n hx hb d_M_scrub_56 rfl (lv_at hl 2 rfl) ?_
                  refine va_get (D := (dC, dI)) (ci := 3) (v := .ref (b 7)) (C := R_M) (T := T_M) (N := 20) hx hb hts wu_M hown hK hP 0 rfl rfl 10 (by decide) (hts _ wf_M_30) (fun _ h9 => h9) rfl d_M_scrub_57 ?_
                  refine lv_bipush (v := 40) hx hb d_M_scrub_60 (by decide) ?_
                  refine lv_iload hx hb d_M_scrub_62 (lv_at hl 0 rfl) ?_
                  refine lv_imul hx hb d_M_scrub_64 ?_
                  refine lv_iload_n hx hb d_M_scrub_65 rfl (lv_at hl 3 rfl) ?_
                  refine lv_iadd hx hb d_M_scrub_66 ?_
                  refine kx_zald hx hb hK hP 7 3 rfl rfl (40 * i + (x.toNatClampNeg)) (i40 rfl (rw_t hc_2 (Int32.not_le.mp hc_3) er (by omega)).1) (by have := (rw_t hc_2 (Int32.not_le.mp hc_3) er (by omega)).2.2; omega) (by omega) d_M_scrub_67 ?_
                  refine lv_if_eq (tgt := 75) hx hb d_M_scrub_68 (by decide) (fun hd => ?_) (fun hd => ?_)
                  · refine lv_iconst (v := 0) hx hb d_M_scrub_75 (by decide) ?_
                    refine lv_iadd hx hb d_M_scrub_76 ?_
                    refine lv_istore (lv' := [(5, .int ((nI (cnt (fun q9 => nz (fR (40 * q9 + (x.toNatClampNeg)))) i)) + 0)), (6, .int (nI i)), (0, .ref (b 0)), (1, .int x), (2, .int z), (3, .long bits)]) hx hb d_M_scrub_77 hl (by decide) rfl (fun ls hl => ?_)
                    refine lv_iinc (v := nI (i + 1)) (lv' := [(6, .int (nI (i + 1))), (5, .int ((nI (cnt (fun q9 => nz (fR (40 * q9 + (x.toNatClampNeg)))) i)) + 0)), (0, .ref (b 0)), (1, .int x), (2, .int z), (3, .long bits)]) hx hb d_M_scrub_79 hl (k := 1) rfl (nI_1 i) (by decide) rfl (fun ls hl => ?_)
                    refine lv_goto (tgt := 45) hx hb d_M_scrub_82 (by decide) ?_
                    exact ih (i + 1) ls (by omega) (by rw [cnt_f2 (p := fun q9 => nz (fR (40 * q9 + (x.toNatClampNeg)))) (n := i) (nz_f hd)]; exact (lv_sub hl [0, 1, 2, 3, 4, 5] rfl))
                  · refine lv_iconst (v := 1) hx hb d_M_scrub_71 (by decide) ?_
                    refine lv_goto (tgt := 76) hx hb d_M_scrub_72 (by decide) ?_
                    refine lv_iadd hx hb d_M_scrub_76 ?_
                    refine lv_istore (lv' := [(5, .int ((nI (cnt (fun q9 => nz (fR (40 * q9 + (x.toNatClampNeg)))) i)) + 1)), (6, .int (nI i)), (0, .ref (b 0)), (1, .int x), (2, .int z), (3, .long bits)]) hx hb d_M_scrub_77 hl (by decide) rfl (fun ls hl => ?_)
                    refine lv_iinc (v := nI (i + 1)) (lv' := [(6, .int (nI (i + 1))), (5, .int ((nI (cnt (fun q9 => nz (fR (40 * q9 + (x.toNatClampNeg)))) i)) + 1)), (0, .ref (b 0)), (1, .int x), (2, .int z), (3, .long bits)]) hx hb d_M_scrub_79 hl (k := 1) rfl (nI_1 i) (by decide) rfl (fun ls hl => ?_)
                    refine lv_goto (tgt := 45) hx hb d_M_scrub_82 (by decide) ?_
                    exact ih (i + 1) ls (by omega) (by rw [cnt_t2 (p := fun q9 => nz (fR (40 * q9 + (x.toNatClampNeg)))) (n := i) (nz_t hd)]; exact (lv_sub hl [0, 1, 2, 3, 4, 5] rfl))
            exact lp45 n 0 ls (by omega) (lv_sub hl [0, 1, 2, 3, 4, 5] rfl)
          · refine lv_iconst (v := (-1)) hx hb d_M_scrub_37 (by decide) ?_
            have e : m_scrub vT vn vr vo vl vb fN fK fW fL fM fE fR fF fS fP fY fT fJ fI n x z bits = ((0, vn, vr, vo, vl, vb, fN, fK, fW, fL, fM, fE, fR, fF, fS, fP, fY, fT, fJ, fI), (-1)) := by unfold m_scrub; rw [if_pos hc_1, if_neg hc_2, if_neg hc_3, if_neg hc_4, if_neg hc_5]
            exact W.iret (v := (-1)) hx hb hr (fun t ht hW => kx_Qi (by rw [e]) ht hP (by rw [e]) hS rfl) hS.2.2 d_M_scrub_38
  · refine lv_bipush (v := (-2)) hx hb d_M_scrub_12 (by decide) ?_
    have e : m_scrub vT vn vr vo vl vb fN fK fW fL fM fE fR fF fS fP fY fT fJ fI n x z bits = ((0, vn, vr, vo, vl, vb, fN, fK, fW, fL, fM, fE, fR, fF, fS, fP, fY, fT, fJ, fI), (-2)) := by unfold m_scrub; rw [if_neg hc_1]
    exact W.iret (v := (-2)) hx hb hr (fun t ht hW => kx_Qi (by rw [e]) ht hP (by rw [e]) hS rfl) hS.2.2 d_M_scrub_14
def m_fill (vT vn vr vo vl vb : Int32) (fN fK fW fL fM fE fR fF fS fP fY fT fJ fI : FF) (n bs la p9 : Nat) (d z : Int32) (bits : Int64) : MT × Int32 := (if vo = 0 then (if (bI (decide (d < 0 ∨ ¬ d < vn))) = 0 then (if (bI (decide (fL (d.toNatClampNeg) = 0 ∧ ¬ vr ≤ fM (d.toNatClampNeg)))) = 0 then ((0, vn, vr, vo, vl, vb, fN, fK, fW, fL, fM, fE, fR, fF, fS, fP, fY, fT, fJ, fI), (-1)) else (if z < 0 then ((0, vn, vr, vo, vl, vb, fN, fK, fW, fL, fM, fE, fR, fF, fS, fP, fY, fT, fJ, fI), (-1)) else (if z ≤ 2 then (if z = 1 then ((0, vn, vr, 1, vl, vb, fN, fK, (fill0 fW 0 204), fL, fM, fE, fR, fF, fS, fP, fY, fT, fJ, fI), (-2)) else (if z = 2 then ((0, vn, vr, 1, (vl + 1), vb, fN, fK, (fill0 fW 0 204), fL, (upd (upd fM (d.toNatClampNeg) (fM (d.toNatClampNeg) + 1)) (d.toNatClampNeg) ((upd fM (d.toNatClampNeg) (fM (d.toNatClampNeg) + 1)) (d.toNatClampNeg) - 1)), fE, fR, (mSp fL (la + 1) p9 0 1 bits fF fS n).1, (mSp fL (la + 1) p9 0 1 bits fF fS n).2.1, (upd fP (la + 1) (1 - fP bs)), (upd fY (la + 1) 0), (mTell (upd fM (d.toNatClampNeg) (fM (d.toNatClampNeg) + 1)) (la + 1) fT 8), fJ, fI), (-2)) else ((0, vn, vr, vo, (vl + 1), (vl + 1), fN, fK, fW, fL, (upd fM (d.toNatClampNeg) (fM (d.toNatClampNeg) + 1)), fE, fR, (mSp fL (la + 1) p9 0 0 0 fF fS n).1, (mSp fL (la + 1) p9 0 0 0 fF fS n).2.1, (upd fP (la + 1) (1 - fP bs)), (upd fY (la + 1) 0), (mTell (upd fM (d.toNatClampNeg) (fM (d.toNatClampNeg) + 1)) (la + 1) fT 8), fJ, fI), ((upd fM (d.toNatClampNeg) (fM (d.toNatClampNeg) + 1)) (d.toNatClampNeg))))) else ((0, vn, vr, vo, vl, vb, fN, fK, fW, fL, fM, fE, fR, fF, fS, fP, fY, fT, fJ, fI), (-1))))) else ((0, vn, vr, vo, vl, vb, fN, fK, fW, fL, fM, fE, fR, fF, fS, fP, fY, fT, fJ, fI), (-1))) else ((0, vn, vr, vo, vl, vb, fN, fK, fW, fL, fM, fE, fR, fF, fS, fP, fY, fT, fJ, fI), (-2)))
set_option maxHeartbeats 4000000 in
set_option maxRecDepth 100000 in
theorem k_M_fill (l : Launch) (dC : Nat → ClassId) (dI : Nat → Nat → Nat) (k5 : Nat → ClassId) (b : Nat → Nat) (vT vn vr vo vl vb : Int32) (fN fK fW fL fM fE fR fF fS fP fY fT fJ fI : FF) (n bs la p9 : Nat) (d z : Int32) (bits : Int64) (hn : vn = nI n) (hn4 : 4 ≤ n) (hn8 : n ≤ 8) (hvb : vb = nI bs) (hvl : vl = nI la) (hbs : bs < 1300) (hla : la + 3 < 1300) (hp9 : p9 = 0 ∨ p9 = 1) (hrow : 1 - fP bs = nI p9) : Met l y_M_fill w_M_fill ({ frames := 3, cells := 0, slots := 0, locals := 73 }) (kx_Pc (dC, dI) clA (tyL k5) (wMd b k5 vT vn vr vo vl vb fN fK fW fL fM fE fR fF fS fP fY fT fJ fI) [.ref (b 0), .int d, .int z, .long bits]) (kx_Q (dC, dI) clA (wMd b k5 vT vn vr vo vl vb fN fK fW fL fM fE fR fF fS fP fY fT fJ fI) (wMS b k5 (m_fill vT vn vr vo vl vb fN fK fW fL fM fE fR fF fS fP fY fT fJ fI n bs la p9 d z bits).1) (some (.int (m_fill vT vn vr vo vl vb fN fK fW fL fM fE fR fF fS fP fY fT fJ fI n bs la p9 d z bits).2))) 0 0 (kx_A (wMd b k5 vT vn vr vo vl vb fN fK fW fL fM fE fR fF fS fP fY fT fJ fI)) := by
  refine Met.ofW (cc := c_M_fill) (maxL := 5) (ret := (some .int)) (by decide) rfl ?_
  intro p e s m args below meth c s₁ B hml hv
  obtain ⟨rfl, hP, hK, hD0⟩ := hv
  have hx := B.exec
  have hb := B.bytes
  have hr := B.returns
  have hts : ∀ w ∈ wsA, w.before _ s = true := fun w h => atoms_spec (ws := w_M_fill) B.pre w (List.mem_cons_of_mem _ h)
  have hown : s.vm.findClass R_M = some m.cls := findClass_of_methodNamed B.named
  have hlocks := B.notSynchronized
  have hD := kx_D.self hD0
  have hS : va_S (kx_A (wMd b k5 vT vn vr vo vl vb fN fK fW fL fM fE fR fF fS fP fY fT fJ fI)) s.heap s.heap [] := va_S.rf
  have hl := lv_entry ([.ref (b 0), .int d, .int z, .long bits]) (n := 5) (Nat.le_of_ble_eq_true rfl)
  rw [lg_entry_eq]
  generalize (lg_sl ([.ref (b 0), .int d, .int z, .long bits]) ++ List.replicate (5 - (lg_sl ([.ref (b 0), .int d, .int z, .long bits])).length) Slot.unset).toArray = ls at hl ⊢
  have hl : lv_has ls 5 [(0, .ref (b 0)), (1, .int d), (2, .int z), (3, .long bits)] := hl
  refine lv_aload_n hx hb d_M_fill_0 rfl (lv_at hl 0 rfl) ?_
  refine lv_iconst (v := 0) hx hb d_M_fill_1 (by decide) ?_
  refine kx_put (ws' := (wMd b k5 0 vn vr vo vl vb fN fK fW fL fM fE fR fF fS fP fY fT fJ fI)) (D := (dC, dI)) (ci := 3) (v := .int 0) (ty := .int) (C := R_M) (T := T_M) (N := 20) hx hb hts wu_M ty_M ok_M nm_M hown hK hP hD hS 0 rfl rfl 0 (by decide) (hts _ wf_M_58) (fun _ h9 => h9) rfl (by decide +kernel) rfl rfl (Nat.le_of_ble_eq_true rfl) rfl d_M_fill_2 (fun H locs hP hD hS => ?_)
  refine lv_aload_n hx hb d_M_fill_5 rfl (lv_at hl 0 rfl) ?_
  refine va_get (D := (dC, dI)) (ci := 3) (v := .int vo) (C := R_M) (T := T_M) (N := 20) hx hb hts wu_M hown hK hP 0 rfl rfl 3 (by decide) (hts _ wf_M_68) (fun _ h9 => h9) rfl d_M_fill_6 ?_
  refine lv_if_eq (tgt := 15) hx hb d_M_fill_9 (by decide) (fun hc_1 => ?_) (fun hc_1 => ?_)
  · refine lv_aload_n hx hb d_M_fill_15 rfl (lv_at hl 0 rfl) ?_
    refine lv_iload_n hx hb d_M_fill_16 rfl (lv_at hl 1 rfl) ?_
    refine kx_VRW (As := [.int d]) (rest := []) ⟨hx, hb, hml, hown, hts⟩ (k_M_noDisk l dC dI k5 b 0 vn vr vo vl vb fN fK fW fL fM fE fR fF fS fP fY fT fJ fI d) (cwV 1 hts (goodV wm_M_117 wn_M_noDisk ws_M_noDisk wi_M wc_M_noDisk) rfl rfl rfl (by decide +kernel) ⟨Nat.le_of_ble_eq_true rfl, Nat.le_of_ble_eq_true rfl⟩) ⟨Nat.zero_le _, Nat.zero_le _⟩ hK hP hD 0 rfl rfl rfl hl.1 rfl (Nat.le_of_ble_eq_true rfl) d_M_fill_17 ?_
    refine W.eq (g2 := F0 m 20 ls [.int (bI (decide (d < 0 ∨ ¬ d < vn)))]) rfl ?_
    refine lv_if_ne (tgt := 40) hx hb d_M_fill_20 (by decide) (fun hc_2 => ?_) (fun hc_2 => ?_)
    · refine lv_iconst (v := (-1)) hx hb d_M_fill_40 (by decide) ?_
      have e : m_fill vT vn vr vo vl vb fN fK fW fL fM fE fR fF fS fP fY fT fJ fI n bs la p9 d z bits = ((0, vn, vr, vo, vl, vb, fN, fK, fW, fL, fM, fE, fR, fF, fS, fP, fY, fT, fJ, fI), (-1)) := by unfold m_fill; rw [if_pos hc_1, if_neg hc_2]
      exact W.iret (v := (-1)) hx hb hr (fun t ht hW => kx_Qi (by rw [e]) ht hP (by rw [e]) hS rfl) hS.2.2 d_M_fill_41
    · refine lv_aload_n hx hb d_M_fill_23 rfl (lv_at hl 0 rfl) ?_
      refine lv_iload_n hx hb d_M_fill_24 rfl (lv_at hl 1 rfl) ?_
      refine W.eq (g2 := F0 m 25 ls [.int (nI (d.toNatClampNeg)), .ref (b 0)]) (by rw [← (noD hc_2 hn (by omega)).1]) ?_
      refine kx_VRW (As := [.int (nI (d.toNatClampNeg))]) (rest := []) ⟨hx, hb, hml, hown, hts⟩ (k_M_isBlank l dC dI k5 b 0 vn vr vo vl vb fN fK fW fL fM fE fR fF fS fP fY fT fJ fI (d.toNatClampNeg) (by have := (noD hc_2 hn (by omega)).2; omega)) (cwV 1 hts (goodV wm_M_151 wn_M_isBlank ws_M_isBlank wi_M wc_M_isBlank) rfl rfl rfl (by decide +kernel) ⟨Nat.le_of_ble_eq_true rfl, Nat.le_of_ble_eq_true rfl⟩) ⟨Nat.zero_le _, Nat.zero_le _⟩ hK hP hD 0 rfl rfl rfl hl.1 rfl (Nat.le_of_ble_eq_true rfl) d_M_fill_25 ?_
      refine W.eq (g2 := F0 m 28 ls [.int (bI (decide (fL (d.toNatClampNeg) = 0 ∧ ¬ vr ≤ fM (d.toNatClampNeg))))]) rfl ?_
      refine lv_if_eq (tgt := 40) hx hb d_M_fill_28 (by decide) (fun hc_3 => ?_) (fun hc_3 => ?_)
      · refine lv_iconst (v := (-1)) hx hb d_M_fill_40 (by decide) ?_
        have e : m_fill vT vn vr vo vl vb fN fK fW fL fM fE fR fF fS fP fY fT fJ fI n bs la p9 d z bits = ((0, vn, vr, vo, vl, vb, fN, fK, fW, fL, fM, fE, fR, fF, fS, fP, fY, fT, fJ, fI), (-1)) := by unfold m_fill; rw [if_pos hc_1, if_pos hc_2, if_pos hc_3]
        exact W.iret (v := (-1)) hx hb hr (fun t ht hW => kx_Qi (by rw [e]) ht hP (by rw [e]) hS rfl) hS.2.2 d_M_fill_41
      · refine lv_iload_n hx hb d_M_fill_31 rfl (lv_at hl 2 rfl) ?_
        refine lv_if_lt (tgt := 40) hx hb d_M_fill_32 (by decide) (fun hc_4 => ?_) (fun hc_4 => ?_)
        · refine lv_iconst (v := (-1)) hx hb d_M_fill_40 (by decide) ?_
          have e : m_fill vT vn vr vo vl vb fN fK fW fL fM fE fR fF fS fP fY fT fJ fI n bs la p9 d z bits = ((0, vn, vr, vo, vl, vb, fN, fK, fW, fL, fM, fE, fR, fF, fS, fP, fY, fT, fJ, fI), (-1)) := by unfold m_fill; rw [if_pos hc_1, if_pos hc_2, if_neg hc_3, if_pos hc_4]
          exact W.iret (v := (-1)) hx hb hr (fun t ht hW => kx_Qi (by rw [e]) ht hP (by rw [e]) hS rfl) hS.2.2 d_M_fill_41
        · refine lv_iload_n hx hb d_M_fill_35 rfl (lv_at hl 2 rfl) ?_
          refine lv_iconst (v := 2) hx hb d_M_fill_36 (by decide) ?_
          refine lv_icmp_le (tgt := 42) hx hb d_M_fill_37 (by decide) (fun hc_5 => ?_) (fun hc_5 => ?_)
          · refine lv_iload_n hx hb d_M_fill_42 rfl (lv_at hl 2 rfl) ?_
            refine lv_iconst (v := 1) hx hb d_M_fill_43 (by decide) ?_
            refine lv_icmp_ne (tgt := 52) hx hb d_M_fill_44 (by decide) (fun hc_6 => ?_) (fun hc_6 => ?_)
            · refine lv_aload_n hx hb d_M_fill_52 rfl (lv_at hl 0 rfl) ?_
              refine va_get (D := (dC, dI)) (ci := 3) (v := .ref (b 5)) (C := R_M) (T := T_M) (N := 20) hx hb hts wu_M hown hK hP 0 rfl rfl 8 (by decide) (hts _ wf_M_23) (fun _ h9 => h9) rfl d_M_fill_53 ?_
              refine lv_iload_n hx hb d_M_fill_56 rfl (lv_at hl 1 rfl) ?_
              refine lv_dup2_11 hx hb d_M_fill_57 rfl rfl ?_
              refine kx_iald hx hb hK hP 5 0 rfl rfl (d.toNatClampNeg) ((noD hc_2 hn (by omega)).1) (by have := (noD hc_2 hn (by omega)).2; omega) (by omega) d_M_fill_58 ?_
              refine lv_iconst (v := 1) hx hb d_M_fill_59 (by decide) ?_
              refine lv_iadd hx hb d_M_fill_60 ?_
              refine kx_iast (ws' := (wMd b k5 0 vn vr vo vl vb fN fK fW fL (upd fM (d.toNatClampNeg) (fM (d.toNatClampNeg) + 1)) fE fR fF fS fP fY fT fJ fI)) hx hb hK hP hD hS 5 0 rfl rfl (d.toNatClampNeg) ((noD hc_2 hn (by omega)).1) (by have := (noD hc_2 hn (by omega)).2; omega) (by omega) rfl d_M_fill_61 (fun H locs hP hD hS => ?_)
              refine lv_iload_n hx hb d_M_fill_62 rfl (lv_at hl 2 rfl) ?_
              refine lv_iconst (v := 2) hx hb d_M_fill_63 (by decide) ?_
              refine lv_icmp_ne (tgt := 98) hx hb d_M_fill_64 (by decide) (fun hc_7 => ?_) (fun hc_7 => ?_)
              · refine lv_aload_n hx hb d_M_fill_98 rfl (lv_at hl 0 rfl) ?_
                refine lv_iconst (v := 0) hx hb d_M_fill_99 (by decide) ?_
                refine kx_VW (w1 := (wMd b k5 0 vn vr vo (vl + 1) (vl + 1) fN fK fW fL (upd fM (d.toNatClampNeg) (fM (d.toNatClampNeg) + 1)) fE fR ((mSp fL (la + 1) p9 0 0 0 fF fS n).1) ((mSp fL (la + 1) p9 0 0 0 fF fS n).2.1) (upd fP (la + 1) (1 - fP bs)) (upd fY (la + 1) 0) (mTell (upd fM (d.toNatClampNeg) (fM (d.toNatClampNeg) + 1)) (la + 1) fT 8) fJ fI)) (As := [.int 0]) (rest := []) ⟨hx, hb, hml, hown, hts⟩ (k_M_label l dC dI k5 b 0 vn vr vo vl vb fN fK fW fL (upd fM (d.toNatClampNeg) (fM (d.toNatClampNeg) + 1)) fE fR fF fS fP fY fT fJ fI 0 rfl bs la hvb hvl hbs (by omega) p9 hp9 hrow n hn hn4 hn8) (cwV 1 hts (goodV wm_M_82 wn_M_label ws_M_label wi_M wc_M_label) rfl rfl rfl (by decide +kernel) ⟨Nat.le_of_ble_eq_true rfl, Nat.le_of_ble_eq_true rfl⟩) ⟨Nat.zero_le _, Nat.zero_le _⟩ hK hP hD hS 0 rfl rfl rfl rfl hl.1 rfl (Nat.le_of_ble_eq_true rfl) d_M_fill_100 (fun H locs hP hD hS => ?_)
                refine W.eq (g2 := F0 m 103 ls []) rfl ?_
                refine lv_aload_n hx hb d_M_fill_103 rfl (lv_at hl 0 rfl) ?_
                refine va_get (D := (dC, dI)) (ci := 3) (v := .ref (b 5)) (C := R_M) (T := T_M) (N := 20) hx hb hts wu_M hown hK hP 0 rfl rfl 8 (by decide) (hts _ wf_M_23) (fun _ h9 => h9) rfl d_M_fill_104 ?_
                refine lv_iload_n hx hb d_M_fill_107 rfl (lv_at hl 1 rfl) ?_
                refine kx_iald hx hb hK hP 5 0 rfl rfl (d.toNatClampNeg) ((noD hc_2 hn (by omega)).1) (by have := (noD hc_2 hn (by omega)).2; omega) (by omega) d_M_fill_108 ?_
                have e : m_fill vT vn vr vo vl vb fN fK fW fL fM fE fR fF fS fP fY fT fJ fI n bs la p9 d z bits = ((0, vn, vr, vo, (vl + 1), (vl + 1), fN, fK, fW, fL, (upd fM (d.toNatClampNeg) (fM (d.toNatClampNeg) + 1)), fE, fR, (mSp fL (la + 1) p9 0 0 0 fF fS n).1, (mSp fL (la + 1) p9 0 0 0 fF fS n).2.1, (upd fP (la + 1) (1 - fP bs)), (upd fY (la + 1) 0), (mTell (upd fM (d.toNatClampNeg) (fM (d.toNatClampNeg) + 1)) (la + 1) fT 8), fJ, fI), ((upd fM (d.toNatClampNeg) (fM (d.toNatClampNeg) + 1)) (d.toNatClampNeg))) := by unfold m_fill; rw [if_pos hc_1, if_pos hc_2, if_neg hc_3, if_neg hc_4, if_pos hc_5, if_neg hc_6, if_neg hc_7]
                exact W.iret (v := ((upd fM (d.toNatClampNeg) (fM (d.toNatClampNeg) + 1)) (d.toNatClampNeg))) hx hb hr (fun t ht hW => kx_Qi (by rw [e]) ht hP (by rw [e]) hS rfl) hS.2.2 d_M_fill_109
              · refine lv_aload_n hx hb d_M_fill_67 rfl (lv_at hl 0 rfl) ?_
                refine lv_iconst (v := 0) hx hb d_M_fill_68 (by decide) ?_
                refine kx_VW (w1 := (wMd b k5 0 vn vr vo (vl + 1) vb fN fK fW fL (upd fM (d.toNatClampNeg) (fM (d.toNatClampNeg) + 1)) fE fR fF fS (upd fP (la + 1) (1 - fP bs)) (upd fY (la + 1) 0) (mTell (upd fM (d.toNatClampNeg) (fM (d.toNatClampNeg) + 1)) (la + 1) fT 8) fJ fI)) (As := [.int 0]) (rest := []) ⟨hx, hb, hml, hown, hts⟩ (k_M_newLabel l dC dI k5 b 0 vn vr vo vl vb fN fK fW fL (upd fM (d.toNatClampNeg) (fM (d.toNatClampNeg) + 1)) fE fR fF fS fP fY fT fJ fI 0 rfl bs la hvb hvl hbs (by omega)) (cwV 1 hts (goodV wm_M_100 wn_M_newLabel ws_M_newLabel wi_M wc_M_newLabel) rfl rfl rfl (by decide +kernel) ⟨Nat.le_of_ble_eq_true rfl, Nat.le_of_ble_eq_true rfl⟩) ⟨Nat.zero_le _, Nat.zero_le _⟩ hK hP hD hS 0 rfl rfl rfl rfl hl.1 rfl (Nat.le_of_ble_eq_true rfl) d_M_fill_69 (fun H locs hP hD hS => ?_)
                refine W.eq (g2 := F0 m 72 ls []) rfl ?_
                refine lv_aload_n hx hb d_M_fill_72 rfl (lv_at hl 0 rfl) ?_
                refine va_get (D := (dC, dI)) (ci := 3) (v := .ref (b 5)) (C := R_M) (T := T_M) (N := 20) hx hb hts wu_M hown hK hP 0 rfl rfl 8 (by decide) (hts _ wf_M_23) (fun _ h9 => h9) rfl d_M_fill_73 ?_
                refine lv_iload_n hx hb d_M_fill_76 rfl (lv_at hl 1 rfl) ?_
                refine lv_dup2_11 hx hb d_M_fill_77 rfl rfl ?_
                refine kx_iald hx hb hK hP 5 0 rfl rfl (d.toNatClampNeg) ((noD hc_2 hn (by omega)).1) (by have := (noD hc_2 hn (by omega)).2; omega) (by omega) d_M_fill_78 ?_
                refine lv_iconst (v := 1) hx hb d_M_fill_79 (by decide) ?_
                refine lv_isub hx hb d_M_fill_80 ?_
                refine kx_iast (ws' := (wMd b k5 0 vn vr vo (vl + 1) vb fN fK fW fL (upd (upd fM (d.toNatClampNeg) (fM (d.toNatClampNeg) + 1)) (d.toNatClampNeg) ((upd fM (d.toNatClampNeg) (fM (d.toNatClampNeg) + 1)) (d.toNatClampNeg) - 1)) fE fR fF fS (upd fP (la + 1) (1 - fP bs)) (upd fY (la + 1) 0) (mTell (upd fM (d.toNatClampNeg) (fM (d.toNatClampNeg) + 1)) (la + 1) fT 8) fJ fI)) hx hb hK hP hD hS 5 0 rfl rfl (d.toNatClampNeg) ((noD hc_2 hn (by omega)).1) (by have := (noD hc_2 hn (by omega)).2; omega) (by omega) rfl d_M_fill_81 (fun H locs hP hD hS => ?_)
                refine lv_aload_n hx hb d_M_fill_82 rfl (lv_at hl 0 rfl) ?_
                refine lv_aload_n hx hb d_M_fill_83 rfl (lv_at hl 0 rfl) ?_
                refine va_get (D := (dC, dI)) (ci := 3) (v := .int (vl + 1)) (C := R_M) (T := T_M) (N := 20) hx hb hts wu_M hown hK hP 0 rfl rfl 13 (by decide) (hts _ wf_M_72) (fun _ h9 => h9) rfl d_M_fill_84 ?_
                refine lv_iconst (v := 0) hx hb d_M_fill_87 (by decide) ?_
                refine lv_iconst (v := 1) hx hb d_M_fill_88 (by decide) ?_
                refine lv_lload_n hx hb d_M_fill_89 rfl (lv_at hl 3 rfl) ?_
                refine W.eq (g2 := F0 m 90 ls [.long bits, .int 1, .int 0, .int (nI (la + 1)), .ref (b 0)]) (by rw [hvl, show nI la + 1 = nI (la + 1) from nI_1 la]) ?_
                refine kx_VW (w1 := (wMd b k5 0 vn vr vo (vl + 1) vb fN fK fW fL (upd (upd fM (d.toNatClampNeg) (fM (d.toNatClampNeg) + 1)) (d.toNatClampNeg) ((upd fM (d.toNatClampNeg) (fM (d.toNatClampNeg) + 1)) (d.toNatClampNeg) - 1)) fE fR ((mSp fL (la + 1) p9 0 1 bits fF fS n).1) ((mSp fL (la + 1) p9 0 1 bits fF fS n).2.1) (upd fP (la + 1) (1 - fP bs)) (upd fY (la + 1) 0) (mTell (upd fM (d.toNatClampNeg) (fM (d.toNatClampNeg) + 1)) (la + 1) fT 8) fJ fI)) (As := [.int (nI (la + 1)), .int 0, .int 1, .long bits]) (rest := []) ⟨hx, hb, hml, hown, hts⟩ (k_M_spread l dC dI k5 b 0 vn vr vo (vl + 1) vb fN fK fW fL (upd (upd fM (d.toNatClampNeg) (fM (d.toNatClampNeg) + 1)) (d.toNatClampNeg) ((upd fM (d.toNatClampNeg) (fM (d.toNatClampNeg) + 1)) (d.toNatClampNeg) - 1)) fE fR fF fS (upd fP (la + 1) (1 - fP bs)) (upd fY (la + 1) 0) (mTell (upd fM (d.toNatClampNeg) (fM (d.toNatClampNeg) + 1)) (la + 1) fT 8) fJ fI (la + 1) p9 0 1 bits (by omega) hp9 (by rw [pk_us]; exact hrow) n hn hn4 hn8) (cwV 4 hts (goodV wm_M_103 wn_M_spread ws_M_spread wi_M wc_M_spread) rfl rfl rfl (by decide +kernel) ⟨Nat.le_of_ble_eq_true rfl, Nat.le_of_ble_eq_true rfl⟩) ⟨Nat.zero_le _, Nat.zero_le _⟩ hK hP hD hS 0 rfl rfl rfl rfl hl.1 rfl (Nat.le_of_ble_eq_true rfl) d_M_fill_90 (fun H locs hP hD hS => ?_)
                refine W.eq (g2 := F0 m 93 ls []) rfl ?_
                refine lv_aload_n hx hb d_M_fill_93 rfl (lv_at hl 0 rfl) ?_
                refine kx_VW (w1 := (wMd b k5 0 vn vr 1 (vl + 1) vb fN fK (fill0 fW 0 204) fL (upd (upd fM (d.toNatClampNeg) (fM (d.toNatClampNeg) + 1)) (d.toNatClampNeg) ((upd fM (d.toNatClampNeg) (fM (d.toNatClampNeg) + 1)) (d.toNatClampNeg) - 1)) fE fR ((mSp fL (la + 1) p9 0 1 bits fF fS n).1) ((mSp fL (la + 1) p9 0 1 bits fF fS n).2.1) (upd fP (la + 1) (1 - fP bs)) (upd fY (la + 1) 0) (mTell (upd fM (d.toNatClampNeg) (fM (d.toNatClampNeg) + 1)) (la + 1) fT 8) fJ fI)) (As := []) (rest := []) ⟨hx, hb, hml, hown, hts⟩ (k_M_powerOff l dC dI k5 b 0 vn vr vo (vl + 1) vb fN fK fW fL (upd (upd fM (d.toNatClampNeg) (fM (d.toNatClampNeg) + 1)) (d.toNatClampNeg) ((upd fM (d.toNatClampNeg) (fM (d.toNatClampNeg) + 1)) (d.toNatClampNeg) - 1)) fE fR ((mSp fL (la + 1) p9 0 1 bits fF fS n).1) ((mSp fL (la + 1) p9 0 1 bits fF fS n).2.1) (upd fP (la + 1) (1 - fP bs)) (upd fY (la + 1) 0) (mTell (upd fM (d.toNatClampNeg) (fM (d.toNatClampNeg) + 1)) (la + 1) fT 8) fJ fI ) (cwV 0 hts (goodV wm_M_107 wn_M_powerOff ws_M_powerOff wi_M wc_M_powerOff) rfl rfl rfl (by decide +kernel) ⟨Nat.le_of_ble_eq_true rfl, Nat.le_of_ble_eq_true rfl⟩) ⟨Nat.zero_le _, Nat.zero_le _⟩ hK hP hD hS 0 rfl rfl rfl rfl hl.1 rfl (Nat.le_of_ble_eq_true rfl) d_M_fill_94 (fun H locs hP hD hS => ?_)
                refine W.eq (g2 := F0 m 97 ls [.int (-2)]) rfl ?_
                have e : m_fill vT vn vr vo vl vb fN fK fW fL fM fE fR fF fS fP fY fT fJ fI n bs la p9 d z bits = ((0, vn, vr, 1, (vl + 1), vb, fN, fK, (fill0 fW 0 204), fL, (upd (upd fM (d.toNatClampNeg) (fM (d.toNatClampNeg) + 1)) (d.toNatClampNeg) ((upd fM (d.toNatClampNeg) (fM (d.toNatClampNeg) + 1)) (d.toNatClampNeg) - 1)), fE, fR, (mSp fL (la + 1) p9 0 1 bits fF fS n).1, (mSp fL (la + 1) p9 0 1 bits fF fS n).2.1, (upd fP (la + 1) (1 - fP bs)), (upd fY (la + 1) 0), (mTell (upd fM (d.toNatClampNeg) (fM (d.toNatClampNeg) + 1)) (la + 1) fT 8), fJ, fI), (-2)) := by unfold m_fill; rw [if_pos hc_1, if_pos hc_2, if_neg hc_3, if_neg hc_4, if_pos hc_5, if_neg hc_6, if_pos hc_7]
                exact W.iret (v := (-2)) hx hb hr (fun t ht hW => kx_Qi (by rw [e]) ht hP (by rw [e]) hS rfl) hS.2.2 d_M_fill_97
            · refine lv_aload_n hx hb d_M_fill_47 rfl (lv_at hl 0 rfl) ?_
              refine kx_VW (w1 := (wMd b k5 0 vn vr 1 vl vb fN fK (fill0 fW 0 204) fL fM fE fR fF fS fP fY fT fJ fI)) (As := []) (rest := []) ⟨hx, hb, hml, hown, hts⟩ (k_M_powerOff l dC dI k5 b 0 vn vr vo vl vb fN fK fW fL fM fE fR fF fS fP fY fT fJ fI ) (cwV 0 hts (goodV wm_M_107 wn_M_powerOff ws_M_powerOff wi_M wc_M_powerOff) rfl rfl rfl (by decide +kernel) ⟨Nat.le_of_ble_eq_true rfl, Nat.le_of_ble_eq_true rfl⟩) ⟨Nat.zero_le _, Nat.zero_le _⟩ hK hP hD hS 0 rfl rfl rfl rfl hl.1 rfl (Nat.le_of_ble_eq_true rfl) d_M_fill_48 (fun H locs hP hD hS => ?_)
              refine W.eq (g2 := F0 m 51 ls [.int (-2)]) rfl ?_
              have e : m_fill vT vn vr vo vl vb fN fK fW fL fM fE fR fF fS fP fY fT fJ fI n bs la p9 d z bits = ((0, vn, vr, 1, vl, vb, fN, fK, (fill0 fW 0 204), fL, fM, fE, fR, fF, fS, fP, fY, fT, fJ, fI), (-2)) := by unfold m_fill; rw [if_pos hc_1, if_pos hc_2, if_neg hc_3, if_neg hc_4, if_pos hc_5, if_pos hc_6]
              exact W.iret (v := (-2)) hx hb hr (fun t ht hW => kx_Qi (by rw [e]) ht hP (by rw [e]) hS rfl) hS.2.2 d_M_fill_51
          · refine lv_iconst (v := (-1)) hx hb d_M_fill_40 (by decide) ?_
            have e : m_fill vT vn vr vo vl vb fN fK fW fL fM fE fR fF fS fP fY fT fJ fI n bs la p9 d z bits = ((0, vn, vr, vo, vl, vb, fN, fK, fW, fL, fM, fE, fR, fF, fS, fP, fY, fT, fJ, fI), (-1)) := by unfold m_fill; rw [if_pos hc_1, if_pos hc_2, if_neg hc_3, if_neg hc_4, if_neg hc_5]
            exact W.iret (v := (-1)) hx hb hr (fun t ht hW => kx_Qi (by rw [e]) ht hP (by rw [e]) hS rfl) hS.2.2 d_M_fill_41
  · refine lv_bipush (v := (-2)) hx hb d_M_fill_12 (by decide) ?_
    have e : m_fill vT vn vr vo vl vb fN fK fW fL fM fE fR fF fS fP fY fT fJ fI n bs la p9 d z bits = ((0, vn, vr, vo, vl, vb, fN, fK, fW, fL, fM, fE, fR, fF, fS, fP, fY, fT, fJ, fI), (-2)) := by unfold m_fill; rw [if_neg hc_1]
    exact W.iret (v := (-2)) hx hb hr (fun t ht hW => kx_Qi (by rw [e]) ht hP (by rw [e]) hS rfl) hS.2.2 d_M_fill_14
def m_forget (vT vn vr vo vl vb : Int32) (fN fK fW fL fM fE fR fF fS fP fY fT fJ fI : FF) (n r : Nat) : MT × Int32 := (if vo = 0 then ((0, vn, vr, vo, vl, vb, (mAll fK fN ((n - 2) * (r - 6))), fK, (fill0 fW 0 ((n - 2) * (r - 6))), fL, fM, fE, fR, fF, fS, fP, fY, fT, fJ, fI), (nI (cnt (fun q => nz (fW q)) ((n - 2) * (r - 6))))) else ((0, vn, vr, vo, vl, vb, fN, fK, fW, fL, fM, fE, fR, fF, fS, fP, fY, fT, fJ, fI), (-2)))
set_option maxHeartbeats 4000000 in
set_option maxRecDepth 100000 in
theorem k_M_forget (l : Launch) (dC : Nat → ClassId) (dI : Nat → Nat → Nat) (k5 : Nat → ClassId) (b : Nat → Nat) (vT vn vr vo vl vb : Int32) (fN fK fW fL fM fE fR fF fS fP fY fT fJ fI : FF) (n r : Nat) (hn : vn = nI n) (hn4 : 4 ≤ n) (hn8 : n ≤ 8) (er : vr = nI r) (hr2 : 12 ≤ r) (hr40 : r ≤ 40) : Met l y_M_forget w_M_forget ({ frames := 2, cells := 0, slots := 0, locals := 42 }) (kx_Pc (dC, dI) clA (tyL k5) (wMd b k5 vT vn vr vo vl vb fN fK fW fL fM fE fR fF fS fP fY fT fJ fI) [.ref (b 0)]) (kx_Q (dC, dI) clA (wMd b k5 vT vn vr vo vl vb fN fK fW fL fM fE fR fF fS fP fY fT fJ fI) (wMS b k5 (m_forget vT vn vr vo vl vb fN fK fW fL fM fE fR fF fS fP fY fT fJ fI n r).1) (some (.int (m_forget vT vn vr vo vl vb fN fK fW fL fM fE fR fF fS fP fY fT fJ fI n r).2))) 0 0 (kx_A (wMd b k5 vT vn vr vo vl vb fN fK fW fL fM fE fR fF fS fP fY fT fJ fI)) := by
  refine Met.ofW (cc := c_M_forget) (maxL := 3) (ret := (some .int)) (by decide) rfl ?_
  intro p e s m args below meth c s₁ B hml hv
  obtain ⟨rfl, hP, hK, hD0⟩ := hv
  have hx := B.exec
  have hb := B.bytes
  have hr := B.returns
  have hts : ∀ w ∈ wsA, w.before _ s = true := fun w h => atoms_spec (ws := w_M_forget) B.pre w (List.mem_cons_of_mem _ h)
  have hown : s.vm.findClass R_M = some m.cls := findClass_of_methodNamed B.named
  have hlocks := B.notSynchronized
  have hD := kx_D.self hD0
  have hS : va_S (kx_A (wMd b k5 vT vn vr vo vl vb fN fK fW fL fM fE fR fF fS fP fY fT fJ fI)) s.heap s.heap [] := va_S.rf
  have hl := lv_entry ([.ref (b 0)]) (n := 3) (Nat.le_of_ble_eq_true rfl)
  rw [lg_entry_eq]
  generalize (lg_sl ([.ref (b 0)]) ++ List.replicate (3 - (lg_sl ([.ref (b 0)])).length) Slot.unset).toArray = ls at hl ⊢
  have hl : lv_has ls 3 [(0, .ref (b 0))] := hl
  refine lv_aload_n hx hb d_M_forget_0 rfl (lv_at hl 0 rfl) ?_
  refine lv_iconst (v := 0) hx hb d_M_forget_1 (by decide) ?_
  refine kx_put (ws' := (wMd b k5 0 vn vr vo vl vb fN fK fW fL fM fE fR fF fS fP fY fT fJ fI)) (D := (dC, dI)) (ci := 3) (v := .int 0) (ty := .int) (C := R_M) (T := T_M) (N := 20) hx hb hts wu_M ty_M ok_M nm_M hown hK hP hD hS 0 rfl rfl 0 (by decide) (hts _ wf_M_58) (fun _ h9 => h9) rfl (by decide +kernel) rfl rfl (Nat.le_of_ble_eq_true rfl) rfl d_M_forget_2 (fun H locs hP hD hS => ?_)
  refine lv_aload_n hx hb d_M_forget_5 rfl (lv_at hl 0 rfl) ?_
  refine va_get (D := (dC, dI)) (ci := 3) (v := .int vo) (C := R_M) (T := T_M) (N := 20) hx hb hts wu_M hown hK hP 0 rfl rfl 3 (by decide) (hts _ wf_M_68) (fun _ h9 => h9) rfl d_M_forget_6 ?_
  refine lv_if_eq (tgt := 15) hx hb d_M_forget_9 (by decide) (fun hc_1 => ?_) (fun hc_1 => ?_)
  · refine lv_aload_n hx hb d_M_forget_15 rfl (lv_at hl 0 rfl) ?_
    refine kx_VRW (As := []) (rest := []) ⟨hx, hb, hml, hown, hts⟩ (k_M_many l dC dI k5 b 0 vn vr vo vl vb fN fK fW fL fM fE fR fF fS fP fY fT fJ fI n hn hn4 hn8 r er hr2 hr40) (cwV 0 hts (goodV wm_M_124 wn_M_many ws_M_many wi_M wc_M_many) rfl rfl rfl (by decide +kernel) ⟨Nat.le_of_ble_eq_true rfl, Nat.le_of_ble_eq_true rfl⟩) ⟨Nat.zero_le _, Nat.zero_le _⟩ hK hP hD 0 rfl rfl rfl hl.1 rfl (Nat.le_of_ble_eq_true rfl) d_M_forget_16 ?_
    refine W.eq (g2 := F0 m 19 ls [.int (nI (cnt (fun q => nz (fW q)) ((n - 2) * (r - 6))))]) rfl ?_
    refine lv_istore_n (lv' := [(1, .int (nI (cnt (fun q => nz (fW q)) ((n - 2) * (r - 6))))), (0, .ref (b 0))]) hx hb d_M_forget_19 rfl hl (by decide) rfl (fun ls hl => ?_)
    refine lv_iconst (v := 0) hx hb d_M_forget_20 (by decide) ?_
    refine lv_istore_n (lv' := [(2, .int 0), (1, .int (nI (cnt (fun q => nz (fW q)) ((n - 2) * (r - 6))))), (0, .ref (b 0))]) hx hb d_M_forget_21 rfl hl (by decide) rfl (fun ls hl => ?_)
    have lp22 : ∀ (q9 i : Nat) (H : Heap) (locs : List Loc) (ls : Array Slot), i + q9 = ((n - 2) * (r - 6)) → va_P (dC, dI) clA (wMd b k5 0 vn vr vo vl vb (mAll fK fN i) fK (fill0 fW 0 i) fL fM fE fR fF fS fP fY fT fJ fI) H → va_D (kx_A (wMd b k5 vT vn vr vo vl vb fN fK fW fL fM fE fR fF fS fP fY fT fJ fI)) (wMd b k5 0 vn vr vo vl vb (mAll fK fN i) fK (fill0 fW 0 i) fL fM fE fR fF fS fP fY fT fJ fI) → va_S (kx_A (wMd b k5 vT vn vr vo vl vb fN fK fW fL fM fE fR fF fS fP fY fT fJ fI)) s.heap H locs → lv_has ls 3 [(2, .int (nI i)), (1, .int (nI (cnt (fun q => nz (fW q)) ((n - 2) * (r - 6))))), (0, .ref (b 0))] → W p l e (headSpec w_M_forget ({ frames := 2, cells := 0, slots := 0, locals := 42 })).room s m ([.ref (b 0)] : List Value).toArray below meth c H locs 0 0 (MQ below (kx_Q (dC, dI) clA (wMd b k5 vT vn vr vo vl vb fN fK fW fL fM fE fR fF fS fP fY fT fJ fI) (wMS b k5 (m_forget vT vn vr vo vl vb fN fK fW fL fM fE fR fF fS fP fY fT fJ fI n r).1) (some (.int (m_forget vT vn vr vo vl vb fN fK fW fL fM fE fR fF fS fP fY fT fJ fI n r).2))) ([.ref (b 0)] : List Value).toArray s 0 0 (kx_A (wMd b k5 vT vn vr vo vl vb fN fK fW fL fM fE fR fF fS fP fY fT fJ fI))) (F0 m 22 ls []) := by
      intro q9
      induction q9 with
      | zero =>
        intro i H locs ls hi hP hD hS hl
        have hi : ((n - 2) * (r - 6)) = i := by omega
        subst hi
        refine lv_iload_n hx hb d_M_forget_22 rfl (lv_at hl 0 rfl) ?_
        refine lv_aload_n hx hb d_M_forget_23 rfl (lv_at hl 2 rfl) ?_
        refine kx_VRW (As := []) (rest := [.int (nI ((n - 2) * (r - 6)))]) ⟨hx, hb, hml, hown, hts⟩ (k_M_blocks l dC dI k5 b 0 vn vr vo vl vb (mAll fK fN ((n - 2) * (r - 6))) fK (fill0 fW 0 ((n - 2) * (r - 6))) fL fM fE fR fF fS fP fY fT fJ fI ) (cwV 0 hts (goodV wm_M_86 wn_M_blocks ws_M_blocks wi_M wc_M_blocks) rfl rfl rfl (by decide +kernel) ⟨Nat.le_of_ble_eq_true rfl, Nat.le_of_ble_eq_true rfl⟩) ⟨Nat.zero_le _, Nat.zero_le _⟩ hK hP hD 0 rfl rfl rfl hl.1 rfl (Nat.le_of_ble_eq_true rfl) d_M_forget_24 ?_
        refine W.eq (g2 := F0 m 27 ls [.int ((vn - 2) * (vr - 6)), .int (nI ((n - 2) * (r - 6)))]) rfl ?_
        refine lv_icmp_ge (tgt := 56) hx hb d_M_forget_27 (by decide) (fun hc => ?_) (fun hc => ?_)
        · refine lv_iload_n hx hb d_M_forget_56 rfl (lv_at hl 1 rfl) ?_
          have e : m_forget vT vn vr vo vl vb fN fK fW fL fM fE fR fF fS fP fY fT fJ fI n r = ((0, vn, vr, vo, vl, vb, (mAll fK fN ((n - 2) * (r - 6))), fK, (fill0 fW 0 ((n - 2) * (r - 6))), fL, fM, fE, fR, fF, fS, fP, fY, fT, fJ, fI), (nI (cnt (fun q => nz (fW q)) ((n - 2) * (r - 6))))) := by unfold m_forget; rw [if_pos hc_1]
          exact W.iret (v := (nI (cnt (fun q => nz (fW q)) ((n - 2) * (r - 6))))) hx hb hr (fun t ht hW => kx_Qi (by rw [e]) ht hP (by rw [e]) hS rfl) hS.2.2 d_M_forget_57
        · exact absurd (by rw [blk_nI hn er hn4 hr2]; exact nI_le (by omega) (by have := blk_le hn8 hr40; omega)) hc
      | succ q9 ih =>
        intro i H locs ls hi hP hD hS hl
        refine lv_iload_n hx hb d_M_forget_22 rfl (lv_at hl 0 rfl) ?_
        refine lv_aload_n hx hb d_M_forget_23 rfl (lv_at hl 2 rfl) ?_
        refine kx_VRW (As := []) (rest := [.int (nI i)]) ⟨hx, hb, hml, hown, hts⟩ (k_M_blocks l dC dI k5 b 0 vn vr vo vl vb (mAll fK fN i) fK (fill0 fW 0 i) fL fM fE fR fF fS fP fY fT fJ fI ) (cwV 0 hts (goodV wm_M_86 wn_M_blocks ws_M_blocks wi_M wc_M_blocks) rfl rfl rfl (by decide +kernel) ⟨Nat.le_of_ble_eq_true rfl, Nat.le_of_ble_eq_true rfl⟩) ⟨Nat.zero_le _, Nat.zero_le _⟩ hK hP hD 0 rfl rfl rfl hl.1 rfl (Nat.le_of_ble_eq_true rfl) d_M_forget_24 ?_
        refine W.eq (g2 := F0 m 27 ls [.int ((vn - 2) * (vr - 6)), .int (nI i)]) rfl ?_
        refine lv_icmp_ge (tgt := 56) hx hb d_M_forget_27 (by decide) (fun hc => ?_) (fun hc => ?_)
        · exact absurd hc (by rw [blk_nI hn er hn4 hr2]; exact nI_ge (by omega) (by have := blk_le hn8 hr40; omega))
        · have hB := blk_le hn8 hr40
          refine lv_aload_n hx hb d_M_forget_30 rfl (lv_at hl 2 rfl) ?_
          refine lv_aload_n hx hb d_M_forget_31 rfl (lv_at hl 2 rfl) ?_
          refine va_get (D := (dC, dI)) (ci := 3) (v := .ref (b 2)) (C := R_M) (T := T_M) (N := 20) hx hb hts wu_M hown hK hP 0 rfl rfl 5 (by decide) (hts _ wf_M_13) (fun _ h9 => h9) rfl d_M_forget_32 ?_
          refine lv_aload_n hx hb d_M_forget_35 rfl (lv_at hl 2 rfl) ?_
          refine va_get (D := (dC, dI)) (ci := 3) (v := .ref (b 1)) (C := R_M) (T := T_M) (N := 20) hx hb hts wu_M hown hK hP 0 rfl rfl 4 (by decide) (hts _ wf_M_7) (fun _ h9 => h9) rfl d_M_forget_36 ?_
          refine lv_iload_n hx hb d_M_forget_39 rfl (lv_at hl 0 rfl) ?_
          refine kx_VW (w1 := (wMd b k5 0 vn vr vo vl vb (mCopy fK (mAll fK fN i) (64 * i) 64) fK (fill0 fW 0 i) fL fM fE fR fF fS fP fY fT fJ fI)) (As := [.ref (b 2), .ref (b 1), .int (nI i)]) (rest := []) ⟨hx, hb, hml, hown, hts⟩ (k_M_copyKN l dC dI k5 b 0 vn vr vo vl vb (mAll fK fN i) fK (fill0 fW 0 i) fL fM fE fR fF fS fP fY fT fJ fI i (by omega)) (cwV 3 hts (goodV wm_M_137 wn_M_copy ws_M_copy wi_M wc_M_copy) rfl rfl rfl (by decide +kernel) ⟨Nat.le_of_ble_eq_true rfl, Nat.le_of_ble_eq_true rfl⟩) ⟨Nat.zero_le _, Nat.zero_le _⟩ hK hP hD hS 0 rfl rfl rfl rfl hl.1 rfl (Nat.le_of_ble_eq_true rfl) d_M_forget_40 (fun H locs hP hD hS => ?_)
          refine W.eq (g2 := F0 m 43 ls []) rfl ?_
          refine lv_aload_n hx hb d_M_forget_43 rfl (lv_at hl 2 rfl) ?_
          refine va_get (D := (dC, dI)) (ci := 3) (v := .ref (b 3)) (C := R_M) (T := T_M) (N := 20) hx hb hts wu_M hown hK hP 0 rfl rfl 6 (by decide) (hts _ wf_M_16) (fun _ h9 => h9) rfl d_M_forget_44 ?_
          refine lv_iload_n hx hb d_M_forget_47 rfl (lv_at hl 0 rfl) ?_
          refine lv_iconst (v := 0) hx hb d_M_forget_48 (by decide) ?_
          refine kx_zast (ws' := (wMd b k5 0 vn vr vo vl vb (mAll fK fN (i + 1)) fK (fill0 fW 0 (i + 1)) fL fM fE fR fF fS fP fY fT fJ fI)) hx hb hK hP hD hS 3 3 rfl rfl i (rfl) (by omega) (by omega) rfl rfl d_M_forget_49 (fun H locs hP hD hS => ?_)
          refine lv_iinc (v := nI (i + 1)) (lv' := [(2, .int (nI (i + 1))), (1, .int (nI (cnt (fun q => nz (fW q)) ((n - 2) * (r - 6))))), (0, .ref (b 0))]) hx hb d_M_forget_50 hl (k := 0) rfl (nI_1 i) (by decide) rfl (fun ls hl => ?_)
          refine lv_goto (tgt := 22) hx hb d_M_forget_53 (by decide) ?_
          exact ih (i + 1) H locs ls (by omega) hP hD hS (lv_sub hl [0, 1, 2] rfl)
    exact lp22 ((n - 2) * (r - 6)) 0 H locs ls (by omega) hP hD hS (lv_sub hl [0, 1, 2] rfl)
  · refine lv_bipush (v := (-2)) hx hb d_M_forget_12 (by decide) ?_
    have e : m_forget vT vn vr vo vl vb fN fK fW fL fM fE fR fF fS fP fY fT fJ fI n r = ((0, vn, vr, vo, vl, vb, fN, fK, fW, fL, fM, fE, fR, fF, fS, fP, fY, fT, fJ, fI), (-2)) := by unfold m_forget; rw [if_neg hc_1]
    exact W.iret (v := (-2)) hx hb hr (fun t ht hW => kx_Qi (by rw [e]) ht hP (by rw [e]) hS rfl) hS.2.2 d_M_forget_14
