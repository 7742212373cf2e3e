def m_fail (vT vn vr vo vl vb : Int32) (fN fK fW fL fM fE fR fF fS fP fY fT fJ fI : FF)  : MT × Int32 := (if vo = 0 then ((0, vn, vr, 1, vl, vb, fN, fK, (fill0 fW 0 204), fL, fM, fE, fR, fF, fS, fP, fY, fT, fJ, fI), ((-2) - (-2))) else ((0, vn, vr, vo, vl, vb, fN, fK, fW, fL, fM, fE, fR, fF, fS, fP, fY, fT, fJ, fI), (-2)))
set_option maxHeartbeats 4000000 in
set_option maxRecDepth 100000 in
theorem k_M_fail (l : Launch) (dC : Nat → ClassId) (dI : Nat → Nat → Nat) (k5 : Nat → ClassId) (b : Nat → Nat) (vT vn vr vo vl vb : Int32) (fN fK fW fL fM fE fR fF fS fP fY fT fJ fI : FF)   : Met l y_M_fail w_M_fail ({ frames := 1, cells := 0, slots := 0, locals := 21 }) (kx_Pc (dC, dI) clA (tyL k5) (wMd b k5 vT vn vr vo vl vb fN fK fW fL fM fE fR fF fS fP fY fT fJ fI) [.ref (b 0)]) (kx_Q (dC, dI) clA (wMd b k5 vT vn vr vo vl vb fN fK fW fL fM fE fR fF fS fP fY fT fJ fI) (wMS b k5 (m_fail vT vn vr vo vl vb fN fK fW fL fM fE fR fF fS fP fY fT fJ fI ).1) (some (.int (m_fail vT vn vr vo vl vb fN fK fW fL fM fE fR fF fS fP fY fT fJ fI ).2))) 0 0 (kx_A (wMd b k5 vT vn vr vo vl vb fN fK fW fL fM fE fR fF fS fP fY fT fJ fI)) := by
  refine Met.ofW (cc := c_M_fail) (maxL := 1) (ret := (some .int)) (by decide) rfl ?_
  intro p e s m args below meth c s₁ B hml hv
  obtain ⟨rfl, hP, hK, hD0⟩ := hv
  have hx := B.exec
  have hb := B.bytes
  have hr := B.returns
  have hts : ∀ w ∈ wsA, w.before _ s = true := fun w h => atoms_spec (ws := w_M_fail) B.pre w (List.mem_cons_of_mem _ h)
  have hown : s.vm.findClass R_M = some m.cls := findClass_of_methodNamed B.named
  have hlocks := B.notSynchronized
  have hD := kx_D.self hD0
  have hS : va_S (kx_A (wMd b k5 vT vn vr vo vl vb fN fK fW fL fM fE fR fF fS fP fY fT fJ fI)) s.heap s.heap [] := va_S.rf
  have hl := lv_entry ([.ref (b 0)]) (n := 1) (Nat.le_of_ble_eq_true rfl)
  rw [lg_entry_eq]
  generalize (lg_sl ([.ref (b 0)]) ++ List.replicate (1 - (lg_sl ([.ref (b 0)])).length) Slot.unset).toArray = ls at hl ⊢
  have hl : lv_has ls 1 [(0, .ref (b 0))] := hl
  refine lv_aload_n hx hb d_M_fail_0 rfl (lv_at hl 0 rfl) ?_
  refine lv_iconst (v := 0) hx hb d_M_fail_1 (by decide) ?_
  refine kx_put (ws' := (wMd b k5 0 vn vr vo vl vb fN fK fW fL fM fE fR fF fS fP fY fT fJ fI)) (D := (dC, dI)) (ci := 3) (v := .int 0) (ty := .int) (C := R_M) (T := T_M) (N := 20) hx hb hts wu_M ty_M ok_M nm_M hown hK hP hD hS 0 rfl rfl 0 (by decide) (hts _ wf_M_58) (fun _ h9 => h9) rfl (by decide +kernel) rfl rfl (Nat.le_of_ble_eq_true rfl) rfl d_M_fail_2 (fun H locs hP hD hS => ?_)
  refine lv_aload_n hx hb d_M_fail_5 rfl (lv_at hl 0 rfl) ?_
  refine va_get (D := (dC, dI)) (ci := 3) (v := .int vo) (C := R_M) (T := T_M) (N := 20) hx hb hts wu_M hown hK hP 0 rfl rfl 3 (by decide) (hts _ wf_M_68) (fun _ h9 => h9) rfl d_M_fail_6 ?_
  refine lv_if_eq (tgt := 17) hx hb d_M_fail_9 (by decide) (fun hc_1 => ?_) (fun hc_1 => ?_)
  · refine lv_aload_n hx hb d_M_fail_17 rfl (lv_at hl 0 rfl) ?_
    refine kx_VW (w1 := (wMd b k5 0 vn vr 1 vl vb fN fK (fill0 fW 0 204) fL fM fE fR fF fS fP fY fT fJ fI)) (As := []) (rest := []) ⟨hx, hb, hml, hown, hts⟩ (k_M_powerOff l dC dI k5 b 0 vn vr vo vl vb fN fK fW fL fM fE fR fF fS fP fY fT fJ fI ) (cwV 0 hts (goodV wm_M_107 wn_M_powerOff ws_M_powerOff wi_M wc_M_powerOff) rfl rfl rfl (by decide +kernel) ⟨Nat.le_of_ble_eq_true rfl, Nat.le_of_ble_eq_true rfl⟩) ⟨Nat.zero_le _, Nat.zero_le _⟩ hK hP hD hS 0 rfl rfl rfl rfl hl.1 rfl (Nat.le_of_ble_eq_true rfl) d_M_fail_18 (fun H locs hP hD hS => ?_)
    refine W.eq (g2 := F0 m 21 ls [.int (-2)]) rfl ?_
    refine lv_bipush (v := (-2)) hx hb d_M_fail_21 (by decide) ?_
    refine lv_isub hx hb d_M_fail_23 ?_
    have e : m_fail vT vn vr vo vl vb fN fK fW fL fM fE fR fF fS fP fY fT fJ fI  = ((0, vn, vr, 1, vl, vb, fN, fK, (fill0 fW 0 204), fL, fM, fE, fR, fF, fS, fP, fY, fT, fJ, fI), ((-2) - (-2))) := by unfold m_fail; rw [if_pos hc_1]
    exact W.iret (v := ((-2) - (-2))) hx hb hr (fun t ht hW => kx_Qi (by rw [e]) ht hP (by rw [e]) hS rfl) hS.2.2 d_M_fail_24
  · refine lv_bipush (v := (-2)) hx hb d_M_fail_12 (by decide) ?_
    refine lv_goto (tgt := 24) hx hb d_M_fail_14 (by decide) ?_
    have e : m_fail vT vn vr vo vl vb fN fK fW fL fM fE fR fF fS fP fY fT fJ fI  = ((0, vn, vr, vo, vl, vb, fN, fK, fW, fL, fM, fE, fR, fF, fS, fP, fY, fT, fJ, fI), (-2)) := by unfold m_fail; rw [if_neg hc_1]
    exact W.iret (v := (-2)) hx hb hr (fun t ht hW => kx_Qi (by rw [e]) ht hP (by rw [e]) hS rfl) hS.2.2 d_M_fail_24
def m_check (vT vn vr vo vl vb : Int32) (fN fK fW fL fM fE fR fF fS fP fY fT fJ fI : FF)  : MT × Int32 := (if vo = 0 then ((0, vn, vr, vo, vl, vb, fN, fK, fW, fL, fM, fE, fR, fF, fS, fP, fY, fT, fJ, fI), 0) else ((0, vn, vr, vo, vl, vb, fN, fK, fW, fL, fM, fE, fR, fF, fS, fP, fY, fT, fJ, fI), (-2)))
set_option maxHeartbeats 4000000 in
set_option maxRecDepth 100000 in
theorem k_M_check (l : Launch) (dC : Nat → ClassId) (dI : Nat → Nat → Nat) (k5 : Nat → ClassId) (b : Nat → Nat) (vT vn vr vo vl vb : Int32) (fN fK fW fL fM fE fR fF fS fP fY fT fJ fI : FF)   : Met l y_M_check w_M_check ({ frames := 0, cells := 0, slots := 0, locals := 0 }) (kx_Pc (dC, dI) clA (tyL k5) (wMd b k5 vT vn vr vo vl vb fN fK fW fL fM fE fR fF fS fP fY fT fJ fI) [.ref (b 0)]) (kx_Q (dC, dI) clA (wMd b k5 vT vn vr vo vl vb fN fK fW fL fM fE fR fF fS fP fY fT fJ fI) (wMS b k5 (m_check vT vn vr vo vl vb fN fK fW fL fM fE fR fF fS fP fY fT fJ fI ).1) (some (.int (m_check vT vn vr vo vl vb fN fK fW fL fM fE fR fF fS fP fY fT fJ fI ).2))) 0 0 (kx_A (wMd b k5 vT vn vr vo vl vb fN fK fW fL fM fE fR fF fS fP fY fT fJ fI)) := by
  refine Met.ofW (cc := c_M_check) (maxL := 1) (ret := (some .int)) (by decide) rfl ?_
  intro p e s m args below meth c s₁ B hml hv
  obtain ⟨rfl, hP, hK, hD0⟩ := hv
  have hx := B.exec
  have hb := B.bytes
  have hr := B.returns
  have hts : ∀ w ∈ wsA, w.before _ s = true := fun w h => atoms_spec (ws := w_M_check) B.pre w (List.mem_cons_of_mem _ h)
  have hown : s.vm.findClass R_M = some m.cls := findClass_of_methodNamed B.named
  have hlocks := B.notSynchronized
  have hD := kx_D.self hD0
  have hS : va_S (kx_A (wMd b k5 vT vn vr vo vl vb fN fK fW fL fM fE fR fF fS fP fY fT fJ fI)) s.heap s.heap [] := va_S.rf
  have hl := lv_entry ([.ref (b 0)]) (n := 1) (Nat.le_of_ble_eq_true rfl)
  rw [lg_entry_eq]
  generalize (lg_sl ([.ref (b 0)]) ++ List.replicate (1 - (lg_sl ([.ref (b 0)])).length) Slot.unset).toArray = ls at hl ⊢
  have hl : lv_has ls 1 [(0, .ref (b 0))] := hl
  refine lv_aload_n hx hb d_M_check_0 rfl (lv_at hl 0 rfl) ?_
  refine lv_iconst (v := 0) hx hb d_M_check_1 (by decide) ?_
  refine kx_put (ws' := (wMd b k5 0 vn vr vo vl vb fN fK fW fL fM fE fR fF fS fP fY fT fJ fI)) (D := (dC, dI)) (ci := 3) (v := .int 0) (ty := .int) (C := R_M) (T := T_M) (N := 20) hx hb hts wu_M ty_M ok_M nm_M hown hK hP hD hS 0 rfl rfl 0 (by decide) (hts _ wf_M_58) (fun _ h9 => h9) rfl (by decide +kernel) rfl rfl (Nat.le_of_ble_eq_true rfl) rfl d_M_check_2 (fun H locs hP hD hS => ?_)
  refine lv_aload_n hx hb d_M_check_5 rfl (lv_at hl 0 rfl) ?_
  refine va_get (D := (dC, dI)) (ci := 3) (v := .int vo) (C := R_M) (T := T_M) (N := 20) hx hb hts wu_M hown hK hP 0 rfl rfl 3 (by decide) (hts _ wf_M_68) (fun _ h9 => h9) rfl d_M_check_6 ?_
  refine lv_if_eq (tgt := 17) hx hb d_M_check_9 (by decide) (fun hc_1 => ?_) (fun hc_1 => ?_)
  · refine lv_iconst (v := 0) hx hb d_M_check_17 (by decide) ?_
    have e : m_check vT vn vr vo vl vb fN fK fW fL fM fE fR fF fS fP fY fT fJ fI  = ((0, vn, vr, vo, vl, vb, fN, fK, fW, fL, fM, fE, fR, fF, fS, fP, fY, fT, fJ, fI), 0) := by unfold m_check; rw [if_pos hc_1]
    exact W.iret (v := 0) hx hb hr (fun t ht hW => kx_Qi (by rw [e]) ht hP (by rw [e]) hS rfl) hS.2.2 d_M_check_18
  · refine lv_bipush (v := (-2)) hx hb d_M_check_12 (by decide) ?_
    refine lv_goto (tgt := 18) hx hb d_M_check_14 (by decide) ?_
    have e : m_check vT vn vr vo vl vb fN fK fW fL fM fE fR fF fS fP fY fT fJ fI  = ((0, vn, vr, vo, vl, vb, fN, fK, fW, fL, fM, fE, fR, fF, fS, fP, fY, fT, fJ, fI), (-2)) := by unfold m_check; rw [if_neg hc_1]
    exact W.iret (v := (-2)) hx hb hr (fun t ht hW => kx_Qi (by rw [e]) ht hP (by rw [e]) hS rfl) hS.2.2 d_M_check_18
def m_gone (vT vn vr vo vl vb : Int32) (fN fK fW fL fM fE fR fF fS fP fY fT fJ fI : FF) (n : Nat) (x : Int32) : MT × Int32 := (if x < 2 then ((0, vn, vr, vo, vl, vb, fN, fK, fW, fL, fM, fE, fR, fF, fS, fP, fY, fT, fJ, fI), (-1)) else (if x < vr then ((0, vn, vr, vo, vl, vb, fN, fK, fW, fL, fM, fE, fR, fF, fS, fP, fY, fT, fJ, fI), (nI (cnt (fun d => mGone fL fM fR d (x.toNatClampNeg)) n))) else ((0, vn, vr, vo, vl, vb, fN, fK, fW, fL, fM, fE, fR, fF, fS, fP, fY, fT, fJ, fI), (-1))))
set_option maxHeartbeats 4000000 in
set_option maxRecDepth 100000 in
theorem k_M_gone (l : Launch) (dC : Nat → ClassId) (dI : Nat → Nat → Nat) (k5 : Nat → ClassId) (b : Nat → Nat) (vT vn vr vo vl vb : Int32) (fN fK fW fL fM fE fR fF fS fP fY fT fJ fI : FF) (n : Nat) (x : Int32) (r : Nat) (hn : vn = nI n) (hn4 : 4 ≤ n) (hn8 : n ≤ 8) (er : vr = nI r) (hr2 : 12 ≤ r) (hr40 : r ≤ 40) : Met l y_M_gone w_M_gone ({ frames := 2, cells := 0, slots := 0, locals := 45 }) (kx_Pc (dC, dI) clA (tyL k5) (wMd b k5 vT vn vr vo vl vb fN fK fW fL fM fE fR fF fS fP fY fT fJ fI) [.ref (b 0), .int x]) (kx_Q (dC, dI) clA (wMd b k5 vT vn vr vo vl vb fN fK fW fL fM fE fR fF fS fP fY fT fJ fI) (wMS b k5 (m_gone vT vn vr vo vl vb fN fK fW fL fM fE fR fF fS fP fY fT fJ fI n x).1) (some (.int (m_gone vT vn vr vo vl vb fN fK fW fL fM fE fR fF fS fP fY fT fJ fI n x).2))) 0 0 (kx_A (wMd b k5 vT vn vr vo vl vb fN fK fW fL fM fE fR fF fS fP fY fT fJ fI)) := by
  refine Met.ofW (cc := c_M_gone) (maxL := 2) (ret := (some .int)) (by decide) rfl ?_
  intro p e s m args below meth c s₁ B hml hv
  obtain ⟨rfl, hP, hK, hD0⟩ := hv
  have hx := B.exec
  have hb := B.bytes
  have hr := B.returns
  have hts : ∀ w ∈ wsA, w.before _ s = true := fun w h => atoms_spec (ws := w_M_gone) B.pre w (List.mem_cons_of_mem _ h)
  have hown : s.vm.findClass R_M = some m.cls := findClass_of_methodNamed B.named
  have hlocks := B.notSynchronized
  have hD := kx_D.self hD0
  have hS : va_S (kx_A (wMd b k5 vT vn vr vo vl vb fN fK fW fL fM fE fR fF fS fP fY fT fJ fI)) s.heap s.heap [] := va_S.rf
  have hl := lv_entry ([.ref (b 0), .int x]) (n := 2) (Nat.le_of_ble_eq_true rfl)
  rw [lg_entry_eq]
  generalize (lg_sl ([.ref (b 0), .int x]) ++ List.replicate (2 - (lg_sl ([.ref (b 0), .int x])).length) Slot.unset).toArray = ls at hl ⊢
  have hl : lv_has ls 2 [(0, .ref (b 0)), (1, .int x)] := hl
  refine lv_aload_n hx hb d_M_gone_0 rfl (lv_at hl 0 rfl) ?_
  refine lv_iconst (v := 0) hx hb d_M_gone_1 (by decide) ?_
  refine kx_put (ws' := (wMd b k5 0 vn vr vo vl vb fN fK fW fL fM fE fR fF fS fP fY fT fJ fI)) (D := (dC, dI)) (ci := 3) (v := .int 0) (ty := .int) (C := R_M) (T := T_M) (N := 20) hx hb hts wu_M ty_M ok_M nm_M hown hK hP hD hS 0 rfl rfl 0 (by decide) (hts _ wf_M_58) (fun _ h9 => h9) rfl (by decide +kernel) rfl rfl (Nat.le_of_ble_eq_true rfl) rfl d_M_gone_2 (fun H locs hP hD hS => ?_)
  refine lv_iload_n hx hb d_M_gone_5 rfl (lv_at hl 1 rfl) ?_
  refine lv_iconst (v := 2) hx hb d_M_gone_6 (by decide) ?_
  refine lv_icmp_lt (tgt := 18) hx hb d_M_gone_7 (by decide) (fun hc_1 => ?_) (fun hc_1 => ?_)
  · refine lv_iconst (v := (-1)) hx hb d_M_gone_18 (by decide) ?_
    refine lv_goto (tgt := 27) hx hb d_M_gone_19 (by decide) ?_
    have e : m_gone vT vn vr vo vl vb fN fK fW fL fM fE fR fF fS fP fY fT fJ fI n x = ((0, vn, vr, vo, vl, vb, fN, fK, fW, fL, fM, fE, fR, fF, fS, fP, fY, fT, fJ, fI), (-1)) := by unfold m_gone; rw [if_pos hc_1]
    exact W.iret (v := (-1)) hx hb hr (fun t ht hW => kx_Qi (by rw [e]) ht hP (by rw [e]) hS rfl) hS.2.2 d_M_gone_27
  · refine lv_iload_n hx hb d_M_gone_10 rfl (lv_at hl 1 rfl) ?_
    refine lv_aload_n hx hb d_M_gone_11 rfl (lv_at hl 0 rfl) ?_
    refine va_get (D := (dC, dI)) (ci := 3) (v := .int vr) (C := R_M) (T := T_M) (N := 20) hx hb hts wu_M hown hK hP 0 rfl rfl 2 (by decide) (hts _ wf_M_65) (fun _ h9 => h9) rfl d_M_gone_12 ?_
    refine lv_icmp_lt (tgt := 22) hx hb d_M_gone_15 (by decide) (fun hc_2 => ?_) (fun hc_2 => ?_)
    · refine lv_aload_n hx hb d_M_gone_22 rfl (lv_at hl 0 rfl) ?_
      refine lv_iload_n hx hb d_M_gone_23 rfl (lv_at hl 1 rfl) ?_
      refine W.eq (g2 := F0 m 24 ls [.int (nI (x.toNatClampNeg)), .ref (b 0)]) (by rw [← (rw_t hc_1 hc_2 er (by omega)).1]) ?_
      refine kx_VRW (As := [.int (nI (x.toNatClampNeg))]) (rest := []) ⟨hx, hb, hml, hown, hts⟩ (k_M_goneIn l dC dI k5 b 0 vn vr vo vl vb fN fK fW fL fM fE fR fF fS fP fY fT fJ fI n hn hn4 hn8 (x.toNatClampNeg) (by have := (rw_t hc_1 hc_2 er (by omega)).2.2; omega)) (cwV 1 hts (goodV wm_M_114 wn_M_goneIn ws_M_goneIn wi_M wc_M_goneIn) rfl rfl rfl (by decide +kernel) ⟨Nat.le_of_ble_eq_true rfl, Nat.le_of_ble_eq_true rfl⟩) ⟨Nat.zero_le _, Nat.zero_le _⟩ hK hP hD 0 rfl rfl rfl hl.1 rfl (Nat.le_of_ble_eq_true rfl) d_M_gone_24 ?_
      refine W.eq (g2 := F0 m 27 ls [.int (nI (cnt (fun d => mGone fL fM fR d (x.toNatClampNeg)) n))]) rfl ?_
      have e : m_gone vT vn vr vo vl vb fN fK fW fL fM fE fR fF fS fP fY fT fJ fI n x = ((0, vn, vr, vo, vl, vb, fN, fK, fW, fL, fM, fE, fR, fF, fS, fP, fY, fT, fJ, fI), (nI (cnt (fun d => mGone fL fM fR d (x.toNatClampNeg)) n))) := by unfold m_gone; rw [if_neg hc_1, if_pos hc_2]
      exact W.iret (v := (nI (cnt (fun d => mGone fL fM fR d (x.toNatClampNeg)) n))) hx hb hr (fun t ht hW => kx_Qi (by rw [e]) ht hP (by rw [e]) hS rfl) hS.2.2 d_M_gone_27
    · refine lv_iconst (v := (-1)) hx hb d_M_gone_18 (by decide) ?_
      refine lv_goto (tgt := 27) hx hb d_M_gone_19 (by decide) ?_
      have e : m_gone vT vn vr vo vl vb fN fK fW fL fM fE fR fF fS fP fY fT fJ fI n x = ((0, vn, vr, vo, vl, vb, fN, fK, fW, fL, fM, fE, fR, fF, fS, fP, fY, fT, fJ, fI), (-1)) := by unfold m_gone; rw [if_neg hc_1, if_neg hc_2]
      exact W.iret (v := (-1)) hx hb hr (fun t ht hW => kx_Qi (by rw [e]) ht hP (by rw [e]) hS rfl) hS.2.2 d_M_gone_27
def m_status (vT vn vr vo vl vb : Int32) (fN fK fW fL fM fE fR fF fS fP fY fT fJ fI : FF) (d : Int32) : MT × Int32 := (if (bI (decide (d < 0 ∨ ¬ d < vn))) = 0 then (if (fL (d.toNatClampNeg)) = 0 then ((0, vn, vr, vo, vl, vb, fN, fK, fW, fL, fM, fE, fR, fF, fS, fP, fY, fT, fJ, fI), (fM (d.toNatClampNeg))) else ((0, vn, vr, vo, vl, vb, fN, fK, fW, fL, fM, fE, fR, fF, fS, fP, fY, fT, fJ, fI), (-1))) else ((0, vn, vr, vo, vl, vb, fN, fK, fW, fL, fM, fE, fR, fF, fS, fP, fY, fT, fJ, fI), (-3)))
set_option maxHeartbeats 4000000 in
set_option maxRecDepth 100000 in
theorem k_M_status (l : Launch) (dC : Nat → ClassId) (dI : Nat → Nat → Nat) (k5 : Nat → ClassId) (b : Nat → Nat) (vT vn vr vo vl vb : Int32) (fN fK fW fL fM fE fR fF fS fP fY fT fJ fI : FF) (d : Int32) (n : Nat) (hn : vn = nI n) (hn4 : 4 ≤ n) (hn8 : n ≤ 8) : Met l y_M_status w_M_status ({ frames := 1, cells := 0, slots := 0, locals := 21 }) (kx_Pc (dC, dI) clA (tyL k5) (wMd b k5 vT vn vr vo vl vb fN fK fW fL fM fE fR fF fS fP fY fT fJ fI) [.ref (b 0), .int d]) (kx_Q (dC, dI) clA (wMd b k5 vT vn vr vo vl vb fN fK fW fL fM fE fR fF fS fP fY fT fJ fI) (wMS b k5 (m_status vT vn vr vo vl vb fN fK fW fL fM fE fR fF fS fP fY fT fJ fI d).1) (some (.int (m_status vT vn vr vo vl vb fN fK fW fL fM fE fR fF fS fP fY fT fJ fI d).2))) 0 0 (kx_A (wMd b k5 vT vn vr vo vl vb fN fK fW fL fM fE fR fF fS fP fY fT fJ fI)) := by
  refine Met.ofW (cc := c_M_status) (maxL := 2) (ret := (some .int)) (by decide) rfl ?_
  intro p e s m args below meth c s₁ B hml hv
  obtain ⟨rfl, hP, hK, hD0⟩ := hv
  have hx := B.exec
  have hb := B.bytes
  have hr := B.returns
  have hts : ∀ w ∈ wsA, w.before _ s = true := fun w h => atoms_spec (ws := w_M_status) B.pre w (List.mem_cons_of_mem _ h)
  have hown : s.vm.findClass R_M = some m.cls := findClass_of_methodNamed B.named
  have hlocks := B.notSynchronized
  have hD := kx_D.self hD0
  have hS : va_S (kx_A (wMd b k5 vT vn vr vo vl vb fN fK fW fL fM fE fR fF fS fP fY fT fJ fI)) s.heap s.heap [] := va_S.rf
  have hl := lv_entry ([.ref (b 0), .int d]) (n := 2) (Nat.le_of_ble_eq_true rfl)
  rw [lg_entry_eq]
  generalize (lg_sl ([.ref (b 0), .int d]) ++ List.replicate (2 - (lg_sl ([.ref (b 0), .int d])).length) Slot.unset).toArray = ls at hl ⊢
  have hl : lv_has ls 2 [(0, .ref (b 0)), (1, .int d)] := hl
  refine lv_aload_n hx hb d_M_status_0 rfl (lv_at hl 0 rfl) ?_
  refine lv_iconst (v := 0) hx hb d_M_status_1 (by decide) ?_
  refine kx_put (ws' := (wMd b k5 0 vn vr vo vl vb fN fK fW fL fM fE fR fF fS fP fY fT fJ fI)) (D := (dC, dI)) (ci := 3) (v := .int 0) (ty := .int) (C := R_M) (T := T_M) (N := 20) hx hb hts wu_M ty_M ok_M nm_M hown hK hP hD hS 0 rfl rfl 0 (by decide) (hts _ wf_M_58) (fun _ h9 => h9) rfl (by decide +kernel) rfl rfl (Nat.le_of_ble_eq_true rfl) rfl d_M_status_2 (fun H locs hP hD hS => ?_)
  refine lv_aload_n hx hb d_M_status_5 rfl (lv_at hl 0 rfl) ?_
  refine lv_iload_n hx hb d_M_status_6 rfl (lv_at hl 1 rfl) ?_
  refine kx_VRW (As := [.int d]) (rest := []) ⟨hx, hb, hml, hown, hts⟩ (k_M_noDisk l dC dI k5 b 0 vn vr vo vl vb fN fK fW fL fM fE fR fF fS fP fY fT fJ fI d) (cwV 1 hts (goodV wm_M_117 wn_M_noDisk ws_M_noDisk wi_M wc_M_noDisk) rfl rfl rfl (by decide +kernel) ⟨Nat.le_of_ble_eq_true rfl, Nat.le_of_ble_eq_true rfl⟩) ⟨Nat.zero_le _, Nat.zero_le _⟩ hK hP hD 0 rfl rfl rfl hl.1 rfl (Nat.le_of_ble_eq_true rfl) d_M_status_7 ?_
  refine W.eq (g2 := F0 m 10 ls [.int (bI (decide (d < 0 ∨ ¬ d < vn)))]) rfl ?_
  refine lv_if_eq (tgt := 18) hx hb d_M_status_10 (by decide) (fun hc_1 => ?_) (fun hc_1 => ?_)
  · refine lv_aload_n hx hb d_M_status_18 rfl (lv_at hl 0 rfl) ?_
    refine va_get (D := (dC, dI)) (ci := 3) (v := .ref (b 4)) (C := R_M) (T := T_M) (N := 20) hx hb hts wu_M hown hK hP 0 rfl rfl 7 (by decide) (hts _ wf_M_20) (fun _ h9 => h9) rfl d_M_status_19 ?_
    refine lv_iload_n hx hb d_M_status_22 rfl (lv_at hl 1 rfl) ?_
    refine kx_zald hx hb hK hP 4 3 rfl rfl (d.toNatClampNeg) ((noD hc_1 hn (by omega)).1) (by have := (noD hc_1 hn (by omega)).2; omega) (by omega) d_M_status_23 ?_
    refine lv_if_eq (tgt := 31) hx hb d_M_status_24 (by decide) (fun hc_2 => ?_) (fun hc_2 => ?_)
    · refine lv_aload_n hx hb d_M_status_31 rfl (lv_at hl 0 rfl) ?_
      refine va_get (D := (dC, dI)) (ci := 3) (v := .ref (b 5)) (C := R_M) (T := T_M) (N := 20) hx hb hts wu_M hown hK hP 0 rfl rfl 8 (by decide) (hts _ wf_M_23) (fun _ h9 => h9) rfl d_M_status_32 ?_
      refine lv_iload_n hx hb d_M_status_35 rfl (lv_at hl 1 rfl) ?_
      refine kx_iald hx hb hK hP 5 0 rfl rfl (d.toNatClampNeg) ((noD hc_1 hn (by omega)).1) (by have := (noD hc_1 hn (by omega)).2; omega) (by omega) d_M_status_36 ?_
      have e : m_status vT vn vr vo vl vb fN fK fW fL fM fE fR fF fS fP fY fT fJ fI d = ((0, vn, vr, vo, vl, vb, fN, fK, fW, fL, fM, fE, fR, fF, fS, fP, fY, fT, fJ, fI), (fM (d.toNatClampNeg))) := by unfold m_status; rw [if_pos hc_1, if_pos hc_2]
      exact W.iret (v := (fM (d.toNatClampNeg))) hx hb hr (fun t ht hW => kx_Qi (by rw [e]) ht hP (by rw [e]) hS rfl) hS.2.2 d_M_status_37
    · refine lv_iconst (v := (-1)) hx hb d_M_status_27 (by decide) ?_
      refine lv_goto (tgt := 37) hx hb d_M_status_28 (by decide) ?_
      have e : m_status vT vn vr vo vl vb fN fK fW fL fM fE fR fF fS fP fY fT fJ fI d = ((0, vn, vr, vo, vl, vb, fN, fK, fW, fL, fM, fE, fR, fF, fS, fP, fY, fT, fJ, fI), (-1)) := by unfold m_status; rw [if_pos hc_1, if_neg hc_2]
      exact W.iret (v := (-1)) hx hb hr (fun t ht hW => kx_Qi (by rw [e]) ht hP (by rw [e]) hS rfl) hS.2.2 d_M_status_37
  · refine lv_bipush (v := (-3)) hx hb d_M_status_13 (by decide) ?_
    refine lv_goto (tgt := 37) hx hb d_M_status_15 (by decide) ?_
    have e : m_status vT vn vr vo vl vb fN fK fW fL fM fE fR fF fS fP fY fT fJ fI d = ((0, vn, vr, vo, vl, vb, fN, fK, fW, fL, fM, fE, fR, fF, fS, fP, fY, fT, fJ, fI), (-3)) := by unfold m_status; rw [if_neg hc_1]
    exact W.iret (v := (-3)) hx hb hr (fun t ht hW => kx_Qi (by rw [e]) ht hP (by rw [e]) hS rfl) hS.2.2 d_M_status_37
def m_replace (vT vn vr vo vl vb : Int32) (fN fK fW fL fM fE fR fF fS fP fY fT fJ fI : FF) (n bs la p9 : Nat) (d : Int32) : MT × Int32 := (if (bI (decide (d < 0 ∨ ¬ d < vn))) = 0 then (if (fL (d.toNatClampNeg)) = 0 then ((0, vn, vr, vo, vl, vb, fN, fK, fW, fL, fM, fE, fR, fF, fS, fP, fY, fT, fJ, fI), (-1)) else (if vo = 0 then ((0, vn, vr, vo, (vl + 1), (vl + 1), fN, fK, fW, (upd fL (d.toNatClampNeg) 0), (upd fM (d.toNatClampNeg) 0), fE, fR, (mSp (upd fL (d.toNatClampNeg) 0) (la + 1) p9 0 0 0 fF fS n).1, (mSp (upd fL (d.toNatClampNeg) 0) (la + 1) p9 0 0 0 fF fS n).2.1, (upd fP (la + 1) (1 - fP bs)), (upd fY (la + 1) 0), (mTell (upd fM (d.toNatClampNeg) 0) (la + 1) fT 8), fJ, fI), 0) else ((0, vn, vr, vo, vl, vb, fN, fK, fW, (upd fL (d.toNatClampNeg) 0), (upd fM (d.toNatClampNeg) 0), fE, fR, fF, fS, fP, fY, fT, fJ, fI), 0))) else ((0, vn, vr, vo, vl, vb, fN, fK, fW, fL, fM, fE, fR, fF, fS, fP, fY, fT, fJ, fI), (-1)))
set_option maxHeartbeats 4000000 in
set_option maxRecDepth 100000 in
theorem k_M_replace (l : Launch) (dC : Nat → ClassId) (dI : Nat → Nat → Nat) (k5 : Nat → ClassId) (b : Nat → Nat) (vT vn vr vo vl vb : Int32) (fN fK fW fL fM fE fR fF fS fP fY fT fJ fI : FF) (n bs la p9 : Nat) (d : Int32) (hn : vn = nI n) (hn4 : 4 ≤ n) (hn8 : n ≤ 8) (hvb : vb = nI bs) (hvl : vl = nI la) (hbs : bs < 1300) (hla : la + 3 < 1300) (hp9 : p9 = 0 ∨ p9 = 1) (hrow : 1 - fP bs = nI p9) : Met l y_M_replace w_M_replace ({ frames := 3, cells := 0, slots := 0, locals := 73 }) (kx_Pc (dC, dI) clA (tyL k5) (wMd b k5 vT vn vr vo vl vb fN fK fW fL fM fE fR fF fS fP fY fT fJ fI) [.ref (b 0), .int d]) (kx_Q (dC, dI) clA (wMd b k5 vT vn vr vo vl vb fN fK fW fL fM fE fR fF fS fP fY fT fJ fI) (wMS b k5 (m_replace vT vn vr vo vl vb fN fK fW fL fM fE fR fF fS fP fY fT fJ fI n bs la p9 d).1) (some (.int (m_replace vT vn vr vo vl vb fN fK fW fL fM fE fR fF fS fP fY fT fJ fI n bs la p9 d).2))) 0 0 (kx_A (wMd b k5 vT vn vr vo vl vb fN fK fW fL fM fE fR fF fS fP fY fT fJ fI)) := by
  refine Met.ofW (cc := c_M_replace) (maxL := 2) (ret := (some .int)) (by decide) rfl ?_
  intro p e s m args below meth c s₁ B hml hv
  obtain ⟨rfl, hP, hK, hD0⟩ := hv
  have hx := B.exec
  have hb := B.bytes
  have hr := B.returns
  have hts : ∀ w ∈ wsA, w.before _ s = true := fun w h => atoms_spec (ws := w_M_replace) B.pre w (List.mem_cons_of_mem _ h)
  have hown : s.vm.findClass R_M = some m.cls := findClass_of_methodNamed B.named
  have hlocks := B.notSynchronized
  have hD := kx_D.self hD0
  have hS : va_S (kx_A (wMd b k5 vT vn vr vo vl vb fN fK fW fL fM fE fR fF fS fP fY fT fJ fI)) s.heap s.heap [] := va_S.rf
  have hl := lv_entry ([.ref (b 0), .int d]) (n := 2) (Nat.le_of_ble_eq_true rfl)
  rw [lg_entry_eq]
  generalize (lg_sl ([.ref (b 0), .int d]) ++ List.replicate (2 - (lg_sl ([.ref (b 0), .int d])).length) Slot.unset).toArray = ls at hl ⊢
  have hl : lv_has ls 2 [(0, .ref (b 0)), (1, .int d)] := hl
  refine lv_aload_n hx hb d_M_replace_0 rfl (lv_at hl 0 rfl) ?_
  refine lv_iconst (v := 0) hx hb d_M_replace_1 (by decide) ?_
  refine kx_put (ws' := (wMd b k5 0 vn vr vo vl vb fN fK fW fL fM fE fR fF fS fP fY fT fJ fI)) (D := (dC, dI)) (ci := 3) (v := .int 0) (ty := .int) (C := R_M) (T := T_M) (N := 20) hx hb hts wu_M ty_M ok_M nm_M hown hK hP hD hS 0 rfl rfl 0 (by decide) (hts _ wf_M_58) (fun _ h9 => h9) rfl (by decide +kernel) rfl rfl (Nat.le_of_ble_eq_true rfl) rfl d_M_replace_2 (fun H locs hP hD hS => ?_)
  refine lv_aload_n hx hb d_M_replace_5 rfl (lv_at hl 0 rfl) ?_
  refine lv_iload_n hx hb d_M_replace_6 rfl (lv_at hl 1 rfl) ?_
  refine kx_VRW (As := [.int d]) (rest := []) ⟨hx, hb, hml, hown, hts⟩ (k_M_noDisk l dC dI k5 b 0 vn vr vo vl vb fN fK fW fL fM fE fR fF fS fP fY fT fJ fI d) (cwV 1 hts (goodV wm_M_117 wn_M_noDisk ws_M_noDisk wi_M wc_M_noDisk) rfl rfl rfl (by decide +kernel) ⟨Nat.le_of_ble_eq_true rfl, Nat.le_of_ble_eq_true rfl⟩) ⟨Nat.zero_le _, Nat.zero_le _⟩ hK hP hD 0 rfl rfl rfl hl.1 rfl (Nat.le_of_ble_eq_true rfl) d_M_replace_7 ?_
  refine W.eq (g2 := F0 m 10 ls [.int (bI (decide (d < 0 ∨ ¬ d < vn)))]) rfl ?_
  refine lv_if_ne (tgt := 22) hx hb d_M_replace_10 (by decide) (fun hc_1 => ?_) (fun hc_1 => ?_)
  · refine lv_iconst (v := (-1)) hx hb d_M_replace_22 (by decide) ?_
    have e : m_replace vT vn vr vo vl vb fN fK fW fL fM fE fR fF fS fP fY fT fJ fI n bs la p9 d = ((0, vn, vr, vo, vl, vb, fN, fK, fW, fL, fM, fE, fR, fF, fS, fP, fY, fT, fJ, fI), (-1)) := by unfold m_replace; rw [if_neg hc_1]
    exact W.iret (v := (-1)) hx hb hr (fun t ht hW => kx_Qi (by rw [e]) ht hP (by rw [e]) hS rfl) hS.2.2 d_M_replace_23
  · refine lv_aload_n hx hb d_M_replace_13 rfl (lv_at hl 0 rfl) ?_
    refine va_get (D := (dC, dI)) (ci := 3) (v := .ref (b 4)) (C := R_M) (T := T_M) (N := 20) hx hb hts wu_M hown hK hP 0 rfl rfl 7 (by decide) (hts _ wf_M_20) (fun _ h9 => h9) rfl d_M_replace_14 ?_
    refine lv_iload_n hx hb d_M_replace_17 rfl (lv_at hl 1 rfl) ?_
    refine kx_zald hx hb hK hP 4 3 rfl rfl (d.toNatClampNeg) ((noD hc_1 hn (by omega)).1) (by have := (noD hc_1 hn (by omega)).2; omega) (by omega) d_M_replace_18 ?_
    refine lv_if_ne (tgt := 24) hx hb d_M_replace_19 (by decide) (fun hc_2 => ?_) (fun hc_2 => ?_)
    · refine lv_aload_n hx hb d_M_replace_24 rfl (lv_at hl 0 rfl) ?_
      refine va_get (D := (dC, dI)) (ci := 3) (v := .ref (b 4)) (C := R_M) (T := T_M) (N := 20) hx hb hts wu_M hown hK hP 0 rfl rfl 7 (by decide) (hts _ wf_M_20) (fun _ h9 => h9) rfl d_M_replace_25 ?_
      refine lv_iload_n hx hb d_M_replace_28 rfl (lv_at hl 1 rfl) ?_
      refine lv_iconst (v := 0) hx hb d_M_replace_29 (by decide) ?_
      refine kx_zast (ws' := (wMd b k5 0 vn vr vo vl vb fN fK fW (upd fL (d.toNatClampNeg) 0) fM fE fR fF fS fP fY fT fJ fI)) hx hb hK hP hD hS 4 3 rfl rfl (d.toNatClampNeg) ((noD hc_1 hn (by omega)).1) (by have := (noD hc_1 hn (by omega)).2; omega) (by omega) rfl rfl d_M_replace_30 (fun H locs hP hD hS => ?_)
      refine lv_aload_n hx hb d_M_replace_31 rfl (lv_at hl 0 rfl) ?_
      refine va_get (D := (dC, dI)) (ci := 3) (v := .ref (b 5)) (C := R_M) (T := T_M) (N := 20) hx hb hts wu_M hown hK hP 0 rfl rfl 8 (by decide) (hts _ wf_M_23) (fun _ h9 => h9) rfl d_M_replace_32 ?_
      refine lv_iload_n hx hb d_M_replace_35 rfl (lv_at hl 1 rfl) ?_
      refine lv_iconst (v := 0) hx hb d_M_replace_36 (by decide) ?_
      refine kx_iast (ws' := (wMd b k5 0 vn vr vo vl vb fN fK fW (upd fL (d.toNatClampNeg) 0) (upd fM (d.toNatClampNeg) 0) fE fR fF fS fP fY fT fJ fI)) hx hb hK hP hD hS 5 0 rfl rfl (d.toNatClampNeg) ((noD hc_1 hn (by omega)).1) (by have := (noD hc_1 hn (by omega)).2; omega) (by omega) rfl d_M_replace_37 (fun H locs hP hD hS => ?_)
      refine lv_aload_n hx hb d_M_replace_38 rfl (lv_at hl 0 rfl) ?_
      refine va_get (D := (dC, dI)) (ci := 3) (v := .int vo) (C := R_M) (T := T_M) (N := 20) hx hb hts wu_M hown hK hP 0 rfl rfl 3 (by decide) (hts _ wf_M_68) (fun _ h9 => h9) rfl d_M_replace_39 ?_
      refine lv_if_ne (tgt := 50) hx hb d_M_replace_42 (by decide) (fun hc_3 => ?_) (fun hc_3 => ?_)
      · refine lv_iconst (v := 0) hx hb d_M_replace_50 (by decide) ?_
        have e : m_replace vT vn vr vo vl vb fN fK fW fL fM fE fR fF fS fP fY fT fJ fI n bs la p9 d = ((0, vn, vr, vo, vl, vb, fN, fK, fW, (upd fL (d.toNatClampNeg) 0), (upd fM (d.toNatClampNeg) 0), fE, fR, fF, fS, fP, fY, fT, fJ, fI), 0) := by unfold m_replace; rw [if_pos hc_1, if_neg hc_2, if_neg hc_3]
        exact W.iret (v := 0) hx hb hr (fun t ht hW => kx_Qi (by rw [e]) ht hP (by rw [e]) hS rfl) hS.2.2 d_M_replace_51
      · refine lv_aload_n hx hb d_M_replace_45 rfl (lv_at hl 0 rfl) ?_
        refine lv_iconst (v := 0) hx hb d_M_replace_46 (by decide) ?_
        refine kx_VW (w1 := (wMd b k5 0 vn vr vo (vl + 1) (vl + 1) fN fK fW (upd fL (d.toNatClampNeg) 0) (upd fM (d.toNatClampNeg) 0) fE fR ((mSp (upd fL (d.toNatClampNeg) 0) (la + 1) p9 0 0 0 fF fS n).1) ((mSp (upd fL (d.toNatClampNeg) 0) (la + 1) p9 0 0 0 fF fS n).2.1) (upd fP (la + 1) (1 - fP bs)) (upd fY (la + 1) 0) (mTell (upd fM (d.toNatClampNeg) 0) (la + 1) fT 8) fJ fI)) (As := [.int 0]) (rest := []) ⟨hx, hb, hml, hown, hts⟩ (k_M_label l dC dI k5 b 0 vn vr vo vl vb fN fK fW (upd fL (d.toNatClampNeg) 0) (upd fM (d.toNatClampNeg) 0) fE fR fF fS fP fY fT fJ fI 0 rfl bs la hvb hvl hbs (by omega) p9 hp9 hrow n hn hn4 hn8) (cwV 1 hts (goodV wm_M_82 wn_M_label ws_M_label wi_M wc_M_label) rfl rfl rfl (by decide +kernel) ⟨Nat.le_of_ble_eq_true rfl, Nat.le_of_ble_eq_true rfl⟩) ⟨Nat.zero_le _, Nat.zero_le _⟩ hK hP hD hS 0 rfl rfl rfl rfl hl.1 rfl (Nat.le_of_ble_eq_true rfl) d_M_replace_47 (fun H locs hP hD hS => ?_)
        refine W.eq (g2 := F0 m 50 ls []) rfl ?_
        refine lv_iconst (v := 0) hx hb d_M_replace_50 (by decide) ?_
        have e : m_replace vT vn vr vo vl vb fN fK fW fL fM fE fR fF fS fP fY fT fJ fI n bs la p9 d = ((0, vn, vr, vo, (vl + 1), (vl + 1), fN, fK, fW, (upd fL (d.toNatClampNeg) 0), (upd fM (d.toNatClampNeg) 0), fE, fR, (mSp (upd fL (d.toNatClampNeg) 0) (la + 1) p9 0 0 0 fF fS n).1, (mSp (upd fL (d.toNatClampNeg) 0) (la + 1) p9 0 0 0 fF fS n).2.1, (upd fP (la + 1) (1 - fP bs)), (upd fY (la + 1) 0), (mTell (upd fM (d.toNatClampNeg) 0) (la + 1) fT 8), fJ, fI), 0) := by unfold m_replace; rw [if_pos hc_1, if_neg hc_2, if_pos hc_3]
        exact W.iret (v := 0) hx hb hr (fun t ht hW => kx_Qi (by rw [e]) ht hP (by rw [e]) hS rfl) hS.2.2 d_M_replace_51
    · refine lv_iconst (v := (-1)) hx hb d_M_replace_22 (by decide) ?_
      have e : m_replace vT vn vr vo vl vb fN fK fW fL fM fE fR fF fS fP fY fT fJ fI n bs la p9 d = ((0, vn, vr, vo, vl, vb, fN, fK, fW, fL, fM, fE, fR, fF, fS, fP, fY, fT, fJ, fI), (-1)) := by unfold m_replace; rw [if_pos hc_1, if_pos hc_2]
      exact W.iret (v := (-1)) hx hb hr (fun t ht hW => kx_Qi (by rw [e]) ht hP (by rw [e]) hS rfl) hS.2.2 d_M_replace_23
def m_rot (vT vn vr vo vl vb : Int32) (fN fK fW fL fM fE fR fF fS fP fY fT fJ fI : FF) (n : Nat) (d x : Int32) : MT × Int32 := (if (bI (decide (d < 0 ∨ ¬ d < vn))) = 0 then (if x < 2 then ((0, vn, vr, vo, vl, vb, fN, fK, fW, fL, fM, fE, fR, fF, fS, fP, fY, fT, fJ, fI), (-1)) else (if vr ≤ x then ((0, vn, vr, vo, vl, vb, fN, fK, fW, fL, fM, fE, fR, fF, fS, fP, fY, fT, fJ, fI), (-1)) else (if (bI (mGone fL fM fR (d.toNatClampNeg) (x.toNatClampNeg))) = 0 then (if (nI (cnt (fun q9 => mGone fL fM fR q9 (x.toNatClampNeg)) n)) = 2 then ((0, vn, vr, vo, vl, vb, fN, fK, fW, fL, fM, fE, fR, fF, fS, fP, fY, fT, fJ, fI), (-3)) else ((0, vn, vr, vo, vl, vb, fN, fK, fW, fL, fM, fE, (upd fR (40 * (d.toNatClampNeg) + (x.toNatClampNeg)) 1), fF, fS, fP, fY, fT, fJ, fI), (nI (cnt (fun q9 => mGone fL fM (upd fR (40 * (d.toNatClampNeg) + (x.toNatClampNeg)) 1) q9 (x.toNatClampNeg)) n)))) else ((0, vn, vr, vo, vl, vb, fN, fK, fW, fL, fM, fE, fR, fF, fS, fP, fY, fT, fJ, fI), (-1))))) else ((0, vn, vr, vo, vl, vb, fN, fK, fW, fL, fM, fE, fR, fF, fS, fP, fY, fT, fJ, fI), (-1)))
set_option maxHeartbeats 4000000 in
set_option maxRecDepth 100000 in
theorem k_M_rot (l : Launch) (dC : Nat → ClassId) (dI : Nat → Nat → Nat) (k5 : Nat → ClassId) (b : Nat → Nat) (vT vn vr vo vl vb : Int32) (fN fK fW fL fM fE fR fF fS fP fY fT fJ fI : FF) (n : Nat) (d x : Int32) (r : Nat) (hn : vn = nI n) (hn4 : 4 ≤ n) (hn8 : n ≤ 8) (er : vr = nI r) (hr2 : 12 ≤ r) (hr40 : r ≤ 40) : Met l y_M_rot w_M_rot ({ frames := 2, cells := 0, slots := 0, locals := 45 }) (kx_Pc (dC, dI) clA (tyL k5) (wMd b k5 vT vn vr vo vl vb fN fK fW fL fM fE fR fF fS fP fY fT fJ fI) [.ref (b 0), .int d, .int x]) (kx_Q (dC, dI) clA (wMd b k5 vT vn vr vo vl vb fN fK fW fL fM fE fR fF fS fP fY fT fJ fI) (wMS b k5 (m_rot vT vn vr vo vl vb fN fK fW fL fM fE fR fF fS fP fY fT fJ fI n d x).1) (some (.int (m_rot vT vn vr vo vl vb fN fK fW fL fM fE fR fF fS fP fY fT fJ fI n d x).2))) 0 0 (kx_A (wMd b k5 vT vn vr vo vl vb fN fK fW fL fM fE fR fF fS fP fY fT fJ fI)) := by
  refine Met.ofW (cc := c_M_rot) (maxL := 3) (ret := (some .int)) (by decide) rfl ?_
  intro p e s m args below meth c s₁ B hml hv
  obtain ⟨rfl, hP, hK, hD0⟩ := hv
  have hx := B.exec
  have hb := B.bytes
  have hr := B.returns
  have hts : ∀ w ∈ wsA, w.before _ s = true := fun w h => atoms_spec (ws := w_M_rot) B.pre w (List.mem_cons_of_mem _ h)
  have hown : s.vm.findClass R_M = some m.cls := findClass_of_methodNamed B.named
  have hlocks := B.notSynchronized
  have hD := kx_D.self hD0
  have hS : va_S (kx_A (wMd b k5 vT vn vr vo vl vb fN fK fW fL fM fE fR fF fS fP fY fT fJ fI)) s.heap s.heap [] := va_S.rf
  have hl := lv_entry ([.ref (b 0), .int d, .int x]) (n := 3) (Nat.le_of_ble_eq_true rfl)
  rw [lg_entry_eq]
  generalize (lg_sl ([.ref (b 0), .int d, .int x]) ++ List.replicate (3 - (lg_sl ([.ref (b 0), .int d, .int x])).length) Slot.unset).toArray = ls at hl ⊢
  have hl : lv_has ls 3 [(0, .ref (b 0)), (1, .int d), (2, .int x)] := hl
  refine lv_aload_n hx hb d_M_rot_0 rfl (lv_at hl 0 rfl) ?_
  refine lv_iconst (v := 0) hx hb d_M_rot_1 (by decide) ?_
  refine kx_put (ws' := (wMd b k5 0 vn vr vo vl vb fN fK fW fL fM fE fR fF fS fP fY fT fJ fI)) (D := (dC, dI)) (ci := 3) (v := .int 0) (ty := .int) (C := R_M) (T := T_M) (N := 20) hx hb hts wu_M ty_M ok_M nm_M hown hK hP hD hS 0 rfl rfl 0 (by decide) (hts _ wf_M_58) (fun _ h9 => h9) rfl (by decide +kernel) rfl rfl (Nat.le_of_ble_eq_true rfl) rfl d_M_rot_2 (fun H locs hP hD hS => ?_)
  refine lv_aload_n hx hb d_M_rot_5 rfl (lv_at hl 0 rfl) ?_
  refine lv_iload_n hx hb d_M_rot_6 rfl (lv_at hl 1 rfl) ?_
  refine kx_VRW (As := [.int d]) (rest := []) ⟨hx, hb, hml, hown, hts⟩ (k_M_noDisk l dC dI k5 b 0 vn vr vo vl vb fN fK fW fL fM fE fR fF fS fP fY fT fJ fI d) (cwV 1 hts (goodV wm_M_117 wn_M_noDisk ws_M_noDisk wi_M wc_M_noDisk) rfl rfl rfl (by decide +kernel) ⟨Nat.le_of_ble_eq_true rfl, Nat.le_of_ble_eq_true rfl⟩) ⟨Nat.zero_le _, Nat.zero_le _⟩ hK hP hD 0 rfl rfl rfl hl.1 rfl (Nat.le_of_ble_eq_true rfl) d_M_rot_7 ?_
  refine W.eq (g2 := F0 m 10 ls [.int (bI (decide (d < 0 ∨ ¬ d < vn)))]) rfl ?_
  refine lv_if_ne (tgt := 35) hx hb d_M_rot_10 (by decide) (fun hc_1 => ?_) (fun hc_1 => ?_)
  · refine lv_iconst (v := (-1)) hx hb d_M_rot_35 (by decide) ?_
    have e : m_rot vT vn vr vo vl vb fN fK fW fL fM fE fR fF fS fP fY fT fJ fI n d x = ((0, vn, vr, vo, vl, vb, fN, fK, fW, fL, fM, fE, fR, fF, fS, fP, fY, fT, fJ, fI), (-1)) := by unfold m_rot; rw [if_neg hc_1]
    exact W.iret (v := (-1)) hx hb hr (fun t ht hW => kx_Qi (by rw [e]) ht hP (by rw [e]) hS rfl) hS.2.2 d_M_rot_36
  · refine lv_iload_n hx hb d_M_rot_13 rfl (lv_at hl 2 rfl) ?_
    refine lv_iconst (v := 2) hx hb d_M_rot_14 (by decide) ?_
    refine lv_icmp_lt (tgt := 35) hx hb d_M_rot_15 (by decide) (fun hc_2 => ?_) (fun hc_2 => ?_)
    · refine lv_iconst (v := (-1)) hx hb d_M_rot_35 (by decide) ?_
      have e : m_rot vT vn vr vo vl vb fN fK fW fL fM fE fR fF fS fP fY fT fJ fI n d x = ((0, vn, vr, vo, vl, vb, fN, fK, fW, fL, fM, fE, fR, fF, fS, fP, fY, fT, fJ, fI), (-1)) := by unfold m_rot; rw [if_pos hc_1, if_pos hc_2]
      exact W.iret (v := (-1)) hx hb hr (fun t ht hW => kx_Qi (by rw [e]) ht hP (by rw [e]) hS rfl) hS.2.2 d_M_rot_36
    · refine lv_iload_n hx hb d_M_rot_18 rfl (lv_at hl 2 rfl) ?_
      refine lv_aload_n hx hb d_M_rot_19 rfl (lv_at hl 0 rfl) ?_
      refine va_get (D := (dC, dI)) (ci := 3) (v := .int vr) (C := R_M) (T := T_M) (N := 20) hx hb hts wu_M hown hK hP 0 rfl rfl 2 (by decide) (hts _ wf_M_65) (fun _ h9 => h9) rfl d_M_rot_20 ?_
      refine lv_icmp_ge (tgt := 35) hx hb d_M_rot_23 (by decide) (fun hc_3 => ?_) (fun hc_3 => ?_)
      · refine lv_iconst (v := (-1)) hx hb d_M_rot_35 (by decide) ?_
        have e : m_rot vT vn vr vo vl vb fN fK fW fL fM fE fR fF fS fP fY fT fJ fI n d x = ((0, vn, vr, vo, vl, vb, fN, fK, fW, fL, fM, fE, fR, fF, fS, fP, fY, fT, fJ, fI), (-1)) := by unfold m_rot; rw [if_pos hc_1, if_neg hc_2, if_pos hc_3]
        exact W.iret (v := (-1)) hx hb hr (fun t ht hW => kx_Qi (by rw [e]) ht hP (by rw [e]) hS rfl) hS.2.2 d_M_rot_36
      · refine lv_aload_n hx hb d_M_rot_26 rfl (lv_at hl 0 rfl) ?_
        refine lv_iload_n hx hb d_M_rot_27 rfl (lv_at hl 1 rfl) ?_
        refine lv_iload_n hx hb d_M_rot_28 rfl (lv_at hl 2 rfl) ?_
        refine W.eq (g2 := F0 m 29 ls [.int x, .int (nI (d.toNatClampNeg)), .ref (b 0)]) (by rw [← (noD hc_1 hn (by omega)).1]) ?_
        refine W.eq (g2 := F0 m 29 ls [.int (nI (x.toNatClampNeg)), .int (nI (d.toNatClampNeg)), .ref (b 0)]) (by rw [← (rw_t hc_2 (Int32.not_le.mp hc_3) er (by omega)).1]) ?_
        refine kx_VRW (As := [.int (nI (d.toNatClampNeg)), .int (nI (x.toNatClampNeg))]) (rest := []) ⟨hx, hb, hml, hown, hts⟩ (k_M_isGone l dC dI k5 b 0 vn vr vo vl vb fN fK fW fL fM fE fR fF fS fP fY fT fJ fI (d.toNatClampNeg) (x.toNatClampNeg) (by have := (noD hc_1 hn (by omega)).2; omega) (by have := (rw_t hc_2 (Int32.not_le.mp hc_3) er (by omega)).2.2; omega)) (cwV 2 hts (goodV wm_M_110 wn_M_isGone ws_M_isGone wi_M wc_M_isGone) rfl rfl rfl (by decide +kernel) ⟨Nat.le_of_ble_eq_true rfl, Nat.le_of_ble_eq_true rfl⟩) ⟨Nat.zero_le _, Nat.zero_le _⟩ hK hP hD 0 rfl rfl rfl hl.1 rfl (Nat.le_of_ble_eq_true rfl) d_M_rot_29 ?_
        refine W.eq (g2 := F0 m 32 ls [.int (bI (mGone fL fM fR (d.toNatClampNeg) (x.toNatClampNeg)))]) rfl ?_
        refine lv_if_eq (tgt := 37) hx hb d_M_rot_32 (by decide) (fun hc_4 => ?_) (fun hc_4 => ?_)
        · refine lv_aload_n hx hb d_M_rot_37 rfl (lv_at hl 0 rfl) ?_
          refine lv_iload_n hx hb d_M_rot_38 rfl (lv_at hl 2 rfl) ?_
          refine W.eq (g2 := F0 m 39 ls [.int (nI (x.toNatClampNeg)), .ref (b 0)]) (by rw [← (rw_t hc_2 (Int32.not_le.mp hc_3) er (by omega)).1]) ?_
          refine kx_VRW (As := [.int (nI (x.toNatClampNeg))]) (rest := []) ⟨hx, hb, hml, hown, hts⟩ (k_M_goneIn l dC dI k5 b 0 vn vr vo vl vb fN fK fW fL fM fE fR fF fS fP fY fT fJ fI n hn hn4 hn8 (x.toNatClampNeg) (by have := (rw_t hc_2 (Int32.not_le.mp hc_3) er (by omega)).2.2; omega)) (cwV 1 hts (goodV wm_M_114 wn_M_goneIn ws_M_goneIn wi_M wc_M_goneIn) rfl rfl rfl (by decide +kernel) ⟨Nat.le_of_ble_eq_true rfl, Nat.le_of_ble_eq_true rfl⟩) ⟨Nat.zero_le _, Nat.zero_le _⟩ hK hP hD 0 rfl rfl rfl hl.1 rfl (Nat.le_of_ble_eq_true rfl) d_M_rot_39 ?_
          refine W.eq (g2 := F0 m 42 ls [.int (nI (cnt (fun q9 => mGone fL fM fR q9 (x.toNatClampNeg)) n))]) rfl ?_
          refine lv_iconst (v := 2) hx hb d_M_rot_42 (by decide) ?_
          refine lv_icmp_ne (tgt := 49) hx hb d_M_rot_43 (by decide) (fun hc_5 => ?_) (fun hc_5 => ?_)
          · refine lv_aload_n hx hb d_M_rot_49 rfl (lv_at hl 0 rfl) ?_
            refine va_get (D := (dC, dI)) (ci := 3) (v := .ref (b 7)) (C := R_M) (T := T_M) (N := 20) hx hb hts wu_M hown hK hP 0 rfl rfl 10 (by decide) (hts _ wf_M_30) (fun _ h9 => h9) rfl d_M_rot_50 ?_
            refine lv_bipush (v := 40) hx hb d_M_rot_53 (by decide) ?_
            refine lv_iload_n hx hb d_M_rot_55 rfl (lv_at hl 1 rfl) ?_
            refine lv_imul hx hb d_M_rot_56 ?_
            refine lv_iload_n hx hb d_M_rot_57 rfl (lv_at hl 2 rfl) ?_
            refine lv_iadd hx hb d_M_rot_58 ?_
            refine lv_iconst (v := 1) hx hb d_M_rot_59 (by decide) ?_
            refine kx_zast (ws' := (wMd b k5 0 vn vr vo vl vb fN fK fW fL fM fE (upd fR (40 * (d.toNatClampNeg) + (x.toNatClampNeg)) 1) fF fS fP fY fT fJ fI)) hx hb hK hP hD hS 7 3 rfl rfl (40 * (d.toNatClampNeg) + (x.toNatClampNeg)) (i40 (noD hc_1 hn (by omega)).1 (rw_t hc_2 (Int32.not_le.mp hc_3) er (by omega)).1) (by have := (noD hc_1 hn (by omega)).2; have := (rw_t hc_2 (Int32.not_le.mp hc_3) er (by omega)).2.2; omega) (by omega) rfl rfl d_M_rot_60 (fun H locs hP hD hS => ?_)
            refine lv_aload_n hx hb d_M_rot_61 rfl (lv_at hl 0 rfl) ?_
            refine lv_iload_n hx hb d_M_rot_62 rfl (lv_at hl 2 rfl) ?_
            refine W.eq (g2 := F0 m 63 ls [.int (nI (x.toNatClampNeg)), .ref (b 0)]) (by rw [← (rw_t hc_2 (Int32.not_le.mp hc_3) er (by omega)).1]) ?_
            refine kx_VRW (As := [.int (nI (x.toNatClampNeg))]) (rest := []) ⟨hx, hb, hml, hown, hts⟩ (k_M_goneIn l dC dI k5 b 0 vn vr vo vl vb fN fK fW fL fM fE (upd fR (40 * (d.toNatClampNeg) + (x.toNatClampNeg)) 1) fF fS fP fY fT fJ fI n hn hn4 hn8 (x.toNatClampNeg) (by have := (rw_t hc_2 (Int32.not_le.mp hc_3) er (by omega)).2.2; omega)) (cwV 1 hts (goodV wm_M_114 wn_M_goneIn ws_M_goneIn wi_M wc_M_goneIn) rfl rfl rfl (by decide +kernel) ⟨Nat.le_of_ble_eq_true rfl, Nat.le_of_ble_eq_true rfl⟩) ⟨Nat.zero_le _, Nat.zero_le _⟩ hK hP hD 0 rfl rfl rfl hl.1 rfl (Nat.le_of_ble_eq_true rfl) d_M_rot_63 ?_
            refine W.eq (g2 := F0 m 66 ls [.int (nI (cnt (fun q9 => mGone fL fM (upd fR (40 * (d.toNatClampNeg) + (x.toNatClampNeg)) 1) q9 (x.toNatClampNeg)) n))]) rfl ?_
            have e : m_rot vT vn vr vo vl vb fN fK fW fL fM fE fR fF fS fP fY fT fJ fI n d x = ((0, vn, vr, vo, vl, vb, fN, fK, fW, fL, fM, fE, (upd fR (40 * (d.toNatClampNeg) + (x.toNatClampNeg)) 1), fF, fS, fP, fY, fT, fJ, fI), (nI (cnt (fun q9 => mGone fL fM (upd fR (40 * (d.toNatClampNeg) + (x.toNatClampNeg)) 1) q9 (x.toNatClampNeg)) n))) := by unfold m_rot; rw [if_pos hc_1, if_neg hc_2, if_neg hc_3, if_pos hc_4, if_neg hc_5]
            exact W.iret (v := (nI (cnt (fun q9 => mGone fL fM (upd fR (40 * (d.toNatClampNeg) + (x.toNatClampNeg)) 1) q9 (x.toNatClampNeg)) n))) hx hb hr (fun t ht hW => kx_Qi (by rw [e]) ht hP (by rw [e]) hS rfl) hS.2.2 d_M_rot_66
          · refine lv_bipush (v := (-3)) hx hb d_M_rot_46 (by decide) ?_
            have e : m_rot vT vn vr vo vl vb fN fK fW fL fM fE fR fF fS fP fY fT fJ fI n d x = ((0, vn, vr, vo, vl, vb, fN, fK, fW, fL, fM, fE, fR, fF, fS, fP, fY, fT, fJ, fI), (-3)) := by unfold m_rot; rw [if_pos hc_1, if_neg hc_2, if_neg hc_3, if_pos hc_4, if_pos hc_5]
            exact W.iret (v := (-3)) hx hb hr (fun t ht hW => kx_Qi (by rw [e]) ht hP (by rw [e]) hS rfl) hS.2.2 d_M_rot_48
        · refine lv_iconst (v := (-1)) hx hb d_M_rot_35 (by decide) ?_
          have e : m_rot vT vn vr vo vl vb fN fK fW fL fM fE fR fF fS fP fY fT fJ fI n d x = ((0, vn, vr, vo, vl, vb, fN, fK, fW, fL, fM, fE, fR, fF, fS, fP, fY, fT, fJ, fI), (-1)) := by unfold m_rot; rw [if_pos hc_1, if_neg hc_2, if_neg hc_3, if_neg hc_4]
          exact W.iret (v := (-1)) hx hb hr (fun t ht hW => kx_Qi (by rw [e]) ht hP (by rw [e]) hS rfl) hS.2.2 d_M_rot_36
def m_read (vT vn vr vo vl vb : Int32) (fN fK fW fL fM fE fR fF fS fP fY fT fJ fI : FF) (x t : Int32) : MT × Int32 := (if vo = 0 then (if (bI (decide (x < 0 ∨ ¬ x < ((vn - 2) * (vr - 6))))) = 0 then (if t < 0 then ((0, vn, vr, vo, vl, vb, fN, fK, fW, fL, fM, fE, fR, fF, fS, fP, fY, fT, fJ, fI), (-1)) else (if t < 64 then ((0, vn, vr, vo, vl, vb, fN, fK, fW, fL, fM, fE, fR, fF, fS, fP, fY, fT, fJ, fI), ((fN (64 * (x.toNatClampNeg) + (t.toNatClampNeg))) &&& 255)) else ((0, vn, vr, vo, vl, vb, fN, fK, fW, fL, fM, fE, fR, fF, fS, fP, fY, fT, fJ, fI), (-1)))) else ((0, vn, vr, vo, vl, vb, fN, fK, fW, fL, fM, fE, fR, fF, fS, fP, fY, fT, fJ, fI), (-1))) else ((0, vn, vr, vo, vl, vb, fN, fK, fW, fL, fM, fE, fR, fF, fS, fP, fY, fT, fJ, fI), (-2)))
set_option maxHeartbeats 4000000 in
set_option maxRecDepth 100000 in
theorem k_M_read (l : Launch) (dC : Nat → ClassId) (dI : Nat → Nat → Nat) (k5 : Nat → ClassId) (b : Nat → Nat) (vT vn vr vo vl vb : Int32) (fN fK fW fL fM fE fR fF fS fP fY fT fJ fI : FF) (x t : Int32) (n r : Nat) (hn : vn = nI n) (hn4 : 4 ≤ n) (hn8 : n ≤ 8) (er : vr = nI r) (hr2 : 12 ≤ r) (hr40 : r ≤ 40) : Met l y_M_read w_M_read ({ frames := 2, cells := 0, slots := 0, locals := 41 }) (kx_Pc (dC, dI) clA (tyL k5) (wMd b k5 vT vn vr vo vl vb fN fK fW fL fM fE fR fF fS fP fY fT fJ fI) [.ref (b 0), .int x, .int t]) (kx_Q (dC, dI) clA (wMd b k5 vT vn vr vo vl vb fN fK fW fL fM fE fR fF fS fP fY fT fJ fI) (wMS b k5 (m_read vT vn vr vo vl vb fN fK fW fL fM fE fR fF fS fP fY fT fJ fI x t).1) (some (.int (m_read vT vn vr vo vl vb fN fK fW fL fM fE fR fF fS fP fY fT fJ fI x t).2))) 0 0 (kx_A (wMd b k5 vT vn vr vo vl vb fN fK fW fL fM fE fR fF fS fP fY fT fJ fI)) := by
  refine Met.ofW (cc := c_M_read) (maxL := 3) (ret := (some .int)) (by decide) rfl ?_
  intro p e s m args below meth c s₁ B hml hv
  obtain ⟨rfl, hP, hK, hD0⟩ := hv
  have hx := B.exec
  have hb := B.bytes
  have hr := B.returns
  have hts : ∀ w ∈ wsA, w.before _ s = true := fun w h => atoms_spec (ws := w_M_read) B.pre w (List.mem_cons_of_mem _ h)
  have hown : s.vm.findClass R_M = some m.cls := findClass_of_methodNamed B.named
  have hlocks := B.notSynchronized
  have hD := kx_D.self hD0
  have hS : va_S (kx_A (wMd b k5 vT vn vr vo vl vb fN fK fW fL fM fE fR fF fS fP fY fT fJ fI)) s.heap s.heap [] := va_S.rf
  have hl := lv_entry ([.ref (b 0), .int x, .int t]) (n := 3) (Nat.le_of_ble_eq_true rfl)
  rw [lg_entry_eq]
  generalize (lg_sl ([.ref (b 0), .int x, .int t]) ++ List.replicate (3 - (lg_sl ([.ref (b 0), .int x, .int t])).length) Slot.unset).toArray = ls at hl ⊢
  have hl : lv_has ls 3 [(0, .ref (b 0)), (1, .int x), (2, .int t)] := hl
  refine lv_aload_n hx hb d_M_read_0 rfl (lv_at hl 0 rfl) ?_
  refine lv_iconst (v := 0) hx hb d_M_read_1 (by decide) ?_
  refine kx_put (ws' := (wMd b k5 0 vn vr vo vl vb fN fK fW fL fM fE fR fF fS fP fY fT fJ fI)) (D := (dC, dI)) (ci := 3) (v := .int 0) (ty := .int) (C := R_M) (T := T_M) (N := 20) hx hb hts wu_M ty_M ok_M nm_M hown hK hP hD hS 0 rfl rfl 0 (by decide) (hts _ wf_M_58) (fun _ h9 => h9) rfl (by decide +kernel) rfl rfl (Nat.le_of_ble_eq_true rfl) rfl d_M_read_2 (fun H locs hP hD hS => ?_)
  refine lv_aload_n hx hb d_M_read_5 rfl (lv_at hl 0 rfl) ?_
  refine va_get (D := (dC, dI)) (ci := 3) (v := .int vo) (C := R_M) (T := T_M) (N := 20) hx hb hts wu_M hown hK hP 0 rfl rfl 3 (by decide) (hts _ wf_M_68) (fun _ h9 => h9) rfl d_M_read_6 ?_
  refine lv_if_eq (tgt := 17) hx hb d_M_read_9 (by decide) (fun hc_1 => ?_) (fun hc_1 => ?_)
  · refine lv_aload_n hx hb d_M_read_17 rfl (lv_at hl 0 rfl) ?_
    refine lv_iload_n hx hb d_M_read_18 rfl (lv_at hl 1 rfl) ?_
    refine kx_VRW (As := [.int x]) (rest := []) ⟨hx, hb, hml, hown, hts⟩ (k_M_noBlock l dC dI k5 b 0 vn vr vo vl vb fN fK fW fL fM fE fR fF fS fP fY fT fJ fI x) (cwV 1 hts (goodV wm_M_131 wn_M_noBlock ws_M_noBlock wi_M wc_M_noBlock) rfl rfl rfl (by decide +kernel) ⟨Nat.le_of_ble_eq_true rfl, Nat.le_of_ble_eq_true rfl⟩) ⟨Nat.zero_le _, Nat.zero_le _⟩ hK hP hD 0 rfl rfl rfl hl.1 rfl (Nat.le_of_ble_eq_true rfl) d_M_read_19 ?_
    refine W.eq (g2 := F0 m 22 ls [.int (bI (decide (x < 0 ∨ ¬ x < ((vn - 2) * (vr - 6)))))]) rfl ?_
    refine lv_if_ne (tgt := 35) hx hb d_M_read_22 (by decide) (fun hc_2 => ?_) (fun hc_2 => ?_)
    · refine lv_iconst (v := (-1)) hx hb d_M_read_35 (by decide) ?_
      refine lv_goto (tgt := 54) hx hb d_M_read_36 (by decide) ?_
      have e : m_read vT vn vr vo vl vb fN fK fW fL fM fE fR fF fS fP fY fT fJ fI x t = ((0, vn, vr, vo, vl, vb, fN, fK, fW, fL, fM, fE, fR, fF, fS, fP, fY, fT, fJ, fI), (-1)) := by unfold m_read; rw [if_pos hc_1, if_neg hc_2]
      exact W.iret (v := (-1)) hx hb hr (fun t ht hW => kx_Qi (by rw [e]) ht hP (by rw [e]) hS rfl) hS.2.2 d_M_read_54
    · refine lv_iload_n hx hb d_M_read_25 rfl (lv_at hl 2 rfl) ?_
      refine lv_if_lt (tgt := 35) hx hb d_M_read_26 (by decide) (fun hc_3 => ?_) (fun hc_3 => ?_)
      · refine lv_iconst (v := (-1)) hx hb d_M_read_35 (by decide) ?_
        refine lv_goto (tgt := 54) hx hb d_M_read_36 (by decide) ?_
        have e : m_read vT vn vr vo vl vb fN fK fW fL fM fE fR fF fS fP fY fT fJ fI x t = ((0, vn, vr, vo, vl, vb, fN, fK, fW, fL, fM, fE, fR, fF, fS, fP, fY, fT, fJ, fI), (-1)) := by unfold m_read; rw [if_pos hc_1, if_pos hc_2, if_pos hc_3]
        exact W.iret (v := (-1)) hx hb hr (fun t ht hW => kx_Qi (by rw [e]) ht hP (by rw [e]) hS rfl) hS.2.2 d_M_read_54
      · refine lv_iload_n hx hb d_M_read_29 rfl (lv_at hl 2 rfl) ?_
        refine lv_bipush (v := 64) hx hb d_M_read_30 (by decide) ?_
        refine lv_icmp_lt (tgt := 39) hx hb d_M_read_32 (by decide) (fun hc_4 => ?_) (fun hc_4 => ?_)
        · refine lv_aload_n hx hb d_M_read_39 rfl (lv_at hl 0 rfl) ?_
          refine va_get (D := (dC, dI)) (ci := 3) (v := .ref (b 1)) (C := R_M) (T := T_M) (N := 20) hx hb hts wu_M hown hK hP 0 rfl rfl 4 (by decide) (hts _ wf_M_7) (fun _ h9 => h9) rfl d_M_read_40 ?_
          refine lv_bipush (v := 64) hx hb d_M_read_43 (by decide) ?_
          refine lv_iload_n hx hb d_M_read_45 rfl (lv_at hl 1 rfl) ?_
          refine lv_imul hx hb d_M_read_46 ?_
          refine lv_iload_n hx hb d_M_read_47 rfl (lv_at hl 2 rfl) ?_
          refine lv_iadd hx hb d_M_read_48 ?_
          refine kx_bald hx hb hK hP 1 2 rfl rfl (64 * (x.toNatClampNeg) + (t.toNatClampNeg)) (i64 (noD hc_2 (blk_nI hn er hn4 hr2) (by have := blk_le hn8 hr40; omega)).1 (clamp_nI hc_3)) (by have := (noD hc_2 (blk_nI hn er hn4 hr2) (by have := blk_le hn8 hr40; omega)).2; have := blk_le hn8 hr40; have := clamp_lt (n := 64) hc_3 (Int32.not_le.mpr hc_4) (by omega); omega) (by omega) d_M_read_49 ?_
          refine lv_sipush (v := 255) hx hb d_M_read_50 (by decide) ?_
          refine lv_iand hx hb d_M_read_53 ?_
          have e : m_read vT vn vr vo vl vb fN fK fW fL fM fE fR fF fS fP fY fT fJ fI x t = ((0, vn, vr, vo, vl, vb, fN, fK, fW, fL, fM, fE, fR, fF, fS, fP, fY, fT, fJ, fI), ((fN (64 * (x.toNatClampNeg) + (t.toNatClampNeg))) &&& 255)) := by unfold m_read; rw [if_pos hc_1, if_pos hc_2, if_neg hc_3, if_pos hc_4]
          exact W.iret (v := ((fN (64 * (x.toNatClampNeg) + (t.toNatClampNeg))) &&& 255)) hx hb hr (fun t ht hW => kx_Qi (by rw [e]) ht hP (by rw [e]) hS rfl) hS.2.2 d_M_read_54
        · refine lv_iconst (v := (-1)) hx hb d_M_read_35 (by decide) ?_
          refine lv_goto (tgt := 54) hx hb d_M_read_36 (by decide) ?_
          have e : m_read vT vn vr vo vl vb fN fK fW fL fM fE fR fF fS fP fY fT fJ fI x t = ((0, vn, vr, vo, vl, vb, fN, fK, fW, fL, fM, fE, fR, fF, fS, fP, fY, fT, fJ, fI), (-1)) := by unfold m_read; rw [if_pos hc_1, if_pos hc_2, if_neg hc_3, if_neg hc_4]
          exact W.iret (v := (-1)) hx hb hr (fun t ht hW => kx_Qi (by rw [e]) ht hP (by rw [e]) hS rfl) hS.2.2 d_M_read_54
  · refine lv_bipush (v := (-2)) hx hb d_M_read_12 (by decide) ?_
    refine lv_goto (tgt := 54) hx hb d_M_read_14 (by decide) ?_
    have e : m_read vT vn vr vo vl vb fN fK fW fL fM fE fR fF fS fP fY fT fJ fI x t = ((0, vn, vr, vo, vl, vb, fN, fK, fW, fL, fM, fE, fR, fF, fS, fP, fY, fT, fJ, fI), (-2)) := by unfold m_read; rw [if_neg hc_1]
    exact W.iret (v := (-2)) hx hb hr (fun t ht hW => kx_Qi (by rw [e]) ht hP (by rw [e]) hS rfl) hS.2.2 d_M_read_54
def m_count (vT vn vr vo vl vb : Int32) (fN fK fW fL fM fE fR fF fS fP fY fT fJ fI : FF) (n r : Nat) (x : Int32) : MT × Int32 := (if vo = 0 then (if x = 0 then ((0, vn, vr, vo, vl, vb, fN, fK, fW, fL, fM, fE, fR, fF, fS, fP, fY, fT, fJ, fI), ((vn - 2) * (vr - 6))) else (if x = 1 then ((0, vn, vr, vo, vl, vb, fN, fK, fW, fL, fM, fE, fR, fF, fS, fP, fY, fT, fJ, fI), (mUse fW n r)) else (if x = 2 then ((0, vn, vr, vo, vl, vb, fN, fK, fW, fL, fM, fE, fR, fF, fS, fP, fY, fT, fJ, fI), (nI (cnt (fun q => nz (fW q)) ((n - 2) * (r - 6))))) else (if x = 3 then ((0, vn, vr, vo, vl, vb, fN, fK, fW, fL, fM, fE, fR, fF, fS, fP, fY, fT, fJ, fI), (nI (cnt (fun d => nz (fL d)) n))) else (if x = 4 then ((0, vn, vr, vo, vl, vb, fN, fK, fW, fL, fM, fE, fR, fF, fS, fP, fY, fT, fJ, fI), (nI (cnt (fun d => decide (fL d = 0 ∧ ¬ vr ≤ fM d)) n))) else ((0, vn, vr, vo, vl, vb, fN, fK, fW, fL, fM, fE, fR, fF, fS, fP, fY, fT, fJ, fI), (-1))))))) else ((0, vn, vr, vo, vl, vb, fN, fK, fW, fL, fM, fE, fR, fF, fS, fP, fY, fT, fJ, fI), (-2)))
set_option maxHeartbeats 4000000 in
set_option maxRecDepth 100000 in
theorem k_M_count (l : Launch) (dC : Nat → ClassId) (dI : Nat → Nat → Nat) (k5 : Nat → ClassId) (b : Nat → Nat) (vT vn vr vo vl vb : Int32) (fN fK fW fL fM fE fR fF fS fP fY fT fJ fI : FF) (n r : Nat) (x : Int32) (hn : vn = nI n) (hn4 : 4 ≤ n) (hn8 : n ≤ 8) (er : vr = nI r) (hr2 : 12 ≤ r) (hr40 : r ≤ 40) : Met l y_M_count w_M_count ({ frames := 3, cells := 0, slots := 0, locals := 68 }) (kx_Pc (dC, dI) clA (tyL k5) (wMd b k5 vT vn vr vo vl vb fN fK fW fL fM fE fR fF fS fP fY fT fJ fI) [.ref (b 0), .int x]) (kx_Q (dC, dI) clA (wMd b k5 vT vn vr vo vl vb fN fK fW fL fM fE fR fF fS fP fY fT fJ fI) (wMS b k5 (m_count vT vn vr vo vl vb fN fK fW fL fM fE fR fF fS fP fY fT fJ fI n r x).1) (some (.int (m_count vT vn vr vo vl vb fN fK fW fL fM fE fR fF fS fP fY fT fJ fI n r x).2))) 0 0 (kx_A (wMd b k5 vT vn vr vo vl vb fN fK fW fL fM fE fR fF fS fP fY fT fJ fI)) := by
  refine Met.ofW (cc := c_M_count) (maxL := 4) (ret := (some .int)) (by decide) rfl ?_
  intro p e s m args below meth c s₁ B hml hv
  obtain ⟨rfl, hP, hK, hD0⟩ := hv
  have hx := B.exec
  have hb := B.bytes
  have hr := B.returns
  have hts : ∀ w ∈ wsA, w.before _ s = true := fun w h => atoms_spec (ws := w_M_count) B.pre w (List.mem_cons_of_mem _ h)
  have hown : s.vm.findClass R_M = some m.cls := findClass_of_methodNamed B.named
  have hlocks := B.notSynchronized
  have hD := kx_D.self hD0
  have hS : va_S (kx_A (wMd b k5 vT vn vr vo vl vb fN fK fW fL fM fE fR fF fS fP fY fT fJ fI)) s.heap s.heap [] := va_S.rf
  have hl := lv_entry ([.ref (b 0), .int x]) (n := 4) (Nat.le_of_ble_eq_true rfl)
  rw [lg_entry_eq]
  generalize (lg_sl ([.ref (b 0), .int x]) ++ List.replicate (4 - (lg_sl ([.ref (b 0), .int x])).length) Slot.unset).toArray = ls at hl ⊢
  have hl : lv_has ls 4 [(0, .ref (b 0)), (1, .int x)] := hl
  refine lv_aload_n hx hb d_M_count_0 rfl (lv_at hl 0 rfl) ?_
  refine lv_iconst (v := 0) hx hb d_M_count_1 (by decide) ?_
  refine kx_put (ws' := (wMd b k5 0 vn vr vo vl vb fN fK fW fL fM fE fR fF fS fP fY fT fJ fI)) (D := (dC, dI)) (ci := 3) (v := .int 0) (ty := .int) (C := R_M) (T := T_M) (N := 20) hx hb hts wu_M ty_M ok_M nm_M hown hK hP hD hS 0 rfl rfl 0 (by decide) (hts _ wf_M_58) (fun _ h9 => h9) rfl (by decide +kernel) rfl rfl (Nat.le_of_ble_eq_true rfl) rfl d_M_count_2 (fun H locs hP hD hS => ?_)
  refine lv_aload_n hx hb d_M_count_5 rfl (lv_at hl 0 rfl) ?_
  refine va_get (D := (dC, dI)) (ci := 3) (v := .int vo) (C := R_M) (T := T_M) (N := 20) hx hb hts wu_M hown hK hP 0 rfl rfl 3 (by decide) (hts _ wf_M_68) (fun _ h9 => h9) rfl d_M_count_6 ?_
  refine lv_if_eq (tgt := 15) hx hb d_M_count_9 (by decide) (fun hc_1 => ?_) (fun hc_1 => ?_)
  · refine lv_iconst (v := 0) hx hb d_M_count_15 (by decide) ?_
    refine lv_istore_n (lv' := [(2, .int 0), (0, .ref (b 0)), (1, .int x)]) hx hb d_M_count_16 rfl hl (by decide) rfl (fun ls hl => ?_)
    refine lv_iconst (v := 0) hx hb d_M_count_17 (by decide) ?_
    refine lv_istore_n (lv' := [(3, .int 0), (2, .int 0), (0, .ref (b 0)), (1, .int x)]) hx hb d_M_count_18 rfl hl (by decide) rfl (fun ls hl => ?_)
    have lp19 : ∀ (q9 i : Nat) (ls : Array Slot), i + q9 = n → lv_has ls 4 [(3, .int (nI i)), (2, .int (nI (cnt (fun d => decide (fL d = 0 ∧ ¬ vr ≤ fM d)) i))), (0, .ref (b 0)), (1, .int x)] → W p l e (headSpec w_M_count ({ frames := 3, cells := 0, slots := 0, locals := 68 })).room s m ([.ref (b 0), .int x] : List Value).toArray below meth c H locs 0 0 (MQ below (kx_Q (dC, dI) clA (wMd b k5 vT vn vr vo vl vb fN fK fW fL fM fE fR fF fS fP fY fT fJ fI) (wMS b k5 (m_count vT vn vr vo vl vb fN fK fW fL fM fE fR fF fS fP fY fT fJ fI n r x).1) (some (.int (m_count vT vn vr vo vl vb fN fK fW fL fM fE fR fF fS fP fY fT fJ fI n r x).2))) ([.ref (b 0), .int x] : List Value).toArray s 0 0 (kx_A (wMd b k5 vT vn vr vo vl vb fN fK fW fL fM fE fR fF fS fP fY fT fJ fI))) (F0 m 19 ls []) := by
      intro q9
      induction q9 with
      | zero =>
        intro i ls hi hl
        have hi : n = i := by omega
        subst hi
        refine lv_iload_n hx hb d_M_count_19 rfl (lv_at hl 0 rfl) ?_
        refine lv_aload_n hx hb d_M_count_20 rfl (lv_at hl 2 rfl) ?_
        refine va_get (D := (dC, dI)) (ci := 3) (v := .int vn) (C := R_M) (T := T_M) (N := 20) hx hb hts wu_M hown hK hP 0 rfl rfl 1 (by decide) (hts _ wf_M_62) (fun _ h9 => h9) rfl d_M_count_21 ?_
        refine lv_icmp_ge (tgt := 49) hx hb d_M_count_24 (by decide) (fun hc => ?_) (fun hc => ?_)
        · refine lv_iload_n hx hb d_M_count_49 rfl (lv_at hl 3 rfl) ?_
          refine lv_if_ne (tgt := 60) hx hb d_M_count_50 (by decide) (fun hc_2 => ?_) (fun hc_2 => ?_)
          · refine lv_iload_n hx hb d_M_count_60 rfl (lv_at hl 3 rfl) ?_
            refine lv_iconst (v := 1) hx hb d_M_count_61 (by decide) ?_
            refine lv_icmp_ne (tgt := 72) hx hb d_M_count_62 (by decide) (fun hc_3 => ?_) (fun hc_3 => ?_)
            · refine lv_iload_n hx hb d_M_count_72 rfl (lv_at hl 3 rfl) ?_
              refine lv_iconst (v := 2) hx hb d_M_count_73 (by decide) ?_
              refine lv_icmp_ne (tgt := 84) hx hb d_M_count_74 (by decide) (fun hc_4 => ?_) (fun hc_4 => ?_)
              · refine lv_iload_n hx hb d_M_count_84 rfl (lv_at hl 3 rfl) ?_
                refine lv_iconst (v := 3) hx hb d_M_count_85 (by decide) ?_
                refine lv_icmp_ne (tgt := 96) hx hb d_M_count_86 (by decide) (fun hc_5 => ?_) (fun hc_5 => ?_)
                · refine lv_iload_n hx hb d_M_count_96 rfl (lv_at hl 3 rfl) ?_
                  refine lv_iconst (v := 4) hx hb d_M_count_97 (by decide) ?_
                  refine lv_icmp_ne (tgt := 105) hx hb d_M_count_98 (by decide) (fun hc_6 => ?_) (fun hc_6 => ?_)
                  · refine lv_iconst (v := (-1)) hx hb d_M_count_105 (by decide) ?_
                    have e : m_count vT vn vr vo vl vb fN fK fW fL fM fE fR fF fS fP fY fT fJ fI n r x = ((0, vn, vr, vo, vl, vb, fN, fK, fW, fL, fM, fE, fR, fF, fS, fP, fY, fT, fJ, fI), (-1)) := by unfold m_count; rw [if_pos hc_1, if_neg hc_2, if_neg hc_3, if_neg hc_4, if_neg hc_5, if_neg hc_6]
                    exact W.iret (v := (-1)) hx hb hr (fun t ht hW => kx_Qi (by rw [e]) ht hP (by rw [e]) hS rfl) hS.2.2 d_M_count_106
                  · refine lv_iload_n hx hb d_M_count_101 rfl (lv_at hl 1 rfl) ?_
                    refine lv_goto (tgt := 106) hx hb d_M_count_102 (by decide) ?_
                    have e : m_count vT vn vr vo vl vb fN fK fW fL fM fE fR fF fS fP fY fT fJ fI n r x = ((0, vn, vr, vo, vl, vb, fN, fK, fW, fL, fM, fE, fR, fF, fS, fP, fY, fT, fJ, fI), (nI (cnt (fun d => decide (fL d = 0 ∧ ¬ vr ≤ fM d)) n))) := by unfold m_count; rw [if_pos hc_1, if_neg hc_2, if_neg hc_3, if_neg hc_4, if_neg hc_5, if_pos hc_6]
                    exact W.iret (v := (nI (cnt (fun d => decide (fL d = 0 ∧ ¬ vr ≤ fM d)) n))) hx hb hr (fun t ht hW => kx_Qi (by rw [e]) ht hP (by rw [e]) hS rfl) hS.2.2 d_M_count_106
                · refine lv_aload_n hx hb d_M_count_89 rfl (lv_at hl 2 rfl) ?_
                  refine kx_VRW (As := []) (rest := []) ⟨hx, hb, hml, hown, hts⟩ (k_M_manyLost l dC dI k5 b 0 vn vr vo vl vb fN fK fW fL fM fE fR fF fS fP fY fT fJ fI n hn hn4 hn8) (cwV 0 hts (goodV wm_M_148 wn_M_manyLost ws_M_manyLost wi_M wc_M_manyLost) rfl rfl rfl (by decide +kernel) ⟨Nat.le_of_ble_eq_true rfl, Nat.le_of_ble_eq_true rfl⟩) ⟨Nat.zero_le _, Nat.zero_le _⟩ hK hP hD 0 rfl rfl rfl hl.1 rfl (Nat.le_of_ble_eq_true rfl) d_M_count_90 ?_
                  refine W.eq (g2 := F0 m 93 ls [.int (nI (cnt (fun d => nz (fL d)) n))]) rfl ?_
                  refine lv_goto (tgt := 106) hx hb d_M_count_93 (by decide) ?_
                  have e : m_count vT vn vr vo vl vb fN fK fW fL fM fE fR fF fS fP fY fT fJ fI n r x = ((0, vn, vr, vo, vl, vb, fN, fK, fW, fL, fM, fE, fR, fF, fS, fP, fY, fT, fJ, fI), (nI (cnt (fun d => nz (fL d)) n))) := by unfold m_count; rw [if_pos hc_1, if_neg hc_2, if_neg hc_3, if_neg hc_4, if_pos hc_5]
                  exact W.iret (v := (nI (cnt (fun d => nz (fL d)) n))) hx hb hr (fun t ht hW => kx_Qi (by rw [e]) ht hP (by rw [e]) hS rfl) hS.2.2 d_M_count_106
              · refine lv_aload_n hx hb d_M_count_77 rfl (lv_at hl 2 rfl) ?_
                refine kx_VRW (As := []) (rest := []) ⟨hx, hb, hml, hown, hts⟩ (k_M_many l dC dI k5 b 0 vn vr vo vl vb fN fK fW fL fM fE fR fF fS fP fY fT fJ fI n hn hn4 hn8 r er hr2 hr40) (cwV 0 hts (goodV wm_M_124 wn_M_many ws_M_many wi_M wc_M_many) rfl rfl rfl (by decide +kernel) ⟨Nat.le_of_ble_eq_true rfl, Nat.le_of_ble_eq_true rfl⟩) ⟨Nat.zero_le _, Nat.zero_le _⟩ hK hP hD 0 rfl rfl rfl hl.1 rfl (Nat.le_of_ble_eq_true rfl) d_M_count_78 ?_
                refine W.eq (g2 := F0 m 81 ls [.int (nI (cnt (fun q => nz (fW q)) ((n - 2) * (r - 6))))]) rfl ?_
                refine lv_goto (tgt := 106) hx hb d_M_count_81 (by decide) ?_
                have e : m_count vT vn vr vo vl vb fN fK fW fL fM fE fR fF fS fP fY fT fJ fI n r x = ((0, vn, vr, vo, vl, vb, fN, fK, fW, fL, fM, fE, fR, fF, fS, fP, fY, fT, fJ, fI), (nI (cnt (fun q => nz (fW q)) ((n - 2) * (r - 6))))) := by unfold m_count; rw [if_pos hc_1, if_neg hc_2, if_neg hc_3, if_pos hc_4]
                exact W.iret (v := (nI (cnt (fun q => nz (fW q)) ((n - 2) * (r - 6))))) hx hb hr (fun t ht hW => kx_Qi (by rw [e]) ht hP (by rw [e]) hS rfl) hS.2.2 d_M_count_106
            · refine lv_aload_n hx hb d_M_count_65 rfl (lv_at hl 2 rfl) ?_
              refine kx_VRW (As := []) (rest := []) ⟨hx, hb, hml, hown, hts⟩ (k_M_use l dC dI k5 b 0 vn vr vo vl vb fN fK fW fL fM fE fR fF fS fP fY fT fJ fI n hn hn4 hn8 r er hr2 hr40) (cwV 0 hts (goodV wm_M_134 wn_M_use ws_M_use wi_M wc_M_use) rfl rfl rfl (by decide +kernel) ⟨Nat.le_of_ble_eq_true rfl, Nat.le_of_ble_eq_true rfl⟩) ⟨Nat.zero_le _, Nat.zero_le _⟩ hK hP hD 0 rfl rfl rfl hl.1 rfl (Nat.le_of_ble_eq_true rfl) d_M_count_66 ?_
              refine W.eq (g2 := F0 m 69 ls [.int (mUse fW n r)]) rfl ?_
              refine lv_goto (tgt := 106) hx hb d_M_count_69 (by decide) ?_
              have e : m_count vT vn vr vo vl vb fN fK fW fL fM fE fR fF fS fP fY fT fJ fI n r x = ((0, vn, vr, vo, vl, vb, fN, fK, fW, fL, fM, fE, fR, fF, fS, fP, fY, fT, fJ, fI), (mUse fW n r)) := by unfold m_count; rw [if_pos hc_1, if_neg hc_2, if_pos hc_3]
              exact W.iret (v := (mUse fW n r)) hx hb hr (fun t ht hW => kx_Qi (by rw [e]) ht hP (by rw [e]) hS rfl) hS.2.2 d_M_count_106
          · refine lv_aload_n hx hb d_M_count_53 rfl (lv_at hl 2 rfl) ?_
            refine kx_VRW (As := []) (rest := []) ⟨hx, hb, hml, hown, hts⟩ (k_M_blocks l dC dI k5 b 0 vn vr vo vl vb fN fK fW fL fM fE fR fF fS fP fY fT fJ fI ) (cwV 0 hts (goodV wm_M_86 wn_M_blocks ws_M_blocks wi_M wc_M_blocks) rfl rfl rfl (by decide +kernel) ⟨Nat.le_of_ble_eq_true rfl, Nat.le_of_ble_eq_true rfl⟩) ⟨Nat.zero_le _, Nat.zero_le _⟩ hK hP hD 0 rfl rfl rfl hl.1 rfl (Nat.le_of_ble_eq_true rfl) d_M_count_54 ?_
            refine W.eq (g2 := F0 m 57 ls [.int ((vn - 2) * (vr - 6))]) rfl ?_
            refine lv_goto (tgt := 106) hx hb d_M_count_57 (by decide) ?_
            have e : m_count vT vn vr vo vl vb fN fK fW fL fM fE fR fF fS fP fY fT fJ fI n r x = ((0, vn, vr, vo, vl, vb, fN, fK, fW, fL, fM, fE, fR, fF, fS, fP, fY, fT, fJ, fI), ((vn - 2) * (vr - 6))) := by unfold m_count; rw [if_pos hc_1, if_pos hc_2]
            exact W.iret (v := ((vn - 2) * (vr - 6))) hx hb hr (fun t ht hW => kx_Qi (by rw [e]) ht hP (by rw [e]) hS rfl) hS.2.2 d_M_count_106
        · exact absurd (by rw [hn]; exact nI_le (by omega) (by omega)) hc
      | succ q9 ih =>
        intro i ls hi hl
        refine lv_iload_n hx hb d_M_count_19 rfl (lv_at hl 0 rfl) ?_
        refine lv_aload_n hx hb d_M_count_20 rfl (lv_at hl 2 rfl) ?_
        refine va_get (D := (dC, dI)) (ci := 3) (v := .int vn) (C := R_M) (T := T_M) (N := 20) hx hb hts wu_M hown hK hP 0 rfl rfl 1 (by decide) (hts _ wf_M_62) (fun _ h9 => h9) rfl d_M_count_21 ?_
        refine lv_icmp_ge (tgt := 49) hx hb d_M_count_24 (by decide) (fun hc => ?_) (fun hc => ?_)
        · exact absurd hc (by rw [hn]; exact nI_ge (by omega) (by omega))
        · refine lv_iload_n hx hb d_M_count_27 rfl (lv_at hl 1 rfl) ?_
          refine lv_aload_n hx hb d_M_count_28 rfl (lv_at hl 2 rfl) ?_
          refine lv_iload_n hx hb d_M_count_29 rfl (lv_at hl 0 rfl) ?_
          refine kx_VRW (As := [.int (nI i)]) (rest := [.int (nI (cnt (fun d => decide (fL d = 0 ∧ ¬ vr ≤ fM d)) i))]) ⟨hx, hb, hml, hown, hts⟩ (k_M_isBlank l dC dI k5 b 0 vn vr vo vl vb fN fK fW fL fM fE fR fF fS fP fY fT fJ fI i (by omega)) (cwV 1 hts (goodV wm_M_151 wn_M_isBlank ws_M_isBlank wi_M wc_M_isBlank) rfl rfl rfl (by decide +kernel) ⟨Nat.le_of_ble_eq_true rfl, Nat.le_of_ble_eq_true rfl⟩) ⟨Nat.zero_le _, Nat.zero_le _⟩ hK hP hD 0 rfl rfl rfl hl.1 rfl (Nat.le_of_ble_eq_true rfl) d_M_count_30 ?_
          refine W.eq (g2 := F0 m 33 ls [.int (bI (decide (fL i = 0 ∧ ¬ vr ≤ fM i))), .int (nI (cnt (fun d => decide (fL d = 0 ∧ ¬ vr ≤ fM d)) i))]) rfl ?_
          refine lv_if_eq (tgt := 40) hx hb d_M_count_33 (by decide) (fun hd => ?_) (fun hd => ?_)
          · refine lv_iconst (v := 0) hx hb d_M_count_40 (by decide) ?_
            refine lv_iadd hx hb d_M_count_41 ?_
            refine lv_istore_n (lv' := [(2, .int ((nI (cnt (fun d => decide (fL d = 0 ∧ ¬ vr ≤ fM d)) i)) + 0)), (3, .int (nI i)), (0, .ref (b 0)), (1, .int x)]) hx hb d_M_count_42 rfl hl (by decide) rfl (fun ls hl => ?_)
            refine lv_iinc (v := nI (i + 1)) (lv' := [(3, .int (nI (i + 1))), (2, .int ((nI (cnt (fun d => decide (fL d = 0 ∧ ¬ vr ≤ fM d)) i)) + 0)), (0, .ref (b 0)), (1, .int x)]) hx hb d_M_count_43 hl (k := 1) rfl (nI_1 i) (by decide) rfl (fun ls hl => ?_)
            refine lv_goto (tgt := 19) hx hb d_M_count_46 (by decide) ?_
            exact ih (i + 1) ls (by omega) (by rw [cnt_f2 (p := fun d => decide (fL d = 0 ∧ ¬ vr ≤ fM d)) (n := i) (bI_f hd)]; exact (lv_sub hl [0, 1, 2, 3] rfl))
          · refine lv_iconst (v := 1) hx hb d_M_count_36 (by decide) ?_
            refine lv_goto (tgt := 41) hx hb d_M_count_37 (by decide) ?_
            refine lv_iadd hx hb d_M_count_41 ?_
            refine lv_istore_n (lv' := [(2, .int ((nI (cnt (fun d => decide (fL d = 0 ∧ ¬ vr ≤ fM d)) i)) + 1)), (3, .int (nI i)), (0, .ref (b 0)), (1, .int x)]) hx hb d_M_count_42 rfl hl (by decide) rfl (fun ls hl => ?_)
            refine lv_iinc (v := nI (i + 1)) (lv' := [(3, .int (nI (i + 1))), (2, .int ((nI (cnt (fun d => decide (fL d = 0 ∧ ¬ vr ≤ fM d)) i)) + 1)), (0, .ref (b 0)), (1, .int x)]) hx hb d_M_count_43 hl (k := 1) rfl (nI_1 i) (by decide) rfl (fun ls hl => ?_)
            refine lv_goto (tgt := 19) hx hb d_M_count_46 (by decide) ?_
            exact ih (i + 1) ls (by omega) (by rw [cnt_t2 (p := fun d => decide (fL d = 0 ∧ ¬ vr ≤ fM d)) (n := i) (bI_t hd)]; exact (lv_sub hl [0, 1, 2, 3] rfl))
    exact lp19 n 0 ls (by omega) (lv_sub hl [0, 1, 2, 3] rfl)
  · refine lv_bipush (v := (-2)) hx hb d_M_count_12 (by decide) ?_
    have e : m_count vT vn vr vo vl vb fN fK fW fL fM fE fR fF fS fP fY fT fJ fI n r x = ((0, vn, vr, vo, vl, vb, fN, fK, fW, fL, fM, fE, fR, fF, fS, fP, fY, fT, fJ, fI), (-2)) := by unfold m_count; rw [if_neg hc_1]
    exact W.iret (v := (-2)) hx hb hr (fun t ht hW => kx_Qi (by rw [e]) ht hP (by rw [e]) hS rfl) hS.2.2 d_M_count_14
