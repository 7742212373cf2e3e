set_option maxHeartbeats 4000000 in
set_option maxRecDepth 100000 in
theorem k_J_fillI (l : Launch) (dC : Nat → ClassId) (dI : Nat → Nat → Nat) (k5 : Nat → ClassId) (h0 n : Nat) (hn : n < 1000000) (f : Nat → Int32) (v : Int32) : Met l y_J_fillI w_J_fillI ({ frames := 0, cells := 0, slots := 0, locals := 0 }) (kx_Pc (dC, dI) clA (tyL k5) ([(h0, .inl ((k5 0), n, .inl f))]) [.ref h0, .int v]) (kx_Q (dC, dI) clA ([(h0, .inl ((k5 0), n, .inl f))]) ([(h0, .inl ((k5 0), n, .inl (fill0 f v n)))]) none) 0 0 (kx_A ([(h0, .inl ((k5 0), n, .inl f))])) := by
  refine Met.ofW (cc := c_J_fillI) (maxL := 4) (ret := none) (by decide) rfl ?_
  intro p e s m args below meth c s₁ B hml hv
  obtain ⟨rfl, hP, hK, hD0⟩ := hv
  have hx := B.exec
  have hb := B.bytes
  have hr := B.returns
  have hts : ∀ w ∈ wsA, w.before _ s = true := fun w h => atoms_spec (ws := w_J_fillI) B.pre w (List.mem_cons_of_mem _ h)
  have hown : s.vm.findClass R_J = some m.cls := findClass_of_methodNamed B.named
  have hlocks := B.notSynchronized
  have hD := kx_D.self hD0
  have hS : va_S (kx_A ([(h0, .inl ((k5 0), n, .inl f))])) s.heap s.heap [] := va_S.rf
  have hl := lv_entry ([.ref h0, .int v]) (n := 4) (Nat.le_of_ble_eq_true rfl)
  rw [lg_entry_eq]
  generalize (lg_sl ([.ref h0, .int v]) ++ List.replicate (4 - (lg_sl ([.ref h0, .int v])).length) Slot.unset).toArray = ls at hl ⊢
  have hl : lv_has ls 4 [(0, .ref h0), (1, .int v)] := hl
  refine lv_iconst (v := 0) hx hb d_J_fillI_0 (by decide) ?_
  refine lv_istore_n (lv' := [(2, .int 0), (0, .ref h0), (1, .int v)]) hx hb d_J_fillI_1 rfl hl (by decide) rfl (fun ls hl => ?_)
  refine lv_aload_n hx hb d_J_fillI_2 rfl (lv_at hl 1 rfl) ?_
  refine va_alen (v := nI n) hx hb hK hP 0 0 rfl rfl rfl d_J_fillI_3 ?_
  refine lv_istore_n (lv' := [(3, .int (nI n)), (2, .int 0), (0, .ref h0), (1, .int v)]) hx hb d_J_fillI_4 rfl hl (by decide) rfl (fun ls hl => ?_)
  have lp : ∀ (q9 i : Nat) (H : Heap) (locs : List Loc) (ls : Array Slot), i + q9 = n → va_P (dC, dI) clA [(h0, .inl ((k5 0), n, .inl (fill0 f v i)))] H → va_D (kx_A ([(h0, .inl ((k5 0), n, .inl f))])) [(h0, .inl ((k5 0), n, .inl (fill0 f v i)))] → va_S (kx_A ([(h0, .inl ((k5 0), n, .inl f))])) s.heap H locs → lv_has ls 4 [(3, .int (nI n)), (2, .int (nI i)), (0, .ref h0), (1, .int v)] → W p l e (headSpec w_J_fillI ({ frames := 0, cells := 0, slots := 0, locals := 0 })).room s m ([.ref h0, .int v] : List Value).toArray below meth c H locs 0 0 (MQ below (kx_Q (dC, dI) clA ([(h0, .inl ((k5 0), n, .inl f))]) ([(h0, .inl ((k5 0), n, .inl (fill0 f v n)))]) none) ([.ref h0, .int v] : List Value).toArray s 0 0 (kx_A ([(h0, .inl ((k5 0), n, .inl f))]))) (F0 m 5 ls []) := by
    intro q9
    induction q9 with
    | zero =>
      intro i H locs ls hi hP hD hS hl
      have hi : n = i := by omega
      subst hi
      refine lv_iload_n hx hb d_J_fillI_5 rfl (lv_at hl 1 rfl) ?_
      refine lv_iload_n hx hb d_J_fillI_6 rfl (lv_at hl 0 rfl) ?_
      refine lv_icmp_ge (tgt := 20) hx hb d_J_fillI_7 (by decide) (fun hc => ?_) (fun hc => ?_)
      · exact W.vret hx hb hr (fun t ht hW => kx_Qv ht hP (rfl) hS rfl) hS.2.2 d_J_fillI_20
      · exact absurd (by exact nI_le (by omega) (by omega)) hc
    | succ q9 ih =>
      intro i H locs ls hi hP hD hS hl
      refine lv_iload_n hx hb d_J_fillI_5 rfl (lv_at hl 1 rfl) ?_
      refine lv_iload_n hx hb d_J_fillI_6 rfl (lv_at hl 0 rfl) ?_
      refine lv_icmp_ge (tgt := 20) hx hb d_J_fillI_7 (by decide) (fun hc => ?_) (fun hc => ?_)
      · exact absurd hc (by exact nI_ge (by omega) (by omega))
      · refine lv_aload_n hx hb d_J_fillI_10 rfl (lv_at hl 2 rfl) ?_
        refine lv_iload_n hx hb d_J_fillI_11 rfl (lv_at hl 1 rfl) ?_
        refine lv_iload_n hx hb d_J_fillI_12 rfl (lv_at hl 3 rfl) ?_
        refine kx_iast (ws' := [(h0, .inl ((k5 0), n, .inl (fill0 f v (i + 1))))]) hx hb hK hP hD hS 0 0 rfl rfl i (rfl) (by omega) (by omega) rfl d_J_fillI_13 (fun H locs hP hD hS => ?_)
        refine lv_iinc (v := nI (i + 1)) (lv' := [(2, .int (nI (i + 1))), (3, .int (nI n)), (0, .ref h0), (1, .int v)]) hx hb d_J_fillI_14 hl (k := 1) rfl (nI_1 i) (by decide) rfl (fun ls hl => ?_)
        refine lv_goto (tgt := 5) hx hb d_J_fillI_17 (by decide) ?_
        exact ih (i + 1) H locs ls (by omega) hP hD hS (lv_sub hl [1, 0, 2, 3] rfl)
  exact lp n 0 s.heap [] ls (by omega) hP hD hS (lv_sub hl [0, 1, 2, 3] rfl)
set_option maxHeartbeats 4000000 in
set_option maxRecDepth 100000 in
theorem k_J_fillJ (l : Launch) (dC : Nat → ClassId) (dI : Nat → Nat → Nat) (k5 : Nat → ClassId) (h0 n : Nat) (hn : n < 1000000) (f : Nat → Int64) (v : Int64) : Met l y_J_fillJ w_J_fillJ ({ frames := 0, cells := 0, slots := 0, locals := 0 }) (kx_Pc (dC, dI) clA (tyL k5) ([(h0, .inl ((k5 1), n, .inr (.inl f)))]) [.ref h0, .long v]) (kx_Q (dC, dI) clA ([(h0, .inl ((k5 1), n, .inr (.inl f)))]) ([(h0, .inl ((k5 1), n, .inr (.inl (fillL f v n))))]) none) 0 0 (kx_A ([(h0, .inl ((k5 1), n, .inr (.inl f)))])) := by
  refine Met.ofW (cc := c_J_fillJ) (maxL := 5) (ret := none) (by decide) rfl ?_
  intro p e s m args below meth c s₁ B hml hv
  obtain ⟨rfl, hP, hK, hD0⟩ := hv
  have hx := B.exec
  have hb := B.bytes
  have hr := B.returns
  have hts : ∀ w ∈ wsA, w.before _ s = true := fun w h => atoms_spec (ws := w_J_fillJ) B.pre w (List.mem_cons_of_mem _ h)
  have hown : s.vm.findClass R_J = some m.cls := findClass_of_methodNamed B.named
  have hlocks := B.notSynchronized
  have hD := kx_D.self hD0
  have hS : va_S (kx_A ([(h0, .inl ((k5 1), n, .inr (.inl f)))])) s.heap s.heap [] := va_S.rf
  have hl := lv_entry ([.ref h0, .long v]) (n := 5) (Nat.le_of_ble_eq_true rfl)
  rw [lg_entry_eq]
  generalize (lg_sl ([.ref h0, .long v]) ++ List.replicate (5 - (lg_sl ([.ref h0, .long v])).length) Slot.unset).toArray = ls at hl ⊢
  have hl : lv_has ls 5 [(0, .ref h0), (1, .long v)] := hl
  refine lv_iconst (v := 0) hx hb d_J_fillJ_0 (by decide) ?_
  refine lv_istore_n (lv' := [(3, .int 0), (0, .ref h0), (1, .long v)]) hx hb d_J_fillJ_1 rfl hl (by decide) rfl (fun ls hl => ?_)
  refine lv_aload_n hx hb d_J_fillJ_2 rfl (lv_at hl 1 rfl) ?_
  refine va_alen (v := nI n) hx hb hK hP 0 1 rfl rfl rfl d_J_fillJ_3 ?_
  refine lv_istore (lv' := [(4, .int (nI n)), (3, .int 0), (0, .ref h0), (1, .long v)]) hx hb d_J_fillJ_4 hl (by decide) rfl (fun ls hl => ?_)
  have lp : ∀ (q9 i : Nat) (H : Heap) (locs : List Loc) (ls : Array Slot), i + q9 = n → va_P (dC, dI) clA [(h0, .inl ((k5 1), n, .inr (.inl (fillL f v i))))] H → va_D (kx_A ([(h0, .inl ((k5 1), n, .inr (.inl f)))])) [(h0, .inl ((k5 1), n, .inr (.inl (fillL f v i))))] → va_S (kx_A ([(h0, .inl ((k5 1), n, .inr (.inl f)))])) s.heap H locs → lv_has ls 5 [(4, .int (nI n)), (3, .int (nI i)), (0, .ref h0), (1, .long v)] → W p l e (headSpec w_J_fillJ ({ frames := 0, cells := 0, slots := 0, locals := 0 })).room s m ([.ref h0, .long v] : List Value).toArray below meth c H locs 0 0 (MQ below (kx_Q (dC, dI) clA ([(h0, .inl ((k5 1), n, .inr (.inl f)))]) ([(h0, .inl ((k5 1), n, .inr (.inl (fillL f v n))))]) none) ([.ref h0, .long v] : List Value).toArray s 0 0 (kx_A ([(h0, .inl ((k5 1), n, .inr (.inl f)))]))) (F0 m 6 ls []) := by
    intro q9
    induction q9 with
    | zero =>
      intro i H locs ls hi hP hD hS hl
      have hi : n = i := by omega
      subst hi
      refine lv_iload_n hx hb d_J_fillJ_6 rfl (lv_at hl 1 rfl) ?_
      refine lv_iload hx hb d_J_fillJ_7 (lv_at hl 0 rfl) ?_
      refine lv_icmp_ge (tgt := 22) hx hb d_J_fillJ_9 (by decide) (fun hc => ?_) (fun hc => ?_)
      · exact W.vret hx hb hr (fun t ht hW => kx_Qv ht hP (rfl) hS rfl) hS.2.2 d_J_fillJ_22
      · exact absurd (by exact nI_le (by omega) (by omega)) hc
    | succ q9 ih =>
      intro i H locs ls hi hP hD hS hl
      refine lv_iload_n hx hb d_J_fillJ_6 rfl (lv_at hl 1 rfl) ?_
      refine lv_iload hx hb d_J_fillJ_7 (lv_at hl 0 rfl) ?_
      refine lv_icmp_ge (tgt := 22) hx hb d_J_fillJ_9 (by decide) (fun hc => ?_) (fun hc => ?_)
      · exact absurd hc (by exact nI_ge (by omega) (by omega))
      · refine lv_aload_n hx hb d_J_fillJ_12 rfl (lv_at hl 2 rfl) ?_
        refine lv_iload_n hx hb d_J_fillJ_13 rfl (lv_at hl 1 rfl) ?_
        refine lv_lload_n hx hb d_J_fillJ_14 rfl (lv_at hl 3 rfl) ?_
        refine kx_last (ws' := [(h0, .inl ((k5 1), n, .inr (.inl (fillL f v (i + 1)))))]) hx hb hK hP hD hS 0 1 rfl rfl i (rfl) (by omega) (by omega) rfl d_J_fillJ_15 (fun H locs hP hD hS => ?_)
        refine lv_iinc (v := nI (i + 1)) (lv' := [(3, .int (nI (i + 1))), (4, .int (nI n)), (0, .ref h0), (1, .long v)]) hx hb d_J_fillJ_16 hl (k := 1) rfl (nI_1 i) (by decide) rfl (fun ls hl => ?_)
        refine lv_goto (tgt := 6) hx hb d_J_fillJ_19 (by decide) ?_
        exact ih (i + 1) H locs ls (by omega) hP hD hS (lv_sub hl [1, 0, 2, 3] rfl)
  exact lp n 0 s.heap [] ls (by omega) hP hD hS (lv_sub hl [0, 1, 2, 3] rfl)
set_option maxHeartbeats 4000000 in
set_option maxRecDepth 100000 in
theorem k_J_fillB (l : Launch) (dC : Nat → ClassId) (dI : Nat → Nat → Nat) (k5 : Nat → ClassId) (h0 n : Nat) (hn : n < 1000000) (f : Nat → Int32) (v : Int32) : Met l y_J_fillB w_J_fillB ({ frames := 0, cells := 0, slots := 0, locals := 0 }) (kx_Pc (dC, dI) clA (tyL k5) ([(h0, .inl ((k5 2), n, .inl f))]) [.ref h0, .int v]) (kx_Q (dC, dI) clA ([(h0, .inl ((k5 2), n, .inl f))]) ([(h0, .inl ((k5 2), n, .inl (fill0 f (vp_nar .byte v) n)))]) none) 0 0 (kx_A ([(h0, .inl ((k5 2), n, .inl f))])) := by
  refine Met.ofW (cc := c_J_fillB) (maxL := 4) (ret := none) (by decide) rfl ?_
  intro p e s m args below meth c s₁ B hml hv
  obtain ⟨rfl, hP, hK, hD0⟩ := hv
  have hx := B.exec
  have hb := B.bytes
  have hr := B.returns
  have hts : ∀ w ∈ wsA, w.before _ s = true := fun w h => atoms_spec (ws := w_J_fillB) B.pre w (List.mem_cons_of_mem _ h)
  have hown : s.vm.findClass R_J = some m.cls := findClass_of_methodNamed B.named
  have hlocks := B.notSynchronized
  have hD := kx_D.self hD0
  have hS : va_S (kx_A ([(h0, .inl ((k5 2), n, .inl f))])) s.heap s.heap [] := va_S.rf
  have hl := lv_entry ([.ref h0, .int v]) (n := 4) (Nat.le_of_ble_eq_true rfl)
  rw [lg_entry_eq]
  generalize (lg_sl ([.ref h0, .int v]) ++ List.replicate (4 - (lg_sl ([.ref h0, .int v])).length) Slot.unset).toArray = ls at hl ⊢
  have hl : lv_has ls 4 [(0, .ref h0), (1, .int v)] := hl
  refine lv_iconst (v := 0) hx hb d_J_fillB_0 (by decide) ?_
  refine lv_istore_n (lv' := [(2, .int 0), (0, .ref h0), (1, .int v)]) hx hb d_J_fillB_1 rfl hl (by decide) rfl (fun ls hl => ?_)
  refine lv_aload_n hx hb d_J_fillB_2 rfl (lv_at hl 1 rfl) ?_
  refine va_alen (v := nI n) hx hb hK hP 0 2 rfl rfl rfl d_J_fillB_3 ?_
  refine lv_istore_n (lv' := [(3, .int (nI n)), (2, .int 0), (0, .ref h0), (1, .int v)]) hx hb d_J_fillB_4 rfl hl (by decide) rfl (fun ls hl => ?_)
  have lp : ∀ (q9 i : Nat) (H : Heap) (locs : List Loc) (ls : Array Slot), i + q9 = n → va_P (dC, dI) clA [(h0, .inl ((k5 2), n, .inl (fill0 f (vp_nar .byte v) i)))] H → va_D (kx_A ([(h0, .inl ((k5 2), n, .inl f))])) [(h0, .inl ((k5 2), n, .inl (fill0 f (vp_nar .byte v) i)))] → va_S (kx_A ([(h0, .inl ((k5 2), n, .inl f))])) s.heap H locs → lv_has ls 4 [(3, .int (nI n)), (2, .int (nI i)), (0, .ref h0), (1, .int v)] → W p l e (headSpec w_J_fillB ({ frames := 0, cells := 0, slots := 0, locals := 0 })).room s m ([.ref h0, .int v] : List Value).toArray below meth c H locs 0 0 (MQ below (kx_Q (dC, dI) clA ([(h0, .inl ((k5 2), n, .inl f))]) ([(h0, .inl ((k5 2), n, .inl (fill0 f (vp_nar .byte v) n)))]) none) ([.ref h0, .int v] : List Value).toArray s 0 0 (kx_A ([(h0, .inl ((k5 2), n, .inl f))]))) (F0 m 5 ls []) := by
    intro q9
    induction q9 with
    | zero =>
      intro i H locs ls hi hP hD hS hl
      have hi : n = i := by omega
      subst hi
      refine lv_iload_n hx hb d_J_fillB_5 rfl (lv_at hl 1 rfl) ?_
      refine lv_iload_n hx hb d_J_fillB_6 rfl (lv_at hl 0 rfl) ?_
      refine lv_icmp_ge (tgt := 20) hx hb d_J_fillB_7 (by decide) (fun hc => ?_) (fun hc => ?_)
      · exact W.vret hx hb hr (fun t ht hW => kx_Qv ht hP (rfl) hS rfl) hS.2.2 d_J_fillB_20
      · exact absurd (by exact nI_le (by omega) (by omega)) hc
    | succ q9 ih =>
      intro i H locs ls hi hP hD hS hl
      refine lv_iload_n hx hb d_J_fillB_5 rfl (lv_at hl 1 rfl) ?_
      refine lv_iload_n hx hb d_J_fillB_6 rfl (lv_at hl 0 rfl) ?_
      refine lv_icmp_ge (tgt := 20) hx hb d_J_fillB_7 (by decide) (fun hc => ?_) (fun hc => ?_)
      · exact absurd hc (by exact nI_ge (by omega) (by omega))
      · refine lv_aload_n hx hb d_J_fillB_10 rfl (lv_at hl 2 rfl) ?_
        refine lv_iload_n hx hb d_J_fillB_11 rfl (lv_at hl 1 rfl) ?_
        refine lv_iload_n hx hb d_J_fillB_12 rfl (lv_at hl 3 rfl) ?_
        refine kx_bast (ws' := [(h0, .inl ((k5 2), n, .inl (fill0 f (vp_nar .byte v) (i + 1))))]) hx hb hK hP hD hS 0 2 rfl rfl i (rfl) (by omega) (by omega) rfl d_J_fillB_13 (fun H locs hP hD hS => ?_)
        refine lv_iinc (v := nI (i + 1)) (lv' := [(2, .int (nI (i + 1))), (3, .int (nI n)), (0, .ref h0), (1, .int v)]) hx hb d_J_fillB_14 hl (k := 1) rfl (nI_1 i) (by decide) rfl (fun ls hl => ?_)
        refine lv_goto (tgt := 5) hx hb d_J_fillB_17 (by decide) ?_
        exact ih (i + 1) H locs ls (by omega) hP hD hS (lv_sub hl [1, 0, 2, 3] rfl)
  exact lp n 0 s.heap [] ls (by omega) hP hD hS (lv_sub hl [0, 1, 2, 3] rfl)
set_option maxHeartbeats 4000000 in
set_option maxRecDepth 100000 in
theorem k_J_rangeCheck (l : Launch) (dC : Nat → ClassId) (dI : Nat → Nat → Nat) (k5 : Nat → ClassId) (n a b : Nat) (hab : a ≤ b) (hbn : b ≤ n) (hn : n < 1000000) : Met l y_J_rangeCheck w_J_rangeCheck ({ frames := 0, cells := 0, slots := 0, locals := 0 }) (kx_Pc (dC, dI) clA (tyL k5) ([]) [.int (nI n), .int (nI a), .int (nI b)]) (kx_R none) 0 0 (fun _ => False) := by
  refine Met.ofW (cc := c_J_rangeCheck) (maxL := 3) (ret := none) (by decide) rfl ?_
  intro p e s m args below meth c s₁ B hml hv
  obtain ⟨rfl, hP, hK, hD0⟩ := hv
  have hx := B.exec
  have hb := B.bytes
  have hr := B.returns
  have hts : ∀ w ∈ wsA, w.before _ s = true := fun w h => atoms_spec (ws := w_J_rangeCheck) B.pre w (List.mem_cons_of_mem _ h)
  have hown : s.vm.findClass R_J = some m.cls := findClass_of_methodNamed B.named
  have hlocks := B.notSynchronized
  have hD := kx_D.self hD0
  have hS : va_S (kx_A ([])) s.heap s.heap [] := va_S.rf
  have hl := lv_entry ([.int (nI n), .int (nI a), .int (nI b)]) (n := 3) (Nat.le_of_ble_eq_true rfl)
  rw [lg_entry_eq]
  generalize (lg_sl ([.int (nI n), .int (nI a), .int (nI b)]) ++ List.replicate (3 - (lg_sl ([.int (nI n), .int (nI a), .int (nI b)])).length) Slot.unset).toArray = ls at hl ⊢
  have hl : lv_has ls 3 [(0, .int (nI n)), (1, .int (nI a)), (2, .int (nI b))] := hl
  refine lv_iload_n hx hb d_J_rangeCheck_0 rfl (lv_at hl 1 rfl) ?_
  refine lv_iload_n hx hb d_J_rangeCheck_1 rfl (lv_at hl 2 rfl) ?_
  refine lv_icmp_le (tgt := 46) hx hb d_J_rangeCheck_2 (by decide) (fun hc_1 => ?_) (fun hc_1 => ?_)
  · refine lv_iload_n hx hb d_J_rangeCheck_46 rfl (lv_at hl 1 rfl) ?_
    refine lv_if_ge (tgt := 59) hx hb d_J_rangeCheck_47 (by decide) (fun hc_2 => ?_) (fun hc_2 => ?_)
    · refine lv_iload_n hx hb d_J_rangeCheck_59 rfl (lv_at hl 2 rfl) ?_
      refine lv_iload_n hx hb d_J_rangeCheck_60 rfl (lv_at hl 0 rfl) ?_
      refine lv_icmp_le (tgt := 73) hx hb d_J_rangeCheck_61 (by decide) (fun hc_3 => ?_) (fun hc_3 => ?_)
      · exact W.vret hx hb hr (fun t ht hW => ⟨rfl, ht⟩) (fun _ h => absurd h List.not_mem_nil) d_J_rangeCheck_73
      · exact absurd (nI_le hbn (by omega)) hc_3
    · exact absurd (nI_pos' (by omega)) hc_2
  · exact absurd (nI_le hab (by omega)) hc_1
set_option maxHeartbeats 4000000 in
set_option maxRecDepth 100000 in
theorem k_J_fillR (l : Launch) (dC : Nat → ClassId) (dI : Nat → Nat → Nat) (k5 : Nat → ClassId) (h0 n a k : Nat) (hab : a + k ≤ n) (hn : n < 1000000) (f : Nat → Int32) (v : Int32) : Met l y_J_fillR w_J_fillR ({ frames := 1, cells := 0, slots := 0, locals := 22 }) (kx_Pc (dC, dI) clA (tyL k5) ([(h0, .inl ((k5 2), n, .inl f))]) [.ref h0, .int (nI a), .int (nI (a + k)), .int v]) (kx_Q (dC, dI) clA ([(h0, .inl ((k5 2), n, .inl f))]) ([(h0, .inl ((k5 2), n, .inl (fillF f (vp_nar .byte v) a k)))]) none) 0 0 (kx_A ([(h0, .inl ((k5 2), n, .inl f))])) := by
  refine Met.ofW (cc := c_J_fillR) (maxL := 5) (ret := none) (by decide) rfl ?_
  intro p e s m args below meth c s₁ B hml hv
  obtain ⟨rfl, hP, hK, hD0⟩ := hv
  have hx := B.exec
  have hb := B.bytes
  have hr := B.returns
  have hts : ∀ w ∈ wsA, w.before _ s = true := fun w h => atoms_spec (ws := w_J_fillR) B.pre w (List.mem_cons_of_mem _ h)
  have hown : s.vm.findClass R_J = some m.cls := findClass_of_methodNamed B.named
  have hlocks := B.notSynchronized
  have hD := kx_D.self hD0
  have hS : va_S (kx_A ([(h0, .inl ((k5 2), n, .inl f))])) s.heap s.heap [] := va_S.rf
  have hl := lv_entry ([.ref h0, .int (nI a), .int (nI (a + k)), .int v]) (n := 5) (Nat.le_of_ble_eq_true rfl)
  rw [lg_entry_eq]
  generalize (lg_sl ([.ref h0, .int (nI a), .int (nI (a + k)), .int v]) ++ List.replicate (5 - (lg_sl ([.ref h0, .int (nI a), .int (nI (a + k)), .int v])).length) Slot.unset).toArray = ls at hl ⊢
  have hl : lv_has ls 5 [(0, .ref h0), (1, .int (nI a)), (2, .int (nI (a + k))), (3, .int v)] := hl
  refine lv_aload_n hx hb d_J_fillR_0 rfl (lv_at hl 0 rfl) ?_
  refine va_alen (v := nI n) hx hb hK hP 0 2 rfl rfl rfl d_J_fillR_1 ?_
  refine lv_iload_n hx hb d_J_fillR_2 rfl (lv_at hl 1 rfl) ?_
  refine lv_iload_n hx hb d_J_fillR_3 rfl (lv_at hl 2 rfl) ?_
  refine kx_SR (As := [.int (nI n), .int (nI a), .int (nI (a + k))]) (rest := []) ⟨hx, hb, hml, hown, hts⟩ (k_J_rangeCheck l dC dI k5 n a (a + k) (by omega) hab hn) (va_cwS 3 hts (goodS wm_J_13 wt_J_rangeCheck wi_J wc_J_rangeCheck) rfl rfl rfl (by decide +kernel) ⟨Nat.le_of_ble_eq_true rfl, Nat.le_of_ble_eq_true rfl⟩) ⟨Nat.zero_le _, Nat.zero_le _⟩ hK hP hD [] (by decide) rfl rfl hl.1 rfl (Nat.le_of_ble_eq_true rfl) d_J_fillR_4 ?_
  refine W.eq (g2 := F0 m 7 ls []) rfl ?_
  refine lv_iload_n hx hb d_J_fillR_7 rfl (lv_at hl 1 rfl) ?_
  refine lv_istore (lv' := [(4, .int (nI a)), (0, .ref h0), (1, .int (nI a)), (2, .int (nI (a + k))), (3, .int v)]) hx hb d_J_fillR_8 hl (by decide) rfl (fun ls hl => ?_)
  have lp : ∀ (q9 i : Nat) (H : Heap) (locs : List Loc) (ls : Array Slot), i + q9 = k → va_P (dC, dI) clA [(h0, .inl ((k5 2), n, .inl (fillF f (vp_nar .byte v) a i)))] H → va_D (kx_A ([(h0, .inl ((k5 2), n, .inl f))])) [(h0, .inl ((k5 2), n, .inl (fillF f (vp_nar .byte v) a i)))] → va_S (kx_A ([(h0, .inl ((k5 2), n, .inl f))])) s.heap H locs → lv_has ls 5 [(4, .int (nI (a + i))), (0, .ref h0), (1, .int (nI a)), (2, .int (nI (a + k))), (3, .int v)] → W p l e (headSpec w_J_fillR ({ frames := 1, cells := 0, slots := 0, locals := 22 })).room s m ([.ref h0, .int (nI a), .int (nI (a + k)), .int v] : List Value).toArray below meth c H locs 0 0 (MQ below (kx_Q (dC, dI) clA ([(h0, .inl ((k5 2), n, .inl f))]) ([(h0, .inl ((k5 2), n, .inl (fillF f (vp_nar .byte v) a k)))]) none) ([.ref h0, .int (nI a), .int (nI (a + k)), .int v] : List Value).toArray s 0 0 (kx_A ([(h0, .inl ((k5 2), n, .inl f))]))) (F0 m 10 ls []) := by
    intro q9
    induction q9 with
    | zero =>
      intro i H locs ls hi hP hD hS hl
      have hi : k = i := by omega
      subst hi
      refine lv_iload hx hb d_J_fillR_10 (lv_at hl 0 rfl) ?_
      refine lv_iload_n hx hb d_J_fillR_12 rfl (lv_at hl 3 rfl) ?_
      refine lv_icmp_ge (tgt := 27) hx hb d_J_fillR_13 (by decide) (fun hc => ?_) (fun hc => ?_)
      · exact W.vret hx hb hr (fun t ht hW => kx_Qv ht hP (rfl) hS rfl) hS.2.2 d_J_fillR_27
      · exact absurd (by exact nI_le (by omega) (by omega)) hc
    | succ q9 ih =>
      intro i H locs ls hi hP hD hS hl
      refine lv_iload hx hb d_J_fillR_10 (lv_at hl 0 rfl) ?_
      refine lv_iload_n hx hb d_J_fillR_12 rfl (lv_at hl 3 rfl) ?_
      refine lv_icmp_ge (tgt := 27) hx hb d_J_fillR_13 (by decide) (fun hc => ?_) (fun hc => ?_)
      · exact absurd hc (by exact nI_ge (by omega) (by omega))
      · refine lv_aload_n hx hb d_J_fillR_16 rfl (lv_at hl 1 rfl) ?_
        refine lv_iload hx hb d_J_fillR_17 (lv_at hl 0 rfl) ?_
        refine lv_iload_n hx hb d_J_fillR_19 rfl (lv_at hl 4 rfl) ?_
        refine kx_bast (ws' := [(h0, .inl ((k5 2), n, .inl (fillF f (vp_nar .byte v) a (i + 1))))]) hx hb hK hP hD hS 0 2 rfl rfl (a + i) (rfl) (by omega) (by omega) rfl d_J_fillR_20 (fun H locs hP hD hS => ?_)
        refine lv_iinc (v := nI (a + (i + 1))) (lv' := [(4, .int (nI (a + (i + 1)))), (0, .ref h0), (1, .int (nI a)), (2, .int (nI (a + k))), (3, .int v)]) hx hb d_J_fillR_21 hl (k := 0) rfl (nI_1 (a + i)) (by decide) rfl (fun ls hl => ?_)
        refine lv_goto (tgt := 10) hx hb d_J_fillR_24 (by decide) ?_
        exact ih (i + 1) H locs ls (by omega) hP hD hS (lv_sub hl [0, 1, 2, 3, 4] rfl)
  exact lp k 0 s.heap [] ls (by omega) hP hD hS (lv_sub hl [0, 1, 2, 3, 4] rfl)
