set_option maxHeartbeats 4000000 in
set_option maxRecDepth 100000 in
theorem k_M_label (l : Launch) (dC : Nat → ClassId) (dI : Nat → Nat → Nat) (k5 : Nat → ClassId) (b : Nat → Nat) (vT vn vr vo vl vb : Int32) (fN fK fW fL fM fE fR fF fS fP fY fT fJ fI : FF) (tg : Int32) (hz : vp_nar .boolean tg = tg) (bs la : Nat) (hvb : vb = nI bs) (hvl : vl = nI la) (hbs : bs < 1300) (hla : la + 1 < 1300) (p9 : Nat) (hp9 : p9 = 0 ∨ p9 = 1) (hrow : 1 - fP bs = nI p9) (n : Nat) (hn : vn = nI n) (hn4 : 4 ≤ n) (hn8 : n ≤ 8) : Met l y_M_label w_M_label ({ frames := 2, cells := 0, slots := 0, locals := 52 }) (kx_Pc (dC, dI) clA (tyL k5) (wMd b k5 vT vn vr vo vl vb fN fK fW fL fM fE fR fF fS fP fY fT fJ fI) [.ref (b 0), .int tg]) (kx_Q (dC, dI) clA (wMd b k5 vT vn vr vo vl vb fN fK fW fL fM fE fR fF fS fP fY fT fJ fI) (wMd b k5 vT vn vr vo (vl + 1) (vl + 1) fN fK fW fL fM fE fR ((mSp fL (la + 1) p9 0 0 0 fF fS n).1) ((mSp fL (la + 1) p9 0 0 0 fF fS n).2.1) (upd fP (la + 1) (1 - fP bs)) (upd fY (la + 1) tg) (mTell fM (la + 1) fT 8) fJ fI) none) 0 0 (kx_A (wMd b k5 vT vn vr vo vl vb fN fK fW fL fM fE fR fF fS fP fY fT fJ fI)) := by
  refine Met.ofW (cc := c_M_label) (maxL := 2) (ret := none) (by decide) rfl ?_
  intro p e s m args below meth c s₁ B hml hv
  obtain ⟨rfl, hP, hK, hD0⟩ := hv
  have hx := B.exec
  have hb := B.bytes
  have hr := B.returns
  have hts : ∀ w ∈ wsA, w.before _ s = true := fun w h => atoms_spec (ws := w_M_label) B.pre w (List.mem_cons_of_mem _ h)
  have hown : s.vm.findClass R_M = some m.cls := findClass_of_methodNamed B.named
  have hlocks := B.notSynchronized
  have hD := kx_D.self hD0
  have hS : va_S (kx_A (wMd b k5 vT vn vr vo vl vb fN fK fW fL fM fE fR fF fS fP fY fT fJ fI)) s.heap s.heap [] := va_S.rf
  have hl := lv_entry ([.ref (b 0), .int tg]) (n := 2) (Nat.le_of_ble_eq_true rfl)
  rw [lg_entry_eq]
  generalize (lg_sl ([.ref (b 0), .int tg]) ++ List.replicate (2 - (lg_sl ([.ref (b 0), .int tg])).length) Slot.unset).toArray = ls at hl ⊢
  have hl : lv_has ls 2 [(0, .ref (b 0)), (1, .int tg)] := hl
  refine lv_aload_n hx hb d_M_label_0 rfl (lv_at hl 0 rfl) ?_
  refine lv_iload_n hx hb d_M_label_1 rfl (lv_at hl 1 rfl) ?_
  refine kx_VW (w1 := (wMd b k5 vT vn vr vo (vl + 1) vb fN fK fW fL fM fE fR fF fS (upd fP (la + 1) (1 - fP bs)) (upd fY (la + 1) tg) (mTell fM (la + 1) fT 8) fJ fI)) (As := [.int tg]) (rest := []) ⟨hx, hb, hml, hown, hts⟩ (k_M_newLabel l dC dI k5 b vT vn vr vo vl vb fN fK fW fL fM fE fR fF fS fP fY fT fJ fI tg hz bs la hvb hvl hbs hla) (cwV 1 hts (goodV wm_M_100 wn_M_newLabel ws_M_newLabel wi_M wc_M_newLabel) rfl rfl rfl (by decide +kernel) ⟨Nat.le_of_ble_eq_true rfl, Nat.le_of_ble_eq_true rfl⟩) ⟨Nat.zero_le _, Nat.zero_le _⟩ hK hP hD hS 0 rfl rfl rfl rfl hl.1 rfl (Nat.le_of_ble_eq_true rfl) d_M_label_2 (fun H locs hP hD hS => ?_)
  refine W.eq (g2 := F0 m 5 ls []) rfl ?_
  refine lv_aload_n hx hb d_M_label_5 rfl (lv_at hl 0 rfl) ?_
  refine lv_aload_n hx hb d_M_label_6 rfl (lv_at hl 0 rfl) ?_
  refine va_get (D := (dC, dI)) (ci := 3) (v := .int (vl + 1)) (C := R_M) (T := T_M) (N := 20) hx hb hts wu_M hown hK hP 0 rfl rfl 13 (by decide) (hts _ wf_M_72) (fun _ h9 => h9) rfl d_M_label_7 ?_
  refine lv_iconst (v := 0) hx hb d_M_label_10 (by decide) ?_
  refine lv_iconst (v := 0) hx hb d_M_label_11 (by decide) ?_
  refine lv_lconst (v := 0) hx hb d_M_label_12 (by decide) ?_
  refine W.eq (g2 := F0 m 13 ls [.long 0, .int 0, .int 0, .int (nI (la + 1)), .ref (b 0)]) (by rw [hvl, show nI la + 1 = nI (la + 1) from nI_1 la]) ?_
  refine kx_VW (w1 := (wMd b k5 vT vn vr vo (vl + 1) vb fN fK fW fL fM fE fR ((mSp fL (la + 1) p9 0 0 0 fF fS n).1) ((mSp fL (la + 1) p9 0 0 0 fF fS n).2.1) (upd fP (la + 1) (1 - fP bs)) (upd fY (la + 1) tg) (mTell fM (la + 1) fT 8) fJ fI)) (As := [.int (nI (la + 1)), .int 0, .int 0, .long 0]) (rest := []) ⟨hx, hb, hml, hown, hts⟩ (k_M_spread l dC dI k5 b vT vn vr vo (vl + 1) vb fN fK fW fL fM fE fR fF fS (upd fP (la + 1) (1 - fP bs)) (upd fY (la + 1) tg) (mTell fM (la + 1) fT 8) fJ fI (la + 1) p9 0 0 0 hla hp9 (by rw [pk_us]; exact hrow) n hn hn4 hn8) (cwV 4 hts (goodV wm_M_103 wn_M_spread ws_M_spread wi_M wc_M_spread) rfl rfl rfl (by decide +kernel) ⟨Nat.le_of_ble_eq_true rfl, Nat.le_of_ble_eq_true rfl⟩) ⟨Nat.zero_le _, Nat.zero_le _⟩ hK hP hD hS 0 rfl rfl rfl rfl hl.1 rfl (Nat.le_of_ble_eq_true rfl) d_M_label_13 (fun H locs hP hD hS => ?_)
  refine W.eq (g2 := F0 m 16 ls []) rfl ?_
  refine lv_aload_n hx hb d_M_label_16 rfl (lv_at hl 0 rfl) ?_
  refine lv_aload_n hx hb d_M_label_17 rfl (lv_at hl 0 rfl) ?_
  refine va_get (D := (dC, dI)) (ci := 3) (v := .int (vl + 1)) (C := R_M) (T := T_M) (N := 20) hx hb hts wu_M hown hK hP 0 rfl rfl 13 (by decide) (hts _ wf_M_72) (fun _ h9 => h9) rfl d_M_label_18 ?_
  refine kx_put (ws' := (wMd b k5 vT vn vr vo (vl + 1) (vl + 1) fN fK fW fL fM fE fR ((mSp fL (la + 1) p9 0 0 0 fF fS n).1) ((mSp fL (la + 1) p9 0 0 0 fF fS n).2.1) (upd fP (la + 1) (1 - fP bs)) (upd fY (la + 1) tg) (mTell fM (la + 1) fT 8) fJ fI)) (D := (dC, dI)) (ci := 3) (v := .int (vl + 1)) (ty := .int) (C := R_M) (T := T_M) (N := 20) hx hb hts wu_M ty_M ok_M nm_M hown hK hP hD hS 0 rfl rfl 14 (by decide) (hts _ wf_M_75) (fun _ h9 => h9) rfl (by decide +kernel) rfl rfl (Nat.le_of_ble_eq_true rfl) rfl d_M_label_21 (fun H locs hP hD hS => ?_)
  exact W.vret hx hb hr (fun t ht hW => kx_Qv ht hP (rfl) hS rfl) hS.2.2 d_M_label_24
set_option maxHeartbeats 4000000 in
set_option maxRecDepth 100000 in
theorem k_M_stopAtLabel (l : Launch) (dC : Nat → ClassId) (dI : Nat → Nat → Nat) (k5 : Nat → ClassId) (b : Nat → Nat) (vT vn vr vo vl vb : Int32) (fN fK fW fL fM fE fR fF fS fP fY fT fJ fI : FF) (tg : Int32) (hz : vp_nar .boolean tg = tg) (bits : Int64) (bs la : Nat) (hvb : vb = nI bs) (hvl : vl = nI la) (hbs : bs < 1300) (hla : la + 1 < 1300) (p9 : Nat) (hp9 : p9 = 0 ∨ p9 = 1) (hrow : 1 - fP bs = nI p9) (n : Nat) (hn : vn = nI n) (hn4 : 4 ≤ n) (hn8 : n ≤ 8) : Met l y_M_stopAtLabel w_M_stopAtLabel ({ frames := 2, cells := 0, slots := 0, locals := 52 }) (kx_Pc (dC, dI) clA (tyL k5) (wMd b k5 vT vn vr vo vl vb fN fK fW fL fM fE fR fF fS fP fY fT fJ fI) [.ref (b 0), .int tg, .long bits]) (kx_Q (dC, dI) clA (wMd b k5 vT vn vr vo vl vb fN fK fW fL fM fE fR fF fS fP fY fT fJ fI) (wMd b k5 vT vn vr 1 (vl + 1) vb fN fK (fill0 fW 0 204) fL fM fE fR ((mSp fL (la + 1) p9 0 1 bits fF fS n).1) ((mSp fL (la + 1) p9 0 1 bits fF fS n).2.1) (upd fP (la + 1) (1 - fP bs)) (upd fY (la + 1) tg) (mTell fM (la + 1) fT 8) fJ fI) (some (.int (-2)))) 0 0 (kx_A (wMd b k5 vT vn vr vo vl vb fN fK fW fL fM fE fR fF fS fP fY fT fJ fI)) := by
  refine Met.ofW (cc := c_M_stopAtLabel) (maxL := 4) (ret := (some .int)) (by decide) rfl ?_
  intro p e s m args below meth c s₁ B hml hv
  obtain ⟨rfl, hP, hK, hD0⟩ := hv
  have hx := B.exec
  have hb := B.bytes
  have hr := B.returns
  have hts : ∀ w ∈ wsA, w.before _ s = true := fun w h => atoms_spec (ws := w_M_stopAtLabel) B.pre w (List.mem_cons_of_mem _ h)
  have hown : s.vm.findClass R_M = some m.cls := findClass_of_methodNamed B.named
  have hlocks := B.notSynchronized
  have hD := kx_D.self hD0
  have hS : va_S (kx_A (wMd b k5 vT vn vr vo vl vb fN fK fW fL fM fE fR fF fS fP fY fT fJ fI)) s.heap s.heap [] := va_S.rf
  have hl := lv_entry ([.ref (b 0), .int tg, .long bits]) (n := 4) (Nat.le_of_ble_eq_true rfl)
  rw [lg_entry_eq]
  generalize (lg_sl ([.ref (b 0), .int tg, .long bits]) ++ List.replicate (4 - (lg_sl ([.ref (b 0), .int tg, .long bits])).length) Slot.unset).toArray = ls at hl ⊢
  have hl : lv_has ls 4 [(0, .ref (b 0)), (1, .int tg), (2, .long bits)] := hl
  refine lv_aload_n hx hb d_M_stopAtLabel_0 rfl (lv_at hl 0 rfl) ?_
  refine lv_iload_n hx hb d_M_stopAtLabel_1 rfl (lv_at hl 1 rfl) ?_
  refine kx_VW (w1 := (wMd b k5 vT vn vr vo (vl + 1) vb fN fK fW fL fM fE fR fF fS (upd fP (la + 1) (1 - fP bs)) (upd fY (la + 1) tg) (mTell fM (la + 1) fT 8) fJ fI)) (As := [.int tg]) (rest := []) ⟨hx, hb, hml, hown, hts⟩ (k_M_newLabel l dC dI k5 b vT vn vr vo vl vb fN fK fW fL fM fE fR fF fS fP fY fT fJ fI tg hz bs la hvb hvl hbs hla) (cwV 1 hts (goodV wm_M_100 wn_M_newLabel ws_M_newLabel wi_M wc_M_newLabel) rfl rfl rfl (by decide +kernel) ⟨Nat.le_of_ble_eq_true rfl, Nat.le_of_ble_eq_true rfl⟩) ⟨Nat.zero_le _, Nat.zero_le _⟩ hK hP hD hS 0 rfl rfl rfl rfl hl.1 rfl (Nat.le_of_ble_eq_true rfl) d_M_stopAtLabel_2 (fun H locs hP hD hS => ?_)
  refine W.eq (g2 := F0 m 5 ls []) rfl ?_
  refine lv_aload_n hx hb d_M_stopAtLabel_5 rfl (lv_at hl 0 rfl) ?_
  refine lv_aload_n hx hb d_M_stopAtLabel_6 rfl (lv_at hl 0 rfl) ?_
  refine va_get (D := (dC, dI)) (ci := 3) (v := .int (vl + 1)) (C := R_M) (T := T_M) (N := 20) hx hb hts wu_M hown hK hP 0 rfl rfl 13 (by decide) (hts _ wf_M_72) (fun _ h9 => h9) rfl d_M_stopAtLabel_7 ?_
  refine lv_iconst (v := 0) hx hb d_M_stopAtLabel_10 (by decide) ?_
  refine lv_iconst (v := 1) hx hb d_M_stopAtLabel_11 (by decide) ?_
  refine lv_lload_n hx hb d_M_stopAtLabel_12 rfl (lv_at hl 2 rfl) ?_
  refine W.eq (g2 := F0 m 13 ls [.long bits, .int 1, .int 0, .int (nI (la + 1)), .ref (b 0)]) (by rw [hvl, show nI la + 1 = nI (la + 1) from nI_1 la]) ?_
  refine kx_VW (w1 := (wMd b k5 vT vn vr vo (vl + 1) vb fN fK fW fL fM fE fR ((mSp fL (la + 1) p9 0 1 bits fF fS n).1) ((mSp fL (la + 1) p9 0 1 bits fF fS n).2.1) (upd fP (la + 1) (1 - fP bs)) (upd fY (la + 1) tg) (mTell fM (la + 1) fT 8) fJ fI)) (As := [.int (nI (la + 1)), .int 0, .int 1, .long bits]) (rest := []) ⟨hx, hb, hml, hown, hts⟩ (k_M_spread l dC dI k5 b vT vn vr vo (vl + 1) vb fN fK fW fL fM fE fR fF fS (upd fP (la + 1) (1 - fP bs)) (upd fY (la + 1) tg) (mTell fM (la + 1) fT 8) fJ fI (la + 1) p9 0 1 bits hla hp9 (by rw [pk_us]; exact hrow) n hn hn4 hn8) (cwV 4 hts (goodV wm_M_103 wn_M_spread ws_M_spread wi_M wc_M_spread) rfl rfl rfl (by decide +kernel) ⟨Nat.le_of_ble_eq_true rfl, Nat.le_of_ble_eq_true rfl⟩) ⟨Nat.zero_le _, Nat.zero_le _⟩ hK hP hD hS 0 rfl rfl rfl rfl hl.1 rfl (Nat.le_of_ble_eq_true rfl) d_M_stopAtLabel_13 (fun H locs hP hD hS => ?_)
  refine W.eq (g2 := F0 m 16 ls []) rfl ?_
  refine lv_aload_n hx hb d_M_stopAtLabel_16 rfl (lv_at hl 0 rfl) ?_
  refine kx_VW (w1 := (wMd b k5 vT vn vr 1 (vl + 1) vb fN fK (fill0 fW 0 204) fL fM fE fR ((mSp fL (la + 1) p9 0 1 bits fF fS n).1) ((mSp fL (la + 1) p9 0 1 bits fF fS n).2.1) (upd fP (la + 1) (1 - fP bs)) (upd fY (la + 1) tg) (mTell fM (la + 1) fT 8) fJ fI)) (As := []) (rest := []) ⟨hx, hb, hml, hown, hts⟩ (k_M_powerOff l dC dI k5 b vT vn vr vo (vl + 1) vb fN fK fW fL fM fE fR ((mSp fL (la + 1) p9 0 1 bits fF fS n).1) ((mSp fL (la + 1) p9 0 1 bits fF fS n).2.1) (upd fP (la + 1) (1 - fP bs)) (upd fY (la + 1) tg) (mTell fM (la + 1) fT 8) fJ fI ) (cwV 0 hts (goodV wm_M_107 wn_M_powerOff ws_M_powerOff wi_M wc_M_powerOff) rfl rfl rfl (by decide +kernel) ⟨Nat.le_of_ble_eq_true rfl, Nat.le_of_ble_eq_true rfl⟩) ⟨Nat.zero_le _, Nat.zero_le _⟩ hK hP hD hS 0 rfl rfl rfl rfl hl.1 rfl (Nat.le_of_ble_eq_true rfl) d_M_stopAtLabel_17 (fun H locs hP hD hS => ?_)
  refine W.eq (g2 := F0 m 20 ls [.int (-2)]) rfl ?_
  exact W.iret (v := (-2)) hx hb hr (fun t ht hW => kx_Qi (rfl) ht hP (rfl) hS rfl) hS.2.2 d_M_stopAtLabel_20
set_option maxHeartbeats 4000000 in
set_option maxRecDepth 100000 in
theorem k_M_inRowW (l : Launch) (dC : Nat → ClassId) (dI : Nat → Nat → Nat) (k5 : Nat → ClassId) (b : Nat → Nat) (vT vn vr vo vl vb : Int32) (fN fK fW fL fM fE fR fF fS fP fY fT fJ fI : FF) (t : Nat) (ht : t < 40) (n : Nat) (hn : vn = nI n) (hn4 : 4 ≤ n) (hn8 : n ≤ 8) (r : Nat) (er : vr = nI r) (hr2 : 12 ≤ r) (hr40 : r ≤ 40) : Met l y_M_inRow w_M_inRow ({ frames := 1, cells := 0, slots := 0, locals := 21 }) (kx_Pc (dC, dI) clA (tyL k5) (wMd b k5 vT vn vr vo vl vb fN fK fW fL fM fE fR fF fS fP fY fT fJ fI) [.ref (b 0), .ref (b 3), .int (nI t)]) (kx_R (some (.int (nI (cnt (mInRow fW n t) ((n - 2) * (r - 6))))))) 0 0 (fun _ => False) := by
  refine Met.ofW (cc := c_M_inRow) (maxL := 5) (ret := (some .int)) (by decide) rfl ?_
  intro p e s m args below meth c s₁ B hml hv
  obtain ⟨rfl, hP, hK, hD0⟩ := hv
  have hx := B.exec
  have hb := B.bytes
  have hr := B.returns
  have hts : ∀ w ∈ wsA, w.before _ s = true := fun w h => atoms_spec (ws := w_M_inRow) B.pre w (List.mem_cons_of_mem _ h)
  have hown : s.vm.findClass R_M = some m.cls := findClass_of_methodNamed B.named
  have hlocks := B.notSynchronized
  have hD := kx_D.self hD0
  have hS : va_S (kx_A (wMd b k5 vT vn vr vo vl vb fN fK fW fL fM fE fR fF fS fP fY fT fJ fI)) s.heap s.heap [] := va_S.rf
  have hl := lv_entry ([.ref (b 0), .ref (b 3), .int (nI t)]) (n := 5) (Nat.le_of_ble_eq_true rfl)
  rw [lg_entry_eq]
  generalize (lg_sl ([.ref (b 0), .ref (b 3), .int (nI t)]) ++ List.replicate (5 - (lg_sl ([.ref (b 0), .ref (b 3), .int (nI t)])).length) Slot.unset).toArray = ls at hl ⊢
  have hl : lv_has ls 5 [(0, .ref (b 0)), (1, .ref (b 3)), (2, .int (nI t))] := hl
  refine lv_iconst (v := 0) hx hb d_M_inRow_0 (by decide) ?_
  refine lv_istore_n (lv' := [(3, .int 0), (0, .ref (b 0)), (1, .ref (b 3)), (2, .int (nI t))]) hx hb d_M_inRow_1 rfl hl (by decide) rfl (fun ls hl => ?_)
  refine lv_iconst (v := 0) hx hb d_M_inRow_2 (by decide) ?_
  refine lv_istore (lv' := [(4, .int 0), (3, .int 0), (0, .ref (b 0)), (1, .ref (b 3)), (2, .int (nI t))]) hx hb d_M_inRow_3 hl (by decide) rfl (fun ls hl => ?_)
  have lp : ∀ (q9 i : Nat) (ls : Array Slot), i + q9 = ((n - 2) * (r - 6)) → lv_has ls 5 [(4, .int (nI i)), (3, .int (nI (cnt (mInRow fW n t) i))), (0, .ref (b 0)), (1, .ref (b 3)), (2, .int (nI t))] → W p l e (headSpec w_M_inRow ({ frames := 1, cells := 0, slots := 0, locals := 21 })).room s m ([.ref (b 0), .ref (b 3), .int (nI t)] : List Value).toArray below meth c s.heap [] 0 0 (MQ below (kx_R (some (.int (nI (cnt (mInRow fW n t) ((n - 2) * (r - 6))))))) ([.ref (b 0), .ref (b 3), .int (nI t)] : List Value).toArray s 0 0 (fun _ => False)) (F0 m 5 ls []) := by
    intro q9
    induction q9 with
    | zero =>
      intro i ls hi hl
      have hi : ((n - 2) * (r - 6)) = i := by omega
      subst hi
      refine lv_iload hx hb d_M_inRow_5 (lv_at hl 0 rfl) ?_
      refine lv_aload_n hx hb d_M_inRow_7 rfl (lv_at hl 2 rfl) ?_
      refine kx_VRW (As := []) (rest := [.int (nI ((n - 2) * (r - 6)))]) ⟨hx, hb, hml, hown, hts⟩ (k_M_blocks l dC dI k5 b vT vn vr vo vl vb fN fK fW fL fM fE fR fF fS fP fY fT fJ fI ) (cwV 0 hts (goodV wm_M_86 wn_M_blocks ws_M_blocks wi_M wc_M_blocks) rfl rfl rfl (by decide +kernel) ⟨Nat.le_of_ble_eq_true rfl, Nat.le_of_ble_eq_true rfl⟩) ⟨Nat.zero_le _, Nat.zero_le _⟩ hK hP hD 0 rfl rfl rfl hl.1 rfl (Nat.le_of_ble_eq_true rfl) d_M_inRow_8 ?_
      refine W.eq (g2 := F0 m 11 ls [.int ((vn - 2) * (vr - 6)), .int (nI ((n - 2) * (r - 6)))]) rfl ?_
      refine lv_icmp_ge (tgt := 45) hx hb d_M_inRow_11 (by decide) (fun hc => ?_) (fun hc => ?_)
      · refine lv_iload_n hx hb d_M_inRow_45 rfl (lv_at hl 1 rfl) ?_
        exact W.iret (v := (nI (cnt (mInRow fW n t) ((n - 2) * (r - 6))))) hx hb hr (fun t ht hW => kx_Ri (rfl) ht) (fun _ h => absurd h List.not_mem_nil) d_M_inRow_46
      · exact absurd (by rw [blk_nI hn er hn4 hr2]; exact nI_le (by omega) (by have := blk_le hn8 hr40; omega)) hc
    | succ q9 ih =>
      intro i ls hi hl
      refine lv_iload hx hb d_M_inRow_5 (lv_at hl 0 rfl) ?_
      refine lv_aload_n hx hb d_M_inRow_7 rfl (lv_at hl 2 rfl) ?_
      refine kx_VRW (As := []) (rest := [.int (nI i)]) ⟨hx, hb, hml, hown, hts⟩ (k_M_blocks l dC dI k5 b vT vn vr vo vl vb fN fK fW fL fM fE fR fF fS fP fY fT fJ fI ) (cwV 0 hts (goodV wm_M_86 wn_M_blocks ws_M_blocks wi_M wc_M_blocks) rfl rfl rfl (by decide +kernel) ⟨Nat.le_of_ble_eq_true rfl, Nat.le_of_ble_eq_true rfl⟩) ⟨Nat.zero_le _, Nat.zero_le _⟩ hK hP hD 0 rfl rfl rfl hl.1 rfl (Nat.le_of_ble_eq_true rfl) d_M_inRow_8 ?_
      refine W.eq (g2 := F0 m 11 ls [.int ((vn - 2) * (vr - 6)), .int (nI i)]) rfl ?_
      refine lv_icmp_ge (tgt := 45) hx hb d_M_inRow_11 (by decide) (fun hc => ?_) (fun hc => ?_)
      · exact absurd hc (by rw [blk_nI hn er hn4 hr2]; exact nI_ge (by omega) (by have := blk_le hn8 hr40; omega))
      · have hB := blk_le hn8 hr40
        refine lv_iload_n hx hb d_M_inRow_14 rfl (lv_at hl 1 rfl) ?_
        refine lv_aload_n hx hb d_M_inRow_15 rfl (lv_at hl 3 rfl) ?_
        refine lv_iload hx hb d_M_inRow_16 (lv_at hl 0 rfl) ?_
        refine kx_zald hx hb hK hP 3 3 rfl rfl i (rfl) (by omega) (by omega) d_M_inRow_18 ?_
        refine lv_if_eq (tgt := 36) hx hb d_M_inRow_19 (by decide) (fun hg => ?_) (fun hg => ?_)
        · refine lv_iconst (v := 0) hx hb d_M_inRow_36 (by decide) ?_
          refine lv_iadd hx hb d_M_inRow_37 ?_
          refine lv_istore_n (lv' := [(3, .int ((nI (cnt (mInRow fW n t) i)) + 0)), (4, .int (nI i)), (0, .ref (b 0)), (1, .ref (b 3)), (2, .int (nI t))]) hx hb d_M_inRow_38 rfl hl (by decide) rfl (fun ls hl => ?_)
          refine lv_iinc (v := nI (i + 1)) (lv' := [(4, .int (nI (i + 1))), (3, .int ((nI (cnt (mInRow fW n t) i)) + 0)), (0, .ref (b 0)), (1, .ref (b 3)), (2, .int (nI t))]) hx hb d_M_inRow_39 hl (k := 1) rfl (nI_1 i) (by decide) rfl (fun ls hl => ?_)
          refine lv_goto (tgt := 5) hx hb d_M_inRow_42 (by decide) ?_
          exact ih (i + 1) ls (by omega) (by rw [cnt_f2 (p := mInRow fW n t) (n := i) (by unfold mInRow; rw [nz_f hg]; rfl)]; exact (lv_sub hl [0, 1, 2, 3, 4] rfl))
        · refine lv_aload_n hx hb d_M_inRow_22 rfl (lv_at hl 2 rfl) ?_
          refine lv_iload hx hb d_M_inRow_23 (lv_at hl 0 rfl) ?_
          refine kx_VRW (As := [.int (nI i)]) (rest := [.int (nI (cnt (mInRow fW n t) i))]) ⟨hx, hb, hml, hown, hts⟩ (k_M_rowOf l dC dI k5 b vT vn vr vo vl vb fN fK fW fL fM fE fR fF fS fP fY fT fJ fI (nI i) (by rw [hn, show (nI n - 2) = nI (n - 2) from pk_sub (a := n) (b := 2) (by omega)]; exact nI_ne0 (by omega) (by omega))) (cwV 1 hts (goodV wm_M_121 wn_M_rowOf ws_M_rowOf wi_M wc_M_rowOf) rfl rfl rfl (by decide +kernel) ⟨Nat.le_of_ble_eq_true rfl, Nat.le_of_ble_eq_true rfl⟩) ⟨Nat.zero_le _, Nat.zero_le _⟩ hK hP hD 0 rfl rfl rfl hl.1 rfl (Nat.le_of_ble_eq_true rfl) d_M_inRow_25 ?_
          refine W.eq (g2 := F0 m 28 ls [.int (6 + (nI i) / (vn - 2)), .int (nI (cnt (mInRow fW n t) i))]) rfl ?_
          refine lv_iload_n hx hb d_M_inRow_28 rfl (lv_at hl 4 rfl) ?_
          refine lv_icmp_ne (tgt := 36) hx hb d_M_inRow_29 (by decide) (fun hh => ?_) (fun hh => ?_)
          · refine lv_iconst (v := 0) hx hb d_M_inRow_36 (by decide) ?_
            refine lv_iadd hx hb d_M_inRow_37 ?_
            refine lv_istore_n (lv' := [(3, .int ((nI (cnt (mInRow fW n t) i)) + 0)), (4, .int (nI i)), (0, .ref (b 0)), (1, .ref (b 3)), (2, .int (nI t))]) hx hb d_M_inRow_38 rfl hl (by decide) rfl (fun ls hl => ?_)
            refine lv_iinc (v := nI (i + 1)) (lv' := [(4, .int (nI (i + 1))), (3, .int ((nI (cnt (mInRow fW n t) i)) + 0)), (0, .ref (b 0)), (1, .ref (b 3)), (2, .int (nI t))]) hx hb d_M_inRow_39 hl (k := 1) rfl (nI_1 i) (by decide) rfl (fun ls hl => ?_)
            refine lv_goto (tgt := 5) hx hb d_M_inRow_42 (by decide) ?_
            exact ih (i + 1) ls (by omega) (by rw [cnt_f2 (p := mInRow fW n t) (n := i) (by unfold mInRow; rw [nz_t hg, decide_eq_false (by rw [← hn]; exact hh)]; rfl)]; exact (lv_sub hl [0, 1, 2, 3, 4] rfl))
          · refine lv_iconst (v := 1) hx hb d_M_inRow_32 (by decide) ?_
            refine lv_goto (tgt := 37) hx hb d_M_inRow_33 (by decide) ?_
            refine lv_iadd hx hb d_M_inRow_37 ?_
            refine lv_istore_n (lv' := [(3, .int ((nI (cnt (mInRow fW n t) i)) + 1)), (4, .int (nI i)), (0, .ref (b 0)), (1, .ref (b 3)), (2, .int (nI t))]) hx hb d_M_inRow_38 rfl hl (by decide) rfl (fun ls hl => ?_)
            refine lv_iinc (v := nI (i + 1)) (lv' := [(4, .int (nI (i + 1))), (3, .int ((nI (cnt (mInRow fW n t) i)) + 1)), (0, .ref (b 0)), (1, .ref (b 3)), (2, .int (nI t))]) hx hb d_M_inRow_39 hl (k := 1) rfl (nI_1 i) (by decide) rfl (fun ls hl => ?_)
            refine lv_goto (tgt := 5) hx hb d_M_inRow_42 (by decide) ?_
            exact ih (i + 1) ls (by omega) (by rw [cnt_t2 (p := mInRow fW n t) (n := i) (by unfold mInRow; rw [nz_t hg, decide_eq_true (by rw [← hn]; exact hh)]; rfl)]; exact (lv_sub hl [0, 1, 2, 3, 4] rfl))
  exact lp ((n - 2) * (r - 6)) 0 ls (by omega) (lv_sub hl [0, 1, 2, 3, 4] rfl)
set_option maxHeartbeats 4000000 in
set_option maxRecDepth 100000 in
theorem k_M_inRowI (l : Launch) (dC : Nat → ClassId) (dI : Nat → Nat → Nat) (k5 : Nat → ClassId) (b : Nat → Nat) (vT vn vr vo vl vb : Int32) (fN fK fW fL fM fE fR fF fS fP fY fT fJ fI : FF) (t : Nat) (ht : t < 40) (n : Nat) (hn : vn = nI n) (hn4 : 4 ≤ n) (hn8 : n ≤ 8) (r : Nat) (er : vr = nI r) (hr2 : 12 ≤ r) (hr40 : r ≤ 40) : Met l y_M_inRow w_M_inRow ({ frames := 1, cells := 0, slots := 0, locals := 21 }) (kx_Pc (dC, dI) clA (tyL k5) (wMd b k5 vT vn vr vo vl vb fN fK fW fL fM fE fR fF fS fP fY fT fJ fI) [.ref (b 0), .ref (b 14), .int (nI t)]) (kx_R (some (.int (nI (cnt (mInRow fI n t) ((n - 2) * (r - 6))))))) 0 0 (fun _ => False) := by
  refine Met.ofW (cc := c_M_inRow) (maxL := 5) (ret := (some .int)) (by decide) rfl ?_
  intro p e s m args below meth c s₁ B hml hv
  obtain ⟨rfl, hP, hK, hD0⟩ := hv
  have hx := B.exec
  have hb := B.bytes
  have hr := B.returns
  have hts : ∀ w ∈ wsA, w.before _ s = true := fun w h => atoms_spec (ws := w_M_inRow) B.pre w (List.mem_cons_of_mem _ h)
  have hown : s.vm.findClass R_M = some m.cls := findClass_of_methodNamed B.named
  have hlocks := B.notSynchronized
  have hD := kx_D.self hD0
  have hS : va_S (kx_A (wMd b k5 vT vn vr vo vl vb fN fK fW fL fM fE fR fF fS fP fY fT fJ fI)) s.heap s.heap [] := va_S.rf
  have hl := lv_entry ([.ref (b 0), .ref (b 14), .int (nI t)]) (n := 5) (Nat.le_of_ble_eq_true rfl)
  rw [lg_entry_eq]
  generalize (lg_sl ([.ref (b 0), .ref (b 14), .int (nI t)]) ++ List.replicate (5 - (lg_sl ([.ref (b 0), .ref (b 14), .int (nI t)])).length) Slot.unset).toArray = ls at hl ⊢
  have hl : lv_has ls 5 [(0, .ref (b 0)), (1, .ref (b 14)), (2, .int (nI t))] := hl
  refine lv_iconst (v := 0) hx hb d_M_inRow_0 (by decide) ?_
  refine lv_istore_n (lv' := [(3, .int 0), (0, .ref (b 0)), (1, .ref (b 14)), (2, .int (nI t))]) hx hb d_M_inRow_1 rfl hl (by decide) rfl (fun ls hl => ?_)
  refine lv_iconst (v := 0) hx hb d_M_inRow_2 (by decide) ?_
  refine lv_istore (lv' := [(4, .int 0), (3, .int 0), (0, .ref (b 0)), (1, .ref (b 14)), (2, .int (nI t))]) hx hb d_M_inRow_3 hl (by decide) rfl (fun ls hl => ?_)
  have lp : ∀ (q9 i : Nat) (ls : Array Slot), i + q9 = ((n - 2) * (r - 6)) → lv_has ls 5 [(4, .int (nI i)), (3, .int (nI (cnt (mInRow fI n t) i))), (0, .ref (b 0)), (1, .ref (b 14)), (2, .int (nI t))] → W p l e (headSpec w_M_inRow ({ frames := 1, cells := 0, slots := 0, locals := 21 })).room s m ([.ref (b 0), .ref (b 14), .int (nI t)] : List Value).toArray below meth c s.heap [] 0 0 (MQ below (kx_R (some (.int (nI (cnt (mInRow fI n t) ((n - 2) * (r - 6))))))) ([.ref (b 0), .ref (b 14), .int (nI t)] : List Value).toArray s 0 0 (fun _ => False)) (F0 m 5 ls []) := by
    intro q9
    induction q9 with
    | zero =>
      intro i ls hi hl
      have hi : ((n - 2) * (r - 6)) = i := by omega
      subst hi
      refine lv_iload hx hb d_M_inRow_5 (lv_at hl 0 rfl) ?_
      refine lv_aload_n hx hb d_M_inRow_7 rfl (lv_at hl 2 rfl) ?_
      refine kx_VRW (As := []) (rest := [.int (nI ((n - 2) * (r - 6)))]) ⟨hx, hb, hml, hown, hts⟩ (k_M_blocks l dC dI k5 b vT vn vr vo vl vb fN fK fW fL fM fE fR fF fS fP fY fT fJ fI ) (cwV 0 hts (goodV wm_M_86 wn_M_blocks ws_M_blocks wi_M wc_M_blocks) rfl rfl rfl (by decide +kernel) ⟨Nat.le_of_ble_eq_true rfl, Nat.le_of_ble_eq_true rfl⟩) ⟨Nat.zero_le _, Nat.zero_le _⟩ hK hP hD 0 rfl rfl rfl hl.1 rfl (Nat.le_of_ble_eq_true rfl) d_M_inRow_8 ?_
      refine W.eq (g2 := F0 m 11 ls [.int ((vn - 2) * (vr - 6)), .int (nI ((n - 2) * (r - 6)))]) rfl ?_
      refine lv_icmp_ge (tgt := 45) hx hb d_M_inRow_11 (by decide) (fun hc => ?_) (fun hc => ?_)
      · refine lv_iload_n hx hb d_M_inRow_45 rfl (lv_at hl 1 rfl) ?_
        exact W.iret (v := (nI (cnt (mInRow fI n t) ((n - 2) * (r - 6))))) hx hb hr (fun t ht hW => kx_Ri (rfl) ht) (fun _ h => absurd h List.not_mem_nil) d_M_inRow_46
      · exact absurd (by rw [blk_nI hn er hn4 hr2]; exact nI_le (by omega) (by have := blk_le hn8 hr40; omega)) hc
    | succ q9 ih =>
      intro i ls hi hl
      refine lv_iload hx hb d_M_inRow_5 (lv_at hl 0 rfl) ?_
      refine lv_aload_n hx hb d_M_inRow_7 rfl (lv_at hl 2 rfl) ?_
      refine kx_VRW (As := []) (rest := [.int (nI i)]) ⟨hx, hb, hml, hown, hts⟩ (k_M_blocks l dC dI k5 b vT vn vr vo vl vb fN fK fW fL fM fE fR fF fS fP fY fT fJ fI ) (cwV 0 hts (goodV wm_M_86 wn_M_blocks ws_M_blocks wi_M wc_M_blocks) rfl rfl rfl (by decide +kernel) ⟨Nat.le_of_ble_eq_true rfl, Nat.le_of_ble_eq_true rfl⟩) ⟨Nat.zero_le _, Nat.zero_le _⟩ hK hP hD 0 rfl rfl rfl hl.1 rfl (Nat.le_of_ble_eq_true rfl) d_M_inRow_8 ?_
      refine W.eq (g2 := F0 m 11 ls [.int ((vn - 2) * (vr - 6)), .int (nI i)]) rfl ?_
      refine lv_icmp_ge (tgt := 45) hx hb d_M_inRow_11 (by decide) (fun hc => ?_) (fun hc => ?_)
      · exact absurd hc (by rw [blk_nI hn er hn4 hr2]; exact nI_ge (by omega) (by have := blk_le hn8 hr40; omega))
      · have hB := blk_le hn8 hr40
        refine lv_iload_n hx hb d_M_inRow_14 rfl (lv_at hl 1 rfl) ?_
        refine lv_aload_n hx hb d_M_inRow_15 rfl (lv_at hl 3 rfl) ?_
        refine lv_iload hx hb d_M_inRow_16 (lv_at hl 0 rfl) ?_
        refine kx_zald hx hb hK hP 14 3 rfl rfl i (rfl) (by omega) (by omega) d_M_inRow_18 ?_
        refine lv_if_eq (tgt := 36) hx hb d_M_inRow_19 (by decide) (fun hg => ?_) (fun hg => ?_)
        · refine lv_iconst (v := 0) hx hb d_M_inRow_36 (by decide) ?_
          refine lv_iadd hx hb d_M_inRow_37 ?_
          refine lv_istore_n (lv' := [(3, .int ((nI (cnt (mInRow fI n t) i)) + 0)), (4, .int (nI i)), (0, .ref (b 0)), (1, .ref (b 14)), (2, .int (nI t))]) hx hb d_M_inRow_38 rfl hl (by decide) rfl (fun ls hl => ?_)
          refine lv_iinc (v := nI (i + 1)) (lv' := [(4, .int (nI (i + 1))), (3, .int ((nI (cnt (mInRow fI n t) i)) + 0)), (0, .ref (b 0)), (1, .ref (b 14)), (2, .int (nI t))]) hx hb d_M_inRow_39 hl (k := 1) rfl (nI_1 i) (by decide) rfl (fun ls hl => ?_)
          refine lv_goto (tgt := 5) hx hb d_M_inRow_42 (by decide) ?_
          exact ih (i + 1) ls (by omega) (by rw [cnt_f2 (p := mInRow fI n t) (n := i) (by unfold mInRow; rw [nz_f hg]; rfl)]; exact (lv_sub hl [0, 1, 2, 3, 4] rfl))
        · refine lv_aload_n hx hb d_M_inRow_22 rfl (lv_at hl 2 rfl) ?_
          refine lv_iload hx hb d_M_inRow_23 (lv_at hl 0 rfl) ?_
          refine kx_VRW (As := [.int (nI i)]) (rest := [.int (nI (cnt (mInRow fI n t) i))]) ⟨hx, hb, hml, hown, hts⟩ (k_M_rowOf l dC dI k5 b vT vn vr vo vl vb fN fK fW fL fM fE fR fF fS fP fY fT fJ fI (nI i) (by rw [hn, show (nI n - 2) = nI (n - 2) from pk_sub (a := n) (b := 2) (by omega)]; exact nI_ne0 (by omega) (by omega))) (cwV 1 hts (goodV wm_M_121 wn_M_rowOf ws_M_rowOf wi_M wc_M_rowOf) rfl rfl rfl (by decide +kernel) ⟨Nat.le_of_ble_eq_true rfl, Nat.le_of_ble_eq_true rfl⟩) ⟨Nat.zero_le _, Nat.zero_le _⟩ hK hP hD 0 rfl rfl rfl hl.1 rfl (Nat.le_of_ble_eq_true rfl) d_M_inRow_25 ?_
          refine W.eq (g2 := F0 m 28 ls [.int (6 + (nI i) / (vn - 2)), .int (nI (cnt (mInRow fI n t) i))]) rfl ?_
          refine lv_iload_n hx hb d_M_inRow_28 rfl (lv_at hl 4 rfl) ?_
          refine lv_icmp_ne (tgt := 36) hx hb d_M_inRow_29 (by decide) (fun hh => ?_) (fun hh => ?_)
          · refine lv_iconst (v := 0) hx hb d_M_inRow_36 (by decide) ?_
            refine lv_iadd hx hb d_M_inRow_37 ?_
            refine lv_istore_n (lv' := [(3, .int ((nI (cnt (mInRow fI n t) i)) + 0)), (4, .int (nI i)), (0, .ref (b 0)), (1, .ref (b 14)), (2, .int (nI t))]) hx hb d_M_inRow_38 rfl hl (by decide) rfl (fun ls hl => ?_)
            refine lv_iinc (v := nI (i + 1)) (lv' := [(4, .int (nI (i + 1))), (3, .int ((nI (cnt (mInRow fI n t) i)) + 0)), (0, .ref (b 0)), (1, .ref (b 14)), (2, .int (nI t))]) hx hb d_M_inRow_39 hl (k := 1) rfl (nI_1 i) (by decide) rfl (fun ls hl => ?_)
            refine lv_goto (tgt := 5) hx hb d_M_inRow_42 (by decide) ?_
            exact ih (i + 1) ls (by omega) (by rw [cnt_f2 (p := mInRow fI n t) (n := i) (by unfold mInRow; rw [nz_t hg, decide_eq_false (by rw [← hn]; exact hh)]; rfl)]; exact (lv_sub hl [0, 1, 2, 3, 4] rfl))
          · refine lv_iconst (v := 1) hx hb d_M_inRow_32 (by decide) ?_
            refine lv_goto (tgt := 37) hx hb d_M_inRow_33 (by decide) ?_
            refine lv_iadd hx hb d_M_inRow_37 ?_
            refine lv_istore_n (lv' := [(3, .int ((nI (cnt (mInRow fI n t) i)) + 1)), (4, .int (nI i)), (0, .ref (b 0)), (1, .ref (b 14)), (2, .int (nI t))]) hx hb d_M_inRow_38 rfl hl (by decide) rfl (fun ls hl => ?_)
            refine lv_iinc (v := nI (i + 1)) (lv' := [(4, .int (nI (i + 1))), (3, .int ((nI (cnt (mInRow fI n t) i)) + 1)), (0, .ref (b 0)), (1, .ref (b 14)), (2, .int (nI t))]) hx hb d_M_inRow_39 hl (k := 1) rfl (nI_1 i) (by decide) rfl (fun ls hl => ?_)
            refine lv_goto (tgt := 5) hx hb d_M_inRow_42 (by decide) ?_
            exact ih (i + 1) ls (by omega) (by rw [cnt_t2 (p := mInRow fI n t) (n := i) (by unfold mInRow; rw [nz_t hg, decide_eq_true (by rw [← hn]; exact hh)]; rfl)]; exact (lv_sub hl [0, 1, 2, 3, 4] rfl))
  exact lp ((n - 2) * (r - 6)) 0 ls (by omega) (lv_sub hl [0, 1, 2, 3, 4] rfl)
set_option maxHeartbeats 4000000 in
set_option maxRecDepth 100000 in
theorem k_M_use (l : Launch) (dC : Nat → ClassId) (dI : Nat → Nat → Nat) (k5 : Nat → ClassId) (b : Nat → Nat) (vT vn vr vo vl vb : Int32) (fN fK fW fL fM fE fR fF fS fP fY fT fJ fI : FF) (n : Nat) (hn : vn = nI n) (hn4 : 4 ≤ n) (hn8 : n ≤ 8) (r : Nat) (er : vr = nI r) (hr2 : 12 ≤ r) (hr40 : r ≤ 40) : Met l y_M_use w_M_use ({ frames := 2, cells := 0, slots := 0, locals := 45 }) (kx_Pc (dC, dI) clA (tyL k5) (wMd b k5 vT vn vr vo vl vb fN fK fW fL fM fE fR fF fS fP fY fT fJ fI) [.ref (b 0)]) (kx_R (some (.int (mUse fW n r)))) 0 0 (fun _ => False) := by
  refine Met.ofW (cc := c_M_use) (maxL := 4) (ret := (some .int)) (by decide) rfl ?_
  intro p e s m args below meth c s₁ B hml hv
  obtain ⟨rfl, hP, hK, hD0⟩ := hv
  have hx := B.exec
  have hb := B.bytes
  have hr := B.returns
  have hts : ∀ w ∈ wsA, w.before _ s = true := fun w h => atoms_spec (ws := w_M_use) B.pre w (List.mem_cons_of_mem _ h)
  have hown : s.vm.findClass R_M = some m.cls := findClass_of_methodNamed B.named
  have hlocks := B.notSynchronized
  have hD := kx_D.self hD0
  have hS : va_S (kx_A (wMd b k5 vT vn vr vo vl vb fN fK fW fL fM fE fR fF fS fP fY fT fJ fI)) s.heap s.heap [] := va_S.rf
  have hl := lv_entry ([.ref (b 0)]) (n := 4) (Nat.le_of_ble_eq_true rfl)
  rw [lg_entry_eq]
  generalize (lg_sl ([.ref (b 0)]) ++ List.replicate (4 - (lg_sl ([.ref (b 0)])).length) Slot.unset).toArray = ls at hl ⊢
  have hl : lv_has ls 4 [(0, .ref (b 0))] := hl
  refine lv_aload_n hx hb d_M_use_0 rfl (lv_at hl 0 rfl) ?_
  refine kx_VRW (As := []) (rest := []) ⟨hx, hb, hml, hown, hts⟩ (k_M_many l dC dI k5 b vT vn vr vo vl vb fN fK fW fL fM fE fR fF fS fP fY fT fJ fI n hn hn4 hn8 r er hr2 hr40) (cwV 0 hts (goodV wm_M_124 wn_M_many ws_M_many wi_M wc_M_many) rfl rfl rfl (by decide +kernel) ⟨Nat.le_of_ble_eq_true rfl, Nat.le_of_ble_eq_true rfl⟩) ⟨Nat.zero_le _, Nat.zero_le _⟩ hK hP hD 0 rfl rfl rfl hl.1 rfl (Nat.le_of_ble_eq_true rfl) d_M_use_1 ?_
  refine W.eq (g2 := F0 m 4 ls [.int (nI (cnt (fun q => nz (fW q)) ((n - 2) * (r - 6))))]) rfl ?_
  refine lv_istore_n (lv' := [(1, .int (nI (cnt (fun q => nz (fW q)) ((n - 2) * (r - 6))))), (0, .ref (b 0))]) hx hb d_M_use_4 rfl hl (by decide) rfl (fun ls hl => ?_)
  refine lv_iconst (v := 0) hx hb d_M_use_5 (by decide) ?_
  refine lv_istore_n (lv' := [(2, .int 0), (1, .int (nI (cnt (fun q => nz (fW q)) ((n - 2) * (r - 6))))), (0, .ref (b 0))]) hx hb d_M_use_6 rfl hl (by decide) rfl (fun ls hl => ?_)
  refine lv_bipush (v := 6) hx hb d_M_use_7 (by decide) ?_
  refine lv_istore_n (lv' := [(3, .int 6), (2, .int 0), (1, .int (nI (cnt (fun q => nz (fW q)) ((n - 2) * (r - 6))))), (0, .ref (b 0))]) hx hb d_M_use_9 rfl hl (by decide) rfl (fun ls hl => ?_)
  have lp : ∀ (q9 i : Nat) (ls : Array Slot), i + q9 = (r - 6) → lv_has ls 4 [(3, .int (nI (6 + i))), (2, .int (nI (cnt (mRows fW n ((n - 2) * (r - 6))) i))), (1, .int (nI (cnt (fun q => nz (fW q)) ((n - 2) * (r - 6))))), (0, .ref (b 0))] → W p l e (headSpec w_M_use ({ frames := 2, cells := 0, slots := 0, locals := 45 })).room s m ([.ref (b 0)] : List Value).toArray below meth c s.heap [] 0 0 (MQ below (kx_R (some (.int (mUse fW n r)))) ([.ref (b 0)] : List Value).toArray s 0 0 (fun _ => False)) (F0 m 10 ls []) := by
    intro q9
    induction q9 with
    | zero =>
      intro i ls hi hl
      have hi : (r - 6) = i := by omega
      subst hi
      refine lv_iload_n hx hb d_M_use_10 rfl (lv_at hl 0 rfl) ?_
      refine lv_aload_n hx hb d_M_use_11 rfl (lv_at hl 3 rfl) ?_
      refine va_get (D := (dC, dI)) (ci := 3) (v := .int vr) (C := R_M) (T := T_M) (N := 20) hx hb hts wu_M hown hK hP 0 rfl rfl 2 (by decide) (hts _ wf_M_65) (fun _ h9 => h9) rfl d_M_use_12 ?_
      refine lv_icmp_ge (tgt := 44) hx hb d_M_use_15 (by decide) (fun hc => ?_) (fun hc => ?_)
      · refine lv_iload_n hx hb d_M_use_44 rfl (lv_at hl 2 rfl) ?_
        refine lv_if_ne (tgt := 52) hx hb d_M_use_45 (by decide) (fun hc_1 => ?_) (fun hc_1 => ?_)
        · refine lv_iconst (v := 1) hx hb d_M_use_52 (by decide) ?_
          refine lv_iload_n hx hb d_M_use_53 rfl (lv_at hl 2 rfl) ?_
          refine lv_iadd hx hb d_M_use_54 ?_
          refine lv_iconst (v := 2) hx hb d_M_use_55 (by decide) ?_
          refine lv_iload_n hx hb d_M_use_56 rfl (lv_at hl 1 rfl) ?_
          refine lv_imul hx hb d_M_use_57 ?_
          refine lv_iadd hx hb d_M_use_58 ?_
          exact W.iret (v := ((1 + (nI (cnt (fun q => nz (fW q)) ((n - 2) * (r - 6))))) + (2 * (nI (cnt (mRows fW n ((n - 2) * (r - 6))) (r - 6)))))) hx hb hr (fun t ht hW => kx_Ri (by unfold mUse; rw [if_neg hc_1]) ht) (fun _ h => absurd h List.not_mem_nil) d_M_use_59
        · refine lv_iconst (v := 0) hx hb d_M_use_48 (by decide) ?_
          refine lv_goto (tgt := 59) hx hb d_M_use_49 (by decide) ?_
          exact W.iret (v := 0) hx hb hr (fun t ht hW => kx_Ri (by unfold mUse; rw [if_pos hc_1]) ht) (fun _ h => absurd h List.not_mem_nil) d_M_use_59
      · exact absurd (by rw [er]; exact nI_le (by omega) (by omega)) hc
    | succ q9 ih =>
      intro i ls hi hl
      refine lv_iload_n hx hb d_M_use_10 rfl (lv_at hl 0 rfl) ?_
      refine lv_aload_n hx hb d_M_use_11 rfl (lv_at hl 3 rfl) ?_
      refine va_get (D := (dC, dI)) (ci := 3) (v := .int vr) (C := R_M) (T := T_M) (N := 20) hx hb hts wu_M hown hK hP 0 rfl rfl 2 (by decide) (hts _ wf_M_65) (fun _ h9 => h9) rfl d_M_use_12 ?_
      refine lv_icmp_ge (tgt := 44) hx hb d_M_use_15 (by decide) (fun hc => ?_) (fun hc => ?_)
      · exact absurd hc (by rw [er]; exact nI_ge (by omega) (by omega))
      · refine lv_iload_n hx hb d_M_use_18 rfl (lv_at hl 1 rfl) ?_
        refine lv_aload_n hx hb d_M_use_19 rfl (lv_at hl 3 rfl) ?_
        refine lv_aload_n hx hb d_M_use_20 rfl (lv_at hl 3 rfl) ?_
        refine va_get (D := (dC, dI)) (ci := 3) (v := .ref (b 3)) (C := R_M) (T := T_M) (N := 20) hx hb hts wu_M hown hK hP 0 rfl rfl 6 (by decide) (hts _ wf_M_16) (fun _ h9 => h9) rfl d_M_use_21 ?_
        refine lv_iload_n hx hb d_M_use_24 rfl (lv_at hl 0 rfl) ?_
        refine kx_VRW (As := [.ref (b 3), .int (nI (6 + i))]) (rest := [.int (nI (cnt (mRows fW n ((n - 2) * (r - 6))) i))]) ⟨hx, hb, hml, hown, hts⟩ (k_M_inRowW l dC dI k5 b vT vn vr vo vl vb fN fK fW fL fM fE fR fF fS fP fY fT fJ fI (6 + i) (by omega) n hn hn4 hn8 r er hr2 hr40) (cwV 2 hts (goodV wm_M_127 wn_M_inRow ws_M_inRow wi_M wc_M_inRow) rfl rfl rfl (by decide +kernel) ⟨Nat.le_of_ble_eq_true rfl, Nat.le_of_ble_eq_true rfl⟩) ⟨Nat.zero_le _, Nat.zero_le _⟩ hK hP hD 0 rfl rfl rfl hl.1 rfl (Nat.le_of_ble_eq_true rfl) d_M_use_25 ?_
        refine W.eq (g2 := F0 m 28 ls [.int (nI (cnt (mInRow fW n (6 + i)) ((n - 2) * (r - 6)))), .int (nI (cnt (mRows fW n ((n - 2) * (r - 6))) i))]) rfl ?_
        refine lv_if_le (tgt := 35) hx hb d_M_use_28 (by decide) (fun hd => ?_) (fun hd => ?_)
        · refine lv_iconst (v := 0) hx hb d_M_use_35 (by decide) ?_
          refine lv_iadd hx hb d_M_use_36 ?_
          refine lv_istore_n (lv' := [(2, .int ((nI (cnt (mRows fW n ((n - 2) * (r - 6))) i)) + 0)), (3, .int (nI (6 + i))), (1, .int (nI (cnt (fun q => nz (fW q)) ((n - 2) * (r - 6))))), (0, .ref (b 0))]) hx hb d_M_use_37 rfl hl (by decide) rfl (fun ls hl => ?_)
          refine lv_iinc (v := nI (6 + (i + 1))) (lv' := [(3, .int (nI (6 + (i + 1)))), (2, .int ((nI (cnt (mRows fW n ((n - 2) * (r - 6))) i)) + 0)), (1, .int (nI (cnt (fun q => nz (fW q)) ((n - 2) * (r - 6))))), (0, .ref (b 0))]) hx hb d_M_use_38 hl (k := 1) rfl (nI_1 (6 + i)) (by decide) rfl (fun ls hl => ?_)
          refine lv_goto (tgt := 10) hx hb d_M_use_41 (by decide) ?_
          exact ih (i + 1) ls (by omega) (by rw [cnt_f2 (p := mRows fW n ((n - 2) * (r - 6))) (n := i) (decide_eq_false (fun z => z hd))]; exact (lv_sub hl [0, 1, 2, 3] rfl))
        · refine lv_iconst (v := 1) hx hb d_M_use_31 (by decide) ?_
          refine lv_goto (tgt := 36) hx hb d_M_use_32 (by decide) ?_
          refine lv_iadd hx hb d_M_use_36 ?_
          refine lv_istore_n (lv' := [(2, .int ((nI (cnt (mRows fW n ((n - 2) * (r - 6))) i)) + 1)), (3, .int (nI (6 + i))), (1, .int (nI (cnt (fun q => nz (fW q)) ((n - 2) * (r - 6))))), (0, .ref (b 0))]) hx hb d_M_use_37 rfl hl (by decide) rfl (fun ls hl => ?_)
          refine lv_iinc (v := nI (6 + (i + 1))) (lv' := [(3, .int (nI (6 + (i + 1)))), (2, .int ((nI (cnt (mRows fW n ((n - 2) * (r - 6))) i)) + 1)), (1, .int (nI (cnt (fun q => nz (fW q)) ((n - 2) * (r - 6))))), (0, .ref (b 0))]) hx hb d_M_use_38 hl (k := 1) rfl (nI_1 (6 + i)) (by decide) rfl (fun ls hl => ?_)
          refine lv_goto (tgt := 10) hx hb d_M_use_41 (by decide) ?_
          exact ih (i + 1) ls (by omega) (by rw [cnt_t2 (p := mRows fW n ((n - 2) * (r - 6))) (n := i) (decide_eq_true hd)]; exact (lv_sub hl [0, 1, 2, 3] rfl))
  exact lp (r - 6) 0 ls (by omega) (lv_sub hl [0, 1, 2, 3] rfl)
set_option maxHeartbeats 4000000 in
set_option maxRecDepth 100000 in
theorem k_M_copyNJ (l : Launch) (dC : Nat → ClassId) (dI : Nat → Nat → Nat) (k5 : Nat → ClassId) (b : Nat → Nat) (vT vn vr vo vl vb : Int32) (fN fK fW fL fM fE fR fF fS fP fY fT fJ fI : FF) (q : Nat) (hq : q < 204) : Met l y_M_copy w_M_copy ({ frames := 0, cells := 0, slots := 0, locals := 0 }) (kx_Pc (dC, dI) clA (tyL k5) (wMd b k5 vT vn vr vo vl vb fN fK fW fL fM fE fR fF fS fP fY fT fJ fI) [.ref (b 0), .ref (b 1), .ref (b 13), .int (nI q)]) (kx_Q (dC, dI) clA (wMd b k5 vT vn vr vo vl vb fN fK fW fL fM fE fR fF fS fP fY fT fJ fI) (wMd b k5 vT vn vr vo vl vb fN fK fW fL fM fE fR fF fS fP fY fT (mCopy fN fJ (64 * q) 64) fI) none) 0 0 (kx_A (wMd b k5 vT vn vr vo vl vb fN fK fW fL fM fE fR fF fS fP fY fT fJ fI)) := by
  refine Met.ofW (cc := c_M_copy) (maxL := 5) (ret := none) (by decide) rfl ?_
  intro p e s m args below meth c s₁ B hml hv
  obtain ⟨rfl, hP, hK, hD0⟩ := hv
  have hx := B.exec
  have hb := B.bytes
  have hr := B.returns
  have hts : ∀ w ∈ wsA, w.before _ s = true := fun w h => atoms_spec (ws := w_M_copy) B.pre w (List.mem_cons_of_mem _ h)
  have hown : s.vm.findClass R_M = some m.cls := findClass_of_methodNamed B.named
  have hlocks := B.notSynchronized
  have hD := kx_D.self hD0
  have hS : va_S (kx_A (wMd b k5 vT vn vr vo vl vb fN fK fW fL fM fE fR fF fS fP fY fT fJ fI)) s.heap s.heap [] := va_S.rf
  have hl := lv_entry ([.ref (b 0), .ref (b 1), .ref (b 13), .int (nI q)]) (n := 5) (Nat.le_of_ble_eq_true rfl)
  rw [lg_entry_eq]
  generalize (lg_sl ([.ref (b 0), .ref (b 1), .ref (b 13), .int (nI q)]) ++ List.replicate (5 - (lg_sl ([.ref (b 0), .ref (b 1), .ref (b 13), .int (nI q)])).length) Slot.unset).toArray = ls at hl ⊢
  have hl : lv_has ls 5 [(0, .ref (b 0)), (1, .ref (b 1)), (2, .ref (b 13)), (3, .int (nI q))] := hl
  refine lv_bipush (v := 64) hx hb d_M_copy_0 (by decide) ?_
  refine lv_iload_n hx hb d_M_copy_2 rfl (lv_at hl 3 rfl) ?_
  refine lv_imul hx hb d_M_copy_3 ?_
  refine lv_istore (lv' := [(4, .int (64 * (nI q))), (0, .ref (b 0)), (1, .ref (b 1)), (2, .ref (b 13)), (3, .int (nI q))]) hx hb d_M_copy_4 hl (by decide) rfl (fun ls hl => ?_)
  have lp : ∀ (q9 i : Nat) (H : Heap) (locs : List Loc) (ls : Array Slot), i + q9 = 64 → va_P (dC, dI) clA (wMd b k5 vT vn vr vo vl vb fN fK fW fL fM fE fR fF fS fP fY fT (mCopy fN fJ (64 * q) i) fI) H → va_D (kx_A (wMd b k5 vT vn vr vo vl vb fN fK fW fL fM fE fR fF fS fP fY fT fJ fI)) (wMd b k5 vT vn vr vo vl vb fN fK fW fL fM fE fR fF fS fP fY fT (mCopy fN fJ (64 * q) i) fI) → va_S (kx_A (wMd b k5 vT vn vr vo vl vb fN fK fW fL fM fE fR fF fS fP fY fT fJ fI)) s.heap H locs → lv_has ls 5 [(4, .int (nI (64 * q + i))), (0, .ref (b 0)), (1, .ref (b 1)), (2, .ref (b 13)), (3, .int (nI q))] → W p l e (headSpec w_M_copy ({ frames := 0, cells := 0, slots := 0, locals := 0 })).room s m ([.ref (b 0), .ref (b 1), .ref (b 13), .int (nI q)] : List Value).toArray below meth c H locs 0 0 (MQ below (kx_Q (dC, dI) clA (wMd b k5 vT vn vr vo vl vb fN fK fW fL fM fE fR fF fS fP fY fT fJ fI) (wMd b k5 vT vn vr vo vl vb fN fK fW fL fM fE fR fF fS fP fY fT (mCopy fN fJ (64 * q) 64) fI) none) ([.ref (b 0), .ref (b 1), .ref (b 13), .int (nI q)] : List Value).toArray s 0 0 (kx_A (wMd b k5 vT vn vr vo vl vb fN fK fW fL fM fE fR fF fS fP fY fT fJ fI))) (F0 m 6 ls []) := by
    intro q9
    induction q9 with
    | zero =>
      intro i H locs ls hi hP hD hS hl
      have hi : 64 = i := by omega
      subst hi
      refine lv_iload hx hb d_M_copy_6 (lv_at hl 0 rfl) ?_
      refine lv_bipush (v := 64) hx hb d_M_copy_8 (by decide) ?_
      refine lv_iload_n hx hb d_M_copy_10 rfl (lv_at hl 4 rfl) ?_
      refine lv_imul hx hb d_M_copy_11 ?_
      refine lv_bipush (v := 64) hx hb d_M_copy_12 (by decide) ?_
      refine lv_iadd hx hb d_M_copy_14 ?_
      refine lv_icmp_ge (tgt := 32) hx hb d_M_copy_15 (by decide) (fun hc => ?_) (fun hc => ?_)
      · exact W.vret hx hb hr (fun t ht hW => kx_Qv ht hP (rfl) hS rfl) hS.2.2 d_M_copy_32
      · exact absurd (by rw [show (64 : Int32) * nI q = nI (64 * q) from pk_mul 64 q, show nI (64 * q) + 64 = nI (64 * q + 64) from nI_add _ 64]; exact nI_le (by omega) (by omega)) hc
    | succ q9 ih =>
      intro i H locs ls hi hP hD hS hl
      refine lv_iload hx hb d_M_copy_6 (lv_at hl 0 rfl) ?_
      refine lv_bipush (v := 64) hx hb d_M_copy_8 (by decide) ?_
      refine lv_iload_n hx hb d_M_copy_10 rfl (lv_at hl 4 rfl) ?_
      refine lv_imul hx hb d_M_copy_11 ?_
      refine lv_bipush (v := 64) hx hb d_M_copy_12 (by decide) ?_
      refine lv_iadd hx hb d_M_copy_14 ?_
      refine lv_icmp_ge (tgt := 32) hx hb d_M_copy_15 (by decide) (fun hc => ?_) (fun hc => ?_)
      · exact absurd hc (by rw [show (64 : Int32) * nI q = nI (64 * q) from pk_mul 64 q, show nI (64 * q) + 64 = nI (64 * q + 64) from nI_add _ 64]; exact nI_ge (by omega) (by omega))
      · refine lv_aload_n hx hb d_M_copy_18 rfl (lv_at hl 3 rfl) ?_
        refine lv_iload hx hb d_M_copy_19 (lv_at hl 0 rfl) ?_
        refine lv_aload_n hx hb d_M_copy_21 rfl (lv_at hl 2 rfl) ?_
        refine lv_iload hx hb d_M_copy_22 (lv_at hl 0 rfl) ?_
        refine kx_bald hx hb hK hP 1 2 rfl rfl (64 * q + i) (rfl) (by omega) (by omega) d_M_copy_24 ?_
        refine kx_bast (ws' := (wMd b k5 vT vn vr vo vl vb fN fK fW fL fM fE fR fF fS fP fY fT (mCopy fN fJ (64 * q) (i + 1)) fI)) hx hb hK hP hD hS 13 2 rfl rfl (64 * q + i) (rfl) (by omega) (by omega) rfl d_M_copy_25 (fun H locs hP hD hS => ?_)
        refine lv_iinc (v := nI (64 * q + (i + 1))) (lv' := [(4, .int (nI (64 * q + (i + 1)))), (0, .ref (b 0)), (1, .ref (b 1)), (2, .ref (b 13)), (3, .int (nI q))]) hx hb d_M_copy_26 hl (k := 0) rfl (nI_1 (64 * q + i)) (by decide) rfl (fun ls hl => ?_)
        refine lv_goto (tgt := 6) hx hb d_M_copy_29 (by decide) ?_
        exact ih (i + 1) H locs ls (by omega) hP hD hS (lv_sub hl [0, 1, 2, 3, 4] rfl)
  have hl : lv_has ls 5 [(4, .int (nI (64 * q + 0))), (0, .ref (b 0)), (1, .ref (b 1)), (2, .ref (b 13)), (3, .int (nI q))] := by have h9 := (lv_sub hl [0, 1, 2, 3, 4] rfl : lv_has ls 5 [(4, .int (64 * (nI q))), (0, .ref (b 0)), (1, .ref (b 1)), (2, .ref (b 13)), (3, .int (nI q))]); rw [show (64 : Int32) * nI q = nI (64 * q) from pk_mul 64 q] at h9; exact h9
  exact lp 64 0 s.heap [] ls (by omega) hP hD hS hl
set_option maxHeartbeats 4000000 in
set_option maxRecDepth 100000 in
theorem k_M_copyJK (l : Launch) (dC : Nat → ClassId) (dI : Nat → Nat → Nat) (k5 : Nat → ClassId) (b : Nat → Nat) (vT vn vr vo vl vb : Int32) (fN fK fW fL fM fE fR fF fS fP fY fT fJ fI : FF) (q : Nat) (hq : q < 204) : Met l y_M_copy w_M_copy ({ frames := 0, cells := 0, slots := 0, locals := 0 }) (kx_Pc (dC, dI) clA (tyL k5) (wMd b k5 vT vn vr vo vl vb fN fK fW fL fM fE fR fF fS fP fY fT fJ fI) [.ref (b 0), .ref (b 13), .ref (b 2), .int (nI q)]) (kx_Q (dC, dI) clA (wMd b k5 vT vn vr vo vl vb fN fK fW fL fM fE fR fF fS fP fY fT fJ fI) (wMd b k5 vT vn vr vo vl vb fN (mCopy fJ fK (64 * q) 64) fW fL fM fE fR fF fS fP fY fT fJ fI) none) 0 0 (kx_A (wMd b k5 vT vn vr vo vl vb fN fK fW fL fM fE fR fF fS fP fY fT fJ fI)) := by
  refine Met.ofW (cc := c_M_copy) (maxL := 5) (ret := none) (by decide) rfl ?_
  intro p e s m args below meth c s₁ B hml hv
  obtain ⟨rfl, hP, hK, hD0⟩ := hv
  have hx := B.exec
  have hb := B.bytes
  have hr := B.returns
  have hts : ∀ w ∈ wsA, w.before _ s = true := fun w h => atoms_spec (ws := w_M_copy) B.pre w (List.mem_cons_of_mem _ h)
  have hown : s.vm.findClass R_M = some m.cls := findClass_of_methodNamed B.named
  have hlocks := B.notSynchronized
  have hD := kx_D.self hD0
  have hS : va_S (kx_A (wMd b k5 vT vn vr vo vl vb fN fK fW fL fM fE fR fF fS fP fY fT fJ fI)) s.heap s.heap [] := va_S.rf
  have hl := lv_entry ([.ref (b 0), .ref (b 13), .ref (b 2), .int (nI q)]) (n := 5) (Nat.le_of_ble_eq_true rfl)
  rw [lg_entry_eq]
  generalize (lg_sl ([.ref (b 0), .ref (b 13), .ref (b 2), .int (nI q)]) ++ List.replicate (5 - (lg_sl ([.ref (b 0), .ref (b 13), .ref (b 2), .int (nI q)])).length) Slot.unset).toArray = ls at hl ⊢
  have hl : lv_has ls 5 [(0, .ref (b 0)), (1, .ref (b 13)), (2, .ref (b 2)), (3, .int (nI q))] := hl
  refine lv_bipush (v := 64) hx hb d_M_copy_0 (by decide) ?_
  refine lv_iload_n hx hb d_M_copy_2 rfl (lv_at hl 3 rfl) ?_
  refine lv_imul hx hb d_M_copy_3 ?_
  refine lv_istore (lv' := [(4, .int (64 * (nI q))), (0, .ref (b 0)), (1, .ref (b 13)), (2, .ref (b 2)), (3, .int (nI q))]) hx hb d_M_copy_4 hl (by decide) rfl (fun ls hl => ?_)
  have lp : ∀ (q9 i : Nat) (H : Heap) (locs : List Loc) (ls : Array Slot), i + q9 = 64 → va_P (dC, dI) clA (wMd b k5 vT vn vr vo vl vb fN (mCopy fJ fK (64 * q) i) fW fL fM fE fR fF fS fP fY fT fJ fI) H → va_D (kx_A (wMd b k5 vT vn vr vo vl vb fN fK fW fL fM fE fR fF fS fP fY fT fJ fI)) (wMd b k5 vT vn vr vo vl vb fN (mCopy fJ fK (64 * q) i) fW fL fM fE fR fF fS fP fY fT fJ fI) → va_S (kx_A (wMd b k5 vT vn vr vo vl vb fN fK fW fL fM fE fR fF fS fP fY fT fJ fI)) s.heap H locs → lv_has ls 5 [(4, .int (nI (64 * q + i))), (0, .ref (b 0)), (1, .ref (b 13)), (2, .ref (b 2)), (3, .int (nI q))] → W p l e (headSpec w_M_copy ({ frames := 0, cells := 0, slots := 0, locals := 0 })).room s m ([.ref (b 0), .ref (b 13), .ref (b 2), .int (nI q)] : List Value).toArray below meth c H locs 0 0 (MQ below (kx_Q (dC, dI) clA (wMd b k5 vT vn vr vo vl vb fN fK fW fL fM fE fR fF fS fP fY fT fJ fI) (wMd b k5 vT vn vr vo vl vb fN (mCopy fJ fK (64 * q) 64) fW fL fM fE fR fF fS fP fY fT fJ fI) none) ([.ref (b 0), .ref (b 13), .ref (b 2), .int (nI q)] : List Value).toArray s 0 0 (kx_A (wMd b k5 vT vn vr vo vl vb fN fK fW fL fM fE fR fF fS fP fY fT fJ fI))) (F0 m 6 ls []) := by
    intro q9
    induction q9 with
    | zero =>
      intro i H locs ls hi hP hD hS hl
      have hi : 64 = i := by omega
      subst hi
      refine lv_iload hx hb d_M_copy_6 (lv_at hl 0 rfl) ?_
      refine lv_bipush (v := 64) hx hb d_M_copy_8 (by decide) ?_
      refine lv_iload_n hx hb d_M_copy_10 rfl (lv_at hl 4 rfl) ?_
      refine lv_imul hx hb d_M_copy_11 ?_
      refine lv_bipush (v := 64) hx hb d_M_copy_12 (by decide) ?_
      refine lv_iadd hx hb d_M_copy_14 ?_
      refine lv_icmp_ge (tgt := 32) hx hb d_M_copy_15 (by decide) (fun hc => ?_) (fun hc => ?_)
      · exact W.vret hx hb hr (fun t ht hW => kx_Qv ht hP (rfl) hS rfl) hS.2.2 d_M_copy_32
      · exact absurd (by rw [show (64 : Int32) * nI q = nI (64 * q) from pk_mul 64 q, show nI (64 * q) + 64 = nI (64 * q + 64) from nI_add _ 64]; exact nI_le (by omega) (by omega)) hc
    | succ q9 ih =>
      intro i H locs ls hi hP hD hS hl
      refine lv_iload hx hb d_M_copy_6 (lv_at hl 0 rfl) ?_
      refine lv_bipush (v := 64) hx hb d_M_copy_8 (by decide) ?_
      refine lv_iload_n hx hb d_M_copy_10 rfl (lv_at hl 4 rfl) ?_
      refine lv_imul hx hb d_M_copy_11 ?_
      refine lv_bipush (v := 64) hx hb d_M_copy_12 (by decide) ?_
      refine lv_iadd hx hb d_M_copy_14 ?_
      refine lv_icmp_ge (tgt := 32) hx hb d_M_copy_15 (by decide) (fun hc => ?_) (fun hc => ?_)
      · exact absurd hc (by rw [show (64 : Int32) * nI q = nI (64 * q) from pk_mul 64 q, show nI (64 * q) + 64 = nI (64 * q + 64) from nI_add _ 64]; exact nI_ge (by omega) (by omega))
      · refine lv_aload_n hx hb d_M_copy_18 rfl (lv_at hl 3 rfl) ?_
        refine lv_iload hx hb d_M_copy_19 (lv_at hl 0 rfl) ?_
        refine lv_aload_n hx hb d_M_copy_21 rfl (lv_at hl 2 rfl) ?_
        refine lv_iload hx hb d_M_copy_22 (lv_at hl 0 rfl) ?_
        refine kx_bald hx hb hK hP 13 2 rfl rfl (64 * q + i) (rfl) (by omega) (by omega) d_M_copy_24 ?_
        refine kx_bast (ws' := (wMd b k5 vT vn vr vo vl vb fN (mCopy fJ fK (64 * q) (i + 1)) fW fL fM fE fR fF fS fP fY fT fJ fI)) hx hb hK hP hD hS 2 2 rfl rfl (64 * q + i) (rfl) (by omega) (by omega) rfl d_M_copy_25 (fun H locs hP hD hS => ?_)
        refine lv_iinc (v := nI (64 * q + (i + 1))) (lv' := [(4, .int (nI (64 * q + (i + 1)))), (0, .ref (b 0)), (1, .ref (b 13)), (2, .ref (b 2)), (3, .int (nI q))]) hx hb d_M_copy_26 hl (k := 0) rfl (nI_1 (64 * q + i)) (by decide) rfl (fun ls hl => ?_)
        refine lv_goto (tgt := 6) hx hb d_M_copy_29 (by decide) ?_
        exact ih (i + 1) H locs ls (by omega) hP hD hS (lv_sub hl [0, 1, 2, 3, 4] rfl)
  have hl : lv_has ls 5 [(4, .int (nI (64 * q + 0))), (0, .ref (b 0)), (1, .ref (b 13)), (2, .ref (b 2)), (3, .int (nI q))] := by have h9 := (lv_sub hl [0, 1, 2, 3, 4] rfl : lv_has ls 5 [(4, .int (64 * (nI q))), (0, .ref (b 0)), (1, .ref (b 13)), (2, .ref (b 2)), (3, .int (nI q))]); rw [show (64 : Int32) * nI q = nI (64 * q) from pk_mul 64 q] at h9; exact h9
  exact lp 64 0 s.heap [] ls (by omega) hP hD hS hl
set_option maxHeartbeats 4000000 in
set_option maxRecDepth 100000 in
theorem k_M_copyKN (l : Launch) (dC : Nat → ClassId) (dI : Nat → Nat → Nat) (k5 : Nat → ClassId) (b : Nat → Nat) (vT vn vr vo vl vb : Int32) (fN fK fW fL fM fE fR fF fS fP fY fT fJ fI : FF) (q : Nat) (hq : q < 204) : Met l y_M_copy w_M_copy ({ frames := 0, cells := 0, slots := 0, locals := 0 }) (kx_Pc (dC, dI) clA (tyL k5) (wMd b k5 vT vn vr vo vl vb fN fK fW fL fM fE fR fF fS fP fY fT fJ fI) [.ref (b 0), .ref (b 2), .ref (b 1), .int (nI q)]) (kx_Q (dC, dI) clA (wMd b k5 vT vn vr vo vl vb fN fK fW fL fM fE fR fF fS fP fY fT fJ fI) (wMd b k5 vT vn vr vo vl vb (mCopy fK fN (64 * q) 64) fK fW fL fM fE fR fF fS fP fY fT fJ fI) none) 0 0 (kx_A (wMd b k5 vT vn vr vo vl vb fN fK fW fL fM fE fR fF fS fP fY fT fJ fI)) := by
  refine Met.ofW (cc := c_M_copy) (maxL := 5) (ret := none) (by decide) rfl ?_
  intro p e s m args below meth c s₁ B hml hv
  obtain ⟨rfl, hP, hK, hD0⟩ := hv
  have hx := B.exec
  have hb := B.bytes
  have hr := B.returns
  have hts : ∀ w ∈ wsA, w.before _ s = true := fun w h => atoms_spec (ws := w_M_copy) B.pre w (List.mem_cons_of_mem _ h)
  have hown : s.vm.findClass R_M = some m.cls := findClass_of_methodNamed B.named
  have hlocks := B.notSynchronized
  have hD := kx_D.self hD0
  have hS : va_S (kx_A (wMd b k5 vT vn vr vo vl vb fN fK fW fL fM fE fR fF fS fP fY fT fJ fI)) s.heap s.heap [] := va_S.rf
  have hl := lv_entry ([.ref (b 0), .ref (b 2), .ref (b 1), .int (nI q)]) (n := 5) (Nat.le_of_ble_eq_true rfl)
  rw [lg_entry_eq]
  generalize (lg_sl ([.ref (b 0), .ref (b 2), .ref (b 1), .int (nI q)]) ++ List.replicate (5 - (lg_sl ([.ref (b 0), .ref (b 2), .ref (b 1), .int (nI q)])).length) Slot.unset).toArray = ls at hl ⊢
  have hl : lv_has ls 5 [(0, .ref (b 0)), (1, .ref (b 2)), (2, .ref (b 1)), (3, .int (nI q))] := hl
  refine lv_bipush (v := 64) hx hb d_M_copy_0 (by decide) ?_
  refine lv_iload_n hx hb d_M_copy_2 rfl (lv_at hl 3 rfl) ?_
  refine lv_imul hx hb d_M_copy_3 ?_
  refine lv_istore (lv' := [(4, .int (64 * (nI q))), (0, .ref (b 0)), (1, .ref (b 2)), (2, .ref (b 1)), (3, .int (nI q))]) hx hb d_M_copy_4 hl (by decide) rfl (fun ls hl => ?_)
  have lp : ∀ (q9 i : Nat) (H : Heap) (locs : List Loc) (ls : Array Slot), i + q9 = 64 → va_P (dC, dI) clA (wMd b k5 vT vn vr vo vl vb (mCopy fK fN (64 * q) i) fK fW fL fM fE fR fF fS fP fY fT fJ fI) H → va_D (kx_A (wMd b k5 vT vn vr vo vl vb fN fK fW fL fM fE fR fF fS fP fY fT fJ fI)) (wMd b k5 vT vn vr vo vl vb (mCopy fK fN (64 * q) i) fK fW fL fM fE fR fF fS fP fY fT fJ fI) → va_S (kx_A (wMd b k5 vT vn vr vo vl vb fN fK fW fL fM fE fR fF fS fP fY fT fJ fI)) s.heap H locs → lv_has ls 5 [(4, .int (nI (64 * q + i))), (0, .ref (b 0)), (1, .ref (b 2)), (2, .ref (b 1)), (3, .int (nI q))] → W p l e (headSpec w_M_copy ({ frames := 0, cells := 0, slots := 0, locals := 0 })).room s m ([.ref (b 0), .ref (b 2), .ref (b 1), .int (nI q)] : List Value).toArray below meth c H locs 0 0 (MQ below (kx_Q (dC, dI) clA (wMd b k5 vT vn vr vo vl vb fN fK fW fL fM fE fR fF fS fP fY fT fJ fI) (wMd b k5 vT vn vr vo vl vb (mCopy fK fN (64 * q) 64) fK fW fL fM fE fR fF fS fP fY fT fJ fI) none) ([.ref (b 0), .ref (b 2), .ref (b 1), .int (nI q)] : List Value).toArray s 0 0 (kx_A (wMd b k5 vT vn vr vo vl vb fN fK fW fL fM fE fR fF fS fP fY fT fJ fI))) (F0 m 6 ls []) := by
    intro q9
    induction q9 with
    | zero =>
      intro i H locs ls hi hP hD hS hl
      have hi : 64 = i := by omega
      subst hi
      refine lv_iload hx hb d_M_copy_6 (lv_at hl 0 rfl) ?_
      refine lv_bipush (v := 64) hx hb d_M_copy_8 (by decide) ?_
      refine lv_iload_n hx hb d_M_copy_10 rfl (lv_at hl 4 rfl) ?_
      refine lv_imul hx hb d_M_copy_11 ?_
      refine lv_bipush (v := 64) hx hb d_M_copy_12 (by decide) ?_
      refine lv_iadd hx hb d_M_copy_14 ?_
      refine lv_icmp_ge (tgt := 32) hx hb d_M_copy_15 (by decide) (fun hc => ?_) (fun hc => ?_)
      · exact W.vret hx hb hr (fun t ht hW => kx_Qv ht hP (rfl) hS rfl) hS.2.2 d_M_copy_32
      · exact absurd (by rw [show (64 : Int32) * nI q = nI (64 * q) from pk_mul 64 q, show nI (64 * q) + 64 = nI (64 * q + 64) from nI_add _ 64]; exact nI_le (by omega) (by omega)) hc
    | succ q9 ih =>
      intro i H locs ls hi hP hD hS hl
      refine lv_iload hx hb d_M_copy_6 (lv_at hl 0 rfl) ?_
      refine lv_bipush (v := 64) hx hb d_M_copy_8 (by decide) ?_
      refine lv_iload_n hx hb d_M_copy_10 rfl (lv_at hl 4 rfl) ?_
      refine lv_imul hx hb d_M_copy_11 ?_
      refine lv_bipush (v := 64) hx hb d_M_copy_12 (by decide) ?_
      refine lv_iadd hx hb d_M_copy_14 ?_
      refine lv_icmp_ge (tgt := 32) hx hb d_M_copy_15 (by decide) (fun hc => ?_) (fun hc => ?_)
      · exact absurd hc (by rw [show (64 : Int32) * nI q = nI (64 * q) from pk_mul 64 q, show nI (64 * q) + 64 = nI (64 * q + 64) from nI_add _ 64]; exact nI_ge (by omega) (by omega))
      · refine lv_aload_n hx hb d_M_copy_18 rfl (lv_at hl 3 rfl) ?_
        refine lv_iload hx hb d_M_copy_19 (lv_at hl 0 rfl) ?_
        refine lv_aload_n hx hb d_M_copy_21 rfl (lv_at hl 2 rfl) ?_
        refine lv_iload hx hb d_M_copy_22 (lv_at hl 0 rfl) ?_
        refine kx_bald hx hb hK hP 2 2 rfl rfl (64 * q + i) (rfl) (by omega) (by omega) d_M_copy_24 ?_
        refine kx_bast (ws' := (wMd b k5 vT vn vr vo vl vb (mCopy fK fN (64 * q) (i + 1)) fK fW fL fM fE fR fF fS fP fY fT fJ fI)) hx hb hK hP hD hS 1 2 rfl rfl (64 * q + i) (rfl) (by omega) (by omega) rfl d_M_copy_25 (fun H locs hP hD hS => ?_)
        refine lv_iinc (v := nI (64 * q + (i + 1))) (lv' := [(4, .int (nI (64 * q + (i + 1)))), (0, .ref (b 0)), (1, .ref (b 2)), (2, .ref (b 1)), (3, .int (nI q))]) hx hb d_M_copy_26 hl (k := 0) rfl (nI_1 (64 * q + i)) (by decide) rfl (fun ls hl => ?_)
        refine lv_goto (tgt := 6) hx hb d_M_copy_29 (by decide) ?_
        exact ih (i + 1) H locs ls (by omega) hP hD hS (lv_sub hl [0, 1, 2, 3, 4] rfl)
  have hl : lv_has ls 5 [(4, .int (nI (64 * q + 0))), (0, .ref (b 0)), (1, .ref (b 2)), (2, .ref (b 1)), (3, .int (nI q))] := by have h9 := (lv_sub hl [0, 1, 2, 3, 4] rfl : lv_has ls 5 [(4, .int (64 * (nI q))), (0, .ref (b 0)), (1, .ref (b 2)), (2, .ref (b 1)), (3, .int (nI q))]); rw [show (64 : Int32) * nI q = nI (64 * q) from pk_mul 64 q] at h9; exact h9
  exact lp 64 0 s.heap [] ls (by omega) hP hD hS hl
set_option maxHeartbeats 4000000 in
set_option maxRecDepth 100000 in
theorem k_M_place (l : Launch) (dC : Nat → ClassId) (dI : Nat → Nat → Nat) (k5 : Nat → ClassId) (b : Nat → Nat) (vT vn vr vo vl vb : Int32) (fN fK fW fL fM fE fR fF fS fP fY fT fJ fI : FF) (n : Nat) (hn : vn = nI n) (hn4 : 4 ≤ n) (hn8 : n ≤ 8) (r : Nat) (er : vr = nI r) (hr2 : 12 ≤ r) (hr40 : r ≤ 40) : Met l y_M_place w_M_place ({ frames := 1, cells := 0, slots := 0, locals := 24 }) (kx_Pc (dC, dI) clA (tyL k5) (wMd b k5 vT vn vr vo vl vb fN fK fW fL fM fE fR fF fS fP fY fT fJ fI) [.ref (b 0)]) (kx_Q (dC, dI) clA (wMd b k5 vT vn vr vo vl vb fN fK fW fL fM fE fR fF fS fP fY fT fJ fI) (wMd b k5 vT vn vr vo vl vb fN (mPlace fI fJ fK ((n - 2) * (r - 6))) fW fL fM fE fR fF fS fP fY fT fJ fI) none) 0 0 (kx_A (wMd b k5 vT vn vr vo vl vb fN fK fW fL fM fE fR fF fS fP fY fT fJ fI)) := by
  refine Met.ofW (cc := c_M_place) (maxL := 2) (ret := none) (by decide) rfl ?_
  intro p e s m args below meth c s₁ B hml hv
  obtain ⟨rfl, hP, hK, hD0⟩ := hv
  have hx := B.exec
  have hb := B.bytes
  have hr := B.returns
  have hts : ∀ w ∈ wsA, w.before _ s = true := fun w h => atoms_spec (ws := w_M_place) B.pre w (List.mem_cons_of_mem _ h)
  have hown : s.vm.findClass R_M = some m.cls := findClass_of_methodNamed B.named
  have hlocks := B.notSynchronized
  have hD := kx_D.self hD0
  have hS : va_S (kx_A (wMd b k5 vT vn vr vo vl vb fN fK fW fL fM fE fR fF fS fP fY fT fJ fI)) s.heap s.heap [] := va_S.rf
  have hl := lv_entry ([.ref (b 0)]) (n := 2) (Nat.le_of_ble_eq_true rfl)
  rw [lg_entry_eq]
  generalize (lg_sl ([.ref (b 0)]) ++ List.replicate (2 - (lg_sl ([.ref (b 0)])).length) Slot.unset).toArray = ls at hl ⊢
  have hl : lv_has ls 2 [(0, .ref (b 0))] := hl
  refine lv_iconst (v := 0) hx hb d_M_place_0 (by decide) ?_
  refine lv_istore_n (lv' := [(1, .int 0), (0, .ref (b 0))]) hx hb d_M_place_1 rfl hl (by decide) rfl (fun ls hl => ?_)
  have lp : ∀ (q9 i : Nat) (H : Heap) (locs : List Loc) (ls : Array Slot), i + q9 = ((n - 2) * (r - 6)) → va_P (dC, dI) clA (wMd b k5 vT vn vr vo vl vb fN (mPlace fI fJ fK i) fW fL fM fE fR fF fS fP fY fT fJ fI) H → va_D (kx_A (wMd b k5 vT vn vr vo vl vb fN fK fW fL fM fE fR fF fS fP fY fT fJ fI)) (wMd b k5 vT vn vr vo vl vb fN (mPlace fI fJ fK i) fW fL fM fE fR fF fS fP fY fT fJ fI) → va_S (kx_A (wMd b k5 vT vn vr vo vl vb fN fK fW fL fM fE fR fF fS fP fY fT fJ fI)) s.heap H locs → lv_has ls 2 [(1, .int (nI i)), (0, .ref (b 0))] → W p l e (headSpec w_M_place ({ frames := 1, cells := 0, slots := 0, locals := 24 })).room s m ([.ref (b 0)] : List Value).toArray below meth c H locs 0 0 (MQ below (kx_Q (dC, dI) clA (wMd b k5 vT vn vr vo vl vb fN fK fW fL fM fE fR fF fS fP fY fT fJ fI) (wMd b k5 vT vn vr vo vl vb fN (mPlace fI fJ fK ((n - 2) * (r - 6))) fW fL fM fE fR fF fS fP fY fT fJ fI) none) ([.ref (b 0)] : List Value).toArray s 0 0 (kx_A (wMd b k5 vT vn vr vo vl vb fN fK fW fL fM fE fR fF fS fP fY fT fJ fI))) (F0 m 2 ls []) := by
    intro q9
    induction q9 with
    | zero =>
      intro i H locs ls hi hP hD hS hl
      have hi : ((n - 2) * (r - 6)) = i := by omega
      subst hi
      refine lv_iload_n hx hb d_M_place_2 rfl (lv_at hl 0 rfl) ?_
      refine lv_aload_n hx hb d_M_place_3 rfl (lv_at hl 1 rfl) ?_
      refine kx_VRW (As := []) (rest := [.int (nI ((n - 2) * (r - 6)))]) ⟨hx, hb, hml, hown, hts⟩ (k_M_blocks l dC dI k5 b vT vn vr vo vl vb fN (mPlace fI fJ fK ((n - 2) * (r - 6))) fW fL fM fE fR fF fS fP fY fT fJ fI ) (cwV 0 hts (goodV wm_M_86 wn_M_blocks ws_M_blocks wi_M wc_M_blocks) rfl rfl rfl (by decide +kernel) ⟨Nat.le_of_ble_eq_true rfl, Nat.le_of_ble_eq_true rfl⟩) ⟨Nat.zero_le _, Nat.zero_le _⟩ hK hP hD 0 rfl rfl rfl hl.1 rfl (Nat.le_of_ble_eq_true rfl) d_M_place_4 ?_
      refine W.eq (g2 := F0 m 7 ls [.int ((vn - 2) * (vr - 6)), .int (nI ((n - 2) * (r - 6)))]) rfl ?_
      refine lv_icmp_ge (tgt := 38) hx hb d_M_place_7 (by decide) (fun hc => ?_) (fun hc => ?_)
      · exact W.vret hx hb hr (fun t ht hW => kx_Qv ht hP (rfl) hS rfl) hS.2.2 d_M_place_38
      · exact absurd (by rw [blk_nI hn er hn4 hr2]; exact nI_le (by omega) (by have := blk_le hn8 hr40; omega)) hc
    | succ q9 ih =>
      intro i H locs ls hi hP hD hS hl
      refine lv_iload_n hx hb d_M_place_2 rfl (lv_at hl 0 rfl) ?_
      refine lv_aload_n hx hb d_M_place_3 rfl (lv_at hl 1 rfl) ?_
      refine kx_VRW (As := []) (rest := [.int (nI i)]) ⟨hx, hb, hml, hown, hts⟩ (k_M_blocks l dC dI k5 b vT vn vr vo vl vb fN (mPlace fI fJ fK i) fW fL fM fE fR fF fS fP fY fT fJ fI ) (cwV 0 hts (goodV wm_M_86 wn_M_blocks ws_M_blocks wi_M wc_M_blocks) rfl rfl rfl (by decide +kernel) ⟨Nat.le_of_ble_eq_true rfl, Nat.le_of_ble_eq_true rfl⟩) ⟨Nat.zero_le _, Nat.zero_le _⟩ hK hP hD 0 rfl rfl rfl hl.1 rfl (Nat.le_of_ble_eq_true rfl) d_M_place_4 ?_
      refine W.eq (g2 := F0 m 7 ls [.int ((vn - 2) * (vr - 6)), .int (nI i)]) rfl ?_
      refine lv_icmp_ge (tgt := 38) hx hb d_M_place_7 (by decide) (fun hc => ?_) (fun hc => ?_)
      · exact absurd hc (by rw [blk_nI hn er hn4 hr2]; exact nI_ge (by omega) (by have := blk_le hn8 hr40; omega))
      · have hB := blk_le hn8 hr40
        refine lv_aload_n hx hb d_M_place_10 rfl (lv_at hl 1 rfl) ?_
        refine va_get (D := (dC, dI)) (ci := 3) (v := .ref (b 14)) (C := R_M) (T := T_M) (N := 20) hx hb hts wu_M hown hK hP 0 rfl rfl 19 (by decide) (hts _ wf_M_51) (fun _ h9 => h9) rfl d_M_place_11 ?_
        refine lv_iload_n hx hb d_M_place_14 rfl (lv_at hl 0 rfl) ?_
        refine kx_zald hx hb hK hP 14 3 rfl rfl i (rfl) (by omega) (by omega) d_M_place_15 ?_
        refine lv_if_eq (tgt := 32) hx hb d_M_place_16 (by decide) (fun hd => ?_) (fun hd => ?_)
        · refine lv_iinc (v := nI (i + 1)) (lv' := [(1, .int (nI (i + 1))), (0, .ref (b 0))]) hx hb d_M_place_32 hl (k := 0) rfl (nI_1 i) (by decide) rfl (fun ls hl => ?_)
          refine lv_goto (tgt := 2) hx hb d_M_place_35 (by decide) ?_
          have e : mPlace fI fJ fK (i + 1) = mPlace fI fJ fK i := if_pos hd
          exact ih (i + 1) H locs ls (by omega) (by rw [e]; exact hP) (by rw [e]; exact hD) hS (lv_sub hl [0, 1] rfl)
        · refine lv_aload_n hx hb d_M_place_19 rfl (lv_at hl 1 rfl) ?_
          refine lv_aload_n hx hb d_M_place_20 rfl (lv_at hl 1 rfl) ?_
          refine va_get (D := (dC, dI)) (ci := 3) (v := .ref (b 13)) (C := R_M) (T := T_M) (N := 20) hx hb hts wu_M hown hK hP 0 rfl rfl 18 (by decide) (hts _ wf_M_48) (fun _ h9 => h9) rfl d_M_place_21 ?_
          refine lv_aload_n hx hb d_M_place_24 rfl (lv_at hl 1 rfl) ?_
          refine va_get (D := (dC, dI)) (ci := 3) (v := .ref (b 2)) (C := R_M) (T := T_M) (N := 20) hx hb hts wu_M hown hK hP 0 rfl rfl 5 (by decide) (hts _ wf_M_13) (fun _ h9 => h9) rfl d_M_place_25 ?_
          refine lv_iload_n hx hb d_M_place_28 rfl (lv_at hl 0 rfl) ?_
          refine kx_VW (w1 := (wMd b k5 vT vn vr vo vl vb fN (mCopy fJ (mPlace fI fJ fK i) (64 * i) 64) fW fL fM fE fR fF fS fP fY fT fJ fI)) (As := [.ref (b 13), .ref (b 2), .int (nI i)]) (rest := []) ⟨hx, hb, hml, hown, hts⟩ (k_M_copyJK l dC dI k5 b vT vn vr vo vl vb fN (mPlace fI fJ fK i) fW fL fM fE fR fF fS fP fY fT fJ fI i (by omega)) (cwV 3 hts (goodV wm_M_137 wn_M_copy ws_M_copy wi_M wc_M_copy) rfl rfl rfl (by decide +kernel) ⟨Nat.le_of_ble_eq_true rfl, Nat.le_of_ble_eq_true rfl⟩) ⟨Nat.zero_le _, Nat.zero_le _⟩ hK hP hD hS 0 rfl rfl rfl rfl hl.1 rfl (Nat.le_of_ble_eq_true rfl) d_M_place_29 (fun H locs hP hD hS => ?_)
          refine W.eq (g2 := F0 m 32 ls []) rfl ?_
          refine lv_iinc (v := nI (i + 1)) (lv' := [(1, .int (nI (i + 1))), (0, .ref (b 0))]) hx hb d_M_place_32 hl (k := 0) rfl (nI_1 i) (by decide) rfl (fun ls hl => ?_)
          refine lv_goto (tgt := 2) hx hb d_M_place_35 (by decide) ?_
          have e : mPlace fI fJ fK (i + 1) = mCopy fJ (mPlace fI fJ fK i) (64 * i) 64 := if_neg hd
          exact ih (i + 1) H locs ls (by omega) (by rw [e]; exact hP) (by rw [e]; exact hD) hS (lv_sub hl [0, 1] rfl)
  exact lp ((n - 2) * (r - 6)) 0 s.heap [] ls (by omega) hP hD hS (lv_sub hl [0, 1] rfl)
set_option maxHeartbeats 4000000 in
set_option maxRecDepth 100000 in
theorem k_M_writes (l : Launch) (dC : Nat → ClassId) (dI : Nat → Nat → Nat) (k5 : Nat → ClassId) (b : Nat → Nat) (vT vn vr vo vl vb : Int32) (fN fK fW fL fM fE fR fF fS fP fY fT fJ fI : FF) (x t : Nat) (hx9 : x < 1000) (ht : t < 40) (n : Nat) (hn : vn = nI n) (hn4 : 4 ≤ n) (hn8 : n ≤ 8) : Met l y_M_writes w_M_writes ({ frames := 0, cells := 0, slots := 0, locals := 0 }) (kx_Pc (dC, dI) clA (tyL k5) (wMd b k5 vT vn vr vo vl vb fN fK fW fL fM fE fR fF fS fP fY fT fJ fI) [.ref (b 0), .int (nI x), .int (nI t)]) (kx_R (some (.int (mW fL fM n x t)))) 0 0 (fun _ => False) := by
  refine Met.ofW (cc := c_M_writes) (maxL := 4) (ret := (some .int)) (by decide) rfl ?_
  intro p e s m args below meth c s₁ B hml hv
  obtain ⟨rfl, hP, hK, hD0⟩ := hv
  have hx := B.exec
  have hb := B.bytes
  have hr := B.returns
  have hts : ∀ w ∈ wsA, w.before _ s = true := fun w h => atoms_spec (ws := w_M_writes) B.pre w (List.mem_cons_of_mem _ h)
  have hown : s.vm.findClass R_M = some m.cls := findClass_of_methodNamed B.named
  have hlocks := B.notSynchronized
  have hD := kx_D.self hD0
  have hS : va_S (kx_A (wMd b k5 vT vn vr vo vl vb fN fK fW fL fM fE fR fF fS fP fY fT fJ fI)) s.heap s.heap [] := va_S.rf
  have hl := lv_entry ([.ref (b 0), .int (nI x), .int (nI t)]) (n := 4) (Nat.le_of_ble_eq_true rfl)
  rw [lg_entry_eq]
  generalize (lg_sl ([.ref (b 0), .int (nI x), .int (nI t)]) ++ List.replicate (4 - (lg_sl ([.ref (b 0), .int (nI x), .int (nI t)])).length) Slot.unset).toArray = ls at hl ⊢
  have hl : lv_has ls 4 [(0, .ref (b 0)), (1, .int (nI x)), (2, .int (nI t))] := hl
  refine lv_iload_n hx hb d_M_writes_0 rfl (lv_at hl 1 rfl) ?_
  refine lv_aload_n hx hb d_M_writes_1 rfl (lv_at hl 0 rfl) ?_
  refine va_get (D := (dC, dI)) (ci := 3) (v := .int vn) (C := R_M) (T := T_M) (N := 20) hx hb hts wu_M hown hK hP 0 rfl rfl 1 (by decide) (hts _ wf_M_62) (fun _ h9 => h9) rfl d_M_writes_2 ?_
  refine lv_irem hx hb d_M_writes_5 (by rw [hn]; exact nI_ne0 (by omega) (by omega)) ?_
  refine lv_istore_n (lv' := [(3, .int ((nI x) - (nI x) / vn * vn)), (0, .ref (b 0)), (1, .int (nI x)), (2, .int (nI t))]) hx hb d_M_writes_6 rfl hl (by decide) rfl (fun ls hl => ?_)
  refine lv_aload_n hx hb d_M_writes_7 rfl (lv_at hl 1 rfl) ?_
  refine va_get (D := (dC, dI)) (ci := 3) (v := .ref (b 4)) (C := R_M) (T := T_M) (N := 20) hx hb hts wu_M hown hK hP 0 rfl rfl 7 (by decide) (hts _ wf_M_20) (fun _ h9 => h9) rfl d_M_writes_8 ?_
  refine lv_iload_n hx hb d_M_writes_11 rfl (lv_at hl 0 rfl) ?_
  refine kx_zald hx hb hK hP 4 3 rfl rfl (x % n) (by rw [hn]; exact pk_rem (by omega) (by omega) (by omega)) (by have := Nat.mod_lt x (show 0 < n by omega); omega) (by omega) d_M_writes_12 ?_
  refine lv_if_ne (tgt := 26) hx hb d_M_writes_13 (by decide) (fun hc_1 => ?_) (fun hc_1 => ?_)
  · refine lv_iconst (v := 0) hx hb d_M_writes_26 (by decide) ?_
    refine lv_goto (tgt := 31) hx hb d_M_writes_27 (by decide) ?_
    exact W.iret (v := 0) hx hb hr (fun t ht hW => kx_Ri (by unfold mW; rw [if_neg hc_1]) ht) (fun _ h => absurd h List.not_mem_nil) d_M_writes_31
  · refine lv_iload_n hx hb d_M_writes_16 rfl (lv_at hl 3 rfl) ?_
    refine lv_aload_n hx hb d_M_writes_17 rfl (lv_at hl 1 rfl) ?_
    refine va_get (D := (dC, dI)) (ci := 3) (v := .ref (b 5)) (C := R_M) (T := T_M) (N := 20) hx hb hts wu_M hown hK hP 0 rfl rfl 8 (by decide) (hts _ wf_M_23) (fun _ h9 => h9) rfl d_M_writes_18 ?_
    refine lv_iload_n hx hb d_M_writes_21 rfl (lv_at hl 0 rfl) ?_
    refine kx_iald hx hb hK hP 5 0 rfl rfl (x % n) (by rw [hn]; exact pk_rem (by omega) (by omega) (by omega)) (by have := Nat.mod_lt x (show 0 < n by omega); omega) (by omega) d_M_writes_22 ?_
    refine lv_icmp_lt (tgt := 30) hx hb d_M_writes_23 (by decide) (fun hc_2 => ?_) (fun hc_2 => ?_)
    · refine lv_iconst (v := 1) hx hb d_M_writes_30 (by decide) ?_
      exact W.iret (v := 1) hx hb hr (fun t ht hW => kx_Ri (by unfold mW; rw [if_pos hc_1, if_pos hc_2]) ht) (fun _ h => absurd h List.not_mem_nil) d_M_writes_31
    · refine lv_iconst (v := 0) hx hb d_M_writes_26 (by decide) ?_
      refine lv_goto (tgt := 31) hx hb d_M_writes_27 (by decide) ?_
      exact W.iret (v := 0) hx hb hr (fun t ht hW => kx_Ri (by unfold mW; rw [if_pos hc_1, if_neg hc_2]) ht) (fun _ h => absurd h List.not_mem_nil) d_M_writes_31
set_option maxHeartbeats 4000000 in
set_option maxRecDepth 100000 in
theorem k_M_stopped (l : Launch) (dC : Nat → ClassId) (dI : Nat → Nat → Nat) (k5 : Nat → ClassId) (b : Nat → Nat) (vT vn vr vo vl vb : Int32) (fN fK fW fL fM fE fR fF fS fP fY fT fJ fI : FF) (n : Nat) (hn : vn = nI n) (hn4 : 4 ≤ n) (hn8 : n ≤ 8) : Met l y_M_stopped w_M_stopped ({ frames := 0, cells := 0, slots := 0, locals := 0 }) (kx_Pc (dC, dI) clA (tyL k5) (wMd b k5 vT vn vr vo vl vb fN fK fW fL fM fE fR fF fS fP fY fT fJ fI) [.ref (b 0)]) (kx_Q (dC, dI) clA (wMd b k5 vT vn vr vo vl vb fN fK fW fL fM fE fR fF fS fP fY fT fJ fI) (wMd b k5 vT vn vr vo vl vb fN fK fW fL (mSame fE fM n) fE fR fF fS fP fY fT fJ fI) (some (.int (-2)))) 0 0 (kx_A (wMd b k5 vT vn vr vo vl vb fN fK fW fL fM fE fR fF fS fP fY fT fJ fI)) := by
  refine Met.ofW (cc := c_M_stopped) (maxL := 2) (ret := (some .int)) (by decide) rfl ?_
  intro p e s m args below meth c s₁ B hml hv
  obtain ⟨rfl, hP, hK, hD0⟩ := hv
  have hx := B.exec
  have hb := B.bytes
  have hr := B.returns
  have hts : ∀ w ∈ wsA, w.before _ s = true := fun w h => atoms_spec (ws := w_M_stopped) B.pre w (List.mem_cons_of_mem _ h)
  have hown : s.vm.findClass R_M = some m.cls := findClass_of_methodNamed B.named
  have hlocks := B.notSynchronized
  have hD := kx_D.self hD0
  have hS : va_S (kx_A (wMd b k5 vT vn vr vo vl vb fN fK fW fL fM fE fR fF fS fP fY fT fJ fI)) s.heap s.heap [] := va_S.rf
  have hl := lv_entry ([.ref (b 0)]) (n := 2) (Nat.le_of_ble_eq_true rfl)
  rw [lg_entry_eq]
  generalize (lg_sl ([.ref (b 0)]) ++ List.replicate (2 - (lg_sl ([.ref (b 0)])).length) Slot.unset).toArray = ls at hl ⊢
  have hl : lv_has ls 2 [(0, .ref (b 0))] := hl
  refine lv_iconst (v := 0) hx hb d_M_stopped_0 (by decide) ?_
  refine lv_istore_n (lv' := [(1, .int 0), (0, .ref (b 0))]) hx hb d_M_stopped_1 rfl hl (by decide) rfl (fun ls hl => ?_)
  have lp : ∀ (q9 i : Nat) (H : Heap) (locs : List Loc) (ls : Array Slot), i + q9 = n → va_P (dC, dI) clA (wMd b k5 vT vn vr vo vl vb fN fK fW fL (mSame fE fM i) fE fR fF fS fP fY fT fJ fI) H → va_D (kx_A (wMd b k5 vT vn vr vo vl vb fN fK fW fL fM fE fR fF fS fP fY fT fJ fI)) (wMd b k5 vT vn vr vo vl vb fN fK fW fL (mSame fE fM i) fE fR fF fS fP fY fT fJ fI) → va_S (kx_A (wMd b k5 vT vn vr vo vl vb fN fK fW fL fM fE fR fF fS fP fY fT fJ fI)) s.heap H locs → lv_has ls 2 [(1, .int (nI i)), (0, .ref (b 0))] → W p l e (headSpec w_M_stopped ({ frames := 0, cells := 0, slots := 0, locals := 0 })).room s m ([.ref (b 0)] : List Value).toArray below meth c H locs 0 0 (MQ below (kx_Q (dC, dI) clA (wMd b k5 vT vn vr vo vl vb fN fK fW fL fM fE fR fF fS fP fY fT fJ fI) (wMd b k5 vT vn vr vo vl vb fN fK fW fL (mSame fE fM n) fE fR fF fS fP fY fT fJ fI) (some (.int (-2)))) ([.ref (b 0)] : List Value).toArray s 0 0 (kx_A (wMd b k5 vT vn vr vo vl vb fN fK fW fL fM fE fR fF fS fP fY fT fJ fI))) (F0 m 2 ls []) := by
    intro q9
    induction q9 with
    | zero =>
      intro i H locs ls hi hP hD hS hl
      have hi : n = i := by omega
      subst hi
      refine lv_iload_n hx hb d_M_stopped_2 rfl (lv_at hl 0 rfl) ?_
      refine lv_aload_n hx hb d_M_stopped_3 rfl (lv_at hl 1 rfl) ?_
      refine va_get (D := (dC, dI)) (ci := 3) (v := .int vn) (C := R_M) (T := T_M) (N := 20) hx hb hts wu_M hown hK hP 0 rfl rfl 1 (by decide) (hts _ wf_M_62) (fun _ h9 => h9) rfl d_M_stopped_4 ?_
      refine lv_icmp_ge (tgt := 28) hx hb d_M_stopped_7 (by decide) (fun hc => ?_) (fun hc => ?_)
      · refine lv_bipush (v := (-2)) hx hb d_M_stopped_28 (by decide) ?_
        exact W.iret (v := (-2)) hx hb hr (fun t ht hW => kx_Qi (rfl) ht hP (rfl) hS rfl) hS.2.2 d_M_stopped_30
      · exact absurd (by rw [hn]; exact nI_le (by omega) (by omega)) hc
    | succ q9 ih =>
      intro i H locs ls hi hP hD hS hl
      refine lv_iload_n hx hb d_M_stopped_2 rfl (lv_at hl 0 rfl) ?_
      refine lv_aload_n hx hb d_M_stopped_3 rfl (lv_at hl 1 rfl) ?_
      refine va_get (D := (dC, dI)) (ci := 3) (v := .int vn) (C := R_M) (T := T_M) (N := 20) hx hb hts wu_M hown hK hP 0 rfl rfl 1 (by decide) (hts _ wf_M_62) (fun _ h9 => h9) rfl d_M_stopped_4 ?_
      refine lv_icmp_ge (tgt := 28) hx hb d_M_stopped_7 (by decide) (fun hc => ?_) (fun hc => ?_)
      · exact absurd hc (by rw [hn]; exact nI_ge (by omega) (by omega))
      · refine lv_aload_n hx hb d_M_stopped_10 rfl (lv_at hl 1 rfl) ?_
        refine va_get (D := (dC, dI)) (ci := 3) (v := .ref (b 5)) (C := R_M) (T := T_M) (N := 20) hx hb hts wu_M hown hK hP 0 rfl rfl 8 (by decide) (hts _ wf_M_23) (fun _ h9 => h9) rfl d_M_stopped_11 ?_
        refine lv_iload_n hx hb d_M_stopped_14 rfl (lv_at hl 0 rfl) ?_
        refine lv_aload_n hx hb d_M_stopped_15 rfl (lv_at hl 1 rfl) ?_
        refine va_get (D := (dC, dI)) (ci := 3) (v := .ref (b 6)) (C := R_M) (T := T_M) (N := 20) hx hb hts wu_M hown hK hP 0 rfl rfl 9 (by decide) (hts _ wf_M_27) (fun _ h9 => h9) rfl d_M_stopped_16 ?_
        refine lv_iload_n hx hb d_M_stopped_19 rfl (lv_at hl 0 rfl) ?_
        refine kx_iald hx hb hK hP 6 0 rfl rfl i (rfl) (by omega) (by omega) d_M_stopped_20 ?_
        refine kx_iast (ws' := (wMd b k5 vT vn vr vo vl vb fN fK fW fL (mSame fE fM (i + 1)) fE fR fF fS fP fY fT fJ fI)) hx hb hK hP hD hS 5 0 rfl rfl i (rfl) (by omega) (by omega) rfl d_M_stopped_21 (fun H locs hP hD hS => ?_)
        refine lv_iinc (v := nI (i + 1)) (lv' := [(1, .int (nI (i + 1))), (0, .ref (b 0))]) hx hb d_M_stopped_22 hl (k := 0) rfl (nI_1 i) (by decide) rfl (fun ls hl => ?_)
        refine lv_goto (tgt := 2) hx hb d_M_stopped_25 (by decide) ?_
        exact ih (i + 1) H locs ls (by omega) hP hD hS (lv_sub hl [0, 1] rfl)
  exact lp n 0 s.heap [] ls (by omega) hP hD hS (lv_sub hl [0, 1] rfl)
set_option maxHeartbeats 4000000 in
set_option maxRecDepth 100000 in
theorem k_M_placed (l : Launch) (dC : Nat → ClassId) (dI : Nat → Nat → Nat) (k5 : Nat → ClassId) (b : Nat → Nat) (vT vn vr vo vl vb : Int32) (fN fK fW fL fM fE fR fF fS fP fY fT fJ fI : FF) (n : Nat) (hn : vn = nI n) (hn4 : 4 ≤ n) (hn8 : n ≤ 8) (r : Nat) (er : vr = nI r) (hr2 : 12 ≤ r) (hr40 : r ≤ 40) : Met l y_M_placed w_M_placed ({ frames := 2, cells := 0, slots := 0, locals := 45 }) (kx_Pc (dC, dI) clA (tyL k5) (wMd b k5 vT vn vr vo vl vb fN fK fW fL fM fE fR fF fS fP fY fT fJ fI) [.ref (b 0)]) (kx_R (some (.int (mPl2 fL fM fI n (mPl1 fL fM fI n ((n - 2) * (r - 6)) (r - 6)) ((n - 2) * (r - 6)))))) 0 0 (fun _ => False) := by
  refine Met.ofW (cc := c_M_placed) (maxL := 3) (ret := (some .int)) (by decide) rfl ?_
  intro p e s m args below meth c s₁ B hml hv
  obtain ⟨rfl, hP, hK, hD0⟩ := hv
  have hx := B.exec
  have hb := B.bytes
  have hr := B.returns
  have hts : ∀ w ∈ wsA, w.before _ s = true := fun w h => atoms_spec (ws := w_M_placed) B.pre w (List.mem_cons_of_mem _ h)
  have hown : s.vm.findClass R_M = some m.cls := findClass_of_methodNamed B.named
  have hlocks := B.notSynchronized
  have hD := kx_D.self hD0
  have hS : va_S (kx_A (wMd b k5 vT vn vr vo vl vb fN fK fW fL fM fE fR fF fS fP fY fT fJ fI)) s.heap s.heap [] := va_S.rf
  have hl := lv_entry ([.ref (b 0)]) (n := 3) (Nat.le_of_ble_eq_true rfl)
  rw [lg_entry_eq]
  generalize (lg_sl ([.ref (b 0)]) ++ List.replicate (3 - (lg_sl ([.ref (b 0)])).length) Slot.unset).toArray = ls at hl ⊢
  have hl : lv_has ls 3 [(0, .ref (b 0))] := hl
  refine lv_iconst (v := 0) hx hb d_M_placed_0 (by decide) ?_
  refine lv_istore_n (lv' := [(1, .int 0), (0, .ref (b 0))]) hx hb d_M_placed_1 rfl hl (by decide) rfl (fun ls hl => ?_)
  refine lv_bipush (v := 6) hx hb d_M_placed_2 (by decide) ?_
  refine lv_istore_n (lv' := [(2, .int 6), (1, .int 0), (0, .ref (b 0))]) hx hb d_M_placed_4 rfl hl (by decide) rfl (fun ls hl => ?_)
  have lp2 : ∀ (q9 i : Nat) (ls : Array Slot), i + q9 = ((n - 2) * (r - 6)) → lv_has ls 3 [(2, .int (nI i)), (1, .int (mPl2 fL fM fI n (mPl1 fL fM fI n ((n - 2) * (r - 6)) (r - 6)) i)), (0, .ref (b 0))] → W p l e (headSpec w_M_placed ({ frames := 2, cells := 0, slots := 0, locals := 45 })).room s m ([.ref (b 0)] : List Value).toArray below meth c s.heap [] 0 0 (MQ below (kx_R (some (.int (mPl2 fL fM fI n (mPl1 fL fM fI n ((n - 2) * (r - 6)) (r - 6)) ((n - 2) * (r - 6)))))) ([.ref (b 0)] : List Value).toArray s 0 0 (fun _ => False)) (F0 m 51 ls []) := by
    intro q9
    induction q9 with
    | zero =>
      intro i ls hi hl
      have hi : ((n - 2) * (r - 6)) = i := by omega
      subst hi
      refine lv_iload_n hx hb d_M_placed_51 rfl (lv_at hl 0 rfl) ?_
      refine lv_aload_n hx hb d_M_placed_52 rfl (lv_at hl 2 rfl) ?_
      refine kx_VRW (As := []) (rest := [.int (nI ((n - 2) * (r - 6)))]) ⟨hx, hb, hml, hown, hts⟩ (k_M_blocks l dC dI k5 b vT vn vr vo vl vb fN fK fW fL fM fE fR fF fS fP fY fT fJ fI ) (cwV 0 hts (goodV wm_M_86 wn_M_blocks ws_M_blocks wi_M wc_M_blocks) rfl rfl rfl (by decide +kernel) ⟨Nat.le_of_ble_eq_true rfl, Nat.le_of_ble_eq_true rfl⟩) ⟨Nat.zero_le _, Nat.zero_le _⟩ hK hP hD 0 rfl rfl rfl hl.1 rfl (Nat.le_of_ble_eq_true rfl) d_M_placed_53 ?_
      refine W.eq (g2 := F0 m 56 ls [.int ((vn - 2) * (vr - 6)), .int (nI ((n - 2) * (r - 6)))]) rfl ?_
      refine lv_icmp_ge (tgt := 106) hx hb d_M_placed_56 (by decide) (fun hc => ?_) (fun hc => ?_)
      · refine lv_iload_n hx hb d_M_placed_106 rfl (lv_at hl 1 rfl) ?_
        exact W.iret (v := (mPl2 fL fM fI n (mPl1 fL fM fI n ((n - 2) * (r - 6)) (r - 6)) ((n - 2) * (r - 6)))) hx hb hr (fun t ht hW => kx_Ri (rfl) ht) (fun _ h => absurd h List.not_mem_nil) d_M_placed_107
      · exact absurd (by rw [blk_nI hn er hn4 hr2]; exact nI_le (by omega) (by have := blk_le hn8 hr40; omega)) hc
    | succ q9 ih =>
      intro i ls hi hl
      refine lv_iload_n hx hb d_M_placed_51 rfl (lv_at hl 0 rfl) ?_
      refine lv_aload_n hx hb d_M_placed_52 rfl (lv_at hl 2 rfl) ?_
      refine kx_VRW (As := []) (rest := [.int (nI i)]) ⟨hx, hb, hml, hown, hts⟩ (k_M_blocks l dC dI k5 b vT vn vr vo vl vb fN fK fW fL fM fE fR fF fS fP fY fT fJ fI ) (cwV 0 hts (goodV wm_M_86 wn_M_blocks ws_M_blocks wi_M wc_M_blocks) rfl rfl rfl (by decide +kernel) ⟨Nat.le_of_ble_eq_true rfl, Nat.le_of_ble_eq_true rfl⟩) ⟨Nat.zero_le _, Nat.zero_le _⟩ hK hP hD 0 rfl rfl rfl hl.1 rfl (Nat.le_of_ble_eq_true rfl) d_M_placed_53 ?_
      refine W.eq (g2 := F0 m 56 ls [.int ((vn - 2) * (vr - 6)), .int (nI i)]) rfl ?_
      refine lv_icmp_ge (tgt := 106) hx hb d_M_placed_56 (by decide) (fun hc => ?_) (fun hc => ?_)
      · exact absurd hc (by rw [blk_nI hn er hn4 hr2]; exact nI_ge (by omega) (by have := blk_le hn8 hr40; omega))
      · have hB := blk_le hn8 hr40
        have hdv : i / (n - 2) < 34 := by have h9 : i / (n - 2) < r - 6 := (Nat.div_lt_iff_lt_mul (by omega)).mpr (by rw [Nat.mul_comm]; omega); omega
        have hmd : i % (n - 2) < n - 2 := Nat.mod_lt _ (by omega)
        have erw : 6 + nI i / (vn - 2) = nI (6 + i / (n - 2)) := by rw [hn]; exact row_nI hn4 hn8 (by omega)
        refine lv_iload_n hx hb d_M_placed_59 rfl (lv_at hl 1 rfl) ?_
        refine lv_aload_n hx hb d_M_placed_60 rfl (lv_at hl 2 rfl) ?_
        refine va_get (D := (dC, dI)) (ci := 3) (v := .ref (b 14)) (C := R_M) (T := T_M) (N := 20) hx hb hts wu_M hown hK hP 0 rfl rfl 19 (by decide) (hts _ wf_M_51) (fun _ h9 => h9) rfl d_M_placed_61 ?_
        refine lv_iload_n hx hb d_M_placed_64 rfl (lv_at hl 0 rfl) ?_
        refine kx_zald hx hb hK hP 14 3 rfl rfl i (rfl) (by omega) (by omega) d_M_placed_65 ?_
        refine lv_if_eq (tgt := 97) hx hb d_M_placed_66 (by decide) (fun hd => ?_) (fun hd => ?_)
        · refine lv_iconst (v := 0) hx hb d_M_placed_97 (by decide) ?_
          refine lv_iadd hx hb d_M_placed_98 ?_
          refine lv_istore_n (lv' := [(1, .int ((mPl2 fL fM fI n (mPl1 fL fM fI n ((n - 2) * (r - 6)) (r - 6)) i) + 0)), (2, .int (nI i)), (0, .ref (b 0))]) hx hb d_M_placed_99 rfl hl (by decide) rfl (fun ls hl => ?_)
          refine lv_iinc (v := nI (i + 1)) (lv' := [(2, .int (nI (i + 1))), (1, .int ((mPl2 fL fM fI n (mPl1 fL fM fI n ((n - 2) * (r - 6)) (r - 6)) i) + 0)), (0, .ref (b 0))]) hx hb d_M_placed_100 hl (k := 1) rfl (nI_1 i) (by decide) rfl (fun ls hl => ?_)
          refine lv_goto (tgt := 51) hx hb d_M_placed_103 (by decide) ?_
          exact ih (i + 1) ls (by omega) (by rw [show mPl2 fL fM fI n (mPl1 fL fM fI n ((n - 2) * (r - 6)) (r - 6)) (i + 1) = mPl2 fL fM fI n (mPl1 fL fM fI n ((n - 2) * (r - 6)) (r - 6)) i + 0 from if_pos hd]; exact (lv_sub hl [0, 1, 2] rfl))
        · refine lv_aload_n hx hb d_M_placed_69 rfl (lv_at hl 2 rfl) ?_
          refine lv_aload_n hx hb d_M_placed_70 rfl (lv_at hl 2 rfl) ?_
          refine lv_iload_n hx hb d_M_placed_71 rfl (lv_at hl 0 rfl) ?_
          refine kx_VRW (As := [.int (nI i)]) (rest := [.ref (b 0), .int (mPl2 fL fM fI n (mPl1 fL fM fI n ((n - 2) * (r - 6)) (r - 6)) i)]) ⟨hx, hb, hml, hown, hts⟩ (k_M_rowOf l dC dI k5 b vT vn vr vo vl vb fN fK fW fL fM fE fR fF fS fP fY fT fJ fI (nI i) (by rw [hn, show (nI n - 2) = nI (n - 2) from pk_sub (a := n) (b := 2) (by omega)]; exact nI_ne0 (by omega) (by omega))) (cwV 1 hts (goodV wm_M_121 wn_M_rowOf ws_M_rowOf wi_M wc_M_rowOf) rfl rfl rfl (by decide +kernel) ⟨Nat.le_of_ble_eq_true rfl, Nat.le_of_ble_eq_true rfl⟩) ⟨Nat.zero_le _, Nat.zero_le _⟩ hK hP hD 0 rfl rfl rfl hl.1 rfl (Nat.le_of_ble_eq_true rfl) d_M_placed_72 ?_
          refine W.eq (g2 := F0 m 75 ls [.int (6 + (nI i) / (vn - 2)), .ref (b 0), .int (mPl2 fL fM fI n (mPl1 fL fM fI n ((n - 2) * (r - 6)) (r - 6)) i)]) rfl ?_
          refine lv_iconst (v := 2) hx hb d_M_placed_75 (by decide) ?_
          refine lv_iadd hx hb d_M_placed_76 ?_
          refine lv_iload_n hx hb d_M_placed_77 rfl (lv_at hl 0 rfl) ?_
          refine lv_aload_n hx hb d_M_placed_78 rfl (lv_at hl 2 rfl) ?_
          refine va_get (D := (dC, dI)) (ci := 3) (v := .int vn) (C := R_M) (T := T_M) (N := 20) hx hb hts wu_M hown hK hP 0 rfl rfl 1 (by decide) (hts _ wf_M_62) (fun _ h9 => h9) rfl d_M_placed_79 ?_
          refine lv_iconst (v := 2) hx hb d_M_placed_82 (by decide) ?_
          refine lv_isub hx hb d_M_placed_83 ?_
          refine lv_irem hx hb d_M_placed_84 (by rw [hn, show (nI n - 2) = nI (n - 2) from pk_sub (a := n) (b := 2) (by omega)]; exact nI_ne0 (by omega) (by omega)) ?_
          rw [erw, show nI i - nI i / (vn - 2) * (vn - 2) = nI (i % (n - 2)) from by rw [hn, show (nI n - 2) = nI (n - 2) from pk_sub (a := n) (b := 2) (by omega)]; exact pk_rem (by omega) (by omega) (by omega)]
          refine lv_iadd hx hb d_M_placed_85 ?_
          refine lv_aload_n hx hb d_M_placed_86 rfl (lv_at hl 2 rfl) ?_
          refine lv_iload_n hx hb d_M_placed_87 rfl (lv_at hl 0 rfl) ?_
          refine kx_VRW (As := [.int (nI i)]) (rest := [.int (((nI (6 + i / (n - 2))) + 2) + (nI (i % (n - 2)))), .ref (b 0), .int (mPl2 fL fM fI n (mPl1 fL fM fI n ((n - 2) * (r - 6)) (r - 6)) i)]) ⟨hx, hb, hml, hown, hts⟩ (k_M_rowOf l dC dI k5 b vT vn vr vo vl vb fN fK fW fL fM fE fR fF fS fP fY fT fJ fI (nI i) (by rw [hn, show (nI n - 2) = nI (n - 2) from pk_sub (a := n) (b := 2) (by omega)]; exact nI_ne0 (by omega) (by omega))) (cwV 1 hts (goodV wm_M_121 wn_M_rowOf ws_M_rowOf wi_M wc_M_rowOf) rfl rfl rfl (by decide +kernel) ⟨Nat.le_of_ble_eq_true rfl, Nat.le_of_ble_eq_true rfl⟩) ⟨Nat.zero_le _, Nat.zero_le _⟩ hK hP hD 0 rfl rfl rfl hl.1 rfl (Nat.le_of_ble_eq_true rfl) d_M_placed_88 ?_
          refine W.eq (g2 := F0 m 91 ls [.int (6 + (nI i) / (vn - 2)), .int (((nI (6 + i / (n - 2))) + 2) + (nI (i % (n - 2)))), .ref (b 0), .int (mPl2 fL fM fI n (mPl1 fL fM fI n ((n - 2) * (r - 6)) (r - 6)) i)]) rfl ?_
          rw [erw, show nI (6 + i / (n - 2)) + 2 = nI (6 + i / (n - 2) + 2) from nI_add _ 2, show nI (6 + i / (n - 2) + 2) + nI (i % (n - 2)) = nI (6 + i / (n - 2) + 2 + i % (n - 2)) from nI_add _ _]
          refine kx_VRW (As := [.int (nI (6 + i / (n - 2) + 2 + i % (n - 2))), .int (nI (6 + i / (n - 2)))]) (rest := [.int (mPl2 fL fM fI n (mPl1 fL fM fI n ((n - 2) * (r - 6)) (r - 6)) i)]) ⟨hx, hb, hml, hown, hts⟩ (k_M_writes l dC dI k5 b vT vn vr vo vl vb fN fK fW fL fM fE fR fF fS fP fY fT fJ fI (6 + i / (n - 2) + 2 + i % (n - 2)) (6 + i / (n - 2)) (by omega) (by omega) n hn hn4 hn8) (cwV 2 hts (goodV wm_M_154 wn_M_writes ws_M_writes wi_M wc_M_writes) rfl rfl rfl (by decide +kernel) ⟨Nat.le_of_ble_eq_true rfl, Nat.le_of_ble_eq_true rfl⟩) ⟨Nat.zero_le _, Nat.zero_le _⟩ hK hP hD 0 rfl rfl rfl hl.1 rfl (Nat.le_of_ble_eq_true rfl) d_M_placed_91 ?_
          refine W.eq (g2 := F0 m 94 ls [.int (mW fL fM n (6 + i / (n - 2) + 2 + i % (n - 2)) (6 + i / (n - 2))), .int (mPl2 fL fM fI n (mPl1 fL fM fI n ((n - 2) * (r - 6)) (r - 6)) i)]) rfl ?_
          refine lv_goto (tgt := 98) hx hb d_M_placed_94 (by decide) ?_
          refine lv_iadd hx hb d_M_placed_98 ?_
          refine lv_istore_n (lv' := [(1, .int ((mPl2 fL fM fI n (mPl1 fL fM fI n ((n - 2) * (r - 6)) (r - 6)) i) + (mW fL fM n (6 + i / (n - 2) + 2 + i % (n - 2)) (6 + i / (n - 2))))), (2, .int (nI i)), (0, .ref (b 0))]) hx hb d_M_placed_99 rfl hl (by decide) rfl (fun ls hl => ?_)
          refine lv_iinc (v := nI (i + 1)) (lv' := [(2, .int (nI (i + 1))), (1, .int ((mPl2 fL fM fI n (mPl1 fL fM fI n ((n - 2) * (r - 6)) (r - 6)) i) + (mW fL fM n (6 + i / (n - 2) + 2 + i % (n - 2)) (6 + i / (n - 2))))), (0, .ref (b 0))]) hx hb d_M_placed_100 hl (k := 1) rfl (nI_1 i) (by decide) rfl (fun ls hl => ?_)
          refine lv_goto (tgt := 51) hx hb d_M_placed_103 (by decide) ?_
          exact ih (i + 1) ls (by omega) (by rw [show mPl2 fL fM fI n (mPl1 fL fM fI n ((n - 2) * (r - 6)) (r - 6)) (i + 1) = mPl2 fL fM fI n (mPl1 fL fM fI n ((n - 2) * (r - 6)) (r - 6)) i + (mW fL fM n (6 + i / (n - 2) + 2 + i % (n - 2)) (6 + i / (n - 2))) from if_neg hd]; exact (lv_sub hl [0, 1, 2] rfl))
  have lp1 : ∀ (q9 i : Nat) (ls : Array Slot), i + q9 = (r - 6) → lv_has ls 3 [(2, .int (nI (6 + i))), (1, .int (mPl1 fL fM fI n ((n - 2) * (r - 6)) i)), (0, .ref (b 0))] → W p l e (headSpec w_M_placed ({ frames := 2, cells := 0, slots := 0, locals := 45 })).room s m ([.ref (b 0)] : List Value).toArray below meth c s.heap [] 0 0 (MQ below (kx_R (some (.int (mPl2 fL fM fI n (mPl1 fL fM fI n ((n - 2) * (r - 6)) (r - 6)) ((n - 2) * (r - 6)))))) ([.ref (b 0)] : List Value).toArray s 0 0 (fun _ => False)) (F0 m 5 ls []) := by
    intro q9
    induction q9 with
    | zero =>
      intro i ls hi hl
      have hi : (r - 6) = i := by omega
      subst hi
      refine lv_iload_n hx hb d_M_placed_5 rfl (lv_at hl 0 rfl) ?_
      refine lv_aload_n hx hb d_M_placed_6 rfl (lv_at hl 2 rfl) ?_
      refine va_get (D := (dC, dI)) (ci := 3) (v := .int vr) (C := R_M) (T := T_M) (N := 20) hx hb hts wu_M hown hK hP 0 rfl rfl 2 (by decide) (hts _ wf_M_65) (fun _ h9 => h9) rfl d_M_placed_7 ?_
      refine lv_icmp_ge (tgt := 49) hx hb d_M_placed_10 (by decide) (fun hc => ?_) (fun hc => ?_)
      · refine lv_iconst (v := 0) hx hb d_M_placed_49 (by decide) ?_
        refine lv_istore_n (lv' := [(2, .int 0), (1, .int (mPl1 fL fM fI n ((n - 2) * (r - 6)) (r - 6))), (0, .ref (b 0))]) hx hb d_M_placed_50 rfl hl (by decide) rfl (fun ls hl => ?_)
        exact lp2 ((n - 2) * (r - 6)) 0 ls (by omega) (lv_sub hl [0, 1, 2] rfl)
      · exact absurd (by rw [er]; exact nI_le (by omega) (by omega)) hc
    | succ q9 ih =>
      intro i ls hi hl
      refine lv_iload_n hx hb d_M_placed_5 rfl (lv_at hl 0 rfl) ?_
      refine lv_aload_n hx hb d_M_placed_6 rfl (lv_at hl 2 rfl) ?_
      refine va_get (D := (dC, dI)) (ci := 3) (v := .int vr) (C := R_M) (T := T_M) (N := 20) hx hb hts wu_M hown hK hP 0 rfl rfl 2 (by decide) (hts _ wf_M_65) (fun _ h9 => h9) rfl d_M_placed_7 ?_
      refine lv_icmp_ge (tgt := 49) hx hb d_M_placed_10 (by decide) (fun hc => ?_) (fun hc => ?_)
      · exact absurd hc (by rw [er]; exact nI_ge (by omega) (by omega))
      · refine lv_aload_n hx hb d_M_placed_13 rfl (lv_at hl 2 rfl) ?_
        refine lv_aload_n hx hb d_M_placed_14 rfl (lv_at hl 2 rfl) ?_
        refine va_get (D := (dC, dI)) (ci := 3) (v := .ref (b 14)) (C := R_M) (T := T_M) (N := 20) hx hb hts wu_M hown hK hP 0 rfl rfl 19 (by decide) (hts _ wf_M_51) (fun _ h9 => h9) rfl d_M_placed_15 ?_
        refine lv_iload_n hx hb d_M_placed_18 rfl (lv_at hl 0 rfl) ?_
        refine kx_VRW (As := [.ref (b 14), .int (nI (6 + i))]) (rest := []) ⟨hx, hb, hml, hown, hts⟩ (k_M_inRowI l dC dI k5 b vT vn vr vo vl vb fN fK fW fL fM fE fR fF fS fP fY fT fJ fI (6 + i) (by omega) n hn hn4 hn8 r er hr2 hr40) (cwV 2 hts (goodV wm_M_127 wn_M_inRow ws_M_inRow wi_M wc_M_inRow) rfl rfl rfl (by decide +kernel) ⟨Nat.le_of_ble_eq_true rfl, Nat.le_of_ble_eq_true rfl⟩) ⟨Nat.zero_le _, Nat.zero_le _⟩ hK hP hD 0 rfl rfl rfl hl.1 rfl (Nat.le_of_ble_eq_true rfl) d_M_placed_19 ?_
        refine W.eq (g2 := F0 m 22 ls [.int (nI (cnt (mInRow fI n (6 + i)) ((n - 2) * (r - 6))))]) rfl ?_
        refine lv_if_le (tgt := 43) hx hb d_M_placed_22 (by decide) (fun hd => ?_) (fun hd => ?_)
        · refine lv_iinc (v := nI (6 + (i + 1))) (lv' := [(2, .int (nI (6 + (i + 1)))), (1, .int (mPl1 fL fM fI n ((n - 2) * (r - 6)) i)), (0, .ref (b 0))]) hx hb d_M_placed_43 hl (k := 0) rfl (nI_1 (6 + i)) (by decide) rfl (fun ls hl => ?_)
          refine lv_goto (tgt := 5) hx hb d_M_placed_46 (by decide) ?_
          exact ih (i + 1) ls (by omega) (by rw [show mPl1 fL fM fI n ((n - 2) * (r - 6)) (i + 1) = mPl1 fL fM fI n ((n - 2) * (r - 6)) i from if_pos hd]; exact (lv_sub hl [0, 1, 2] rfl))
        · refine lv_iload_n hx hb d_M_placed_25 rfl (lv_at hl 1 rfl) ?_
          refine lv_aload_n hx hb d_M_placed_26 rfl (lv_at hl 2 rfl) ?_
          refine lv_iload_n hx hb d_M_placed_27 rfl (lv_at hl 0 rfl) ?_
          refine lv_iload_n hx hb d_M_placed_28 rfl (lv_at hl 0 rfl) ?_
          refine kx_VRW (As := [.int (nI (6 + i)), .int (nI (6 + i))]) (rest := [.int (mPl1 fL fM fI n ((n - 2) * (r - 6)) i)]) ⟨hx, hb, hml, hown, hts⟩ (k_M_writes l dC dI k5 b vT vn vr vo vl vb fN fK fW fL fM fE fR fF fS fP fY fT fJ fI (6 + i) (6 + i) (by omega) (by omega) n hn hn4 hn8) (cwV 2 hts (goodV wm_M_154 wn_M_writes ws_M_writes wi_M wc_M_writes) rfl rfl rfl (by decide +kernel) ⟨Nat.le_of_ble_eq_true rfl, Nat.le_of_ble_eq_true rfl⟩) ⟨Nat.zero_le _, Nat.zero_le _⟩ hK hP hD 0 rfl rfl rfl hl.1 rfl (Nat.le_of_ble_eq_true rfl) d_M_placed_29 ?_
          refine W.eq (g2 := F0 m 32 ls [.int (mW fL fM n (6 + i) (6 + i)), .int (mPl1 fL fM fI n ((n - 2) * (r - 6)) i)]) rfl ?_
          refine lv_aload_n hx hb d_M_placed_32 rfl (lv_at hl 2 rfl) ?_
          refine lv_iload_n hx hb d_M_placed_33 rfl (lv_at hl 0 rfl) ?_
          refine lv_iconst (v := 1) hx hb d_M_placed_34 (by decide) ?_
          refine lv_iadd hx hb d_M_placed_35 ?_
          refine W.eq (g2 := F0 m 36 ls [.int (nI (6 + i + 1)), .ref (b 0), .int (mW fL fM n (6 + i) (6 + i)), .int (mPl1 fL fM fI n ((n - 2) * (r - 6)) i)]) (by rw [← nI_1 (6 + i)]) ?_
          refine lv_iload_n hx hb d_M_placed_36 rfl (lv_at hl 0 rfl) ?_
          refine kx_VRW (As := [.int (nI (6 + i + 1)), .int (nI (6 + i))]) (rest := [.int (mW fL fM n (6 + i) (6 + i)), .int (mPl1 fL fM fI n ((n - 2) * (r - 6)) i)]) ⟨hx, hb, hml, hown, hts⟩ (k_M_writes l dC dI k5 b vT vn vr vo vl vb fN fK fW fL fM fE fR fF fS fP fY fT fJ fI (6 + i + 1) (6 + i) (by omega) (by omega) n hn hn4 hn8) (cwV 2 hts (goodV wm_M_154 wn_M_writes ws_M_writes wi_M wc_M_writes) rfl rfl rfl (by decide +kernel) ⟨Nat.le_of_ble_eq_true rfl, Nat.le_of_ble_eq_true rfl⟩) ⟨Nat.zero_le _, Nat.zero_le _⟩ hK hP hD 0 rfl rfl rfl hl.1 rfl (Nat.le_of_ble_eq_true rfl) d_M_placed_37 ?_
          refine W.eq (g2 := F0 m 40 ls [.int (mW fL fM n (6 + i + 1) (6 + i)), .int (mW fL fM n (6 + i) (6 + i)), .int (mPl1 fL fM fI n ((n - 2) * (r - 6)) i)]) rfl ?_
          refine lv_iadd hx hb d_M_placed_40 ?_
          refine lv_iadd hx hb d_M_placed_41 ?_
          refine lv_istore_n (lv' := [(1, .int ((mPl1 fL fM fI n ((n - 2) * (r - 6)) i) + ((mW fL fM n (6 + i) (6 + i)) + (mW fL fM n (6 + i + 1) (6 + i))))), (2, .int (nI (6 + i))), (0, .ref (b 0))]) hx hb d_M_placed_42 rfl hl (by decide) rfl (fun ls hl => ?_)
          refine lv_iinc (v := nI (6 + (i + 1))) (lv' := [(2, .int (nI (6 + (i + 1)))), (1, .int ((mPl1 fL fM fI n ((n - 2) * (r - 6)) i) + ((mW fL fM n (6 + i) (6 + i)) + (mW fL fM n (6 + i + 1) (6 + i))))), (0, .ref (b 0))]) hx hb d_M_placed_43 hl (k := 1) rfl (nI_1 (6 + i)) (by decide) rfl (fun ls hl => ?_)
          refine lv_goto (tgt := 5) hx hb d_M_placed_46 (by decide) ?_
          exact ih (i + 1) ls (by omega) (by rw [show mPl1 fL fM fI n ((n - 2) * (r - 6)) (i + 1) = mPl1 fL fM fI n ((n - 2) * (r - 6)) i + (mW fL fM n (6 + i) (6 + i) + mW fL fM n (6 + i + 1) (6 + i)) from if_neg hd]; exact (lv_sub hl [0, 1, 2] rfl))
  exact lp1 (r - 6) 0 ls (by omega) (lv_sub hl [0, 1, 2] rfl)
