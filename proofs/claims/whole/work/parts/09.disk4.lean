def d_lay (P : PP) (G J : GG) (L : LL) (w : Nat) (x y : Int32) : SS × Int32 := (if x < 4 then ((P, G, J, L), (-1)) else (if 8 < x then ((P, G, J, L), (-1)) else (if y < 12 then ((P, G, J, L), (-1)) else (if y ≤ 40 then (((pLay x y P), (gClear G), J, (lLay (pLay x y P) w (x.toNatClampNeg) L)), (((pLay x y P).1 - 2) * ((pLay x y P).2.1 - 6))) else ((P, G, J, L), (-1))))))
set_option maxHeartbeats 4000000 in
set_option maxRecDepth 100000 in
theorem k_D_lay (l : Launch) (dC : Nat → ClassId) (dI : Nat → Nat → Nat) (k5 : Nat → ClassId) (a : Nat → Nat) (P : PP) (G J : GG) (L : LL) (w : Nat) (x y : Int32) (hw : w = 0 ∨ w = 1) (hq : 1 - L.1 1 = nI w) : Met l y_D_lay w_D_lay ({ frames := 5, cells := 0, slots := 0, locals := 112 }) (kx_Pc (dC, dI) clA (tyL k5) (wD a k5 P G J L) [.ref (a 0), .int x, .int y]) (kx_Q (dC, dI) clA (wD a k5 P G J L) (wS a k5 (d_lay P G J L w x y).1) (some (.int (d_lay P G J L w x y).2))) 0 0 (kx_A (wD a k5 P G J L)) := by
  refine Met.ofW (cc := c_D_lay) (maxL := 3) (ret := (some .int)) (by decide) rfl ?_
  intro p e s m args below meth c s₁ B hml hv
  obtain ⟨rfl, hP, hK, hD0⟩ := hv
  have hx := B.exec
  have hb := B.bytes
  have hr := B.returns
  have hts : ∀ w ∈ wsA, w.before _ s = true := fun w h => atoms_spec (ws := w_D_lay) B.pre w (List.mem_cons_of_mem _ h)
  have hown : s.vm.findClass R_D = some m.cls := findClass_of_methodNamed B.named
  have hlocks := B.notSynchronized
  have hD := kx_D.self hD0
  have hS : va_S (kx_A (wD a k5 P G J L)) s.heap s.heap [] := va_S.rf
  have hl := lv_entry ([.ref (a 0), .int x, .int y]) (n := 3) (Nat.le_of_ble_eq_true rfl)
  rw [lg_entry_eq]
  generalize (lg_sl ([.ref (a 0), .int x, .int y]) ++ List.replicate (3 - (lg_sl ([.ref (a 0), .int x, .int y])).length) Slot.unset).toArray = ls at hl ⊢
  have hl : lv_has ls 3 [(0, .ref (a 0)), (1, .int x), (2, .int y)] := hl
  refine lv_iload_n hx hb d_D_lay_0 rfl (lv_at hl 1 rfl) ?_
  refine lv_iconst (v := 4) hx hb d_D_lay_1 (by decide) ?_
  refine lv_icmp_lt (tgt := 23) hx hb d_D_lay_2 (by decide) (fun hc_1 => ?_) (fun hc_1 => ?_)
  · refine lv_iconst (v := (-1)) hx hb d_D_lay_23 (by decide) ?_
    have e : d_lay P G J L w x y = ((P, G, J, L), (-1)) := by unfold d_lay; rw [if_pos hc_1]
    exact W.iret (v := (-1)) hx hb hr (fun t ht hW => kx_Qi (by rw [e]) ht hP (by rw [e]) hS rfl) hS.2.2 d_D_lay_24
  · refine lv_iload_n hx hb d_D_lay_5 rfl (lv_at hl 1 rfl) ?_
    refine lv_bipush (v := 8) hx hb d_D_lay_6 (by decide) ?_
    refine lv_icmp_gt (tgt := 23) hx hb d_D_lay_8 (by decide) (fun hc_2 => ?_) (fun hc_2 => ?_)
    · refine lv_iconst (v := (-1)) hx hb d_D_lay_23 (by decide) ?_
      have e : d_lay P G J L w x y = ((P, G, J, L), (-1)) := by unfold d_lay; rw [if_neg hc_1, if_pos hc_2]
      exact W.iret (v := (-1)) hx hb hr (fun t ht hW => kx_Qi (by rw [e]) ht hP (by rw [e]) hS rfl) hS.2.2 d_D_lay_24
    · refine lv_iload_n hx hb d_D_lay_11 rfl (lv_at hl 2 rfl) ?_
      refine lv_bipush (v := 12) hx hb d_D_lay_12 (by decide) ?_
      refine lv_icmp_lt (tgt := 23) hx hb d_D_lay_14 (by decide) (fun hc_3 => ?_) (fun hc_3 => ?_)
      · refine lv_iconst (v := (-1)) hx hb d_D_lay_23 (by decide) ?_
        have e : d_lay P G J L w x y = ((P, G, J, L), (-1)) := by unfold d_lay; rw [if_neg hc_1, if_neg hc_2, if_pos hc_3]
        exact W.iret (v := (-1)) hx hb hr (fun t ht hW => kx_Qi (by rw [e]) ht hP (by rw [e]) hS rfl) hS.2.2 d_D_lay_24
      · refine lv_iload_n hx hb d_D_lay_17 rfl (lv_at hl 2 rfl) ?_
        refine lv_bipush (v := 40) hx hb d_D_lay_18 (by decide) ?_
        refine lv_icmp_le (tgt := 25) hx hb d_D_lay_20 (by decide) (fun hc_4 => ?_) (fun hc_4 => ?_)
        · refine lv_aload_n hx hb d_D_lay_25 rfl (lv_at hl 0 rfl) ?_
          refine lv_iload_n hx hb d_D_lay_26 rfl (lv_at hl 1 rfl) ?_
          refine lv_iload_n hx hb d_D_lay_27 rfl (lv_at hl 2 rfl) ?_
          refine kx_VW (w1 := (wD a k5 (pLay x y P) (gClear G) J (lLay (pLay x y P) w (x.toNatClampNeg) L))) (As := [.int x, .int y]) (rest := []) ⟨hx, hb, hml, hown, hts⟩ (k_D_layOut l dC dI k5 a P G J L x y (x.toNatClampNeg) (lay_n hc_1 hc_2).1 (lay_n hc_1 hc_2).2.2 w hw hq) (cwV 2 hts (goodV wm_D_38 wn_D_layOut ws_D_layOut wi_D wc_D_layOut) rfl rfl rfl (by decide +kernel) ⟨Nat.le_of_ble_eq_true rfl, Nat.le_of_ble_eq_true rfl⟩) ⟨Nat.zero_le _, Nat.zero_le _⟩ hK hP hD hS 0 rfl rfl rfl rfl hl.1 rfl (Nat.le_of_ble_eq_true rfl) d_D_lay_28 (fun H locs hP hD hS => ?_)
          refine W.eq (g2 := F0 m 31 ls []) rfl ?_
          refine lv_aload_n hx hb d_D_lay_31 rfl (lv_at hl 0 rfl) ?_
          refine kx_VRW (As := []) (rest := []) ⟨hx, hb, hml, hown, hts⟩ (k_D_blocks l dC dI k5 a (pLay x y P) (gClear G) J (lLay (pLay x y P) w (x.toNatClampNeg) L)) (cwV 0 hts (goodV wm_D_42 wn_D_blocks ws_D_blocks wi_D wc_D_blocks) rfl rfl rfl (by decide +kernel) ⟨Nat.le_of_ble_eq_true rfl, Nat.le_of_ble_eq_true rfl⟩) ⟨Nat.zero_le _, Nat.zero_le _⟩ hK hP hD 0 rfl rfl rfl hl.1 rfl (Nat.le_of_ble_eq_true rfl) d_D_lay_32 ?_
          refine W.eq (g2 := F0 m 35 ls [.int (((pLay x y P).1 - 2) * ((pLay x y P).2.1 - 6))]) rfl ?_
          have e : d_lay P G J L w x y = (((pLay x y P), (gClear G), J, (lLay (pLay x y P) w (x.toNatClampNeg) L)), (((pLay x y P).1 - 2) * ((pLay x y P).2.1 - 6))) := by unfold d_lay; rw [if_neg hc_1, if_neg hc_2, if_neg hc_3, if_pos hc_4]
          exact W.iret (v := (((pLay x y P).1 - 2) * ((pLay x y P).2.1 - 6))) hx hb hr (fun t ht hW => kx_Qi (by rw [e]) ht hP (by rw [e]) hS rfl) hS.2.2 d_D_lay_35
        · refine lv_iconst (v := (-1)) hx hb d_D_lay_23 (by decide) ?_
          have e : d_lay P G J L w x y = ((P, G, J, L), (-1)) := by unfold d_lay; rw [if_neg hc_1, if_neg hc_2, if_neg hc_3, if_neg hc_4]
          exact W.iret (v := (-1)) hx hb hr (fun t ht hW => kx_Qi (by rw [e]) ht hP (by rw [e]) hS rfl) hS.2.2 d_D_lay_24
def d_read (P : PP) (G J : GG) (L : LL) (tk : Nat) (b t : Int32) : SS × Int32 := (if (P.2.2.1) = 0 then ((P, G, J, L), (-2)) else (if (bI (decide (¬ b < 0 ∧ ¬ (P.1 - 2) * (P.2.1 - 6) ≤ b ∧ ¬ t < 0 ∧ ¬ 64 ≤ t))) = 0 then ((P, G, J, L), (-1)) else (if 0 ≤ (oI (gFind G.2.2.1 b tk)) then ((P, G, J, L), (G.2.2.2.2 (((oI (gFind G.2.2.1 b tk)) * 64 + t).toNatClampNeg) &&& 255)) else ((P, G, J, L), (((P.2.2.2.2.2) ((b * 64 + t).toNatClampNeg)) &&& 255)))))
set_option maxHeartbeats 4000000 in
set_option maxRecDepth 100000 in
theorem k_D_read (l : Launch) (dC : Nat → ClassId) (dI : Nat → Nat → Nat) (k5 : Nat → ClassId) (a : Nat → Nat) (P : PP) (G J : GG) (L : LL) (tk : Nat) (b t : Int32) (n r : Nat) (hn : P.1 = nI n) (hn4 : 4 ≤ n) (hn8 : n ≤ 8) (er : P.2.1 = nI r) (hr2 : 12 ≤ r) (hr40 : r ≤ 40) (hG : GI G tk) : Met l y_D_read w_D_read ({ frames := 2, cells := 0, slots := 0, locals := 42 }) (kx_Pc (dC, dI) clA (tyL k5) (wD a k5 P G J L) [.ref (a 0), .int b, .int t]) (kx_Q (dC, dI) clA (wD a k5 P G J L) (wS a k5 (d_read P G J L tk b t).1) (some (.int (d_read P G J L tk b t).2))) 0 0 (kx_A (wD a k5 P G J L)) := by
  refine Met.ofW (cc := c_D_read) (maxL := 4) (ret := (some .int)) (by decide) rfl ?_
  intro p e s m args below meth c s₁ B hml hv
  obtain ⟨rfl, hP, hK, hD0⟩ := hv
  have hx := B.exec
  have hb := B.bytes
  have hr := B.returns
  have hts : ∀ w ∈ wsA, w.before _ s = true := fun w h => atoms_spec (ws := w_D_read) B.pre w (List.mem_cons_of_mem _ h)
  have hown : s.vm.findClass R_D = some m.cls := findClass_of_methodNamed B.named
  have hlocks := B.notSynchronized
  have hD := kx_D.self hD0
  have hS : va_S (kx_A (wD a k5 P G J L)) s.heap s.heap [] := va_S.rf
  have hl := lv_entry ([.ref (a 0), .int b, .int t]) (n := 4) (Nat.le_of_ble_eq_true rfl)
  rw [lg_entry_eq]
  generalize (lg_sl ([.ref (a 0), .int b, .int t]) ++ List.replicate (4 - (lg_sl ([.ref (a 0), .int b, .int t])).length) Slot.unset).toArray = ls at hl ⊢
  have hl : lv_has ls 4 [(0, .ref (a 0)), (1, .int b), (2, .int t)] := hl
  refine lv_aload_n hx hb d_D_read_0 rfl (lv_at hl 0 rfl) ?_
  refine va_get (D := (dC, dI)) (ci := 2) (v := .int (P.2.2.1)) (C := R_D) (T := T_D) (N := 9) hx hb hts wu_D hown hK hP 0 rfl rfl 8 (by decide) (hts _ wf_D_46) (fun _ h9 => h9) rfl d_D_read_1 ?_
  refine lv_if_ne (tgt := 10) hx hb d_D_read_4 (by decide) (fun hc_1 => ?_) (fun hc_1 => ?_)
  · refine lv_aload_n hx hb d_D_read_10 rfl (lv_at hl 0 rfl) ?_
    refine lv_iload_n hx hb d_D_read_11 rfl (lv_at hl 1 rfl) ?_
    refine lv_iload_n hx hb d_D_read_12 rfl (lv_at hl 2 rfl) ?_
    refine kx_VRW (As := [.int b, .int t]) (rest := []) ⟨hx, hb, hml, hown, hts⟩ (k_D_isByte l dC dI k5 a P G J L b t) (cwV 2 hts (goodV wm_D_50 wn_D_isByte ws_D_isByte wi_D wc_D_isByte) rfl rfl rfl (by decide +kernel) ⟨Nat.le_of_ble_eq_true rfl, Nat.le_of_ble_eq_true rfl⟩) ⟨Nat.zero_le _, Nat.zero_le _⟩ hK hP hD 0 rfl rfl rfl hl.1 rfl (Nat.le_of_ble_eq_true rfl) d_D_read_13 ?_
    refine W.eq (g2 := F0 m 16 ls [.int (bI (decide (¬ b < 0 ∧ ¬ (P.1 - 2) * (P.2.1 - 6) ≤ b ∧ ¬ t < 0 ∧ ¬ 64 ≤ t)))]) rfl ?_
    refine lv_if_ne (tgt := 21) hx hb d_D_read_16 (by decide) (fun hc_2 => ?_) (fun hc_2 => ?_)
    · obtain ⟨eb, et, hβ, hα, h204⟩ := isB (bI_t hc_2) hn er hn4 hn8 hr2 hr40
      refine lv_aload_n hx hb d_D_read_21 rfl (lv_at hl 0 rfl) ?_
      refine va_get (D := (dC, dI)) (ci := 2) (v := .ref (a 4)) (C := R_D) (T := T_D) (N := 9) hx hb hts wu_D hown hK hP 0 rfl rfl 3 (by decide) (hts _ wf_D_24) (fun _ h9 => h9) rfl d_D_read_22 ?_
      refine lv_iload_n hx hb d_D_read_25 rfl (lv_at hl 1 rfl) ?_
      refine kx_VR (As := [.int b]) (rest := []) ⟨hx, hb, hml, hown, hts⟩ (k_G_placeOf l dC dI k5 (a 4) (a 5) (a 6) (a 7) G.1 G.2.1 G.2.2.1 G.2.2.2.1 G.2.2.2.2 tk hG.2.1 b hG.1) (cwV 1 hts (goodV wm_D_54 wn_G_placeOf ws_G_placeOf wi_G wc_G_placeOf) rfl rfl rfl (by decide +kernel) ⟨Nat.le_of_ble_eq_true rfl, Nat.le_of_ble_eq_true rfl⟩) ⟨Nat.zero_le _, Nat.zero_le _⟩ hK hP hD [4, 5, 6, 7] (by decide) rfl 0 rfl rfl rfl hl.1 rfl (Nat.le_of_ble_eq_true rfl) d_D_read_26 ?_
      refine W.eq (g2 := F0 m 29 ls [.int (oI (gFind G.2.2.1 b tk))]) rfl ?_
      refine lv_istore_n (lv' := [(3, .int (oI (gFind G.2.2.1 b tk))), (0, .ref (a 0)), (1, .int b), (2, .int t)]) hx hb d_D_read_29 rfl hl (by decide) rfl (fun ls hl => ?_)
      refine lv_iload_n hx hb d_D_read_30 rfl (lv_at hl 0 rfl) ?_
      refine lv_if_ge (tgt := 52) hx hb d_D_read_31 (by decide) (fun hc_3 => ?_) (fun hc_3 => ?_)
      · refine lv_aload_n hx hb d_D_read_52 rfl (lv_at hl 1 rfl) ?_
        refine va_get (D := (dC, dI)) (ci := 2) (v := .ref (a 4)) (C := R_D) (T := T_D) (N := 9) hx hb hts wu_D hown hK hP 0 rfl rfl 3 (by decide) (hts _ wf_D_24) (fun _ h9 => h9) rfl d_D_read_53 ?_
        refine lv_iload_n hx hb d_D_read_56 rfl (lv_at hl 0 rfl) ?_
        refine lv_iload_n hx hb d_D_read_57 rfl (lv_at hl 3 rfl) ?_
        obtain ⟨p9, ep⟩ := oI_ge hc_3
        have hp9 := (gFind_spec ep).1
        have e9 : (oI (gFind G.2.2.1 b tk)) = nI p9 := by rw [ep]; rfl
        have i9 := idx64 (m := 24) e9 et (by have := hG.2.1; omega) hα (by omega)
        refine kx_VR (As := [.int (oI (gFind G.2.2.1 b tk)), .int t]) (rest := []) ⟨hx, hb, hml, hown, hts⟩ (k_G_byteAt l dC dI k5 (a 4) (a 5) (a 6) (a 7) G.1 G.2.1 G.2.2.1 G.2.2.2.1 G.2.2.2.2 (oI (gFind G.2.2.1 b tk)) t (((oI (gFind G.2.2.1 b tk)) * 64 + t).toNatClampNeg) (by have := hG.2.1; have := i9.2; omega) i9.1) (cwV 2 hts (goodV wm_D_79 wn_G_byteAt ws_G_byteAt wi_G wc_G_byteAt) rfl rfl rfl (by decide +kernel) ⟨Nat.le_of_ble_eq_true rfl, Nat.le_of_ble_eq_true rfl⟩) ⟨Nat.zero_le _, Nat.zero_le _⟩ hK hP hD [4, 5, 6, 7] (by decide) rfl 0 rfl rfl rfl hl.1 rfl (Nat.le_of_ble_eq_true rfl) d_D_read_58 ?_
        refine W.eq (g2 := F0 m 61 ls [.int (G.2.2.2.2 (((oI (gFind G.2.2.1 b tk)) * 64 + t).toNatClampNeg) &&& 255)]) rfl ?_
        have e : d_read P G J L tk b t = ((P, G, J, L), (G.2.2.2.2 (((oI (gFind G.2.2.1 b tk)) * 64 + t).toNatClampNeg) &&& 255)) := by unfold d_read; rw [if_neg hc_1, if_neg hc_2, if_pos hc_3]
        exact W.iret (v := (G.2.2.2.2 (((oI (gFind G.2.2.1 b tk)) * 64 + t).toNatClampNeg) &&& 255)) hx hb hr (fun t ht hW => kx_Qi (by rw [e]) ht hP (by rw [e]) hS rfl) hS.2.2 d_D_read_61
      · refine lv_aload_n hx hb d_D_read_34 rfl (lv_at hl 1 rfl) ?_
        refine va_get (D := (dC, dI)) (ci := 2) (v := .ref (a 3)) (C := R_D) (T := T_D) (N := 9) hx hb hts wu_D hown hK hP 0 rfl rfl 2 (by decide) (hts _ wf_D_17) (fun _ h9 => h9) rfl d_D_read_35 ?_
        refine lv_iload_n hx hb d_D_read_38 rfl (lv_at hl 2 rfl) ?_
        refine lv_bipush (v := 64) hx hb d_D_read_39 (by decide) ?_
        refine lv_imul hx hb d_D_read_41 ?_
        refine lv_iload_n hx hb d_D_read_42 rfl (lv_at hl 3 rfl) ?_
        refine lv_iadd hx hb d_D_read_43 ?_
        refine kx_bald hx hb hK hP 3 2 rfl rfl ((b * 64 + t).toNatClampNeg) ((idx64 (m := 204) eb et h204 hα (by omega)).1) (by have := (idx64 (m := 204) eb et h204 hα (by omega)).2; omega) (by omega) d_D_read_44 ?_
        refine lv_sipush (v := 255) hx hb d_D_read_45 (by decide) ?_
        refine lv_iand hx hb d_D_read_48 ?_
        refine lv_goto (tgt := 61) hx hb d_D_read_49 (by decide) ?_
        have e : d_read P G J L tk b t = ((P, G, J, L), (((P.2.2.2.2.2) ((b * 64 + t).toNatClampNeg)) &&& 255)) := by unfold d_read; rw [if_neg hc_1, if_neg hc_2, if_neg hc_3]
        exact W.iret (v := (((P.2.2.2.2.2) ((b * 64 + t).toNatClampNeg)) &&& 255)) hx hb hr (fun t ht hW => kx_Qi (by rw [e]) ht hP (by rw [e]) hS rfl) hS.2.2 d_D_read_61
    · refine lv_iconst (v := (-1)) hx hb d_D_read_19 (by decide) ?_
      have e : d_read P G J L tk b t = ((P, G, J, L), (-1)) := by unfold d_read; rw [if_neg hc_1, if_pos hc_2]
      exact W.iret (v := (-1)) hx hb hr (fun t ht hW => kx_Qi (by rw [e]) ht hP (by rw [e]) hS rfl) hS.2.2 d_D_read_20
  · refine lv_bipush (v := (-2)) hx hb d_D_read_7 (by decide) ?_
    have e : d_read P G J L tk b t = ((P, G, J, L), (-2)) := by unfold d_read; rw [if_pos hc_1]
    exact W.iret (v := (-2)) hx hb hr (fun t ht hW => kx_Qi (by rw [e]) ht hP (by rw [e]) hS rfl) hS.2.2 d_D_read_9
def d_lose (P : PP) (G J : GG) (L : LL) (n r : Nat) (d : Int32) : SS × Int32 := (if (bI (decide (¬ d < 0 ∧ ¬ P.1 ≤ d))) = 0 then ((P, G, J, L), (-1)) else (if ((P.2.2.2.1) d.toNatClampNeg) = (-1) then ((P, G, J, L), (-1)) else (if (bI (pMiss P (d.toNatClampNeg) n (r - 2))) = 0 then ((P, G, J, L), (-3)) else (((pRot (vp_updL (pRt P) (d.toNatClampNeg) 0) (pMark (upd (pMk P) (d.toNatClampNeg) (-1)) P)), G, J, (lWipe (d.toNatClampNeg) L)), (nI (pMarked (pRot (vp_updL (pRt P) (d.toNatClampNeg) 0) (pMark (upd (pMk P) (d.toNatClampNeg) (-1)) P)) (-1) (-1) n))))))
set_option maxHeartbeats 4000000 in
set_option maxRecDepth 100000 in
theorem k_D_lose (l : Launch) (dC : Nat → ClassId) (dI : Nat → Nat → Nat) (k5 : Nat → ClassId) (a : Nat → Nat) (P : PP) (G J : GG) (L : LL) (n r : Nat) (d : Int32) (hn : P.1 = nI n) (hn4 : 4 ≤ n) (hn8 : n ≤ 8) (er : P.2.1 = nI r) (hr2 : 12 ≤ r) (hr40 : r ≤ 40) : Met l y_D_lose w_D_lose ({ frames := 4, cells := 0, slots := 0, locals := 89 }) (kx_Pc (dC, dI) clA (tyL k5) (wD a k5 P G J L) [.ref (a 0), .int d]) (kx_Q (dC, dI) clA (wD a k5 P G J L) (wS a k5 (d_lose P G J L n r d).1) (some (.int (d_lose P G J L n r d).2))) 0 0 (kx_A (wD a k5 P G J L)) := by
  refine Met.ofW (cc := c_D_lose) (maxL := 2) (ret := (some .int)) (by decide) rfl ?_
  intro p e s m args below meth c s₁ B hml hv
  obtain ⟨rfl, hP, hK, hD0⟩ := hv
  have hx := B.exec
  have hb := B.bytes
  have hr := B.returns
  have hts : ∀ w ∈ wsA, w.before _ s = true := fun w h => atoms_spec (ws := w_D_lose) B.pre w (List.mem_cons_of_mem _ h)
  have hown : s.vm.findClass R_D = some m.cls := findClass_of_methodNamed B.named
  have hlocks := B.notSynchronized
  have hD := kx_D.self hD0
  have hS : va_S (kx_A (wD a k5 P G J L)) s.heap s.heap [] := va_S.rf
  have hl := lv_entry ([.ref (a 0), .int d]) (n := 2) (Nat.le_of_ble_eq_true rfl)
  rw [lg_entry_eq]
  generalize (lg_sl ([.ref (a 0), .int d]) ++ List.replicate (2 - (lg_sl ([.ref (a 0), .int d])).length) Slot.unset).toArray = ls at hl ⊢
  have hl : lv_has ls 2 [(0, .ref (a 0)), (1, .int d)] := hl
  refine lv_aload_n hx hb d_D_lose_0 rfl (lv_at hl 0 rfl) ?_
  refine lv_iload_n hx hb d_D_lose_1 rfl (lv_at hl 1 rfl) ?_
  refine kx_VRW (As := [.int d]) (rest := []) ⟨hx, hb, hml, hown, hts⟩ (k_D_isDisk l dC dI k5 a P G J L d) (cwV 1 hts (goodV wm_D_115 wn_D_isDisk ws_D_isDisk wi_D wc_D_isDisk) rfl rfl rfl (by decide +kernel) ⟨Nat.le_of_ble_eq_true rfl, Nat.le_of_ble_eq_true rfl⟩) ⟨Nat.zero_le _, Nat.zero_le _⟩ hK hP hD 0 rfl rfl rfl hl.1 rfl (Nat.le_of_ble_eq_true rfl) d_D_lose_2 ?_
  refine W.eq (g2 := F0 m 5 ls [.int (bI (decide (¬ d < 0 ∧ ¬ P.1 ≤ d)))]) rfl ?_
  refine lv_if_eq (tgt := 18) hx hb d_D_lose_5 (by decide) (fun hc_1 => ?_) (fun hc_1 => ?_)
  · refine lv_iconst (v := (-1)) hx hb d_D_lose_18 (by decide) ?_
    have e : d_lose P G J L n r d = ((P, G, J, L), (-1)) := by unfold d_lose; rw [if_pos hc_1]
    exact W.iret (v := (-1)) hx hb hr (fun t ht hW => kx_Qi (by rw [e]) ht hP (by rw [e]) hS rfl) hS.2.2 d_D_lose_19
  · refine lv_aload_n hx hb d_D_lose_8 rfl (lv_at hl 0 rfl) ?_
    refine va_get (D := (dC, dI)) (ci := 2) (v := .ref (a 1)) (C := R_D) (T := T_D) (N := 9) hx hb hts wu_D hown hK hP 0 rfl rfl 0 (by decide) (hts _ wf_D_9) (fun _ h9 => h9) rfl d_D_lose_9 ?_
    refine lv_iload_n hx hb d_D_lose_12 rfl (lv_at hl 1 rfl) ?_
    refine kx_iald hx hb hK hP 1 0 rfl rfl d.toNatClampNeg ((isD (bI_t hc_1) hn (by omega)).1) (by have := (isD (bI_t hc_1) hn (by omega)).2; omega) (by omega) d_D_lose_13 ?_
    refine lv_iconst (v := (-1)) hx hb d_D_lose_14 (by decide) ?_
    refine lv_icmp_ne (tgt := 20) hx hb d_D_lose_15 (by decide) (fun hc_2 => ?_) (fun hc_2 => ?_)
    · refine lv_aload_n hx hb d_D_lose_20 rfl (lv_at hl 0 rfl) ?_
      refine lv_iload_n hx hb d_D_lose_21 rfl (lv_at hl 1 rfl) ?_
      refine W.eq (g2 := F0 m 22 ls [.int (nI (d.toNatClampNeg)), .ref (a 0)]) (by rw [← (isD (bI_t hc_1) hn (by omega)).1]) ?_
      refine kx_VRW (As := [.int (nI (d.toNatClampNeg))]) (rest := []) ⟨hx, hb, hml, hown, hts⟩ (k_D_canBeMissed l dC dI k5 a P G J L (d.toNatClampNeg) (by have := (isD (bI_t hc_1) hn (by omega)).2; omega) n hn hn8 r er (by omega) hr40) (cwV 1 hts (goodV wm_D_119 wn_D_canBeMissed ws_D_canBeMissed wi_D wc_D_canBeMissed) rfl rfl rfl (by decide +kernel) ⟨Nat.le_of_ble_eq_true rfl, Nat.le_of_ble_eq_true rfl⟩) ⟨Nat.zero_le _, Nat.zero_le _⟩ hK hP hD 0 rfl rfl rfl hl.1 rfl (Nat.le_of_ble_eq_true rfl) d_D_lose_22 ?_
      refine W.eq (g2 := F0 m 25 ls [.int (bI (pMiss P (d.toNatClampNeg) n (r - 2)))]) rfl ?_
      refine lv_if_ne (tgt := 31) hx hb d_D_lose_25 (by decide) (fun hc_3 => ?_) (fun hc_3 => ?_)
      · refine lv_aload_n hx hb d_D_lose_31 rfl (lv_at hl 0 rfl) ?_
        refine va_get (D := (dC, dI)) (ci := 2) (v := .ref (a 1)) (C := R_D) (T := T_D) (N := 9) hx hb hts wu_D hown hK hP 0 rfl rfl 0 (by decide) (hts _ wf_D_9) (fun _ h9 => h9) rfl d_D_lose_32 ?_
        refine lv_iload_n hx hb d_D_lose_35 rfl (lv_at hl 1 rfl) ?_
        refine lv_iconst (v := (-1)) hx hb d_D_lose_36 (by decide) ?_
        refine kx_iast (ws' := (wD a k5 (pMark (upd (pMk P) (d.toNatClampNeg) (-1)) P) G J L)) hx hb hK hP hD hS 1 0 rfl rfl d.toNatClampNeg ((isD (bI_t hc_1) hn (by omega)).1) (by have := (isD (bI_t hc_1) hn (by omega)).2; omega) (by omega) rfl d_D_lose_37 (fun H locs hP hD hS => ?_)
        refine lv_aload_n hx hb d_D_lose_38 rfl (lv_at hl 0 rfl) ?_
        refine va_get (D := (dC, dI)) (ci := 2) (v := .ref (a 2)) (C := R_D) (T := T_D) (N := 9) hx hb hts wu_D hown hK hP 0 rfl rfl 1 (by decide) (hts _ wf_D_13) (fun _ h9 => h9) rfl d_D_lose_39 ?_
        refine lv_iload_n hx hb d_D_lose_42 rfl (lv_at hl 1 rfl) ?_
        refine lv_lconst (v := 0) hx hb d_D_lose_43 (by decide) ?_
        refine kx_last (ws' := (wD a k5 (pRot (vp_updL (pRt P) (d.toNatClampNeg) 0) (pMark (upd (pMk P) (d.toNatClampNeg) (-1)) P)) G J L)) hx hb hK hP hD hS 2 1 rfl rfl d.toNatClampNeg ((isD (bI_t hc_1) hn (by omega)).1) (by have := (isD (bI_t hc_1) hn (by omega)).2; omega) (by omega) rfl d_D_lose_44 (fun H locs hP hD hS => ?_)
        refine lv_aload_n hx hb d_D_lose_45 rfl (lv_at hl 0 rfl) ?_
        refine va_get (D := (dC, dI)) (ci := 2) (v := .ref (a 12)) (C := R_D) (T := T_D) (N := 9) hx hb hts wu_D hown hK hP 0 rfl rfl 5 (by decide) (hts _ wf_D_34) (fun _ h9 => h9) rfl d_D_lose_46 ?_
        refine lv_iload_n hx hb d_D_lose_49 rfl (lv_at hl 1 rfl) ?_
        refine W.eq (g2 := F0 m 50 ls [.int (nI (d.toNatClampNeg)), .ref (a 12)]) (by rw [← (isD (bI_t hc_1) hn (by omega)).1]) ?_
        refine kx_V (ws2 := (wD a k5 (pRot (vp_updL (pRt P) (d.toNatClampNeg) 0) (pMark (upd (pMk P) (d.toNatClampNeg) (-1)) P)) G J (lWipe (d.toNatClampNeg) L))) (As := [.int (nI (d.toNatClampNeg))]) (rest := []) ⟨hx, hb, hml, hown, hts⟩ (k_L_wipe l dC dI k5 a L (d.toNatClampNeg) (by have := (isD (bI_t hc_1) hn (by omega)).2; omega)) (cwV 1 hts (goodV wm_D_122 wn_L_wipe ws_L_wipe wi_L wc_L_wipe) rfl rfl rfl (by decide +kernel) ⟨Nat.le_of_ble_eq_true rfl, Nat.le_of_ble_eq_true rfl⟩) ⟨Nat.zero_le _, Nat.zero_le _⟩ hK hP hD hS [12, 13, 14, 15, 16, 17, 18, 19, 20, 21, 22, 23] (by decide) rfl 0 rfl rfl rfl rfl rfl rfl hl.1 rfl (Nat.le_of_ble_eq_true rfl) d_D_lose_50 (fun H locs hP hD hS => ?_)
        refine W.eq (g2 := F0 m 53 ls []) rfl ?_
        refine lv_aload_n hx hb d_D_lose_53 rfl (lv_at hl 0 rfl) ?_
        refine kx_VRW (As := []) (rest := []) ⟨hx, hb, hml, hown, hts⟩ (k_D_lostDisks l dC dI k5 a (pRot (vp_updL (pRt P) (d.toNatClampNeg) 0) (pMark (upd (pMk P) (d.toNatClampNeg) (-1)) P)) G J (lWipe (d.toNatClampNeg) L) n hn hn8) (cwV 0 hts (goodV wm_D_126 wn_D_lostDisks ws_D_lostDisks wi_D wc_D_lostDisks) rfl rfl rfl (by decide +kernel) ⟨Nat.le_of_ble_eq_true rfl, Nat.le_of_ble_eq_true rfl⟩) ⟨Nat.zero_le _, Nat.zero_le _⟩ hK hP hD 0 rfl rfl rfl hl.1 rfl (Nat.le_of_ble_eq_true rfl) d_D_lose_54 ?_
        refine W.eq (g2 := F0 m 57 ls [.int (nI (pMarked (pRot (vp_updL (pRt P) (d.toNatClampNeg) 0) (pMark (upd (pMk P) (d.toNatClampNeg) (-1)) P)) (-1) (-1) n))]) rfl ?_
        have e : d_lose P G J L n r d = (((pRot (vp_updL (pRt P) (d.toNatClampNeg) 0) (pMark (upd (pMk P) (d.toNatClampNeg) (-1)) P)), G, J, (lWipe (d.toNatClampNeg) L)), (nI (pMarked (pRot (vp_updL (pRt P) (d.toNatClampNeg) 0) (pMark (upd (pMk P) (d.toNatClampNeg) (-1)) P)) (-1) (-1) n))) := by unfold d_lose; rw [if_neg hc_1, if_neg hc_2, if_neg hc_3]
        exact W.iret (v := (nI (pMarked (pRot (vp_updL (pRt P) (d.toNatClampNeg) 0) (pMark (upd (pMk P) (d.toNatClampNeg) (-1)) P)) (-1) (-1) n))) hx hb hr (fun t ht hW => kx_Qi (by rw [e]) ht hP (by rw [e]) hS rfl) hS.2.2 d_D_lose_57
      · refine lv_bipush (v := (-3)) hx hb d_D_lose_28 (by decide) ?_
        have e : d_lose P G J L n r d = ((P, G, J, L), (-3)) := by unfold d_lose; rw [if_neg hc_1, if_neg hc_2, if_pos hc_3]
        exact W.iret (v := (-3)) hx hb hr (fun t ht hW => kx_Qi (by rw [e]) ht hP (by rw [e]) hS rfl) hS.2.2 d_D_lose_30
    · refine lv_iconst (v := (-1)) hx hb d_D_lose_18 (by decide) ?_
      have e : d_lose P G J L n r d = ((P, G, J, L), (-1)) := by unfold d_lose; rw [if_neg hc_1, if_pos hc_2]
      exact W.iret (v := (-1)) hx hb hr (fun t ht hW => kx_Qi (by rw [e]) ht hP (by rw [e]) hS rfl) hS.2.2 d_D_lose_19
def d_replace (P : PP) (G J : GG) (L : LL) (n w : Nat) (d : Int32) : SS × Int32 := (if (bI (decide (¬ d < 0 ∧ ¬ P.1 ≤ d))) = 0 then ((P, G, J, L), (-1)) else (if ((P.2.2.2.1) d.toNatClampNeg) = (-1) then (if ((pMark (upd (pMk P) (d.toNatClampNeg) 0) P).2.2.1) = 0 then (((pMark (upd (pMk P) (d.toNatClampNeg) 0) P), G, J, L), 0) else (((pMark (upd (pMk P) (d.toNatClampNeg) 0) P), G, J, (pFinish (pMark (upd (pMk P) (d.toNatClampNeg) 0) P) w n (lDraft w 0 (upd (pMk P) (d.toNatClampNeg) 0) L))), 0)) else ((P, G, J, L), (-1))))
set_option maxHeartbeats 4000000 in
set_option maxRecDepth 100000 in
theorem k_D_replace (l : Launch) (dC : Nat → ClassId) (dI : Nat → Nat → Nat) (k5 : Nat → ClassId) (a : Nat → Nat) (P : PP) (G J : GG) (L : LL) (n w : Nat) (d : Int32) (hn : P.1 = nI n) (hn4 : 4 ≤ n) (hn8 : n ≤ 8) (hw : w = 0 ∨ w = 1) (hq : 1 - L.1 1 = nI w) : Met l y_D_replace w_D_replace ({ frames := 4, cells := 0, slots := 0, locals := 89 }) (kx_Pc (dC, dI) clA (tyL k5) (wD a k5 P G J L) [.ref (a 0), .int d]) (kx_Q (dC, dI) clA (wD a k5 P G J L) (wS a k5 (d_replace P G J L n w d).1) (some (.int (d_replace P G J L n w d).2))) 0 0 (kx_A (wD a k5 P G J L)) := by
  refine Met.ofW (cc := c_D_replace) (maxL := 2) (ret := (some .int)) (by decide) rfl ?_
  intro p e s m args below meth c s₁ B hml hv
  obtain ⟨rfl, hP, hK, hD0⟩ := hv
  have hx := B.exec
  have hb := B.bytes
  have hr := B.returns
  have hts : ∀ w ∈ wsA, w.before _ s = true := fun w h => atoms_spec (ws := w_D_replace) B.pre w (List.mem_cons_of_mem _ h)
  have hown : s.vm.findClass R_D = some m.cls := findClass_of_methodNamed B.named
  have hlocks := B.notSynchronized
  have hD := kx_D.self hD0
  have hS : va_S (kx_A (wD a k5 P G J L)) s.heap s.heap [] := va_S.rf
  have hl := lv_entry ([.ref (a 0), .int d]) (n := 2) (Nat.le_of_ble_eq_true rfl)
  rw [lg_entry_eq]
  generalize (lg_sl ([.ref (a 0), .int d]) ++ List.replicate (2 - (lg_sl ([.ref (a 0), .int d])).length) Slot.unset).toArray = ls at hl ⊢
  have hl : lv_has ls 2 [(0, .ref (a 0)), (1, .int d)] := hl
  refine lv_aload_n hx hb d_D_replace_0 rfl (lv_at hl 0 rfl) ?_
  refine lv_iload_n hx hb d_D_replace_1 rfl (lv_at hl 1 rfl) ?_
  refine kx_VRW (As := [.int d]) (rest := []) ⟨hx, hb, hml, hown, hts⟩ (k_D_isDisk l dC dI k5 a P G J L d) (cwV 1 hts (goodV wm_D_115 wn_D_isDisk ws_D_isDisk wi_D wc_D_isDisk) rfl rfl rfl (by decide +kernel) ⟨Nat.le_of_ble_eq_true rfl, Nat.le_of_ble_eq_true rfl⟩) ⟨Nat.zero_le _, Nat.zero_le _⟩ hK hP hD 0 rfl rfl rfl hl.1 rfl (Nat.le_of_ble_eq_true rfl) d_D_replace_2 ?_
  refine W.eq (g2 := F0 m 5 ls [.int (bI (decide (¬ d < 0 ∧ ¬ P.1 ≤ d)))]) rfl ?_
  refine lv_if_eq (tgt := 18) hx hb d_D_replace_5 (by decide) (fun hc_1 => ?_) (fun hc_1 => ?_)
  · refine lv_iconst (v := (-1)) hx hb d_D_replace_18 (by decide) ?_
    have e : d_replace P G J L n w d = ((P, G, J, L), (-1)) := by unfold d_replace; rw [if_pos hc_1]
    exact W.iret (v := (-1)) hx hb hr (fun t ht hW => kx_Qi (by rw [e]) ht hP (by rw [e]) hS rfl) hS.2.2 d_D_replace_19
  · refine lv_aload_n hx hb d_D_replace_8 rfl (lv_at hl 0 rfl) ?_
    refine va_get (D := (dC, dI)) (ci := 2) (v := .ref (a 1)) (C := R_D) (T := T_D) (N := 9) hx hb hts wu_D hown hK hP 0 rfl rfl 0 (by decide) (hts _ wf_D_9) (fun _ h9 => h9) rfl d_D_replace_9 ?_
    refine lv_iload_n hx hb d_D_replace_12 rfl (lv_at hl 1 rfl) ?_
    refine kx_iald hx hb hK hP 1 0 rfl rfl d.toNatClampNeg ((isD (bI_t hc_1) hn (by omega)).1) (by have := (isD (bI_t hc_1) hn (by omega)).2; omega) (by omega) d_D_replace_13 ?_
    refine lv_iconst (v := (-1)) hx hb d_D_replace_14 (by decide) ?_
    refine lv_icmp_eq (tgt := 20) hx hb d_D_replace_15 (by decide) (fun hc_2 => ?_) (fun hc_2 => ?_)
    · refine lv_aload_n hx hb d_D_replace_20 rfl (lv_at hl 0 rfl) ?_
      refine va_get (D := (dC, dI)) (ci := 2) (v := .ref (a 1)) (C := R_D) (T := T_D) (N := 9) hx hb hts wu_D hown hK hP 0 rfl rfl 0 (by decide) (hts _ wf_D_9) (fun _ h9 => h9) rfl d_D_replace_21 ?_
      refine lv_iload_n hx hb d_D_replace_24 rfl (lv_at hl 1 rfl) ?_
      refine lv_iconst (v := 0) hx hb d_D_replace_25 (by decide) ?_
      refine kx_iast (ws' := (wD a k5 (pMark (upd (pMk P) (d.toNatClampNeg) 0) P) G J L)) hx hb hK hP hD hS 1 0 rfl rfl d.toNatClampNeg ((isD (bI_t hc_1) hn (by omega)).1) (by have := (isD (bI_t hc_1) hn (by omega)).2; omega) (by omega) rfl d_D_replace_26 (fun H locs hP hD hS => ?_)
      refine lv_aload_n hx hb d_D_replace_27 rfl (lv_at hl 0 rfl) ?_
      refine va_get (D := (dC, dI)) (ci := 2) (v := .int ((pMark (upd (pMk P) (d.toNatClampNeg) 0) P).2.2.1)) (C := R_D) (T := T_D) (N := 9) hx hb hts wu_D hown hK hP 0 rfl rfl 8 (by decide) (hts _ wf_D_46) (fun _ h9 => h9) rfl d_D_replace_28 ?_
      refine lv_if_eq (tgt := 50) hx hb d_D_replace_31 (by decide) (fun hc_3 => ?_) (fun hc_3 => ?_)
      · refine lv_iconst (v := 0) hx hb d_D_replace_50 (by decide) ?_
        have e : d_replace P G J L n w d = (((pMark (upd (pMk P) (d.toNatClampNeg) 0) P), G, J, L), 0) := by unfold d_replace; rw [if_neg hc_1, if_pos hc_2, if_pos hc_3]
        exact W.iret (v := 0) hx hb hr (fun t ht hW => kx_Qi (by rw [e]) ht hP (by rw [e]) hS rfl) hS.2.2 d_D_replace_51
      · refine lv_aload_n hx hb d_D_replace_34 rfl (lv_at hl 0 rfl) ?_
        refine va_get (D := (dC, dI)) (ci := 2) (v := .ref (a 12)) (C := R_D) (T := T_D) (N := 9) hx hb hts wu_D hown hK hP 0 rfl rfl 5 (by decide) (hts _ wf_D_34) (fun _ h9 => h9) rfl d_D_replace_35 ?_
        refine lv_iconst (v := 0) hx hb d_D_replace_38 (by decide) ?_
        refine lv_aload_n hx hb d_D_replace_39 rfl (lv_at hl 0 rfl) ?_
        refine va_get (D := (dC, dI)) (ci := 2) (v := .ref (a 1)) (C := R_D) (T := T_D) (N := 9) hx hb hts wu_D hown hK hP 0 rfl rfl 0 (by decide) (hts _ wf_D_9) (fun _ h9 => h9) rfl d_D_replace_40 ?_
        refine kx_V (ws2 := (wD a k5 (pMark (upd (pMk P) (d.toNatClampNeg) 0) P) G J (lDraft w 0 (upd (pMk P) (d.toNatClampNeg) 0) L))) (As := [.int 0, .ref (a 1)]) (rest := []) ⟨hx, hb, hml, hown, hts⟩ (k_L_draft l dC dI k5 a L w hw hq (a 1) (upd (pMk P) (d.toNatClampNeg) 0) 0 rfl) (cwV 2 hts (goodV wm_D_94 wn_L_draft ws_L_draft wi_L wc_L_draft) rfl rfl rfl (by decide +kernel) ⟨Nat.le_of_ble_eq_true rfl, Nat.le_of_ble_eq_true rfl⟩) ⟨Nat.zero_le _, Nat.zero_le _⟩ hK hP hD hS [12, 13, 14, 15, 16, 17, 18, 19, 20, 21, 22, 23, 1] (by decide) rfl 0 rfl rfl rfl rfl rfl rfl hl.1 rfl (Nat.le_of_ble_eq_true rfl) d_D_replace_43 (fun H locs hP hD hS => ?_)
        refine W.eq (g2 := F0 m 46 ls []) rfl ?_
        refine lv_aload_n hx hb d_D_replace_46 rfl (lv_at hl 0 rfl) ?_
        refine kx_VW (w1 := (wD a k5 (pMark (upd (pMk P) (d.toNatClampNeg) 0) P) G J (pFinish (pMark (upd (pMk P) (d.toNatClampNeg) 0) P) w n (lDraft w 0 (upd (pMk P) (d.toNatClampNeg) 0) L)))) (As := []) (rest := []) ⟨hx, hb, hml, hown, hts⟩ (k_D_finishLabel l dC dI k5 a (pMark (upd (pMk P) (d.toNatClampNeg) 0) P) G J (lDraft w 0 (upd (pMk P) (d.toNatClampNeg) 0) L) w hw hq n hn hn8) (cwV 0 hts (goodV wm_D_102 wn_D_finishLabel ws_D_finishLabel wi_D wc_D_finishLabel) rfl rfl rfl (by decide +kernel) ⟨Nat.le_of_ble_eq_true rfl, Nat.le_of_ble_eq_true rfl⟩) ⟨Nat.zero_le _, Nat.zero_le _⟩ hK hP hD hS 0 rfl rfl rfl rfl hl.1 rfl (Nat.le_of_ble_eq_true rfl) d_D_replace_47 (fun H locs hP hD hS => ?_)
        refine W.eq (g2 := F0 m 50 ls []) rfl ?_
        refine lv_iconst (v := 0) hx hb d_D_replace_50 (by decide) ?_
        have e : d_replace P G J L n w d = (((pMark (upd (pMk P) (d.toNatClampNeg) 0) P), G, J, (pFinish (pMark (upd (pMk P) (d.toNatClampNeg) 0) P) w n (lDraft w 0 (upd (pMk P) (d.toNatClampNeg) 0) L))), 0) := by unfold d_replace; rw [if_neg hc_1, if_pos hc_2, if_neg hc_3]
        exact W.iret (v := 0) hx hb hr (fun t ht hW => kx_Qi (by rw [e]) ht hP (by rw [e]) hS rfl) hS.2.2 d_D_replace_51
    · refine lv_iconst (v := (-1)) hx hb d_D_replace_18 (by decide) ?_
      have e : d_replace P G J L n w d = ((P, G, J, L), (-1)) := by unfold d_replace; rw [if_neg hc_1, if_neg hc_2]
      exact W.iret (v := (-1)) hx hb hr (fun t ht hW => kx_Qi (by rw [e]) ht hP (by rw [e]) hS rfl) hS.2.2 d_D_replace_19
def d_rot (P : PP) (G J : GG) (L : LL) (n : Nat) (d t : Int32) : SS × Int32 := (if (bI (decide (¬ d < 0 ∧ ¬ P.1 ≤ d))) = 0 then ((P, G, J, L), (-1)) else (if (bI (decide (¬ t < 2 ∧ ¬ P.2.1 ≤ t))) = 0 then ((P, G, J, L), (-1)) else (if (bI (pGone P (d.toNatClampNeg) t)) = 0 then (if (nI (pGoneIn P t n)) < 2 then (((pRot (vp_updL (pRt P) (d.toNatClampNeg) (pRt P (d.toNatClampNeg) ||| (1 <<< (t.toInt64 &&& 63)))) P), G, J, L), ((nI (pGoneIn P t n)) + 1)) else ((P, G, J, L), (-3))) else ((P, G, J, L), (-1)))))
set_option maxHeartbeats 4000000 in
set_option maxRecDepth 100000 in
theorem k_D_rot (l : Launch) (dC : Nat → ClassId) (dI : Nat → Nat → Nat) (k5 : Nat → ClassId) (a : Nat → Nat) (P : PP) (G J : GG) (L : LL) (n : Nat) (d t : Int32) (hn : P.1 = nI n) (hn4 : 4 ≤ n) (hn8 : n ≤ 8) : Met l y_D_rot w_D_rot ({ frames := 3, cells := 0, slots := 0, locals := 67 }) (kx_Pc (dC, dI) clA (tyL k5) (wD a k5 P G J L) [.ref (a 0), .int d, .int t]) (kx_Q (dC, dI) clA (wD a k5 P G J L) (wS a k5 (d_rot P G J L n d t).1) (some (.int (d_rot P G J L n d t).2))) 0 0 (kx_A (wD a k5 P G J L)) := by
  refine Met.ofW (cc := c_D_rot) (maxL := 4) (ret := (some .int)) (by decide) rfl ?_
  intro p e s m args below meth c s₁ B hml hv
  obtain ⟨rfl, hP, hK, hD0⟩ := hv
  have hx := B.exec
  have hb := B.bytes
  have hr := B.returns
  have hts : ∀ w ∈ wsA, w.before _ s = true := fun w h => atoms_spec (ws := w_D_rot) B.pre w (List.mem_cons_of_mem _ h)
  have hown : s.vm.findClass R_D = some m.cls := findClass_of_methodNamed B.named
  have hlocks := B.notSynchronized
  have hD := kx_D.self hD0
  have hS : va_S (kx_A (wD a k5 P G J L)) s.heap s.heap [] := va_S.rf
  have hl := lv_entry ([.ref (a 0), .int d, .int t]) (n := 4) (Nat.le_of_ble_eq_true rfl)
  rw [lg_entry_eq]
  generalize (lg_sl ([.ref (a 0), .int d, .int t]) ++ List.replicate (4 - (lg_sl ([.ref (a 0), .int d, .int t])).length) Slot.unset).toArray = ls at hl ⊢
  have hl : lv_has ls 4 [(0, .ref (a 0)), (1, .int d), (2, .int t)] := hl
  refine lv_aload_n hx hb d_D_rot_0 rfl (lv_at hl 0 rfl) ?_
  refine lv_iload_n hx hb d_D_rot_1 rfl (lv_at hl 1 rfl) ?_
  refine kx_VRW (As := [.int d]) (rest := []) ⟨hx, hb, hml, hown, hts⟩ (k_D_isDisk l dC dI k5 a P G J L d) (cwV 1 hts (goodV wm_D_115 wn_D_isDisk ws_D_isDisk wi_D wc_D_isDisk) rfl rfl rfl (by decide +kernel) ⟨Nat.le_of_ble_eq_true rfl, Nat.le_of_ble_eq_true rfl⟩) ⟨Nat.zero_le _, Nat.zero_le _⟩ hK hP hD 0 rfl rfl rfl hl.1 rfl (Nat.le_of_ble_eq_true rfl) d_D_rot_2 ?_
  refine W.eq (g2 := F0 m 5 ls [.int (bI (decide (¬ d < 0 ∧ ¬ P.1 ≤ d)))]) rfl ?_
  refine lv_if_eq (tgt := 25) hx hb d_D_rot_5 (by decide) (fun hc_1 => ?_) (fun hc_1 => ?_)
  · refine lv_iconst (v := (-1)) hx hb d_D_rot_25 (by decide) ?_
    have e : d_rot P G J L n d t = ((P, G, J, L), (-1)) := by unfold d_rot; rw [if_pos hc_1]
    exact W.iret (v := (-1)) hx hb hr (fun t ht hW => kx_Qi (by rw [e]) ht hP (by rw [e]) hS rfl) hS.2.2 d_D_rot_26
  · refine lv_aload_n hx hb d_D_rot_8 rfl (lv_at hl 0 rfl) ?_
    refine lv_iload_n hx hb d_D_rot_9 rfl (lv_at hl 2 rfl) ?_
    refine kx_VRW (As := [.int t]) (rest := []) ⟨hx, hb, hml, hown, hts⟩ (k_D_isRow l dC dI k5 a P G J L t) (cwV 1 hts (goodV wm_D_129 wn_D_isRow ws_D_isRow wi_D wc_D_isRow) rfl rfl rfl (by decide +kernel) ⟨Nat.le_of_ble_eq_true rfl, Nat.le_of_ble_eq_true rfl⟩) ⟨Nat.zero_le _, Nat.zero_le _⟩ hK hP hD 0 rfl rfl rfl hl.1 rfl (Nat.le_of_ble_eq_true rfl) d_D_rot_10 ?_
    refine W.eq (g2 := F0 m 13 ls [.int (bI (decide (¬ t < 2 ∧ ¬ P.2.1 ≤ t)))]) rfl ?_
    refine lv_if_eq (tgt := 25) hx hb d_D_rot_13 (by decide) (fun hc_2 => ?_) (fun hc_2 => ?_)
    · refine lv_iconst (v := (-1)) hx hb d_D_rot_25 (by decide) ?_
      have e : d_rot P G J L n d t = ((P, G, J, L), (-1)) := by unfold d_rot; rw [if_neg hc_1, if_pos hc_2]
      exact W.iret (v := (-1)) hx hb hr (fun t ht hW => kx_Qi (by rw [e]) ht hP (by rw [e]) hS rfl) hS.2.2 d_D_rot_26
    · refine lv_aload_n hx hb d_D_rot_16 rfl (lv_at hl 0 rfl) ?_
      refine lv_iload_n hx hb d_D_rot_17 rfl (lv_at hl 1 rfl) ?_
      refine lv_iload_n hx hb d_D_rot_18 rfl (lv_at hl 2 rfl) ?_
      refine W.eq (g2 := F0 m 19 ls [.int t, .int (nI (d.toNatClampNeg)), .ref (a 0)]) (by rw [← (isD (bI_t hc_1) hn (by omega)).1]) ?_
      refine kx_VRW (As := [.int (nI (d.toNatClampNeg)), .int t]) (rest := []) ⟨hx, hb, hml, hown, hts⟩ (k_D_isGone l dC dI k5 a P G J L (d.toNatClampNeg) (by have := (isD (bI_t hc_1) hn (by omega)).2; omega) t) (cwV 2 hts (goodV wm_D_132 wn_D_isGone ws_D_isGone wi_D wc_D_isGone) rfl rfl rfl (by decide +kernel) ⟨Nat.le_of_ble_eq_true rfl, Nat.le_of_ble_eq_true rfl⟩) ⟨Nat.zero_le _, Nat.zero_le _⟩ hK hP hD 0 rfl rfl rfl hl.1 rfl (Nat.le_of_ble_eq_true rfl) d_D_rot_19 ?_
      refine W.eq (g2 := F0 m 22 ls [.int (bI (pGone P (d.toNatClampNeg) t))]) rfl ?_
      refine lv_if_eq (tgt := 27) hx hb d_D_rot_22 (by decide) (fun hc_3 => ?_) (fun hc_3 => ?_)
      · refine lv_aload_n hx hb d_D_rot_27 rfl (lv_at hl 0 rfl) ?_
        refine lv_iload_n hx hb d_D_rot_28 rfl (lv_at hl 2 rfl) ?_
        refine kx_VRW (As := [.int t]) (rest := []) ⟨hx, hb, hml, hown, hts⟩ (k_D_goneIn l dC dI k5 a P G J L t n hn hn8) (cwV 1 hts (goodV wm_D_135 wn_D_goneIn ws_D_goneIn wi_D wc_D_goneIn) rfl rfl rfl (by decide +kernel) ⟨Nat.le_of_ble_eq_true rfl, Nat.le_of_ble_eq_true rfl⟩) ⟨Nat.zero_le _, Nat.zero_le _⟩ hK hP hD 0 rfl rfl rfl hl.1 rfl (Nat.le_of_ble_eq_true rfl) d_D_rot_29 ?_
        refine W.eq (g2 := F0 m 32 ls [.int (nI (pGoneIn P t n))]) rfl ?_
        refine lv_istore_n (lv' := [(3, .int (nI (pGoneIn P t n))), (0, .ref (a 0)), (1, .int d), (2, .int t)]) hx hb d_D_rot_32 rfl hl (by decide) rfl (fun ls hl => ?_)
        refine lv_iload_n hx hb d_D_rot_33 rfl (lv_at hl 0 rfl) ?_
        refine lv_iconst (v := 2) hx hb d_D_rot_34 (by decide) ?_
        refine lv_icmp_lt (tgt := 41) hx hb d_D_rot_35 (by decide) (fun hc_4 => ?_) (fun hc_4 => ?_)
        · refine lv_aload_n hx hb d_D_rot_41 rfl (lv_at hl 1 rfl) ?_
          refine va_get (D := (dC, dI)) (ci := 2) (v := .ref (a 2)) (C := R_D) (T := T_D) (N := 9) hx hb hts wu_D hown hK hP 0 rfl rfl 1 (by decide) (hts _ wf_D_13) (fun _ h9 => h9) rfl d_D_rot_42 ?_
          refine lv_iload_n hx hb d_D_rot_45 rfl (lv_at hl 2 rfl) ?_
          refine lv_dup2_11 hx hb d_D_rot_46 rfl rfl ?_
          refine kx_lald hx hb hK hP 2 1 rfl rfl d.toNatClampNeg ((isD (bI_t hc_1) hn (by omega)).1) (by have := (isD (bI_t hc_1) hn (by omega)).2; omega) (by omega) d_D_rot_47 ?_
          refine lv_lconst (v := 1) hx hb d_D_rot_48 (by decide) ?_
          refine lv_iload_n hx hb d_D_rot_49 rfl (lv_at hl 3 rfl) ?_
          refine lv_lshl (v := (1 <<< (t.toInt64 &&& 63))) hx hb d_D_rot_50 rfl ?_
          refine lv_lor hx hb d_D_rot_51 ?_
          refine kx_last (ws' := (wD a k5 (pRot (vp_updL (pRt P) (d.toNatClampNeg) (pRt P (d.toNatClampNeg) ||| (1 <<< (t.toInt64 &&& 63)))) P) G J L)) hx hb hK hP hD hS 2 1 rfl rfl d.toNatClampNeg ((isD (bI_t hc_1) hn (by omega)).1) (by have := (isD (bI_t hc_1) hn (by omega)).2; omega) (by omega) rfl d_D_rot_52 (fun H locs hP hD hS => ?_)
          refine lv_iload_n hx hb d_D_rot_53 rfl (lv_at hl 0 rfl) ?_
          refine lv_iconst (v := 1) hx hb d_D_rot_54 (by decide) ?_
          refine lv_iadd hx hb d_D_rot_55 ?_
          have e : d_rot P G J L n d t = (((pRot (vp_updL (pRt P) (d.toNatClampNeg) (pRt P (d.toNatClampNeg) ||| (1 <<< (t.toInt64 &&& 63)))) P), G, J, L), ((nI (pGoneIn P t n)) + 1)) := by unfold d_rot; rw [if_neg hc_1, if_neg hc_2, if_pos hc_3, if_pos hc_4]
          exact W.iret (v := ((nI (pGoneIn P t n)) + 1)) hx hb hr (fun t ht hW => kx_Qi (by rw [e]) ht hP (by rw [e]) hS rfl) hS.2.2 d_D_rot_56
        · refine lv_bipush (v := (-3)) hx hb d_D_rot_38 (by decide) ?_
          have e : d_rot P G J L n d t = ((P, G, J, L), (-3)) := by unfold d_rot; rw [if_neg hc_1, if_neg hc_2, if_pos hc_3, if_neg hc_4]
          exact W.iret (v := (-3)) hx hb hr (fun t ht hW => kx_Qi (by rw [e]) ht hP (by rw [e]) hS rfl) hS.2.2 d_D_rot_40
      · refine lv_iconst (v := (-1)) hx hb d_D_rot_25 (by decide) ?_
        have e : d_rot P G J L n d t = ((P, G, J, L), (-1)) := by unfold d_rot; rw [if_neg hc_1, if_neg hc_2, if_neg hc_3]
        exact W.iret (v := (-1)) hx hb hr (fun t ht hW => kx_Qi (by rw [e]) ht hP (by rw [e]) hS rfl) hS.2.2 d_D_rot_26
def d_count (P : PP) (G J : GG) (L : LL) (n : Nat) (x : Int32) : SS × Int32 := (if (P.2.2.1) = 0 then ((P, G, J, L), (-2)) else (if x = 0 then ((P, G, J, L), ((P.1 - 2) * (P.2.1 - 6))) else if x = 1 then ((P, G, J, L), (gUse G)) else if x = 2 then ((P, G, J, L), G.1) else if x = 3 then ((P, G, J, L), (nI (pMarked P (-1) (-1) n))) else if x = 4 then ((P, G, J, L), (nI (pMarked P 0 (P.2.1 - 1) n))) else ((P, G, J, L), (-1))))
set_option maxHeartbeats 4000000 in
set_option maxRecDepth 100000 in
theorem k_D_count (l : Launch) (dC : Nat → ClassId) (dI : Nat → Nat → Nat) (k5 : Nat → ClassId) (a : Nat → Nat) (P : PP) (G J : GG) (L : LL) (n : Nat) (x : Int32) (hn : P.1 = nI n) (hn4 : 4 ≤ n) (hn8 : n ≤ 8) : Met l y_D_count w_D_count ({ frames := 2, cells := 0, slots := 0, locals := 44 }) (kx_Pc (dC, dI) clA (tyL k5) (wD a k5 P G J L) [.ref (a 0), .int x]) (kx_Q (dC, dI) clA (wD a k5 P G J L) (wS a k5 (d_count P G J L n x).1) (some (.int (d_count P G J L n x).2))) 0 0 (kx_A (wD a k5 P G J L)) := by
  refine Met.ofW (cc := c_D_count) (maxL := 2) (ret := (some .int)) (by decide) rfl ?_
  intro p e s m args below meth c s₁ B hml hv
  obtain ⟨rfl, hP, hK, hD0⟩ := hv
  have hx := B.exec
  have hb := B.bytes
  have hr := B.returns
  have hts : ∀ w ∈ wsA, w.before _ s = true := fun w h => atoms_spec (ws := w_D_count) B.pre w (List.mem_cons_of_mem _ h)
  have hown : s.vm.findClass R_D = some m.cls := findClass_of_methodNamed B.named
  have hlocks := B.notSynchronized
  have hD := kx_D.self hD0
  have hS : va_S (kx_A (wD a k5 P G J L)) s.heap s.heap [] := va_S.rf
  have hl := lv_entry ([.ref (a 0), .int x]) (n := 2) (Nat.le_of_ble_eq_true rfl)
  rw [lg_entry_eq]
  generalize (lg_sl ([.ref (a 0), .int x]) ++ List.replicate (2 - (lg_sl ([.ref (a 0), .int x])).length) Slot.unset).toArray = ls at hl ⊢
  have hl : lv_has ls 2 [(0, .ref (a 0)), (1, .int x)] := hl
  refine lv_aload_n hx hb d_D_count_0 rfl (lv_at hl 0 rfl) ?_
  refine va_get (D := (dC, dI)) (ci := 2) (v := .int (P.2.2.1)) (C := R_D) (T := T_D) (N := 9) hx hb hts wu_D hown hK hP 0 rfl rfl 8 (by decide) (hts _ wf_D_46) (fun _ h9 => h9) rfl d_D_count_1 ?_
  refine lv_if_ne (tgt := 10) hx hb d_D_count_4 (by decide) (fun hc_1 => ?_) (fun hc_1 => ?_)
  · refine lv_iload_n hx hb d_D_count_10 rfl (lv_at hl 1 rfl) ?_
    by_cases hs_2 : x = 0
    · refine lv_tableIn (off := 33) (tgt := 44) hx hb d_D_count_11 (by rw [hs_2]; decide) (by rw [hs_2]; decide) (by rw [hs_2]; rfl) (by decide) ?_
      refine lv_aload_n hx hb d_D_count_44 rfl (lv_at hl 0 rfl) ?_
      refine kx_VRW (As := []) (rest := []) ⟨hx, hb, hml, hown, hts⟩ (k_D_blocks l dC dI k5 a P G J L ) (cwV 0 hts (goodV wm_D_42 wn_D_blocks ws_D_blocks wi_D wc_D_blocks) rfl rfl rfl (by decide +kernel) ⟨Nat.le_of_ble_eq_true rfl, Nat.le_of_ble_eq_true rfl⟩) ⟨Nat.zero_le _, Nat.zero_le _⟩ hK hP hD 0 rfl rfl rfl hl.1 rfl (Nat.le_of_ble_eq_true rfl) d_D_count_45 ?_
      refine W.eq (g2 := F0 m 48 ls [.int ((P.1 - 2) * (P.2.1 - 6))]) rfl ?_
      have e : d_count P G J L n x = ((P, G, J, L), ((P.1 - 2) * (P.2.1 - 6))) := by unfold d_count; rw [if_neg hc_1, if_pos hs_2]
      exact W.iret (v := ((P.1 - 2) * (P.2.1 - 6))) hx hb hr (fun t ht hW => kx_Qi (by rw [e]) ht hP (by rw [e]) hS rfl) hS.2.2 d_D_count_48
    · by_cases hs_3 : x = 1
      · refine lv_tableIn (off := 38) (tgt := 49) hx hb d_D_count_11 (by rw [hs_3]; decide) (by rw [hs_3]; decide) (by rw [hs_3]; rfl) (by decide) ?_
        refine lv_aload_n hx hb d_D_count_49 rfl (lv_at hl 0 rfl) ?_
        refine va_get (D := (dC, dI)) (ci := 2) (v := .ref (a 4)) (C := R_D) (T := T_D) (N := 9) hx hb hts wu_D hown hK hP 0 rfl rfl 3 (by decide) (hts _ wf_D_24) (fun _ h9 => h9) rfl d_D_count_50 ?_
        refine kx_VR (As := []) (rest := []) ⟨hx, hb, hml, hown, hts⟩ (k_G_use l dC dI k5 (a 4) (a 5) (a 6) (a 7) G.1 G.2.1 G.2.2.1 G.2.2.2.1 G.2.2.2.2 ) (cwV 0 hts (goodV wm_D_76 wn_G_use ws_G_use wi_G wc_G_use) rfl rfl rfl (by decide +kernel) ⟨Nat.le_of_ble_eq_true rfl, Nat.le_of_ble_eq_true rfl⟩) ⟨Nat.zero_le _, Nat.zero_le _⟩ hK hP hD [4, 5, 6, 7] (by decide) rfl 0 rfl rfl rfl hl.1 rfl (Nat.le_of_ble_eq_true rfl) d_D_count_53 ?_
        refine W.eq (g2 := F0 m 56 ls [.int (gUse G)]) rfl ?_
        have e : d_count P G J L n x = ((P, G, J, L), (gUse G)) := by unfold d_count; rw [if_neg hc_1, if_neg hs_2, if_pos hs_3]
        exact W.iret (v := (gUse G)) hx hb hr (fun t ht hW => kx_Qi (by rw [e]) ht hP (by rw [e]) hS rfl) hS.2.2 d_D_count_56
      · by_cases hs_4 : x = 2
        · refine lv_tableIn (off := 46) (tgt := 57) hx hb d_D_count_11 (by rw [hs_4]; decide) (by rw [hs_4]; decide) (by rw [hs_4]; rfl) (by decide) ?_
          refine lv_aload_n hx hb d_D_count_57 rfl (lv_at hl 0 rfl) ?_
          refine va_get (D := (dC, dI)) (ci := 2) (v := .ref (a 4)) (C := R_D) (T := T_D) (N := 9) hx hb hts wu_D hown hK hP 0 rfl rfl 3 (by decide) (hts _ wf_D_24) (fun _ h9 => h9) rfl d_D_count_58 ?_
          refine kx_VR (As := []) (rest := []) ⟨hx, hb, hml, hown, hts⟩ (k_G_size l dC dI k5 (a 4) (a 5) (a 6) (a 7) G.1 G.2.1 G.2.2.1 G.2.2.2.1 G.2.2.2.2 ) (cwV 0 hts (goodV wm_D_112 wn_G_size ws_G_size wi_G wc_G_size) rfl rfl rfl (by decide +kernel) ⟨Nat.le_of_ble_eq_true rfl, Nat.le_of_ble_eq_true rfl⟩) ⟨Nat.zero_le _, Nat.zero_le _⟩ hK hP hD [4, 5, 6, 7] (by decide) rfl 0 rfl rfl rfl hl.1 rfl (Nat.le_of_ble_eq_true rfl) d_D_count_61 ?_
          refine W.eq (g2 := F0 m 64 ls [.int G.1]) rfl ?_
          have e : d_count P G J L n x = ((P, G, J, L), G.1) := by unfold d_count; rw [if_neg hc_1, if_neg hs_2, if_neg hs_3, if_pos hs_4]
          exact W.iret (v := G.1) hx hb hr (fun t ht hW => kx_Qi (by rw [e]) ht hP (by rw [e]) hS rfl) hS.2.2 d_D_count_64
        · by_cases hs_5 : x = 3
          · refine lv_tableIn (off := 54) (tgt := 65) hx hb d_D_count_11 (by rw [hs_5]; decide) (by rw [hs_5]; decide) (by rw [hs_5]; rfl) (by decide) ?_
            refine lv_aload_n hx hb d_D_count_65 rfl (lv_at hl 0 rfl) ?_
            refine kx_VRW (As := []) (rest := []) ⟨hx, hb, hml, hown, hts⟩ (k_D_lostDisks l dC dI k5 a P G J L n hn hn8) (cwV 0 hts (goodV wm_D_126 wn_D_lostDisks ws_D_lostDisks wi_D wc_D_lostDisks) rfl rfl rfl (by decide +kernel) ⟨Nat.le_of_ble_eq_true rfl, Nat.le_of_ble_eq_true rfl⟩) ⟨Nat.zero_le _, Nat.zero_le _⟩ hK hP hD 0 rfl rfl rfl hl.1 rfl (Nat.le_of_ble_eq_true rfl) d_D_count_66 ?_
            refine W.eq (g2 := F0 m 69 ls [.int (nI (pMarked P (-1) (-1) n))]) rfl ?_
            have e : d_count P G J L n x = ((P, G, J, L), (nI (pMarked P (-1) (-1) n))) := by unfold d_count; rw [if_neg hc_1, if_neg hs_2, if_neg hs_3, if_neg hs_4, if_pos hs_5]
            exact W.iret (v := (nI (pMarked P (-1) (-1) n))) hx hb hr (fun t ht hW => kx_Qi (by rw [e]) ht hP (by rw [e]) hS rfl) hS.2.2 d_D_count_69
          · by_cases hs_6 : x = 4
            · refine lv_tableIn (off := 59) (tgt := 70) hx hb d_D_count_11 (by rw [hs_6]; decide) (by rw [hs_6]; decide) (by rw [hs_6]; rfl) (by decide) ?_
              refine lv_aload_n hx hb d_D_count_70 rfl (lv_at hl 0 rfl) ?_
              refine kx_VRW (As := []) (rest := []) ⟨hx, hb, hml, hown, hts⟩ (k_D_blankDisks l dC dI k5 a P G J L n hn hn8) (cwV 0 hts (goodV wm_D_167 wn_D_blankDisks ws_D_blankDisks wi_D wc_D_blankDisks) rfl rfl rfl (by decide +kernel) ⟨Nat.le_of_ble_eq_true rfl, Nat.le_of_ble_eq_true rfl⟩) ⟨Nat.zero_le _, Nat.zero_le _⟩ hK hP hD 0 rfl rfl rfl hl.1 rfl (Nat.le_of_ble_eq_true rfl) d_D_count_71 ?_
              refine W.eq (g2 := F0 m 74 ls [.int (nI (pMarked P 0 (P.2.1 - 1) n))]) rfl ?_
              have e : d_count P G J L n x = ((P, G, J, L), (nI (pMarked P 0 (P.2.1 - 1) n))) := by unfold d_count; rw [if_neg hc_1, if_neg hs_2, if_neg hs_3, if_neg hs_4, if_neg hs_5, if_pos hs_6]
              exact W.iret (v := (nI (pMarked P 0 (P.2.1 - 1) n))) hx hb hr (fun t ht hW => kx_Qi (by rw [e]) ht hP (by rw [e]) hS rfl) hS.2.2 d_D_count_74
            · refine lv_tableOut (tgt := 75) hx hb d_D_count_11 (by have q0 := lv_neT (a := 0) hs_2 (by decide); have q1 := lv_neT (a := 1) hs_3 (by decide); have q2 := lv_neT (a := 2) hs_4 (by decide); have q3 := lv_neT (a := 3) hs_5 (by decide); have q4 := lv_neT (a := 4) hs_6 (by decide); omega) (by decide) ?_
              refine lv_iconst (v := (-1)) hx hb d_D_count_75 (by decide) ?_
              have e : d_count P G J L n x = ((P, G, J, L), (-1)) := by unfold d_count; rw [if_neg hc_1, if_neg hs_2, if_neg hs_3, if_neg hs_4, if_neg hs_5, if_neg hs_6]
              exact W.iret (v := (-1)) hx hb hr (fun t ht hW => kx_Qi (by rw [e]) ht hP (by rw [e]) hS rfl) hS.2.2 d_D_count_76
  · refine lv_bipush (v := (-2)) hx hb d_D_count_7 (by decide) ?_
    have e : d_count P G J L n x = ((P, G, J, L), (-2)) := by unfold d_count; rw [if_pos hc_1]
    exact W.iret (v := (-2)) hx hb hr (fun t ht hW => kx_Qi (by rw [e]) ht hP (by rw [e]) hS rfl) hS.2.2 d_D_count_9
