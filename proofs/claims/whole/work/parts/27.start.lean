abbrev S0 : SS := (pLay 4 12 ((0, 0, 0, (fun _ => 0), (fun _ => 0), (fun _ => 0)) : PP), gClear ((0, 0, (fun _ => 0), (fun _ => 0), (fun _ => 0)) : GG), ((0, 0, (fun _ => 0), (fun _ => 0), (fun _ => 0)) : GG), lLay (pLay 4 12 ((0, 0, 0, (fun _ => 0), (fun _ => 0), (fun _ => 0)) : PP)) 1 4 (((fun _ => 0), (fun _ _ => 0)) : LL))
abbrev M0 : MT := (m_lay 0 0 0 0 0 0 (fun _ => 0) (fun _ => 0) (fun _ => 0) (fun _ => 0) (fun _ => 0) (fun _ => 0) (fun _ => 0) (fun _ => 0) (fun _ => 0) (fun _ => 0) (fun _ => 0) (fun _ => 0) (fun _ => 0) (fun _ => 0) 4 12).1
theorem nest1 : Cond.methodLinkNest R_D 23 y_G_init R_D ∈ lw_tbl := List.mem_of_getElem? (i := 67) (by decide +kernel)
theorem nest2 : Cond.methodLinkNest R_D 33 y_L_init R_D ∈ lw_tbl := List.mem_of_getElem? (i := 92) (by decide +kernel)
theorem over1 : Cond.arrayOver (.array .int) ∈ lw_tbl := List.mem_of_getElem? (i := 97) (by decide +kernel)
theorem arrK {args : Array Value} {s : State} {ty : FieldType} (h : (Cond.arrayClass ty).before args s = true) (hn : ∀ C, ty ≠ .object C) : ∃ c : ClassId, ArrOfT s c ty ∧ va_RA s c ty := by
  obtain ⟨comp, kC, cc, h1, h2, h3⟩ := Cond.arrayClass_spec h
  refine ⟨comp, fun n z => ⟨fun k h => (by cases h), kC, h2, cc, h3⟩, ?_⟩
  cases ty with
  | object C => exact absurd rfl (hn C)
  | _ => exact h1
theorem arrG {args : Array Value} {s : State} (h : (Cond.arrayOver (.array .int)).before args s = true) : ∃ c : ClassId, ArrOfT s c (.array .int) ∧ va_RA s c (.array .int) := by
  obtain ⟨comp, cA, kA, h1, h2, h3, h4, h5⟩ := arrayOverA_spec h
  exact ⟨cA, fun n z => ⟨fun k h => (by cases h), kA, h3, comp, h4⟩, h5⟩
set_option maxHeartbeats 4000000 in
set_option maxRecDepth 100000 in
theorem whole_start_open (Rel : Nat → SS → MT → Prop) (hF : ∀ k S M, Rel k S M → k ≤ 511 → ∃ n r w tk tj wf bs la p9 ct pc, FD S n r w tk tj wf ∧ FM M n r bs la p9 ct pc) (h_lay : Sim_lay Rel) (h_write : Sim_write Rel) (h_read : Sim_read Rel) (h_commit : Sim_commit Rel) (h_forget : Sim_forget Rel) (h_lose : Sim_lose Rel) (h_replace : Sim_replace Rel) (h_rot : Sim_rot Rel) (h_fill : Sim_fill Rel) (h_scrub : Sim_scrub Rel) (h_mount : Sim_mount Rel) (h_fail : Sim_fail Rel) (h_check : Sim_check Rel) (h_gone : Sim_gone Rel) (h_status : Sim_status Rel) (h_count : Sim_count Rel) (hR0 : Rel 0 S0 M0) {p : Program} {e : Env} {s : State} {m : MethodId} {below : List Frame} {meth : Method} {c : Code} (l : Launch) {b0 L : Nat} {xs : Nat → Int32} (hL : L ≤ 2560) (C0 : lw_At p s m meth c b0 L xs) : W p l e room_1 s m #[Value.ref b0] below meth c s.heap [] 0 0 (lw_Z below #[Value.ref b0] s) (entryFrame m ([Value.ref b0] : List Value).toArray 4) := by
  obtain ⟨hx, hb, hr, hml, hown, hts0, hX, hbl, hlocks, hgv⟩ := id C0
  have hts : ∀ w ∈ wsA, w.before #[Value.ref b0] s = true := fun w h => hts0 w (List.mem_filter.mp h).1
  have hA : ∀ q : Nat, s.heap.size ≤ q → (fun q : Nat => s.heap.size ≤ q) q := fun _ h => h
  have hN1 : va_Nw (.methodLinkNest R_D 23 y_G_init R_D) s := va_Nw.of rfl (hts0 _ nest1)
  have hN2 : va_Nw (.methodLinkNest R_D 33 y_L_init R_D) s := va_Nw.of rfl (hts0 _ nest2)
  have hAO : va_AOA .int s := over_moved (Vm.Alike.refl s.vm) (hts0 _ over1)
  obtain ⟨c0, i0, hKn0⟩ := u_known (C := R_G) (T := T_G) (N := 5) (n := 5) hts wu_G (hts _ wx_G)
  obtain ⟨c1, i1, hKn1⟩ := u_known (C := R_L) (T := T_L) (N := 7) (n := 7) hts wu_L (hts _ wx_L)
  obtain ⟨c2, i2, hKn2⟩ := u_known (C := R_D) (T := T_D) (N := 9) (n := 9) hts wu_D (hts _ wx_D)
  obtain ⟨c3, i3, hKn3⟩ := u_known (C := R_M) (T := T_M) (N := 20) (n := 20) hts wu_M (hts _ wx_M)
  obtain ⟨t0, hT0⟩ := arrK (hts _ wa_int) (fun _ h => by cases h)
  obtain ⟨t1, hT1⟩ := arrK (hts _ wa_long) (fun _ h => by cases h)
  obtain ⟨t2, hT2⟩ := arrK (hts _ wa_byte) (fun _ h => by cases h)
  obtain ⟨t3, hT3⟩ := arrK (hts _ wa_boolean) (fun _ h => by cases h)
  obtain ⟨t4, hT4⟩ := arrG (hts0 _ over1)
  obtain ⟨dC, dI, hKc⟩ : ∃ (dC : Nat → ClassId) (dI : Nat → Nat → Nat), ∀ (k : Nat) (q : vw_C), clA[k]? = some q → u_Kn s q.1 q.2.1 q.2.2 (dC k) (dI k) := by
    refine ⟨fun k => if k = 0 then c0 else if k = 1 then c1 else if k = 2 then c2 else c3, fun k => if k = 0 then i0 else if k = 1 then i1 else if k = 2 then i2 else i3, ?_⟩
    intro k q hq
    match k, hq with
    | 0, hq => cases hq; exact hKn0
    | 1, hq => cases hq; exact hKn1
    | 2, hq => cases hq; exact hKn2
    | 3, hq => cases hq; exact hKn3
    | k + 4, hq => simp [clA] at hq
  obtain ⟨k5, hk5⟩ : ∃ k5 : Nat → ClassId, ∀ (k : Nat) (q : ClassId × FieldType), (tyL k5)[k]? = some q → ArrOfT s q.1 q.2 ∧ va_RA s q.1 q.2 := by
    refine ⟨fun k => if k = 0 then t0 else if k = 1 then t1 else if k = 2 then t2 else if k = 3 then t3 else t4, ?_⟩
    intro k q hq
    match k, hq with
    | 0, hq => cases hq; exact hT0
    | 1, hq => cases hq; exact hT1
    | 2, hq => cases hq; exact hT2
    | 3, hq => cases hq; exact hT3
    | 4, hq => cases hq; exact hT4
    | k + 5, hq => simp [tyL] at hq
  have hS : va_S (fun q : Nat => s.heap.size ≤ q) s.heap s.heap [] := va_S.rf
  have hK : va_K (dC, dI) clA (tyL k5) s := ⟨hKc, hk5⟩
  have hP : va_P (dC, dI) clA [] s.heap := fun k q h => by simp at h
  have hD : va_D (fun q : Nat => s.heap.size ≤ q) [] := ⟨fun i j p q h => by simp at h, fun k q h => by simp at h⟩
  have hl := lv_entry ([.ref b0]) (n := 4) (Nat.le_of_ble_eq_true rfl)
  rw [lg_entry_eq]
  generalize (lg_sl ([.ref b0]) ++ List.replicate (4 - (lg_sl ([.ref b0])).length) Slot.unset).toArray = ls at hl ⊢
  have hl : lv_has ls 4 [(0, .ref b0)] := hl
  refine va_new (ci := 2) (fs := [.null, .null, .null, .null, .null, .null, .int 0, .int 0, .int 0]) (C := R_D) (T := T_D) (N := 9) hx hb hts wu_D ty_D ok_D hown (hts _ wk_W_7) (hts _ wx_D) (hts _ wi_D) hK hP hD hS hA rfl (fun j hj => by rcases (show j = 0 ∨ j = 1 ∨ j = 2 ∨ j = 3 ∨ j = 4 ∨ j = 5 ∨ j = 6 ∨ j = 7 ∨ j = 8 by omega) with rfl | rfl | rfl | rfl | rfl | rfl | rfl | rfl | rfl <;> rfl) (Nat.le_of_ble_eq_true rfl) (Nat.le_of_ble_eq_true rfl) d_W_law_0 (fun q1 H hP hD hS => ?_)
  refine lv_dup hx hb d_W_law_3 rfl ?_
  have hP : va_P (dC, dI) clA ([] ++ [(q1, .inr (2, [.null, .null, .null, .null, .null, .null, .int 0, .int 0, .int 0]))]) H := hP
  have hD : va_D (fun q : Nat => s.heap.size ≤ q) ([] ++ [(q1, .inr (2, [.null, .null, .null, .null, .null, .null, .int 0, .int 0, .int 0]))]) := hD
  have hPc : va_P (dC, dI) clA [(q1, .inr (2, [.null, .null, .null, .null, .null, .null, .int 0, .int 0, .int 0]))] H := kx_right hP
  have hDc : va_D (fun q : Nat => s.heap.size ≤ q) [(q1, .inr (2, [.null, .null, .null, .null, .null, .null, .int 0, .int 0, .int 0]))] := kx_rightD hD
  have hFc : ∀ q, va_A [(q1, .inr (2, [.null, .null, .null, .null, .null, .null, .int 0, .int 0, .int 0]))] H.size q → (fun q : Nat => s.heap.size ≤ q) q := fun q h => by rcases h with ⟨k, e, h⟩ | h; exact hDc.2 k _ h; exact Nat.le_trans hS.1 h
  refine va_callv (va_runI (As := []) (rest := [.ref q1]) ⟨hx, hb, hml, hown, hts⟩ (k_D_init l dC dI k5 q1 H.size) (cwI 0 hts (goodA (goodC wc_D_init)) rfl rfl rfl (hts _ wi_D) (hts _ wm_W_9) (hts _ wn_D_init) rfl (by decide +kernel) ⟨Nat.le_of_ble_eq_true rfl, Nat.le_of_ble_eq_true rfl⟩) ⟨fun a U g mk q => by obtain ⟨q0, q1, qP, qK, qD, x0, x1, x2⟩ := q; exact ⟨q0, q1, qP, va_K.moved (u := U) (U := U.calling g mk a) (Vm.Alike.refl U.vm) qK, qD, va_Nw.same rfl rfl x0, va_Nw.same rfl rfl x1, va_AOA.moved (Vm.Alike.refl U.vm) x2⟩, fun U hU hW => ⟨rfl, by rw [hU], by rw [hU]; exact hPc, va_K.moved hW.alike hK, hDc.weaken (fun _ _ _ _ => trivial), va_Nw.warmM hW hN1, va_Nw.warmM hW hN2, va_AOA.moved hW.alike hAO⟩⟩ rfl rfl hl.1 rfl (lv_room (Nat.le_of_ble_eq_true rfl)) d_W_law_4 ⟨Nat.le_of_ble_eq_true rfl, Nat.le_of_ble_eq_true rfl⟩) hS (fun q _ h => hFc q h) hFc (fun u1 t H1 locs ht hvm h5 hB hz1 hk1 hS => ?_)
  obtain ⟨hP1, hD1⟩ := hB
  rw [ht] at hP1
  have hPr : va_P (dC, dI) clA [] H1 := fun k q hq => (kx_left hP k q hq).kept (hk1 q.1 ((kx_left hP k q hq).lt) (fun z => by rcases z with ⟨k2, e2, h2⟩ | z; exact kx_apart2 hD hq ⟨k2, e2, h2⟩; exact absurd ((kx_left hP k q hq).lt) (Nat.not_lt.mpr z)))
  have hDr : va_D (fun q : Nat => s.heap.size ≤ q) ([] ++ (wS (fun k => if k = 0 then q1 else u1 k) k5 S0)) := va_D.app (kx_leftD hD) (hD1.weaken (fun k q _ h => hFc q.1 h)) (fun i j x y hx9 hy9 hxy => by have h9 := hD1.2 j y hy9; rw [← hxy] at h9; rcases h9 with ⟨k2, e2, h2⟩ | z; exact kx_apart2 hD hx9 ⟨k2, e2, h2⟩; exact absurd ((kx_left hP i x hx9).lt) (Nat.not_lt.mpr z))
  have hP := hPr.app hP1
  have hD := hDr
  generalize H1 = H at hP hS ⊢
  refine W.eq (g2 := F0 m 7 ls [.ref q1]) rfl ?_
  refine lv_astore_n (lv' := [(1, .ref q1), (0, .ref b0)]) hx hb d_W_law_7 rfl hl (by decide) rfl (fun ls hl => ?_)
  have hP : va_P (dC, dI) clA (wS (fun k => if k = 0 then q1 else u1 k) k5 S0) H := hP
  have hD : va_D (fun q : Nat => s.heap.size ≤ q) (wS (fun k => if k = 0 then q1 else u1 k) k5 S0) := hD
  refine va_new (ci := 3) (fs := [.int 0, .int 0, .int 0, .int 0, .null, .null, .null, .null, .null, .null, .null, .null, .null, .int 0, .int 0, .null, .null, .null, .null, .null]) (C := R_M) (T := T_M) (N := 20) hx hb hts wu_M ty_M ok_M hown (hts _ wk_W_10) (hts _ wx_M) (hts _ wi_M) hK hP hD hS hA rfl (fun j hj => by rcases (show j = 0 ∨ j = 1 ∨ j = 2 ∨ j = 3 ∨ j = 4 ∨ j = 5 ∨ j = 6 ∨ j = 7 ∨ j = 8 ∨ j = 9 ∨ j = 10 ∨ j = 11 ∨ j = 12 ∨ j = 13 ∨ j = 14 ∨ j = 15 ∨ j = 16 ∨ j = 17 ∨ j = 18 ∨ j = 19 by omega) with rfl | rfl | rfl | rfl | rfl | rfl | rfl | rfl | rfl | rfl | rfl | rfl | rfl | rfl | rfl | rfl | rfl | rfl | rfl | rfl <;> rfl) (Nat.le_of_ble_eq_true rfl) (Nat.le_of_ble_eq_true rfl) d_W_law_8 (fun q2 H hP hD hS => ?_)
  refine lv_dup hx hb d_W_law_11 rfl ?_
  have hP : va_P (dC, dI) clA ((wS (fun k => if k = 0 then q1 else u1 k) k5 S0) ++ [(q2, .inr (3, [.int 0, .int 0, .int 0, .int 0, .null, .null, .null, .null, .null, .null, .null, .null, .null, .int 0, .int 0, .null, .null, .null, .null, .null]))]) H := hP
  have hD : va_D (fun q : Nat => s.heap.size ≤ q) ((wS (fun k => if k = 0 then q1 else u1 k) k5 S0) ++ [(q2, .inr (3, [.int 0, .int 0, .int 0, .int 0, .null, .null, .null, .null, .null, .null, .null, .null, .null, .int 0, .int 0, .null, .null, .null, .null, .null]))]) := hD
  have hPc : va_P (dC, dI) clA [(q2, .inr (3, [.int 0, .int 0, .int 0, .int 0, .null, .null, .null, .null, .null, .null, .null, .null, .null, .int 0, .int 0, .null, .null, .null, .null, .null]))] H := kx_right hP
  have hDc : va_D (fun q : Nat => s.heap.size ≤ q) [(q2, .inr (3, [.int 0, .int 0, .int 0, .int 0, .null, .null, .null, .null, .null, .null, .null, .null, .null, .int 0, .int 0, .null, .null, .null, .null, .null]))] := kx_rightD hD
  have hFc : ∀ q, va_A [(q2, .inr (3, [.int 0, .int 0, .int 0, .int 0, .null, .null, .null, .null, .null, .null, .null, .null, .null, .int 0, .int 0, .null, .null, .null, .null, .null]))] H.size q → (fun q : Nat => s.heap.size ≤ q) q := fun q h => by rcases h with ⟨k, e, h⟩ | h; exact hDc.2 k _ h; exact Nat.le_trans hS.1 h
  refine va_callv (va_runI (As := []) (rest := [.ref q2]) ⟨hx, hb, hml, hown, hts⟩ (k_M_init l dC dI k5 q2 H.size) (cwI 0 hts (goodA (goodC wc_M_init)) rfl rfl rfl (hts _ wi_M) (hts _ wm_W_12) (hts _ wn_M_init) rfl (by decide +kernel) ⟨Nat.le_of_ble_eq_true rfl, Nat.le_of_ble_eq_true rfl⟩) ⟨fun a U g mk q => by obtain ⟨q0, q1, qP, qK, qD⟩ := q; exact ⟨q0, q1, qP, va_K.moved (u := U) (U := U.calling g mk a) (Vm.Alike.refl U.vm) qK, qD⟩, fun U hU hW => ⟨rfl, by rw [hU], by rw [hU]; exact hPc, va_K.moved hW.alike hK, hDc.weaken (fun _ _ _ _ => trivial)⟩⟩ rfl rfl hl.1 rfl (lv_room (Nat.le_of_ble_eq_true rfl)) d_W_law_12 ⟨Nat.le_of_ble_eq_true rfl, Nat.le_of_ble_eq_true rfl⟩) hS (fun q _ h => hFc q h) hFc (fun u2 t H1 locs ht hvm h5 hB hz1 hk1 hS => ?_)
  obtain ⟨hP1, hD1⟩ := hB
  rw [ht] at hP1
  have hPr : va_P (dC, dI) clA (wS (fun k => if k = 0 then q1 else u1 k) k5 S0) H1 := fun k q hq => (kx_left hP k q hq).kept (hk1 q.1 ((kx_left hP k q hq).lt) (fun z => by rcases z with ⟨k2, e2, h2⟩ | z; exact kx_apart2 hD hq ⟨k2, e2, h2⟩; exact absurd ((kx_left hP k q hq).lt) (Nat.not_lt.mpr z)))
  have hDr : va_D (fun q : Nat => s.heap.size ≤ q) ((wS (fun k => if k = 0 then q1 else u1 k) k5 S0) ++ (wMS (fun k => if k = 0 then q2 else u2 k) k5 M0)) := va_D.app (kx_leftD hD) (hD1.weaken (fun k q _ h => hFc q.1 h)) (fun i j x y hx9 hy9 hxy => by have h9 := hD1.2 j y hy9; rw [← hxy] at h9; rcases h9 with ⟨k2, e2, h2⟩ | z; exact kx_apart2 hD hx9 ⟨k2, e2, h2⟩; exact absurd ((kx_left hP i x hx9).lt) (Nat.not_lt.mpr z))
  have hP := hPr.app hP1
  have hD := hDr
  generalize H1 = H at hP hS ⊢
  refine W.eq (g2 := F0 m 15 ls [.ref q2]) rfl ?_
  refine lv_astore_n (lv' := [(2, .ref q2), (1, .ref q1), (0, .ref b0)]) hx hb d_W_law_15 rfl hl (by decide) rfl (fun ls hl => ?_)
  refine lv_iconst (v := 0) hx hb d_W_law_16 (by decide) ?_
  refine lv_istore_n (lv' := [(3, .int 0), (2, .ref q2), (1, .ref q1), (0, .ref b0)]) hx hb d_W_law_17 rfl hl (by decide) rfl (fun ls hl => ?_)
  refine W.widen (k := 39) (n := 69296) (Nat.le_of_ble_eq_true rfl) (Nat.le_of_ble_eq_true rfl) ?_
  exact law_loop_open Rel hF h_lay h_write h_read h_commit h_forget h_lose h_replace h_rot h_fill h_scrub h_mount h_fail h_check h_gone h_status h_count hL C0 hK (a := (fun k => if k = 0 then q1 else u1 k)) (b := (fun k => if k = 0 then q2 else u2 k)) 600 0 S0 M0 H locs ls (by omega) hR0 hP hD hS (lv_sub hl [3, 2, 1, 0] rfl)
