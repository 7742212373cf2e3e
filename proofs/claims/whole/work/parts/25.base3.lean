section KXY
variable {p : Program} {l : Launch} {e : Env} {R : Room} {s : State} {m : MethodId} {args : Array Value} {below : List Frame} {meth : Method} {c : Code} {H : Heap} {locs : List Loc} {cells slots : Nat} {Q : State → Prop}
variable {pc : Nat} {ls : Array Slot} {rest st0 : List Value} {A : Nat → Prop} {H0 : Heap} {D : va_G} {cl : List vw_C} {tys : List (ClassId × FieldType)} {X Y X1 Y1 : va_W} {r : Option Value}
variable {y : MethodName} {bytes cc : ByteArray} {maxL nL n index : Nat} {ret : Option FieldType} {wy : List Cond} {rm : Room} {Ts : List Cond} {own C : String} {b : Addr} {As : List Value}
theorem kx_left (hP : va_P D cl (X ++ Y) H) : va_P D cl X H := fun k q hq => hP k q (by rw [List.getElem?_append_left ((List.getElem?_eq_some_iff.mp hq).1)]; exact hq)
theorem kx_right (hP : va_P D cl (X ++ Y) H) : va_P D cl Y H := fun k q hq => hP (X.length + k) q (by rw [List.getElem?_append_right (by omega), Nat.add_sub_cancel_left]; exact hq)
theorem kx_leftD (hD : va_D A (X ++ Y)) : va_D A X := ⟨fun i j p q hi hj h => hD.1 i j p q (by rw [List.getElem?_append_left ((List.getElem?_eq_some_iff.mp hi).1)]; exact hi) (by rw [List.getElem?_append_left ((List.getElem?_eq_some_iff.mp hj).1)]; exact hj) h, fun k q hq => hD.2 k q (by rw [List.getElem?_append_left ((List.getElem?_eq_some_iff.mp hq).1)]; exact hq)⟩
theorem kx_rightD (hD : va_D A (X ++ Y)) : va_D A Y := ⟨fun i j p q hi hj h => by
    have := hD.1 (X.length + i) (X.length + j) p q (by rw [List.getElem?_append_right (by omega), Nat.add_sub_cancel_left]; exact hi) (by rw [List.getElem?_append_right (by omega), Nat.add_sub_cancel_left]; exact hj) h
    omega, fun k q hq => hD.2 (X.length + k) q (by rw [List.getElem?_append_right (by omega), Nat.add_sub_cancel_left]; exact hq)⟩
theorem kx_apart (hD : va_D A (X ++ Y)) {k : Nat} {q : Nat × va_E} (hq : Y[k]? = some q) : ¬ kx_A X q.1 := by
  rintro ⟨k2, e2, h2⟩
  have hl := (List.getElem?_eq_some_iff.mp h2).1
  have := hD.1 k2 (X.length + k) (q.1, e2) q (by rw [List.getElem?_append_left hl]; exact h2) (by rw [List.getElem?_append_right (by omega), Nat.add_sub_cancel_left]; exact hq) rfl
  omega
theorem kx_apart2 (hD : va_D A (X ++ Y)) {k : Nat} {q : Nat × va_E} (hq : X[k]? = some q) : ¬ kx_A Y q.1 := by
  rintro ⟨k2, e2, h2⟩
  have hl := (List.getElem?_eq_some_iff.mp hq).1
  have := hD.1 k (X.length + k2) q (q.1, e2) (by rw [List.getElem?_append_left hl]; exact hq) (by rw [List.getElem?_append_right (by omega), Nat.add_sub_cancel_left]; exact h2) rfl
  omega
/-- a call that takes the left part of the world -/
theorem kx_VX {ci : Nat} {fs : List Value} {T : u_T} {N : Nat} (S : CallFix p m c cc nL s args Ts own) (hM : Met l y wy rm (kx_Pc D cl tys X (.ref b :: As)) (kx_Q D cl X X1 r) 0 0 (kx_A X)) (cw : CallW R s args own C index y bytes maxL ret wy rm 0 0 n) (hf : cells ≤ R.cells ∧ slots ≤ R.slots)
    (hK : va_K D cl tys s) (hP : va_P D cl (X ++ Y) H) (hD : va_D A (X ++ Y)) (hS : va_S A H0 H locs) (q0 : Nat) (he : X[q0]? = some (b, .inr (ci, fs))) (hc : cl[ci]? = some (C, T, N)) (hadr : X1.map (·.1) = X.map (·.1))
    (hn : As.length = n) (hsz : ls.size = nL) (hst : st0 = As.reverse ++ .ref b :: rest) (hW : (rest.map fun v => v.category).sum ≤ 8) (hdg : decode cc pc = .ok (.invokevirtual index, 3))
    (kk : ∀ (H1 : Heap) (locs1 : List Loc), va_P D cl (X1 ++ Y) H1 → va_D A (X1 ++ Y) → va_S A H0 H1 locs1 → W p l e R s m args below meth c H1 locs1 cells slots Q (F0 m (pc + 3) ls (r.toList ++ rest))) : W p l e R s m args below meth c H locs cells slots Q (F0 m pc ls st0) := by
  have hPX := kx_left hP
  have hDX := kx_leftD hD
  have hr := va_runV (R := R) (below := below) (meth := meth) (e := e) (locs := locs) (cells := cells) (slots := slots) (g := F0 m pc ls st0) (rest := rest) S hM cw ⟨kx_blind, va_recv hK hPX hc he, fun U hU hW => ⟨rfl, by rw [hU]; exact hPX, va_K.moved hW.alike hK, hDX.weaken (fun _ _ _ _ => trivial)⟩⟩ rfl hn hsz hst (lv_room hW) hdg hf
  intro T hT Z
  obtain ⟨v, st₀, t, T', L, h0, X', hL, e1, e2, ⟨hv, hP1, hz, hk⟩, st⟩ := hr T hT Z
  cases hv
  rw [h0] at hz hk
  have hF : ∀ q, kx_A X q → A q := fun q ⟨k, e, h⟩ => hDX.2 k _ h
  obtain ⟨t2, a1, b1⟩ := kk T'.heap (locs ++ L) (by
      rw [e1]
      exact hP1.app (fun k q hq => (kx_right hP k q hq).kept (hk q.1 ((kx_right hP k q hq).lt) (kx_apart hD hq)))) (kx_D.eq hD (by rw [List.map_append, List.map_append, hadr]))
    ⟨Nat.le_trans hS.1 (by rw [e1]; exact hz), fun q h1 h3 => by rw [e1, hk q (Nat.lt_of_lt_of_le h1 hS.1) (fun z => h3 (hF q z))]; exact hS.2.1 q h1 h3, fun q hq => by
      rcases List.mem_append.mp hq with h | h
      · exact hS.2.2 q h
      · exact hF _ (hL q h)⟩ T' rfl X'
  exact ⟨t2, st t2 a1, b1⟩
/-- a call that takes the right part of the world -/
theorem kx_VY {ci : Nat} {fs : List Value} {T : u_T} {N : Nat} (S : CallFix p m c cc nL s args Ts own) (hM : Met l y wy rm (kx_Pc D cl tys Y (.ref b :: As)) (kx_Q D cl Y Y1 r) 0 0 (kx_A Y)) (cw : CallW R s args own C index y bytes maxL ret wy rm 0 0 n) (hf : cells ≤ R.cells ∧ slots ≤ R.slots)
    (hK : va_K D cl tys s) (hP : va_P D cl (X ++ Y) H) (hD : va_D A (X ++ Y)) (hS : va_S A H0 H locs) (q0 : Nat) (he : Y[q0]? = some (b, .inr (ci, fs))) (hc : cl[ci]? = some (C, T, N)) (hadr : Y1.map (·.1) = Y.map (·.1))
    (hn : As.length = n) (hsz : ls.size = nL) (hst : st0 = As.reverse ++ .ref b :: rest) (hW : (rest.map fun v => v.category).sum ≤ 8) (hdg : decode cc pc = .ok (.invokevirtual index, 3))
    (kk : ∀ (H1 : Heap) (locs1 : List Loc), va_P D cl (X ++ Y1) H1 → va_D A (X ++ Y1) → va_S A H0 H1 locs1 → W p l e R s m args below meth c H1 locs1 cells slots Q (F0 m (pc + 3) ls (r.toList ++ rest))) : W p l e R s m args below meth c H locs cells slots Q (F0 m pc ls st0) := by
  have hPX := kx_right hP
  have hDX := kx_rightD hD
  have hr := va_runV (R := R) (below := below) (meth := meth) (e := e) (locs := locs) (cells := cells) (slots := slots) (g := F0 m pc ls st0) (rest := rest) S hM cw ⟨kx_blind, va_recv hK hPX hc he, fun U hU hW => ⟨rfl, by rw [hU]; exact hPX, va_K.moved hW.alike hK, hDX.weaken (fun _ _ _ _ => trivial)⟩⟩ rfl hn hsz hst (lv_room hW) hdg hf
  intro T hT Z
  obtain ⟨v, st₀, t, T', L, h0, X', hL, e1, e2, ⟨hv, hP1, hz, hk⟩, st⟩ := hr T hT Z
  cases hv
  rw [h0] at hz hk
  have hF : ∀ q, kx_A Y q → A q := fun q ⟨k, e, h⟩ => hDX.2 k _ h
  obtain ⟨t2, a1, b1⟩ := kk T'.heap (locs ++ L) (by
      rw [e1]
      exact va_P.app (fun k q hq => (kx_left hP k q hq).kept (hk q.1 ((kx_left hP k q hq).lt) (kx_apart2 hD hq))) hP1) (kx_D.eq hD (by rw [List.map_append, List.map_append, hadr]))
    ⟨Nat.le_trans hS.1 (by rw [e1]; exact hz), fun q h1 h3 => by rw [e1, hk q (Nat.lt_of_lt_of_le h1 hS.1) (fun z => h3 (hF q z))]; exact hS.2.1 q h1 h3, fun q hq => by
      rcases List.mem_append.mp hq with h | h
      · exact hS.2.2 q h
      · exact hF _ (hL q h)⟩ T' rfl X'
  exact ⟨t2, st t2 a1, b1⟩
end KXY
theorem vin {i k L : Nat} (h : i + k < L) (hL : L ≤ 2560) : vp_in (nI i + nI k) L := by rw [nI_add]; exact vp_in_nI h (by omega)
/-- what the contracts ask of a state of the class -/
def FD (S : SS) (n r w tk tj wf : Nat) : Prop := S.1.1 = nI n ∧ 4 ≤ n ∧ n ≤ 8 ∧ S.1.2.1 = nI r ∧ 12 ≤ r ∧ r ≤ 40 ∧ (w = 0 ∨ w = 1) ∧ 1 - S.2.2.2.1 1 = nI w ∧ GI S.2.1 tk ∧ tk ≤ 21 ∧ GI S.2.2.1 tj ∧ sb_Fit (pKp S.1) ∧ (wf = 0 ∨ wf = 1) ∧ (lFind S.2.2.2).1 1 = nI wf ∧ (S.2.2.2.2 7 wf = 0 ∨ S.2.2.2.2 7 wf = 1)
