/-! the relation between the class's state and the reference's -/
def RM (k n r : Nat) (on jm : Bool) (mu : Nat → Nat) (L : LL) (vl vb : Int32) (fL fF fS fP fY fT : FF) : Prop :=
  ∃ off sw la B p : Nat, ∃ f g : HH, ∃ tb tl : Nat → Nat, ∃ yb yl : Nat, RX r (lvv n fL) mu L fF fS fP fY fT off sw la B p f g tb tl yb yl ∧ vl = nI la ∧ la + off ≤ 2 * k + 1 ∧ (jm = false → yb = 0 ∧ (B < la → yl = 0)) ∧
    (on = true → la = B ∧ vb = nI B ∧ L.1 1 = nI (rh sw p)) ∧ (on = false → (L.1 1 = nI 0 ∨ L.1 1 = nI 1) ∧ (vb = nI B ∨ vb = nI la))
def RR (k : Nat) (P : PP) (G J : GG) (L : LL) (vn vr vo vl vb : Int32) (fN fK fW fL fM fR fF fS fP fY fT fJ fI : FF) (n r : Nat) (mu : Nat → Nat) (on jm : Bool) (tk tj : Nat) : Prop :=
  P.1 = nI n ∧ 4 ≤ n ∧ n ≤ 8 ∧ P.2.1 = nI r ∧ 12 ≤ r ∧ r ≤ 40 ∧ vn = nI n ∧ vr = nI r ∧ (on = true → P.2.2.1 = 1 ∧ vo = 0) ∧ (on = false → P.2.2.1 = 0 ∧ vo = 1) ∧
  DK n r (pMk P) (pRt P) fL fM fR mu ∧ GV n r fL fM fR ∧ RM k n r on jm mu L vl vb fL fF fS fP fY fT ∧ GR n r on (pKp P) G tk fN fK fW ∧ GI J tj ∧ (jm = true → JM n r J tj fJ fI)
def Rel (k : Nat) (S : SS) (M : MT) : Prop :=
  ∃ n r : Nat, ∃ mu : Nat → Nat, ∃ on jm : Bool, ∃ tk tj : Nat, RR k S.1 S.2.1 S.2.2.1 S.2.2.2 M.2.1 M.2.2.1 M.2.2.2.1 M.2.2.2.2.1 M.2.2.2.2.2.1 M.2.2.2.2.2.2.1 M.2.2.2.2.2.2.2.1 M.2.2.2.2.2.2.2.2.1 M.2.2.2.2.2.2.2.2.2.1 M.2.2.2.2.2.2.2.2.2.2.1 M.2.2.2.2.2.2.2.2.2.2.2.2.1 M.2.2.2.2.2.2.2.2.2.2.2.2.2.1 M.2.2.2.2.2.2.2.2.2.2.2.2.2.2.1 M.2.2.2.2.2.2.2.2.2.2.2.2.2.2.2.1 M.2.2.2.2.2.2.2.2.2.2.2.2.2.2.2.2.1 M.2.2.2.2.2.2.2.2.2.2.2.2.2.2.2.2.2.1 M.2.2.2.2.2.2.2.2.2.2.2.2.2.2.2.2.2.2.1 M.2.2.2.2.2.2.2.2.2.2.2.2.2.2.2.2.2.2.2 n r mu on jm tk tj
section RLL
variable {k n r : Nat} {P P' : PP} {G J G' J' : GG} {L L' : LL} {vT vn vr vo vl vb vo' vl' vb' : Int32} {fN fK fW fL fM fE fR fF fS fP fY fT fJ fI : FF} {mu mu' : Nat → Nat} {on jm on' jm' : Bool} {tk tj w wf bs la p9 ct pc : Nat}
theorem RM_le (h : RM k n r on jm mu L vl vb fL fF fS fP fY fT) : RM (k + 1) n r on jm mu L vl vb fL fF fS fP fY fT := by
  obtain ⟨off, sw, la, B, p, f, g, tb, tl, yb, yl, h1, h2, h3, h4⟩ := h
  exact ⟨off, sw, la, B, p, f, g, tb, tl, yb, yl, h1, h2, by omega, h4⟩
theorem RR_le (h : RR k P G J L vn vr vo vl vb fN fK fW fL fM fR fF fS fP fY fT fJ fI n r mu on jm tk tj) : RR (k + 1) P G J L vn vr vo vl vb fN fK fW fL fM fR fF fS fP fY fT fJ fI n r mu on jm tk tj := by
  obtain ⟨a1, a2, a3, a4, a5, a6, a7, a8, a9, a10, a11, a12, a13, a14, a15, a16⟩ := h
  exact ⟨a1, a2, a3, a4, a5, a6, a7, a8, a9, a10, a11, a12, RM_le a13, a14, a15, a16⟩
theorem p_nI {p : Nat} (h : p = 0 ∨ p = 1) : (1 : Int32) - nI p = nI (1 - p) := flipW h
/-- the facts that the walks ask for -/
theorem rel_F {S : SS} {M : MT} (h : Rel k S M) (hk : k ≤ 511) : ∃ n r w tk tj wf bs la p9 ct pc, FD S n r w tk tj wf ∧ FM M n r bs la p9 ct pc := by
  obtain ⟨P, G, J, L⟩ := S
  obtain ⟨vT, vn, vr, vo, vl, vb, fN, fK, fW, fL, fM, fE, fR, fF, fS, fP, fY, fT, fJ, fI⟩ := M
  obtain ⟨n, r, mu, on, jm, tk, tj, h⟩ := h
  have h : RR k P G J L vn vr vo vl vb fN fK fW fL fM fR fF fS fP fY fT fJ fI n r mu on jm tk tj := h
  obtain ⟨a1, a2, a3, a4, a5, a6, a7, a8, a9, a10, a11, a12, a13, a14, a15, a16⟩ := h
  obtain ⟨off, sw, la, B, p, f, g, tb, tl, yb, yl, h1, h2, h3, h4, h5, h6⟩ := a13
  have hp := h1.1.1
  have hBl := h1.1.2.2.1
  have hw : ∃ w, (w = 0 ∨ w = 1) ∧ 1 - L.1 1 = nI w := by
    cases on with
    | true =>
      have hr := rh_lt (sw := sw) (s := p) (by omega)
      refine ⟨1 - rh sw p, by omega, ?_⟩
      rw [(h5 rfl).2.2]; exact p_nI (by omega)
    | false =>
      rcases (h6 rfl).1 with z | z
      · exact ⟨1, Or.inr rfl, by rw [z]; decide⟩
      · exact ⟨0, Or.inl rfl, by rw [z]; decide⟩
  obtain ⟨w, w1, w2⟩ := hw
  have hb : ∃ bs p9, vb = nI bs ∧ bs < 1300 ∧ (p9 = 0 ∨ p9 = 1) ∧ 1 - fP bs = nI p9 := by
    have eB : 1 - fP B = nI (1 - p) := by rw [h1.2.2.1.1]; exact p_nI hp
    have vv : vb = nI B ∨ vb = nI la := by
      cases on with
      | true => exact Or.inl (h5 rfl).2.1
      | false => exact (h6 rfl).2
    rcases vv with z | z
    · exact ⟨B, 1 - p, z, by omega, by omega, eB⟩
    · rcases (show B = la ∨ B < la by omega) with y | y
      · exact ⟨B, 1 - p, by rw [y]; exact z, by omega, by omega, eB⟩
      · exact ⟨la, 1 - (1 - p), z, by omega, by omega, by rw [(h1.2.2.2.1 y).1]; exact p_nI (by omega)⟩
  obtain ⟨bs, p9, b1, b2, b3, b4⟩ := hb
  have hc : ∃ wf ct pc, (wf = 0 ∨ wf = 1) ∧ (lFind L).1 1 = nI wf ∧ (L.2 7 wf = 0 ∨ L.2 7 wf = 1) ∧ mMax fL fF fS n = nI ct ∧ ct < 1300 ∧ (pc = 0 ∨ pc = 1) ∧ fP ct = nI pc := by
    rcases RX_find h1 a3 (fun d => lvv_iff d) (live_ex a11 a12 a2 a5 a6) with ⟨_, z1, z2⟩ | ⟨z0, z1, z2⟩
    · obtain ⟨t1, t2, t3, t4, t5, _⟩ := h1.2.2.1
      have hr := rh_lt (sw := sw) (s := p) (by omega)
      refine ⟨rh sw p, B, p, by omega, z2, ?_, z1, by omega, hp, t1⟩
      rw [t4]
      rcases (show yb = 0 ∨ yb = 1 by omega) with rfl | rfl
      · exact Or.inl rfl
      · exact Or.inr rfl
    · obtain ⟨t1, t2, t3, t4, t5, _⟩ := h1.2.2.2.1 z0
      have hr := rh_lt (sw := sw) (s := 1 - p) (by omega)
      refine ⟨rh sw (1 - p), la, 1 - p, by omega, z2, ?_, z1, by omega, by omega, t1⟩
      rw [t4]
      rcases (show yl = 0 ∨ yl = 1 by omega) with rfl | rfl
      · exact Or.inl rfl
      · exact Or.inr rfl
  obtain ⟨wf, ct, pc, c1, c2, c3, c4, c5, c6, c7⟩ := hc
  exact ⟨n, r, w, tk, tj, wf, bs, la, p9, ct, pc, ⟨a1, a2, a3, a4, a5, a6, w1, w2, a14.2.2.1, a14.2.2.2.2.2.2.2.2.1, a15, a14.1, c1, c2, c3⟩, ⟨a7, a8, h2, b1, b2, by omega, b3, b4, a14.2.2.2.2.1, c4, c5, c6, c7⟩⟩
/-- the names of the walks are those of the relation -/
theorem rel_O {S : SS} {M : MT} (h : Rel k S M) (hD : FD S n r w tk tj wf) : ∃ (mu : Nat → Nat) (on jm : Bool), RR k S.1 S.2.1 S.2.2.1 S.2.2.2 M.2.1 M.2.2.1 M.2.2.2.1 M.2.2.2.2.1 M.2.2.2.2.2.1 M.2.2.2.2.2.2.1 M.2.2.2.2.2.2.2.1 M.2.2.2.2.2.2.2.2.1 M.2.2.2.2.2.2.2.2.2.1 M.2.2.2.2.2.2.2.2.2.2.1 M.2.2.2.2.2.2.2.2.2.2.2.2.1 M.2.2.2.2.2.2.2.2.2.2.2.2.2.1 M.2.2.2.2.2.2.2.2.2.2.2.2.2.2.1 M.2.2.2.2.2.2.2.2.2.2.2.2.2.2.2.1 M.2.2.2.2.2.2.2.2.2.2.2.2.2.2.2.2.1 M.2.2.2.2.2.2.2.2.2.2.2.2.2.2.2.2.2.1 M.2.2.2.2.2.2.2.2.2.2.2.2.2.2.2.2.2.2.1 M.2.2.2.2.2.2.2.2.2.2.2.2.2.2.2.2.2.2.2 n r mu on jm tk tj := by
  obtain ⟨n', r', mu, on, jm, tk', tj', h⟩ := h
  obtain ⟨b1, b2, b3, b4, b5, b6, b7, b8, b9, b10, b11, _⟩ := hD
  have e1 : n' = n := (nI_eq (by have := h.2.2.1; omega) (by omega)).mp (h.1.symm.trans b1)
  have e2 : r' = r := (nI_eq (by have := h.2.2.2.2.2.1; omega) (by omega)).mp (h.2.2.2.1.symm.trans b4)
  have g := h.2.2.2.2.2.2.2.2.2.2.2.2.2.1
  have e3 : tk' = tk := (nI_eq (by have := g.2.2.2.2.2.2.2.2.1; omega) (by omega)).mp (g.2.2.1.1.symm.trans b9.1)
  have gj := h.2.2.2.2.2.2.2.2.2.2.2.2.2.2.1
  have e4 : tj' = tj := (nI_eq (by have := gj.2.1; omega) (by have := b11.2.1; omega)).mp (gj.1.symm.trans b11.1)
  subst e1 e2 e3 e4
  exact ⟨mu, on, jm, h⟩
/-- the labels while power is on -/
theorem RM_on (h : RM k n r true jm mu L vl vb fL fF fS fP fY fT) (hk : k ≤ 511) (hw : w = 0 ∨ w = 1) (hq : 1 - L.1 1 = nI w) (hvl : vl = nI la) (hla : la + 3 < 1300) (hvb : vb = nI bs) (hbs : bs < 1300) (hp9 : p9 = 0 ∨ p9 = 1) (hr9 : 1 - fP bs = nI p9) :
    ∃ off sw p : Nat, ∃ f g : HH, ∃ tb tl : Nat → Nat, ∃ yb yl : Nat, RX r (lvv n fL) mu L fF fS fP fY fT off sw la la p f g tb tl yb yl ∧ la + off ≤ 2 * k + 1 ∧ bs = la ∧ w = rh sw (1 - p) ∧ p9 = 1 - p ∧ (jm = false → yb = 0) ∧ fP la = nI p := by
  obtain ⟨off, sw, la', B, p, f, g, tb, tl, yb, yl, h1, h2, h3, h4, h5, h6⟩ := h
  obtain ⟨c1, c2, c3⟩ := h5 rfl
  have hp := h1.1.1
  have e1 : la' = la := (nI_eq (by omega) (by omega)).mp (h2.symm.trans hvl)
  subst e1
  have e2 : B = la' := c1.symm
  subst e2
  have e3 : bs = B := (nI_eq (by omega) (by omega)).mp (hvb.symm.trans c2)
  subst e3
  have hr := rh_lt (sw := sw) (s := p) (by omega)
  rw [c3, p_nI (by omega)] at hq
  have e4 : w = 1 - rh sw p := ((nI_eq (by omega) (by omega)).mp hq).symm
  rw [h1.2.2.1.1, p_nI hp] at hr9
  have e5 : p9 = 1 - p := ((nI_eq (by omega) (by omega)).mp hr9).symm
  exact ⟨off, sw, p, f, g, tb, tl, yb, yl, h1, h3, rfl, by rw [e4, rh_1 (by omega)], e5, fun z => (h4 z).1, h1.2.2.1.1⟩
section FIN
variable {off sw B p : Nat} {f g : HH} {tb tl t : Nat → Nat} {yb yl y : Nat} {fm : Nat → Int32} {fMM : FF} {bits : Int64} {vv : Int32}
theorem wr_eq {bits : Int64} (hP : ∀ d, d < n → (!decide (pMk P d = -1)) = lvv n fL d) : (pWrite P bits w n L).1 = gW (lvv n fL) bits w n L := by
  rw [pWrite_eq]
  exact gW_cg n hP
/-- a label written wholly, which then counts -/
theorem RN_fin (h : RX r (lvv n fL) mu L fF fS fP fY fT off sw la B p f g tb tl yb yl) (hn : n ≤ 8) (hP : ∀ d, d < n → (!decide (pMk P d = -1)) = lvv n fL d) (hw : w = rh sw (1 - p)) (hc : 1 - L.1 1 = nI w) (hy : y ≤ 1) (hq : la + 1 + off < 2000) (hv : vv = nI (1 - p)) (ht : ∀ d, lvv n fL d = true → fm d = nI (t d) ∧ fMM d = nI (t d) ∧ t d = mu' d) :
    ∃ f' g', RX r (lvv n fL) mu' (pFinish P w n (lDraft w (nI y) fm L)) (mSp fL (la + 1) (1 - p) 0 0 0 fF fS n).1 (mSp fL (la + 1) (1 - p) 0 0 0 fF fS n).2.1 (upd fP (la + 1) vv) (upd fY (la + 1) (nI y)) (mTell fMM (la + 1) fT 8) off sw (la + 1) (la + 1) (1 - p) f' g' t tl y yl ∧ (pFinish P w n (lDraft w (nI y) fm L)).1 1 = nI (rh sw (1 - p)) := by
  obtain ⟨f', g', k1, k2⟩ := RX_full (bM := 0) (fm := fm) (fMM := fMM) (mu' := mu') (t := t) h hn (fun d => lvv_iff d) hw hy hq hv ht
  refine ⟨f', g', RX_sc k1 ?_ ?_, ?_⟩
  · show (pWrite P 6148914691236517205 w n (lDraft w (nI y) fm L)).1.2 = _
    rw [wr_eq hP]
  · show va_up (pWrite P 6148914691236517205 w n (lDraft w (nI y) fm L)).1.1 1 (1 - (pWrite P 6148914691236517205 w n (lDraft w (nI y) fm L)).1.1 1) 0 = _
    rw [va_up_ne _ _ (by omega), wr_eq hP]
  · rw [pFinish_c (by rw [lD_s1]; exact hc), hw]
/-- a label of which some is down -/
theorem RN_part (h : RX r (lvv n fL) mu L fF fS fP fY fT off sw la B p f g tb tl yb yl) (hs : stl (lvv n fL) B p f g) (hn : n ≤ 8) (hP : ∀ d, d < n → (!decide (pMk P d = -1)) = lvv n fL d) (hw : w = rh sw (1 - p)) (hy : y ≤ 1) (hq : la + 1 + off < 2000) (hv : vv = nI (1 - p)) (ht : ∀ d, lvv n fL d = true → fm d = nI (t d) ∧ fMM d = nI (t d) ∧ mu d ≤ t d ∧ t d ≤ r) :
    ∃ f' g', RX r (lvv n fL) mu (pWrite P bits w n (lDraft w (nI y) fm L)).1 (mSp fL (la + 1) (1 - p) 0 1 bits fF fS n).1 (mSp fL (la + 1) (1 - p) 0 1 bits fF fS n).2.1 (upd fP (la + 1) vv) (upd fY (la + 1) (nI y)) (mTell fMM (la + 1) fT 8) off sw (la + 1) B p f' g' tb t yb y ∧ (pWrite P bits w n (lDraft w (nI y) fm L)).1.1 1 = L.1 1 := by
  rw [wr_eq hP]
  obtain ⟨f', g', k1⟩ := RX_part (bC := bits) (bM := bits) (fl := 1) (fm := fm) (fMM := fMM) (t := t) h hs hn (fun d => lvv_iff d) hw (fun k hk => by rw [part_bits (by omega)]; rfl) hy hq hv ht
  exact ⟨f', g', k1, by rw [gW_1, lD_s1]⟩
end FIN
end RLL
