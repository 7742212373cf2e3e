/-! mount -/
section SM5
variable {k n r : Nat} {P P' : PP} {G J G' J' : GG} {L L' : LL} {vT vn vr vo vl vb vo' vl' vb' : Int32} {fN fK fW fL fM fE fR fF fS fP fY fT fJ fI : FF} {mu mu' : Nat → Nat} {on jm on' jm' : Bool} {tk tj w wf bs la p9 ct pc : Nat} {a b : Int32} {bits : Int64} {off sw B p : Nat} {f g : HH} {tb tl : Nat → Nat} {yb yl : Nat}
theorem again_some {x : Nat} (hw : w < 2) (hx : 1 ≤ x) (hx2 : x < 2 ^ 31) (h6 : L.2 6 w = nI x) {d : Nat} (hd : d < n) (hn : n ≤ 8) : lSome d (gW (fun d => lSome d L) 6148914691236517205 w n L) = lSome d L := by
  cases q : lSome d L with
  | false =>
    rw [← q]
    exact lSome_cg (fun k hk => by rw [gW_at hw, if_neg (fun z => by rw [q] at z; cases z.2.1)])
  | true =>
    have e1 : pPart 6148914691236517205 (cnt (fun d => lSome d L) d) = 1 := part_all _ (by have := cnt_le (fun d => lSome d L) d; omega)
    have a1 : (gW (fun d => lSome d L) 6148914691236517205 w n L).2 w d = nI x := by
      rw [gW_at hw, if_pos ⟨hd, q, Or.inl ⟨rfl, Or.inl e1⟩⟩, h6]
    have a2 : (gW (fun d => lSome d L) 6148914691236517205 w n L).2 (2 + w) d = nI x := by
      rw [gW_at hw, if_pos ⟨hd, q, Or.inr ⟨rfl, Or.inl e1⟩⟩, h6]
    have a3 : lHas w d (gW (fun d => lSome d L) 6148914691236517205 w n L) = true := by
      unfold lHas
      rw [a1, a2, Bool.and_eq_true, decide_eq_true_eq, decide_eq_true_eq, nI_z hx2]
      exact ⟨by omega, rfl⟩
    show (lHas 0 d (gW (fun d => lSome d L) 6148914691236517205 w n L) || lHas 1 d (gW (fun d => lSome d L) 6148914691236517205 w n L)) = true
    rcases (show w = 0 ∨ w = 1 by omega) with z | z
    · rw [z] at a3 ⊢; rw [a3]; rfl
    · rw [z] at a3 ⊢; rw [a3, Bool.or_true]
theorem RX_lf (h : RX r (lvv n fL) mu L fF fS fP fY fT off sw la B p f g tb tl yb yl) : RX r (lvv n fL) mu (lFind L) fF fS fP fY fT off sw la B p f g tb tl yb yl := RX_sc h rfl (by
  show va_up L.1 1 (lScan L 1 8 (lScan L 0 8 (0, L.1 1))).2 0 = _
  exact va_up_ne _ _ (by omega))
theorem again_is {bits : Int64} (hw : w < 2) : (pAgain bits w n (lFind L)).1 = gW (fun d => lSome d (lFind L)) bits w n (lFind L) := by rw [pAgain_eq hw]
/-- what the label that counts tells of the marks -/
theorem mk_told {x s : Nat} {c : Nat → Prop} {tx : Nat → Nat} {y : Nat} (h : RX r (lvv n fL) mu L fF fS fP fY fT off sw la B p f g tb tl yb yl) (hn : n ≤ 8) (hr : r ≤ 40) (dk : DK n r (pMk P) (pRt P) fL fM fR mu) (ht : LT off sw L fP fY fT x s c tx y) (hx : 1 ≤ x) (hx2 : x + off < 2000) (hs : s < 2) (hw : wf = rh sw s) (hc : ∀ d, lvv n fL d = true → lbd f g d → c d) {d : Nat} (hd : d < n) (hL : fL d = 0) :
    pTake (pAgain 6148914691236517205 wf n (lFind L)).1 wf (pMk P) n d = nI (if lSome d L = true then tx d else 0) ∧ mMk fL fF fS fT x fM n d = nI (if lSome d L = true then tx d else 0) := by
  have hw2 : wf < 2 := by rw [hw]; exact rh_lt hs
  have hbd := RX_bd h
  obtain ⟨t1, t2, t3, t4, t5, t6⟩ := ht
  have e0 : lSome d (lFind L) = lSome d L := rfl
  rw [again_is hw2, pTake_at, if_pos ⟨hd, fun z => (DK_m1 dk hr hd).mp z hL⟩, again_some (x := x + off) hw2 (by omega) (by omega) (by rw [hw]; exact t2) hd hn, gW_6 hw2 (by omega), mMk_at, if_pos (show d < n ∧ fL d = 0 from ⟨hd, hL⟩), mHas_eq h.2.1 hbd (by omega) hL, e0]
  have el := lSome_eq h.2.1 hbd (d := d) (by omega)
  by_cases q : lSome d L = true
  · have ql := el.mp q
    obtain ⟨u1, u2⟩ := t6 d (by omega) (hc d ((lvv_iff d).mpr ⟨hd, hL⟩) ql)
    rw [if_pos q, if_pos q]
    refine ⟨by rw [hw]; exact u2, ?_⟩
    have ab : aHas f g d < 2 ^ 31 := aHas_lt (fun s => by have := (hbd d s).1; omega)
    rw [if_neg (by rw [nI_z ab]; exact aHas_lbd.mpr ql)]
    exact u1
  · rw [if_neg q, if_neg q]
    refine ⟨rfl, ?_⟩
    have : aHas f g d = 0 := Classical.byContradiction (fun z => q (el.mpr (aHas_lbd.mp z)))
    rw [this, if_pos (by rfl)]; rfl
theorem hB_lbd (hp : p = 0 ∨ p = 1) (hB1 : 1 ≤ B) {d : Nat} (h : hB f g B p d) : lbd f g d := (lbd_p hp).mpr (Or.inl ⟨by rw [h.1, h.2], by rw [h.1]; omega⟩)
theorem mount_RX (h : RX r (lvv n fL) mu L fF fS fP fY fT off sw la B p f g tb tl yb yl) (h4 : 4 ≤ n) (hn : n ≤ 8) (h12 : 12 ≤ r) (hr : r ≤ 40) (dk : DK n r (pMk P) (pRt P) fL fM fR mu) (gv : GV n r fL fM fR) (hwf : wf = 0 ∨ wf = 1) (hf : (lFind L).1 1 = nI wf) (hct : mMax fL fF fS n = nI ct) (hct3 : ct < 1300) (hpc : pc = 0 ∨ pc = 1) (hep : fP ct = nI pc) (hj : jm = false → yb = 0 ∧ (B < la → yl = 0)) :
    ∃ mu' : Nat → Nat, ∃ B' p' : Nat, ∃ f' g' : HH, ∃ tb' tl' : Nat → Nat, ∃ yb' yl' : Nat, RX r (lvv n fL) mu' (pAgain 6148914691236517205 wf n (lFind L)).1 (mSp fL ct pc 1 0 bits fF fS n).1 (mSp fL ct pc 1 0 bits fF fS n).2.1 fP fY fT off sw la B' p' f' g' tb' tl' yb' yl' ∧ stl (lvv n fL) B' p' f' g' ∧ ct = B' ∧ wf = rh sw p' ∧ pc = p' ∧
      (∀ d, d < n → fL d = 0 → pTake (pAgain 6148914691236517205 wf n (lFind L)).1 wf (pMk P) n d = nI (mu' d) ∧ mMk fL fF fS fT ct fM n d = nI (mu' d) ∧ mu d ≤ mu' d ∧ mu' d ≤ r) ∧ (jm = false → yb' = 0 ∧ (B' < la → yl' = 0)) ∧ (pAgain 6148914691236517205 wf n (lFind L)).1.1 1 = nI wf := by
  have hw2 : wf < 2 := by omega
  have hbd := RX_bd h
  have hla := h.2.2.2.2.2
  have hp := h.1.1
  have hB1 := h.1.2.1
  have hBl := h.1.2.2.1
  have l6 := h.1.2.2.2.2.2.1
  have l8 := h.1.2.2.2.2.2.2.2.1
  have l9 := h.1.2.2.2.2.2.2.2.2
  have cnt1 : (pAgain 6148914691236517205 wf n (lFind L)).1.1 1 = nI wf := by rw [again_is hw2, gW_1]; exact hf
  have hb : ∀ k, k < 8 → pPart 6148914691236517205 k = mHow 0 bits k := fun k hk => by rw [part_all k (by omega)]; rfl
  have no : ∀ d, lvv n fL d = true → ¬ lbd f g d → mu d = 0 := fun d hd y => by
    rcases l6 d hd with z | z
    · exact absurd (hB_lbd hp hB1 z) y
    · exact z.2
  have el := fun d (hd : d < 8) => lSome_eq h.2.1 hbd (d := d) hd
  rcases RX_find h hn (fun d => lvv_iff d) (live_ex dk gv h4 h12 hr) with ⟨hs, z1, z2⟩ | ⟨z0, z1, z2⟩
  · have e1 : ct = B := (nI_eq (by omega) (by omega)).mp (hct.symm.trans z1)
    have hr2 := rh_lt (sw := sw) (s := p) (by omega)
    have e2 : wf = rh sw p := (nI_eq (by omega) (by omega)).mp (hf.symm.trans z2)
    have e3 : pc = p := by
      rw [e1, h.2.2.1.1] at hep
      exact ((nI_eq (by omega) (by omega)).mp hep).symm
    have em : ∀ d, lvv n fL d = true → (if lSome d L = true then tb d else 0) = mu d := fun d hd => by
      have hd2 := (lvv_iff d).mp hd
      by_cases q : lSome d L = true
      · rw [if_pos q]
        exact l8 d hd (LI_lbd h.1 hs hd ((el d (by omega)).mp q))
      · rw [if_neg q]
        exact (no d hd (fun y => q ((el d (by omega)).mpr y))).symm
    refine ⟨fun d => if lSome d L = true then tb d else 0, B, p, f, g, tb, tl, yb, yl, ?_, hs, e1, e2, e3, fun d hd hL => ?_, hj, cnt1⟩
    · rw [again_is hw2, e1, e3]
      exact RX_mu (RX_againB (RX_lf h) hs hn (fun d => lvv_iff d) e2 hb) em
    · have hlv := (lvv_iff (n := n) (fL := fL) d).mpr ⟨hd, hL⟩
      obtain ⟨u1, u2⟩ := mk_told h hn hr dk h.2.2.1 hB1 (by omega) (by omega) e2 (fun d hd y => ⟨hd, LI_lbd h.1 hs hd y⟩) hd hL
      have em2 := em d hlv
      refine ⟨u1, by rw [e1]; exact u2, Nat.le_of_eq em2.symm, ?_⟩
      rcases (dk d hd).1 with ⟨c1, c2, c3, c4⟩ | ⟨c1, c2⟩
      · exact Nat.le_trans (Nat.le_of_eq em2) c4
      · rw [c1] at hL; exact absurd hL (by decide)
  · have e1 : ct = la := (nI_eq (by omega) (by omega)).mp (hct.symm.trans z1)
    have hr2 := rh_lt (sw := sw) (s := 1 - p) (by omega)
    have e2 : wf = rh sw (1 - p) := (nI_eq (by omega) (by omega)).mp (hf.symm.trans z2)
    have ltl := h.2.2.2.1 z0
    have e3 : pc = 1 - p := by
      rw [e1, ltl.1] at hep
      exact ((nI_eq (by omega) (by omega)).mp hep).symm
    have hm : ∀ d, lvv n fL d = true → (lbd f g d → (if lSome d L = true then tl d else 0) = tl d) ∧ (¬ lbd f g d → (if lSome d L = true then tl d else 0) = 0) := fun d hd => by
      have hd2 := (lvv_iff d).mp hd
      exact ⟨fun y => if_pos ((el d (by omega)).mpr y), fun y => if_neg (fun q => y ((el d (by omega)).mp q))⟩
    obtain ⟨f', g', k1⟩ := RX_againF (bM := bits) (mu' := fun d => if lSome d L = true then tl d else 0) (RX_lf h) z0 hn (fun d => lvv_iff d) e2 hm
    refine ⟨fun d => if lSome d L = true then tl d else 0, la, 1 - p, f', g', tl, tl, yl, yl, ?_, LI_stl k1.1 rfl, e1, e2, e3, fun d hd hL => ?_, fun y => ⟨(hj y).2 z0, fun y => absurd y (by omega)⟩, cnt1⟩
    · rw [again_is hw2, e1, e3]; exact k1
    · have hlv := (lvv_iff (n := n) (fL := fL) d).mpr ⟨hd, hL⟩
      obtain ⟨u1, u2⟩ := mk_told h hn hr dk ltl (by omega) (by omega) (by omega) e2 (fun d hd y => ⟨hd, y⟩) hd hL
      refine ⟨u1, by rw [e1]; exact u2, ?_⟩
      show mu d ≤ (if lSome d L = true then tl d else 0) ∧ (if lSome d L = true then tl d else 0) ≤ r
      by_cases q : lSome d L = true
      · rw [if_pos q]
        exact l9 z0 d hlv ((el d (by omega)).mp q)
      · rw [if_neg q]
        have := no d hlv (fun y => q ((el d (by omega)).mpr y))
        omega
/-- power fails while the label that counts is written again -/
theorem mount_1 (h : RX r (lvv n fL) mu L fF fS fP fY fT off sw la B p f g tb tl yb yl) (h4 : 4 ≤ n) (hn : n ≤ 8) (h12 : 12 ≤ r) (hr : r ≤ 40) (dk : DK n r (pMk P) (pRt P) fL fM fR mu) (gv : GV n r fL fM fR) (hwf : wf = 0 ∨ wf = 1) (hf : (lFind L).1 1 = nI wf) (hct : mMax fL fF fS n = nI ct) (hct3 : ct < 1300) (hpc : pc = 0 ∨ pc = 1) (hep : fP ct = nI pc) (hj : jm = false → yb = 0 ∧ (B < la → yl = 0)) (hk : la + off ≤ 2 * k + 1) (hvl : vl = nI la) :
    RM k n r false jm mu (pAgain bits wf n (lFind L)).1 vl (nI ct) fL (mSp fL ct pc 1 1 bits fF fS n).1 (mSp fL ct pc 1 1 bits fF fS n).2.1 fP fY fT := by
  have hw2 : wf < 2 := by omega
  have hla := h.2.2.2.2.2
  have hp := h.1.1
  have hBl := h.1.2.2.1
  have hb : ∀ k, k < 8 → pPart bits k = mHow 1 bits k := fun k hk => by rw [part_bits (by omega)]; rfl
  have cc : (gW (fun d => lSome d (lFind L)) bits wf n (lFind L)).1 1 = nI 0 ∨ (gW (fun d => lSome d (lFind L)) bits wf n (lFind L)).1 1 = nI 1 := by
    rw [gW_1, hf]
    rcases hwf with y | y
    · rw [y]; exact Or.inl rfl
    · rw [y]; exact Or.inr rfl
  rw [again_is hw2]
  rcases RX_find h hn (fun d => lvv_iff d) (live_ex dk gv h4 h12 hr) with ⟨hs, z1, z2⟩ | ⟨z0, z1, z2⟩
  · have e1 : ct = B := (nI_eq (by omega) (by omega)).mp (hct.symm.trans z1)
    have hr2 := rh_lt (sw := sw) (s := p) (by omega)
    have e2 : wf = rh sw p := (nI_eq (by omega) (by omega)).mp (hf.symm.trans z2)
    have e3 : pc = p := by
      rw [e1, h.2.2.1.1] at hep
      exact ((nI_eq (by omega) (by omega)).mp hep).symm
    rw [e1, e3]
    exact RM_dn (RX_againB (RX_lf h) hs hn (fun d => lvv_iff d) e2 hb) hk hj cc hvl (Or.inl rfl)
  · have e1 : ct = la := (nI_eq (by omega) (by omega)).mp (hct.symm.trans z1)
    have hr2 := rh_lt (sw := sw) (s := 1 - p) (by omega)
    have e2 : wf = rh sw (1 - p) := (nI_eq (by omega) (by omega)).mp (hf.symm.trans z2)
    have e3 : pc = 1 - p := by
      rw [e1, (h.2.2.2.1 z0).1] at hep
      exact ((nI_eq (by omega) (by omega)).mp hep).symm
    obtain ⟨f', g', k1⟩ := RX_againP (bM := bits) (fl := 1) (bC := bits) (RX_lf h) z0 hn (fun d => lvv_iff d) e2 hb
    rw [e1, e3]
    exact RM_dn k1 hk hj cc hvl (Or.inr rfl)
theorem c_mount (h : RR k P G J L vn vr vo vl vb fN fK fW fL fM fR fF fS fP fY fT fJ fI n r mu on jm tk tj) (hk : k ≤ 511) (hwf : wf = 0 ∨ wf = 1) (hf : (lFind L).1 1 = nI wf) (hvl : vl = nI la) (hla : la + 3 < 1300) (hct : mMax fL fF fS n = nI ct) (hct3 : ct < 1300) (hpc : pc = 0 ∨ pc = 1) (hep : fP ct = nI pc) (z : Int32) (bits : Int64) : EQ k (d_mount P G J L n wf tj z bits) (m_mount vT vn vr vo vl vb fN fK fW fL fM fE fR fF fS fP fY fT fJ fI n r la ct pc z bits) := by
  unfold d_mount m_mount
  cases on with
  | true => rw [if_neg (RR_1 h).1, if_pos (RR_1 h).2]; exact eq_same h rfl
  | false =>
    rw [if_pos (RR_0 h).1, if_neg (RR_0 h).2]
    obtain ⟨a1, a2, a3, a4, a5, a6, a7, a8, a9, a10, a11, a12, a13, a14, a15, a16⟩ := id h
    by_cases q1 : z < 0
    · rw [if_pos q1, if_pos q1]; exact eq_same h rfl
    · rw [if_neg q1, if_neg q1]
      by_cases q2 : z ≤ 3
      · rw [if_pos q2, if_pos q2]
        obtain ⟨off, sw, la', B, p, f, g, tb, tl, yb, yl, h1, h2, h3, hj, h5, h6⟩ := a13
        have el : la' = la := (nI_eq (by omega) (by omega)).mp (h2.symm.trans hvl)
        subst el
        have tk0 : tk = 0 := a14.2.2.2.2.2.2.2.2.2.2.1 rfl
        subst tk0
        by_cases q3 : z = 1
        · rw [if_pos q3, if_pos q3]
          refine eq_mk (n := n) (r := r) (mu := mu) (on := false) (jm := jm) (tk := 0) (tj := tj) ⟨a1, a2, a3, a4, a5, a6, a7, a8, a9, a10, DK_up a11 (fun d hd y => (DK_m1 a11 a6 hd).mpr y) (fun d hd y => ?_), GV_up (mu' := mu) a12 a11 a6 (fun d hd y => ?_), mount_1 h1 a2 a3 a5 a6 a11 a12 hwf hf hct hct3 hpc hep hj (by omega) hvl, a14, a15, a16⟩ rfl
          · rcases (a11 d hd).1 with ⟨c1, c2, c3, c4⟩ | ⟨c1, c2⟩
            · exact ⟨c2, by rw [mSame_at, if_pos hd, mSame_at, if_pos hd]; exact c3, c4⟩
            · rw [c1] at y; exact absurd y (by decide)
          · rcases (a11 d hd).1 with ⟨c1, c2, c3, c4⟩ | ⟨c1, c2⟩
            · exact ⟨by rw [mSame_at, if_pos hd, mSame_at, if_pos hd]; exact c3, Nat.le_refl _, c4⟩
            · rw [c1] at y; exact absurd y (by decide)
        · rw [if_neg q3, if_neg q3]
          obtain ⟨mu', B', p', f', g', tb', tl', yb', yl', k1, ks, e1, e2, e3, km, kj, kc⟩ := mount_RX (bits := bits) h1 a2 a3 a5 a6 a11 a12 hwf hf hct hct3 hpc hep hj
          have hp' := k1.1.1
          have hy1 : (pAgain 6148914691236517205 wf n (lFind L)).1.2 7 wf = nI yb' := by rw [e2]; rw [e2] at k1; exact k1.2.2.1.2.2.2.1
          have hy2 : fY ct = nI yb' := by rw [e1]; exact k1.2.2.1.2.2.1
          have hy3 : yb' ≤ 1 := k1.2.2.1.2.2.2.2.1
          generalize (pAgain 6148914691236517205 wf n (lFind L)).1 = L1 at k1 km kc hy1 ⊢
          generalize (mSp fL ct pc 1 0 bits fF fS n).1 = fF1 at k1 ⊢
          generalize (mSp fL ct pc 1 0 bits fF fS n).2.1 = fS1 at k1 ⊢
          generalize mMk fL fF fS fT ct fM n = fM1 at km ⊢
          have dk1 : DK n r (pTake L1 wf (pMk P) n) (pRt P) fL fM1 fR mu' := DK_up a11 (fun d hd y => by
            rw [pTake_at, if_neg (fun x => x.2 ((DK_m1 a11 a6 hd).mpr y))]
            exact (DK_m1 a11 a6 hd).mpr y) (fun d hd y => ⟨(km d hd y).1, (km d hd y).2.1, (km d hd y).2.2.2⟩)
          have gv1 : GV n r fL fM1 fR := GV_up (mu' := mu') a12 a11 a6 (fun d hd y => (km d hd y).2)
          generalize pTake L1 wf (pMk P) n = mk1 at km dk1 ⊢
          have hP : ∀ d, d < n → (!decide (mk1 d = -1)) = lvv n fL d := fun d hd => DK_lv dk1 a6 hd
          have ht : ∀ d, lvv n fL d = true → mk1 d = nI (mu' d) ∧ fM1 d = nI (mu' d) ∧ mu' d ≤ mu' d ∧ mu' d ≤ r := fun d hd => by
            have hd := (lvv_iff d).mp hd
            exact ⟨(km d hd.1 hd.2).1, (km d hd.1 hd.2).2.1, Nat.le_refl _, (km d hd.1 hd.2).2.2.2⟩
          have hw' : 1 - wf = rh sw (1 - p') := by rw [e2, rh_1 (by omega)]
          have hv : (1 - fP ct : Int32) = nI (1 - p') := by rw [hep, e3]; exact p_nI hp'
          have hN := blk_le a3 a6
          have hW := GR_W0 a14
          have cc : L1.1 1 = nI 0 ∨ L1.1 1 = nI 1 := by
            rw [kc]
            rcases hwf with y | y
            · rw [y]; exact Or.inl rfl
            · rw [y]; exact Or.inr rfl
          have c1' : (1 - L1.1 1 : Int32) = nI (1 - wf) := by rw [kc]; exact p_nI hwf
          have W0 : ∀ b, fill0 fW 0 ((n - 2) * (r - 6)) b = 0 := fill_0 a14 (Nat.le_refl _)
          by_cases q4 : yb' = 0
          · rw [if_pos (show L1.2 7 wf = 0 by rw [hy1, q4]; rfl), if_pos (show fY ct = 0 by rw [hy2, q4]; rfl)]
            by_cases q5 : z = 3
            · rw [if_pos q5, if_pos q5, e3]
              obtain ⟨f2, g2, l1, l2⟩ := RN_part (P := pMark mk1 P) (bits := bits) (y := 0) (fm := mk1) (fMM := fM1) (t := mu') (vv := 1 - fP ct) k1 ks a3 hP hw' (by omega) (by omega) hv ht
              exact eq_mk (n := n) (r := r) (mu := mu') (on := false) (jm := jm) (tk := 0) (tj := tj) ⟨a1, a2, a3, a4, a5, a6, a7, a8, (fun z => absurd z (by decide)), fun _ => ⟨rfl, (a10 rfl).2⟩, dk1, gv1, RM_dn l1 (by omega) (fun y => ⟨q4, fun _ => rfl⟩) (by have y := cc; rw [← l2] at y; exact y) (by rw [hvl, nI_1]) (Or.inl (by rw [e1])), GR_none (GI_clear a14.2.2.1) rfl hW a14.1 a14.2.1 (fun z => absurd z (by decide)), a15, a16⟩ rfl
            · rw [if_neg q5, if_neg q5, e3]
              obtain ⟨f2, g2, l1, l2⟩ := RN_fin (P := pMark mk1 P) (y := 0) (fm := mk1) (fMM := fM1) (t := mu') (mu' := mu') (vv := 1 - fP ct) k1 a3 hP hw' c1' (by omega) (by omega) hv (fun d hd => ⟨(ht d hd).1, (ht d hd).2.1, rfl⟩)
              refine eq_mk (n := n) (r := r) (mu := mu') (on := true) (jm := jm) (tk := 0) (tj := tj) ⟨a1, a2, a3, a4, a5, a6, a7, a8, fun _ => ⟨rfl, rfl⟩, (fun z => absurd z (by decide)), dk1, gv1, RM_new l1 (by omega) (fun _ => rfl) l2 (by rw [hvl, nI_1]) (by rw [hvl, nI_1]), GR_none a14.2.2.1 (GR_r0 a14) W0 a14.1 a14.2.1 (fun _ x hx => ?_), a15, a16⟩ rfl
              rw [mAll_at, if_pos hx, fits_K a14 (by generalize (n - 2) * (r - 6) = N at hx hN; omega)]
          · have q4' : yb' = 1 := by omega
            rw [if_neg (show ¬ L1.2 7 wf = 0 by rw [hy1, q4']; decide), if_neg (show ¬ fY ct = 0 by rw [hy2, q4']; decide)]
            have hjt : jm = true := by
              cases y : jm with
              | true => rfl
              | false => exact absurd (kj y).1 q4
            have jm0 := a16 hjt
            have fitK : sb_Fit (gKeep J tj (pKp P)) := gKeep_fit a15.2.2.1 a14.1 tj
            have pl : ∀ x, x < 13056 → gKeep J tj (pKp P) x = mPlace fI fJ fK ((n - 2) * (r - 6)) x := fun x hx => place_eq a15 jm0 a14.2.1 hx
            by_cases q5 : z = 2
            · rw [if_pos q5, if_pos q5]
              exact eq_mk (n := n) (r := r) (mu := mu') (on := false) (jm := jm) (tk := 0) (tj := tj) ⟨a1, a2, a3, a4, a5, a6, a7, a8, a9, a10, dk1, gv1, RM_dn k1 (by omega) kj cc hvl (Or.inl (by rw [e1])), a14, a15, a16⟩ rfl
            · rw [if_neg q5, if_neg q5]
              by_cases q6 : z = 3
              · rw [if_pos q6, if_pos q6, e3]
                obtain ⟨f2, g2, l1, l2⟩ := RN_part (P := pKeep (gKeep J tj (pKp P)) (pMark mk1 P)) (bits := bits) (y := 0) (fm := mk1) (fMM := fM1) (t := mu') (vv := 1 - fP ct) k1 ks a3 hP hw' (by omega) (by omega) hv ht
                exact eq_mk (n := n) (r := r) (mu := mu') (on := false) (jm := jm) (tk := 0) (tj := tj) ⟨a1, a2, a3, a4, a5, a6, a7, a8, (fun z => absurd z (by decide)), fun _ => ⟨rfl, (a10 rfl).2⟩, dk1, gv1, RM_dn l1 (by omega) (fun y => ⟨(kj y).1, fun _ => rfl⟩) (by have y := cc; rw [← l2] at y; exact y) (by rw [hvl, nI_1]) (Or.inl (by rw [e1])), GR_none (GI_clear a14.2.2.1) rfl hW fitK pl (fun z => absurd z (by decide)), a15, a16⟩ rfl
              · rw [if_neg q6, if_neg q6, e3]
                obtain ⟨f2, g2, l1, l2⟩ := RN_fin (P := pKeep (gKeep J tj (pKp P)) (pMark mk1 P)) (y := 0) (fm := mk1) (fMM := fM1) (t := mu') (mu' := mu') (vv := 1 - fP ct) k1 a3 hP hw' c1' (by omega) (by omega) hv (fun d hd => ⟨(ht d hd).1, (ht d hd).2.1, rfl⟩)
                refine eq_mk (n := n) (r := r) (mu := mu') (on := true) (jm := jm) (tk := 0) (tj := tj) ⟨a1, a2, a3, a4, a5, a6, a7, a8, fun _ => ⟨rfl, rfl⟩, (fun z => absurd z (by decide)), dk1, gv1, RM_new l1 (by omega) (fun _ => rfl) l2 (by rw [hvl, nI_1]) (by rw [hvl, nI_1]), GR_none a14.2.2.1 (GR_r0 a14) W0 fitK pl (fun _ x hx => ?_), a15, a16⟩ ?_
                · have hx2 : x < 13056 := by generalize (n - 2) * (r - 6) = N at hx hN; omega
                  rw [mAll_at, if_pos hx, ← pl x hx2]; exact fit_nar (fitK x)
                · exact units_eq (P := pKeep (gKeep J tj (pKp P)) (pMark mk1 P)) dk1 a2 a3 a6 a15 jm0
      · rw [if_neg q2, if_neg q2]; exact eq_same h rfl
end SM5
