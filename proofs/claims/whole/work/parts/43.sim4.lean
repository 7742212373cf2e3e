/-! commit, lay -/
theorem lW_ar {e : Nat} {L : LL} {k : Nat} (hk : k < 4) : (lWipe e L).2 k = upd (L.2 k) e 0 := by
  show va_up (va_up (va_up (va_up L.2 0 (upd (L.2 0) e 0)) 2 (upd (L.2 2) e 0)) 1 (upd (L.2 1) e 0)) 3 (upd (L.2 3) e 0) k = _
  rcases (show k = 0 ∨ k = 1 ∨ k = 2 ∨ k = 3 by omega) with rfl | rfl | rfl | rfl
  · rw [va_up_ne _ _ (by omega), va_up_ne _ _ (by omega), va_up_ne _ _ (by omega), va_up_self]
  · rw [va_up_ne _ _ (by omega), va_up_self]
  · rw [va_up_ne _ _ (by omega), va_up_ne _ _ (by omega), va_up_self]
  · rw [va_up_self]
theorem lWs_at {L : LL} {k d : Nat} (hk : k < 4) : ∀ m, (lWipes L m).2 k d = if d < m then 0 else L.2 k d
  | 0 => by rw [if_neg (by omega)]; rfl
  | m + 1 => by
    show (lWipe m (lWipes L m)).2 k d = _
    rw [lW_ar hk]
    by_cases q : d = m
    · subst q; rw [pk_us, if_pos (by omega)]
    · rw [pk_un q, lWs_at hk m]
      by_cases z : d < m
      · rw [if_pos z, if_pos (by omega)]
      · rw [if_neg z, if_neg (by omega)]
theorem mWs_at {f : FF} {j : Nat} : ∀ m, mWipes f m j = if j < 2 * m then 0 else f j
  | 0 => by rw [if_neg (by omega)]; rfl
  | m + 1 => by
    show upd (upd (mWipes f m) (2 * m) 0) (2 * m + 1) 0 j = _
    by_cases q : j = 2 * m + 1
    · subst q; rw [pk_us, if_pos (by omega)]
    · rw [pk_un q]
      by_cases q2 : j = 2 * m
      · subst q2; rw [pk_us, if_pos (by omega)]
      · rw [pk_un q2, mWs_at m]
        by_cases z : j < 2 * m
        · rw [if_pos z, if_pos (by omega)]
        · rw [if_neg z, if_neg (by omega)]
theorem fit_fill0 {f : Nat → Int32} {v : Int32} (h : sb_Fit f) : ∀ c, sb_Fit (fill0 f (vp_nar .byte v) c)
  | 0 => h
  | c + 1 => sb_fitU (fit_fill0 h c) nar_fit
section SM4
variable {k n r : Nat} {P P' : PP} {G J G' J' : GG} {L L' : LL} {vT vn vr vo vl vb vo' vl' vb' : Int32} {fN fK fW fL fM fE fR fF fS fP fY fT fJ fI : FF} {mu mu' : Nat → Nat} {on jm on' jm' : Bool} {tk tj w wf bs la p9 ct pc : Nat} {a b : Int32}
theorem c_commit (h : RR k P G J L vn vr vo vl vb fN fK fW fL fM fR fF fS fP fY fT fJ fI n r mu on jm tk tj) (hk : k ≤ 511) (hw : w = 0 ∨ w = 1) (hq : 1 - L.1 1 = nI w) (hvl : vl = nI la) (hla : la + 3 < 1300) (hvb : vb = nI bs) (hbs : bs < 1300) (hp9 : p9 = 0 ∨ p9 = 1) (hr9 : 1 - fP bs = nI p9) (z : Int32) (bits : Int64) : EQ k (d_commit P G J L n w tk z bits) (m_commit vT vn vr vo vl vb fN fK fW fL fM fE fR fF fS fP fY fT fJ fI n r bs la p9 z bits) := by
  unfold d_commit m_commit
  cases on with
  | false => rw [if_pos (RR_0 h).1, if_neg (RR_0 h).2]; exact eq_same h rfl
  | true =>
    rw [if_neg (RR_1 h).1, if_pos (RR_1 h).2, ifb]
    obtain ⟨a1, a2, a3, a4, a5, a6, a7, a8, a9, a10, a11, a12, a13, a14, a15, a16⟩ := id h
    by_cases q1 : z < 0
    · rw [if_pos q1, if_pos q1]; exact eq_same h rfl
    · rw [if_neg q1, if_neg q1]
      by_cases q2 : z ≤ 4
      · rw [if_pos q2, if_pos q2]
        have eu := use_0 a14 a2 a3 a5 a6
        by_cases q3 : G.1 = 0
        · rw [if_pos q3, if_pos (eu.mpr q3)]; exact eq_same h rfl
        · rw [if_neg q3, if_neg (fun y => q3 (eu.mp y))]
          by_cases q4 : z = 1
          · rw [if_pos q4, if_pos q4]; exact eq_off h rfl
          · rw [if_neg q4, if_neg q4]
            obtain ⟨off, sw, p, f, g, tb, tl, yb, yl, h1, h2, h3, h4, h5, h6, h7⟩ := RM_on a13 hk hw hq hvl hla hvb hbs hp9 hr9
            have hp := h1.1.1
            have hv : (1 - fP bs : Int32) = nI (1 - p) := by rw [h3, h7]; exact p_nI hp
            have ht : ∀ d, lvv n fL d = true → pMk P d = nI (mu d) ∧ fM d = nI (mu d) ∧ mu d ≤ mu d ∧ mu d ≤ r := fun d hd => by
              have hd := (lvv_iff d).mp hd
              rcases (a11 d hd.1).1 with ⟨c1, c2, c3, c4⟩ | ⟨c1, c2⟩
              · exact ⟨c2, c3, Nat.le_refl _, c4⟩
              · rw [c1] at hd; exact absurd hd.2 (by decide)
            have hN := blk_le a3 a6
            have gj : GI (gBecome tk G J) tk := GI_become a14.2.2.1 a15
            have jmn : JM n r (gBecome tk G J) tk (mAll fN fJ ((n - 2) * (r - 6))) (mSame fW fI ((n - 2) * (r - 6))) := JM_become a14
            have hP : ∀ d, d < n → (!decide (pMk P d = -1)) = lvv n fL d := fun d hd => DK_lv a11 a6 hd
            have gOff : GR n r false (pKp P) (gClear G) 0 fN fK (fill0 fW 0 204) := GR_none (GI_clear a14.2.2.1) rfl (fill_0 a14 hN) a14.1 a14.2.1 (fun z => absurd z (by decide))
            have fitK : sb_Fit (gKeep (gBecome tk G J) tk (pKp P)) := gKeep_fit gj.2.2.1 a14.1 tk
            have pl : ∀ x, x < 13056 → gKeep (gBecome tk G J) tk (pKp P) x = mPlace (mSame fW fI ((n - 2) * (r - 6))) (mAll fN fJ ((n - 2) * (r - 6))) fK ((n - 2) * (r - 6)) x := fun x hx => place_eq gj jmn a14.2.1 hx
            rw [h5]
            by_cases q5 : z = 2
            · rw [if_pos q5, if_pos q5]
              obtain ⟨f', g', k1, k2⟩ := RN_part (P := P) (bits := bits) (y := 1) (fm := pMk P) (fMM := fM) (t := mu) (vv := 1 - fP bs) h1 (LI_stl h1.1 rfl) a3 hP h4 (by omega) (by omega) hv ht
              exact eq_mk (n := n) (r := r) (mu := mu) (on := false) (jm := true) (tk := 0) (tj := tk) ⟨a1, a2, a3, a4, a5, a6, a7, a8, (fun z => absurd z (by decide)), fun _ => ⟨rfl, rfl⟩, a11, a12, RM_dn k1 (by omega) (fun y => absurd y (by decide)) (by have y := RM_cnt a13; rw [← k2] at y; exact y) (by rw [hvl, nI_1]) (Or.inl (by rw [hvb, h3])), gOff, gj, fun _ => jmn⟩ rfl
            · rw [if_neg q5, if_neg q5]
              obtain ⟨f', g', k1, k2⟩ := RN_fin (P := P) (y := 1) (fm := pMk P) (fMM := fM) (t := mu) (mu' := mu) (vv := 1 - fP bs) h1 a3 hP h4 hq (by omega) (by omega) hv (fun d hd => ⟨(ht d hd).1, (ht d hd).2.1, rfl⟩)
              have hwr : w = 0 ∨ w = 1 := hw
              have kc : (pFinish P w n (lDraft w (nI 1) (pMk P) L)).1 1 = nI 0 ∨ (pFinish P w n (lDraft w (nI 1) (pMk P) L)).1 1 = nI 1 := by
                rw [k2, ← h4]
                rcases hw with y | y
                · rw [y]; exact Or.inl rfl
                · rw [y]; exact Or.inr rfl
              by_cases q6 : z = 3
              · rw [if_pos q6, if_pos q6]
                exact eq_mk (n := n) (r := r) (mu := mu) (on := false) (jm := true) (tk := 0) (tj := tk) ⟨a1, a2, a3, a4, a5, a6, a7, a8, (fun z => absurd z (by decide)), fun _ => ⟨rfl, rfl⟩, a11, a12, RM_dn k1 (by omega) (fun y => absurd y (by decide)) kc (by rw [hvl, nI_1]) (Or.inl (by rw [hvl, nI_1])), gOff, gj, fun _ => jmn⟩ rfl
              · rw [if_neg q6, if_neg q6]
                have h4' : 1 - w = rh sw (1 - (1 - p)) := by rw [h4, ← rh_1 (by omega)]
                have hv' : (1 - (upd fP (la + 1) (1 - fP bs)) (la + 1) : Int32) = nI (1 - (1 - p)) := by
                  rw [pk_us, hv]; exact p_nI (by omega)
                by_cases q7 : z = 4
                · rw [if_pos q7, if_pos q7]
                  obtain ⟨f2, g2, l1, l2⟩ := RN_part (P := pKeep (gKeep (gBecome tk G J) tk (pKp P)) P) (bits := bits) (y := 0) (fm := pMk P) (fMM := fM) (t := mu) (vv := 1 - (upd fP (la + 1) (1 - fP bs)) (la + 1)) k1 (LI_stl k1.1 rfl) a3 hP h4' (by omega) (by omega) hv' ht
                  refine eq_mk (n := n) (r := r) (mu := mu) (on := false) (jm := true) (tk := 0) (tj := tk) ⟨a1, a2, a3, a4, a5, a6, a7, a8, (fun z => absurd z (by decide)), fun _ => ⟨rfl, rfl⟩, a11, a12, RM_dn l1 (by omega) (fun y => absurd y (by decide)) (by have y := kc; rw [← l2] at y; exact y) (by rw [hvl, nI_1, nI_1]) (Or.inl (by rw [hvl, nI_1])), GR_none (GI_clear a14.2.2.1) rfl (fill_0 a14 hN) fitK pl (fun z => absurd z (by decide)), gj, fun _ => jmn⟩ rfl
                · rw [if_neg q7, if_neg q7]
                  obtain ⟨f2, g2, l1, l2⟩ := RN_fin (P := pKeep (gKeep (gBecome tk G J) tk (pKp P)) P) (y := 0) (fm := pMk P) (fMM := fM) (t := mu) (mu' := mu) (vv := 1 - (upd fP (la + 1) (1 - fP bs)) (la + 1)) k1 a3 hP h4' (by rw [k2, ← h4]; exact p_nI hw) (by omega) (by omega) hv' (fun d hd => ⟨(ht d hd).1, (ht d hd).2.1, rfl⟩)
                  exact eq_mk (n := n) (r := r) (mu := mu) (on := true) (jm := true) (tk := 0) (tj := tk) ⟨a1, a2, a3, a4, a5, a6, a7, a8, a9, a10, a11, a12, RM_new l1 (by omega) (fun _ => rfl) l2 (by rw [hvl, nI_1, nI_1]) (by rw [hvl, nI_1, nI_1]), GR_none (GI_clear a14.2.2.1) rfl (fill_0 a14 (Nat.le_refl _)) fitK pl (fun _ x hx => now_kept a14 hx), gj, fun _ => jmn⟩ (use_eq a14)
      · rw [if_neg q2, if_neg q2]; exact eq_same h rfl
/-- the disks laid anew -/
theorem lay_RR {c : Nat} (h4 : 4 ≤ n) (h8 : n ≤ 8) (h12 : 12 ≤ r) (h40 : r ≤ 40) (hc : c ≤ 2 * k) (hk : k ≤ 600) (h0 : L.1 0 = nI c) (hw : w = 0 ∨ w = 1) (hq : 1 - L.1 1 = nI w) (hf : sb_Fit (pKp P)) (hG : GI G tk) (hW : ∀ b, fill0 fW 0 204 b = 0) (hJ : GI J tj) :
    RR k (pLay (nI n) (nI r) P) (gClear G) J (lLay (pLay (nI n) (nI r) P) w n L) (nI n) (nI r) 0 (0 + 1) (0 + 1) (fill0 fN (vp_nar .byte 0) 13056) (fill0 fK (vp_nar .byte 0) 13056) (fill0 fW 0 204) (fill0 fL 0 8) (fill0 fM (nI r) 8) (fill0 fR 0 320) (mSp (fill0 fL 0 8) (0 + 1) 1 0 0 0 (mWipes fF 8) (mWipes fS 8) n).1 (mSp (fill0 fL 0 8) (0 + 1) 1 0 0 0 (mWipes fF 8) (mWipes fS 8) n).2.1 (upd (upd fP 0 0) (0 + 1) (1 - (upd fP 0 0) 0)) (upd fY (0 + 1) 0) (mTell (fill0 fM (nI r) 8) (0 + 1) fT 8) fJ (fill0 fI 0 204) n r (fun _ => r) true false 0 tj := by
  have hN := blk_le h8 h40
  have dk : DK n r (pMk (pLay (nI n) (nI r) P)) (pRt (pLay (nI n) (nI r) P)) (fill0 fL 0 8) (fill0 fM (nI r) 8) (fill0 fR 0 320) (fun _ => r) := by
    intro d hd
    refine ⟨Or.inl ⟨?_, ?_, ?_, Nat.le_refl _⟩, fun t ht => ?_⟩
    · rw [fill0_at, if_pos (by omega)]
    · show fill0 (pMk P) (nI r) 8 d = _
      rw [fill0_at, if_pos (by omega)]
    · rw [fill0_at, if_pos (by omega)]
    · show rBit (fillL (pRt P) 0 8 d) (nI t) = _
      rw [fillL_at, if_pos (by omega), rb_0 ht, fill0_at, if_pos (by omega)]; rfl
  refine ⟨rfl, h4, h8, rfl, h12, h40, rfl, rfl, fun _ => ⟨rfl, rfl⟩, (fun z => absurd z (by decide)), dk, fun t t1 t2 => ?_, ?_, GR_none (GI_clear hG) rfl hW (fit_fill0 hf _) (fun j hj => ?_) (fun _ x hx => ?_), hJ, (fun z => absurd z (by decide))⟩
  · rcases Nat.eq_zero_or_pos (cnt (fun d => mGone (fill0 fL 0 8) (fill0 fM (nI r) 8) (fill0 fR 0 320) d t) n) with y | y
    · omega
    · obtain ⟨d, hd, e⟩ := cnt_pos.mp y
      have e : mGone (fill0 fL 0 8) (fill0 fM (nI r) 8) (fill0 fR 0 320) d t = true := e
      unfold mGone at e
      rw [fill0_at, if_pos (by omega), fill0_at, if_pos (by omega), fill0_at, if_pos (by omega), decide_eq_false (by rw [nI_le' (by omega) (by omega)]; omega)] at e
      simp [nz] at e
  · have hsw : ∃ sw, w = rh sw 1 := by
      rcases hw with y | y
      · exact ⟨1, by rw [y]; rfl⟩
      · exact ⟨0, by rw [y]; rfl⟩
    obtain ⟨sw, hsw⟩ := hsw
    have hw2 : w < 2 := by omega
    have z0 : LH c sw (lWipes L 8) (mWipes fF 8) (mWipes fS 8) (fun _ _ => 0) (fun _ _ => 0) := by
      intro d s hd hs
      have hr := rh_lt (sw := sw) hs
      rw [mWs_at, if_pos (by omega), mWs_at, if_pos (by omega), lWs_at (by omega), if_pos hd, lWs_at (by omega), if_pos hd, cI_0]
      exact ⟨rfl, rfl, rfl, rfl⟩
    have s0 : (lWipes L 8).1 0 + 1 = nI (0 + 1 + c) := by
      rw [lWipes_sc, h0, nI_1, show c + 1 = 0 + 1 + c by omega]
    have hb : ∀ k, k < 8 → pPart 6148914691236517205 k = mHow 0 0 k := fun k hk => by rw [part_all k (by omega)]; rfl
    have hlv := fun d => lvv_iff (n := n) (fL := fill0 fL 0 8) d
    have k1 := LH_wr (x := 0 + 1) (p := 1) (w := w) (n := n) (c := lvv n (fill0 fL 0 8)) (fL := fill0 fL 0 8) (sm := 0) (LH_ar z0 (L' := lDraft w 0 (pMk (pLay (nI n) (nI r) P)) (lWipes L 8)) (fun k hk => lD_o (by omega) (by omega) (by omega))) (by omega) hsw (by rw [lD_6 hw2, pk_us]; exact s0) (by omega) h8 (fun d hd => mC_0 hd hlv) hb
    rw [lv_and hlv] at k1
    have e0 : ∀ d, lvv n (fill0 fL 0 8) d = true → pPart 6148914691236517205 (cnt (lvv n (fill0 fL 0 8)) d) = 1 := fun d q => by
      have := ((hlv d).mp q).1
      exact part_all _ (by have := cnt_le (lvv n (fill0 fL 0 8)) d; omega)
    rw [wr_all (ha := fun d => decide (pPart 6148914691236517205 (cnt (lvv n (fill0 fL 0 8)) d) = 1 ∨ pPart 6148914691236517205 (cnt (lvv n (fill0 fL 0 8)) d) = 2)) (fun d q => by simp [e0 d q]), wr_all (ha := fun d => decide (pPart 6148914691236517205 (cnt (lvv n (fill0 fL 0 8)) d) = 1 ∨ pPart 6148914691236517205 (cnt (lvv n (fill0 fL 0 8)) d) = 3)) (fun d q => by simp [e0 d q])] at k1
    have eL : (pWrite (pLay (nI n) (nI r) P) 6148914691236517205 w n (lDraft w 0 (pMk (pLay (nI n) (nI r) P)) (lWipes L 8))).1 = gW (lvv n (fill0 fL 0 8)) 6148914691236517205 w n (lDraft w 0 (pMk (pLay (nI n) (nI r) P)) (lWipes L 8)) := wr_eq (fun d hd => DK_lv dk h40 hd)
    have fv : ∀ d s, lvv n (fill0 fL 0 8) d = false → wr (fun _ _ => 0) (0 + 1) 1 (lvv n (fill0 fL 0 8)) (fun _ => true) d s = 0 := fun d s hd => wr_no hd
    have fl : ∀ d, lvv n (fill0 fL 0 8) d = true → wr (fun _ _ => 0) (0 + 1) 1 (lvv n (fill0 fL 0 8)) (fun _ => true) d 1 = 0 + 1 := fun d hd => wr_t hd rfl
    have fo : ∀ d s, s ≠ 1 → wr (fun _ _ => 0) (0 + 1) 1 (lvv n (fill0 fL 0 8)) (fun _ => true) d s = 0 := fun d s hs => wr_row hs
    refine ⟨c, sw, 0 + 1, 0 + 1, 1, wr (fun _ _ => 0) (0 + 1) 1 (lvv n (fill0 fL 0 8)) (fun _ => true), wr (fun _ _ => 0) (0 + 1) 1 (lvv n (fill0 fL 0 8)) (fun _ => true), (fun _ => r), (fun _ => r), 0, 0, ⟨⟨Or.inr rfl, by omega, by omega, fun d s => ?_, fun d s hd => ⟨fv d s hd, fv d s hd⟩, fun d hd => Or.inl ⟨fl d hd, fl d hd⟩, fun d hd y => absurd (fo d (1 - 1) (by omega)) y.2, fun d hd y => rfl, fun y => absurd y (by omega)⟩, ?_, ?_, fun y => absurd y (by omega), ?_, by omega⟩, rfl, by omega, fun _ => ⟨rfl, fun _ => rfl⟩, fun _ => ⟨rfl, rfl, ?_⟩, (fun z => absurd z (by decide))⟩
    · have : wr (fun _ _ => 0) (0 + 1) 1 (lvv n (fill0 fL 0 8)) (fun _ => true) d s ≤ 0 + 1 := wr_le (y := 0) (fun _ _ => Nat.le_refl _) (by omega) d s
      exact ⟨this, this⟩
    · refine LH_ar k1 (fun k hk => ?_)
      show (pWrite (pLay (nI n) (nI r) P) 6148914691236517205 w n (lDraft w 0 (pMk (pLay (nI n) (nI r) P)) (lWipes L 8))).1.2 k = _
      rw [eL]
    · refine LT_ar (L := lDraft w 0 (pMk (pLay (nI n) (nI r) P)) (lWipes L 8)) ?_ (fun k hk => ?_) (fun d y => y)
      · rw [hsw]
        refine LT_new (y := 0) (by omega) s0 (by omega) (fun d hd y => ?_) (by rw [pk_us]; decide)
        exact ⟨by show fill0 (pMk P) (nI r) 8 d = _; rw [fill0_at, if_pos hd], by rw [fill0_at, if_pos hd]⟩
      · show (pWrite (pLay (nI n) (nI r) P) 6148914691236517205 w n (lDraft w 0 (pMk (pLay (nI n) (nI r) P)) (lWipes L 8))).1.2 k = _
        rw [eL]; exact gW_6 hw2 hk n
    · show va_up (pWrite (pLay (nI n) (nI r) P) 6148914691236517205 w n (lDraft w 0 (pMk (pLay (nI n) (nI r) P)) (lWipes L 8))).1.1 1 (1 - (pWrite (pLay (nI n) (nI r) P) 6148914691236517205 w n (lDraft w 0 (pMk (pLay (nI n) (nI r) P)) (lWipes L 8))).1.1 1) 0 = _
      rw [va_up_ne _ _ (by omega), eL, gW_1, lD_s0]; exact s0
    · show (pFinish (pLay (nI n) (nI r) P) w n (lDraft w 0 (pMk (pLay (nI n) (nI r) P)) (lWipes L 8))).1 1 = _
      rw [pFinish_c (by rw [lD_s1, lWipes_sc]; exact hq), hsw]
  · show fill0 (pKp P) (vp_nar .byte 0) 13056 j = _
    rw [fill0_at, if_pos hj, fill0_at, if_pos hj]
  · have : x < 13056 := by generalize (n - 2) * (r - 6) = N at hx hN; omega
    rw [fill0_at, if_pos this, fill0_at, if_pos this]
theorem lay_r {y : Int32} (h1 : ¬ y < 12) (h2 : y ≤ 40) : y = nI y.toNatClampNeg ∧ 12 ≤ y.toNatClampNeg ∧ y.toNatClampNeg ≤ 40 := by
  have h0 : ¬ y < 0 := fun z => h1 (Int32.lt_trans z (by decide))
  obtain ⟨j, hj, e⟩ := nI_of h0
  have ej : (nI j).toNatClampNeg = j := nI_clamp hj
  rw [e, ej]
  rw [e] at h1 h2
  refine ⟨rfl, ?_, ?_⟩
  · exact Nat.not_lt.mp (fun z => h1 (nI_lt (b := 12) z (by omega)))
  · exact (nI_le' (b := 40) hj (by omega)).mp h2
theorem c_lay (h : RR k P G J L vn vr vo vl vb fN fK fW fL fM fR fF fS fP fY fT fJ fI n r mu on jm tk tj) (hk : k ≤ 511) (hw : w = 0 ∨ w = 1) (hq : 1 - L.1 1 = nI w) (x y : Int32) : EQ k (d_lay P G J L w x y) (m_lay vT vn vr vo vl vb fN fK fW fL fM fE fR fF fS fP fY fT fJ fI x y) := by
  unfold d_lay m_lay
  by_cases q1 : x < 4
  · rw [if_pos q1, if_pos q1]; exact eq_same h rfl
  · rw [if_neg q1, if_neg q1]
    by_cases q2 : 8 < x
    · rw [if_pos q2, if_pos q2]; exact eq_same h rfl
    · rw [if_neg q2, if_neg q2]
      by_cases q3 : y < 12
      · rw [if_pos q3, if_pos q3]; exact eq_same h rfl
      · rw [if_neg q3, if_neg q3]
        by_cases q4 : y ≤ 40
        · rw [if_pos q4, if_pos q4]
          obtain ⟨e1, b1, b2⟩ := lay_n q1 q2
          obtain ⟨e2, b3, b4⟩ := lay_r q3 q4
          obtain ⟨a1, a2, a3, a4, a5, a6, a7, a8, a9, a10, a11, a12, a13, a14, a15, a16⟩ := id h
          obtain ⟨off, sw, la, B, p, f, g, tb, tl, yb, yl, h1, h2, h3, h4⟩ := a13
          generalize x.toNatClampNeg = ν at e1 b1 b2 ⊢
          generalize y.toNatClampNeg = ρ at e2 b3 b4
          subst e1 e2
          exact eq_mk (lay_RR (k := k + 1) (c := la + off) b1 b2 b3 b4 (by omega) (by omega) h1.2.2.2.2.1 hw hq a14.1 a14.2.2.1 (fill_0 a14 (blk_le a3 a6)) a15) rfl
        · rw [if_neg q4, if_neg q4]; exact eq_same h rfl
end SM4
