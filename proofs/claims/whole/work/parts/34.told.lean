/-! what a label tells, on both sides; a new label; a label written again -/
def LT (off sw : Nat) (L : LL) (fP fY fT : FF) (x p : Nat) (cond : Nat → Prop) (t : Nat → Nat) (y : Nat) : Prop :=
  fP x = nI p ∧ L.2 6 (rh sw p) = nI (x + off) ∧ fY x = nI y ∧ L.2 7 (rh sw p) = nI y ∧ y ≤ 1 ∧ ∀ d, d < 8 → cond d → fT (8 * x + d) = nI (t d) ∧ L.2 (4 + rh sw p) d = nI (t d)
theorem lD_6 {w : Nat} {tg : Int32} {fm : Nat → Int32} {L : LL} (hw : w < 2) : (lDraft w tg fm L).2 6 = upd (L.2 6) w (L.1 0 + 1) := by
  show va_up (va_up (va_up L.2 6 (upd (L.2 6) w (L.1 0 + 1))) 7 (upd (L.2 7) w tg)) (4 + w) (va_cpy fm (L.2 (4 + w)) 0 0 8) 6 = _
  rw [va_up_ne _ _ (by omega), va_up_ne _ _ (by omega), va_up_self]
theorem lD_7 {w : Nat} {tg : Int32} {fm : Nat → Int32} {L : LL} (hw : w < 2) : (lDraft w tg fm L).2 7 = upd (L.2 7) w tg := by
  show va_up (va_up (va_up L.2 6 (upd (L.2 6) w (L.1 0 + 1))) 7 (upd (L.2 7) w tg)) (4 + w) (va_cpy fm (L.2 (4 + w)) 0 0 8) 7 = _
  rw [va_up_ne _ _ (by omega), va_up_self]
theorem lD_t {w : Nat} {tg : Int32} {fm : Nat → Int32} {L : LL} : (lDraft w tg fm L).2 (4 + w) = va_cpy fm (L.2 (4 + w)) 0 0 8 := by
  show va_up (va_up (va_up L.2 6 (upd (L.2 6) w (L.1 0 + 1))) 7 (upd (L.2 7) w tg)) (4 + w) (va_cpy fm (L.2 (4 + w)) 0 0 8) (4 + w) = _
  rw [va_up_self]
theorem lD_o {w : Nat} {tg : Int32} {fm : Nat → Int32} {L : LL} {k : Nat} (h6 : k ≠ 6) (h7 : k ≠ 7) (h4 : k ≠ 4 + w) : (lDraft w tg fm L).2 k = L.2 k := by
  show va_up (va_up (va_up L.2 6 (upd (L.2 6) w (L.1 0 + 1))) 7 (upd (L.2 7) w tg)) (4 + w) (va_cpy fm (L.2 (4 + w)) 0 0 8) k = _
  rw [va_up_ne _ _ h4, va_up_ne _ _ h7, va_up_ne _ _ h6]
theorem lD_s0 {w : Nat} {tg : Int32} {fm : Nat → Int32} {L : LL} : (lDraft w tg fm L).1 0 = L.1 0 + 1 := by
  show va_up L.1 0 (L.1 0 + 1) 0 = _
  rw [va_up_self]
theorem lD_s1 {w : Nat} {tg : Int32} {fm : Nat → Int32} {L : LL} : (lDraft w tg fm L).1 1 = L.1 1 := by
  show va_up L.1 0 (L.1 0 + 1) 1 = _
  rw [va_up_ne _ _ (by omega)]
theorem cpy8 {a b : Nat → Int32} {d : Nat} (h : d < 8) : va_cpy a b 0 0 8 d = a d := by
  rw [pk_cpy_in (by omega) (by omega), show 0 + (d - 0) = d by omega]
theorem mTell_at {fM f : FF} {x j : Nat} : ∀ m, mTell fM x f m j = if 8 * x ≤ j ∧ j < 8 * x + m then fM (j - 8 * x) else f j
  | 0 => by rw [if_neg (by omega)]; rfl
  | m + 1 => by
    show upd (mTell fM x f m) (8 * x + m) (fM m) j = _
    by_cases e : j = 8 * x + m
    · subst e; rw [pk_us, if_pos (by omega), show 8 * x + m - 8 * x = m by omega]
    · rw [pk_un e, mTell_at m]
      by_cases h : 8 * x ≤ j ∧ j < 8 * x + m
      · rw [if_pos h, if_pos (by omega)]
      · rw [if_neg h, if_neg (by omega)]
theorem mTell_in {fM f : FF} {x d : Nat} (h : d < 8) : mTell fM x f 8 (8 * x + d) = fM d := by
  rw [mTell_at, if_pos (by omega), show 8 * x + d - 8 * x = d by omega]
theorem mTell_out {fM f : FF} {x z d : Nat} (h : d < 8) (hz : z ≠ x) : mTell fM x f 8 (8 * z + d) = f (8 * z + d) := by
  rw [mTell_at, if_neg (by omega)]
/-- a label of the other row stays as it was when one is drafted -/
theorem LT_keep {off sw w x z p : Nat} {L : LL} {fP fY fT fMM : FF} {cond cond' : Nat → Prop} {t : Nat → Nat} {y : Nat} {tg vv uu : Int32} {fm : Nat → Int32} (h : LT off sw L fP fY fT x p cond t y) (hp : p < 2) (hw : w < 2) (hne : rh sw p ≠ w) (hz : x ≠ z) (hc : ∀ d, cond' d → cond d) :
    LT off sw (lDraft w tg fm L) (upd fP z vv) (upd fY z uu) (mTell fMM z fT 8) x p cond' t y := by
  obtain ⟨h1, h2, h3, h4, h5, h6⟩ := h
  have hr := rh_lt (sw := sw) hp
  refine ⟨by rw [pk_un hz]; exact h1, by rw [lD_6 hw, pk_un hne]; exact h2, by rw [pk_un hz]; exact h3, by rw [lD_7 hw, pk_un hne]; exact h4, h5, fun d hd hcd => ?_⟩
  obtain ⟨q1, q2⟩ := h6 d hd (hc d hcd)
  exact ⟨by rw [mTell_out hd hz]; exact q1, by rw [lD_o (by omega) (by omega) (by omega)]; exact q2⟩
theorem LT_new {off sw x p : Nat} {L : LL} {fP fY fT fMM : FF} {cond : Nat → Prop} {t : Nat → Nat} {y : Nat} {fm : Nat → Int32} (hp : p < 2) (hm : L.1 0 + 1 = nI (x + off)) (hy : y ≤ 1) (ht : ∀ d, d < 8 → cond d → fm d = nI (t d) ∧ fMM d = nI (t d)) {vv : Int32} (hv : vv = nI p) :
    LT off sw (lDraft (rh sw p) (nI y) fm L) (upd fP x vv) (upd fY x (nI y)) (mTell fMM x fT 8) x p cond t y := by
  have hr := rh_lt (sw := sw) hp
  refine ⟨by rw [pk_us]; exact hv, by rw [lD_6 hr, pk_us]; exact hm, by rw [pk_us], by rw [lD_7 hr, pk_us], hy, fun d hd hcd => ?_⟩
  obtain ⟨q1, q2⟩ := ht d hd hcd
  exact ⟨by rw [mTell_in hd]; exact q2, by rw [lD_t, cpy8 hd]; exact q1⟩
/-- halves written: what labels tell stays -/
theorem LT_ar {off sw x p : Nat} {L L' : LL} {fP fY fT : FF} {cond cond' : Nat → Prop} {t : Nat → Nat} {y : Nat} (h : LT off sw L fP fY fT x p cond t y) (e : ∀ k, 4 ≤ k → L'.2 k = L.2 k) (hc : ∀ d, cond' d → cond d) : LT off sw L' fP fY fT x p cond' t y := by
  obtain ⟨h1, h2, h3, h4, h5, h6⟩ := h
  exact ⟨h1, by rw [e 6 (by omega)]; exact h2, h3, by rw [e 7 (by omega)]; exact h4, h5, fun d hd hcd => ⟨(h6 d hd (hc d hcd)).1, by rw [e _ (by omega)]; exact (h6 d hd (hc d hcd)).2⟩⟩
theorem LH_ar {off sw : Nat} {L L' : LL} {fF fS : FF} {f g : HH} (h : LH off sw L fF fS f g) (e : ∀ k, k < 4 → L'.2 k = L.2 k) : LH off sw L' fF fS f g := by
  intro d s hd hs
  obtain ⟨h1, h2, h3, h4⟩ := h d s hd hs
  have hr := rh_lt (sw := sw) hs
  exact ⟨h1, h2, by rw [e _ (by omega)]; exact h3, by rw [e _ (by omega)]; exact h4⟩
theorem wr_all {f : HH} {x p : Nat} {c ha : Nat → Bool} (h : ∀ d, c d = true → ha d = true) : wr f x p c ha = wr f x p c (fun _ => true) := by
  funext d s
  unfold wr
  by_cases q : c d = true
  · rw [h d q]
  · rw [if_neg (fun z => q z.1), if_neg (fun z => q z.1)]
/-- both sides' labels -/
def RX (r : Nat) (lv : Nat → Bool) (mu : Nat → Nat) (L : LL) (fF fS fP fY fT : FF) (off sw la B p : Nat) (f g : HH) (tb tl : Nat → Nat) (yb yl : Nat) : Prop :=
  LI r lv mu la B p f g tb tl ∧ LH off sw L fF fS f g ∧ LT off sw L fP fY fT B p (fun d => lv d = true ∧ hB f g B p d) tb yb ∧ (B < la → LT off sw L fP fY fT la (1 - p) (fun d => lv d = true ∧ lbd f g d) tl yl) ∧ L.1 0 = nI (la + off) ∧ la + off < 2000
theorem RX_sc {r : Nat} {lv : Nat → Bool} {mu : Nat → Nat} {L L' : LL} {fF fS fP fY fT : FF} {off sw la B p : Nat} {f g : HH} {tb tl : Nat → Nat} {yb yl : Nat} (h : RX r lv mu L fF fS fP fY fT off sw la B p f g tb tl yb yl) (e : L'.2 = L.2) (e0 : L'.1 0 = L.1 0) : RX r lv mu L' fF fS fP fY fT off sw la B p f g tb tl yb yl := by
  obtain ⟨h1, h2, h3, h4, h5, h6⟩ := h
  exact ⟨h1, LH_ar h2 (fun k _ => by rw [e]), LT_ar h3 (fun k _ => by rw [e]) (fun _ z => z), fun z => LT_ar (h4 z) (fun k _ => by rw [e]) (fun _ z => z), by rw [e0]; exact h5, h6⟩
section NEW
variable {r : Nat} {lv : Nat → Bool} {mu mu' : Nat → Nat} {L : LL} {fF fS fP fY fT fMM fL : FF} {off sw la B p : Nat} {f g : HH} {tb tl t : Nat → Nat} {yb yl y n w : Nat} {fm mk : Nat → Int32} {bC bM : Int64} {fl : Int32}
theorem mC_0 {d : Nat} (hd : d < n) (hlv : ∀ d, lv d = true ↔ (d < n ∧ fL d = 0)) : mC fL 0 fF fS d = lv d := by
  rw [Bool.eq_iff_iff, hlv]
  unfold mC
  rw [decide_eq_true_eq]
  exact ⟨fun z => ⟨hd, z.1⟩, fun z => ⟨z.2, Or.inl rfl⟩⟩
theorem lv_and (hlv : ∀ d, lv d = true ↔ (d < n ∧ fL d = 0)) : (fun d => decide (d < n) && lv d) = lv := by
  funext d
  rw [Bool.eq_iff_iff, Bool.and_eq_true, decide_eq_true_eq]
  exact ⟨fun z => z.2, fun z => ⟨((hlv d).mp z).1, z⟩⟩
/-- a new label, drafted and written: both sides' halves -/
theorem new_LH (h : RX r lv mu L fF fS fP fY fT off sw la B p f g tb tl yb yl) (hn : n ≤ 8) (hlv : ∀ d, lv d = true ↔ (d < n ∧ fL d = 0)) (hw : w = rh sw (1 - p)) (hb : ∀ k, k < 8 → pPart bC k = mHow fl bM k) {tg : Int32} :
    LH off sw (gW lv bC w n (lDraft w tg fm L)) (mSp fL (la + 1) (1 - p) 0 fl bM fF fS n).1 (mSp fL (la + 1) (1 - p) 0 fl bM fF fS n).2.1
      (wr f (la + 1) (1 - p) lv (fun d => decide (pPart bC (cnt lv d) = 1 ∨ pPart bC (cnt lv d) = 2))) (wr g (la + 1) (1 - p) lv (fun d => decide (pPart bC (cnt lv d) = 1 ∨ pPart bC (cnt lv d) = 3))) := by
  obtain ⟨h1, h2, h3, h4, h5, h6⟩ := h
  have hp := h1.1
  have hp2 : 1 - p < 2 := by omega
  have hw2 : w < 2 := by rw [hw]; exact rh_lt hp2
  have k := LH_wr (x := la + 1) (n := n) (c := lv) (fL := fL) (sm := 0) (LH_ar h2 (L' := lDraft w tg fm L) (fun k hk => lD_o (by omega) (by omega) (by omega))) hp2 hw (by rw [lD_6 hw2, pk_us, h5, nI_1, show la + off + 1 = la + 1 + off by omega]) (by omega) hn (fun d hd => mC_0 hd hlv) hb
  rw [lv_and hlv] at k
  exact k
/-- a new label, of which some is down -/
theorem RX_part (h : RX r lv mu L fF fS fP fY fT off sw la B p f g tb tl yb yl) (hs : stl lv B p f g) (hn : n ≤ 8) (hlv : ∀ d, lv d = true ↔ (d < n ∧ fL d = 0)) (hw : w = rh sw (1 - p)) (hb : ∀ k, k < 8 → pPart bC k = mHow fl bM k) (hy : y ≤ 1) (hq : la + 1 + off < 2000) {vv : Int32} (hv : vv = nI (1 - p)) (ht : ∀ d, lv d = true → fm d = nI (t d) ∧ fMM d = nI (t d) ∧ mu d ≤ t d ∧ t d ≤ r) :
    ∃ f' g', RX r lv mu (gW lv bC w n (lDraft w (nI y) fm L)) (mSp fL (la + 1) (1 - p) 0 fl bM fF fS n).1 (mSp fL (la + 1) (1 - p) 0 fl bM fF fS n).2.1 (upd fP (la + 1) vv) (upd fY (la + 1) (nI y)) (mTell fMM (la + 1) fT 8) off sw (la + 1) B p f' g' tb t yb y := by
  have k := new_LH (fm := fm) (tg := nI y) h hn hlv hw hb
  obtain ⟨h1, h2, h3, h4, h5, h6⟩ := h
  have hp := h1.1
  have hB := h1.2.2.1
  have hp2 : 1 - p < 2 := by omega
  have hw2 : w < 2 := by rw [hw]; exact rh_lt hp2
  have hne : rh sw p ≠ w := by rw [hw, rh_1 (by omega)]; have := rh_lt (sw := sw) (s := p) (by omega); omega
  refine ⟨_, _, LI_part h1 hs (fun d hd => (ht d hd).2.2), k, ?_, fun _ => ?_, ?_, hq⟩
  · refine LT_ar (L := lDraft w (nI y) fm L) ?_ (fun k hk => gW_6 hw2 hk n) (fun d z => z)
    exact LT_keep h3 (by omega) hw2 hne (by omega) (fun d z => ⟨z.1, (hB_row (by omega)).mp z.2⟩)
  · refine LT_ar (L := lDraft w (nI y) fm L) ?_ (fun k hk => gW_6 hw2 hk n) (fun d z => z)
    rw [hw]
    exact LT_new hp2 (by rw [h5, nI_1, show la + off + 1 = la + 1 + off by omega]) hy (fun d hd z => ⟨(ht d z.1).1, (ht d z.1).2.1⟩) hv
  · rw [gW_1, lD_s0, h5, nI_1, show la + off + 1 = la + 1 + off by omega]
/-- a new label, wholly down: it is the label that all have -/
theorem RX_full (h : RX r lv mu L fF fS fP fY fT off sw la B p f g tb tl yb yl) (hn : n ≤ 8) (hlv : ∀ d, lv d = true ↔ (d < n ∧ fL d = 0)) (hw : w = rh sw (1 - p)) (hy : y ≤ 1) (hq : la + 1 + off < 2000) {vv : Int32} (hv : vv = nI (1 - p)) (ht : ∀ d, lv d = true → fm d = nI (t d) ∧ fMM d = nI (t d) ∧ t d = mu' d) :
    ∃ f' g', RX r lv mu' (gW lv 6148914691236517205 w n (lDraft w (nI y) fm L)) (mSp fL (la + 1) (1 - p) 0 0 bM fF fS n).1 (mSp fL (la + 1) (1 - p) 0 0 bM fF fS n).2.1 (upd fP (la + 1) vv) (upd fY (la + 1) (nI y)) (mTell fMM (la + 1) fT 8) off sw (la + 1) (la + 1) (1 - p) f' g' t tl y yl ∧ ∀ d, lv d = true → hB f' g' (la + 1) (1 - p) d := by
  have hb : ∀ k, k < 8 → pPart 6148914691236517205 k = mHow 0 bM k := fun k hk => by rw [part_all k (by omega)]; rfl
  have k := new_LH (fm := fm) (tg := nI y) h hn hlv hw hb
  obtain ⟨h1, h2, h3, h4, h5, h6⟩ := h
  have hp := h1.1
  have hB := h1.2.2.1
  have hp2 : 1 - p < 2 := by omega
  have hw2 : w < 2 := by rw [hw]; exact rh_lt hp2
  have e0 : ∀ d, lv d = true → pPart 6148914691236517205 (cnt lv d) = 1 := fun d q => by
    have := ((hlv d).mp q).1
    exact part_all (cnt lv d) (by have := cnt_le lv d; omega)
  rw [wr_all (f := f) (fun d q => by simp [e0 d q]), wr_all (f := g) (ha := fun d => decide (pPart 6148914691236517205 (cnt lv d) = 1 ∨ pPart 6148914691236517205 (cnt lv d) = 3)) (fun d q => by simp [e0 d q])] at k
  obtain ⟨j1, j2⟩ := LI_full (tl' := tl) (mu' := mu') (tb' := t) h1 (ha := fun _ => true) (hb := fun _ => true) (fun d => rfl) (fun d => rfl) (fun d hd => (ht d hd).2.2)
  refine ⟨_, _, ⟨j1, k, ?_, fun z => absurd z (by omega), ?_, hq⟩, j2⟩
  · refine LT_ar (L := lDraft w (nI y) fm L) ?_ (fun k hk => gW_6 hw2 hk n) (fun d z => z)
    rw [hw]
    exact LT_new hp2 (by rw [h5, nI_1, show la + off + 1 = la + 1 + off by omega]) hy (fun d hd z => ⟨(ht d z.1).1, (ht d z.1).2.1⟩) hv
  · rw [gW_1, lD_s0, h5, nI_1, show la + off + 1 = la + 1 + off by omega]
end NEW
