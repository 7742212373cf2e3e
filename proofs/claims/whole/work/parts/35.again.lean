/-! the label that counts is found, and written again; a disk lost, a disk replaced -/
section AGN
variable {r : Nat} {lv lv' : Nat → Bool} {mu mu' : Nat → Nat} {L : LL} {fF fS fP fY fT fMM fL : FF} {off sw la B p : Nat} {f g : HH} {tb tl t : Nat → Nat} {yb yl y n w : Nat} {fm mk : Nat → Int32} {bC bM : Int64} {fl : Int32}
theorem RX_bd (h : RX r lv mu L fF fS fP fY fT off sw la B p f g tb tl yb yl) (d s : Nat) : f d s + off < 2 ^ 31 ∧ g d s + off < 2 ^ 31 := by
  have := h.1.2.2.2.1 d s
  have := h.2.2.2.2.2
  omega
theorem RX_find (h : RX r lv mu L fF fS fP fY fT off sw la B p f g tb tl yb yl) (hn : n ≤ 8) (hlv : ∀ d, lv d = true ↔ (d < n ∧ fL d = 0)) (hex : ∃ d, lv d = true ∧ 0 < mu d) :
    (stl lv B p f g ∧ mMax fL fF fS n = nI B ∧ (lFind L).1 1 = nI (rh sw p)) ∨ (B < la ∧ mMax fL fF fS n = nI la ∧ (lFind L).1 1 = nI (rh sw (1 - p))) := by
  have hbd := RX_bd h
  obtain ⟨⟨hp, hB1, hBl, hle, hz, h6, h7, h8, h9⟩, h2, h3, h4, h5, _⟩ := h
  by_cases q : B < la ∧ ∃ d, lv d = true ∧ wh f g d (1 - p) ∧ f d (1 - p) = la
  · refine Or.inr ⟨q.1, ?_⟩
    refine find_is h2 hbd hn hlv hz (by omega) q.2 (fun d t hd ht hw => ?_)
    rcases (show t = p ∨ t = 1 - p by omega) with rfl | rfl
    · rcases h6 d hd with y | y
      · exact Or.inl (by have := y.1; omega)
      · exact absurd hw y.1
    · rcases h7 d hd hw with y | y
      · exact Or.inr ⟨y.1, rfl⟩
      · exact Or.inl (by omega)
  · have hs : stl lv B p f g := fun d hd hw => by
      rcases h7 d hd hw with y | y
      · exact absurd ⟨y.2, d, hd, hw, y.1⟩ q
      · exact y
    refine Or.inl ⟨hs, ?_⟩
    obtain ⟨d0, l0, m0⟩ := hex
    have b0 : hB f g B p d0 := by
      rcases h6 d0 l0 with y | y
      · exact y
      · omega
    refine find_is h2 hbd hn hlv hz (by omega) ⟨d0, l0, ⟨by rw [b0.1, b0.2], by rw [b0.1]; omega⟩, b0.1⟩ (fun d t hd ht hw => ?_)
    rcases (show t = p ∨ t = 1 - p by omega) with rfl | rfl
    · rcases h6 d hd with y | y
      · exact Or.inr ⟨y.1, rfl⟩
      · exact absurd hw y.1
    · exact Or.inl (hs d hd hw).1
theorem lbd_lv (h : RX r lv mu L fF fS fP fY fT off sw la B p f g tb tl yb yl) {d : Nat} (hd : lbd f g d) : lv d = true := by
  cases q : lv d with
  | true => rfl
  | false =>
    have z := h.1.2.2.2.2.1 d
    rcases hd with y | y
    · exact absurd (z 0 q).1 y.2
    · exact absurd (z 1 q).1 y.2
theorem mC_1 (h : RX r lv mu L fF fS fP fY fT off sw la B p f g tb tl yb yl) (hn : n ≤ 8) (hlv : ∀ d, lv d = true ↔ (d < n ∧ fL d = 0)) {d : Nat} (hd : d < n) : mC fL 1 fF fS d = lSome d L := by
  have hbd := RX_bd h
  rw [Bool.eq_iff_iff, lSome_eq h.2.1 hbd (by omega)]
  unfold mC
  rw [decide_eq_true_eq]
  constructor
  · rintro ⟨z, y | y⟩
    · exact absurd y (by decide)
    · rw [mHas_eq h.2.1 hbd (by omega) z] at y
      rw [← aHas_lbd]
      intro e
      rw [e] at y
      exact y (by decide)
  · intro z
    have zl := ((hlv d).mp (lbd_lv h z)).2
    refine ⟨zl, Or.inr ?_⟩
    rw [mHas_eq h.2.1 hbd (by omega) zl]
    have ab : aHas f g d < 2 ^ 31 := aHas_lt (fun s => by have := (hbd d s).1; omega)
    have := aHas_lbd.mpr z
    exact nI_nle (by omega) ab
theorem cc_iff (h : RX r lv mu L fF fS fP fY fT off sw la B p f g tb tl yb yl) (hn : n ≤ 8) (hlv : ∀ d, lv d = true ↔ (d < n ∧ fL d = 0)) (d : Nat) : (decide (d < n) && lSome d L) = true ↔ (lv d = true ∧ lbd f g d) := by
  have hbd := RX_bd h
  rw [Bool.and_eq_true, decide_eq_true_eq]
  constructor
  · rintro ⟨z, y⟩
    have y2 := (lSome_eq h.2.1 hbd (by omega)).mp y
    exact ⟨lbd_lv h y2, y2⟩
  · rintro ⟨z, y⟩
    have z2 := (hlv d).mp z
    exact ⟨z2.1, (lSome_eq h.2.1 hbd (by omega)).mpr y⟩
theorem lbd_wr {x s : Nat} {c ha hb : Nat → Bool} (hc : ∀ d, c d = true ↔ (lv d = true ∧ lbd f g d)) {d : Nat} (h : lbd (wr f x s c ha) (wr g x s c hb) d) : lbd f g d := by
  by_cases q : c d = true
  · exact ((hc d).mp q).2
  · have q2 : c d = false := by simpa using q
    unfold lbd wh at h ⊢
    rw [wr_no q2, wr_no q2, wr_no q2, wr_no q2] at h
    exact h
/-- the label B, which counts, written again -/
theorem RX_againB (h : RX r lv mu L fF fS fP fY fT off sw la B p f g tb tl yb yl) (hs : stl lv B p f g) (hn : n ≤ 8) (hlv : ∀ d, lv d = true ↔ (d < n ∧ fL d = 0)) (hw : w = rh sw p) (hb : ∀ k, k < 8 → pPart bC k = mHow fl bM k) :
    RX r lv mu (gW (fun d => lSome d L) bC w n L) (mSp fL B p 1 fl bM fF fS n).1 (mSp fL B p 1 fl bM fF fS n).2.1 fP fY fT off sw la B p f g tb tl yb yl := by
  have hp := h.1.1
  have hw2 : w < 2 := by rw [hw]; exact rh_lt (by omega)
  have k := LH_wr (x := B) (p := p) (w := w) (n := n) (c := fun d => lSome d L) (fL := fL) (sm := 1) h.2.1 (by omega) hw (by rw [hw]; exact h.2.2.1.2.1) h.1.2.1 hn (fun d hd => mC_1 h hn hlv hd) hb
  have e1 := (LI_same (ha := fun d => decide (pPart bC (cnt (fun d => lSome d L) d) = 1 ∨ pPart bC (cnt (fun d => lSome d L) d) = 2)) (hb := fun _ => true) h.1 hs (cc_iff h hn hlv)).1
  have e2 := (LI_same (ha := fun _ => true) (hb := fun d => decide (pPart bC (cnt (fun d => lSome d L) d) = 1 ∨ pPart bC (cnt (fun d => lSome d L) d) = 3)) h.1 hs (cc_iff h hn hlv)).2
  rw [e1, e2] at k
  obtain ⟨h1, h2, h3, h4, h5, h6⟩ := h
  exact ⟨h1, k, LT_ar h3 (fun k hk => gW_6 hw2 hk n) (fun d z => z), fun z => LT_ar (h4 z) (fun k hk => gW_6 hw2 hk n) (fun d z => z), by rw [gW_1]; exact h5, h6⟩
/-- the label under way, which counts, written again: some of it is down -/
theorem RX_againP (h : RX r lv mu L fF fS fP fY fT off sw la B p f g tb tl yb yl) (hl : B < la) (hn : n ≤ 8) (hlv : ∀ d, lv d = true ↔ (d < n ∧ fL d = 0)) (hw : w = rh sw (1 - p)) (hb : ∀ k, k < 8 → pPart bC k = mHow fl bM k) :
    ∃ f' g', RX r lv mu (gW (fun d => lSome d L) bC w n L) (mSp fL la (1 - p) 1 fl bM fF fS n).1 (mSp fL la (1 - p) 1 fl bM fF fS n).2.1 fP fY fT off sw la B p f' g' tb tl yb yl := by
  have hp := h.1.1
  have hw2 : w < 2 := by rw [hw]; exact rh_lt (by omega)
  have hc := cc_iff h hn hlv
  have k := LH_wr (x := la) (p := 1 - p) (w := w) (n := n) (c := fun d => lSome d L) (fL := fL) (sm := 1) h.2.1 (by omega) hw (by rw [hw]; exact (h.2.2.2.1 hl).2.1) (by omega) hn (fun d hd => mC_1 h hn hlv hd) hb
  obtain ⟨h1, h2, h3, h4, h5, h6⟩ := h
  exact ⟨_, _, LI_again h1 hl hc, k, LT_ar h3 (fun k hk => gW_6 hw2 hk n) (fun d z => ⟨z.1, (hB_row (by omega)).mp z.2⟩), fun z => LT_ar (h4 z) (fun k hk => gW_6 hw2 hk n) (fun d z => ⟨z.1, lbd_wr hc z.2⟩), by rw [gW_1]; exact h5, h6⟩
/-- the label under way, which counts, written again wholly -/
theorem RX_againF (h : RX r lv mu L fF fS fP fY fT off sw la B p f g tb tl yb yl) (hl : B < la) (hn : n ≤ 8) (hlv : ∀ d, lv d = true ↔ (d < n ∧ fL d = 0)) (hw : w = rh sw (1 - p)) (hm : ∀ d, lv d = true → (lbd f g d → mu' d = tl d) ∧ (¬ lbd f g d → mu' d = 0)) :
    ∃ f' g', RX r lv mu' (gW (fun d => lSome d L) 6148914691236517205 w n L) (mSp fL la (1 - p) 1 0 bM fF fS n).1 (mSp fL la (1 - p) 1 0 bM fF fS n).2.1 fP fY fT off sw la la (1 - p) f' g' tl tl yl yl := by
  have hp := h.1.1
  have hw2 : w < 2 := by rw [hw]; exact rh_lt (by omega)
  have hc := cc_iff h hn hlv
  have hb : ∀ k, k < 8 → pPart 6148914691236517205 k = mHow 0 bM k := fun k hk => by rw [part_all k (by omega)]; rfl
  have k := LH_wr (x := la) (p := 1 - p) (w := w) (n := n) (c := fun d => lSome d L) (fL := fL) (sm := 1) h.2.1 (by omega) hw (by rw [hw]; exact (h.2.2.2.1 hl).2.1) (by omega) hn (fun d hd => mC_1 h hn hlv hd) hb
  have e0 : ∀ d, (decide (d < n) && lSome d L) = true → pPart 6148914691236517205 (cnt (fun d => lSome d L) d) = 1 := fun d q => by
    have : d < n := by rw [Bool.and_eq_true, decide_eq_true_eq] at q; exact q.1
    exact part_all _ (by have := cnt_le (fun d => lSome d L) d; omega)
  rw [wr_all (f := f) (fun d q => by simp [e0 d q]), wr_all (f := g) (ha := fun d => decide (pPart 6148914691236517205 (cnt (fun d => lSome d L) d) = 1 ∨ pPart 6148914691236517205 (cnt (fun d => lSome d L) d) = 3)) (fun d q => by simp [e0 d q])] at k
  obtain ⟨h1, h2, h3, h4, h5, h6⟩ := h
  have j := LI_again_full (tl' := tl) (mu' := mu') (ha := fun _ => true) (hb := fun _ => true) h1 hl hc (fun d => rfl) (fun d => rfl) (fun d hd => ⟨fun z => (hm d hd).1 ((hc d).mp z).2, fun z => (hm d hd).2 (fun y => by rw [(hc d).mpr ⟨hd, y⟩] at z; cases z)⟩)
  refine ⟨_, _, j, k, LT_ar (h4 hl) (fun k hk => gW_6 hw2 hk n) (fun d z => ⟨z.1, ?_⟩), fun z => absurd z (by omega), by rw [gW_1]; exact h5, h6⟩
  have z2 := z.2
  have hw3 : wh (wr f la (1 - p) (fun d => decide (d < n) && lSome d L) (fun _ => true)) (wr g la (1 - p) (fun d => decide (d < n) && lSome d L) (fun _ => true)) d (1 - p) := ⟨by rw [z2.1, z2.2], by rw [z2.1]; omega⟩
  exact lbd_wr hc ((lbd_p (p := 1 - p) (by omega)).mpr (Or.inl hw3))
/-- a disk lost -/
theorem RX_wipe (h : RX r lv mu L fF fS fP fY fT off sw la B p f g tb tl yb yl) {e : Nat} (hv : ∀ d, lv' d = true ↔ (lv d = true ∧ d ≠ e)) :
    ∃ f' g', RX r lv' mu (lWipe e L) (upd (upd fF (2 * e) 0) (2 * e + 1) 0) (upd (upd fS (2 * e) 0) (2 * e + 1) 0) fP fY fT off sw la B p f' g' tb tl yb yl ∧ ∀ B p d, d ≠ e → hB f g B p d → hB f' g' B p d := by
  obtain ⟨h1, h2, h3, h4, h5, h6⟩ := h
  have eq4 : ∀ k, 4 ≤ k → (lWipe e L).2 k = L.2 k := fun k hk => by
    show va_up (va_up (va_up (va_up L.2 0 (upd (L.2 0) e 0)) 2 (upd (L.2 2) e 0)) 1 (upd (L.2 1) e 0)) 3 (upd (L.2 3) e 0) k = _
    rw [va_up_ne _ _ (by omega), va_up_ne _ _ (by omega), va_up_ne _ _ (by omega), va_up_ne _ _ (by omega)]
  have ar : ∀ k, k < 4 → (lWipe e L).2 k = upd (L.2 k) e 0 := fun k hk => by
    show va_up (va_up (va_up (va_up L.2 0 (upd (L.2 0) e 0)) 2 (upd (L.2 2) e 0)) 1 (upd (L.2 1) e 0)) 3 (upd (L.2 3) e 0) k = _
    rcases (show k = 0 ∨ k = 1 ∨ k = 2 ∨ k = 3 by omega) with rfl | rfl | rfl | rfl
    · rw [va_up_ne _ _ (by omega), va_up_ne _ _ (by omega), va_up_ne _ _ (by omega), va_up_self]
    · rw [va_up_ne _ _ (by omega), va_up_self]
    · rw [va_up_ne _ _ (by omega), va_up_ne _ _ (by omega), va_up_self]
    · rw [va_up_self]
  have nb : ∀ {B s d : Nat}, 1 ≤ B → hB (fun d s => if d = e then 0 else f d s) (fun d s => if d = e then 0 else g d s) B s d → d ≠ e ∧ hB f g B s d := by
    intro B s d h1 z
    by_cases q : d = e
    · have := z.1
      simp only [q, if_true] at this
      omega
    · refine ⟨q, ?_⟩
      unfold hB at z ⊢
      simpa [q] using z
  have nl : ∀ {d : Nat}, lbd (fun d s => if d = e then 0 else f d s) (fun d s => if d = e then 0 else g d s) d → lbd f g d := by
    intro d z
    unfold lbd wh at z ⊢
    by_cases q : d = e
    · simp [q] at z
    · simpa [q] using z
  refine ⟨_, _, ⟨LI_wipe h1 hv, ?_, LT_ar h3 eq4 (fun d z => ⟨((hv d).mp z.1).1, (nb h1.2.1 z.2).2⟩), fun z => LT_ar (h4 z) eq4 (fun d z => ⟨((hv d).mp z.1).1, nl z.2⟩), h5, h6⟩, fun B p d q z => ?_⟩
  · intro d s hd hs
    obtain ⟨k1, k2, k3, k4⟩ := h2 d s hd hs
    have hr := rh_lt (sw := sw) hs
    by_cases q : d = e
    · subst q
      simp only [if_true]
      rw [ar _ (by omega), ar _ (by omega), pk_us, pk_us, cI_0]
      rcases (show s = 0 ∨ s = 1 by omega) with rfl | rfl
      · rw [pk_un (show 2 * d + 0 ≠ 2 * d + 1 by omega), pk_un (show 2 * d + 0 ≠ 2 * d + 1 by omega)]; exact ⟨pk_us, pk_us, rfl, rfl⟩
      · rw [pk_us, pk_us]; exact ⟨rfl, rfl, rfl, rfl⟩
    · simp only [if_neg q]
      rw [ar _ (by omega), ar _ (by omega), pk_un q, pk_un q, pk_un (show 2 * d + s ≠ 2 * e + 1 by omega), pk_un (show 2 * d + s ≠ 2 * e by omega), pk_un (show 2 * d + s ≠ 2 * e + 1 by omega), pk_un (show 2 * d + s ≠ 2 * e by omega)]
      exact ⟨k1, k2, k3, k4⟩
  · unfold hB at z ⊢
    simpa [q] using z
/-- a new disk in the place of a lost one -/
theorem RX_add (h : RX r lv mu L fF fS fP fY fT off sw la B p f g tb tl yb yl) {e : Nat} (he : lv e = false) (hv : ∀ d, lv' d = true ↔ (lv d = true ∨ d = e)) (hm : mu' e = 0) (hm2 : ∀ d, d ≠ e → mu' d = mu d) : RX r lv' mu' L fF fS fP fY fT off sw la B p f g tb tl yb yl := by
  have hl := fun d => lbd_lv (d := d) h
  obtain ⟨h1, h2, h3, h4, h5, h6⟩ := h
  have hz := h1.2.2.2.2.1
  refine ⟨LI_add h1 he hv hm hm2, h2, LT_ar h3 (fun _ _ => rfl) (fun d z => ?_), fun y => LT_ar (h4 y) (fun _ _ => rfl) (fun d z => ⟨hl d z.2, z.2⟩), h5, h6⟩
  refine ⟨?_, z.2⟩
  rcases (hv d).mp z.1 with q | q
  · exact q
  · have := z.2.1
    rw [q, (hz e p he).1] at this
    have := h1.2.1
    omega
theorem RX_mu (h : RX r lv mu L fF fS fP fY fT off sw la B p f g tb tl yb yl) (e : ∀ d, lv d = true → mu' d = mu d) : RX r lv mu' L fF fS fP fY fT off sw la B p f g tb tl yb yl := ⟨LI_mu h.1 e, h.2⟩
end AGN
