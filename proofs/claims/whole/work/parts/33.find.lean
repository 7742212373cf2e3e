/-! who has which label; the label that counts -/
def a0H (f g : HH) (d : Nat) : Nat := if f d 0 = g d 0 then f d 0 else 0
def aHas (f g : HH) (d : Nat) : Nat := if f d 1 = g d 1 ∧ a0H f g d < f d 1 then f d 1 else a0H f g d
theorem aHas_wh {f g : HH} {d s : Nat} (hs : s < 2) (h : wh f g d s) : f d s ≤ aHas f g d := by
  unfold aHas
  obtain ⟨h1, h2⟩ := h
  rcases (show s = 0 ∨ s = 1 by omega) with rfl | rfl
  · have e : a0H f g d = f d 0 := if_pos h1
    rw [e]; split
    · rename_i q; omega
    · exact Nat.le_refl _
  · split
    · exact Nat.le_refl _
    · rename_i q
      exact Nat.not_lt.mp (fun z => q ⟨h1, z⟩)
theorem aHas_ex {f g : HH} {d : Nat} (h : ¬ aHas f g d = 0) : ∃ s, s < 2 ∧ wh f g d s ∧ f d s = aHas f g d := by
  unfold aHas at h ⊢
  by_cases q : f d 1 = g d 1 ∧ a0H f g d < f d 1
  · rw [if_pos q]
    exact ⟨1, by omega, ⟨q.1, by omega⟩, rfl⟩
  · rw [if_neg q] at h ⊢
    unfold a0H at h ⊢
    by_cases z : f d 0 = g d 0
    · rw [if_pos z] at h ⊢
      exact ⟨0, by omega, ⟨z, h⟩, rfl⟩
    · rw [if_neg z] at h
      exact absurd rfl h
theorem aHas_lt {f g : HH} {d b : Nat} (h : ∀ s, f d s < b) : aHas f g d < b := by
  have h0 := h 0
  have h1 := h 1
  have h2 : a0H f g d < b := by
    unfold a0H
    by_cases q : f d 0 = g d 0
    · rw [if_pos q]; exact h0
    · rw [if_neg q]; omega
  unfold aHas
  by_cases q : f d 1 = g d 1 ∧ a0H f g d < f d 1
  · rw [if_pos q]; exact h1
  · rw [if_neg q]; exact h2
theorem aHas_lbd {f g : HH} {d : Nat} : ¬ aHas f g d = 0 ↔ lbd f g d := by
  constructor
  · intro h
    obtain ⟨s, hs, hw, _⟩ := aHas_ex h
    rcases (show s = 0 ∨ s = 1 by omega) with rfl | rfl
    · exact Or.inl hw
    · exact Or.inr hw
  · rintro (h | h)
    · have := aHas_wh (by omega) h; have := h.2; omega
    · have := aHas_wh (by omega) h; have := h.2; omega
theorem nI_lt' {a b : Nat} (ha : a < 2 ^ 31) (hb : b < 2 ^ 31) : nI a < nI b ↔ a < b := ⟨fun h => Nat.not_le.mp (fun z => nI_nlt z ha h), fun h => nI_lt h hb⟩
theorem nI_le' {a b : Nat} (ha : a < 2 ^ 31) (hb : b < 2 ^ 31) : nI a ≤ nI b ↔ a ≤ b := by
  rw [← Int32.not_lt, nI_lt' hb ha]; omega
section FND
variable {off sw : Nat} {L : LL} {fF fS fL : FF} {f g : HH}
theorem mHas_eq (h : LH off sw L fF fS f g) (hb : ∀ d s, f d s + off < 2 ^ 31 ∧ g d s + off < 2 ^ 31) {d : Nat} (hd : d < 8) (hL : fL d = 0) : mHas fL fF fS d = nI (aHas f g d) := by
  have h0 := h d 0 hd (by omega)
  have h1 := h d 1 hd (by omega)
  have b0 := hb d 0
  have b1 := hb d 1
  have e0 : mHas1 fF fS (2 * d) 0 = nI (a0H f g d) := by
    unfold mHas1 a0H
    rw [show fF (2 * d) = nI (f d 0) from h0.1, show fS (2 * d) = nI (g d 0) from h0.2.1]
    have z1 : (nI (f d 0) = nI (g d 0)) ↔ f d 0 = g d 0 := nI_eq (by omega) (by omega)
    have z2 : ((0 : Int32) < nI (f d 0)) ↔ 0 < f d 0 := nI_lt' (a := 0) (by omega) (by omega)
    simp only [z1, z2]
    by_cases q : f d 0 = g d 0
    · rw [if_pos q]
      by_cases z : 0 < f d 0
      · rw [if_pos ⟨q, z⟩]
      · rw [if_neg (fun y => z y.2), show f d 0 = 0 by omega]; rfl
    · rw [if_neg q, if_neg (fun y => q y.1)]; rfl
  unfold mHas
  rw [if_pos hL, e0]
  have hb2 : a0H f g d < 2 ^ 31 := by unfold a0H; split <;> omega
  unfold mHas1 aHas
  rw [h1.1, h1.2.1]
  have z1 : (nI (f d 1) = nI (g d 1)) ↔ f d 1 = g d 1 := nI_eq (by omega) (by omega)
  have z2 : (nI (a0H f g d) < nI (f d 1)) ↔ a0H f g d < f d 1 := nI_lt' hb2 (by omega)
  simp only [z1, z2]
  split <;> rfl
theorem lHas_eq (h : LH off sw L fF fS f g) (hb : ∀ d s, f d s + off < 2 ^ 31 ∧ g d s + off < 2 ^ 31) {d s : Nat} (hd : d < 8) (hs : s < 2) : lHas (rh sw s) d L = true ↔ wh f g d s := by
  have h1 := h d s hd hs
  have b1 := hb d s
  unfold lHas wh
  rw [h1.2.2.1, h1.2.2.2, Bool.and_eq_true, decide_eq_true_eq, decide_eq_true_eq, cI_z b1.1, cI_inj b1.1 b1.2]
  exact And.comm
theorem lSome_eq (h : LH off sw L fF fS f g) (hb : ∀ d s, f d s + off < 2 ^ 31 ∧ g d s + off < 2 ^ 31) {d : Nat} (hd : d < 8) : lSome d L = true ↔ lbd f g d := by
  have a0 := lHas_eq h hb hd (show 0 < 2 by omega)
  have a1 := lHas_eq h hb hd (show 1 < 2 by omega)
  unfold lSome lbd
  rw [Bool.or_eq_true, ← a0, ← a1]
  unfold rh
  split
  · exact Iff.rfl
  · exact Or.comm
theorem lScan_ge {w : Nat} {x : Int32 × Int32} : ∀ m, x.1 ≤ (lScan L w m x).1 ∧ ∀ d, d < m → lHas w d L = true → L.2 w d ≤ (lScan L w m x).1
  | 0 => ⟨Int32.le_refl _, fun d hd => absurd hd (by omega)⟩
  | m + 1 => by
    obtain ⟨i1, i2⟩ := lScan_ge (w := w) (x := x) m
    rw [lScan]
    split
    · rename_i q
      have hle := Int32.le_of_lt q.2
      refine ⟨Int32.le_trans i1 hle, fun d hd hh => ?_⟩
      rcases Nat.lt_or_ge d m with z | z
      · exact Int32.le_trans (i2 d z hh) hle
      · rw [show d = m by omega]; exact Int32.le_refl _
    · rename_i q
      refine ⟨i1, fun d hd hh => ?_⟩
      rcases Nat.lt_or_ge d m with z | z
      · exact i2 d z hh
      · have e : d = m := by omega
        subst e
        exact Int32.not_lt.mp (fun y => q ⟨hh, y⟩)
theorem lScan_ex {w : Nat} {x : Int32 × Int32} : ∀ m, lScan L w m x = x ∨ ∃ d, d < m ∧ lHas w d L = true ∧ lScan L w m x = (L.2 w d, nI w)
  | 0 => Or.inl rfl
  | m + 1 => by
    rw [lScan]
    split
    · rename_i q
      exact Or.inr ⟨m, by omega, q.1, rfl⟩
    · rcases lScan_ex (w := w) (x := x) m with z | ⟨d, h1, h2, h3⟩
      · exact Or.inl z
      · exact Or.inr ⟨d, by omega, h2, h3⟩
theorem mMax_ge {n : Nat} : ∀ m, ∀ d, d < m → mHas fL fF fS d ≤ mMax fL fF fS m
  | 0, d, hd => absurd hd (by omega)
  | m + 1, d, hd => by
    rw [mMax]
    rcases Nat.lt_or_ge d m with z | z
    · have i := mMax_ge (n := n) m d z
      split
      · exact i
      · rename_i q
        exact Int32.le_trans i (Int32.le_of_lt (Int32.not_le.mp q))
    · have e : d = m := by omega
      subst e
      split
      · rename_i q; exact q
      · exact Int32.le_refl _
theorem mMax_ex : ∀ m, mMax fL fF fS m = 0 ∨ ∃ d, d < m ∧ mMax fL fF fS m = mHas fL fF fS d
  | 0 => Or.inl rfl
  | m + 1 => by
    rw [mMax]
    split
    · rcases mMax_ex m with z | ⟨d, h1, h2⟩
      · exact Or.inl z
      · exact Or.inr ⟨d, by omega, h2⟩
    · exact Or.inr ⟨m, by omega, rfl⟩
/-- the label v is the latest that a disk has, all in row s -/
theorem find_is {n v s : Nat} {lv : Nat → Bool} (h : LH off sw L fF fS f g) (hb : ∀ d s, f d s + off < 2 ^ 31 ∧ g d s + off < 2 ^ 31) (hn : n ≤ 8) (hlv : ∀ d, lv d = true ↔ (d < n ∧ fL d = 0)) (hz : ∀ d s, lv d = false → f d s = 0 ∧ g d s = 0)
    (hs : s < 2) (hex : ∃ d, lv d = true ∧ wh f g d s ∧ f d s = v) (hmx : ∀ d t, lv d = true → t < 2 → wh f g d t → f d t < v ∨ (f d t = v ∧ t = s)) :
    mMax fL fF fS n = nI v ∧ (lFind L).1 1 = nI (rh sw s) := by
  obtain ⟨d0, l0, w0, e0⟩ := hex
  have n0 := (hlv d0).mp l0
  have hv : 1 ≤ v := by have := w0.2; omega
  have vb : v + off < 2 ^ 31 := by rw [← e0]; exact (hb d0 s).1
  have lw : ∀ d t, wh f g d t → lv d = true := fun d t z => by
    cases q : lv d with
    | true => rfl
    | false => exact absurd (hz d t q).1 z.2
  constructor
  · have a1 := mMax_ge (fL := fL) (fF := fF) (fS := fS) (n := n) n d0 n0.1
    rw [mHas_eq h hb (by omega) n0.2] at a1
    have ab : aHas f g d0 < 2 ^ 31 := aHas_lt (fun s => by have := (hb d0 s).1; omega)
    have a2 : v ≤ aHas f g d0 := by rw [← e0]; exact aHas_wh hs w0
    rcases mMax_ex (fL := fL) (fF := fF) (fS := fS) n with z | ⟨d, hd, z⟩
    · rw [z] at a1
      exact absurd a1 (nI_nle (by omega) ab)
    · by_cases q : fL d = 0
      · rw [z, mHas_eq h hb (by omega) q] at a1 ⊢
        have ab2 : aHas f g d < 2 ^ 31 := aHas_lt (fun s => by have := (hb d s).1; omega)
        rw [nI_le' ab ab2] at a1
        obtain ⟨t, ht, hw, et⟩ := aHas_ex (f := f) (g := g) (d := d) (by omega)
        have := hmx d t (lw d t hw) ht hw
        rw [show aHas f g d = v by omega]
      · rw [z] at a1
        unfold mHas at a1
        rw [if_neg q] at a1
        exact absurd a1 (nI_nle (by omega) ab)
  · have e9 : (lFind L).1 1 = (lScan L 1 8 (lScan L 0 8 (0, L.1 1))).2 := by
      show va_up L.1 1 (lScan L 1 8 (lScan L 0 8 (0, L.1 1))).2 1 = _
      exact va_up_self _ _ _
    rw [e9]
    have hw0 : lHas (rh sw s) d0 L = true := (lHas_eq h hb (by omega) hs).mpr w0
    have hv0 : L.2 (rh sw s) d0 = nI (v + off) := by rw [(h d0 s (by omega) hs).2.2.1, e0, cI_p hv]
    obtain ⟨p1, p2⟩ := lScan_ge (L := L) (w := 0) (x := (0, L.1 1)) 8
    obtain ⟨q1, q2⟩ := lScan_ge (L := L) (w := 1) (x := lScan L 0 8 (0, L.1 1)) 8
    have top : nI (v + off) ≤ (lScan L 1 8 (lScan L 0 8 (0, L.1 1))).1 := by
      rcases (show rh sw s = 0 ∨ rh sw s = 1 by have := rh_lt (sw := sw) hs; omega) with z | z
      · rw [z] at hw0 hv0
        rw [← hv0]
        exact Int32.le_trans (p2 d0 (by omega) hw0) q1
      · rw [z] at hw0 hv0
        rw [← hv0]
        exact q2 d0 (by omega) hw0
    have fin : ∀ (w d : Nat), w < 2 → d < 8 → lHas w d L = true → nI (v + off) ≤ L.2 w d → nI w = nI (rh sw s) := fun w d hw hd hh hle => by
      have e := rh_rh (sw := sw) hw
      rw [← e] at hh hle
      have hw' := (lHas_eq h hb hd (rh_lt hw)).mp hh
      have h1 : 1 ≤ f d (rh sw w) := by have := hw'.2; omega
      rw [(h d (rh sw w) hd (rh_lt hw)).2.2.1, cI_p h1, nI_le' vb (hb d _).1] at hle
      rcases hmx d (rh sw w) (lw d _ hw') (rh_lt hw) hw' with y | y
      · omega
      · rw [← y.2, e]
    rcases lScan_ex (L := L) (w := 1) (x := lScan L 0 8 (0, L.1 1)) 8 with z | ⟨d, hd, hh, z⟩
    · rw [z] at top ⊢
      rcases lScan_ex (L := L) (w := 0) (x := (0, L.1 1)) 8 with y | ⟨d, hd, hh, y⟩
      · rw [y] at top
        exact absurd top (nI_nle (by omega) vb)
      · rw [y] at top ⊢
        exact fin 0 d (by omega) hd hh top
    · rw [z] at top ⊢
      exact fin 1 d (by omega) hd hh top
end FND
