/-! labels, as numbers of labels on halves of units: f the first halves, g the last, by disk and row -/
abbrev HH : Type := Nat → Nat → Nat
def wh (f g : HH) (d s : Nat) : Prop := f d s = g d s ∧ ¬ f d s = 0
def hB (f g : HH) (B p d : Nat) : Prop := f d p = B ∧ g d p = B
def lbd (f g : HH) (d : Nat) : Prop := wh f g d 0 ∨ wh f g d 1
def wr (f : HH) (x p : Nat) (c ha : Nat → Bool) : HH := fun d s => if c d = true ∧ s = p ∧ ha d = true then x else f d s
theorem wr_row {f : HH} {x p : Nat} {c ha : Nat → Bool} {d s : Nat} (h : s ≠ p) : wr f x p c ha d s = f d s := if_neg (fun q => h q.2.1)
theorem wr_no {f : HH} {x p : Nat} {c ha : Nat → Bool} {d s : Nat} (h : c d = false) : wr f x p c ha d s = f d s := if_neg (fun q => by rw [h] at q; cases q.1)
theorem wr_t {f : HH} {x p : Nat} {c ha : Nat → Bool} {d : Nat} (h : c d = true) (h2 : ha d = true) : wr f x p c ha d p = x := if_pos ⟨h, rfl, h2⟩
theorem wr_f {f : HH} {x p : Nat} {c ha : Nat → Bool} {d s : Nat} (h2 : ha d = false) : wr f x p c ha d s = f d s := if_neg (fun q => by rw [h2] at q; cases q.2.2)
theorem wh_wr {f g : HH} {x p : Nat} {c ha hb : Nat → Bool} {d : Nat} (h : wh (wr f x p c ha) (wr g x p c hb) d p) : (c d = true ∧ wr f x p c ha d p = x) ∨ (wr f x p c ha d p = f d p ∧ wh f g d p) := by
  obtain ⟨h1, h2⟩ := h
  cases hc : c d with
  | false =>
    rw [wr_no hc] at h1 h2 ⊢
    rw [wr_no hc] at h1
    exact Or.inr ⟨rfl, h1, h2⟩
  | true =>
    cases e1 : ha d with
    | true => exact Or.inl ⟨rfl, wr_t hc e1⟩
    | false =>
      cases e2 : hb d with
      | true => rw [wr_t hc e2] at h1; exact Or.inl ⟨rfl, h1⟩
      | false =>
        rw [wr_f e1] at h1 h2 ⊢
        rw [wr_f e2] at h1
        exact Or.inr ⟨rfl, h1, h2⟩
theorem wh_row {f g : HH} {x p : Nat} {c ha hb : Nat → Bool} {d s : Nat} (hs : s ≠ p) : wh (wr f x p c ha) (wr g x p c hb) d s ↔ wh f g d s := by
  unfold wh; rw [wr_row hs, wr_row hs]
theorem hB_row {f g : HH} {x p B s : Nat} {c ha hb : Nat → Bool} {d : Nat} (hs : s ≠ p) : hB (wr f x p c ha) (wr g x p c hb) B s d ↔ hB f g B s d := by
  unfold hB; rw [wr_row hs, wr_row hs]
def LI (r : Nat) (lv : Nat → Bool) (mu : Nat → Nat) (la B p : Nat) (f g : HH) (tb tl : Nat → Nat) : Prop :=
  (p = 0 ∨ p = 1) ∧ 1 ≤ B ∧ B ≤ la ∧ (∀ d s, f d s ≤ la ∧ g d s ≤ la) ∧ (∀ d s, lv d = false → f d s = 0 ∧ g d s = 0) ∧
  (∀ d, lv d = true → hB f g B p d ∨ (¬ wh f g d p ∧ mu d = 0)) ∧
  (∀ d, lv d = true → wh f g d (1 - p) → (f d (1 - p) = la ∧ B < la) ∨ (f d (1 - p) < B ∧ hB f g B p d)) ∧
  (∀ d, lv d = true → hB f g B p d → tb d = mu d) ∧
  (B < la → ∀ d, lv d = true → lbd f g d → mu d ≤ tl d ∧ tl d ≤ r)
/-- nobody has a later label than B -/
def stl (lv : Nat → Bool) (B p : Nat) (f g : HH) : Prop := ∀ d, lv d = true → wh f g d (1 - p) → f d (1 - p) < B ∧ hB f g B p d
section LAB
variable {r : Nat} {lv : Nat → Bool} {mu mu' : Nat → Nat} {la B p : Nat} {f g : HH} {tb tl tb' tl' : Nat → Nat} {ha hb : Nat → Bool}
theorem LI_stl (h : LI r lv mu la B p f g tb tl) (e : la = B) : stl lv B p f g := by
  obtain ⟨h1, h2, h3, h4, h5, h6, h7, h8, h9⟩ := h
  intro d hd hw
  rcases h7 d hd hw with ⟨_, q⟩ | q
  · omega
  · exact q
theorem LI_mu (h : LI r lv mu la B p f g tb tl) (e : ∀ d, lv d = true → mu' d = mu d) : LI r lv mu' la B p f g tb tl := by
  obtain ⟨h1, h2, h3, h4, h5, h6, h7, h8, h9⟩ := h
  exact ⟨h1, h2, h3, h4, h5, fun d hd => by rw [e d hd]; exact h6 d hd, h7, fun d hd => by rw [e d hd]; exact h8 d hd, fun q d hd => by rw [e d hd]; exact h9 q d hd⟩
theorem wr_le {x y p : Nat} {c ha : Nat → Bool} (h : ∀ d s, f d s ≤ y) (hx : y ≤ x) (d s : Nat) : wr f x p c ha d s ≤ x := by
  unfold wr; split
  · exact Nat.le_refl x
  · exact Nat.le_trans (h d s) hx
/-- a new label, some of it down -/
theorem LI_part (h : LI r lv mu la B p f g tb tl) (hs : stl lv B p f g) (ht : ∀ d, lv d = true → mu d ≤ tl' d ∧ tl' d ≤ r) : LI r lv mu (la + 1) B p (wr f (la + 1) (1 - p) lv ha) (wr g (la + 1) (1 - p) lv hb) tb tl' := by
  obtain ⟨h1, h2, h3, h4, h5, h6, h7, h8, h9⟩ := h
  have hp : p ≠ 1 - p := by omega
  refine ⟨h1, h2, by omega, fun d s => ⟨wr_le (fun d s => (h4 d s).1) (by omega) d s, wr_le (fun d s => (h4 d s).2) (by omega) d s⟩, fun d s hd => ?_, fun d hd => ?_, fun d hd hw => ?_, fun d hd hb => ?_, fun _ d hd _ => ht d hd⟩
  · rw [wr_no hd, wr_no hd]; exact h5 d s hd
  · rw [hB_row hp, wh_row hp]; exact h6 d hd
  · rcases wh_wr hw with ⟨_, q⟩ | ⟨q, q2⟩
    · exact Or.inl ⟨q, by omega⟩
    · rw [q, hB_row hp]; exact Or.inr (hs d hd q2)
  · rw [hB_row hp] at hb; exact h8 d hd hb
/-- a new label, all of it down -/
theorem LI_full (h : LI r lv mu la B p f g tb tl) (ha' : ∀ d, ha d = true) (hb' : ∀ d, hb d = true) (ht : ∀ d, lv d = true → tb' d = mu' d) : LI r lv mu' (la + 1) (la + 1) (1 - p) (wr f (la + 1) (1 - p) lv ha) (wr g (la + 1) (1 - p) lv hb) tb' tl' ∧ ∀ d, lv d = true → hB (wr f (la + 1) (1 - p) lv ha) (wr g (la + 1) (1 - p) lv hb) (la + 1) (1 - p) d := by
  obtain ⟨h1, h2, h3, h4, h5, h6, h7, h8, h9⟩ := h
  have hp : p ≠ 1 - p := by omega
  have hpp : 1 - (1 - p) = p := by omega
  have hall : ∀ d, lv d = true → hB (wr f (la + 1) (1 - p) lv ha) (wr g (la + 1) (1 - p) lv hb) (la + 1) (1 - p) d := fun d hd => ⟨wr_t hd (ha' d), wr_t hd (hb' d)⟩
  refine ⟨⟨by omega, by omega, by omega, fun d s => ⟨wr_le (fun d s => (h4 d s).1) (by omega) d s, wr_le (fun d s => (h4 d s).2) (by omega) d s⟩, fun d s hd => ?_, fun d hd => Or.inl (hall d hd), fun d hd hw => ?_, fun d hd _ => ht d hd, fun q => absurd q (by omega)⟩, hall⟩
  · rw [wr_no hd, wr_no hd]; exact h5 d s hd
  · rw [hpp, wh_row hp] at hw
    rw [hpp, wr_row hp]
    refine Or.inr ⟨?_, hall d hd⟩
    rcases h6 d hd with q | ⟨q, _⟩
    · rw [q.1]; omega
    · exact absurd hw q
theorem lbd_p (h1 : p = 0 ∨ p = 1) {d : Nat} : lbd f g d ↔ wh f g d p ∨ wh f g d (1 - p) := by
  unfold lbd
  rcases h1 with rfl | rfl
  · exact Iff.rfl
  · exact Or.comm
/-- the label under way written again, some of it down -/
theorem LI_again (h : LI r lv mu la B p f g tb tl) (hl : B < la) {c : Nat → Bool} (hc : ∀ d, c d = true ↔ (lv d = true ∧ lbd f g d)) : LI r lv mu la B p (wr f la (1 - p) c ha) (wr g la (1 - p) c hb) tb tl := by
  obtain ⟨h1, h2, h3, h4, h5, h6, h7, h8, h9⟩ := h
  have hp : p ≠ 1 - p := by omega
  refine ⟨h1, h2, h3, fun d s => ⟨wr_le (fun d s => (h4 d s).1) (by omega) d s, wr_le (fun d s => (h4 d s).2) (by omega) d s⟩, fun d s hd => ?_, fun d hd => ?_, fun d hd hw => ?_, fun d hd hb => ?_, fun q d hd hw => ?_⟩
  · have hcd : c d = false := by
      cases e : c d with
      | false => rfl
      | true => rw [((hc d).mp e).1] at hd; cases hd
    rw [wr_no hcd, wr_no hcd]; exact h5 d s hd
  · rw [hB_row hp, wh_row hp]; exact h6 d hd
  · rcases wh_wr hw with ⟨_, q⟩ | ⟨q, q2⟩
    · exact Or.inl ⟨q, hl⟩
    · rw [q, hB_row hp]; exact h7 d hd q2
  · rw [hB_row hp] at hb; exact h8 d hd hb
  · refine h9 q d hd ?_
    rw [lbd_p h1] at hw ⊢
    rcases hw with z | z
    · rw [wh_row hp] at z; exact Or.inl z
    · rcases wh_wr z with ⟨z1, _⟩ | ⟨_, z2⟩
      · exact (lbd_p h1).mp ((hc d).mp z1).2
      · exact Or.inr z2
/-- the label under way written again, all of it down -/
theorem LI_again_full (h : LI r lv mu la B p f g tb tl) (hl : B < la) {c : Nat → Bool} (hc : ∀ d, c d = true ↔ (lv d = true ∧ lbd f g d)) (ha' : ∀ d, ha d = true) (hb' : ∀ d, hb d = true) (hm : ∀ d, lv d = true → (c d = true → mu' d = tl d) ∧ (c d = false → mu' d = 0)) :
    LI r lv mu' la la (1 - p) (wr f la (1 - p) c ha) (wr g la (1 - p) c hb) tl tl' := by
  obtain ⟨h1, h2, h3, h4, h5, h6, h7, h8, h9⟩ := h
  have hp : p ≠ 1 - p := by omega
  have hpp : 1 - (1 - p) = p := by omega
  refine ⟨by omega, by omega, by omega, fun d s => ⟨wr_le (fun d s => (h4 d s).1) (by omega) d s, wr_le (fun d s => (h4 d s).2) (by omega) d s⟩, fun d s hd => ?_, fun d hd => ?_, fun d hd hw => ?_, fun d hd hw => ?_, fun q => absurd q (by omega)⟩
  · have hcd : c d = false := by
      cases e : c d with
      | false => rfl
      | true => rw [((hc d).mp e).1] at hd; cases hd
    rw [wr_no hcd, wr_no hcd]; exact h5 d s hd
  · cases e : c d with
    | true => exact Or.inl ⟨wr_t e (ha' d), wr_t e (hb' d)⟩
    | false =>
      refine Or.inr ⟨fun z => ?_, (hm d hd).2 e⟩
      unfold wh at z
      rw [wr_no e, wr_no e] at z
      rw [(hc d).mpr ⟨hd, (lbd_p h1).mpr (Or.inr z)⟩] at e; cases e
  · rw [hpp, wh_row hp] at hw
    rw [hpp, wr_row hp]
    have e : c d = true := (hc d).mpr ⟨hd, (lbd_p h1).mpr (Or.inl hw)⟩
    refine Or.inr ⟨?_, wr_t e (ha' d), wr_t e (hb' d)⟩
    rcases h6 d hd with q | ⟨q, _⟩
    · rw [q.1]; exact hl
    · exact absurd hw q
  · cases e : c d with
    | true => exact ((hm d hd).1 e).symm
    | false =>
      unfold hB at hw
      rw [wr_no e, wr_no e] at hw
      rw [(hc d).mpr ⟨hd, (lbd_p h1).mpr (Or.inr ⟨by rw [hw.1, hw.2], by rw [hw.1]; omega⟩)⟩] at e; cases e
/-- who has a label has the one that counts -/
theorem LI_lbd (h : LI r lv mu la B p f g tb tl) (hs : stl lv B p f g) {d : Nat} (hd : lv d = true) (hw : lbd f g d) : hB f g B p d := by
  obtain ⟨h1, h2, h3, h4, h5, h6, h7, h8, h9⟩ := h
  rcases (lbd_p h1).mp hw with q | q
  · rcases h6 d hd with z | z
    · exact z
    · exact absurd q z.1
  · exact (hs d hd q).2
theorem LI_same (h : LI r lv mu la B p f g tb tl) (hs : stl lv B p f g) {c : Nat → Bool} (hc : ∀ d, c d = true ↔ (lv d = true ∧ lbd f g d)) : wr f B p c ha = f ∧ wr g B p c hb = g := by
  constructor
  · funext d s
    unfold wr; split
    · rename_i q
      have z := (hc d).mp q.1
      rw [q.2.1, (LI_lbd h hs z.1 z.2).1]
    · rfl
  · funext d s
    unfold wr; split
    · rename_i q
      have z := (hc d).mp q.1
      rw [q.2.1, (LI_lbd h hs z.1 z.2).2]
    · rfl
/-- a disk is lost -/
theorem LI_wipe (h : LI r lv mu la B p f g tb tl) {e : Nat} {lv' : Nat → Bool} (hv : ∀ d, lv' d = true ↔ (lv d = true ∧ d ≠ e)) : LI r lv' mu la B p (fun d s => if d = e then 0 else f d s) (fun d s => if d = e then 0 else g d s) tb tl := by
  obtain ⟨h1, h2, h3, h4, h5, h6, h7, h8, h9⟩ := h
  have hn : ∀ d, d ≠ e → ∀ s, (fun d s => if d = e then 0 else f d s : HH) d s = f d s ∧ (fun d s => if d = e then 0 else g d s : HH) d s = g d s := fun d hd s => ⟨if_neg hd, if_neg hd⟩
  have w1 : ∀ d, d ≠ e → ∀ s, wh (fun d s => if d = e then 0 else f d s) (fun d s => if d = e then 0 else g d s) d s ↔ wh f g d s := fun d hd s => by unfold wh; rw [(hn d hd s).1, (hn d hd s).2]
  have w2 : ∀ d, d ≠ e → ∀ s, hB (fun d s => if d = e then 0 else f d s) (fun d s => if d = e then 0 else g d s) B s d ↔ hB f g B s d := fun d hd s => by unfold hB; rw [(hn d hd s).1, (hn d hd s).2]
  refine ⟨h1, h2, h3, fun d s => ?_, fun d s hd => ?_, fun d hd => ?_, fun d hd hw => ?_, fun d hd hw => ?_, fun q d hd hw => ?_⟩
  · by_cases q : d = e
    · subst q; simp
    · rw [(hn d q s).1, (hn d q s).2]; exact h4 d s
  · by_cases q : d = e
    · subst q; simp
    · rw [(hn d q s).1, (hn d q s).2]
      refine h5 d s ?_
      cases z : lv d with
      | false => rfl
      | true => rw [(hv d).mpr ⟨z, q⟩] at hd; cases hd
  · obtain ⟨z, q⟩ := (hv d).mp hd
    rw [w2 d q, w1 d q]; exact h6 d z
  · obtain ⟨z, q⟩ := (hv d).mp hd
    rw [w1 d q] at hw
    rw [w2 d q, (hn d q _).1]; exact h7 d z hw
  · obtain ⟨z, q⟩ := (hv d).mp hd
    rw [w2 d q] at hw; exact h8 d z hw
  · obtain ⟨z, q2⟩ := (hv d).mp hd
    unfold lbd at hw
    rw [w1 d q2, w1 d q2] at hw
    exact h9 q d z hw
/-- a lost disk is replaced -/
theorem LI_add (h : LI r lv mu la B p f g tb tl) {e : Nat} (he : lv e = false) {lv' : Nat → Bool} (hv : ∀ d, lv' d = true ↔ (lv d = true ∨ d = e)) (hm : mu' e = 0) (hm2 : ∀ d, d ≠ e → mu' d = mu d) : LI r lv' mu' la B p f g tb tl := by
  obtain ⟨h1, h2, h3, h4, h5, h6, h7, h8, h9⟩ := h
  have ne : ∀ d, lv d = true → d ≠ e := fun d hd z => by rw [z, he] at hd; cases hd
  have z0 := fun s => h5 e s he
  have nw : ∀ s, ¬ wh f g e s := fun s q => q.2 (z0 s).1
  refine ⟨h1, h2, h3, h4, fun d s hd => h5 d s ?_, fun d hd => ?_, fun d hd hw => ?_, fun d hd hw => ?_, fun q d hd hw => ?_⟩
  · cases z : lv d with
    | false => rfl
    | true => rw [(hv d).mpr (Or.inl z)] at hd; cases hd
  · rcases (hv d).mp hd with q | rfl
    · rw [hm2 d (ne d q)]; exact h6 d q
    · exact Or.inr ⟨nw p, hm⟩
  · rcases (hv d).mp hd with q | rfl
    · exact h7 d q hw
    · exact absurd hw (nw _)
  · rcases (hv d).mp hd with q | rfl
    · rw [hm2 d (ne d q)]; exact h8 d q hw
    · have := hw.1; rw [(z0 p).1] at this; omega
  · rcases (hv d).mp hd with z | rfl
    · rw [hm2 d (ne d z)]; exact h9 q d z hw
    · rcases hw with z | z
      · exact absurd z (nw 0)
      · exact absurd z (nw 1)
end LAB
