/-! the calls, one after the other: first those that change little -/
def EQ (k : Nat) (A : SS × Int32) (B : MT × Int32) : Prop := A.2 = B.2 ∧ Rel (k + 1) A.1 B.1
theorem ifb {Q : Prop} [Decidable Q] {α : Type} {A B : α} : (if bI (decide Q) = 0 then A else B) = if Q then B else A := by
  by_cases q : Q
  · rw [if_pos q, decide_eq_true q, if_neg (by decide)]
  · rw [if_neg q, decide_eq_false q, if_pos (by decide)]
section SM1
variable {k n r : Nat} {P P' : PP} {G J G' J' : GG} {L L' : LL} {vT vn vr vo vl vb vo' vl' vb' : Int32} {fN fK fW fL fM fE fR fF fS fP fY fT fJ fI : FF} {mu mu' : Nat → Nat} {on jm on' jm' : Bool} {tk tj w wf bs la p9 ct pc : Nat} {a b : Int32}
theorem eq_mk (h : RR (k + 1) P G J L vn vr vo vl vb fN fK fW fL fM fR fF fS fP fY fT fJ fI n r mu on jm tk tj) (e : a = b) : EQ k ((P, G, J, L), a) ((vT, vn, vr, vo, vl, vb, fN, fK, fW, fL, fM, fE, fR, fF, fS, fP, fY, fT, fJ, fI), b) := ⟨e, n, r, mu, on, jm, tk, tj, h⟩
theorem eq_same (h : RR k P G J L vn vr vo vl vb fN fK fW fL fM fR fF fS fP fY fT fJ fI n r mu on jm tk tj) (e : a = b) : EQ k ((P, G, J, L), a) ((0, vn, vr, vo, vl, vb, fN, fK, fW, fL, fM, fE, fR, fF, fS, fP, fY, fT, fJ, fI), b) := eq_mk (RR_le h) e
theorem RR_1 (h : RR k P G J L vn vr vo vl vb fN fK fW fL fM fR fF fS fP fY fT fJ fI n r mu true jm tk tj) : ¬ P.2.2.1 = 0 ∧ vo = 0 := by
  have := h.2.2.2.2.2.2.2.2.1 rfl
  exact ⟨by rw [this.1]; decide, this.2⟩
theorem RR_0 (h : RR k P G J L vn vr vo vl vb fN fK fW fL fM fR fF fS fP fY fT fJ fI n r mu false jm tk tj) : P.2.2.1 = 0 ∧ ¬ vo = 0 := by
  have := h.2.2.2.2.2.2.2.2.2.1 rfl
  exact ⟨this.1, by rw [this.2]; decide⟩
theorem fW_hi (h : GR n r on (pKp P) G tk fN fK fW) {b : Nat} (hb : (n - 2) * (r - 6) ≤ b) : fW b = 0 := by
  obtain ⟨g1, g2, g3, g4, g5, g6, _⟩ := h
  rcases g5 b with z | z
  · exact z
  · obtain ⟨j, hj, e⟩ := (g6 b).mp z
    have := (g4.2 j hj).1
    omega
theorem fill_0 (h : GR n r on (pKp P) G tk fN fK fW) {m : Nat} (hm : (n - 2) * (r - 6) ≤ m) (b : Nat) : fill0 fW 0 m b = 0 := by
  rw [fill0_at]
  by_cases q : b < m
  · rw [if_pos q]
  · rw [if_neg q]; exact fW_hi h (by omega)
theorem RM_off (h : RM k n r true jm mu L vl vb fL fF fS fP fY fT) : RM k n r false jm mu L vl vb fL fF fS fP fY fT := by
  obtain ⟨off, sw, la, B, p, f, g, tb, tl, yb, yl, h1, h2, h3, h4, h5, h6⟩ := h
  obtain ⟨c1, c2, c3⟩ := h5 rfl
  have hp := h1.1.1
  refine ⟨off, sw, la, B, p, f, g, tb, tl, yb, yl, h1, h2, h3, h4, (fun z => absurd z (by decide)), fun _ => ⟨?_, Or.inl c2⟩⟩
  rw [c3]
  rcases (show rh sw p = 0 ∨ rh sw p = 1 by have := rh_lt (sw := sw) (s := p) (by omega); omega) with z | z
  · rw [z]; exact Or.inl rfl
  · rw [z]; exact Or.inr rfl
/-- power off -/
theorem RR_off (h : RR k P G J L vn vr vo vl vb fN fK fW fL fM fR fF fS fP fY fT fJ fI n r mu true jm tk tj) : RR k (pPow 0 P) (gClear G) J L vn vr 1 vl vb fN fK (fill0 fW 0 204) fL fM fR fF fS fP fY fT fJ fI n r mu false jm 0 tj := by
  obtain ⟨a1, a2, a3, a4, a5, a6, a7, a8, a9, a10, a11, a12, a13, a14, a15, a16⟩ := h
  exact ⟨a1, a2, a3, a4, a5, a6, a7, a8, (fun z => absurd z (by decide)), fun _ => ⟨rfl, rfl⟩, a11, a12, RM_off a13, GR_none (GI_clear a14.2.2.1) rfl (fill_0 a14 (blk_le a3 a6)) a14.1 a14.2.1 (fun z => absurd z (by decide)), a15, a16⟩
theorem eq_off (h : RR k P G J L vn vr vo vl vb fN fK fW fL fM fR fF fS fP fY fT fJ fI n r mu true jm tk tj) (e : a = b) : EQ k ((pPow 0 P, gClear G, J, L), a) ((0, vn, vr, 1, vl, vb, fN, fK, fill0 fW 0 204, fL, fM, fE, fR, fF, fS, fP, fY, fT, fJ, fI), b) := eq_mk (RR_le (RR_off h)) e
theorem c_check (h : RR k P G J L vn vr vo vl vb fN fK fW fL fM fR fF fS fP fY fT fJ fI n r mu on jm tk tj) : EQ k (d_check P G J L) (m_check vT vn vr vo vl vb fN fK fW fL fM fE fR fF fS fP fY fT fJ fI) := by
  unfold d_check m_check
  cases on with
  | true => rw [if_neg (RR_1 h).1, if_pos (RR_1 h).2]; exact eq_same h rfl
  | false => rw [if_pos (RR_0 h).1, if_neg (RR_0 h).2]; exact eq_same h rfl
theorem c_fail (h : RR k P G J L vn vr vo vl vb fN fK fW fL fM fR fF fS fP fY fT fJ fI n r mu on jm tk tj) : EQ k (d_fail P G J L) (m_fail vT vn vr vo vl vb fN fK fW fL fM fE fR fF fS fP fY fT fJ fI) := by
  unfold d_fail m_fail
  cases on with
  | true => rw [if_neg (RR_1 h).1, if_pos (RR_1 h).2]; exact eq_off h rfl
  | false => rw [if_pos (RR_0 h).1, if_neg (RR_0 h).2]; exact eq_same h rfl
theorem c_gone (h : RR k P G J L vn vr vo vl vb fN fK fW fL fM fR fF fS fP fY fT fJ fI n r mu on jm tk tj) (x : Int32) : EQ k (d_gone P G J L n x) (m_gone vT vn vr vo vl vb fN fK fW fL fM fE fR fF fS fP fY fT fJ fI n x) := by
  obtain ⟨a1, a2, a3, a4, a5, a6, a7, a8, a9, a10, a11, a12, a13, a14, a15, a16⟩ := id h
  unfold d_gone m_gone
  rw [ifb]
  by_cases q1 : x < 2
  · rw [if_pos q1, if_neg (fun z => z.1 q1)]; exact eq_same h rfl
  · rw [if_neg q1]
    by_cases q2 : x < vr
    · have e2 : ¬ P.2.1 ≤ x := by rw [a4, ← a8]; exact Int32.not_le.mpr q2
      rw [if_pos q2, if_pos ⟨q1, e2⟩]
      obtain ⟨e, b1, b2⟩ := rw_t q1 q2 a8 (by omega)
      refine eq_same h ?_
      generalize x.toNatClampNeg = τ at e b1 b2 ⊢
      rw [e, goneIn_eq a11 (by omega)]
    · have e2 : P.2.1 ≤ x := by rw [a4, ← a8]; exact Int32.not_lt.mp q2
      rw [if_neg q2, if_neg (fun z => z.2 e2)]; exact eq_same h rfl
theorem isd (hx : P.1 = nI n) (hv : vn = nI n) {d : Int32} : (¬ d < 0 ∧ ¬ P.1 ≤ d) ↔ ¬ (d < 0 ∨ ¬ d < vn) := by
  rw [hx, ← hv, not_or, Int32.not_le, Classical.not_not]
theorem c_status (h : RR k P G J L vn vr vo vl vb fN fK fW fL fM fR fF fS fP fY fT fJ fI n r mu on jm tk tj) (d : Int32) : EQ k (d_status P G J L n d) (m_status vT vn vr vo vl vb fN fK fW fL fM fE fR fF fS fP fY fT fJ fI d) := by
  obtain ⟨a1, a2, a3, a4, a5, a6, a7, a8, a9, a10, a11, a12, a13, a14, a15, a16⟩ := id h
  unfold d_status m_status
  rw [ifb, ifb]
  have ei := isd (d := d) a1 a7
  by_cases q : d < 0 ∨ ¬ d < vn
  · rw [if_pos q, if_neg (fun z => ei.mp z q)]; exact eq_same h rfl
  · rw [if_neg q, if_pos (ei.mpr q)]
    obtain ⟨e, b1⟩ := isD (decide_eq_true (ei.mpr q)) a1 (by omega)
    rcases (a11 _ b1).1 with ⟨c1, c2, c3, c4⟩ | ⟨c1, c2⟩
    · rw [if_pos c1]; exact eq_same h (by rw [show P.2.2.2.1 d.toNatClampNeg = _ from c2, c3])
    · rw [if_neg (by rw [c1]; decide)]; exact eq_same h c2
theorem c_forget (h : RR k P G J L vn vr vo vl vb fN fK fW fL fM fR fF fS fP fY fT fJ fI n r mu on jm tk tj) : EQ k (d_forget P G J L) (m_forget vT vn vr vo vl vb fN fK fW fL fM fE fR fF fS fP fY fT fJ fI n r) := by
  unfold d_forget m_forget
  cases on with
  | true =>
    rw [if_neg (RR_1 h).1, if_pos (RR_1 h).2]
    obtain ⟨a1, a2, a3, a4, a5, a6, a7, a8, a9, a10, a11, a12, a13, a14, a15, a16⟩ := RR_le h
    have hN := blk_le a3 a6
    refine eq_mk (n := n) (r := r) (mu := mu) (on := true) (jm := jm) (tk := 0) (tj := tj) ⟨a1, a2, a3, a4, a5, a6, a7, a8, a9, a10, a11, a12, a13, GR_none (GI_clear a14.2.2.1) rfl (fill_0 a14 (Nat.le_refl _)) a14.1 a14.2.1 (fun _ x hx => ?_), a15, a16⟩ ?_
    · rw [mAll_at, if_pos hx, fits_K a14 (by generalize (n - 2) * (r - 6) = N at hx hN; omega)]
    · rw [a14.2.2.2.2.2.2.1]; exact a14.2.2.1.1
  | false => rw [if_pos (RR_0 h).1, if_neg (RR_0 h).2]; exact eq_same h rfl
end SM1
