/-! read, count, rot, scrub, lose, replace -/
theorem c_lt2 {c : Nat} (h : c < 2 ^ 31) : nI c < 2 ↔ c < 2 := nI_lt' (b := 2) h (by omega)
theorem c_eq2 {c : Nat} (h : c < 2 ^ 31) : nI c = 2 ↔ c = 2 := nI_eq (b := 2) h (by omega)
theorem c_le0 {c : Nat} (h : c < 2 ^ 31) : nI c ≤ 0 ↔ c ≤ 0 := nI_le' (b := 0) h (by omega)
section SM2
variable {k n r : Nat} {P P' : PP} {G J G' J' : GG} {L L' : LL} {vT vn vr vo vl vb vo' vl' vb' : Int32} {fN fK fW fL fM fE fR fF fS fP fY fT fJ fI : FF} {mu mu' : Nat → Nat} {on jm on' jm' : Bool} {tk tj w wf bs la p9 ct pc : Nat} {a b : Int32}
theorem blk_find (h : GR n r on (pKp P) G tk fN fK fW) {β : Nat} (hβ : β < 204) : (∃ j, gFind G.2.2.1 (nI β) tk = some j ∧ j < tk ∧ jBlk G j = β ∧ fW β = 1) ∨ (gFind G.2.2.1 (nI β) tk = none ∧ fW β = 0) := by
  obtain ⟨g1, g2, g3, g4, g5, g6, _⟩ := h
  cases q : gFind G.2.2.1 (nI β) tk with
  | some j =>
    obtain ⟨i1, i2, _⟩ := gFind_spec q
    have b := g3.2.2.2.1 j i1
    rw [b.1, nI_eq (by omega) (by omega)] at i2
    exact Or.inl ⟨j, rfl, i1, i2, (g6 β).mpr ⟨j, i1, i2⟩⟩
  | none =>
    refine Or.inr ⟨rfl, ?_⟩
    rcases g5 β with z | z
    · exact z
    · obtain ⟨j, hj, e⟩ := (g6 β).mp z
      exact absurd (by rw [(g3.2.2.2.1 j hj).1, e]) (gFind_not q j hj)
theorem bl_eq (h : RR k P G J L vn vr vo vl vb fN fK fW fL fM fR fF fS fP fY fT fJ fI n r mu on jm tk tj) : (P.1 - 2) * (P.2.1 - 6) = (vn - 2) * (vr - 6) := by
  obtain ⟨a1, a2, a3, a4, a5, a6, a7, a8, _⟩ := h
  rw [a1, a4, a7, a8]
theorem c_read (h : RR k P G J L vn vr vo vl vb fN fK fW fL fM fR fF fS fP fY fT fJ fI n r mu on jm tk tj) (x t : Int32) : EQ k (d_read P G J L tk x t) (m_read vT vn vr vo vl vb fN fK fW fL fM fE fR fF fS fP fY fT fJ fI x t) := by
  unfold d_read m_read
  cases on with
  | false => rw [if_pos (RR_0 h).1, if_neg (RR_0 h).2]; exact eq_same h rfl
  | true =>
    rw [if_neg (RR_1 h).1, if_pos (RR_1 h).2, ifb, ifb]
    have eb := bl_eq h
    obtain ⟨a1, a2, a3, a4, a5, a6, a7, a8, a9, a10, a11, a12, a13, a14, a15, a16⟩ := id h
    by_cases q : x < 0 ∨ ¬ x < (vn - 2) * (vr - 6)
    · rw [if_pos q, if_neg]
      · exact eq_same h rfl
      · rintro ⟨z1, z2, _⟩
        rcases q with q | q
        · exact z1 q
        · exact z2 (by rw [eb]; exact Int32.not_lt.mp q)
    · rw [if_neg q]
      have q1 : ¬ x < 0 := fun z => q (Or.inl z)
      have q2 : ¬ (P.1 - 2) * (P.2.1 - 6) ≤ x := fun z => q (Or.inr (by rw [← eb]; exact Int32.not_lt.mpr z))
      by_cases q3 : t < 0
      · rw [if_pos q3, if_neg (fun z => z.2.2.1 q3)]; exact eq_same h rfl
      · rw [if_neg q3]
        by_cases q4 : t < 64
        · have q5 : ¬ 64 ≤ t := Int32.not_le.mpr q4
          rw [if_pos q4, if_pos ⟨q1, q2, q3, q5⟩]
          obtain ⟨e1, e2, b1, b2, b3⟩ := isB (decide_eq_true ⟨q1, q2, q3, q5⟩) a1 a4 a2 a3 a5 a6
          generalize x.toNatClampNeg = β at e1 b1 b3 ⊢
          generalize t.toNatClampNeg = α at e2 b2 ⊢
          have gn := a14.2.2.2.2.2.2.2.2.2.1 rfl
          rcases blk_find a14 b3 with ⟨j, z1, z2, z3, z4⟩ | ⟨z1, z2⟩
          · have z5 := a14.2.2.2.2.2.2.2.2.1
            have z6 : oI (gFind G.2.2.1 x tk) = nI j := by rw [e1, z1]; rfl
            rw [if_pos (by rw [z6]; exact Int32.not_lt.mp (nI_nn (by omega)))]
            refine eq_same h ?_
            rw [z6, (idx64 (m := 24) rfl e2 (by omega) b2 (by omega)).2, show j * 64 + α = 64 * j + α by omega, ← gn.1 j z2 α b2, z3]
          · rw [if_neg (by rw [e1, z1]; decide)]
            refine eq_same h ?_
            rw [(idx64 (m := 204) e1 e2 b3 b2 (by omega)).2, gn.2 β b1 z2 α b2, show β * 64 + α = 64 * β + α by omega]
            rw [show P.2.2.2.2.2 (64 * β + α) = fK (64 * β + α) from a14.2.1 _ (by omega)]
        · rw [if_neg q4, if_neg (fun z => z.2.2.2 (Int32.not_lt.mp q4))]; exact eq_same h rfl
theorem c_count (h : RR k P G J L vn vr vo vl vb fN fK fW fL fM fR fF fS fP fY fT fJ fI n r mu on jm tk tj) (x : Int32) : EQ k (d_count P G J L n x) (m_count vT vn vr vo vl vb fN fK fW fL fM fE fR fF fS fP fY fT fJ fI n r x) := by
  unfold d_count m_count
  cases on with
  | false => rw [if_pos (RR_0 h).1, if_neg (RR_0 h).2]; exact eq_same h rfl
  | true =>
    rw [if_neg (RR_1 h).1, if_pos (RR_1 h).2]
    have eb := bl_eq h
    obtain ⟨a1, a2, a3, a4, a5, a6, a7, a8, a9, a10, a11, a12, a13, a14, a15, a16⟩ := id h
    by_cases q0 : x = 0
    · rw [if_pos q0, if_pos q0]; exact eq_same h eb
    · rw [if_neg q0, if_neg q0]
      by_cases q1 : x = 1
      · rw [if_pos q1, if_pos q1]; exact eq_same h (use_eq a14)
      · rw [if_neg q1, if_neg q1]
        by_cases q2 : x = 2
        · rw [if_pos q2, if_pos q2]; exact eq_same h (by rw [a14.2.2.2.2.2.2.1]; exact a14.2.2.1.1)
        · rw [if_neg q2, if_neg q2]
          by_cases q3 : x = 3
          · rw [if_pos q3, if_pos q3]; exact eq_same h (by rw [lost_eq a11 a6])
          · rw [if_neg q3, if_neg q3]
            by_cases q4 : x = 4
            · rw [if_pos q4, if_pos q4]; exact eq_same h (by rw [part_eq a11 a6 a5 a4 a8])
            · rw [if_neg q4, if_neg q4]; exact eq_same h rfl
theorem c_rot (h : RR k P G J L vn vr vo vl vb fN fK fW fL fM fR fF fS fP fY fT fJ fI n r mu on jm tk tj) (d x : Int32) : EQ k (d_rot P G J L n d x) (m_rot vT vn vr vo vl vb fN fK fW fL fM fE fR fF fS fP fY fT fJ fI n d x) := by
  unfold d_rot m_rot
  obtain ⟨a1, a2, a3, a4, a5, a6, a7, a8, a9, a10, a11, a12, a13, a14, a15, a16⟩ := id h
  rw [ifb, ifb, ifb]
  have ei := isd (d := d) a1 a7
  by_cases q : d < 0 ∨ ¬ d < vn
  · rw [if_pos q, if_neg (fun z => ei.mp z q)]; exact eq_same h rfl
  · rw [if_neg q, if_pos (ei.mpr q)]
    obtain ⟨e, b1⟩ := isD (decide_eq_true (ei.mpr q)) a1 (by omega)
    by_cases q1 : x < 2
    · rw [if_pos q1, if_neg (fun z => z.1 q1)]; exact eq_same h rfl
    · rw [if_neg q1]
      by_cases q2 : vr ≤ x
      · rw [if_pos q2, if_neg (fun z => z.2 (by rw [a4, ← a8]; exact q2))]; exact eq_same h rfl
      · rw [if_neg q2, if_pos ⟨q1, by rw [a4, ← a8]; exact q2⟩]
        obtain ⟨e2, b2, b3⟩ := rw_t q1 (Int32.not_le.mp q2) a8 (by omega)
        generalize d.toNatClampNeg = δ at e b1 ⊢
        generalize x.toNatClampNeg = τ at e2 b2 b3 ⊢
        subst e2
        have eg := gone_eq a11 b1 (t := τ) (by omega)
        rw [eg, goneIn_eq a11 (by omega)]
        have hg := a12 τ b2 b3
        by_cases q3 : bI (mGone fL fM fR δ τ) = 0
        · rw [if_pos q3, if_pos q3]
          have l1 := c_lt2 (c := cnt (fun d => mGone fL fM fR d τ) n) (by omega)
          have l2 := c_eq2 (c := cnt (fun d => mGone fL fM fR d τ) n) (by omega)
          by_cases q4 : nI (cnt (fun d => mGone fL fM fR d τ) n) = 2
          · rw [if_pos q4, if_neg (by intro z; have z1 := l1.mp z; have z2 := l2.mp q4; omega)]; exact eq_same h rfl
          · have c2 : cnt (fun d => mGone fL fM fR d τ) n < 2 := by
              have : ¬ cnt (fun d => mGone fL fM fR d τ) n = 2 := fun z => q4 (l2.mpr z)
              omega
            rw [if_neg q4, if_pos (l1.mpr c2)]
            refine eq_mk (n := n) (r := r) (mu := mu) (on := on) (jm := jm) (tk := tk) (tj := tj) ?_ ?_
            · obtain ⟨a1, a2, a3, a4, a5, a6, a7, a8, a9, a10, a11, a12, a13, a14, a15, a16⟩ := RR_le h
              exact ⟨a1, a2, a3, a4, a5, a6, a7, a8, a9, a10, DK_rot a11 (by omega), GV_rot a12 a6 b1 (by omega) (bI_f q3) c2, a13, a14, a15, a16⟩
            · rw [gone_rot b1 (by omega) (bI_f q3), nI_1]
        · rw [if_neg q3, if_neg q3]; exact eq_same h rfl
theorem c_scrub (h : RR k P G J L vn vr vo vl vb fN fK fW fL fM fR fF fS fP fY fT fJ fI n r mu on jm tk tj) (x z : Int32) (bits : Int64) : EQ k (d_scrub P G J L n x z bits) (m_scrub vT vn vr vo vl vb fN fK fW fL fM fE fR fF fS fP fY fT fJ fI n x z bits) := by
  unfold d_scrub m_scrub
  cases on with
  | false => rw [if_pos (RR_0 h).1, if_neg (RR_0 h).2]; exact eq_same h rfl
  | true =>
    rw [if_neg (RR_1 h).1, if_pos (RR_1 h).2, ifb]
    obtain ⟨a1, a2, a3, a4, a5, a6, a7, a8, a9, a10, a11, a12, a13, a14, a15, a16⟩ := id h
    by_cases q1 : x < 2
    · rw [if_pos q1, if_neg (fun z => z.1 q1)]; exact eq_same h rfl
    · rw [if_neg q1]
      by_cases q2 : vr ≤ x
      · rw [if_pos q2, if_neg (fun z => z.2 (by rw [a4, ← a8]; exact q2))]; exact eq_same h rfl
      · rw [if_neg q2, if_pos ⟨q1, by rw [a4, ← a8]; exact q2⟩]
        obtain ⟨e2, b2, b3⟩ := rw_t q1 (Int32.not_le.mp q2) a8 (by omega)
        generalize x.toNatClampNeg = τ at e2 b2 b3 ⊢
        subst e2
        rw [rotIn_eq a11 (by omega)]
        have hc := cnt_le (fun d => nz (fR (40 * d + τ))) n
        by_cases q3 : z < 0
        · rw [if_pos q3, if_pos q3]; exact eq_same h rfl
        · rw [if_neg q3, if_neg q3]
          by_cases q4 : z ≤ 1
          · rw [if_pos q4, if_pos q4]
            have l1 := c_le0 (c := cnt (fun d => nz (fR (40 * d + τ))) n) (by omega)
            have l2 := nI_z (v := cnt (fun d => nz (fR (40 * d + τ))) n) (by omega)
            obtain ⟨a1, a2, a3, a4, a5, a6, a7, a8, a9, a10, a11, a12, a13, a14, a15, a16⟩ := RR_le h
            by_cases q5 : nI (cnt (fun d => nz (fR (40 * d + τ))) n) = 0
            · have c0 := l2.mp q5
              rw [if_pos q5, if_pos (l1.mpr (by omega))]
              refine eq_mk (n := n) (r := r) (mu := mu) (on := true) (jm := jm) (tk := tk) (tj := tj) ⟨a1, a2, a3, a4, a5, a6, a7, a8, a9, a10, fun d hd => ⟨(a11 d hd).1, fun s hs => ?_⟩, GV_scrub a12, a13, a14, a15, a16⟩ ?_
              · rw [(a11 d hd).2 s hs, mScrub_at]
                by_cases y : ∃ d', d' < n ∧ 40 * d + s = 40 * d' + τ
                · obtain ⟨d', y1, y2⟩ := y
                  rw [if_pos ⟨d', y1, y2⟩]
                  cases y3 : nz (fR (40 * d + s)) with
                  | false => rfl
                  | true =>
                    have := cnt_pos.mpr (⟨d', y1, by show nz (fR (40 * d' + τ)) = true; rw [← y2]; exact y3⟩ : ∃ d, d < n ∧ (fun d => nz (fR (40 * d + τ))) d = true)
                    omega
                · rw [if_neg y]
              · exact q5.symm
            · rw [if_neg q5, if_neg (show ¬ nI (cnt (fun d => nz (fR (40 * d + τ))) n) ≤ 0 from fun y => q5 (l2.mpr (by have := l1.mp y; omega)))]
              by_cases q6 : z = 1
              · rw [if_pos q6, if_pos q6]; exact eq_off h rfl
              · rw [if_neg q6, if_neg q6]
                exact eq_mk (n := n) (r := r) (mu := mu) (on := true) (jm := jm) (tk := tk) (tj := tj) ⟨a1, a2, a3, a4, a5, a6, a7, a8, a9, a10, DK_scrub a11 (by omega), GV_scrub a12, a13, a14, a15, a16⟩ rfl
          · rw [if_neg q4, if_neg q4]; exact eq_same h rfl
theorem lvv_lose {e d : Nat} : lvv n (upd fL e 1) d = true ↔ (lvv n fL d = true ∧ d ≠ e) := by
  rw [lvv_iff, lvv_iff]
  by_cases q : d = e
  · subst q; rw [pk_us]
    exact ⟨fun z => absurd z.2 (by decide), fun z => absurd rfl z.2⟩
  · rw [pk_un q]; exact ⟨fun z => ⟨z, q⟩, fun z => z.1⟩
theorem c_lose (h : RR k P G J L vn vr vo vl vb fN fK fW fL fM fR fF fS fP fY fT fJ fI n r mu on jm tk tj) (d : Int32) : EQ k (d_lose P G J L n r d) (m_lose vT vn vr vo vl vb fN fK fW fL fM fE fR fF fS fP fY fT fJ fI n r d) := by
  unfold d_lose m_lose
  obtain ⟨a1, a2, a3, a4, a5, a6, a7, a8, a9, a10, a11, a12, a13, a14, a15, a16⟩ := RR_le h
  rw [ifb, ifb]
  have ei := isd (d := d) a1 a7
  by_cases q : d < 0 ∨ ¬ d < vn
  · rw [if_pos q, if_neg (fun z => ei.mp z q)]; exact eq_same h rfl
  · rw [if_neg q, if_pos (ei.mpr q)]
    obtain ⟨e, b1⟩ := isD (decide_eq_true (ei.mpr q)) a1 (by omega)
    generalize d.toNatClampNeg = δ at e b1 ⊢
    have em := DK_m1 a11 a6 b1
    by_cases q1 : fL δ = 0
    · rw [if_pos q1, if_neg (fun z => em.mp z q1), miss_eq a11 a12 a6 a3 b1 _ (Nat.le_refl _)]
      by_cases q2 : mMiss fL fM fR δ n (r - 2) = true
      · rw [if_pos q2, if_neg (by rw [q2]; decide)]
        refine eq_mk (n := n) (r := r) (mu := mu) (on := on) (jm := jm) (tk := tk) (tj := tj) ⟨a1, a2, a3, a4, a5, a6, a7, a8, a9, a10, DK_lose a11, GV_lose a12 a3 a6 q2, ?_, a14, a15, a16⟩ ?_
        · obtain ⟨off, sw, la, B, p, f, g, tb, tl, yb, yl, h1, h2⟩ := a13
          obtain ⟨f', g', k1, _⟩ := RX_wipe (e := δ) (lv' := lvv n (upd fL δ 1)) h1 (fun d => lvv_lose)
          exact ⟨off, sw, la, B, p, f', g', tb, tl, yb, yl, k1, h2⟩
        · exact congrArg nI (lost_eq (P := pRot (vp_updL (pRt P) δ 0) (pMark (upd (pMk P) δ (-1)) P)) (DK_lose (e := δ) a11) a6)
      · rw [if_neg q2, if_pos (by rw [show mMiss fL fM fR δ n (r - 2) = false by simpa using q2]; decide)]; exact eq_same h rfl
    · rw [if_neg q1, if_pos (em.mpr q1)]; exact eq_same h rfl
theorem RM_new {off sw p : Nat} {f g : HH} {tb tl : Nat → Nat} {yb yl : Nat} (h : RX r (lvv n fL) mu L fF fS fP fY fT off sw la la p f g tb tl yb yl) (hk : la + off ≤ 2 * k + 1) (hj : jm = false → yb = 0) (hc : L.1 1 = nI (rh sw p)) (hl : vl = nI la) (hb : vb = nI la) : RM k n r true jm mu L vl vb fL fF fS fP fY fT :=
  ⟨off, sw, la, la, p, f, g, tb, tl, yb, yl, h, hl, hk, fun z => ⟨hj z, fun y => absurd y (by omega)⟩, fun _ => ⟨rfl, hb, hc⟩, (fun z => absurd z (by decide))⟩
theorem lvv_repl {e d : Nat} (he : e < n) : lvv n (upd fL e 0) d = true ↔ (lvv n fL d = true ∨ d = e) := by
  rw [lvv_iff, lvv_iff]
  by_cases q : d = e
  · subst q; rw [pk_us]
    exact ⟨fun _ => Or.inr rfl, fun _ => ⟨he, rfl⟩⟩
  · rw [pk_un q]; exact ⟨fun z => Or.inl z, fun z => by rcases z with z | z; exact z; exact absurd z q⟩
theorem c_replace (h : RR k P G J L vn vr vo vl vb fN fK fW fL fM fR fF fS fP fY fT fJ fI n r mu on jm tk tj) (hk : k ≤ 511) (hw : w = 0 ∨ w = 1) (hq : 1 - L.1 1 = nI w) (hvl : vl = nI la) (hla : la + 3 < 1300) (hvb : vb = nI bs) (hbs : bs < 1300) (hp9 : p9 = 0 ∨ p9 = 1) (hr9 : 1 - fP bs = nI p9) (d : Int32) : EQ k (d_replace P G J L n w d) (m_replace vT vn vr vo vl vb fN fK fW fL fM fE fR fF fS fP fY fT fJ fI n bs la p9 d) := by
  unfold d_replace m_replace
  obtain ⟨a1, a2, a3, a4, a5, a6, a7, a8, a9, a10, a11, a12, a13, a14, a15, a16⟩ := id h
  rw [ifb, ifb]
  have ei := isd (d := d) a1 a7
  by_cases q : d < 0 ∨ ¬ d < vn
  · rw [if_pos q, if_neg (fun z => ei.mp z q)]; exact eq_same h rfl
  · rw [if_neg q, if_pos (ei.mpr q)]
    obtain ⟨e, b1⟩ := isD (decide_eq_true (ei.mpr q)) a1 (by omega)
    generalize d.toNatClampNeg = δ at e b1 ⊢
    have em := DK_m1 a11 a6 b1
    by_cases q1 : fL δ = 0
    · rw [if_pos q1, if_neg (fun z => em.mp z q1)]; exact eq_same h rfl
    · rw [if_neg q1, if_pos (em.mpr q1)]
      have hl0 : lvv n fL δ = false := by
        rw [← Bool.not_eq_true, lvv_iff]; exact fun z => q1 z.2
      have dk := DK_repl (e := δ) a11
      have gv := GV_repl a12 q1
      cases on with
      | false =>
        rw [if_pos (show (pMark (upd (pMk P) δ 0) P).2.2.1 = 0 from (RR_0 h).1), if_neg (RR_0 h).2]
        refine eq_mk (n := n) (r := r) (mu := fun d => if d = δ then 0 else mu d) (on := false) (jm := jm) (tk := tk) (tj := tj) ⟨a1, a2, a3, a4, a5, a6, a7, a8, a9, a10, dk, gv, ?_, a14, a15, a16⟩ rfl
        obtain ⟨off, sw, la, B, p, f, g, tb, tl, yb, yl, h1, h2⟩ := RM_le a13
        exact ⟨off, sw, la, B, p, f, g, tb, tl, yb, yl, RX_add h1 hl0 (fun d => lvv_repl b1) (if_pos rfl) (fun d y => if_neg y), h2⟩
      | true =>
        rw [if_neg (show ¬ (pMark (upd (pMk P) δ 0) P).2.2.1 = 0 from (RR_1 h).1), if_pos (RR_1 h).2]
        obtain ⟨off, sw, p, f, g, tb, tl, yb, yl, h1, h2, h3, h4, h5, h6, h7⟩ := RM_on a13 hk hw hq hvl hla hvb hbs hp9 hr9
        have hp := h1.1.1
        have h1' := RX_add (mu' := fun d => if d = δ then 0 else mu d) h1 hl0 (fun d => lvv_repl (n := n) (fL := fL) b1) (if_pos rfl) (fun d y => if_neg y)
        obtain ⟨f', g', k1, k2⟩ := RN_fin (P := pMark (upd (pMk P) δ 0) P) (y := 0) (fm := upd (pMk P) δ 0) (fMM := upd fM δ 0) (t := fun d => if d = δ then 0 else mu d) (mu' := fun d => if d = δ then 0 else mu d) (vv := 1 - fP bs) h1' a3 (fun d hd => DK_lv dk a6 hd) h4 hq (by omega) (by omega) (by rw [h3, h7]; exact p_nI hp) (fun d hd => by
          have hd := (lvv_iff d).mp hd
          rcases (dk d hd.1).1 with ⟨c1, c2, c3, c4⟩ | ⟨c1, c2⟩
          · exact ⟨c2, c3, rfl⟩
          · rw [c1] at hd; exact absurd hd.2 (by decide))
        rw [h5]
        exact eq_mk (n := n) (r := r) (mu := fun d => if d = δ then 0 else mu d) (on := true) (jm := jm) (tk := tk) (tj := tj) ⟨a1, a2, a3, a4, a5, a6, a7, a8, a9, a10, dk, gv, RM_new k1 (by omega) (fun _ => rfl) k2 (by rw [hvl, nI_1]) (by rw [hvl, nI_1]), a14, a15, a16⟩ rfl
end SM2
