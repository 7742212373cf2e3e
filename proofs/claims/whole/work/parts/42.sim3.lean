/-! fill, write -/
theorem va_up2 {α : Type} {f : Nat → α} {k : Nat} {a b : α} : va_up (va_up f k a) k b = va_up f k b := by
  funext j
  by_cases q : j = k
  · subst q; rw [va_up_self, va_up_self]
  · rw [va_up_ne _ _ q, va_up_ne _ _ q, va_up_ne _ _ q]
theorem tell_draft {w d : Nat} {tg mk : Int32} {fm : Nat → Int32} {L : LL} (hd : d < 8) : lTell w d mk (lDraft w tg fm L) = lDraft w tg (upd fm d mk) L := by
  have e : upd (va_cpy fm (L.2 (4 + w)) 0 0 8) d mk = va_cpy (upd fm d mk) (L.2 (4 + w)) 0 0 8 := by
    funext j
    by_cases q : j = d
    · subst q; rw [pk_us, cpy8 hd, pk_us]
    · rw [pk_un q]
      by_cases z : j < 8
      · rw [cpy8 z, cpy8 z, pk_un q]
      · rw [pk_cpy_out (by omega), pk_cpy_out (by omega)]
  show (_, va_up (lDraft w tg fm L).2 (4 + w) (upd ((lDraft w tg fm L).2 (4 + w)) d mk)) = _
  rw [lD_t, e]
  show (_, va_up (va_up (va_up (va_up L.2 6 (upd (L.2 6) w (L.1 0 + 1))) 7 (upd (L.2 7) w tg)) (4 + w) (va_cpy fm (L.2 (4 + w)) 0 0 8)) (4 + w) (va_cpy (upd fm d mk) (L.2 (4 + w)) 0 0 8)) = _
  rw [va_up2]
  rfl
section SM3
variable {k n r : Nat} {P P' : PP} {G J G' J' : GG} {L L' : LL} {vT vn vr vo vl vb vo' vl' vb' : Int32} {fN fK fW fL fM fE fR fF fS fP fY fT fJ fI : FF} {mu mu' : Nat → Nat} {on jm on' jm' : Bool} {tk tj w wf bs la p9 ct pc : Nat} {a b : Int32}
theorem RM_cnt (h : RM k n r true jm mu L vl vb fL fF fS fP fY fT) : L.1 1 = nI 0 ∨ L.1 1 = nI 1 := by
  obtain ⟨off, sw, la, B, p, f, g, tb, tl, yb, yl, h1, h2, h3, h4, h5, h6⟩ := RM_off h
  exact (h6 rfl).1
theorem RM_dn {off sw B p : Nat} {f g : HH} {tb tl : Nat → Nat} {yb yl : Nat} (h : RX r (lvv n fL) mu L fF fS fP fY fT off sw la B p f g tb tl yb yl) (hk : la + off ≤ 2 * k + 1) (hj : jm = false → yb = 0 ∧ (B < la → yl = 0)) (hc : L.1 1 = nI 0 ∨ L.1 1 = nI 1) (hl : vl = nI la) (hb : vb = nI B ∨ vb = nI la) : RM k n r false jm mu L vl vb fL fF fS fP fY fT :=
  ⟨off, sw, la, B, p, f, g, tb, tl, yb, yl, h, hl, hk, hj, (fun z => absurd z (by decide)), fun _ => ⟨hc, hb⟩⟩
theorem c_fill (h : RR k P G J L vn vr vo vl vb fN fK fW fL fM fR fF fS fP fY fT fJ fI n r mu on jm tk tj) (hk : k ≤ 511) (hw : w = 0 ∨ w = 1) (hq : 1 - L.1 1 = nI w) (hvl : vl = nI la) (hla : la + 3 < 1300) (hvb : vb = nI bs) (hbs : bs < 1300) (hp9 : p9 = 0 ∨ p9 = 1) (hr9 : 1 - fP bs = nI p9) (d z : Int32) (bits : Int64) : EQ k (d_fill P G J L n w d z bits) (m_fill vT vn vr vo vl vb fN fK fW fL fM fE fR fF fS fP fY fT fJ fI n bs la p9 d z bits) := by
  unfold d_fill m_fill
  cases on with
  | false => rw [if_pos (RR_0 h).1, if_neg (RR_0 h).2]; exact eq_same h rfl
  | true =>
    rw [if_neg (RR_1 h).1, if_pos (RR_1 h).2, ifb, ifb, ifb, ifb]
    obtain ⟨a1, a2, a3, a4, a5, a6, a7, a8, a9, a10, a11, a12, a13, a14, a15, a16⟩ := id h
    have ei := isd (d := d) a1 a7
    by_cases q : d < 0 ∨ ¬ d < vn
    · rw [if_pos q, if_neg (fun z => ei.mp z q)]; exact eq_same h rfl
    · rw [if_neg q, if_pos (ei.mpr q)]
      obtain ⟨e, b1⟩ := isD (decide_eq_true (ei.mpr q)) a1 (by omega)
      generalize d.toNatClampNeg = δ at e b1 ⊢
      have et : (¬ pMk P δ = -1 ∧ ¬ P.2.1 ≤ pMk P δ) ↔ (fL δ = 0 ∧ ¬ vr ≤ fM δ) := by
        rcases (a11 δ b1).1 with ⟨c1, c2, c3, c4⟩ | ⟨c1, c2⟩
        · rw [c2, c3, a4, a8]; simp [c1, nI_m1 (a := mu δ) (by omega)]
        · rw [c1, c2]; simp
      by_cases q1 : fL δ = 0 ∧ ¬ vr ≤ fM δ
      · rw [if_pos q1, if_pos (et.mpr q1)]
        by_cases q2 : z < 0
        · rw [if_pos q2, if_pos q2]; exact eq_same h rfl
        · rw [if_neg q2, if_neg q2]
          by_cases q3 : z ≤ 2
          · rw [if_pos q3, if_pos q3]
            by_cases q4 : z = 1
            · rw [if_pos q4, if_pos q4]; exact eq_off h rfl
            · rw [if_neg q4, if_neg q4, tell_draft (by omega)]
              obtain ⟨off, sw, p, f, g, tb, tl, yb, yl, h1, h2, h3, h4, h5, h6, h7⟩ := RM_on a13 hk hw hq hvl hla hvb hbs hp9 hr9
              have hp := h1.1.1
              obtain ⟨m1, m2, m3⟩ : pMk P δ = nI (mu δ) ∧ fM δ = nI (mu δ) ∧ mu δ < r := by
                rcases (a11 δ b1).1 with ⟨c1, c2, c3, c4⟩ | ⟨c1, c2⟩
                · refine ⟨c2, c3, ?_⟩
                  have y := q1.2
                  rw [a8, c3, nI_le' (by omega) (by omega)] at y
                  omega
                · rw [c1] at q1; exact absurd q1.1 (by decide)
              have ht : ∀ d, lvv n fL d = true → upd (pMk P) δ (pMk P δ + 1) d = nI ((fun d => if d = δ then mu δ + 1 else mu d) d) ∧ upd fM δ (fM δ + 1) d = nI ((fun d => if d = δ then mu δ + 1 else mu d) d) ∧ mu d ≤ (fun d => if d = δ then mu δ + 1 else mu d) d ∧ (fun d => if d = δ then mu δ + 1 else mu d) d ≤ r := by
                intro d hd
                by_cases y : d = δ
                · have ey : (fun d => if d = δ then mu δ + 1 else mu d) d = mu δ + 1 := if_pos y
                  rw [ey, y, pk_us, pk_us, m1, m2, nI_1]
                  exact ⟨rfl, rfl, by omega, by omega⟩
                · have ey : (fun d => if d = δ then mu δ + 1 else mu d) d = mu d := if_neg y
                  have hd := (lvv_iff d).mp hd
                  rw [ey, pk_un y, pk_un y]
                  rcases (a11 d hd.1).1 with ⟨c1, c2, c3, c4⟩ | ⟨c1, c2⟩
                  · exact ⟨c2, c3, by omega, c4⟩
                  · rw [c1] at hd; exact absurd hd.2 (by decide)
              have hv : (1 - fP bs : Int32) = nI (1 - p) := by rw [h3, h7]; exact p_nI hp
              rw [h5]
              by_cases q5 : z = 2
              · rw [if_pos q5, if_pos q5]
                obtain ⟨f', g', k1, k2⟩ := RN_part (P := P) (bits := bits) (y := 0) (fm := upd (pMk P) δ (pMk P δ + 1)) (fMM := upd fM δ (fM δ + 1)) (vv := 1 - fP bs) h1 (LI_stl h1.1 rfl) a3 (fun d hd => DK_lv a11 a6 hd) h4 (by omega) (by omega) hv ht
                have em : upd (upd fM δ (fM δ + 1)) δ (upd fM δ (fM δ + 1) δ - 1) = fM := by
                  funext j
                  by_cases y : j = δ
                  · rw [y, pk_us, pk_us, Int32.add_sub_cancel]
                  · rw [pk_un y, pk_un y]
                rw [em]
                obtain ⟨b1, b2, b3, b4, b5, b6, b7, b8, b9, b10, b11, b12, b13, b14, b15, b16⟩ := RR_off h
                exact eq_mk (n := n) (r := r) (mu := mu) (on := false) (jm := jm) (tk := 0) (tj := tj) ⟨b1, b2, b3, b4, b5, b6, b7, b8, b9, b10, b11, b12, RM_dn k1 (by omega) (fun y => ⟨h6 y, fun _ => rfl⟩) (by have y := RM_cnt a13; rw [← k2] at y; exact y) (by rw [hvl, nI_1]) (Or.inl (by rw [hvb, h3])), b14, b15, b16⟩ rfl
              · rw [if_neg q5, if_neg q5]
                obtain ⟨f', g', k1, k2⟩ := RN_fin (P := P) (y := 0) (fm := upd (pMk P) δ (pMk P δ + 1)) (fMM := upd fM δ (fM δ + 1)) (mu' := fun d => if d = δ then mu δ + 1 else mu d) (vv := 1 - fP bs) h1 a3 (fun d hd => DK_lv a11 a6 hd) h4 hq (by omega) (by omega) hv (fun d hd => ⟨(ht d hd).1, (ht d hd).2.1, rfl⟩)
                refine eq_mk (n := n) (r := r) (mu := fun d => if d = δ then mu δ + 1 else mu d) (on := true) (jm := jm) (tk := tk) (tj := tj) ⟨a1, a2, a3, a4, a5, a6, a7, a8, a9, a10, DK_up a11 (fun d hd y => ?_) (fun d hd y => ?_), GV_up (mu' := fun d => if d = δ then mu δ + 1 else mu d) a12 a11 a6 (fun d hd y => ?_), RM_new k1 (by omega) (fun _ => rfl) k2 (by rw [hvl, nI_1]) (by rw [hvl, nI_1]), a14, a15, a16⟩ ?_
                · show upd (pMk P) δ (pMk P δ + 1) d = -1
                  have : d ≠ δ := fun x => y (by rw [x]; exact q1.1)
                  rw [pk_un this]
                  exact (DK_m1 a11 a6 hd).mpr y
                · have t1 := ht d ((lvv_iff d).mpr ⟨hd, y⟩)
                  exact ⟨t1.1, t1.2.1, t1.2.2.2⟩
                · have t1 := ht d ((lvv_iff d).mpr ⟨hd, y⟩)
                  exact ⟨t1.2.1, t1.2.2.1, t1.2.2.2⟩
                · rw [pk_us, m2, show P.2.2.2.1 δ = _ from m1]
          · rw [if_neg q3, if_neg q3]; exact eq_same h rfl
      · rw [if_neg q1, if_neg (fun y => q1 (et.mp y))]; exact eq_same h rfl
theorem w_bad {α : Type} {A X : α} {Q1 Q2 Q3 Q4 Q5 : Prop} [Decidable Q1] [Decidable Q2] [Decidable Q3] [Decidable Q4] [Decidable Q5] (h : ¬ (Q1 ∧ ¬ Q2 ∧ ¬ Q3 ∧ ¬ Q4 ∧ Q5)) : (if Q1 then (if Q2 then A else (if Q3 then A else (if Q4 then A else (if Q5 then X else A)))) else A) = A := by
  by_cases q1 : Q1
  · by_cases q2 : Q2
    · rw [if_pos q1, if_pos q2]
    · by_cases q3 : Q3
      · rw [if_pos q1, if_neg q2, if_pos q3]
      · by_cases q4 : Q4
        · rw [if_pos q1, if_neg q2, if_neg q3, if_pos q4]
        · rw [if_pos q1, if_neg q2, if_neg q3, if_neg q4, if_neg (fun q5 => h ⟨q1, q2, q3, q4, q5⟩)]
  · rw [if_neg q1]
theorem v_bad {α : Type} {A X : α} {Q1 Q2 Q3 Q4 Q5 Q6 Q7 : Prop} [Decidable Q1] [Decidable Q2] [Decidable Q3] [Decidable Q4] [Decidable Q5] [Decidable Q6] [Decidable Q7] (h : ¬ (¬ Q1 ∧ ¬ Q2 ∧ ¬ Q3 ∧ ¬ Q4 ∧ ¬ Q5 ∧ ¬ Q6 ∧ Q7)) : (if Q1 then A else (if Q2 then A else (if Q3 then A else (if Q4 then A else (if Q5 then A else (if Q6 then A else (if Q7 then X else A))))))) = A := by
  by_cases q1 : Q1
  · rw [if_pos q1]
  · by_cases q2 : Q2
    · rw [if_neg q1, if_pos q2]
    · by_cases q3 : Q3
      · rw [if_neg q1, if_neg q2, if_pos q3]
      · by_cases q4 : Q4
        · rw [if_neg q1, if_neg q2, if_neg q3, if_pos q4]
        · by_cases q5 : Q5
          · rw [if_neg q1, if_neg q2, if_neg q3, if_neg q4, if_pos q5]
          · by_cases q6 : Q6
            · rw [if_neg q1, if_neg q2, if_neg q3, if_neg q4, if_neg q5, if_pos q6]
            · rw [if_neg q1, if_neg q2, if_neg q3, if_neg q4, if_neg q5, if_neg q6, if_neg (fun q7 => h ⟨q1, q2, q3, q4, q5, q6, q7⟩)]
theorem v_ok {α : Type} {A X : α} {Q1 Q2 Q3 Q4 Q5 Q6 Q7 : Prop} [Decidable Q1] [Decidable Q2] [Decidable Q3] [Decidable Q4] [Decidable Q5] [Decidable Q6] [Decidable Q7] (q1 : ¬ Q1) (q2 : ¬ Q2) (q3 : ¬ Q3) (q4 : ¬ Q4) (q5 : ¬ Q5) (q6 : ¬ Q6) (q7 : Q7) : (if Q1 then A else (if Q2 then A else (if Q3 then A else (if Q4 then A else (if Q5 then A else (if Q6 then A else (if Q7 then X else A))))))) = X := by
  rw [if_neg q1, if_neg q2, if_neg q3, if_neg q4, if_neg q5, if_neg q6, if_pos q7]
theorem w_ok {α : Type} {A X : α} {Q1 Q2 Q3 Q4 Q5 : Prop} [Decidable Q1] [Decidable Q2] [Decidable Q3] [Decidable Q4] [Decidable Q5] (h1 : Q1) (h2 : ¬ Q2) (h3 : ¬ Q3) (h4 : ¬ Q4) (h5 : Q5) : (if Q1 then (if Q2 then A else (if Q3 then A else (if Q4 then A else (if Q5 then X else A)))) else A) = X := by
  rw [if_pos h1, if_neg h2, if_neg h3, if_neg h4, if_pos h5]
theorem t_64 {t : Int32} (h0 : ¬ t < 0) (h64 : ¬ 64 ≤ t) : ∃ α, t = nI α ∧ α < 64 := by
  obtain ⟨j, hj, e⟩ := nI_of h0
  refine ⟨j, e, ?_⟩
  rw [e] at h64
  exact Nat.not_le.mp (fun z => h64 (nI_le (a := 64) z hj))
theorem c_write (h : RR k P G J L vn vr vo vl vb fN fK fW fL fM fR fF fS fP fY fT fJ fI n r mu on jm tk tj) (x t cn v : Int32) : EQ k (d_write P G J L tk x t cn v) (m_write vT vn vr vo vl vb fN fK fW fL fM fE fR fF fS fP fY fT fJ fI n r x t cn v) := by
  unfold d_write m_write
  cases on with
  | false => rw [if_pos (RR_0 h).1, if_neg (RR_0 h).2]; exact eq_same h rfl
  | true =>
    rw [if_neg (RR_1 h).1, if_pos (RR_1 h).2, ifb, ifb]
    have eb := bl_eq h
    obtain ⟨a1, a2, a3, a4, a5, a6, a7, a8, a9, a10, a11, a12, a13, a14, a15, a16⟩ := id h
    by_cases qq : ¬ (x < 0 ∨ ¬ x < (vn - 2) * (vr - 6)) ∧ ¬ cn < 1 ∧ ¬ 64 < cn ∧ ¬ t < 0 ∧ ¬ 64 - cn < t ∧ ¬ v < 0 ∧ v ≤ 255
    · obtain ⟨q1, q2, q3, q4, q5, q6, q7⟩ := qq
      obtain ⟨e2, e3, c1, c2⟩ := wr9 q2 q3 q4 q5
      have b1 : ¬ x < 0 := fun z => q1 (Or.inl z)
      have b2 : ¬ (P.1 - 2) * (P.2.1 - 6) ≤ x := fun z => q1 (Or.inr (by rw [← eb]; exact Int32.not_lt.mpr z))
      have b3 : ¬ 64 ≤ t := by
        rw [e2]
        exact fun z => by have := (nI_le' (a := 64) (b := t.toNatClampNeg) (by omega) (by omega)).mp z; omega
      have b4 : ¬ 64 - t < cn := by
        rw [e2, e3, show (64 : Int32) - nI t.toNatClampNeg = nI (64 - t.toNatClampNeg) from pk_sub (a := 64) (b := t.toNatClampNeg) (by omega)]
        exact nI_nlt (by omega) (by omega)
      rw [v_ok q1 q2 q3 q4 q5 q6 q7, w_ok ⟨b1, b2, q4, b3⟩ q2 b4 q6 q7]
      obtain ⟨e1, _, d1, _, d3⟩ := isB (decide_eq_true ⟨b1, b2, q4, b3⟩) a1 a4 a2 a3 a5 a6
      generalize x.toNatClampNeg = β at e1 d1 d3 ⊢
      generalize t.toNatClampNeg = α at e2 c2 ⊢
      generalize cn.toNatClampNeg = c at e3 c1 c2 ⊢
      have htk := a14.2.2.2.2.2.2.2.2.1
      have e4 : (4 : Int32) * (P.1 - 2) = nI (4 * (n - 2)) := by
        rw [a1, show nI n - 2 = nI (n - 2) from pk_sub (a := n) (b := 2) (by omega)]; exact pk_mul 4 _
      have e5 : (4 : Int32) * (vn - 2) = nI (4 * (n - 2)) := by
        rw [a7, show nI n - 2 = nI (n - 2) from pk_sub (a := n) (b := 2) (by omega)]; exact pk_mul 4 _
      have hN := blk_le a3 a6
      rcases blk_find a14 d3 with ⟨j, z1, z2, z3, z4⟩ | ⟨z1, z2⟩
      · have z6 : oI (gFind G.2.2.1 x tk) = nI j := by rw [e1, z1]; rfl
        rw [if_pos (by rw [z6]; exact Int32.not_lt.mp (nI_nn (by omega)))]
        have eW : upd fW β 1 = fW := by
          funext i
          by_cases y : i = β
          · rw [y, pk_us, z4]
          · rw [pk_un y]
        have gs := GR_set (α := α) (c := c) (v := v.toInt8.toInt32) a14 z2 z3 (by omega)
        rw [z6, (idx64 (m := 24) rfl e2 (by omega) (by omega) (by omega)).2, eW, e5]
        have hu : mUse fW n r ≤ nI (4 * (n - 2)) := by
          have l := a14.2.2.2.2.2.2.2.2.2.2.2
          have cn := cnt_le (mRows fW n ((n - 2) * (r - 6))) (r - 6)
          unfold mUse
          rw [a14.2.2.2.2.2.2.1, if_neg (by rw [nI_z (by omega)]; omega), show (2 : Int32) * nI (cnt (mRows fW n ((n - 2) * (r - 6))) (r - 6)) = nI (2 * cnt (mRows fW n ((n - 2) * (r - 6))) (r - 6)) from pk_mul 2 _, show (1 : Int32) + nI tk = nI (1 + tk) from nI_add 1 tk, nI_add, nI_le' (by omega) (by omega)]
          omega
        rw [if_pos hu]
        obtain ⟨b1, b2, b3, b4, b5, b6, b7, b8, b9, b10, b11, b12, b13, b14, b15, b16⟩ := RR_le h
        exact eq_mk (n := n) (r := r) (mu := mu) (on := true) (jm := jm) (tk := tk) (tj := tj) ⟨b1, b2, b3, b4, b5, b6, b7, b8, b9, b10, b11, b12, b13, gs, b15, b16⟩ (use_eq gs)
      · rw [if_neg (by rw [e1, z1]; decide)]
        have er : 6 + x / (P.1 - 2) = nI (6 + β / (n - 2)) := by rw [e1, a1]; exact row_nI a2 a3 (by omega)
        obtain ⟨m1, m2⟩ := more_eq a14 a2 a3 a6 d1 z2
        have cn := cnt_le (mRows (upd fW β 1) n ((n - 2) * (r - 6))) (r - 6)
        rw [er, m1, m2, e4, e5]
        by_cases y : 1 + (tk + 1) + 2 * cnt (mRows (upd fW β 1) n ((n - 2) * (r - 6))) (r - 6) ≤ 4 * (n - 2)
        · rw [if_pos (nI_le y (by omega)), if_pos (nI_le y (by omega))]
          obtain ⟨g1, g2⟩ := GR_take a14 a2 a3 a5 a6 d1 z2 y
          have gs := GR_set (α := α) (c := c) (v := v.toInt8.toInt32) g1 (show tk < tk + 1 by omega) g2 (by omega)
          rw [(idx64 (b := nI tk) (β := tk) (m := 24) rfl e2 (by omega) (by omega) (by omega)).2]
          obtain ⟨b1, b2, b3, b4, b5, b6, b7, b8, b9, b10, b11, b12, b13, b14, b15, b16⟩ := RR_le h
          exact eq_mk (n := n) (r := r) (mu := mu) (on := true) (jm := jm) (tk := tk + 1) (tj := tj) ⟨b1, b2, b3, b4, b5, b6, b7, b8, b9, b10, b11, b12, b13, gs, b15, b16⟩ ((use_eq gs).trans m2)
        · have y2 : ¬ nI (1 + (tk + 1) + 2 * cnt (mRows (upd fW β 1) n ((n - 2) * (r - 6))) (r - 6)) ≤ nI (4 * (n - 2)) := fun z => y ((nI_le' (by omega) (by omega)).mp z)
          rw [if_neg y2, if_neg y2]
          have eW : upd (upd fW β 1) β (fW β) = fW := by
            funext i
            by_cases y : i = β
            · rw [y, pk_us]
            · rw [pk_un y, pk_un y]
          rw [eW]
          exact eq_same h rfl
    · rw [v_bad qq, w_bad]
      · exact eq_same h rfl
      · rintro ⟨⟨z1, z2, z3, z4⟩, y2, y3, y4, y5⟩
        obtain ⟨α, e, hα⟩ := t_64 z3 z4
        have c0 : ¬ cn < 0 := fun z => y2 (Int32.lt_trans z (by decide))
        obtain ⟨c, hc, ec⟩ := nI_of c0
        rw [ec, e, show (64 : Int32) - nI α = nI (64 - α) from pk_sub (a := 64) (b := α) (by omega), nI_lt' (by omega) (by omega)] at y3
        refine qq ⟨?_, y2, ?_, z3, ?_, y4, y5⟩
        · rintro (y | y)
          · exact z1 y
          · exact z2 (by rw [eb]; exact Int32.not_lt.mp y)
        · rw [ec]; exact nI_nlt (b := c) (a := 64) (by omega) (by omega)
        · rw [ec, e, show (64 : Int32) - nI c = nI (64 - c) from pk_sub (a := 64) (b := c) (by omega)]
          exact nI_nlt (by omega) (by omega)
end SM3
