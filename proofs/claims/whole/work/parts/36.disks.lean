/-! the disks of both sides -/
def lvv (n : Nat) (fL : FF) : Nat → Bool := fun d => decide (d < n) && decide (fL d = 0)
theorem lvv_iff {n : Nat} {fL : FF} (d : Nat) : lvv n fL d = true ↔ (d < n ∧ fL d = 0) := by
  unfold lvv
  rw [Bool.and_eq_true, decide_eq_true_eq, decide_eq_true_eq]
def DK (n r : Nat) (mk : Nat → Int32) (rt : Nat → Int64) (fL fM fR : FF) (mu : Nat → Nat) : Prop :=
  ∀ d, d < n → ((fL d = 0 ∧ mk d = nI (mu d) ∧ fM d = nI (mu d) ∧ mu d ≤ r) ∨ (fL d = 1 ∧ mk d = -1)) ∧ ∀ t, t < 40 → rBit (rt d) (nI t) = nz (fR (40 * d + t))
def GV (n r : Nat) (fL fM fR : FF) : Prop := ∀ t, 2 ≤ t → t < r → cnt (fun d => mGone fL fM fR d t) n ≤ 2
theorem nI_nn {a : Nat} (h : a < 2 ^ 31) : ¬ nI a < 0 := nI_nlt (a := a) (b := 0) (Nat.zero_le a) h
theorem nI_m1 {a : Nat} (h : a < 2 ^ 31) : ¬ nI a = -1 := fun e => nI_nn h (by rw [e]; decide)
theorem m1_le {a : Nat} (h : a < 2 ^ 31) : (-1 : Int32) ≤ nI a := by
  have := nI_nn h
  exact Int32.le_trans (by decide) (Int32.not_lt.mp this)
theorem nI_nm1 {a : Nat} (h : a < 2 ^ 31) : ¬ nI a ≤ -1 := fun z => nI_m1 h (Int32.le_antisymm z (m1_le h))
theorem cnt_mono {p q : Nat → Bool} : ∀ {n : Nat}, (∀ d, d < n → q d = true → p d = true) → cnt q n ≤ cnt p n
  | 0, _ => Nat.le_refl 0
  | n + 1, h => by
    have i := cnt_mono (n := n) (fun d hd => h d (by omega))
    rw [cnt, cnt]
    by_cases z : q n = true
    · rw [if_pos z, if_pos (h n (by omega) z)]; omega
    · rw [if_neg z]; split <;> omega
theorem cnt_one {p q : Nat → Bool} {e : Nat} : ∀ {n : Nat}, (∀ d, d < n → d ≠ e → q d = p d) → cnt q n ≤ cnt p n + 1
  | 0, _ => by show 0 ≤ 0 + 1; omega
  | n + 1, h => by
    rw [cnt, cnt]
    by_cases z : n = e
    · have i : cnt q n = cnt p n := cnt_congr (fun d hd => h d (by omega) (by omega))
      rw [i]; split <;> split <;> omega
    · have i := cnt_one (n := n) (e := e) (fun d hd => h d (by omega))
      rw [h n (by omega) z]; omega
theorem cnt_add {p q : Nat → Bool} {e : Nat} (hp : p e = false) (hq : q e = true) : ∀ {n : Nat}, e < n → (∀ d, d < n → d ≠ e → q d = p d) → cnt q n = cnt p n + 1
  | 0, he, _ => absurd he (by omega)
  | n + 1, he, h => by
    rw [cnt, cnt]
    by_cases z : n = e
    · have i : cnt q n = cnt p n := cnt_congr (fun d hd => h d (by omega) (by omega))
      rw [i, z, hp, hq]; simp
    · have i := cnt_add hp hq (n := n) (by omega) (fun d hd => h d (by omega))
      rw [h n (by omega) z]; omega
theorem cnt_ex {p : Nat → Bool} : ∀ {n : Nat}, cnt p n < n → ∃ d, d < n ∧ p d = false
  | 0, h => absurd h (by omega)
  | n + 1, h => by
    rw [cnt] at h
    cases z : p n with
    | false => exact ⟨n, by omega, z⟩
    | true =>
      rw [z] at h
      obtain ⟨d, hd, e⟩ := cnt_ex (p := p) (n := n) (by simp at h; omega)
      exact ⟨d, by omega, e⟩
section DSK
variable {n r : Nat} {P : PP} {mk : Nat → Int32} {rt : Nat → Int64} {fL fM fR fM' : FF} {mu mu' : Nat → Nat}
theorem DK_lv (h : DK n r mk rt fL fM fR mu) (hr : r ≤ 40) {d : Nat} (hd : d < n) : (!decide (mk d = -1)) = lvv n fL d := by
  rw [Bool.eq_iff_iff, lvv_iff]
  rcases (h d hd).1 with ⟨a, b, c, e⟩ | ⟨a, b⟩
  · rw [b]; simp [nI_m1 (a := mu d) (by omega), hd, a]
  · rw [a, b]; simp
theorem DK_m1 (h : DK n r mk rt fL fM fR mu) (hr : r ≤ 40) {d : Nat} (hd : d < n) : mk d = -1 ↔ ¬ fL d = 0 := by
  rcases (h d hd).1 with ⟨a, b, c, e⟩ | ⟨a, b⟩
  · rw [b, a]; simp [nI_m1 (a := mu d) (by omega)]
  · rw [a, b]; simp
theorem gone_eq (h : DK n r (pMk P) (pRt P) fL fM fR mu) {d t : Nat} (hd : d < n) (ht : t < 40) : pGone P d (nI t) = mGone fL fM fR d t := by
  unfold pGone mGone
  rw [(h d hd).2 t ht]
  rcases (h d hd).1 with ⟨a, b, c, e⟩ | ⟨a, b⟩
  · rw [a, b, c]; simp [nz]
  · rw [a, b, decide_eq_true (m1_le (by omega))]; simp [nz]
theorem goneIn_eq (h : DK n r (pMk P) (pRt P) fL fM fR mu) {t : Nat} (ht : t < 40) : pGoneIn P (nI t) n = cnt (fun d => mGone fL fM fR d t) n := cnt_congr (fun d hd => gone_eq h hd ht)
theorem rotIn_eq (h : DK n r (pMk P) (pRt P) fL fM fR mu) {t : Nat} (ht : t < 40) : pRotIn P (nI t) n = cnt (fun d => nz (fR (40 * d + t))) n := cnt_congr (fun d hd => (h d hd).2 t ht)
theorem lost_eq (h : DK n r (pMk P) rt fL fM fR mu) (hr : r ≤ 40) : pMarked P (-1) (-1) n = cnt (fun d => nz (fL d)) n := by
  refine cnt_congr (fun d hd => ?_)
  rcases (h d hd).1 with ⟨a, b, c, e⟩ | ⟨a, b⟩
  · rw [a, b, decide_eq_false (nI_nm1 (a := mu d) (by omega))]; simp [nz]
  · rw [a, b]; decide
theorem part_eq (h : DK n r (pMk P) rt fL fM fR mu) (hr : r ≤ 40) (h1 : 12 ≤ r) (e1 : P.2.1 = nI r) {vr : Int32} (e2 : vr = nI r) : pMarked P 0 (P.2.1 - 1) n = cnt (fun d => decide (fL d = 0 ∧ ¬ vr ≤ fM d)) n := by
  refine cnt_congr (fun d hd => ?_)
  rw [e1, e2, show nI r - 1 = nI (r - 1) from pk_sub (a := r) (b := 1) (by omega)]
  rcases (h d hd).1 with ⟨a, b, c, e⟩ | ⟨a, b⟩
  · rw [b, c, Bool.eq_iff_iff, Bool.and_eq_true, decide_eq_true_eq, decide_eq_true_eq, decide_eq_true_eq, nI_le' (by omega) (by omega), nI_le' (by omega) (by omega)]
    have : (0 : Int32) ≤ nI (mu d) := Int32.not_lt.mp (nI_nn (by omega))
    simp only [this, a, true_and]
    omega
  · rw [a, b, decide_eq_false (by decide)]; simp
theorem live_ex (h : DK n r mk rt fL fM fR mu) (hg : GV n r fL fM fR) (h4 : 4 ≤ n) (h12 : 12 ≤ r) (hr : r ≤ 40) : ∃ d, lvv n fL d = true ∧ 0 < mu d := by
  have := hg 2 (by omega) (by omega)
  obtain ⟨d, hd, e⟩ := cnt_ex (p := fun d => mGone fL fM fR d 2) (n := n) (by omega)
  have e : mGone fL fM fR d 2 = false := e
  unfold mGone at e
  rw [Bool.or_eq_false_iff, Bool.or_eq_false_iff, decide_eq_false_iff_not] at e
  rcases (h d hd).1 with ⟨a, b, c, m⟩ | ⟨a, b⟩
  · refine ⟨d, (lvv_iff d).mpr ⟨hd, a⟩, ?_⟩
    have e2 := e.2.1
    rw [c, nI_le' (by omega) (by omega)] at e2
    omega
  · rw [a] at e; exact absurd e.1 (by decide)
theorem miss_eq (h : DK n r (pMk P) (pRt P) fL fM fR mu) (hg : GV n r fL fM fR) (hr : r ≤ 40) (hn : n ≤ 8) {d : Nat} (hd : d < n) : ∀ m, m ≤ r - 2 → pMiss P d n m = mMiss fL fM fR d n m
  | 0, _ => rfl
  | m + 1, hm => by
    rw [pMiss, mMiss, miss_eq h hg hr hn hd m (by omega), gone_eq h hd (by omega), goneIn_eq h (by omega)]
    have b := hg (2 + m) (by omega) (by omega)
    have e : decide (nI (cnt (fun d => mGone fL fM fR d (2 + m)) n) < 2) = !decide (nI (cnt (fun d => mGone fL fM fR d (2 + m)) n) = 2) := by
      rw [Bool.eq_iff_iff, decide_eq_true_eq]
      have a1 : nI (cnt (fun d => mGone fL fM fR d (2 + m)) n) < nI 2 ↔ _ := nI_lt' (by omega) (by omega)
      have a2 : nI (cnt (fun d => mGone fL fM fR d (2 + m)) n) = nI 2 ↔ _ := nI_eq (by omega) (by omega)
      show nI (cnt (fun d => mGone fL fM fR d (2 + m)) n) < nI 2 ↔ (!decide (nI (cnt (fun d => mGone fL fM fR d (2 + m)) n) = nI 2)) = true
      rw [a1]; simp only [a2]; simp; omega
    rw [e]
theorem miss_at {fL fM fR : FF} {d n : Nat} : ∀ m, mMiss fL fM fR d n m = true → ∀ j, j < m → mGone fL fM fR d (2 + j) = true ∨ ¬ nI (cnt (fun q => mGone fL fM fR q (2 + j)) n) = 2
  | 0, _, j, hj => absurd hj (by omega)
  | m + 1, h, j, hj => by
    rw [mMiss, Bool.and_eq_true, Bool.or_eq_true] at h
    rcases Nat.lt_or_ge j m with z | z
    · exact miss_at m h.1 j z
    · have e : j = m := by omega
      subst e
      rcases h.2 with y | y
      · exact Or.inl y
      · exact Or.inr (by simpa using y)
/-- a disk lost -/
theorem DK_lose (h : DK n r mk rt fL fM fR mu) {e : Nat} : DK n r (upd mk e (-1)) (vp_updL rt e 0) (upd fL e 1) fM (fillF fR 0 (40 * e) 40) mu := by
  intro d hd
  by_cases q : d = e
  · subst q
    refine ⟨Or.inr ⟨pk_us, pk_us⟩, fun t ht => ?_⟩
    rw [pk_uLs, rb_0 ht, fillF_at, if_pos (by omega)]; rfl
  · obtain ⟨a, b⟩ := h d hd
    refine ⟨?_, fun t ht => ?_⟩
    · rw [pk_un q, pk_un q]; exact a
    · rw [pk_uLn q, fillF_at, if_neg (by omega)]; exact b t ht
theorem GV_lose (hg : GV n r fL fM fR) (hn : n ≤ 8) (hr : r ≤ 40) {e : Nat} (hm : mMiss fL fM fR e n (r - 2) = true) : GV n r (upd fL e 1) fM (fillF fR 0 (40 * e) 40) := by
  intro t h2 hr2
  have b := hg t h2 hr2
  have s : ∀ d, d < n → d ≠ e → mGone (upd fL e 1) fM (fillF fR 0 (40 * e) 40) d t = mGone fL fM fR d t := fun d hd q => by
    unfold mGone
    rw [pk_un q, fillF_at, if_neg (by omega)]
  rcases miss_at (r - 2) hm (t - 2) (by omega) with y | y
  · rw [show 2 + (t - 2) = t by omega] at y
    refine Nat.le_trans (cnt_mono (p := fun d => mGone fL fM fR d t) (fun d hd z => ?_)) b
    by_cases q : d = e
    · subst q; exact y
    · rw [← s d hd q]; exact z
  · rw [show 2 + (t - 2) = t by omega] at y
    have y2 : ¬ cnt (fun q => mGone fL fM fR q t) n = 2 := fun z => y (by rw [z]; rfl)
    have := cnt_one (n := n) (e := e) (p := fun d => mGone fL fM fR d t) (q := fun d => mGone (upd fL e 1) fM (fillF fR 0 (40 * e) 40) d t) s
    omega
/-- a disk replaced -/
theorem DK_repl (h : DK n r mk rt fL fM fR mu) {e : Nat} : DK n r (upd mk e 0) rt (upd fL e 0) (upd fM e 0) fR (fun d => if d = e then 0 else mu d) := by
  intro d hd
  obtain ⟨a, b⟩ := h d hd
  refine ⟨?_, b⟩
  by_cases q : d = e
  · subst q
    have em : (fun x => if x = d then 0 else mu x) d = 0 := if_pos rfl
    rw [em]
    exact Or.inl ⟨pk_us, pk_us, pk_us, by omega⟩
  · have em : (fun x => if x = e then 0 else mu x) d = mu d := if_neg q
    rw [em, pk_un q, pk_un q, pk_un q]; exact a
theorem GV_repl (hg : GV n r fL fM fR) {e : Nat} (he : ¬ fL e = 0) : GV n r (upd fL e 0) (upd fM e 0) fR := by
  intro t h2 hr2
  refine Nat.le_trans (cnt_mono (p := fun d => mGone fL fM fR d t) (fun d hd z => ?_)) (hg t h2 hr2)
  show mGone fL fM fR d t = true
  have z : mGone (upd fL e 0) (upd fM e 0) fR d t = true := z
  unfold mGone at z ⊢
  by_cases q : d = e
  · subst q; rw [nz_t he]; rfl
  · rw [pk_un q, pk_un q] at z; exact z
/-- a unit rotten -/
theorem DK_rot (h : DK n r mk rt fL fM fR mu) {e t : Nat} (ht : t < 40) : DK n r mk (vp_updL rt e (rt e ||| (1 <<< ((nI t).toInt64 &&& 63)))) fL fM (upd fR (40 * e + t) 1) mu := by
  intro d hd
  obtain ⟨a, b⟩ := h d hd
  refine ⟨a, fun s hs => ?_⟩
  by_cases q : d = e
  · subst q
    rw [pk_uLs, rb_or ht hs, b s hs]
    by_cases z : s = t
    · subst z; rw [pk_us]; simp [nz]
    · rw [pk_un (by omega)]; simp [z]
  · rw [pk_uLn q, pk_un (by omega)]; exact b s hs
theorem gone_rot {e t : Nat} (he : e < n) (ht : t < 40) (hz : mGone fL fM fR e t = false) : cnt (fun d => mGone fL fM (upd fR (40 * e + t) 1) d t) n = cnt (fun d => mGone fL fM fR d t) n + 1 := by
  refine cnt_add (e := e) hz ?_ he (fun d hd q => ?_)
  · show mGone fL fM (upd fR (40 * e + t) 1) e t = true
    unfold mGone; rw [pk_us]; simp [nz]
  · show mGone fL fM (upd fR (40 * e + t) 1) d t = mGone fL fM fR d t
    unfold mGone; rw [pk_un (by omega)]
theorem GV_rot (hg : GV n r fL fM fR) (hr : r ≤ 40) {e t : Nat} (he : e < n) (ht : t < 40) (hz : mGone fL fM fR e t = false) (hc : cnt (fun d => mGone fL fM fR d t) n < 2) : GV n r fL fM (upd fR (40 * e + t) 1) := by
  intro s h2 hr2
  by_cases q : s = t
  · subst q; rw [gone_rot he ht hz]; omega
  · refine Nat.le_trans (Nat.le_of_eq (cnt_congr (fun d hd => ?_))) (hg s h2 hr2)
    show mGone fL fM (upd fR (40 * e + t) 1) d s = mGone fL fM fR d s
    unfold mGone; rw [pk_un (by omega)]
/-- a row mended -/
theorem pScrub_at {f : Nat → Int64} {row : Int32} {d : Nat} : ∀ m, pScrub f row m d = if d < m then f d &&& ((1 <<< (row.toInt64 &&& 63)) ^^^ (-1)) else f d
  | 0 => by rw [if_neg (by omega)]; rfl
  | m + 1 => by
    rw [pScrub]
    by_cases q : d = m
    · subst q; rw [pk_uLs, pScrub_at d, if_neg (by omega), if_pos (by omega)]
    · rw [pk_uLn q, pScrub_at m]
      by_cases z : d < m
      · rw [if_pos z, if_pos (by omega)]
      · rw [if_neg z, if_neg (by omega)]
theorem mScrub_at {f : FF} {t j : Nat} : ∀ m, mScrub f t m j = if ∃ d, d < m ∧ j = 40 * d + t then 0 else f j
  | 0 => by rw [if_neg (by rintro ⟨d, h, _⟩; omega)]; rfl
  | m + 1 => by
    rw [mScrub]
    by_cases q : j = 40 * m + t
    · subst q; rw [pk_us, if_pos ⟨m, by omega, rfl⟩]
    · rw [pk_un q, mScrub_at m]
      by_cases z : ∃ d, d < m ∧ j = 40 * d + t
      · obtain ⟨d, h1, h2⟩ := z
        rw [if_pos ⟨d, h1, h2⟩, if_pos ⟨d, by omega, h2⟩]
      · rw [if_neg z, if_neg (by
          rintro ⟨d, h1, h2⟩
          by_cases y : d = m
          · subst y; exact q h2
          · exact z ⟨d, by omega, h2⟩)]
theorem DK_scrub (h : DK n r mk rt fL fM fR mu) {t : Nat} (ht : t < 40) : DK n r mk (pScrub rt (nI t) n) fL fM (mScrub fR t n) mu := by
  intro d hd
  obtain ⟨a, b⟩ := h d hd
  refine ⟨a, fun s hs => ?_⟩
  rw [pScrub_at, if_pos hd, rb_and ht hs, mScrub_at, b s hs]
  by_cases q : s = t
  · subst q; rw [if_pos ⟨d, hd, rfl⟩]; simp [nz]
  · rw [if_neg (by rintro ⟨e, h1, h2⟩; omega)]; simp [q]
theorem GV_scrub (hg : GV n r fL fM fR) {t : Nat} : GV n r fL fM (mScrub fR t n) := by
  intro s h2 hr2
  refine Nat.le_trans (cnt_mono (p := fun d => mGone fL fM fR d s) (fun d hd z => ?_)) (hg s h2 hr2)
  show mGone fL fM fR d s = true
  have z : mGone fL fM (mScrub fR t n) d s = true := z
  unfold mGone at z ⊢
  rw [mScrub_at] at z
  split at z
  · rw [Bool.or_eq_true, Bool.or_eq_true] at z ⊢
    rcases z with z | z | z
    · exact Or.inl z
    · exact Or.inr (Or.inl z)
    · exact absurd z (by decide)
  · exact z
/-- the marks moved up -/
theorem DK_up (h : DK n r mk rt fL fM fR mu) {mk' : Nat → Int32} (hz : ∀ d, d < n → ¬ fL d = 0 → mk' d = -1) (hu : ∀ d, d < n → fL d = 0 → mk' d = nI (mu' d) ∧ fM' d = nI (mu' d) ∧ mu' d ≤ r) : DK n r mk' rt fL fM' fR mu' := by
  intro d hd
  obtain ⟨a, b⟩ := h d hd
  refine ⟨?_, b⟩
  rcases a with ⟨a1, a2⟩ | ⟨a1, a2⟩
  · exact Or.inl ⟨a1, hu d hd a1⟩
  · exact Or.inr ⟨a1, hz d hd (by rw [a1]; decide)⟩
theorem GV_up (hg : GV n r fL fM fR) (h : DK n r mk rt fL fM fR mu) (hr : r ≤ 40) (hu : ∀ d, d < n → fL d = 0 → fM' d = nI (mu' d) ∧ mu d ≤ mu' d ∧ mu' d ≤ r) : GV n r fL fM' fR := by
  intro s h2 hr2
  refine Nat.le_trans (cnt_mono (p := fun d => mGone fL fM fR d s) (fun d hd z => ?_)) (hg s h2 hr2)
  show mGone fL fM fR d s = true
  have z : mGone fL fM' fR d s = true := z
  unfold mGone at z ⊢
  rcases (h d hd).1 with ⟨a, b, c, e⟩ | ⟨a, b⟩
  · obtain ⟨u1, u2, u3⟩ := hu d hd a
    rw [Bool.or_eq_true, Bool.or_eq_true, decide_eq_true_eq] at z ⊢
    rcases z with z | z | z
    · exact Or.inl z
    · rw [u1, nI_le' (by omega) (by omega)] at z
      exact Or.inr (Or.inl (by rw [c, nI_le' (by omega) (by omega)]; omega))
    · exact Or.inr (Or.inr z)
  · rw [a]; rfl
theorem pTake_at {L : LL} {w d : Nat} {mk : Nat → Int32} : ∀ m, pTake L w mk m d = if d < m ∧ ¬ mk d = -1 then (if lSome d L = true then L.2 (4 + w) d else 0) else mk d
  | 0 => by rw [if_neg (fun z => absurd z.1 (by omega))]; rfl
  | m + 1 => by
    rw [pTake]
    have e : pTake L w mk m m = mk m := by rw [pTake_at m, if_neg (fun z => absurd z.1 (by omega))]
    rw [e]
    by_cases y : mk m = -1
    · rw [if_pos y, pTake_at m]
      by_cases q : d = m
      · subst q; rw [if_neg (fun z => z.2 y), if_neg (fun z => z.2 y)]
      · by_cases z : d < m
        · simp only [z, show d < m + 1 by omega]
        · rw [if_neg (fun x => z x.1), if_neg (fun x => absurd x.1 (by omega))]
    · rw [if_neg y]
      by_cases q : d = m
      · subst q; rw [pk_us, if_pos (show d < d + 1 ∧ ¬ mk d = -1 from ⟨by omega, y⟩)]
      · rw [pk_un q, pTake_at m]
        by_cases z : d < m
        · simp only [z, show d < m + 1 by omega]
        · rw [if_neg (fun x => z x.1), if_neg (fun x => absurd x.1 (by omega))]
theorem mMk_at {fL fF fS fT : FF} {x d : Nat} {f : FF} : ∀ m, mMk fL fF fS fT x f m d = if d < m ∧ fL d = 0 then (if mHas fL fF fS d = 0 then 0 else fT (8 * x + d)) else f d
  | 0 => by rw [if_neg (fun z => absurd z.1 (by omega))]; rfl
  | m + 1 => by
    rw [mMk]
    by_cases q : d = m
    · subst q
      have e : mMk fL fF fS fT x f d d = f d := by rw [mMk_at d, if_neg (fun z => absurd z.1 (by omega))]
      rw [pk_us, e]
      by_cases y : fL d = 0
      · rw [if_pos y, if_pos (show d < d + 1 ∧ fL d = 0 from ⟨by omega, y⟩)]
      · rw [if_neg y, if_neg (fun z => y z.2)]
    · rw [pk_un q, mMk_at m]
      by_cases z : d < m
      · simp only [z, show d < m + 1 by omega]
      · rw [if_neg (fun x => z x.1), if_neg (fun x => absurd x.1 (by omega))]
theorem mSame_at {g f : FF} {j : Nat} : ∀ m, mSame g f m j = if j < m then g j else f j
  | 0 => by rw [if_neg (by omega)]; rfl
  | m + 1 => by
    rw [mSame]
    by_cases q : j = m
    · subst q; rw [pk_us, if_pos (by omega)]
    · rw [pk_un q, mSame_at m]
      by_cases z : j < m
      · rw [if_pos z, if_pos (by omega)]
      · rw [if_neg z, if_neg (by omega)]
end DSK
