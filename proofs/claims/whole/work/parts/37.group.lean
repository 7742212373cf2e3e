/-! the group and the kept bytes of both sides -/
theorem fit_nar {x : Int32} (h : fits .byte (.int x) = true) : vp_nar .byte x = x := by
  rw [vp_nar_byte]
  have h : -128 ≤ x ∧ x ≤ 127 := by simpa [fits] using h
  obtain ⟨h1, h2⟩ := h
  rw [Int32.le_iff_toInt_le] at h1 h2
  have h1 : (-128 : Int) ≤ x.toInt := h1
  have h2 : x.toInt ≤ 127 := h2
  apply Int32.toInt_inj.mp
  rw [Int8.toInt_toInt32, Int32.toInt_toInt8]
  exact Int.bmod_eq_of_le (by omega) (by omega)
theorem nar_fit {x : Int32} : fits .byte (.int (vp_nar .byte x)) = true := by
  rw [vp_nar_byte]
  have h : -128 ≤ x.toInt8.toInt32 ∧ x.toInt8.toInt32 ≤ 127 := by
    rw [Int32.le_iff_toInt_le, Int32.le_iff_toInt_le, Int8.toInt_toInt32]
    have a := Int8.le_toInt x.toInt8
    have b := Int8.toInt_lt x.toInt8
    have e1 : (-128 : Int32).toInt = -128 := by decide
    have e2 : (127 : Int32).toInt = 127 := by decide
    rw [e1, e2]
    omega
  simpa [fits] using h
theorem fit_fill {f : Nat → Int32} {v : Int32} {a : Nat} (h : sb_Fit f) : ∀ c, sb_Fit (fillF f (vp_nar .byte v) a c)
  | 0 => h
  | c + 1 => sb_fitU (fit_fill h c) nar_fit
theorem cnt_pos {p : Nat → Bool} : ∀ {n : Nat}, 0 < cnt p n ↔ ∃ d, d < n ∧ p d = true
  | 0 => ⟨fun h => absurd h (by show ¬ 0 < 0; omega), fun ⟨d, h, _⟩ => absurd h (by omega)⟩
  | n + 1 => by
    rw [cnt]
    constructor
    · intro h
      by_cases z : p n = true
      · exact ⟨n, by omega, z⟩
      · rw [if_neg z] at h
        obtain ⟨d, h1, h2⟩ := (cnt_pos (p := p) (n := n)).mp h
        exact ⟨d, by omega, h2⟩
    · rintro ⟨d, h1, h2⟩
      by_cases z : d = n
      · subst z; rw [if_pos h2]; omega
      · have := (cnt_pos (p := p) (n := n)).mpr ⟨d, by omega, h2⟩
        omega
theorem mRows_iff {fG : FF} {n N t : Nat} (h4 : 4 ≤ n) (h8 : n ≤ 8) (hN : N ≤ 204) (ht : t < 1000) : mRows fG n N t = true ↔ ∃ b, b < N ∧ nz (fG b) = true ∧ b / (n - 2) = t := by
  have hc : cnt (mInRow fG n (6 + t)) N ≤ N := cnt_le _ N
  have e : mRows fG n N t = true ↔ 0 < cnt (mInRow fG n (6 + t)) N := by
    unfold mRows
    rw [decide_eq_true_eq]
    have a : nI (cnt (mInRow fG n (6 + t)) N) ≤ nI 0 ↔ _ := nI_le' (by omega) (by omega)
    have a : nI (cnt (mInRow fG n (6 + t)) N) ≤ 0 ↔ cnt (mInRow fG n (6 + t)) N ≤ 0 := a
    rw [a]; omega
  rw [e, cnt_pos]
  have k : ∀ b, b < N → (mInRow fG n (6 + t) b = true ↔ (nz (fG b) = true ∧ b / (n - 2) = t)) := fun b hb => by
    unfold mInRow
    have hd : b / (n - 2) ≤ b := Nat.div_le_self _ _
    rw [Bool.and_eq_true, decide_eq_true_eq, row_nI h4 h8 (by omega), nI_eq (by omega) (by omega)]
    constructor
    · rintro ⟨x, y⟩; exact ⟨x, by omega⟩
    · rintro ⟨x, y⟩; exact ⟨x, by omega⟩
  constructor
  · rintro ⟨b, h1, h2⟩; exact ⟨b, h1, (k b h1).mp h2⟩
  · rintro ⟨b, h1, h2⟩; exact ⟨b, h1, (k b h1).mpr h2⟩
def AP (G : GG) (t n N : Nat) : Prop := (∀ i j, i < t → j < t → jBlk G i = jBlk G j → i = j) ∧ ∀ j, j < t → jBlk G j < N ∧ jRow G j = 6 + jBlk G j / (n - 2)
def GN (N : Nat) (G : GG) (tk : Nat) (fN fK fW : FF) : Prop := (∀ j, j < tk → ∀ α, α < 64 → fN (64 * jBlk G j + α) = G.2.2.2.2 (64 * j + α)) ∧ ∀ b, b < N → fW b = 0 → ∀ α, α < 64 → fN (64 * b + α) = fK (64 * b + α)
def GR (n r : Nat) (on : Bool) (kp : Nat → Int32) (G : GG) (tk : Nat) (fN fK fW : FF) : Prop :=
  sb_Fit kp ∧ (∀ j, j < 13056 → kp j = fK j) ∧ GI G tk ∧ AP G tk n ((n - 2) * (r - 6)) ∧ (∀ j, fW j = 0 ∨ fW j = 1) ∧ (∀ b, fW b = 1 ↔ ∃ j, j < tk ∧ jBlk G j = b) ∧ cnt (fun b => nz (fW b)) ((n - 2) * (r - 6)) = tk ∧
  G.2.1 = nI (cnt (mRows fW n ((n - 2) * (r - 6))) (r - 6)) ∧ tk ≤ 21 ∧ (on = true → GN ((n - 2) * (r - 6)) G tk fN fK fW) ∧ (on = false → tk = 0) ∧ (tk = 0 ∨ 1 + tk + 2 * cnt (mRows fW n ((n - 2) * (r - 6))) (r - 6) ≤ 4 * (n - 2))
def JM (n r : Nat) (J : GG) (tj : Nat) (fJ fI : FF) : Prop := AP J tj n ((n - 2) * (r - 6)) ∧ (∀ b, b < (n - 2) * (r - 6) → (¬ fI b = 0 ↔ ∃ j, j < tj ∧ jBlk J j = b)) ∧ ∀ j, j < tj → ∀ α, α < 64 → fJ (64 * jBlk J j + α) = J.2.2.2.2 (64 * j + α)
theorem mCopy_at {g f : FF} {a x : Nat} : ∀ k, mCopy g f a k x = if a ≤ x ∧ x < a + k then vp_nar .byte (g x) else f x
  | 0 => by rw [if_neg (by omega)]; rfl
  | k + 1 => by
    show upd (mCopy g f a k) (a + k) (vp_nar .byte (g (a + k))) x = _
    by_cases e : x = a + k
    · subst e; rw [pk_us, if_pos (by omega)]
    · rw [pk_un e, mCopy_at k]
      by_cases h : a ≤ x ∧ x < a + k
      · rw [if_pos h, if_pos (by omega)]
      · rw [if_neg h, if_neg (by omega)]
theorem mAll_at {g f : FF} {x : Nat} : ∀ m, mAll g f m x = if x < 64 * m then vp_nar .byte (g x) else f x
  | 0 => by rw [if_neg (by omega)]; rfl
  | m + 1 => by
    rw [mAll, mCopy_at, mAll_at m]
    by_cases h : 64 * m ≤ x ∧ x < 64 * m + 64
    · rw [if_pos h, if_pos (by omega)]
    · rw [if_neg h]
      by_cases z : x < 64 * m
      · rw [if_pos z, if_pos (by omega)]
      · rw [if_neg z, if_neg (by omega)]
theorem mPlace_at {fI fJ fK : FF} {x : Nat} : ∀ m, mPlace fI fJ fK m x = if x / 64 < m ∧ ¬ fI (x / 64) = 0 then vp_nar .byte (fJ x) else fK x
  | 0 => by rw [if_neg (by omega)]; rfl
  | m + 1 => by
    rw [mPlace]
    by_cases q : x / 64 = m
    · by_cases z : fI m = 0
      · rw [if_pos z, mPlace_at m, if_neg (by omega), if_neg (by rw [q]; exact fun y => y.2 z)]
      · rw [if_neg z, mCopy_at, if_pos (by omega), if_pos (by rw [q]; exact ⟨by omega, z⟩)]
    · have e : (if fI m = 0 then mPlace fI fJ fK m else mCopy fJ (mPlace fI fJ fK m) (64 * m) 64) x = mPlace fI fJ fK m x := by
        split
        · rfl
        · rw [mCopy_at, if_neg (by omega)]
      rw [e, mPlace_at m]
      by_cases z : x / 64 < m
      · simp only [z, show x / 64 < m + 1 by omega]
      · rw [if_neg (fun y => z y.1), if_neg (fun y => absurd y.1 (by omega))]
theorem gKeep_out {G : GG} {kp : Nat → Int32} {x : Nat} : ∀ t, (∀ j, j < t → ¬ jBlk G j = x / 64) → gKeep G t kp x = kp x
  | 0, _ => rfl
  | t + 1, h => by
    have := h t (by omega)
    unfold jBlk at this
    show va_cpy G.2.2.2.2 (gKeep G t kp) (t * 64) ((G.2.2.1 t).toNatClampNeg * 64) 64 x = _
    rw [pk_cpy_out (by omega)]
    exact gKeep_out t (fun j hj => h j (by omega))
theorem gKeep_in {G : GG} {kp : Nat → Int32} {j α : Nat} (hα : α < 64) : ∀ t, (∀ i j, i < t → j < t → jBlk G i = jBlk G j → i = j) → j < t → gKeep G t kp (64 * jBlk G j + α) = G.2.2.2.2 (64 * j + α)
  | 0, _, hj => absurd hj (by omega)
  | t + 1, h, hj => by
    show va_cpy G.2.2.2.2 (gKeep G t kp) (t * 64) ((G.2.2.1 t).toNatClampNeg * 64) 64 (64 * jBlk G j + α) = _
    by_cases z : j = t
    · subst z
      unfold jBlk
      rw [pk_cpy_in (by omega) (by omega), show j * 64 + (64 * (G.2.2.1 j).toNatClampNeg + α - (G.2.2.1 j).toNatClampNeg * 64) = 64 * j + α by omega]
    · have q : ¬ jBlk G j = jBlk G t := fun e => z (h j t hj (by omega) e)
      have q2 : ¬ jBlk G j = (G.2.2.1 t).toNatClampNeg := q
      rw [pk_cpy_out (by omega)]
      exact gKeep_in hα t (fun i k hi hk => h i k (by omega) (by omega)) (by omega)
theorem gKeep_fit {G : GG} {kp : Nat → Int32} (hG : sb_Fit G.2.2.2.2) (hk : sb_Fit kp) : ∀ t, sb_Fit (gKeep G t kp)
  | 0 => hk
  | t + 1 => sb_fitC hG (gKeep_fit hG hk t)
section GRP
variable {n r tk tj : Nat} {on : Bool} {kp kp' : Nat → Int32} {G G' J : GG} {fN fK fW fN' fK' fW' fJ fI : FF}
theorem place_eq (hG : GI J tj) (h : JM n r J tj fJ fI) (hk : ∀ x, x < 13056 → kp x = fK x) {x : Nat} (hx : x < 13056) : gKeep J tj kp x = mPlace fI fJ fK ((n - 2) * (r - 6)) x := by
  obtain ⟨⟨h1, h2⟩, h3, h4⟩ := h
  rw [mPlace_at]
  by_cases q : x / 64 < (n - 2) * (r - 6) ∧ ¬ fI (x / 64) = 0
  · obtain ⟨j, hj, e⟩ := (h3 _ q.1).mp q.2
    rw [if_pos q, show x = 64 * jBlk J j + x % 64 by omega, gKeep_in (by omega) tj h1 hj, h4 j hj _ (by omega), fit_nar (hG.2.2.1 _)]
  · rw [if_neg q, gKeep_out tj (fun j hj e => q (by rw [← e]; exact ⟨(h2 j hj).1, (h3 _ (h2 j hj).1).mpr ⟨j, hj, rfl⟩⟩))]
    exact hk x hx
theorem GR_W0 (h : GR n r on kp G 0 fN fK fW) (b : Nat) : fW b = 0 := by
  obtain ⟨h1, h2, h3, h4, h5, h6, h7⟩ := h
  rcases h5 b with z | z
  · exact z
  · obtain ⟨j, hj, _⟩ := (h6 b).mp z
    omega
theorem rows_0 {N m : Nat} (hW : ∀ b, fW b = 0) : cnt (mRows fW n N) m = 0 := by
  have a : ∀ t m, cnt (mInRow fW n t) m = 0 := fun t m => by
    rcases Nat.eq_zero_or_pos (cnt (mInRow fW n t) m) with z | z
    · exact z
    · obtain ⟨d, _, e⟩ := cnt_pos.mp z
      unfold mInRow at e
      rw [hW d] at e
      simp [nz] at e
  rcases Nat.eq_zero_or_pos (cnt (mRows fW n N) m) with z | z
  · exact z
  · obtain ⟨d, _, e⟩ := cnt_pos.mp z
    unfold mRows at e
    rw [a] at e
    simp at e
    exact absurd e (by decide)
/-- nothing in the group -/
theorem GR_none (hG : GI G 0) (hr : G.2.1 = 0) (hW : ∀ b, fW b = 0) (hf : sb_Fit kp) (hk : ∀ j, j < 13056 → kp j = fK j) (hN : on = true → ∀ x, x < 64 * ((n - 2) * (r - 6)) → fN x = fK x) : GR n r on kp G 0 fN fK fW := by
  refine ⟨hf, hk, hG, ⟨fun i j hi => absurd hi (by omega), fun j hj => absurd hj (by omega)⟩, fun j => Or.inl (hW j), fun b => ?_, ?_, by rw [hr, rows_0 hW]; rfl, by omega, fun e => ⟨fun j hj => absurd hj (by omega), fun b hb _ α hα => hN e _ ?_⟩, fun _ => rfl, Or.inl rfl⟩
  · rw [hW b]
    exact ⟨fun z => absurd z (by decide), fun ⟨j, hj, _⟩ => absurd hj (by omega)⟩
  · rcases Nat.eq_zero_or_pos (cnt (fun b => nz (fW b)) ((n - 2) * (r - 6))) with z | z
    · exact z
    · obtain ⟨d, _, e⟩ := cnt_pos.mp z
      rw [hW d] at e
      simp [nz] at e
  · generalize (n - 2) * (r - 6) = N at hb ⊢
    omega
theorem GR_r0 (h : GR n r on kp G 0 fN fK fW) : G.2.1 = 0 := by
  have e := h.2.2.2.2.2.2.2.1
  rw [rows_0 (GR_W0 h)] at e
  exact e
theorem use_eq (h : GR n r on kp G tk fN fK fW) : gUse G = mUse fW n r := by
  obtain ⟨h1, h2, h3, h4, h5, h6, h7, h8, _⟩ := h
  unfold gUse mUse
  rw [h7, h8, h3.1]
theorem use_0 (h : GR n r on kp G tk fN fK fW) (h4 : 4 ≤ n) (h8 : n ≤ 8) (h12 : 12 ≤ r) (h40 : r ≤ 40) : mUse fW n r = 0 ↔ G.1 = 0 := by
  have hb := h.2.2.2.2.2.2.2.2.1
  rw [← use_eq h]
  unfold gUse
  obtain ⟨_, _, h3, _, _, _, _, e8, _⟩ := h
  by_cases q : G.1 = 0
  · rw [if_pos q]; exact ⟨fun _ => q, fun _ => rfl⟩
  · rw [if_neg q, e8, h3.1]
    have c := cnt_le (mRows fW n ((n - 2) * (r - 6))) (r - 6)
    have a1 : (2 : Int32) * nI (cnt (mRows fW n ((n - 2) * (r - 6))) (r - 6)) = nI (2 * cnt (mRows fW n ((n - 2) * (r - 6))) (r - 6)) := pk_mul 2 _
    have a2 : (1 : Int32) + nI tk = nI (1 + tk) := nI_add 1 tk
    rw [a1, a2, nI_add, nI_z (by omega), nI_z (by omega)]
    rw [h3.1, nI_z (by omega)] at q
    omega
theorem row_find (h : GR n r on kp G tk fN fK fW) (h4 : 4 ≤ n) (h8 : n ≤ 8) (h40 : r ≤ 40) {ρ : Nat} (hρ : ρ < 1000) : (oI (gFind G.2.2.2.1 (nI (6 + ρ)) tk) < 0) ↔ mRows fW n ((n - 2) * (r - 6)) ρ = false := by
  have hN := blk_le h8 h40
  have e : mRows fW n ((n - 2) * (r - 6)) ρ = true ↔ ∃ j, j < tk ∧ G.2.2.2.1 j = nI (6 + ρ) := by
    rw [mRows_iff h4 h8 hN hρ]
    obtain ⟨_, _, g3, g4, g5, g6, _⟩ := h
    constructor
    · rintro ⟨b, b1, b2, b3⟩
      have : fW b = 1 := by
        rcases g5 b with z | z
        · rw [z] at b2; simp [nz] at b2
        · exact z
      obtain ⟨j, hj, ej⟩ := (g6 b).mp this
      refine ⟨j, hj, ?_⟩
      rw [(g3.2.2.2.2 j hj).1, (g4.2 j hj).2, ej, b3]
    · rintro ⟨j, hj, ej⟩
      rw [(g3.2.2.2.2 j hj).1, nI_eq (by have := (g3.2.2.2.2 j hj).2; omega) (by omega), (g4.2 j hj).2] at ej
      refine ⟨jBlk G j, (g4.2 j hj).1, ?_, by omega⟩
      rw [(g6 _).mpr ⟨j, hj, rfl⟩]; rfl
  have htk := h.2.2.2.2.2.2.2.2.1
  rw [← Bool.not_eq_true, e]
  cases q : gFind G.2.2.2.1 (nI (6 + ρ)) tk with
  | none =>
    have := gFind_not q
    constructor
    · rintro _ ⟨j, hj, ej⟩; exact this j hj ej
    · intro _; decide
  | some i =>
    obtain ⟨i1, i2, _⟩ := gFind_spec q
    constructor
    · intro z; exact absurd z (nI_nn (by omega))
    · intro z; exact absurd ⟨i, i1, i2⟩ z
theorem div_row {n r β : Nat} (hβ : β < (n - 2) * (r - 6)) : β / (n - 2) < r - 6 := Nat.div_lt_of_lt_mul hβ
theorem rows_up (h : GR n r on kp G tk fN fK fW) (h4 : 4 ≤ n) (h8 : n ≤ 8) (h40 : r ≤ 40) {β : Nat} (hβ : β < (n - 2) * (r - 6)) : cnt (mRows (upd fW β 1) n ((n - 2) * (r - 6))) (r - 6) = (if mRows fW n ((n - 2) * (r - 6)) (β / (n - 2)) = true then cnt (mRows fW n ((n - 2) * (r - 6))) (r - 6) else cnt (mRows fW n ((n - 2) * (r - 6))) (r - 6) + 1) := by
  have hN := blk_le h8 h40
  have hρ := div_row hβ
  have o : ∀ t, t < r - 6 → t ≠ β / (n - 2) → mRows (upd fW β 1) n ((n - 2) * (r - 6)) t = mRows fW n ((n - 2) * (r - 6)) t := fun t ht hne => by
    rw [Bool.eq_iff_iff, mRows_iff h4 h8 hN (by omega), mRows_iff h4 h8 hN (by omega)]
    constructor
    · rintro ⟨b, b1, b2, b3⟩
      refine ⟨b, b1, ?_, b3⟩
      rw [pk_un (by intro e; rw [e] at b3; exact hne b3.symm)] at b2
      exact b2
    · rintro ⟨b, b1, b2, b3⟩
      refine ⟨b, b1, ?_, b3⟩
      rw [pk_un (by intro e; rw [e] at b3; exact hne b3.symm)]
      exact b2
  have t1 : mRows (upd fW β 1) n ((n - 2) * (r - 6)) (β / (n - 2)) = true := (mRows_iff h4 h8 hN (by omega)).mpr ⟨β, hβ, by rw [pk_us]; rfl, rfl⟩
  cases q : mRows fW n ((n - 2) * (r - 6)) (β / (n - 2)) with
  | true =>
    rw [if_pos rfl]
    refine cnt_congr (fun t ht => ?_)
    by_cases z : t = β / (n - 2)
    · rw [z, t1, q]
    · exact o t ht z
  | false =>
    rw [if_neg (by simp)]
    exact cnt_add q t1 hρ o
theorem taken_up (h : GR n r on kp G tk fN fK fW) {β : Nat} (hβ : β < (n - 2) * (r - 6)) (hz : fW β = 0) : cnt (fun b => nz (upd fW β 1 b)) ((n - 2) * (r - 6)) = tk + 1 := by
  rw [← h.2.2.2.2.2.2.1]
  refine cnt_add (e := β) (by rw [hz]; rfl) (by rw [pk_us]; rfl) hβ (fun d hd q => ?_)
  rw [pk_un q]
theorem more_eq (h : GR n r on kp G tk fN fK fW) (h4 : 4 ≤ n) (h8 : n ≤ 8) (h40 : r ≤ 40) {β : Nat} (hβ : β < (n - 2) * (r - 6)) (hz : fW β = 0) : gMore G tk (nI (6 + β / (n - 2))) = nI (1 + (tk + 1) + 2 * cnt (mRows (upd fW β 1) n ((n - 2) * (r - 6))) (r - 6)) ∧ mUse (upd fW β 1) n r = nI (1 + (tk + 1) + 2 * cnt (mRows (upd fW β 1) n ((n - 2) * (r - 6))) (r - 6)) := by
  have hρ := div_row hβ
  have htk := h.2.2.2.2.2.2.2.2.1
  have e : (if oI (gFind G.2.2.2.1 (nI (6 + β / (n - 2))) tk) < 0 then G.2.1 + 1 else G.2.1) = nI (cnt (mRows (upd fW β 1) n ((n - 2) * (r - 6))) (r - 6)) := by
    rw [rows_up h h4 h8 h40 hβ, h.2.2.2.2.2.2.2.1]
    have q := row_find h h4 h8 h40 (ρ := β / (n - 2)) (by omega)
    by_cases z : mRows fW n ((n - 2) * (r - 6)) (β / (n - 2)) = true
    · rw [if_pos z, if_neg (by rw [q, z]; simp)]
    · rw [if_neg z, if_pos (q.mpr (by simpa using z)), nI_1]
  have a1 : ∀ c : Nat, (2 : Int32) * nI c = nI (2 * c) := fun c => pk_mul 2 c
  constructor
  · unfold gMore
    rw [e, h.2.2.1.1, a1, show (1 : Int32) + nI tk = nI (1 + tk) from nI_add 1 tk, nI_1, nI_add, show 1 + tk + 1 = 1 + (tk + 1) by omega]
  · unfold mUse
    rw [taken_up h hβ hz, if_neg (by rw [nI_z (by omega)]; omega), a1, show (1 : Int32) + nI (tk + 1) = nI (1 + (tk + 1)) from nI_add 1 (tk + 1), nI_add]
/-- a block taken into the group -/
theorem GR_take (h : GR n r true kp G tk fN fK fW) (h4 : 4 ≤ n) (h8 : n ≤ 8) (h12 : 12 ≤ r) (h40 : r ≤ 40) {β : Nat} (hβ : β < (n - 2) * (r - 6)) (hz : fW β = 0) (hm : 1 + (tk + 1) + 2 * cnt (mRows (upd fW β 1) n ((n - 2) * (r - 6))) (r - 6) ≤ 4 * (n - 2)) :
    GR n r true kp (gTake β tk (nI (6 + β / (n - 2))) kp G) (tk + 1) fN fK (upd fW β 1) ∧ jBlk (gTake β tk (nI (6 + β / (n - 2))) kp G) tk = β := by
  have hN := blk_le h8 h40
  have hρ := div_row hβ
  have ru := rows_up h h4 h8 h40 hβ
  have tu := taken_up h hβ hz
  have rf := row_find h h4 h8 h40 (ρ := β / (n - 2)) (by omega)
  have t1 : mRows (upd fW β 1) n ((n - 2) * (r - 6)) (β / (n - 2)) = true := (mRows_iff h4 h8 hN (by omega)).mpr ⟨β, hβ, by rw [pk_us]; rfl, rfl⟩
  have c1 : 0 < cnt (mRows (upd fW β 1) n ((n - 2) * (r - 6))) (r - 6) := cnt_pos.mpr ⟨_, hρ, t1⟩
  have bl : ∀ j, j < tk → jBlk (gTake β tk (nI (6 + β / (n - 2))) kp G) j = jBlk G j := fun j hj => by
    show (upd G.2.2.1 tk (nI β) j).toNatClampNeg = _
    rw [pk_un (by omega)]; rfl
  have rl : ∀ j, j < tk → jRow (gTake β tk (nI (6 + β / (n - 2))) kp G) j = jRow G j := fun j hj => by
    show (upd G.2.2.2.1 tk (nI (6 + β / (n - 2))) j).toNatClampNeg = _
    rw [pk_un (by omega)]; rfl
  have bt : jBlk (gTake β tk (nI (6 + β / (n - 2))) kp G) tk = β := by
    show (upd G.2.2.1 tk (nI β) tk).toNatClampNeg = _
    rw [pk_us, nI_clamp (by omega)]
  have rt : jRow (gTake β tk (nI (6 + β / (n - 2))) kp G) tk = 6 + β / (n - 2) := by
    show (upd G.2.2.2.1 tk (nI (6 + β / (n - 2))) tk).toNatClampNeg = _
    rw [pk_us, nI_clamp (by omega)]
  obtain ⟨g1, g2, g3, g4, g5, g6, g7, g8, g9, g10, g11⟩ := h
  have nb : ∀ j, j < tk → ¬ jBlk G j = β := fun j hj e => by
    rw [(g6 β).mpr ⟨j, hj, e⟩] at hz
    exact absurd hz (by decide)
  have g10 := g10 rfl
  refine ⟨⟨g1, g2, ⟨?_, by omega, sb_fitC g1 g3.2.2.1, fun j hj => ?_, fun j hj => ?_⟩, ⟨fun i j hi hj e => ?_, fun j hj => ?_⟩, fun j => ?_, fun b => ?_, tu, ?_, by omega, fun _ => ⟨fun j hj α hα => ?_, fun b hb e α hα => ?_⟩, (fun z => absurd z (by decide)), Or.inr hm⟩, bt⟩
  · show G.1 + 1 = _
    rw [g3.1, nI_1]
  · rcases (show j < tk ∨ j = tk by omega) with z | z
    · rw [bl j z]
      refine ⟨?_, (g3.2.2.2.1 j z).2⟩
      show upd G.2.2.1 tk (nI β) j = _
      rw [pk_un (by omega)]; exact (g3.2.2.2.1 j z).1
    · rw [z, bt]
      refine ⟨?_, by omega⟩
      show upd G.2.2.1 tk (nI β) tk = _
      rw [pk_us]
  · rcases (show j < tk ∨ j = tk by omega) with z | z
    · rw [rl j z]
      refine ⟨?_, (g3.2.2.2.2 j z).2⟩
      show upd G.2.2.2.1 tk (nI (6 + β / (n - 2))) j = _
      rw [pk_un (by omega)]; exact (g3.2.2.2.2 j z).1
    · rw [z, rt]
      refine ⟨?_, by omega⟩
      show upd G.2.2.2.1 tk (nI (6 + β / (n - 2))) tk = _
      rw [pk_us]
  · rcases (show i < tk ∨ i = tk by omega) with z | z
    · rcases (show j < tk ∨ j = tk by omega) with y | y
      · rw [bl i z, bl j y] at e; exact g4.1 i j z y e
      · rw [bl i z, y, bt] at e; exact absurd e (nb i z)
    · rcases (show j < tk ∨ j = tk by omega) with y | y
      · rw [bl j y, z, bt] at e; exact absurd e.symm (nb j y)
      · omega
  · rcases (show j < tk ∨ j = tk by omega) with z | z
    · rw [bl j z, rl j z]; exact g4.2 j z
    · rw [z, bt, rt]; exact ⟨hβ, rfl⟩
  · by_cases z : j = β
    · rw [z, pk_us]; exact Or.inr rfl
    · rw [pk_un z]; exact g5 j
  · by_cases z : b = β
    · rw [z, pk_us]; exact ⟨fun _ => ⟨tk, by omega, bt⟩, fun _ => rfl⟩
    · rw [pk_un z, g6]
      constructor
      · rintro ⟨j, hj, e⟩; exact ⟨j, by omega, by rw [bl j hj]; exact e⟩
      · rintro ⟨j, hj, e⟩
        rcases (show j < tk ∨ j = tk by omega) with y | y
        · exact ⟨j, y, by rw [← bl j y]; exact e⟩
        · rw [y, bt] at e; exact absurd e.symm z
  · show (if oI (gFind G.2.2.2.1 (nI (6 + β / (n - 2))) tk) < 0 then G.2.1 + 1 else G.2.1) = _
    rw [ru, g8]
    by_cases z : mRows fW n ((n - 2) * (r - 6)) (β / (n - 2)) = true
    · rw [if_pos z, if_neg (by rw [rf, z]; simp)]
    · rw [if_neg z, if_pos (rf.mpr (by simpa using z)), nI_1]
  · show _ = va_cpy kp G.2.2.2.2 (β * 64) (tk * 64) 64 (64 * j + α)
    rcases (show j < tk ∨ j = tk by omega) with z | z
    · rw [bl j z, pk_cpy_out (by omega)]; exact g10.1 j z α hα
    · rw [z, bt, pk_cpy_in (by omega) (by omega), show β * 64 + (64 * tk + α - tk * 64) = 64 * β + α by omega, g2 _ (by omega)]
      exact g10.2 β hβ hz α hα
  · by_cases z : b = β
    · rw [z, pk_us] at e; exact absurd e (by decide)
    · rw [pk_un z] at e; exact g10.2 b hb e α hα
/-- bytes set in a block of the group -/
theorem GR_set (h : GR n r true kp G tk fN fK fW) {j β α c : Nat} {v : Int32} (hj : j < tk) (hb : jBlk G j = β) (hc : α + c ≤ 64) : GR n r true kp (gSet (j * 64 + α) c v G) tk (fillF fN (vp_nar .byte v) (64 * β + α) c) fK fW := by
  obtain ⟨g1, g2, g3, g4, g5, g6, g7, g8, g9, g10, g11⟩ := h
  have g10 := g10 rfl
  refine ⟨g1, g2, ⟨g3.1, g3.2.1, fit_fill g3.2.2.1 c, g3.2.2.2.1, g3.2.2.2.2⟩, g4, g5, g6, g7, g8, g9, fun _ => ⟨fun i hi a ha => ?_, fun b hb2 e a ha => ?_⟩, g11⟩
  · show fillF fN (vp_nar .byte v) (64 * β + α) c (64 * jBlk G i + a) = fillF G.2.2.2.2 (vp_nar .byte v) (j * 64 + α) c (64 * i + a)
    rw [fillF_at, fillF_at]
    by_cases z : i = j
    · subst z
      rw [hb]
      have k := g10.1 i hi a ha
      rw [hb] at k
      by_cases y : 64 * β + α ≤ 64 * β + a ∧ 64 * β + a < 64 * β + α + c
      · rw [if_pos y, if_pos (by omega)]
      · rw [if_neg y, if_neg (by omega)]; exact k
    · have q : ¬ jBlk G i = β := fun e => z (g4.1 i j hi hj (by rw [e, hb]))
      rw [if_neg (by omega), if_neg (by omega)]; exact g10.1 i hi a ha
  · have q : ¬ b = β := fun z => by
      rw [z, (g6 β).mpr ⟨j, hj, hb⟩] at e
      exact absurd e (by decide)
    rw [fillF_at, if_neg (by omega)]
    exact g10.2 b hb2 e a ha
/-- the journal that a group becomes -/
theorem JM_become (h : GR n r true kp G tk fN fK fW) : JM n r (gBecome tk G J) tk (mAll fN fJ ((n - 2) * (r - 6))) (mSame fW fI ((n - 2) * (r - 6))) := by
  obtain ⟨g1, g2, g3, g4, g5, g6, g7, g8, g9, g10, g11⟩ := h
  have g10 := g10 rfl
  have bl : ∀ j, j < tk → jBlk (gBecome tk G J) j = jBlk G j := fun j hj => by
    show (va_cpy G.2.2.1 J.2.2.1 0 0 tk j).toNatClampNeg = _
    rw [pk_cpy_in (by omega) (by omega), show 0 + (j - 0) = j by omega]; rfl
  have rl : ∀ j, j < tk → jRow (gBecome tk G J) j = jRow G j := fun j hj => by
    show (va_cpy G.2.2.2.1 J.2.2.2.1 0 0 tk j).toNatClampNeg = _
    rw [pk_cpy_in (by omega) (by omega), show 0 + (j - 0) = j by omega]; rfl
  refine ⟨⟨fun i j hi hj e => ?_, fun j hj => ?_⟩, fun b hb => ?_, fun j hj α hα => ?_⟩
  · rw [bl i hi, bl j hj] at e; exact g4.1 i j hi hj e
  · rw [bl j hj, rl j hj]; exact g4.2 j hj
  · rw [mSame_at, if_pos hb]
    have e : (¬ fW b = 0) ↔ fW b = 1 := by
      rcases g5 b with z | z
      · rw [z]; decide
      · rw [z]; decide
    rw [e, g6]
    constructor
    · rintro ⟨j, hj, e⟩; exact ⟨j, hj, by rw [bl j hj]; exact e⟩
    · rintro ⟨j, hj, e⟩; exact ⟨j, hj, by rw [← bl j hj]; exact e⟩
  · have q := (g4.2 j hj).1
    rw [bl j hj, mAll_at, if_pos (by generalize (n - 2) * (r - 6) = N at q ⊢; omega), g10.1 j hj α hα, fit_nar (g3.2.2.1 _)]
    show _ = va_cpy G.2.2.2.2 J.2.2.2.2 0 0 (tk * 64) (64 * j + α)
    rw [pk_cpy_in (by omega) (by omega), show 0 + (64 * j + α - 0) = 64 * j + α by omega]
/-- what a committed group leaves: the new bytes are the kept ones -/
theorem now_kept (h : GR n r true kp G tk fN fK fW) {x : Nat} (hx : x < 64 * ((n - 2) * (r - 6))) : fN x = mPlace (mSame fW fI ((n - 2) * (r - 6))) (mAll fN fJ ((n - 2) * (r - 6))) fK ((n - 2) * (r - 6)) x := by
  obtain ⟨g1, g2, g3, g4, g5, g6, g7, g8, g9, g10, g11⟩ := h
  have g10 := g10 rfl
  have hb : x / 64 < (n - 2) * (r - 6) := by generalize (n - 2) * (r - 6) = N at hx ⊢; omega
  rw [mPlace_at, mSame_at, if_pos hb]
  by_cases q : fW (x / 64) = 0
  · rw [if_neg (fun z => z.2 q)]
    have := g10.2 _ hb q (x % 64) (by omega)
    rw [show 64 * (x / 64) + x % 64 = x by omega] at this
    exact this
  · rw [if_pos ⟨hb, q⟩, mAll_at, if_pos hx]
    have q2 : fW (x / 64) = 1 := by
      rcases g5 (x / 64) with z | z
      · exact absurd z q
      · exact z
    obtain ⟨j, hj, e⟩ := (g6 _).mp q2
    have k := g10.1 j hj (x % 64) (by omega)
    rw [e, show 64 * (x / 64) + x % 64 = x by omega] at k
    rw [k, fit_nar (g3.2.2.1 _), fit_nar (g3.2.2.1 _)]
theorem fits_K (h : GR n r on kp G tk fN fK fW) {x : Nat} (hx : x < 13056) : vp_nar .byte (fK x) = fK x := by
  rw [← h.2.1 x hx]; exact fit_nar (h.1 x)
end GRP
