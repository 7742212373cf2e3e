/-! the labels of both sides as numbers -/
def rh (sw s : Nat) : Nat := if sw = 0 then s else 1 - s
theorem rh_lt {sw s : Nat} (h : s < 2) : rh sw s < 2 := by unfold rh; split <;> omega
theorem rh_rh {sw s : Nat} (h : s < 2) : rh sw (rh sw s) = s := by unfold rh; split <;> omega
theorem rh_inj {sw s t : Nat} (hs : s < 2) (ht : t < 2) (h : rh sw s = rh sw t) : s = t := by unfold rh at h; split at h <;> omega
theorem rh_1 {sw s : Nat} (hs : s < 2) : rh sw (1 - s) = 1 - rh sw s := by unfold rh; split <;> omega
def cI (off v : Nat) : Int32 := if v = 0 then 0 else nI (v + off)
theorem cI_0 {off : Nat} : cI off 0 = 0 := if_pos rfl
theorem cI_p {off v : Nat} (h : 1 ≤ v) : cI off v = nI (v + off) := if_neg (by omega)
theorem nI_z {v : Nat} (h : v < 2 ^ 31) : nI v = 0 ↔ v = 0 := nI_eq (b := 0) h (by decide)
theorem cI_z {off v : Nat} (h : v + off < 2 ^ 31) : cI off v = 0 ↔ v = 0 := by
  rcases Nat.eq_zero_or_pos v with rfl | q
  · rw [cI_0]; simp
  · rw [cI_p q, nI_z h]; omega
theorem cI_inj {off v u : Nat} (hv : v + off < 2 ^ 31) (hu : u + off < 2 ^ 31) : cI off v = cI off u ↔ v = u := by
  rcases Nat.eq_zero_or_pos u with rfl | q
  · rw [cI_0, cI_z hv]
  · rcases Nat.eq_zero_or_pos v with rfl | q2
    · rw [cI_0]
      constructor
      · intro h; exact ((cI_z hu).mp h.symm).symm
      · intro h; omega
    · rw [cI_p q, cI_p q2, nI_eq hv hu]; omega
/-- both sides' halves -/
def LH (off sw : Nat) (L : LL) (fF fS : FF) (f g : HH) : Prop := ∀ d s, d < 8 → s < 2 → fF (2 * d + s) = nI (f d s) ∧ fS (2 * d + s) = nI (g d s) ∧ L.2 (rh sw s) d = cI off (f d s) ∧ L.2 (2 + rh sw s) d = cI off (g d s)
theorem lPut_at {w d k e : Nat} {part : Int32} {L : LL} (hw : w < 2) : (lPut w d part L).2 k e = if e = d ∧ ((k = w ∧ (part = 1 ∨ part = 2)) ∨ (k = 2 + w ∧ (part = 1 ∨ part = 3))) then L.2 6 w else L.2 k e := by
  have a1 : ∀ k e, (lP1 w d part L).2 k e = if e = d ∧ k = w ∧ (part = 1 ∨ part = 2) then L.2 6 w else L.2 k e := by
    intro k e
    unfold lP1
    by_cases q : part = 1 ∨ part = 2
    · rw [if_pos q]
      by_cases z : k = w
      · subst z
        show va_up L.2 k _ k e = _
        rw [va_up_self]
        by_cases y : e = d
        · subst y; rw [pk_us, if_pos ⟨rfl, rfl, q⟩]
        · rw [pk_un y, if_neg (fun h => y h.1)]
      · show va_up L.2 w _ k e = _
        rw [va_up_ne _ _ z, if_neg (fun h => z h.2.1)]
    · rw [if_neg q, if_neg (fun h => q h.2.2)]
  have a2 : ∀ (M : LL) k e, (lP2 w d part M).2 k e = if e = d ∧ k = 2 + w ∧ (part = 1 ∨ part = 3) then M.2 6 w else M.2 k e := by
    intro M k e
    unfold lP2
    by_cases q : part = 1 ∨ part = 3
    · rw [if_pos q]
      by_cases z : k = 2 + w
      · subst z
        show va_up M.2 (2 + w) _ (2 + w) e = _
        rw [va_up_self]
        by_cases y : e = d
        · subst y; rw [pk_us, if_pos ⟨rfl, rfl, q⟩]
        · rw [pk_un y, if_neg (fun h => y h.1)]
      · show va_up M.2 (2 + w) _ k e = _
        rw [va_up_ne _ _ z, if_neg (fun h => z h.2.1)]
    · rw [if_neg q, if_neg (fun h => q h.2.2)]
  unfold lPut
  rw [a2, a1, a1, if_neg (show ¬ (w = d ∧ 6 = w ∧ (part = 1 ∨ part = 2)) from fun h => by omega)]
  by_cases h1 : e = d ∧ k = 2 + w ∧ (part = 1 ∨ part = 3)
  · rw [if_pos h1, if_pos ⟨h1.1, Or.inr h1.2⟩]
  · rw [if_neg h1]
    by_cases h2 : e = d ∧ k = w ∧ (part = 1 ∨ part = 2)
    · rw [if_pos h2, if_pos ⟨h2.1, Or.inl h2.2⟩]
    · rw [if_neg h2, if_neg (fun h => by rcases h with ⟨z, y | y⟩; exact h2 ⟨z, y⟩; exact h1 ⟨z, y⟩)]
/-- a label written on those of the first disks that c names -/
def gW (c : Nat → Bool) (bits : Int64) (w : Nat) : Nat → LL → LL
  | 0, L => L
  | d + 1, L => if c d = true then lPut w d (pPart bits (cnt c d)) (gW c bits w d L) else gW c bits w d L
theorem gW_6 {c : Nat → Bool} {bits : Int64} {w : Nat} {L : LL} (hw : w < 2) {k : Nat} (hk : 4 ≤ k) : ∀ m, (gW c bits w m L).2 k = L.2 k
  | 0 => rfl
  | m + 1 => by
    rw [gW]; split
    · rw [lPut_ar w m (by omega) _ _ k hk]; exact gW_6 hw hk m
    · exact gW_6 hw hk m
theorem gW_at {c : Nat → Bool} {bits : Int64} {w : Nat} {L : LL} (hw : w < 2) {k e : Nat} : ∀ m, (gW c bits w m L).2 k e = if e < m ∧ c e = true ∧ ((k = w ∧ (pPart bits (cnt c e) = 1 ∨ pPart bits (cnt c e) = 2)) ∨ (k = 2 + w ∧ (pPart bits (cnt c e) = 1 ∨ pPart bits (cnt c e) = 3))) then L.2 6 w else L.2 k e
  | 0 => by rw [if_neg (fun h => absurd h.1 (by omega))]; rfl
  | m + 1 => by
    rw [gW]
    cases hc : c m with
    | true =>
      rw [if_pos rfl, lPut_at hw, gW_6 hw (by omega)]
      by_cases y : e = m
      · subst y
        by_cases q : ((k = w ∧ (pPart bits (cnt c e) = 1 ∨ pPart bits (cnt c e) = 2)) ∨ (k = 2 + w ∧ (pPart bits (cnt c e) = 1 ∨ pPart bits (cnt c e) = 3)))
        · rw [if_pos ⟨rfl, q⟩, if_pos ⟨by omega, hc, q⟩]
        · rw [if_neg (fun h => q h.2), gW_at hw e, if_neg (fun h => absurd h.1 (by omega)), if_neg (fun h => q h.2.2)]
      · rw [if_neg (fun h => y h.1), gW_at hw m]
        by_cases q : e < m
        · simp only [q, show e < m + 1 by omega]
        · rw [if_neg (fun h => q h.1), if_neg (fun h => absurd h.1 (by omega))]
    | false =>
      rw [if_neg (by simp), gW_at hw m]
      by_cases y : e = m
      · subst y
        rw [if_neg (fun h => absurd h.1 (by omega)), if_neg (fun h => by rw [hc] at h; cases h.2.1)]
      · by_cases q : e < m
        · simp only [q, show e < m + 1 by omega]
        · rw [if_neg (fun h => q h.1), if_neg (fun h => absurd h.1 (by omega))]
theorem gW_1 {c : Nat → Bool} {bits : Int64} {w : Nat} {L : LL} : ∀ m, (gW c bits w m L).1 = L.1
  | 0 => rfl
  | m + 1 => by
    rw [gW]; split
    · rw [lPut_sc]; exact gW_1 m
    · exact gW_1 m
theorem gW_cg {c c' : Nat → Bool} {bits : Int64} {w : Nat} {L : LL} : ∀ m, (∀ d, d < m → c d = c' d) → gW c bits w m L = gW c' bits w m L
  | 0, _ => rfl
  | m + 1, h => by
    rw [gW, gW, h m (by omega), gW_cg m (fun d hd => h d (by omega)), cnt_congr (fun d hd => h d (by omega))]
theorem pWrite_eq {P : PP} {bits : Int64} {w : Nat} {L : LL} : ∀ m, pWrite P bits w m L = (gW (fun d => !decide (pMk P d = -1)) bits w m L, cnt (fun d => !decide (pMk P d = -1)) m)
  | 0 => rfl
  | m + 1 => by
    rw [pWrite, pWrite_eq m, gW, cnt]
    by_cases q : pMk P m = -1
    · rw [if_pos q, if_neg (by simp [q]), if_neg (by simp [q])]; rfl
    · rw [if_neg q, if_pos (by simp [q]), if_pos (by simp [q])]
theorem lSome_cg {L L' : LL} {d : Nat} (h : ∀ k, k < 4 → L.2 k d = L'.2 k d) : lSome d L = lSome d L' := by
  unfold lSome lHas
  rw [h 0 (by omega), h 1 (by omega), h (2 + 0) (by omega), h (2 + 1) (by omega)]
theorem pAgain_eq {bits : Int64} {w : Nat} {L : LL} (hw : w < 2) : ∀ m, pAgain bits w m L = (gW (fun d => lSome d L) bits w m L, cnt (fun d => lSome d L) m)
  | 0 => rfl
  | m + 1 => by
    have e : lSome m (gW (fun d => lSome d L) bits w m L) = lSome m L := lSome_cg (fun k hk => by rw [gW_at hw, if_neg (fun h => absurd h.1 (by omega))])
    rw [pAgain, pAgain_eq hw m, gW, cnt, e]
    cases hc : lSome m L with
    | true => simp
    | false => simp
/-! the reference's side -/
theorem mHas_cg {fL a b a' b' : FF} {d : Nat} (h0 : a (2 * d) = a' (2 * d)) (h1 : a (2 * d + 1) = a' (2 * d + 1)) (h2 : b (2 * d) = b' (2 * d)) (h3 : b (2 * d + 1) = b' (2 * d + 1)) : mHas fL a b d = mHas fL a' b' d := by
  unfold mHas mHas1
  rw [h0, h1, h2, h3]
def mC (fL : FF) (sm : Int32) (fF fS : FF) (d : Nat) : Bool := decide (fL d = 0 ∧ (sm = 0 ∨ ¬ mHas fL fF fS d ≤ 0))
theorem mSp_at {fL fF fS : FF} {x p : Nat} {sm fl : Int32} {bits : Int64} (hp : p < 2) : ∀ m, (mSp fL x p sm fl bits fF fS m).2.2 = cnt (mC fL sm fF fS) m ∧ ∀ e s, s < 2 →
      (mSp fL x p sm fl bits fF fS m).1 (2 * e + s) = (if e < m ∧ mC fL sm fF fS e = true ∧ s = p ∧ (mHow fl bits (cnt (mC fL sm fF fS) e) = 1 ∨ mHow fl bits (cnt (mC fL sm fF fS) e) = 2) then nI x else fF (2 * e + s)) ∧
      (mSp fL x p sm fl bits fF fS m).2.1 (2 * e + s) = (if e < m ∧ mC fL sm fF fS e = true ∧ s = p ∧ (mHow fl bits (cnt (mC fL sm fF fS) e) = 1 ∨ mHow fl bits (cnt (mC fL sm fF fS) e) = 3) then nI x else fS (2 * e + s))
  | 0 => ⟨rfl, fun e s _ => ⟨by rw [if_neg (fun h => absurd h.1 (by omega))]; rfl, by rw [if_neg (fun h => absurd h.1 (by omega))]; rfl⟩⟩
  | m + 1 => by
    obtain ⟨i1, i2⟩ := mSp_at (fL := fL) (fF := fF) (fS := fS) (x := x) (sm := sm) (fl := fl) (bits := bits) hp m
    have k0 := i2 m 0 (by omega)
    have k1 := i2 m 1 (by omega)
    rw [if_neg (fun h => absurd h.1 (by omega)), if_neg (fun h => absurd h.1 (by omega))] at k0 k1
    have eh : mHas fL (mSp fL x p sm fl bits fF fS m).1 (mSp fL x p sm fl bits fF fS m).2.1 m = mHas fL fF fS m := mHas_cg k0.1 k1.1 k0.2 k1.2
    rw [mSp, eh, i1]
    by_cases q : fL m = 0 ∧ (sm = 0 ∨ ¬ mHas fL fF fS m ≤ 0)
    · have hc : mC fL sm fF fS m = true := decide_eq_true q
      rw [if_pos q]
      refine ⟨by rw [cnt, if_pos hc], fun e s hs => ?_⟩
      obtain ⟨j1, j2⟩ := i2 e s hs
      constructor
      · show mPut1 _ x _ (2 * m + p) (2 * e + s) = _
        unfold mPut1
        by_cases z : e = m ∧ s = p
        · obtain ⟨rfl, rfl⟩ := z
          rw [pk_us, j1, if_neg (show ¬ (e < e ∧ _) from fun h => absurd h.1 (by omega))]
          by_cases y : mHow fl bits (cnt (mC fL sm fF fS) e) = 1 ∨ mHow fl bits (cnt (mC fL sm fF fS) e) = 2
          · rw [if_pos y, if_pos ⟨by omega, hc, rfl, y⟩]
          · rw [if_neg y, if_neg (fun h => y h.2.2.2)]
        · rw [pk_un (by omega), j1]
          by_cases y : e < m
          · simp only [y, show e < m + 1 by omega]
          · rw [if_neg (fun h => y h.1), if_neg (fun h => by have := h.1; exact z ⟨by omega, h.2.2.1⟩)]
      · show mPut2 _ x _ (2 * m + p) (2 * e + s) = _
        unfold mPut2
        by_cases z : e = m ∧ s = p
        · obtain ⟨rfl, rfl⟩ := z
          rw [pk_us, j2, if_neg (show ¬ (e < e ∧ _) from fun h => absurd h.1 (by omega))]
          by_cases y : mHow fl bits (cnt (mC fL sm fF fS) e) = 1 ∨ mHow fl bits (cnt (mC fL sm fF fS) e) = 3
          · rw [if_pos y, if_pos ⟨by omega, hc, rfl, y⟩]
          · rw [if_neg y, if_neg (fun h => y h.2.2.2)]
        · rw [pk_un (by omega), j2]
          by_cases y : e < m
          · simp only [y, show e < m + 1 by omega]
          · rw [if_neg (fun h => y h.1), if_neg (fun h => by have := h.1; exact z ⟨by omega, h.2.2.1⟩)]
    · have hc : mC fL sm fF fS m = false := decide_eq_false q
      rw [if_neg q]
      refine ⟨by rw [i1, cnt, hc]; rfl, fun e s hs => ?_⟩
      obtain ⟨j1, j2⟩ := i2 e s hs
      have hz : ∀ X : Prop, (e < m ∧ mC fL sm fF fS e = true ∧ X) ↔ (e < m + 1 ∧ mC fL sm fF fS e = true ∧ X) := by
        intro X
        constructor
        · intro h; exact ⟨by omega, h.2⟩
        · intro h
          refine ⟨?_, h.2⟩
          rcases Nat.lt_or_ge e m with y | y
          · exact y
          · have : e = m := by omega
            rw [this, hc] at h; cases h.2.1
      rw [j1, j2]
      simp only [hz]
      exact ⟨trivial, trivial⟩
/-- both sides write the label x -/
theorem LH_wr {off sw n x p w : Nat} {L : LL} {fF fS fL : FF} {f g : HH} {sm fl : Int32} {bC bM : Int64} {c : Nat → Bool} (h : LH off sw L fF fS f g) (hp : p < 2) (hw : w = rh sw p) (hnum : L.2 6 w = nI (x + off)) (hx : 1 ≤ x) (hn : n ≤ 8) (hc : ∀ d, d < n → mC fL sm fF fS d = c d) (hb : ∀ k, k < 8 → pPart bC k = mHow fl bM k) :
    LH off sw (gW c bC w n L) (mSp fL x p sm fl bM fF fS n).1 (mSp fL x p sm fl bM fF fS n).2.1
      (wr f x p (fun d => decide (d < n) && c d) (fun d => decide (pPart bC (cnt c d) = 1 ∨ pPart bC (cnt c d) = 2))) (wr g x p (fun d => decide (d < n) && c d) (fun d => decide (pPart bC (cnt c d) = 1 ∨ pPart bC (cnt c d) = 3))) := by
  have hw2 : w < 2 := by rw [hw]; exact rh_lt hp
  intro d s hd hs
  obtain ⟨h1, h2, h3, h4⟩ := h d s hd hs
  obtain ⟨m1, m2⟩ := (mSp_at (fL := fL) (fF := fF) (fS := fS) (x := x) (sm := sm) (fl := fl) (bits := bM) hp n).2 d s hs
  have hs2 := rh_lt (sw := sw) hs
  have key : d < n → mC fL sm fF fS d = c d ∧ mHow fl bM (cnt (mC fL sm fF fS) d) = pPart bC (cnt c d) := fun q => by
    refine ⟨hc d q, ?_⟩
    rw [cnt_congr (fun j hj => hc j (by omega)), hb]
    exact Nat.lt_of_le_of_lt (cnt_le c d) (by omega)
  have e1 : rh sw s = w ↔ s = p := by rw [hw]; exact ⟨fun z => rh_inj hs hp z, fun z => by rw [z]⟩
  rw [m1, m2, gW_at hw2, gW_at hw2]
  unfold wr
  have a0 : ¬ (rh sw s = 2 + w) := by omega
  have a1 : ¬ (2 + rh sw s = w) := by omega
  have a2 : 2 + rh sw s = 2 + w ↔ s = p := by rw [← e1]; omega
  simp only [a0, a1, a2, e1, false_and, or_false, false_or, Bool.and_eq_true, decide_eq_true_eq]
  by_cases q : d < n
  · obtain ⟨k1, k2⟩ := key q
    rw [k1, k2, hnum]
    refine ⟨?_, ?_, ?_, ?_⟩
    · by_cases z : d < n ∧ c d = true ∧ s = p ∧ (pPart bC (cnt c d) = 1 ∨ pPart bC (cnt c d) = 2)
      · rw [if_pos z, if_pos ⟨⟨z.1, z.2.1⟩, z.2.2⟩]
      · rw [if_neg z, if_neg (fun y => z ⟨y.1.1, y.1.2, y.2⟩)]; exact h1
    · by_cases z : d < n ∧ c d = true ∧ s = p ∧ (pPart bC (cnt c d) = 1 ∨ pPart bC (cnt c d) = 3)
      · rw [if_pos z, if_pos ⟨⟨z.1, z.2.1⟩, z.2.2⟩]
      · rw [if_neg z, if_neg (fun y => z ⟨y.1.1, y.1.2, y.2⟩)]; exact h2
    · by_cases z : d < n ∧ c d = true ∧ s = p ∧ (pPart bC (cnt c d) = 1 ∨ pPart bC (cnt c d) = 2)
      · rw [if_pos z, if_pos ⟨⟨z.1, z.2.1⟩, z.2.2⟩, cI_p hx]
      · rw [if_neg z, if_neg (fun y => z ⟨y.1.1, y.1.2, y.2⟩)]; exact h3
    · by_cases z : d < n ∧ c d = true ∧ s = p ∧ (pPart bC (cnt c d) = 1 ∨ pPart bC (cnt c d) = 3)
      · rw [if_pos z, if_pos ⟨⟨z.1, z.2.1⟩, z.2.2⟩, cI_p hx]
      · rw [if_neg z, if_neg (fun y => z ⟨y.1.1, y.1.2, y.2⟩)]; exact h4
  · simp only [q, false_and, if_false]
    exact ⟨h1, h2, h3, h4⟩
