theorem pFinish_c {P : PP} {w n : Nat} {L : LL} (hq : 1 - L.1 1 = nI w) : (pFinish P w n L).1 1 = nI w := by
  show va_up (pWrite P 6148914691236517205 w n L).1.1 1 (1 - (pWrite P 6148914691236517205 w n L).1.1 1) 1 = nI w
  rw [va_up_self, pWrite_sc]; exact hq
theorem flipW {w : Nat} (hw : w = 0 ∨ w = 1) : (1 : Int32) - nI w = nI (1 - w) := by rcases hw with rfl | rfl <;> decide
theorem pFinish_q {P : PP} {w n : Nat} {L : LL} (hw : w = 0 ∨ w = 1) (hq : 1 - L.1 1 = nI w) : 1 - (pFinish P w n L).1 1 = nI (1 - w) := by rw [pFinish_c hq]; exact flipW hw
theorem flipO {w : Nat} (hw : w = 0 ∨ w = 1) : 1 - w = 0 ∨ 1 - w = 1 := by omega
theorem lPut_ar (w d : Nat) (hw : w = 0 ∨ w = 1) (part : Int32) (L : LL) (k : Nat) (hk : 4 ≤ k) : (lPut w d part L).2 k = L.2 k := by
  have e1 : ∀ M : LL, (lP1 w d part M).2 k = M.2 k := fun M => by
    unfold lP1; split
    · exact va_up_ne _ _ (by omega)
    · rfl
  have e2 : ∀ M : LL, (lP2 w d part M).2 k = M.2 k := fun M => by
    unfold lP2; split
    · exact va_up_ne _ _ (by omega)
    · rfl
  unfold lPut; rw [e2, e1]
theorem pAgain_ar (bits : Int64) (w : Nat) (hw : w = 0 ∨ w = 1) (L : LL) (k : Nat) (hk : 4 ≤ k) : ∀ d, (pAgain bits w d L).1.2 k = L.2 k
  | 0 => rfl
  | d + 1 => by
    rw [pAgain]; split
    · show (lPut w d _ _).2 k = _
      rw [lPut_ar w d hw _ _ k hk]; exact pAgain_ar bits w hw L k hk d
    · exact pAgain_ar bits w hw L k hk d
theorem pWrite_ar (P : PP) (bits : Int64) (w : Nat) (hw : w = 0 ∨ w = 1) (L : LL) (k : Nat) (hk : 4 ≤ k) : ∀ d, (pWrite P bits w d L).1.2 k = L.2 k
  | 0 => rfl
  | d + 1 => by
    rw [pWrite]; split
    · exact pWrite_ar P bits w hw L k hk d
    · show (lPut w d _ _).2 k = _
      rw [lPut_ar w d hw _ _ k hk]; exact pWrite_ar P bits w hw L k hk d
theorem narB {x : Int32} (h : x = 0 ∨ x = 1) : narrow .boolean (.int x) = .int x := by rcases h with rfl | rfl <;> rfl
/-- n bytes from a place of a group on -/
theorem set64 {pl t cn : Int32} {p n : Nat} (hp : pl = nI p) (ht : t = nI t.toNatClampNeg) (h64 : t.toNatClampNeg < 64) (h24 : p < 24) (h1 : ¬ cn < 1) (h2 : ¬ 64 - t < cn) :
    pl * 64 + t = nI (pl * 64 + t).toNatClampNeg ∧ pl * 64 + t + cn = nI ((pl * 64 + t).toNatClampNeg + cn.toNatClampNeg) ∧ (pl * 64 + t).toNatClampNeg + cn.toNatClampNeg ≤ 1536 ∧ (pl * 64 + t).toNatClampNeg = p * 64 + t.toNatClampNeg ∧ cn = nI cn.toNatClampNeg ∧ 1 ≤ cn.toNatClampNeg ∧ t.toNatClampNeg + cn.toNatClampNeg ≤ 64 := by
  have h0 : ¬ cn < 0 := fun z => h1 (Int32.lt_trans z (by decide))
  have ec := clamp_nI h0
  generalize hc : cn.toNatClampNeg = k at ec ⊢
  generalize ht2 : t.toNatClampNeg = α at ht h64 ⊢
  obtain ⟨e1, e2⟩ := idx64 (m := 24) hp ht h24 h64 (by omega)
  rw [ht, show (64 - nI α) = nI (64 - α) from pk_sub (a := 64) (b := α) (by omega), ec] at h2
  rw [ec] at h1
  have hk31 : k < 2 ^ 31 := by
    obtain ⟨j, hj, ej⟩ := nI_of h0
    rw [ej, nI_clamp hj] at hc
    omega
  have hk : k ≤ 64 - α := Nat.not_lt.mp (fun z => h2 (nI_lt z hk31))
  have hk1 : 1 ≤ k := Nat.not_lt.mp (fun z => h1 (nI_lt (b := 1) z (by omega)))
  refine ⟨e1, ?_, by omega, e2, ec, hk1, by omega⟩
  rw [e2, show pl * 64 + t = nI (p * 64 + α) from e1.trans (by rw [e2]), ec]
  exact nI_add _ _
