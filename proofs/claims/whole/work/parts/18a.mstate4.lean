theorem wr9 {cn t : Int32} (h1 : ¬ cn < 1) (h2 : ¬ 64 < cn) (h3 : ¬ t < 0) (h4 : ¬ 64 - cn < t) : t = nI t.toNatClampNeg ∧ cn = nI cn.toNatClampNeg ∧ 1 ≤ cn.toNatClampNeg ∧ t.toNatClampNeg + cn.toNatClampNeg ≤ 64 := by
  have h0 : ¬ cn < 0 := fun z => h1 (Int32.lt_trans z (by decide))
  obtain ⟨j, hj, e⟩ := nI_of h0
  obtain ⟨k, hk, e2⟩ := nI_of h3
  have ej : (nI j).toNatClampNeg = j := nI_clamp hj
  have ek : (nI k).toNatClampNeg = k := nI_clamp hk
  rw [e, e2, ej, ek]
  rw [e] at h1 h2
  have hj64 : j ≤ 64 := Nat.not_lt.mp (fun z => h2 (nI_lt (a := 64) z hj))
  have hj1 : 1 ≤ j := Nat.not_lt.mp (fun z => h1 (nI_lt (b := 1) z (by omega)))
  rw [e, e2, show (64 - nI j) = nI (64 - j) from pk_sub (a := 64) (b := j) hj64] at h4
  have : k ≤ 64 - j := Nat.not_lt.mp (fun z => h4 (nI_lt z hk))
  exact ⟨rfl, rfl, hj1, by omega⟩
