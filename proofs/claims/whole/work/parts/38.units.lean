/-! the units that mounting writes, counted in two orders -/
def inB (v : Nat → Nat) (x : Nat) : Nat → Bool
  | 0 => false
  | t + 1 => inB v x t || decide (v t = x)
theorem inB_iff {v : Nat → Nat} {x : Nat} : ∀ {t : Nat}, inB v x t = true ↔ ∃ j, j < t ∧ v j = x
  | 0 => ⟨fun h => absurd (show false = true from h) (by decide), fun ⟨j, h, _⟩ => absurd h (by omega)⟩
  | t + 1 => by
    rw [inB, Bool.or_eq_true, decide_eq_true_eq, inB_iff (t := t)]
    constructor
    · rintro (⟨j, h1, h2⟩ | h)
      · exact ⟨j, by omega, h2⟩
      · exact ⟨t, by omega, h⟩
    · rintro ⟨j, h1, h2⟩
      by_cases z : j = t
      · subst z; exact Or.inr h2
      · exact Or.inl ⟨j, by omega, h2⟩
def sm (f : Nat → Nat) : Nat → Nat
  | 0 => 0
  | n + 1 => sm f n + f n
theorem sm_cg {f g : Nat → Nat} : ∀ {n : Nat}, (∀ j, j < n → f j = g j) → sm f n = sm g n
  | 0, _ => rfl
  | n + 1, h => by rw [sm, sm, sm_cg (fun j hj => h j (by omega)), h n (by omega)]
theorem sm_0 {f : Nat → Nat} : ∀ {n : Nat}, (∀ j, j < n → f j = 0) → sm f n = 0
  | 0, _ => rfl
  | n + 1, h => by rw [sm, sm_0 (fun j hj => h j (by omega)), h n (by omega)]
theorem sm_one {f g : Nat → Nat} {e a : Nat} : ∀ {n : Nat}, e < n → (∀ j, j < n → j ≠ e → g j = f j) → g e = f e + a → sm g n = sm f n + a
  | 0, h, _, _ => absurd h (by omega)
  | n + 1, h, h2, h3 => by
    rw [sm, sm]
    by_cases z : n = e
    · subst z
      rw [sm_cg (f := g) (g := f) (fun j hj => h2 j (by omega) (by omega)), h3]; omega
    · rw [sm_one (n := n) (by omega) (fun j hj => h2 j (by omega)) h3, h2 n (by omega) z]; omega
theorem sm_add {f g : Nat → Nat} : ∀ {n : Nat}, sm (fun j => f j + g j) n = sm f n + sm g n
  | 0 => rfl
  | n + 1 => by rw [sm, sm, sm, sm_add (n := n)]; omega
theorem sm_img {v c : Nat → Nat} {N : Nat} : ∀ {t : Nat}, (∀ i, i < t → v i < N) → sm (fun i => if inB v (v i) i = true then 0 else c (v i)) t = sm (fun x => if inB v x t = true then c x else 0) N
  | 0, _ => by rw [sm_0 (f := fun x => if inB v x 0 = true then c x else 0) (fun j _ => rfl)]; rfl
  | t + 1, h => by
    rw [sm, sm_img (fun i hi => h i (by omega))]
    by_cases z : inB v (v t) t = true
    · rw [if_pos z, Nat.add_zero]
      refine sm_cg (fun x _ => ?_)
      have : inB v x (t + 1) = inB v x t := by
        rw [inB]
        by_cases y : v t = x
        · rw [← y, z]; rfl
        · simp [y]
      rw [this]
    · rw [if_neg z]
      refine (sm_one (e := v t) (h t (by omega)) (fun x _ hx => ?_) ?_).symm
      · have : inB v x (t + 1) = inB v x t := by
          rw [inB, decide_eq_false (fun y => hx (Eq.symm y)), Bool.or_false]
        rw [this]
      · have : inB v (v t) (t + 1) = true := by rw [inB]; simp
        rw [if_pos this, if_neg z]; omega
def uW (fL fM : FF) (n t u : Nat) : Nat := if fL ((t + u) % n) = 0 ∧ nI t < fM ((t + u) % n) then 1 else 0
section UNI
variable {n r tj : Nat} {P : PP} {rt : Nat → Int64} {fL fM fR : FF} {mu : Nat → Nat} {J : GG} {fJ fI : FF}
theorem mW_eq {t u : Nat} : mW fL fM n (t + u) t = nI (uW fL fM n t u) := by
  unfold mW uW
  by_cases a : fL ((t + u) % n) = 0
  · rw [if_pos a]
    by_cases b : nI t < fM ((t + u) % n)
    · rw [if_pos b, if_pos ⟨a, b⟩]; rfl
    · rw [if_neg b, if_neg (fun z => b z.2)]; rfl
  · rw [if_neg a, if_neg (fun z => a z.1)]; rfl
theorem tU_eq (h : DK n r (pMk P) rt fL fM fR mu) (hn : 4 ≤ n) {t u : Nat} (ht : t < 2 ^ 31) : tU P n t u = nI (uW fL fM n t u) := by
  have hd : (t + u) % n < n := Nat.mod_lt _ (by omega)
  unfold tU uW
  rcases (h _ hd).1 with ⟨a, b, c, e⟩ | ⟨a, b⟩
  · rw [b, c]
    by_cases q : nI (mu ((t + u) % n)) ≤ nI t
    · rw [if_pos q, if_neg (fun z => absurd z.2 (Int32.not_lt.mpr q))]; rfl
    · rw [if_neg q, if_pos ⟨a, Int32.not_le.mp q⟩]; rfl
  · rw [b, if_pos (m1_le ht), if_neg (by rw [a]; exact fun z => absurd z.1 (by decide))]; rfl
def jT (fL fM : FF) (J : GG) (n i : Nat) : Nat := uW fL fM n (jRow J i) (2 + jBlk J i % (n - 2)) + (if inB (jRow J) (jRow J i) i = true then 0 else uW fL fM n (jRow J i) 0 + uW fL fM n (jRow J i) 1)
theorem first_iff (hG : GI J tj) {k : Nat} (hk : k < tj) : oI (gFind J.2.2.2.1 (J.2.2.2.1 k) tj) = nI k ↔ inB (jRow J) (jRow J k) k = false := by
  have e : ∀ i, i < tj → (J.2.2.2.1 i = J.2.2.2.1 k ↔ jRow J i = jRow J k) := fun i hi => by
    have a := hG.2.2.2.2 i hi
    have b := hG.2.2.2.2 k hk
    rw [a.1, b.1, nI_eq (by omega) (by omega)]
  have htj := hG.2.1
  rw [← Bool.not_eq_true, inB_iff]
  constructor
  · rintro h ⟨j, hj, ej⟩
    cases q : gFind J.2.2.2.1 (J.2.2.2.1 k) tj with
    | none => exact gFind_not q k hk rfl
    | some i =>
      rw [q] at h
      obtain ⟨i1, i2, i3⟩ := gFind_spec q
      have : i = k := (nI_eq (by omega) (by omega)).mp h
      subst this
      exact i3 j hj ((e j (by omega)).mpr ej)
  · intro h
    rw [gFind_some rfl (fun j hj z => h ⟨j, hj, (e j (by omega)).mp z⟩) hk]
    rfl
theorem jU_sm (h : DK n r (pMk P) rt fL fM fR mu) (hn : 4 ≤ n) (hG : GI J tj) : ∀ k, k ≤ tj → jU P J n tj k = nI (sm (jT fL fM J n) k)
  | 0, _ => rfl
  | k + 1, hk => by
    have hr : jRow J k < 40 := (hG.2.2.2.2 k (by omega)).2
    rw [jU, jU_sm h hn hG k (by omega), tU_eq h hn (by omega), tU_eq h hn (by omega), tU_eq h hn (by omega), sm, jT, nI_add, nI_add, nI_add]
    have q := first_iff hG (show k < tj by omega)
    by_cases z : inB (jRow J) (jRow J k) k = true
    · rw [if_neg (by rw [q, z]; simp), if_pos z, Nat.add_zero]
    · rw [if_pos (q.mpr (by simpa using z)), if_neg z]
      congr 1
      omega
theorem mPl1_sm {N : Nat} : ∀ m, mPl1 fL fM fI n N m = nI (sm (fun t => if mRows fI n N t = true then uW fL fM n (6 + t) 0 + uW fL fM n (6 + t) 1 else 0) m)
  | 0 => rfl
  | m + 1 => by
    rw [mPl1, mPl1_sm m, sm]
    have e0 : mW fL fM n (6 + m) (6 + m) = nI (uW fL fM n (6 + m) 0) := mW_eq (t := 6 + m) (u := 0)
    have e1 : mW fL fM n (6 + m + 1) (6 + m) = nI (uW fL fM n (6 + m) 1) := mW_eq (t := 6 + m) (u := 1)
    rw [e0, e1]
    by_cases z : nI (cnt (mInRow fI n (6 + m)) N) ≤ 0
    · rw [if_pos z, if_neg (by unfold mRows; simp [z]), Nat.add_zero]
    · rw [if_neg z, if_pos (by unfold mRows; simp [z]), nI_add, nI_add]
theorem mPl2_sm {s : Nat} : ∀ m, mPl2 fL fM fI n (nI s) m = nI (s + sm (fun q => if fI q = 0 then 0 else uW fL fM n (6 + q / (n - 2)) (2 + q % (n - 2))) m)
  | 0 => rfl
  | m + 1 => by
    rw [mPl2, mPl2_sm m, sm]
    have e0 : mW fL fM n (6 + m / (n - 2) + 2 + m % (n - 2)) (6 + m / (n - 2)) = nI (uW fL fM n (6 + m / (n - 2)) (2 + m % (n - 2))) := by
      rw [show 6 + m / (n - 2) + 2 + m % (n - 2) = 6 + m / (n - 2) + (2 + m % (n - 2)) by omega]
      exact mW_eq
    rw [e0]
    by_cases z : fI m = 0
    · rw [if_pos z, if_pos z, Int32.add_zero, Nat.add_zero]
    · rw [if_neg z, if_neg z, nI_add, Nat.add_assoc]
/-- both count alike -/
theorem units_eq (h : DK n r (pMk P) rt fL fM fR mu) (hn : 4 ≤ n) (h8 : n ≤ 8) (h40 : r ≤ 40) (hG : GI J tj) (hJ : JM n r J tj fJ fI) : jU P J n tj tj = mPl2 fL fM fI n (mPl1 fL fM fI n ((n - 2) * (r - 6)) (r - 6)) ((n - 2) * (r - 6)) := by
  have hN := blk_le h8 h40
  obtain ⟨⟨a1, a2⟩, a3, _⟩ := hJ
  rw [jU_sm h hn hG tj (Nat.le_refl _), mPl1_sm, mPl2_sm]
  congr 1
  have e1 : sm (jT fL fM J n) tj = sm (fun i => if inB (jBlk J) (jBlk J i) i = true then 0 else (fun q => uW fL fM n (6 + q / (n - 2)) (2 + q % (n - 2))) (jBlk J i)) tj + sm (fun i => if inB (fun i => jBlk J i / (n - 2)) (jBlk J i / (n - 2)) i = true then 0 else (fun t => uW fL fM n (6 + t) 0 + uW fL fM n (6 + t) 1) (jBlk J i / (n - 2))) tj := by
    rw [← sm_add]
    refine sm_cg (fun i hi => ?_)
    unfold jT
    have b1 : inB (jBlk J) (jBlk J i) i = false := by
      rw [← Bool.not_eq_true, inB_iff]
      rintro ⟨j, hj, e⟩
      have := a1 j i (by omega) hi e
      omega
    have b2 : inB (jRow J) (jRow J i) i = inB (fun i => jBlk J i / (n - 2)) (jBlk J i / (n - 2)) i := by
      rw [Bool.eq_iff_iff, inB_iff, inB_iff]
      constructor
      · rintro ⟨j, hj, e⟩
        rw [(a2 j (by omega)).2, (a2 i hi).2] at e
        exact ⟨j, hj, by omega⟩
      · rintro ⟨j, hj, e⟩
        refine ⟨j, hj, ?_⟩
        rw [(a2 j (by omega)).2, (a2 i hi).2]
        have e : jBlk J j / (n - 2) = jBlk J i / (n - 2) := e
        omega
    rw [b2, (a2 i hi).2]
    simp only [b1]
    rfl
  rw [e1, sm_img (v := jBlk J) (c := fun q => uW fL fM n (6 + q / (n - 2)) (2 + q % (n - 2))) (N := (n - 2) * (r - 6)) (fun i hi => (a2 i hi).1), sm_img (v := fun i => jBlk J i / (n - 2)) (c := fun t => uW fL fM n (6 + t) 0 + uW fL fM n (6 + t) 1) (N := r - 6) (fun i hi => div_row (a2 i hi).1), Nat.add_comm]
  congr 1
  · refine sm_cg (fun t ht => ?_)
    have : inB (fun i => jBlk J i / (n - 2)) t tj = mRows fI n ((n - 2) * (r - 6)) t := by
      rw [Bool.eq_iff_iff, inB_iff, mRows_iff hn h8 hN (by omega)]
      constructor
      · rintro ⟨j, hj, e⟩
        exact ⟨jBlk J j, (a2 j hj).1, nz_t ((a3 _ (a2 j hj).1).mpr ⟨j, hj, rfl⟩), e⟩
      · rintro ⟨b, b1, b2, b3⟩
        obtain ⟨j, hj, e⟩ := (a3 b b1).mp (fun z => by rw [nz_f z] at b2; cases b2)
        exact ⟨j, hj, by rw [e]; exact b3⟩
    rw [this]
  · refine sm_cg (fun q hq => ?_)
    have k := a3 q hq
    by_cases z : fI q = 0
    · rw [if_pos z, if_neg (fun y => k.mpr (inB_iff.mp y) z)]
    · rw [if_neg z, if_pos (inB_iff.mpr (k.mp z))]
end UNI
