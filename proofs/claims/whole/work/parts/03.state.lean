/-- the array classes: int, long, byte, boolean, int[] -/
abbrev tyL (k5 : Nat → ClassId) : List (ClassId × FieldType) := [(k5 0, .int), (k5 1, .long), (k5 2, .byte), (k5 3, .boolean), (k5 4, .array .int)]
/-! the class's state as numbers and functions; what its methods do to it -/
/-- a group: taken, rowsTaken, block, rowOfBlock, bytes -/
abbrev GG : Type := Int32 × Int32 × (Nat → Int32) × (Nat → Int32) × (Nat → Int32)
/-- labels: scalars (0 made, 1 counting), arrays (0, 1 firstHalf, 2, 3 lastHalf, 4, 5 told, 6 number, 7 ofGroup) -/
abbrev LL : Type := (Nat → Int32) × (Nat → Nat → Int32)
/-- the rest: disks, rows, power, mark, rotten, kept -/
abbrev PP : Type := Int32 × Int32 × Int32 × (Nat → Int32) × (Nat → Int64) × (Nat → Int32)
abbrev SS : Type := PP × GG × GG × LL
def bI (b : Bool) : Int32 := if b then 1 else 0
def oI (o : Option Nat) : Int32 := match o with | some i => nI i | none => -1
/-- the first place below t where f is x -/
def gFind (f : Nat → Int32) (x : Int32) : Nat → Option Nat
  | 0 => none
  | t + 1 => match gFind f x t with
    | some i => some i
    | none => if f t = x then some t else none
theorem gFind_none {f : Nat → Int32} {x : Int32} : ∀ {t : Nat}, (∀ j, j < t → ¬ f j = x) → gFind f x t = none
  | 0, _ => rfl
  | t + 1, h => by
    rw [gFind, gFind_none (fun j hj => h j (by omega))]
    simp [h t (by omega)]
theorem gFind_some {f : Nat → Int32} {x : Int32} {i : Nat} (hi : f i = x) (h : ∀ j, j < i → ¬ f j = x) : ∀ {t : Nat}, i < t → gFind f x t = some i
  | 0, hlt => absurd hlt (by omega)
  | t + 1, hlt => by
    rw [gFind]
    rcases Nat.lt_or_ge i t with q | q
    · rw [gFind_some hi h q]
    · have e : i = t := by omega
      subst e
      rw [gFind_none h]
      simp [hi]
theorem gFind_not {f : Nat → Int32} {x : Int32} : ∀ {t : Nat}, gFind f x t = none → ∀ j, j < t → ¬ f j = x
  | 0, _, j, hj => absurd hj (by omega)
  | t + 1, h, j, hj => by
    rw [gFind] at h
    cases hg : gFind f x t with
    | some k => rw [hg] at h; simp at h
    | none =>
      rw [hg] at h
      by_cases hx : f t = x
      · simp [hx] at h
      · rcases Nat.lt_or_ge j t with q | q
        · exact gFind_not hg j q
        · have e : j = t := by omega
          subst e
          exact hx
theorem gFind_spec {f : Nat → Int32} {x : Int32} : ∀ {t i : Nat}, gFind f x t = some i → i < t ∧ f i = x ∧ ∀ j, j < i → ¬ f j = x
  | 0, i, h => by simp [gFind] at h
  | t + 1, i, h => by
    rw [gFind] at h
    cases hg : gFind f x t with
    | some k =>
      rw [hg] at h
      have e : k = i := by simpa using h
      subst e
      obtain ⟨h1, h2, h3⟩ := gFind_spec hg
      exact ⟨by omega, h2, h3⟩
    | none =>
      rw [hg] at h
      by_cases hx : f t = x
      · have e : t = i := by simpa [hx] using h
        subst e
        exact ⟨by omega, hx, fun j hj => gFind_not hg j hj⟩
      · simp [hx] at h
/-- n places from a on filled with v -/
def fillF (f : Nat → Int32) (v : Int32) (a : Nat) : Nat → Nat → Int32
  | 0 => f
  | n + 1 => upd (fillF f v a n) (a + n) v
def fill0 (f : Nat → Int32) (v : Int32) : Nat → Nat → Int32
  | 0 => f
  | n + 1 => upd (fill0 f v n) n v
def fillL (f : Nat → Int64) (v : Int64) : Nat → Nat → Int64
  | 0 => f
  | n + 1 => vp_updL (fillL f v n) n v
theorem fillF_at {f : Nat → Int32} {v : Int32} {a : Nat} : ∀ (n j : Nat), fillF f v a n j = if a ≤ j ∧ j < a + n then v else f j
  | 0, j => by rw [if_neg (by omega)]; rfl
  | n + 1, j => by
    show upd (fillF f v a n) (a + n) v j = _
    by_cases e : j = a + n
    · subst e; rw [pk_us, if_pos (by omega)]
    · rw [pk_un e, fillF_at n j]
      by_cases h : a ≤ j ∧ j < a + n
      · rw [if_pos h, if_pos (by omega)]
      · rw [if_neg h, if_neg (by omega)]
theorem fill0_at {f : Nat → Int32} {v : Int32} : ∀ (n j : Nat), fill0 f v n j = if j < n then v else f j
  | 0, j => by rw [if_neg (by omega)]; rfl
  | n + 1, j => by
    show upd (fill0 f v n) n v j = _
    by_cases e : j = n
    · subst e; rw [pk_us, if_pos (by omega)]
    · rw [pk_un e, fill0_at n j]
      by_cases h : j < n
      · rw [if_pos h, if_pos (by omega)]
      · rw [if_neg h, if_neg (by omega)]
theorem fillL_at {f : Nat → Int64} {v : Int64} : ∀ (n j : Nat), fillL f v n j = if j < n then v else f j
  | 0, j => by rw [if_neg (by omega)]; rfl
  | n + 1, j => by
    show vp_updL (fillL f v n) n v j = _
    by_cases e : j = n
    · subst e; rw [pk_uLs, if_pos (by omega)]
    · rw [pk_uLn e, fillL_at n j]
      by_cases h : j < n
      · rw [if_pos h, if_pos (by omega)]
      · rw [if_neg h, if_neg (by omega)]
/-- how many of the first n have p -/
def cnt (p : Nat → Bool) : Nat → Nat
  | 0 => 0
  | n + 1 => cnt p n + (if p n then 1 else 0)
theorem cnt_le (p : Nat → Bool) : ∀ n, cnt p n ≤ n
  | 0 => Nat.le_refl 0
  | n + 1 => by
    have := cnt_le p n
    rw [cnt]
    split <;> omega
theorem cnt_congr {p q : Nat → Bool} : ∀ {n : Nat}, (∀ j, j < n → p j = q j) → cnt p n = cnt q n
  | 0, _ => rfl
  | n + 1, h => by rw [cnt, cnt, cnt_congr (fun j hj => h j (by omega)), h n (by omega)]
/-! labels -/
def gr2 (x y : Nat) : Nat → Option Nat := fun j => if j = 0 then some x else if j = 1 then some y else none
def lDraft (w : Nat) (tg : Int32) (fm : Nat → Int32) (L : LL) : LL := (va_up L.1 0 (L.1 0 + 1), va_up (va_up (va_up L.2 6 (upd (L.2 6) w (L.1 0 + 1))) 7 (upd (L.2 7) w tg)) (4 + w) (va_cpy fm (L.2 (4 + w)) 0 0 8))
def lTell (w d : Nat) (mk : Int32) (L : LL) : LL := (L.1, va_up L.2 (4 + w) (upd (L.2 (4 + w)) d mk))
def lCounts (L : LL) : LL := (va_up L.1 1 (1 - L.1 1), L.2)
def lP1 (w d : Nat) (part : Int32) (L : LL) : LL := if part = 1 ∨ part = 2 then (L.1, va_up L.2 w (upd (L.2 w) d (L.2 6 w))) else L
def lP2 (w d : Nat) (part : Int32) (L : LL) : LL := if part = 1 ∨ part = 3 then (L.1, va_up L.2 (2 + w) (upd (L.2 (2 + w)) d (L.2 6 w))) else L
def lPut (w d : Nat) (part : Int32) (L : LL) : LL := lP2 w d part (lP1 w d part L)
def lWipe (d : Nat) (L : LL) : LL := (L.1, va_up (va_up (va_up (va_up L.2 0 (upd (L.2 0) d 0)) 2 (upd (L.2 2) d 0)) 1 (upd (L.2 1) d 0)) 3 (upd (L.2 3) d 0))
def lHas (w d : Nat) (L : LL) : Bool := decide (¬ L.2 w d = 0) && decide (L.2 w d = L.2 (2 + w) d)
def lSome (d : Nat) (L : LL) : Bool := lHas 0 d L || lHas 1 d L
def lScan (L : LL) (w : Nat) : Nat → Int32 × Int32 → Int32 × Int32
  | 0, x => x
  | n + 1, x => if lHas w n L = true ∧ (lScan L w n x).1 < L.2 w n then (L.2 w n, nI w) else lScan L w n x
def lFind (L : LL) : LL := (va_up L.1 1 (lScan L 1 8 (lScan L 0 8 (0, L.1 1))).2, L.2)
/-! the class: what its private methods compute -/
def rBit (x : Int64) (row : Int32) : Bool := !decide (((x.toUInt64 >>> (row.toInt64.toUInt64 &&& Int64.toUInt64 63)).toInt64 &&& 1) = 0)
abbrev pMk (P : PP) : Nat → Int32 := P.2.2.2.1
abbrev pRt (P : PP) : Nat → Int64 := P.2.2.2.2.1
abbrev pKp (P : PP) : Nat → Int32 := P.2.2.2.2.2
def pPow (v : Int32) (P : PP) : PP := (P.1, P.2.1, v, P.2.2.2)
def pMark (f : Nat → Int32) (P : PP) : PP := (P.1, P.2.1, P.2.2.1, f, P.2.2.2.2)
def pRot (f : Nat → Int64) (P : PP) : PP := (P.1, P.2.1, P.2.2.1, P.2.2.2.1, f, P.2.2.2.2.2)
def pKeep (f : Nat → Int32) (P : PP) : PP := (P.1, P.2.1, P.2.2.1, P.2.2.2.1, P.2.2.2.2.1, f)
def pGone (P : PP) (d : Nat) (row : Int32) : Bool := decide (pMk P d ≤ row) || rBit (pRt P d) row
def pGoneIn (P : PP) (row : Int32) (n : Nat) : Nat := cnt (fun d => pGone P d row) n
def pRotIn (P : PP) (row : Int32) (n : Nat) : Nat := cnt (fun d => rBit (pRt P d) row) n
def pMarked (P : PP) (lo hi : Int32) (n : Nat) : Nat := cnt (fun d => decide (lo ≤ pMk P d) && decide (pMk P d ≤ hi)) n
def pPart (bits : Int64) (u : Nat) : Int32 := (bits.toUInt64 >>> ((2 * nI u).toInt64.toUInt64 &&& Int64.toUInt64 63)).toInt64.toInt32 &&& 3
/-- a label written on the first d disks that are not lost: the halves, and how many were under way -/
def pWrite (P : PP) (bits : Int64) (w : Nat) : Nat → LL → LL × Nat
  | 0, L => (L, 0)
  | d + 1, L => if pMk P d = -1 then pWrite P bits w d L else (lPut w d (pPart bits (pWrite P bits w d L).2) (pWrite P bits w d L).1, (pWrite P bits w d L).2 + 1)
/-- the label that counts written again on the first d disks that have some label -/
def pAgain (bits : Int64) (w : Nat) : Nat → LL → LL × Nat
  | 0, L => (L, 0)
  | d + 1, L => if lSome d (pAgain bits w d L).1 = true then (lPut w d (pPart bits (pAgain bits w d L).2) (pAgain bits w d L).1, (pAgain bits w d L).2 + 1) else pAgain bits w d L
/-- marks as the label of row w tells them -/
def pTold (P : PP) (L : LL) (w n : Nat) : Nat → Int32 := fun d => if d < n ∧ ¬ pMk P d = -1 then (if lSome d L = true then L.2 (4 + w) d else 0) else pMk P d
def gUse (G : GG) : Int32 := if G.1 = 0 then 0 else 1 + G.1 + 2 * G.2.1
def gClear (G : GG) : GG := (0, 0, G.2.2)
def gMore (G : GG) (t : Nat) (row : Int32) : Int32 := 1 + G.1 + 1 + 2 * (if oI (gFind G.2.2.2.1 row t) < 0 then G.2.1 + 1 else G.2.1)
def gTake (b t : Nat) (row : Int32) (kp : Nat → Int32) (G : GG) : GG := (G.1 + 1, (if oI (gFind G.2.2.2.1 row t) < 0 then G.2.1 + 1 else G.2.1), upd G.2.2.1 t (nI b), upd G.2.2.2.1 t row, va_cpy kp G.2.2.2.2 (b * 64) (t * 64) 64)
def gSet (k n : Nat) (v : Int32) (G : GG) : GG := (G.1, G.2.1, G.2.2.1, G.2.2.2.1, fillF G.2.2.2.2 (vp_nar .byte v) k n)
def gBecome (t : Nat) (O G : GG) : GG := (O.1, O.2.1, va_cpy O.2.2.1 G.2.2.1 0 0 t, va_cpy O.2.2.2.1 G.2.2.2.1 0 0 t, va_cpy O.2.2.2.2 G.2.2.2.2 0 0 (t * 64))
/-- the blocks of the first t places laid into the kept bytes -/
def gKeep (G : GG) : Nat → (Nat → Int32) → Nat → Int32
  | 0, kp => kp
  | t + 1, kp => va_cpy G.2.2.2.2 (gKeep G t kp) (t * 64) ((G.2.2.1 t).toNatClampNeg * 64) 64
theorem bI_0 {b : Bool} : bI b = 0 ↔ b = false := by cases b <;> decide
theorem bI_f {b : Bool} (h : bI b = 0) : b = false := bI_0.mp h
theorem bI_t {b : Bool} (h : ¬ bI b = 0) : b = true := by cases b with | true => rfl | false => exact absurd rfl h
theorem cnt_t {p : Nat → Bool} {n : Nat} (h : p n = true) : nI (cnt p n) + 1 = nI (cnt p (n + 1)) := by rw [nI_1, cnt, if_pos h]
theorem cnt_f {p : Nat → Bool} {n : Nat} (h : p n = false) : cnt p (n + 1) = cnt p n := by rw [cnt, h]; rfl
theorem lP1_sc (w d : Nat) (part : Int32) (L : LL) : (lP1 w d part L).1 = L.1 := by unfold lP1; split <;> rfl
theorem lP2_sc (w d : Nat) (part : Int32) (L : LL) : (lP2 w d part L).1 = L.1 := by unfold lP2; split <;> rfl
theorem lPut_sc (w d : Nat) (part : Int32) (L : LL) : (lPut w d part L).1 = L.1 := by unfold lPut; rw [lP2_sc, lP1_sc]
theorem pWrite_sc (P : PP) (bits : Int64) (w : Nat) (L : LL) : ∀ d, (pWrite P bits w d L).1.1 = L.1
  | 0 => rfl
  | d + 1 => by
    rw [pWrite]
    split
    · exact pWrite_sc P bits w L d
    · rw [lPut_sc]; exact pWrite_sc P bits w L d
theorem pAgain_sc (bits : Int64) (w : Nat) (L : LL) : ∀ d, (pAgain bits w d L).1.1 = L.1
  | 0 => rfl
  | d + 1 => by
    rw [pAgain]
    split
    · rw [lPut_sc]; exact pAgain_sc bits w L d
    · exact pAgain_sc bits w L d
/-- whether no row of the first m (from 2 on) lacks two others -/
def pMiss (P : PP) (d n : Nat) : Nat → Bool
  | 0 => true
  | m + 1 => pMiss P d n m && (pGone P d (nI (2 + m)) || decide (nI (pGoneIn P (nI (2 + m)) n) < 2))
theorem pMiss_f {P : PP} {d n m : Nat} (h : pMiss P d n m = false) : ∀ k, m ≤ k → pMiss P d n k = false
  | 0, hk => by
    have e : m = 0 := by omega
    rw [e] at h; exact h
  | k + 1, hk => by
    rcases Nat.lt_or_ge k m with q | q
    · have e : m = k + 1 := by omega
      rw [e] at h; exact h
    · rw [pMiss, pMiss_f h k q]; rfl
/-- 1 if unit u of row t is on a disk that is there up to t -/
def tU (P : PP) (n t u : Nat) : Int32 := if pMk P ((t + u) % n) ≤ nI t then 0 else 1
def jRow (J : GG) (k : Nat) : Nat := (J.2.2.2.1 k).toNatClampNeg
def jBlk (J : GG) (k : Nat) : Nat := (J.2.2.1 k).toNatClampNeg
/-- the units that mounting writes for the first k places of the journal -/
def jU (P : PP) (J : GG) (n t : Nat) : Nat → Int32
  | 0 => 0
  | k + 1 => if oI (gFind J.2.2.2.1 (J.2.2.2.1 k) t) = nI k then (jU P J n t k + tU P n (jRow J k) (2 + jBlk J k % (n - 2))) + (tU P n (jRow J k) 0 + tU P n (jRow J k) 1) else jU P J n t k + tU P n (jRow J k) (2 + jBlk J k % (n - 2))
/-- marks as the label of row w tells them, of the first d disks -/
def pTake (L : LL) (w : Nat) (mk : Nat → Int32) : Nat → Nat → Int32
  | 0 => mk
  | d + 1 => if pTake L w mk d d = -1 then pTake L w mk d else upd (pTake L w mk d) d (if lSome d L = true then L.2 (4 + w) d else 0)
/-- labels of the first d disks wiped -/
def lWipes (L : LL) : Nat → LL
  | 0 => L
  | d + 1 => lWipe d (lWipes L d)
theorem lWipes_sc (L : LL) : ∀ d, (lWipes L d).1 = L.1
  | 0 => rfl
  | d + 1 => lWipes_sc L d
/-- a label written wholly on all disks that are not lost, and then it counts -/
def pFinish (P : PP) (w n : Nat) (L : LL) : LL := lCounts (pWrite P 6148914691236517205 w n L).1
/-- rotten bits of a row cleared on the first d disks -/
def pScrub (f : Nat → Int64) (row : Int32) : Nat → Nat → Int64
  | 0 => f
  | d + 1 => vp_updL (pScrub f row d) d ((pScrub f row d) d &&& ((1 <<< (row.toInt64 &&& 63)) ^^^ (-1)))
def pLay (x y : Int32) (P : PP) : PP := (x, y, 1, fill0 (pMk P) y 8, fillL (pRt P) 0 8, fill0 (pKp P) (vp_nar .byte 0) 13056)
def lLay (P : PP) (w n : Nat) (L : LL) : LL := pFinish P w n (lDraft w 0 (pMk P) (lWipes L 8))
theorem clamp_nI {x : Int32} (h : ¬ x < 0) : x = nI x.toNatClampNeg := by
  obtain ⟨j, hj, e⟩ := nI_of h
  rw [e, nI_clamp hj]
theorem clamp_lt {x : Int32} {n : Nat} (h : ¬ x < 0) (h2 : ¬ nI n ≤ x) (hn : n < 2147483648) : x.toNatClampNeg < n := by
  obtain ⟨j, hj, e⟩ := nI_of h
  rw [e, nI_clamp hj]
  rw [e] at h2
  rcases Nat.lt_or_ge j n with q | q
  · exact q
  · exact absurd (nI_le q hj) h2
/-- a disk's number -/
theorem isD {d x : Int32} {n : Nat} (h : decide (¬ d < 0 ∧ ¬ x ≤ d) = true) (hx : x = nI n) (hn : n < 2147483648) : d = nI d.toNatClampNeg ∧ d.toNatClampNeg < n := by
  have h := of_decide_eq_true h
  rw [hx] at h
  exact ⟨clamp_nI h.1, clamp_lt h.1 h.2 hn⟩
/-- a group as it must be: its number, its bytes, its blocks and rows -/
def GI (G : GG) (t : Nat) : Prop := G.1 = nI t ∧ t ≤ 24 ∧ sb_Fit G.2.2.2.2 ∧ (∀ j, j < t → G.2.2.1 j = nI (jBlk G j) ∧ jBlk G j < 204) ∧ ∀ j, j < t → G.2.2.2.1 j = nI (jRow G j) ∧ jRow G j < 40
theorem GI_become {O G : GG} {t : Nat} {u : Nat} (hO : GI O t) (hG : GI G u) : GI (gBecome t O G) t := by
  obtain ⟨h1, h2, h3, h4, h5⟩ := hO
  refine ⟨h1, h2, sb_fitC h3 hG.2.2.1, fun j hj => ?_, fun j hj => ?_⟩
  · have e : (gBecome t O G).2.2.1 j = O.2.2.1 j := by
      show va_cpy O.2.2.1 G.2.2.1 0 0 t j = _
      rw [pk_cpy_in (by omega) (by omega), show 0 + (j - 0) = j by omega]
    unfold jBlk
    rw [e]; exact h4 j hj
  · have e : (gBecome t O G).2.2.2.1 j = O.2.2.2.1 j := by
      show va_cpy O.2.2.2.1 G.2.2.2.1 0 0 t j = _
      rw [pk_cpy_in (by omega) (by omega), show 0 + (j - 0) = j by omega]
    unfold jRow
    rw [e]; exact h5 j hj
theorem GI_clear {G : GG} {t : Nat} (h : GI G t) : GI (gClear G) 0 := ⟨rfl, by omega, h.2.2.1, fun j hj => absurd hj (by omega), fun j hj => absurd hj (by omega)⟩
theorem lay_n {x : Int32} (h1 : ¬ x < 4) (h2 : ¬ 8 < x) : x = nI x.toNatClampNeg ∧ 4 ≤ x.toNatClampNeg ∧ x.toNatClampNeg ≤ 8 := by
  have h0 : ¬ x < 0 := fun z => h1 (Int32.lt_trans z (by decide))
  obtain ⟨j, hj, e⟩ := nI_of h0
  have ej : (nI j).toNatClampNeg = j := nI_clamp hj
  rw [e, ej]
  rw [e] at h1 h2
  refine ⟨rfl, ?_, ?_⟩
  · exact Nat.not_lt.mp (fun z => h1 (nI_lt (b := 4) z (by omega)))
  · exact Nat.not_lt.mp (fun z => h2 (nI_lt (a := 8) z hj))
theorem isB {X Y b t : Int32} {n r : Nat} (h : decide (¬ b < 0 ∧ ¬ (X - 2) * (Y - 6) ≤ b ∧ ¬ t < 0 ∧ ¬ 64 ≤ t) = true) (hX : X = nI n) (hY : Y = nI r) (h4 : 4 ≤ n) (h8 : n ≤ 8) (h12 : 12 ≤ r) (h40 : r ≤ 40) :
    b = nI b.toNatClampNeg ∧ t = nI t.toNatClampNeg ∧ b.toNatClampNeg < (n - 2) * (r - 6) ∧ t.toNatClampNeg < 64 ∧ b.toNatClampNeg < 204 := by
  obtain ⟨h1, h2, h3, h5⟩ := of_decide_eq_true h
  have e : (X - 2) * (Y - 6) = nI ((n - 2) * (r - 6)) := by
    rw [hX, hY, show (nI n - 2) = nI (n - 2) from pk_sub (a := n) (b := 2) (by omega), show (nI r - 6) = nI (r - 6) from pk_sub (a := r) (b := 6) (by omega)]
    exact pk_mul _ _
  have hm : (n - 2) * (r - 6) ≤ 204 := Nat.le_trans (Nat.mul_le_mul (show n - 2 ≤ 6 by omega) (show r - 6 ≤ 34 by omega)) (by decide)
  rw [e] at h2
  have hb := clamp_lt h1 h2 (by omega)
  have ht := clamp_lt (n := 64) h3 h5 (by omega)
  exact ⟨clamp_nI h1, clamp_nI h3, hb, ht, by omega⟩
theorem idx64 {b t : Int32} {β α m : Nat} (hb : b = nI β) (ht : t = nI α) (h1 : β < m) (h2 : α < 64) (hm : m ≤ 1000000) : b * 64 + t = nI (b * 64 + t).toNatClampNeg ∧ (b * 64 + t).toNatClampNeg = β * 64 + α := by
  have e : b * 64 + t = nI (β * 64 + α) := by
    rw [hb, ht, show nI β * 64 = nI (β * 64) from pk_mul β 64]; exact nI_add _ _
  rw [e, nI_clamp (show β * 64 + α < 2 ^ 31 by omega)]
  exact ⟨rfl, rfl⟩
theorem oI_ge {o : Option Nat} (h : 0 ≤ oI o) : ∃ p, o = some p := by
  cases o with
  | some p => exact ⟨p, rfl⟩
  | none => exact absurd h (by decide)
