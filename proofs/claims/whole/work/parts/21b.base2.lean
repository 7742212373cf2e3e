/-- addresses by their places -/
def adr (l : List Nat) : Nat → Nat := fun k => l.getD k 0
section KXM
variable {p : Program} {l : Launch} {e : Env} {R : Room} {s : State} {m : MethodId} {args : Array Value} {below : List Frame} {meth : Method} {c : Code} {H : Heap} {locs : List Loc} {cells slots : Nat} {Q : State → Prop}
variable {cc : ByteArray} {pc : Nat} {ls : Array Slot} {rest : List Value} {D : va_G} {cl : List vw_C} {A : Nat → Prop} {X : va_W} {H0 : Heap}
/-- new int[2][8] -/
theorem kx_mna (hexec : p.tables.exec = Jvm.exec) (hb : c.code = cc) {own : String} {index : Nat} (hown : s.vm.findClass own = some m.cls) (hclink : (Cond.classLink own index "[[I").before args s = true) (hover : va_AOA .int s) (harr : (Cond.arrayClass .int).before args s = true) {k5 : Nat → ClassId} (hK : va_K D cl (tyL k5) s) (hP : va_P D cl X H) (hD : va_D A X) (hS : va_S A H0 H locs) (hA : ∀ q, H0.size ≤ q → A q)
    (hcells : cells + 3 ≤ R.cells) (hslots : slots + 18 ≤ R.slots) (hdg : decode cc pc = .ok (.multianewarray index 2, 4))
    (kk : ∀ (q r0 r1 : Nat) (H1 : Heap), va_P D cl (X ++ [(q, .inl (k5 4, 2, .inr (.inr (.inr (.inr (gr2 r0 r1)))))), (r0, .inl (k5 0, 8, .inl (fun _ => 0))), (r1, .inl (k5 0, 8, .inl (fun _ => 0)))]) H1 → va_D A (X ++ [(q, .inl (k5 4, 2, .inr (.inr (.inr (.inr (gr2 r0 r1)))))), (r0, .inl (k5 0, 8, .inl (fun _ => 0))), (r1, .inl (k5 0, 8, .inl (fun _ => 0)))]) → va_S A H0 H1 locs →
      W p l e R s m args below meth c H1 locs (cells + 3) (slots + 18) Q (F0 m (pc + 4) ls (.ref q :: rest))) : W p l e R s m args below meth c H locs cells slots Q (F0 m pc ls (.int 8 :: .int 2 :: rest)) := by
  have hP' : va_P D cl (X ++ va_pl [] (fun _ => .inr (0, []))) H := by rw [show X ++ va_pl [] (fun _ => .inr (0, [])) = X from List.append_nil X]; exact hP
  have hD' : va_D A (X ++ va_pl [] (fun _ => .inr (0, []))) := by rw [show X ++ va_pl [] (fun _ => .inr (0, [])) = X from List.append_nil X]; exact hD
  have hcy : s.vm.findClass (FieldType.array .int).toString = some (k5 0) := (hK.2 0 (k5 0, .int) rfl).2
  refine va_mna (ty := .int) (N' := 2) (K' := 8) (z := (8, .inl (fun _ => 0))) hexec hb hown hclink hover harr hcy hK hP' hD' hS hA (by decide) (by decide) (by decide) (by decide) (by decide) (by decide) (by decide) rfl rfl hcells hslots (fun c => ?_) hdg (fun q r cA H1 hinj hno hK2 hP2 hD2 hS2 => ?_)
  · show ({ cls := c, slots := Array.replicate 8 (defaultValue .int), vm := .none } : Cell) = arrV c 8 (fun j => .int 0)
    rw [arrV_new]; rfl
  · have h1 := (hK2.2 5 (cA, .array .int) rfl).2
    have h2 := (hK.2 4 (k5 4, .array .int) rfl).2
    have e1 : cA = k5 4 := kx_RA h1 h2
    subst e1
    have e2 : (fun i => if i < 2 then some (r i) else none) = gr2 (r 0) (r 1) := by
      funext i
      match i with
      | 0 => rfl
      | 1 => rfl
      | i + 2 =>
        show (if i + 2 < 2 then some (r (i + 2)) else none) = gr2 (r 0) (r 1) (i + 2)
        rw [if_neg (by omega)]
        unfold gr2
        rw [if_neg (by omega), if_neg (by omega)]
    have e3 : va_pl ([] ++ (List.range 2).map r) (vr_up (fun _ => .inr (0, [])) ((List.range 2).map r) (.inl (k5 0, (8, .inl (fun _ => 0))))) = [(r 0, .inl (k5 0, 8, .inl (fun _ => 0))), (r 1, .inl (k5 0, 8, .inl (fun _ => 0)))] := by
      rw [← vr_rows (fun a _ h => by cases h)]; rfl
    rw [e2, e3, List.append_assoc] at hP2 hD2
    exact kk q (r 0) (r 1) H1 hP2 hD2 hS2
end KXM
/-- a constructor's end: the cells that it has made, and nothing else changed -/
def kx_C (D : va_G) (cl : List vw_C) (W0 : va_W) (sz : Nat) (W1 : (Nat → Nat) → va_W) (P : (Nat → Nat) → Prop) : Array Value → State → Outcome → State → Prop := va_Qv (fun a : Nat → Nat => P a) (fun a t => va_P D cl (W1 a) t.heap ∧ va_D (va_A W0 sz) (W1 a)) (va_A W0 sz)
