/-! THE START: what the entry gives -/
theorem st_oA {s : State} {A : Array Value} {C : String} (h : (Cond.arrayOver (.object C)).before A s = true) : ∃ cA, ArrOfT s cA (.object C) ∧ va_RA s cA (.object C) := by
  obtain ⟨comp, c, k, h1, h2, h3, h4, h5⟩ := Cond.arrayOver_spec h
  exact ⟨c, fun N z => ⟨(fun k h => by cases h), k, h3, comp, h4⟩, k, comp, h3, h4, h1, h5⟩
theorem st_pA {s : State} {A : Array Value} {ty : FieldType} (hr : ∀ c, va_RA s c ty = (s.vm.findClass ("[" ++ ty.toString) = some c)) (h : (Cond.arrayClass ty).before A s = true) : ∃ cA, ArrOfT s cA ty ∧ va_RA s cA ty := by
  obtain ⟨c, k, comp, h1, h2, h3⟩ := Cond.arrayClass_spec h
  exact ⟨c, fun N z => ⟨(fun k h => by cases h), k, h2, comp, h3⟩, by rw [hr]; exact h1⟩
theorem st_D {s : State} {A : Array Value} (hts : ∀ w ∈ lw_tbl, w.before A s = true) : ∃ D : va_G, ∀ (c : Nat) (q : vw_C), am_cls[c]? = some q → u_Kn s q.1 q.2.1 q.2.2 (D.1 c) (D.2 c) := by
  have hi : ∀ c : Fin 13, ∀ q, am_cls[c.val]? = some q → Cond.instantiable q.1 q.2.2 ∈ lw_tbl := by
    intro c q hq
    have key : ∀ c : Fin 13, Cond.instantiable ((am_cls.getD c.val (RX0, TX0, 6)).1) ((am_cls.getD c.val (RX0, TX0, 6)).2.2) ∈ lw_tbl := by decide +kernel
    have := key c
    rw [List.getD_eq_getElem?_getD, hq] at this
    exact this
  have h : ∀ c : Nat, ∃ p : ClassId × (Nat → Nat), ∀ q, am_cls[c]? = some q → u_Kn s q.1 q.2.1 q.2.2 p.1 p.2 := by
    intro c
    cases hq : am_cls[c]? with
    | none => exact ⟨(0, fun _ => 0), fun q h => by cases h⟩
    | some q =>
      have hc : c < 13 := (List.getElem?_eq_some_iff.mp hq).1
      obtain ⟨hin, -, -, -⟩ := am_cls_ok c q hq
      obtain ⟨cC, iS, hk⟩ := u_known (C := q.1) (T := q.2.1) (N := q.2.2) (n := q.2.2) hts (fun w hw => (List.mem_filter.mp (hin w hw)).1) (hts _ (hi ⟨c, hc⟩ q hq))
      exact ⟨(cC, iS), fun q' h => by cases h; exact hk⟩
  obtain ⟨f, hf⟩ := Classical.axiomOfChoice h
  exact ⟨(fun c => (f c).1, fun c => (f c).2), hf⟩
theorem st_A {s : State} {A : Array Value} (hts : ∀ w ∈ lw_tbl, w.before A s = true) : ∃ cA : Nat → ClassId, ∀ t : Nat, t < 7 → ArrOfT s (cA t) (am_aty t) ∧ va_RA s (cA t) (am_aty t) := by
  have h : ∀ t : Nat, ∃ c : ClassId, t < 7 → ArrOfT s c (am_aty t) ∧ va_RA s c (am_aty t) := by
    intro t
    match t with
    | 0 => obtain ⟨c, h⟩ := st_pA (ty := .int) (fun _ => rfl) (hts _ (List.mem_of_getElem? (i := 147) (by decide +kernel))); exact ⟨c, fun _ => h⟩
    | 1 => obtain ⟨c, h⟩ := st_pA (ty := .long) (fun _ => rfl) (hts _ (List.mem_of_getElem? (i := 173) (by decide +kernel))); exact ⟨c, fun _ => h⟩
    | 2 => obtain ⟨c, h⟩ := st_pA (ty := .byte) (fun _ => rfl) (hts _ (List.mem_of_getElem? (i := 146) (by decide +kernel))); exact ⟨c, fun _ => h⟩
    | 3 => obtain ⟨c, h⟩ := st_pA (ty := .boolean) (fun _ => rfl) (hts _ (List.mem_of_getElem? (i := 1281) (by decide +kernel))); exact ⟨c, fun _ => h⟩
    | 4 => obtain ⟨c, h⟩ := st_oA (C := RX1) (hts _ (List.mem_of_getElem? (i := 94) (by decide +kernel))); exact ⟨c, fun _ => h⟩
    | 5 => obtain ⟨c, h⟩ := st_oA (C := RX7) (hts _ (List.mem_of_getElem? (i := 96) (by decide +kernel))); exact ⟨c, fun _ => h⟩
    | 6 => obtain ⟨c, h⟩ := st_oA (C := RX8) (hts _ (List.mem_of_getElem? (i := 194) (by decide +kernel))); exact ⟨c, fun _ => h⟩
    | n + 7 => exact ⟨0, fun h => absurd h (by omega)⟩
  obtain ⟨f, hf⟩ := Classical.axiomOfChoice h
  exact ⟨f, hf⟩
def st_tm (i : Nat) : Term := match i with
  | 0 => .string "StandingUp" 56
  | 1 => .string "StandingUp$Texts" 114
  | _ => .string "StandingUp$Texts" 105
theorem st_el : ∀ i : Fin 3, ∀ j : Fin 60, j.val < am_lens.getD i.val 0 → Cond.eq (.elem (.field (st_tm i.val) "java/lang/String" "value" "[B") (.int (Int32.ofNat j.val))) (.int ((am_byts.getD i.val []).getD j.val 0)) ∈ flatC (Jvm.Cond.and given_1 narrow_1) := by decide +kernel
theorem st_S {s : State} {A : Array Value} (hgv : (Jvm.Cond.and given_1 narrow_1).before A s = true) : ∃ adK adV : Nat → Nat, vk_S 3 am_lens am_byts adK adV (fun q => s.heap.size ≤ q) s s.heap ∧ ∀ i : Nat, i < 3 → (st_tm i).eval A s none [] s = some (.ref (adK i)) := by
  have hs := flat_of_before _ hgv
  have e3 : ∀ {P : Nat → Prop}, P 0 → P 1 → P 2 → ∀ i : Nat, i < 3 → P i := by
    intro P h0 h1 h2 i hi
    obtain rfl | rfl | rfl : i = 0 ∨ i = 1 ∨ i = 2 := by omega
    · exact h0
    · exact h1
    · exact h2
  refine vk_Sof (N := 3) (tm := st_tm) (len := am_lens) (byt := am_byts) (e3 (by decide +kernel) (by decide +kernel) (by decide +kernel)) ?_ ?_ ?_ ?_ ?_ ?_ (fun a ha h => absurd ha (Nat.not_lt.mpr h))
  · exact e3 (hs _ (by decide +kernel)) (hs _ (by decide +kernel)) (hs _ (by decide +kernel))
  · exact e3 (hs _ (by decide +kernel)) (hs _ (by decide +kernel)) (hs _ (by decide +kernel))
  · exact e3 (hs _ (by decide +kernel)) (hs _ (by decide +kernel)) (hs _ (by decide +kernel))
  · exact e3 (hs _ (by decide +kernel)) (hs _ (by decide +kernel)) (hs _ (by decide +kernel))
  · intro i hi j hj
    have h60 : am_lens.getD i 0 ≤ 60 := e3 (P := fun i => am_lens.getD i 0 ≤ 60) (by decide +kernel) (by decide +kernel) (by decide +kernel) i hi
    exact hs _ (st_el ⟨i, hi⟩ ⟨j, by omega⟩ hj)
  · intro i j hi hj hij
    obtain rfl | rfl | rfl : i = 0 ∨ i = 1 ∨ i = 2 := by omega
    all_goals obtain rfl | rfl | rfl : j = 0 ∨ j = 1 ∨ j = 2 := by omega
    all_goals first
      | exact absurd rfl hij
      | exact Or.inl (hs _ (by decide +kernel))
      | exact Or.inr (hs _ (by decide +kernel))
