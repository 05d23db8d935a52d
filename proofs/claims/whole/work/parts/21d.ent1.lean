/-! THE START: the context -/
theorem st_K {s : State} {b L : Nat} {xs : Nat → Int32} (hts : ∀ w ∈ lw_tbl, w.before #[Value.ref b] s = true) (hX : va_X b L xs s s.heap) (hbl : b < s.heap.size) (hgv : (Jvm.Cond.and given_1 narrow_1).before #[Value.ref b] s = true) : ∃ E : am_E, eB E = s.heap.size ∧ eX E 0 = b ∧ eH E = s.heap ∧ eL E = L ∧ eS E = xs ∧ am_K E s := by
  have hs := flat_of_before _ hgv
  obtain ⟨D, hD⟩ := st_D hts
  obtain ⟨cA, hA⟩ := st_A hts
  obtain ⟨adK, adV, hS, hSe⟩ := st_S hgv
  have hnA : ∀ a : Nat, a < s.heap.size → ¬ (fun q => s.heap.size ≤ q) a := fun a ha h => absurd ha (Nat.not_lt.mpr h)
  have hZ : va_Z "java/lang/String" "COMPACT_STRINGS" "Z" (.int 1) (fun q => s.heap.size ≤ q) s s.heap :=
    va_Zof (hts _ (List.mem_of_getElem? (i := 228) (by decide +kernel))) (hts (.initialized "java/lang/String") (by decide +kernel)) (va_eqi (hs _ (by decide +kernel))) hnA
  have hQ : va_Zq RJ3 am_SIO "Ljava/util/function/BiFunction;" (fun q => s.heap.size ≤ q) s s.heap :=
    va_Zqof (hts (.laysStatic RJ3 am_SIO "Ljava/util/function/BiFunction;") (List.mem_of_getElem? (i := 244) (by decide +kernel))) (hts (.initialized RJ3) (by decide +kernel)) (hs (.isRef (.static RJ3 am_SIO "Ljava/util/function/BiFunction;")) (by decide +kernel)) hnA
  obtain ⟨t7, hQ7⟩ : ∃ t : Nat, va_Z RJ3 am_SIO "Ljava/util/function/BiFunction;" .null (fun q => s.heap.size ≤ q) s s.heap ∨ va_Z RJ3 am_SIO "Ljava/util/function/BiFunction;" (.ref t) (fun q => s.heap.size ≤ q) s s.heap := by
    rcases hQ with h | ⟨t, h⟩
    · exact ⟨0, Or.inl h⟩
    · exact ⟨t, Or.inr h⟩
  obtain ⟨ex, x0, x1, x2, x7⟩ : ∃ ex : Nat → Nat, ex 0 = b ∧ (∀ i, i < 3 → ex (i + 1) = adK i) ∧ (∀ i, i < 3 → ex (i + 4) = adV i) ∧ ex 7 = t7 := by
    refine ⟨fun i => if i = 0 then b else if i < 4 then adK (i - 1) else if i < 7 then adV (i - 4) else t7, rfl, fun i hi => ?_, fun i hi => ?_, rfl⟩
    · show (if i + 1 = 0 then b else if i + 1 < 4 then adK (i + 1 - 1) else if i + 1 < 7 then adV (i + 1 - 4) else t7) = adK i
      rw [if_neg (by omega), if_pos (by omega)]; rfl
    · show (if i + 4 = 0 then b else if i + 4 < 4 then adK (i + 4 - 1) else if i + 4 < 7 then adV (i + 4 - 4) else t7) = adV i
      rw [if_neg (by omega), if_neg (by omega), if_pos (by omega)]; rfl
  refine ⟨(s.heap.size, ex, D, cA, s.heap, L, xs), rfl, x0, rfl, rfl, rfl, ⟨hD, ?_⟩, ?_, ?_, ?_, ?_, ⟨?_, ?_, rfl⟩, ?_, ?_, hZ, ?_⟩
  · intro k q hq
    have hk : k < 7 := by
      have := (List.getElem?_eq_some_iff.mp hq).1
      simpa [am_tys] using this
    have e : q = (cA k, am_aty k) := by
      unfold am_tys at hq
      rw [List.getElem?_map, List.getElem?_range hk] at hq
      cases hq; rfl
    rw [e]
    exact hA k hk
  · have rf : ∀ (k : Nat) (q : vw_C), am_cls[k]? = some q → am_Yc q.1 q.1 s := fun k q hq => ⟨_, _, (hD k q hq).2.1, (hD k q hq).2.1, va_asg _ _⟩
    intro q hq
    unfold am_yes at hq
    simp only [List.mem_cons, List.not_mem_nil, or_false] at hq
    rcases hq with rfl | rfl | rfl | rfl | rfl | rfl | rfl | rfl | rfl | rfl | rfl | rfl | rfl
    · exact rf 3 _ rfl
    · exact Cond.castable_spec (hts (.castable RX5 RX3) (List.mem_of_getElem? (i := 1608) (by decide +kernel)))
    · exact rf 6 _ rfl
    · exact Cond.castable_spec (hts (.castable RX2 RX6) (List.mem_of_getElem? (i := 1609) (by decide +kernel)))
    · exact rf 5 _ rfl
    · exact rf 9 _ rfl
    · exact rf 2 _ rfl
    · exact Cond.castable_spec (hts (.castable RX2 RX7) (List.mem_of_getElem? (i := 1614) (by decide +kernel)))
    · exact Cond.castable_spec (hts (.castable RX3 RX7) (List.mem_of_getElem? (i := 1610) (by decide +kernel)))
    · exact Cond.castable_spec (hts (.castable RX5 RX7) (List.mem_of_getElem? (i := 1612) (by decide +kernel)))
    · exact Cond.castable_spec (hts (.castable RX6 RX7) (List.mem_of_getElem? (i := 1611) (by decide +kernel)))
    · exact rf 7 _ rfl
    · exact Cond.castable_spec (hts (.castable RX9 RX7) (List.mem_of_getElem? (i := 1613) (by decide +kernel)))
  · intro q hq
    refine va_Nc.of (hs (.not (.castable q.1 q.2)) ?_)
    have key : ∀ q ∈ am_not, Cond.not (.castable q.1 q.2) ∈ flatC (Jvm.Cond.and given_1 narrow_1) := by decide +kernel
    exact key q hq
  · intro t h4 h7
    obtain rfl | rfl | rfl : t = 4 ∨ t = 5 ∨ t = 6 := by omega
    · exact ⟨RX1, rfl, va_AO.of (hts _ (List.mem_of_getElem? (i := 94) (by decide +kernel)))⟩
    · exact ⟨RX7, rfl, va_AO.of (hts _ (List.mem_of_getElem? (i := 96) (by decide +kernel)))⟩
    · exact ⟨RX8, rfl, va_AO.of (hts _ (List.mem_of_getElem? (i := 194) (by decide +kernel)))⟩
  · intro q hq
    unfold am_nest at hq
    simp only [List.mem_cons, List.not_mem_nil, or_false] at hq
    rcases hq with rfl | rfl | rfl | rfl
    · exact va_Nw.of rfl (hts _ (List.mem_of_getElem? (i := 99) (by decide +kernel)))
    · exact va_Nw.of rfl (hts _ (List.mem_of_getElem? (i := 150) (by decide +kernel)))
    · exact va_Nw.of rfl (hts _ (List.mem_of_getElem? (i := 176) (by decide +kernel)))
    · exact va_Nw.of rfl (hts _ (List.mem_of_getElem? (i := 196) (by decide +kernel)))
  · show va_X (ex 0) L xs s s.heap
    rw [x0]; exact hX
  · show ex 0 < s.heap.size
    rw [x0]; exact hbl
  · refine ⟨fun i hi => ?_, fun i j hi hj h => ?_⟩
    · have h := hS.1 i hi
      rw [← x1 i hi, ← x2 i hi] at h
      exact h
    · have h' : ex (i + 1) = ex (j + 1) := h
      rw [x1 i hi, x1 j hj] at h'
      exact hS.2 i j hi hj h'
  · intro own idx a ha
    have e0 := hSe 0 (by decide)
    have e1 := hSe 1 (by decide)
    have e2 := hSe 2 (by decide)
    rw [← x1 0 (by decide)] at e0
    rw [← x1 1 (by decide)] at e1
    rw [← x1 2 (by decide)] at e2
    rcases ha with ⟨rfl, rfl, rfl⟩ | ⟨rfl, rfl, rfl⟩ | ⟨rfl, rfl, rfl⟩
    · exact vk_R.of (hts _ (List.mem_of_getElem? (i := 214) (by decide +kernel))) e0
    · exact vk_R.of (hts _ (List.mem_of_getElem? (i := 290) (by decide +kernel))) e1
    · exact vk_R.of (hts _ (List.mem_of_getElem? (i := 298) (by decide +kernel))) e2
  · show va_Z RJ3 am_SIO "Ljava/util/function/BiFunction;" .null (fun q => s.heap.size ≤ q) s s.heap ∨ va_Z RJ3 am_SIO "Ljava/util/function/BiFunction;" (.ref (ex 7)) (fun q => s.heap.size ≤ q) s s.heap
    rw [x7]; exact hQ7
