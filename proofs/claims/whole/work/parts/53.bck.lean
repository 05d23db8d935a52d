/-! THE METHODS: back -/
theorem m_back {N : Nat} (hN : 200 ≤ N) : m_OK (fun σ => f11_back N σ) (fun σ => f12_back N σ) := by
  intro σ h
  have hX := h
  obtain ⟨n, m, tc, A, B, hK, hC, hB, hW, hP, hS, hT, hI⟩ := h
  have h1 := hC.1
  have h2 := hB.1
  dsimp only
  obtain ⟨hf, hI'⟩ := hI
  have hI : r_I n m tc A B σ := ⟨hf, hI'⟩
  by_cases hz : fF σ 36 48 = 0
  · refine ⟨-3, σ, σ, ?_, ?_, hX⟩
    · unfold f11_back
      rw [hf, if_pos hz]
    · unfold f12_back
      rw [if_pos hz]
  rcases hI' with hI' | ⟨kc, kr, hkc, hkr, i1, i2, ⟨r, i3, i4, i5⟩, ⟨i6, i7, i8, i9⟩, i10, i11⟩
  · exact absurd hI' hz
  have i0 : f11_back N σ = f11_back_L39 N N 0 (sF (sF (sF σ 8 0 (fF σ 8 13)) 8 1 (fF σ 8 14)) 11 5 (fF σ 8 15)) := by
    unfold f11_back
    rw [if_neg (by rw [hf]; exact hz)]
    rfl
  have g0 : q_Ag (fun a k => (a = 8 ∧ k ≤ 1) ∨ (a = 11 ∧ k = 5)) σ (sF (sF (sF σ 8 0 (fF σ 8 13)) 8 1 (fF σ 8 14)) 11 5 (fF σ 8 15)) := (((q_Ag.rf σ).sF (Or.inl ⟨rfl, by omega⟩)).sF (Or.inl ⟨rfl, by omega⟩)).sF (Or.inr ⟨rfl, rfl⟩)
  have v0 : fF (sF (sF (sF σ 8 0 (fF σ 8 13)) 8 1 (fF σ 8 14)) 11 5 (fF σ 8 15)) 8 0 = fF σ 8 13 := rfl
  have v1 : fF (sF (sF (sF σ 8 0 (fF σ 8 13)) 8 1 (fF σ 8 14)) 11 5 (fF σ 8 15)) 8 1 = fF σ 8 14 := rfl
  have v5 : fF (sF (sF (sF σ 8 0 (fF σ 8 13)) 8 1 (fF σ 8 14)) 11 5 (fF σ 8 15)) 11 5 = fF σ 8 15 := rfl
  generalize (sF (sF (sF σ 8 0 (fF σ 8 13)) 8 1 (fF σ 8 14)) 11 5 (fF σ 8 15)) = σa at i0 g0 v0 v1 v5
  obtain ⟨σb, e1, g1, c1⟩ := bk_c N (n := kc) (A := A) (by omega) (fun i hi => hC.ge (by omega)) (fun i j hi hj e => (hC.2.2.2 i (by omega)).2.2.2.2 j (by omega) e) σa (by omega) ((g0.2 8 16 (by omega)).1.trans i6) (fun i hi => ⟨(g0.2 9 i (by omega)).2.trans (hC.2.2.2 i (by omega)).1.2.1, by rw [g0.ci (hC.2.2.2 i (by omega)).1.2.2 (by decide)]; rfl⟩)
  have g01 : q_Ag (fun a k => (a = 8 ∧ k ≤ 1) ∨ (∃ j, j < kc ∧ a = A j ∧ (k = 2 ∨ k = 3)) ∨ (∃ j, j < kr ∧ a = B j ∧ (k = 5 ∨ k = 6)) ∨ ((a = 11 ∧ k = 5) ∨ a = 22 ∨ (a = 36 ∧ (k = 12 ∨ k = 13 ∨ k = 4)) ∨ ((a = 42 ∨ a = 43) ∧ k < kc) ∨ ((a = 49 ∨ a = 50) ∧ k < kr) ∨ a = 56)) σ σb := (g0.wk (fun a k x => by
    rcases x with x | x
    · exact Or.inl x
    · exact Or.inr (Or.inr (Or.inr (Or.inl x))))).tr (g1.wk (fun a k x => Or.inr (Or.inl x)))
  have no1 : ∀ a, a < 68 → ∀ k, ¬ ∃ j, j < kc ∧ a = A j ∧ (k = 2 ∨ k = 3) := fun a ha k x => by obtain ⟨j, hj, y, -⟩ := x; have := hC.ge (show j < n by omega); omega
  have no2 : ∀ a, a < 68 → ∀ k, ¬ ∃ j, j < kr ∧ a = B j ∧ (k = 5 ∨ k = 6) := fun a ha k x => by obtain ⟨j, hj, y, -⟩ := x; have := hB.ge (show j < m by omega); omega
  have nS : ∀ a k, a < 68 → ¬ ((a = 8 ∧ k ≤ 1) ∨ (a = 11 ∧ k = 5) ∨ a = 22 ∨ (a = 36 ∧ (k = 12 ∨ k = 13 ∨ k = 4)) ∨ ((a = 42 ∨ a = 43) ∧ k < kc) ∨ ((a = 49 ∨ a = 50) ∧ k < kr) ∨ a = 56) → ¬ ((a = 8 ∧ k ≤ 1) ∨ (∃ j, j < kc ∧ a = A j ∧ (k = 2 ∨ k = 3)) ∨ (∃ j, j < kr ∧ a = B j ∧ (k = 5 ∨ k = 6)) ∨ ((a = 11 ∧ k = 5) ∨ a = 22 ∨ (a = 36 ∧ (k = 12 ∨ k = 13 ∨ k = 4)) ∨ ((a = 42 ∨ a = 43) ∧ k < kc) ∨ ((a = 49 ∨ a = 50) ∧ k < kr) ∨ a = 56)) := fun a k ha hn x => by
    rcases x with x | x | x | x
    · omega
    · exact no1 a ha k x
    · exact no2 a ha k x
    · omega
  obtain ⟨σc, e2, g2, c2⟩ := bk_r N (n := kr) (A := B) (by omega) (fun i hi => hB.ge (by omega)) (fun i j hi hj e => (hB.2.2.2 i (by omega)).2.2.2 j (by omega) e) σb (by omega) ((g01.2 8 17 (nS 8 17 (by omega) (by omega))).1.trans i8) (fun i hi => ⟨(g01.2 10 i (nS 10 i (by omega) (by omega))).2.trans (hB.2.2.2 i (by omega)).1.2.1, by
    obtain ⟨k, -, -, hk⟩ := (hB.2.2.2 i (by omega)).1.2.2
    rw [g01.ci hk (r_kc_ne k), ← hk]; exact r_7 hB (by omega)⟩)
  have g02 := g01.tr (g2.wk (fun a k x => Or.inr (Or.inr (Or.inl x))))
  have c23 : fF σc 23 = fF σ 23 := funext fun k => (g02.2 23 k (nS 23 k (by omega) (by omega))).1
  have g03 : q_Ag (fun a k => (a = 8 ∧ k ≤ 1) ∨ (∃ j, j < kc ∧ a = A j ∧ (k = 2 ∨ k = 3)) ∨ (∃ j, j < kr ∧ a = B j ∧ (k = 5 ∨ k = 6)) ∨ ((a = 11 ∧ k = 5) ∨ a = 22 ∨ (a = 36 ∧ (k = 12 ∨ k = 13 ∨ k = 4)) ∨ ((a = 42 ∨ a = 43) ∧ k < kc) ∨ ((a = 49 ∨ a = 50) ∧ k < kr) ∨ a = 56)) σ (sK σc 22 (va_cpy (fF σc 23) (fF σc 22) 0 0 100)) := g02.sK (fun k => Or.inr (Or.inr (Or.inr (Or.inr (Or.inl rfl)))))
  have hcls : f11_back N σ = some (fF (sK σc 22 (va_cpy (fF σc 23) (fF σc 22) 0 0 100)) 8 5, sK σc 22 (va_cpy (fF σc 23) (fF σc 22) 0 0 100)) := by
    rw [i0, e1]
    unfold f11_back_J62
    rw [e2]
    unfold f11_back_J87 f4_comeBack
    rw [if_pos (by decide), Option.bind_some]
    rfl
  have w8 : ∀ a k, a < 22 → fF (sK σc 22 (va_cpy (fF σc 23) (fF σc 22) 0 0 100)) a k = fF σa a k := fun a k ha => by
    rw [q_FK, if_neg (by omega), (g2.2 a k (fun x => by obtain ⟨j, hj, y, -⟩ := x; have := hB.ge (show j < m by omega); omega)).1, (g1.2 a k (fun x => by obtain ⟨j, hj, y, -⟩ := x; have := hC.ge (show j < n by omega); omega)).1]
  have w22 : ∀ k, k < 100 → fF (sK σc 22 (va_cpy (fF σc 23) (fF σc 22) 0 0 100)) 22 k = fF σ 23 k := fun k hk => by
    rw [q_FK, if_pos rfl, pk_cpy_in (by omega) (by omega), c23]
    congr 1
    omega
  have wA : ∀ j, j < kc → fF (sK σc 22 (va_cpy (fF σc 23) (fF σc 22) 0 0 100)) (A j) 2 = fF σ (A j) 4 ∧ fF (sK σc 22 (va_cpy (fF σc 23) (fF σc 22) 0 0 100)) (A j) 3 = fF σ (A j) 5 := fun j hj => by
    have hgj := hC.ge (show j < n by omega)
    obtain ⟨u1, u2⟩ := c1 j hj
    have ee : ∀ k, fF (sK σc 22 (va_cpy (fF σc 23) (fF σc 22) 0 0 100)) (A j) k = fF σb (A j) k := fun k => by
      rw [q_FK, if_neg (by omega), (g2.2 (A j) k (fun x => by obtain ⟨j', hj', y, -⟩ := x; exact r_ne hC hB (show j < n by omega) (show j' < m by omega) y)).1]
    rw [ee, ee, u1, u2, (g0.2 (A j) 4 (by omega)).1, (g0.2 (A j) 5 (by omega)).1]
    exact ⟨rfl, rfl⟩
  have wB : ∀ j, j < kr → fF (sK σc 22 (va_cpy (fF σc 23) (fF σc 22) 0 0 100)) (B j) 5 = fF σ (B j) 7 ∧ fF (sK σc 22 (va_cpy (fF σc 23) (fF σc 22) 0 0 100)) (B j) 6 = fF σ (B j) 8 := fun j hj => by
    have hgj := hB.ge (show j < m by omega)
    obtain ⟨u1, u2⟩ := c2 j hj
    have ee : ∀ k, fF (sK σc 22 (va_cpy (fF σc 23) (fF σc 22) 0 0 100)) (B j) k = fF σc (B j) k := fun k => by
      rw [q_FK, if_neg (by omega)]
    have eb : ∀ k, fF σb (B j) k = fF σ (B j) k := fun k => by
      rw [(g1.2 (B j) k (fun x => by obtain ⟨j', hj', y, -⟩ := x; exact r_ne hC hB (show j' < n by omega) (show j < m by omega) y.symm)).1, (g0.2 (B j) k (by omega)).1]
    rw [ee, ee, u1, u2, eb, eb]
    exact ⟨rfl, rfl⟩
  generalize (sK σc 22 (va_cpy (fF σc 23) (fF σc 22) 0 0 100)) = σ1 at g03 hcls w8 w22 wA wB
  -- the model
  have m36 : ∀ k, ¬ (k = 12 ∨ k = 13 ∨ k = 4) → fF σ1 36 k = fF σ 36 k := fun k hk => (g03.2 36 k (nS 36 k (by omega) (by omega))).1
  have j0 : f12_back N σ1 = f12_back_L36 N N 0 (sF (sF (sF σ1 36 12 (fF σ1 36 51)) 36 13 (fF σ1 36 52)) 36 4 (fF σ1 36 53)) := by
    unfold f12_back
    rw [if_neg (by rw [m36 48 (by omega)]; exact hz)]
    rfl
  have G0 : q_Ag (fun a k => a = 36 ∧ (k = 12 ∨ k = 13 ∨ k = 4)) σ1 (sF (sF (sF σ1 36 12 (fF σ1 36 51)) 36 13 (fF σ1 36 52)) 36 4 (fF σ1 36 53)) := (((q_Ag.rf σ1).sF ⟨rfl, by omega⟩).sF ⟨rfl, by omega⟩).sF ⟨rfl, by omega⟩
  have V12 : fF (sF (sF (sF σ1 36 12 (fF σ1 36 51)) 36 13 (fF σ1 36 52)) 36 4 (fF σ1 36 53)) 36 12 = fF σ1 36 51 := rfl
  have V13 : fF (sF (sF (sF σ1 36 12 (fF σ1 36 51)) 36 13 (fF σ1 36 52)) 36 4 (fF σ1 36 53)) 36 13 = fF σ1 36 52 := rfl
  have V4 : fF (sF (sF (sF σ1 36 12 (fF σ1 36 51)) 36 13 (fF σ1 36 52)) 36 4 (fF σ1 36 53)) 36 4 = fF σ1 36 53 := rfl
  generalize (sF (sF (sF σ1 36 12 (fF σ1 36 51)) 36 13 (fF σ1 36 52)) 36 4 (fF σ1 36 53)) = τa at j0 G0 V12 V13 V4
  obtain ⟨τb, E1, G1, C1⟩ := bk_c2 N (n := kc) (by omega) τa (by omega) (by rw [(G0.2 36 49 (by omega)).1, m36 49 (by omega)]; exact i7)
  obtain ⟨τc, E2, G2, C2⟩ := bk_r2 N (n := kr) (by omega) τb (by omega) (by rw [(G1.2 36 50 (by omega)).1, (G0.2 36 50 (by omega)).1, m36 50 (by omega)]; exact i9)
  obtain ⟨τd, E3, G3, C3⟩ := bk_p2 N τc (by omega)
  have hmdl : f12_back N σ1 = some (fF τd 36 21, τd) := by
    rw [j0, E1]
    unfold f12_back_J74
    rw [E2]
    unfold f12_back_J114
    exact E3
  have GG : q_Ag (fun a k => (a = 36 ∧ (k = 12 ∨ k = 13 ∨ k = 4)) ∨ ((a = 42 ∨ a = 43) ∧ k < kc) ∨ ((a = 49 ∨ a = 50) ∧ k < kr) ∨ a = 56) σ1 τd := (G0.wk (fun a k x => Or.inl x)).tr ((G1.wk (fun a k x => Or.inr (Or.inl x))).tr ((G2.wk (fun a k x => Or.inr (Or.inr (Or.inl x)))).tr (G3.wk (fun a k x => Or.inr (Or.inr (Or.inr x))))))
  have g : q_Ag (fun a k => (a = 8 ∧ k ≤ 1) ∨ (∃ j, j < kc ∧ a = A j ∧ (k = 2 ∨ k = 3)) ∨ (∃ j, j < kr ∧ a = B j ∧ (k = 5 ∨ k = 6)) ∨ ((a = 11 ∧ k = 5) ∨ a = 22 ∨ (a = 36 ∧ (k = 12 ∨ k = 13 ∨ k = 4)) ∨ ((a = 42 ∨ a = 43) ∧ k < kc) ∨ ((a = 49 ∨ a = 50) ∧ k < kr) ∨ a = 56)) σ τd := g03.tr (GG.wk (fun a k x => by
    rcases x with x | x | x | x
    · exact Or.inr (Or.inr (Or.inr (Or.inr (Or.inr (Or.inl x)))))
    · exact Or.inr (Or.inr (Or.inr (Or.inr (Or.inr (Or.inr (Or.inl x))))))
    · exact Or.inr (Or.inr (Or.inr (Or.inr (Or.inr (Or.inr (Or.inr (Or.inl x)))))))
    · exact Or.inr (Or.inr (Or.inr (Or.inr (Or.inr (Or.inr (Or.inr (Or.inr x)))))))))
  have y36 : ∀ k, fF τd 36 k = fF τa 36 k := fun k => by rw [(G3.2 36 k (by show ¬ (36 : Nat) = 56; omega)).1, (G2.2 36 k (by omega)).1, (G1.2 36 k (by omega)).1]
  have y42 : ∀ j, j < kc → fF τd 42 j = fF σ 59 j ∧ fF τd 43 j = fF σ 60 j := fun j hj => by
    obtain ⟨u1, u2⟩ := C1 j hj
    have ee : ∀ a, a = 42 ∨ a = 43 → fF τd a j = fF τb a j := fun a ha => by rw [(G3.2 a j (by show ¬ a = 56; omega)).1, (G2.2 a j (by omega)).1]
    have e4 : ∀ a, a = 59 ∨ a = 60 → fF τa a j = fF σ a j := fun a ha => by rw [(G0.2 a j (by omega)).1, (g03.2 a j (nS a j (by omega) (by omega))).1]
    rw [ee 42 (by omega), ee 43 (by omega), u1, u2, e4 59 (by omega), e4 60 (by omega)]
    exact ⟨rfl, rfl⟩
  have y49 : ∀ j, j < kr → fF τd 49 j = fF σ 61 j ∧ fF τd 50 j = fF σ 62 j := fun j hj => by
    obtain ⟨u1, u2⟩ := C2 j hj
    have ee : ∀ a, a = 49 ∨ a = 50 → fF τd a j = fF τc a j := fun a ha => by rw [(G3.2 a j (by show ¬ a = 56; omega)).1]
    have e4 : ∀ a, a = 61 ∨ a = 62 → fF τb a j = fF σ a j := fun a ha => by rw [(G1.2 a j (by omega)).1, (G0.2 a j (by omega)).1, (g03.2 a j (nS a j (by omega) (by omega))).1]
    rw [ee 49 (by omega), ee 50 (by omega), u1, u2, e4 61 (by omega), e4 62 (by omega)]
    exact ⟨rfl, rfl⟩
  have y56 : ∀ j, j < 100 → fF τd 56 j = fF σ 63 j := fun j hj => by
    rw [C3 j hj, (G2.2 63 j (by omega)).1, (G1.2 63 j (by omega)).1, (G0.2 63 j (by omega)).1, (g03.2 63 j (nS 63 j (by omega) (by omega))).1]
  have z1 : ∀ a k, ¬ (36 ≤ a ∧ a ≤ 56) → fF τd a k = fF σ1 a k := fun a k h1 => (GG.2 a k (by omega)).1
  refine ⟨_, σ1, τd, hcls, ?_, n, m, tc, A, B, hK.mv g, hC.oh g ?_ ?_, hB.it g ?_ ?_, ⟨?_, ?_⟩, ⟨fun k hk => ?_, fun k hk => ?_⟩, hS.mv g ?_, ?_, hI.mv g (Nat.le_refl _) (Nat.le_refl _) (Nat.le_refl _) (fun _ _ => rfl) (fun _ _ => rfl) ?_⟩
  · rw [hmdl, y36 21, (G0.2 36 21 (by omega)).1, m36 21 (by omega), (g03.2 8 5 (nS 8 5 (by omega) (by omega))).1, hB.2.1, hB.2.2.1]
  · intro a k hc h42 h5 hs
    rcases hs with hs | ⟨j, hj, hs⟩ | ⟨j, hj, hs⟩ | hs
    · rcases hc with h | h | h | h | ⟨i', hi', h, hk'⟩ <;> first | omega | (have := hC.ge hi'; omega)
    · exact h5 hs.2 j (by omega) hs.1
    · rcases hc with h | h | h | h | ⟨i', hi', h, hk'⟩ <;> first | (have := hB.ge (show j < m by omega); omega) | (have := r_ne hC hB hi' (show j < m by omega); omega)
    · rcases hc with h | h | h | h | ⟨i', hi', h, hk'⟩ <;> first | omega | (have := hC.ge hi'; omega)
  · intro j hj
    have hgj := hC.ge hj
    obtain ⟨-, ⟨-, -, b3, b4⟩, -, d, -⟩ := hC.2.2.2 j hj
    by_cases cj : j < kc
    · obtain ⟨u1, u2, u3⟩ := i10 j cj
      rw [z1 (A j) 2 (by omega), z1 (A j) 3 (by omega), (wA j cj).1, (wA j cj).2, (y42 j cj).1, (y42 j cj).2]
      exact ⟨u1, u2, u3⟩
    · have ee : ∀ k, k = 2 ∨ k = 3 → fF τd (A j) k = fF σ (A j) k := fun k hk => (g.2 (A j) k (fun x => by
        rcases x with x | ⟨j', hj', x⟩ | ⟨j', hj', x⟩ | x
        · omega
        · have := (hC.2.2.2 j hj).2.2.2.2 j' (by omega) x.1; omega
        · exact r_ne hC hB hj (show j' < m by omega) x.1
        · omega)).1
      have e4 : ∀ a, a = 42 ∨ a = 43 → fF τd a j = fF σ a j := fun a ha => (g.2 a j (nS a j (by omega) (by omega))).1
      rw [ee 2 (by omega), ee 3 (by omega), e4 42 (by omega), e4 43 (by omega)]
      exact ⟨b3, b4, d⟩
  · intro a k hc h42 h5 hs
    rcases hs with hs | ⟨j, hj, hs⟩ | ⟨j, hj, hs⟩ | hs
    · rcases hc with h | h | h | h | ⟨i', hi', h, hk'⟩ <;> first | omega | (have := hB.ge hi'; omega)
    · rcases hc with h | h | h | h | ⟨i', hi', h, hk'⟩ <;> first | (have := hC.ge (show j < n by omega); omega) | (have := r_ne hC hB (show j < n by omega) hi'; omega)
    · exact h5 hs.2 j (by omega) hs.1
    · rcases hc with h | h | h | h | ⟨i', hi', h, hk'⟩ <;> first | omega | (have := hB.ge hi'; omega)
  · intro j hj
    have hgj := hB.ge hj
    obtain ⟨-, b, ⟨-, -, -, -, c5⟩, -⟩ := hB.2.2.2 j hj
    by_cases cj : j < kr
    · obtain ⟨u1, u2, u3⟩ := i11 j cj
      rw [z1 (B j) 5 (by omega), z1 (B j) 6 (by omega), (wB j cj).1, (wB j cj).2, (y49 j cj).1, (y49 j cj).2]
      exact ⟨u1, u2, u3⟩
    · have ee : ∀ k, k = 5 ∨ k = 6 → fF τd (B j) k = fF σ (B j) k := fun k hk => (g.2 (B j) k (fun x => by
        rcases x with x | ⟨j', hj', x⟩ | ⟨j', hj', x⟩ | x
        · omega
        · exact r_ne hC hB (show j' < n by omega) hj x.1.symm
        · have := (hB.2.2.2 j hj).2.2.2 j' (by omega) x.1; omega
        · omega)).1
      have e4 : ∀ a, a = 49 ∨ a = 50 → fF τd a j = fF σ a j := fun a ha => (g.2 a j (nS a j (by omega) (by omega))).1
      rw [ee 5 (by omega), ee 6 (by omega), e4 49 (by omega), e4 50 (by omega)]
      exact ⟨b 5 (by omega), b 6 (by omega), c5⟩
  · rw [z1 8 0 (by omega), w8 8 0 (by omega), v0, y36, V12, m36 51 (by omega)]; exact i1
  · rw [z1 8 1 (by omega), w8 8 1 (by omega), v1, y36, V13, m36 52 (by omega)]; exact i2
  · rw [z1 22 k (by omega), w22 k hk, y56 k hk, y56 _ (by omega)]
    exact hP.2 k hk
  · have e23 : ∀ k, fF τd 23 k = fF σ 23 k := fun k => (g.2 23 k (nS 23 k (by omega) (by omega))).1
    have e63 : ∀ k, fF τd 63 k = fF σ 63 k := fun k => (g.2 63 k (nS 63 k (by omega) (by omega))).1
    rw [e23, e63, e63]
    exact hP.2 k hk
  · intro a k hc hs
    unfold r_Sc at hc
    rcases hs with hs | ⟨j, hj, hs⟩ | ⟨j, hj, hs⟩ | hs <;> first | omega | (have := hC.ge (show j < n by omega); omega) | (have := hB.ge (show j < m by omega); omega) | (have := hC.ge hi'; omega) | (have := hB.ge hi'; omega) | (have := hC.ge hi'; have := hB.ge (show j < m by omega); have := r_ne hC hB hi' (show j < m by omega); omega) | (have := hB.ge hi'; have := hC.ge (show j < n by omega); have := r_ne hC hB (show j < n by omega) hi'; omega)
  · obtain ⟨t1, t2, t3, -, ⟨z, t7, t8, t9, t10⟩, t11⟩ := hT
    refine ⟨t1, (g.2 11 4 (nS _ _ (by omega) (by omega))).1.trans t2, (g.2 36 3 (nS _ _ (by omega) (by omega))).1.trans t3, ⟨r, i3, ?_, ?_⟩, ⟨z, t7, (g.2 11 1 (nS _ _ (by omega) (by omega))).1.trans t8, (g.2 36 6 (nS _ _ (by omega) (by omega))).1.trans t9, fun i hi => ?_⟩, fun t ht => ?_⟩
    · rw [z1 11 5 (by omega), w8 11 5 (by omega), v5]; exact i4
    · rw [y36, V4, m36 53 (by omega)]; exact i5
    · obtain ⟨b, b1, b2, b3⟩ := t10 i hi
      exact ⟨b, b1, (g.2 39 i (nS _ _ (by omega) (by omega))).1.trans b2, (g.2 12 i (nS _ _ (by omega) (by omega))).1.trans b3⟩
    · obtain ⟨V, hV⟩ := t11 t ht
      have gF : ∀ a, (a = 13 ∨ a = 14 ∨ a = 37 ∨ a = 38) → fF τd a = fF σ a := fun a x => funext fun k => (g.2 a k (nS _ _ (by omega) (by omega))).1
      refine ⟨V, ?_⟩
      unfold r_X
      rw [gF 13 (by omega), gF 14 (by omega), gF 37 (by omega), gF 38 (by omega)]
      exact hV
  · intro a k hc hs
    rcases hs with hs | ⟨j, hj, hs⟩ | ⟨j, hj, hs⟩ | hs <;> rcases hc with h | h | h | ⟨i', hi', h, hk'⟩ | ⟨i', hi', h, hk'⟩ <;> first | omega | (have := hC.ge (show j < n by omega); omega) | (have := hB.ge (show j < m by omega); omega) | (have := hC.ge hi'; omega) | (have := hB.ge hi'; omega) | (have := hC.ge hi'; have := hB.ge (show j < m by omega); have := r_ne hC hB hi' (show j < m by omega); omega) | (have := hB.ge hi'; have := hC.ge (show j < n by omega); have := r_ne hC hB (show j < n by omega) hi'; omega)
