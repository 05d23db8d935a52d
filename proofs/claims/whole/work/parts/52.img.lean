/-! THE METHODS: image, back -/
theorem m_image {N : Nat} (hN : 200 ≤ N) : m_OK (fun σ => f11_image N σ) (fun σ => f12_image N σ) := by
  intro σ h
  obtain ⟨n, m, tc, A, B, hK, hC, hB, hW, hP, hS, hT, hI⟩ := h
  have h1 := hC.1
  have h2 := hB.1
  dsimp only
  have i0 : f11_image N σ = f11_image_L45 N N 0 (sF (sF (sF (sF (sF σ 8 13 (fF σ 8 0)) 8 14 (fF σ 8 1)) 8 15 (fF σ 11 5)) 8 16 (fF σ 8 3)) 8 17 (fF σ 8 5)) := rfl
  have g0 : q_Ag (fun a k => a = 8 ∧ 13 ≤ k ∧ k ≤ 17) σ (sF (sF (sF (sF (sF σ 8 13 (fF σ 8 0)) 8 14 (fF σ 8 1)) 8 15 (fF σ 11 5)) 8 16 (fF σ 8 3)) 8 17 (fF σ 8 5)) := (((((q_Ag.rf σ).sF ⟨rfl, by omega, by omega⟩).sF ⟨rfl, by omega, by omega⟩).sF ⟨rfl, by omega, by omega⟩).sF ⟨rfl, by omega, by omega⟩).sF ⟨rfl, by omega, by omega⟩
  have v13 : fF (sF (sF (sF (sF (sF σ 8 13 (fF σ 8 0)) 8 14 (fF σ 8 1)) 8 15 (fF σ 11 5)) 8 16 (fF σ 8 3)) 8 17 (fF σ 8 5)) 8 13 = fF σ 8 0 := rfl
  have v14 : fF (sF (sF (sF (sF (sF σ 8 13 (fF σ 8 0)) 8 14 (fF σ 8 1)) 8 15 (fF σ 11 5)) 8 16 (fF σ 8 3)) 8 17 (fF σ 8 5)) 8 14 = fF σ 8 1 := rfl
  have v15 : fF (sF (sF (sF (sF (sF σ 8 13 (fF σ 8 0)) 8 14 (fF σ 8 1)) 8 15 (fF σ 11 5)) 8 16 (fF σ 8 3)) 8 17 (fF σ 8 5)) 8 15 = fF σ 11 5 := rfl
  have v16 : fF (sF (sF (sF (sF (sF σ 8 13 (fF σ 8 0)) 8 14 (fF σ 8 1)) 8 15 (fF σ 11 5)) 8 16 (fF σ 8 3)) 8 17 (fF σ 8 5)) 8 16 = fF σ 8 3 := rfl
  have v17 : fF (sF (sF (sF (sF (sF σ 8 13 (fF σ 8 0)) 8 14 (fF σ 8 1)) 8 15 (fF σ 11 5)) 8 16 (fF σ 8 3)) 8 17 (fF σ 8 5)) 8 17 = fF σ 8 5 := rfl
  generalize (sF (sF (sF (sF (sF σ 8 13 (fF σ 8 0)) 8 14 (fF σ 8 1)) 8 15 (fF σ 11 5)) 8 16 (fF σ 8 3)) 8 17 (fF σ 8 5)) = σa at i0 g0 v13 v14 v15 v16 v17
  obtain ⟨σb, e1, g1, c1⟩ := im_c N h1 (fun i hi => hC.ge hi) (fun i j hi hj e => (hC.2.2.2 i hi).2.2.2.2 j hj e) σa (by omega) ((g0.2 8 3 (by omega)).1.trans hC.2.1) (fun i hi => ⟨(g0.2 9 i (by omega)).2.trans (hC.2.2.2 i hi).1.2.1, by rw [g0.ci (hC.2.2.2 i hi).1.2.2 (by decide)]; rfl⟩)
  have g01 : q_Ag (fun a k => (a = 8 ∧ 12 ≤ k ∧ k ≤ 17) ∨ (∃ j, j < n ∧ a = A j ∧ (k = 4 ∨ k = 5)) ∨ (∃ j, j < m ∧ a = B j ∧ (k = 7 ∨ k = 8)) ∨ a = 23 ∨ (a = 36 ∧ 48 ≤ k ∧ k ≤ 53) ∨ (59 ≤ a ∧ a ≤ 63)) σ σb := (g0.wk (fun a k x => Or.inl ⟨x.1, by omega, x.2.2⟩)).tr (g1.wk (fun a k x => Or.inr (Or.inl x)))
  have no1 : ∀ a, a < 68 → ∀ k, ¬ ∃ j, j < n ∧ a = A j ∧ (k = 4 ∨ k = 5) := fun a ha k x => by obtain ⟨j, hj, y, -⟩ := x; have := hC.ge hj; omega
  have no2 : ∀ a, a < 68 → ∀ k, ¬ ∃ j, j < m ∧ a = B j ∧ (k = 7 ∨ k = 8) := fun a ha k x => by obtain ⟨j, hj, y, -⟩ := x; have := hB.ge hj; omega
  have nS : ∀ a k, a < 68 → ¬ ((a = 8 ∧ 12 ≤ k ∧ k ≤ 17) ∨ a = 23 ∨ (a = 36 ∧ 48 ≤ k ∧ k ≤ 53) ∨ (59 ≤ a ∧ a ≤ 63)) → ¬ ((a = 8 ∧ 12 ≤ k ∧ k ≤ 17) ∨ (∃ j, j < n ∧ a = A j ∧ (k = 4 ∨ k = 5)) ∨ (∃ j, j < m ∧ a = B j ∧ (k = 7 ∨ k = 8)) ∨ a = 23 ∨ (a = 36 ∧ 48 ≤ k ∧ k ≤ 53) ∨ (59 ≤ a ∧ a ≤ 63)) := fun a k ha hn x => by
    have := no1 a ha k
    have := no2 a ha k
    rcases x with x | x | x | x | x | x
    · omega
    · exact no1 a ha k x
    · exact no2 a ha k x
    · omega
    · omega
    · omega
  obtain ⟨σc, e2, g2, c2⟩ := im_r N h2 (fun i hi => hB.ge hi) (fun i j hi hj e => (hB.2.2.2 i hi).2.2.2 j hj e) σb (by omega) ((g01.2 8 5 (nS 8 5 (by omega) (by omega))).1.trans hB.2.1) (fun i hi => ⟨(g01.2 10 i (nS 10 i (by omega) (by omega))).2.trans (hB.2.2.2 i hi).1.2.1, by
    obtain ⟨k, -, -, hk⟩ := (hB.2.2.2 i hi).1.2.2
    rw [g01.ci hk (r_kc_ne k), ← hk]; exact r_7 hB hi⟩)
  have g02 := g01.tr (g2.wk (fun a k x => Or.inr (Or.inr (Or.inl x))))
  have c22 : fF σc 22 = fF σ 22 := funext fun k => (g02.2 22 k (nS 22 k (by omega) (by omega))).1
  have g03 : q_Ag (fun a k => (a = 8 ∧ 12 ≤ k ∧ k ≤ 17) ∨ (∃ j, j < n ∧ a = A j ∧ (k = 4 ∨ k = 5)) ∨ (∃ j, j < m ∧ a = B j ∧ (k = 7 ∨ k = 8)) ∨ a = 23 ∨ (a = 36 ∧ 48 ≤ k ∧ k ≤ 53) ∨ (59 ≤ a ∧ a ≤ 63)) σ (sF (sK σc 23 (va_cpy (fF σc 22) (fF σc 23) 0 0 100)) 8 12 1) := (g02.sK (fun k => Or.inr (Or.inr (Or.inr (Or.inl rfl))))).sF (Or.inl ⟨rfl, by omega, by omega⟩)
  have hcls : f11_image N σ = some (fF (sF (sK σc 23 (va_cpy (fF σc 22) (fF σc 23) 0 0 100)) 8 12 1) 8 5, sF (sK σc 23 (va_cpy (fF σc 22) (fF σc 23) 0 0 100)) 8 12 1) := by
    rw [i0, e1]
    unfold f11_image_J68
    rw [e2]
    unfold f11_image_J93 f4_keep
    rw [if_pos (by decide), Option.bind_some]
    rfl
  have w12 : fF (sF (sK σc 23 (va_cpy (fF σc 22) (fF σc 23) 0 0 100)) 8 12 1) 8 12 = 1 := q_FFe
  have w8 : ∀ k, 13 ≤ k → k ≤ 17 → fF (sF (sK σc 23 (va_cpy (fF σc 22) (fF σc 23) 0 0 100)) 8 12 1) 8 k = fF σa 8 k := fun k k1 k2 => by
    rw [q_FFk (by omega), q_FK, if_neg (by decide), (g2.2 8 k (fun x => by obtain ⟨j, hj, y, -⟩ := x; have := hB.ge hj; omega)).1, (g1.2 8 k (fun x => by obtain ⟨j, hj, y, -⟩ := x; have := hC.ge hj; omega)).1]
  have w23 : ∀ k, k < 100 → fF (sF (sK σc 23 (va_cpy (fF σc 22) (fF σc 23) 0 0 100)) 8 12 1) 23 k = fF σ 22 k := fun k hk => by
    rw [q_FFa (by decide), q_FK, if_pos rfl, pk_cpy_in (by omega) (by omega), c22]
    congr 1
    omega
  have wA : ∀ j, j < n → fF (sF (sK σc 23 (va_cpy (fF σc 22) (fF σc 23) 0 0 100)) 8 12 1) (A j) 4 = fF σ (A j) 2 ∧ fF (sF (sK σc 23 (va_cpy (fF σc 22) (fF σc 23) 0 0 100)) 8 12 1) (A j) 5 = fF σ (A j) 3 := fun j hj => by
    have hgj := hC.ge hj
    obtain ⟨u1, u2⟩ := c1 j hj
    have ee : ∀ k, fF (sF (sK σc 23 (va_cpy (fF σc 22) (fF σc 23) 0 0 100)) 8 12 1) (A j) k = fF σb (A j) k := fun k => by
      rw [q_FFa (by omega), q_FK, if_neg (by omega), (g2.2 (A j) k (fun x => by obtain ⟨j', hj', y, -⟩ := x; exact r_ne hC hB hj hj' y)).1]
    rw [ee, ee, u1, u2, (g0.2 (A j) 2 (by omega)).1, (g0.2 (A j) 3 (by omega)).1]
    exact ⟨rfl, rfl⟩
  have wB : ∀ j, j < m → fF (sF (sK σc 23 (va_cpy (fF σc 22) (fF σc 23) 0 0 100)) 8 12 1) (B j) 7 = fF σ (B j) 5 ∧ fF (sF (sK σc 23 (va_cpy (fF σc 22) (fF σc 23) 0 0 100)) 8 12 1) (B j) 8 = fF σ (B j) 6 := fun j hj => by
    have hgj := hB.ge hj
    obtain ⟨u1, u2⟩ := c2 j hj
    have ee : ∀ k, fF (sF (sK σc 23 (va_cpy (fF σc 22) (fF σc 23) 0 0 100)) 8 12 1) (B j) k = fF σc (B j) k := fun k => by
      rw [q_FFa (by omega), q_FK, if_neg (by omega)]
    have eb : ∀ k, fF σb (B j) k = fF σ (B j) k := fun k => by
      rw [(g1.2 (B j) k (fun x => by obtain ⟨j', hj', y, -⟩ := x; exact r_ne hC hB hj' hj y.symm)).1, (g0.2 (B j) k (by omega)).1]
    rw [ee, ee, u1, u2, eb, eb]
    exact ⟨rfl, rfl⟩
  generalize (sF (sK σc 23 (va_cpy (fF σc 22) (fF σc 23) 0 0 100)) 8 12 1) = σ1 at g03 hcls w12 w8 w23 wA wB
  -- the model
  have j0 : f12_image N σ1 = f12_image_L47 N N 0 (sF (sF (sF (sF (sF (sF σ1 36 48 1) 36 49 (fF σ1 36 11)) 36 50 (fF σ1 36 21)) 36 51 (fF σ1 36 12)) 36 52 (fF σ1 36 13)) 36 53 (fF σ1 36 4)) := rfl
  have G0 : q_Ag (fun a k => a = 36 ∧ 48 ≤ k ∧ k ≤ 53) σ1 (sF (sF (sF (sF (sF (sF σ1 36 48 1) 36 49 (fF σ1 36 11)) 36 50 (fF σ1 36 21)) 36 51 (fF σ1 36 12)) 36 52 (fF σ1 36 13)) 36 53 (fF σ1 36 4)) := ((((((q_Ag.rf σ1).sF ⟨rfl, by omega, by omega⟩).sF ⟨rfl, by omega, by omega⟩).sF ⟨rfl, by omega, by omega⟩).sF ⟨rfl, by omega, by omega⟩).sF ⟨rfl, by omega, by omega⟩).sF ⟨rfl, by omega, by omega⟩
  have V48 : fF (sF (sF (sF (sF (sF (sF σ1 36 48 1) 36 49 (fF σ1 36 11)) 36 50 (fF σ1 36 21)) 36 51 (fF σ1 36 12)) 36 52 (fF σ1 36 13)) 36 53 (fF σ1 36 4)) 36 48 = 1 := rfl
  have V49 : fF (sF (sF (sF (sF (sF (sF σ1 36 48 1) 36 49 (fF σ1 36 11)) 36 50 (fF σ1 36 21)) 36 51 (fF σ1 36 12)) 36 52 (fF σ1 36 13)) 36 53 (fF σ1 36 4)) 36 49 = fF σ1 36 11 := rfl
  have V50 : fF (sF (sF (sF (sF (sF (sF σ1 36 48 1) 36 49 (fF σ1 36 11)) 36 50 (fF σ1 36 21)) 36 51 (fF σ1 36 12)) 36 52 (fF σ1 36 13)) 36 53 (fF σ1 36 4)) 36 50 = fF σ1 36 21 := rfl
  have V51 : fF (sF (sF (sF (sF (sF (sF σ1 36 48 1) 36 49 (fF σ1 36 11)) 36 50 (fF σ1 36 21)) 36 51 (fF σ1 36 12)) 36 52 (fF σ1 36 13)) 36 53 (fF σ1 36 4)) 36 51 = fF σ1 36 12 := rfl
  have V52 : fF (sF (sF (sF (sF (sF (sF σ1 36 48 1) 36 49 (fF σ1 36 11)) 36 50 (fF σ1 36 21)) 36 51 (fF σ1 36 12)) 36 52 (fF σ1 36 13)) 36 53 (fF σ1 36 4)) 36 52 = fF σ1 36 13 := rfl
  have V53 : fF (sF (sF (sF (sF (sF (sF σ1 36 48 1) 36 49 (fF σ1 36 11)) 36 50 (fF σ1 36 21)) 36 51 (fF σ1 36 12)) 36 52 (fF σ1 36 13)) 36 53 (fF σ1 36 4)) 36 53 = fF σ1 36 4 := rfl
  generalize (sF (sF (sF (sF (sF (sF σ1 36 48 1) 36 49 (fF σ1 36 11)) 36 50 (fF σ1 36 21)) 36 51 (fF σ1 36 12)) 36 52 (fF σ1 36 13)) 36 53 (fF σ1 36 4)) = τa at j0 G0 V48 V49 V50 V51 V52 V53
  have m36 : ∀ k, k < 48 → fF σ1 36 k = fF σ 36 k := fun k hk => (g03.2 36 k (nS 36 k (by omega) (by omega))).1
  obtain ⟨τb, E1, G1, C1⟩ := im_c2 N h1 τa (by omega) (by rw [(G0.2 36 11 (by omega)).1, m36 11 (by omega)]; exact hC.2.2.1)
  obtain ⟨τc, E2, G2, C2⟩ := im_r2 N h2 τb (by omega) (by rw [(G1.2 36 21 (by omega)).1, (G0.2 36 21 (by omega)).1, m36 21 (by omega)]; exact hB.2.2.1)
  obtain ⟨τd, E3, G3, C3⟩ := im_p2 N τc (by omega)
  have hmdl : f12_image N σ1 = some (fF τd 36 21, τd) := by
    rw [j0, E1]
    unfold f12_image_J85
    rw [E2]
    unfold f12_image_J125
    exact E3
  have GG : q_Ag (fun a k => (a = 36 ∧ 48 ≤ k ∧ k ≤ 53) ∨ (59 ≤ a ∧ a ≤ 63)) σ1 τd := (G0.wk (fun a k x => Or.inl x)).tr ((G1.wk (fun a k x => Or.inr (by omega))).tr ((G2.wk (fun a k x => Or.inr (by omega))).tr (G3.wk (fun a k x => Or.inr (by have y : a = 63 := x; omega)))))
  have g : q_Ag (fun a k => (a = 8 ∧ 12 ≤ k ∧ k ≤ 17) ∨ (∃ j, j < n ∧ a = A j ∧ (k = 4 ∨ k = 5)) ∨ (∃ j, j < m ∧ a = B j ∧ (k = 7 ∨ k = 8)) ∨ a = 23 ∨ (a = 36 ∧ 48 ≤ k ∧ k ≤ 53) ∨ (59 ≤ a ∧ a ≤ 63)) σ τd := g03.tr (GG.wk (fun a k x => by
    rcases x with x | x
    · exact Or.inr (Or.inr (Or.inr (Or.inr (Or.inl x))))
    · exact Or.inr (Or.inr (Or.inr (Or.inr (Or.inr x))))))
  have x36 : ∀ k, k < 48 → fF τd 36 k = fF σ 36 k := fun k hk => (g.2 36 k (nS 36 k (by omega) (by omega))).1
  have y36 : ∀ k, fF τd 36 k = fF τa 36 k := fun k => by rw [(G3.2 36 k (by show ¬ (36 : Nat) = 63; omega)).1, (G2.2 36 k (by omega)).1, (G1.2 36 k (by omega)).1]
  have y59 : ∀ j, j < n → fF τd 59 j = fF σ 42 j ∧ fF τd 60 j = fF σ 43 j := fun j hj => by
    obtain ⟨u1, u2⟩ := C1 j hj
    have ee : ∀ a, a = 59 ∨ a = 60 → fF τd a j = fF τb a j := fun a ha => by rw [(G3.2 a j (by show ¬ a = 63; omega)).1, (G2.2 a j (by omega)).1]
    have e4 : ∀ a, a = 42 ∨ a = 43 → fF τa a j = fF σ a j := fun a ha => by rw [(G0.2 a j (by omega)).1, (g03.2 a j (nS a j (by omega) (by omega))).1]
    rw [ee 59 (by omega), ee 60 (by omega), u1, u2, e4 42 (by omega), e4 43 (by omega)]
    exact ⟨rfl, rfl⟩
  have y61 : ∀ j, j < m → fF τd 61 j = fF σ 49 j ∧ fF τd 62 j = fF σ 50 j := fun j hj => by
    obtain ⟨u1, u2⟩ := C2 j hj
    have ee : ∀ a, a = 61 ∨ a = 62 → fF τd a j = fF τc a j := fun a ha => by rw [(G3.2 a j (by show ¬ a = 63; omega)).1]
    have e4 : ∀ a, a = 49 ∨ a = 50 → fF τb a j = fF σ a j := fun a ha => by rw [(G1.2 a j (by omega)).1, (G0.2 a j (by omega)).1, (g03.2 a j (nS a j (by omega) (by omega))).1]
    rw [ee 61 (by omega), ee 62 (by omega), u1, u2, e4 49 (by omega), e4 50 (by omega)]
    exact ⟨rfl, rfl⟩
  have y63 : ∀ j, j < 100 → fF τd 63 j = fF σ 56 j := fun j hj => by
    rw [C3 j hj, (G2.2 56 j (by omega)).1, (G1.2 56 j (by omega)).1, (G0.2 56 j (by omega)).1, (g03.2 56 j (nS 56 j (by omega) (by omega))).1]
  have z1 : ∀ a k, a ≠ 36 → ¬ (59 ≤ a ∧ a ≤ 63) → fF τd a k = fF σ1 a k := fun a k h1 h2 => (GG.2 a k (by omega)).1
  refine ⟨_, σ1, τd, hcls, ?_, n, m, tc, A, B, hK.mv g, hC.mv g ?_, hB.mv g (Nat.le_refl _) ?_, hW.mv g ?_, ⟨fun k hk => ?_, fun k hk => ?_⟩, hS.mv g ?_, hT.mv g ?_, ?_, Or.inr ⟨n, m, Nat.le_refl _, Nat.le_refl _, ?_, ?_, ?_, ⟨?_, ?_, ?_, ?_⟩, fun i hi => ?_, fun i hi => ?_⟩⟩
  · rw [hmdl, x36 21 (by omega), (g03.2 8 5 (nS 8 5 (by omega) (by omega))).1, hB.2.1, hB.2.2.1]
  · intro a k hc hs
    rcases hs with hs | ⟨j, hj, hs⟩ | ⟨j, hj, hs⟩ | hs | hs | hs <;> rcases hc with h | h | h | h | ⟨i', hi', h, hk'⟩ <;> first | omega | (have := hC.ge hj; omega) | (have := hB.ge hj; omega) | (have := hC.ge hi'; omega) | (have := hB.ge hi'; omega) | (have := hC.ge hi'; have := hB.ge hj; have := r_ne hC hB hi' hj; omega) | (have := hB.ge hi'; have := hC.ge hj; have := r_ne hC hB hj hi'; omega)
  · intro a k hc hs
    rcases hs with hs | ⟨j, hj, hs⟩ | ⟨j, hj, hs⟩ | hs | hs | hs <;> rcases hc with h | h | h | h | ⟨i', hi', h, hk'⟩ <;> first | omega | (have := hC.ge hj; omega) | (have := hB.ge hj; omega) | (have := hC.ge hi'; omega) | (have := hB.ge hi'; omega) | (have := hC.ge hi'; have := hB.ge hj; have := r_ne hC hB hi' hj; omega) | (have := hB.ge hi'; have := hC.ge hj; have := r_ne hC hB hj hi'; omega)
  · intro a k hc hs
    unfold r_Wc at hc
    rcases hs with hs | ⟨j, hj, hs⟩ | ⟨j, hj, hs⟩ | hs | hs | hs <;> first | omega | (have := hC.ge hj; omega) | (have := hB.ge hj; omega) | (have := hC.ge hi'; omega) | (have := hB.ge hi'; omega) | (have := hC.ge hi'; have := hB.ge hj; have := r_ne hC hB hi' hj; omega) | (have := hB.ge hi'; have := hC.ge hj; have := r_ne hC hB hj hi'; omega)
  · have e22 : ∀ k, fF τd 22 k = fF σ 22 k := fun k => (g.2 22 k (nS 22 k (by omega) (by omega))).1
    have e56 : ∀ k, fF τd 56 k = fF σ 56 k := fun k => (g.2 56 k (nS 56 k (by omega) (by omega))).1
    rw [e22, e56, e56]
    exact hP.1 k hk
  · rw [z1 23 k (by omega) (by omega), w23 k hk, y63 k hk, y63 _ (by omega)]
    exact hP.1 k hk
  · intro a k hc hs
    unfold r_Sc at hc
    rcases hs with hs | ⟨j, hj, hs⟩ | ⟨j, hj, hs⟩ | hs | hs | hs <;> first | omega | (have := hC.ge hj; omega) | (have := hB.ge hj; omega) | (have := hC.ge hi'; omega) | (have := hB.ge hi'; omega) | (have := hC.ge hi'; have := hB.ge hj; have := r_ne hC hB hi' hj; omega) | (have := hB.ge hi'; have := hC.ge hj; have := r_ne hC hB hj hi'; omega)
  · intro a k hc hs
    unfold r_Tc at hc
    rcases hs with hs | ⟨j, hj, hs⟩ | ⟨j, hj, hs⟩ | hs | hs | hs <;> first | omega | (have := hC.ge hj; omega) | (have := hB.ge hj; omega) | (have := hC.ge hi'; omega) | (have := hB.ge hi'; omega) | (have := hC.ge hi'; have := hB.ge hj; have := r_ne hC hB hi' hj; omega) | (have := hB.ge hi'; have := hC.ge hj; have := r_ne hC hB hj hi'; omega)
  · rw [z1 8 12 (by omega) (by omega), w12, y36, V48]
  · rw [z1 8 13 (by omega) (by omega), w8 13 (by omega) (by omega), v13, y36, V51, m36 12 (by omega)]; exact hW.1
  · rw [z1 8 14 (by omega) (by omega), w8 14 (by omega) (by omega), v14, y36, V52, m36 13 (by omega)]; exact hW.2
  · obtain ⟨-, -, -, ⟨r, r1, r2, r3⟩, -⟩ := hT
    refine ⟨r, r1, ?_, ?_⟩
    · rw [z1 8 15 (by omega) (by omega), w8 15 (by omega) (by omega), v15]; exact r2
    · rw [y36, V53, m36 4 (by omega)]; exact r3
  · rw [z1 8 16 (by omega) (by omega), w8 16 (by omega) (by omega), v16]; exact hC.2.1
  · rw [y36, V49, m36 11 (by omega)]; exact hC.2.2.1
  · rw [z1 8 17 (by omega) (by omega), w8 17 (by omega) (by omega), v17]; exact hB.2.1
  · rw [y36, V50, m36 21 (by omega)]; exact hB.2.2.1
  · have hgi := hC.ge hi
    obtain ⟨-, ⟨-, -, b3, b4⟩, -, d, -⟩ := hC.2.2.2 i hi
    rw [z1 (A i) 4 (by omega) (by omega), z1 (A i) 5 (by omega) (by omega), (wA i hi).1, (wA i hi).2, (y59 i hi).1, (y59 i hi).2]
    exact ⟨b3, b4, d⟩
  · have hgi := hB.ge hi
    obtain ⟨-, b, ⟨-, -, -, -, c5⟩, -⟩ := hB.2.2.2 i hi
    rw [z1 (B i) 7 (by omega) (by omega), z1 (B i) 8 (by omega) (by omega), (wB i hi).1, (wB i hi).2, (y61 i hi).1, (y61 i hi).2]
    exact ⟨b 5 (by omega), b 6 (by omega), c5⟩
