/-! THE METHODS: ill, force, path, set -/
def m_OK (f g : am_S → Option (Int32 × am_S)) : Prop := ∀ σ, RX σ → ∃ v σ1 σ2, f σ = some (v, σ1) ∧ g σ1 = some (v, σ2) ∧ RX σ2
theorem r_iC0_no {n : Nat} {σ : am_S} (h1 : n ≤ 7) (e : fF σ 36 11 = nI n) {x : Int32} (hx : ¬ (0 ≤ x.toInt ∧ x.toInt < n)) : f12_isCrossing σ x = some false := by
  unfold f12_isCrossing
  rw [q_nt 0 ((n : Int) - 1) rfl (by rw [q_64, e, q_pred (by omega)]), Option.bind_some, q_wiF.mpr (by omega)]
theorem r_iC0_yes {n : Nat} {σ : am_S} (h1 : n ≤ 7) (e : fF σ 36 11 = nI n) {i : Nat} (hi : i < n) : f12_isCrossing σ (nI i) = some true := by
  unfold f12_isCrossing
  rw [q_nt 0 ((n : Int) - 1) rfl (by rw [q_64, e, q_pred (by omega)]), Option.bind_some, q_wiT.mpr (by rw [nI_toInt (by omega)]; omega)]
theorem r_iR0_no {m : Nat} {σ : am_S} (h1 : m ≤ 14) (e : fF σ 36 21 = nI m) {x : Int32} (hx : ¬ (0 ≤ x.toInt ∧ x.toInt < m)) : f12_isRower σ x = some false := by
  unfold f12_isRower
  rw [q_nt 0 ((m : Int) - 1) rfl (by rw [q_64, e, q_pred (by omega)]), Option.bind_some, q_wiF.mpr (by omega)]
theorem r_iR0_yes {m : Nat} {σ : am_S} (h1 : m ≤ 14) (e : fF σ 36 21 = nI m) {i : Nat} (hi : i < m) : f12_isRower σ (nI i) = some true := by
  unfold f12_isRower
  rw [q_nt 0 ((m : Int) - 1) rfl (by rw [q_64, e, q_pred (by omega)]), Option.bind_some, q_wiT.mpr (by rw [nI_toInt (by omega)]; omega)]
/-- illness and turns may change, alike on both sides -/
theorem r_B.it {S : Nat → Nat → Prop} {n m : Nat} {B : Nat → Nat} {σ σ' : am_S} (h : r_B n m B σ) (g : q_Ag S σ σ') (hS : ∀ a k, r_Bc m B a k → (a ≠ 49 ∧ a ≠ 50) → ((k = 5 ∨ k = 6) → ∀ j, j < m → a ≠ B j) → ¬ S a k) (h5 : ∀ j, j < m → fF σ' (B j) 5 = fF σ' 49 j ∧ fF σ' (B j) 6 = fF σ' 50 j ∧ (fF σ' 49 j = 0 ∨ fF σ' 49 j = 1)) : r_B n m B σ' := by
  obtain ⟨h1, h2, h3, h4⟩ := h
  have ge : ∀ j, j < m → 68 ≤ B j := fun j hj => (h4 j hj).1.1
  have no : ∀ a, a < 68 → ∀ j, j < m → a ≠ B j := fun a ha j hj => by have := ge j hj; omega
  have g1 : ∀ a k, r_Bc m B a k → (a ≠ 49 ∧ a ≠ 50) → a < 68 → fF σ' a k = fF σ a k ∧ fQ σ' a k = fQ σ a k := fun a k x y z => g.2 a k (hS a k x y (fun _ => no a z))
  refine ⟨h1, (g1 8 5 (Or.inl ⟨rfl, rfl⟩) (by omega) (by omega)).1.trans h2, (g1 36 21 (Or.inr (Or.inl ⟨rfl, rfl⟩)) (by omega) (by omega)).1.trans h3, fun i hi => ?_⟩
  obtain ⟨⟨a1, a2, k, hk, a3, a4⟩, b, ⟨c1, c2, c3, c4, c5⟩, e⟩ := h4 i hi
  have x4 : ∀ a k, 44 ≤ a ∧ a ≤ 48 → fF σ' a k = fF σ a k := fun a k x => (g1 a k (Or.inr (Or.inr (Or.inr (Or.inl (by omega))))) (by omega) (by omega)).1
  have xA : ∀ k, k ≤ 4 → fF σ' (B i) k = fF σ (B i) k := fun k x => (g.2 (B i) k (hS (B i) k (Or.inr (Or.inr (Or.inr (Or.inr ⟨i, hi, rfl, by omega⟩)))) (by omega) (fun y => by omega))).1
  obtain ⟨d1, d2, d3⟩ := h5 i hi
  refine ⟨⟨a1, (g1 10 i (Or.inr (Or.inr (Or.inl rfl))) (by omega) (by omega)).2.trans a2, k, hk, (x4 44 i (by omega)).trans a3, g.ci a4 (r_kc_ne k)⟩, fun j hj => ?_, ⟨?_, ?_, ?_, ?_, d3⟩, e⟩
  · by_cases j5 : j = 5
    · rw [j5]; exact d1
    · by_cases j6 : j = 6
      · rw [j6]; exact d2
      · rw [xA j (by omega), x4 (44 + j) i (by omega)]; exact b j hj
  · rw [x4 45 i (by omega)]; exact c1
  · rw [x4 46 i (by omega)]; exact c2
  · rw [x4 47 i (by omega)]; exact c3
  · rw [x4 48 i (by omega)]; exact c4
/-- open and heads may change, alike on both sides -/
theorem r_C.oh {S : Nat → Nat → Prop} {n : Nat} {A : Nat → Nat} {σ σ' : am_S} (h : r_C n A σ) (g : q_Ag S σ σ') (hS : ∀ a k, r_Cc n A a k → (a ≠ 42 ∧ a ≠ 43) → ((k = 2 ∨ k = 3) → ∀ j, j < n → a ≠ A j) → ¬ S a k) (h5 : ∀ j, j < n → fF σ' (A j) 2 = fF σ' 42 j ∧ fF σ' (A j) 3 = fF σ' 43 j ∧ (fF σ' 42 j = 0 ∨ fF σ' 42 j = 1)) : r_C n A σ' := by
  obtain ⟨h1, h2, h3, h4⟩ := h
  have ge : ∀ j, j < n → 68 ≤ A j := fun j hj => (h4 j hj).1.1
  have no : ∀ a, a < 68 → ∀ j, j < n → a ≠ A j := fun a ha j hj => by have := ge j hj; omega
  have g1 : ∀ a k, r_Cc n A a k → (a ≠ 42 ∧ a ≠ 43) → a < 68 → fF σ' a k = fF σ a k ∧ fQ σ' a k = fQ σ a k := fun a k x y z => g.2 a k (hS a k x y (fun _ => no a z))
  refine ⟨h1, (g1 8 3 (Or.inl ⟨rfl, rfl⟩) (by omega) (by omega)).1.trans h2, (g1 36 11 (Or.inr (Or.inl ⟨rfl, rfl⟩)) (by omega) (by omega)).1.trans h3, fun i hi => ?_⟩
  obtain ⟨⟨a1, a2, a3⟩, ⟨b1, b2, b3, b4⟩, c, d, e⟩ := h4 i hi
  have x4 : ∀ a k, 40 ≤ a ∧ a ≤ 41 → fF σ' a k = fF σ a k := fun a k x => (g1 a k (Or.inr (Or.inr (Or.inr (Or.inl (by omega))))) (by omega) (by omega)).1
  have xA : ∀ k, k ≤ 1 → fF σ' (A i) k = fF σ (A i) k := fun k x => (g.2 (A i) k (hS (A i) k (Or.inr (Or.inr (Or.inr (Or.inr ⟨i, hi, rfl, by omega⟩)))) (by omega) (fun y => by omega))).1
  obtain ⟨d1, d2, d3⟩ := h5 i hi
  refine ⟨⟨a1, (g1 9 i (Or.inr (Or.inr (Or.inl rfl))) (by omega) (by omega)).2.trans a2, g.ci a3 (by decide)⟩, ⟨?_, ?_, d1, d2⟩, ?_, d3, e⟩
  · rw [xA 0 (by omega), x4 40 i (by omega)]; exact b1
  · rw [xA 1 (by omega), x4 41 i (by omega)]; exact b2
  · rw [x4 41 i (by omega)]; exact c
theorem m_ill (x1 x2 : Int32) : m_OK (fun σ => f11_ill σ x1 x2) (fun σ => f12_ill σ x1 x2) := by
  intro σ h
  have hX := h
  obtain ⟨n, m, tc, A, B, hK, hC, hB, hW, hP, hS, hT, hI⟩ := h
  have h1 := hB.1
  dsimp only
  unfold f11_ill
  rcases q_ix x1 m with hx | ⟨i, hi, rfl⟩
  · rw [r_rA_no hB hx]
    refine ⟨-2, σ, σ, rfl, ?_, hX⟩
    unfold f12_ill
    rw [r_iR_no hB hx]; rfl
  · rw [r_rA_yes hB hi]
    simp only [Option.bind_some, Option.elim_some, wt_0_1]
    cases hq : q_wi x2 0 1 with
    | false =>
      refine ⟨-2, σ, σ, rfl, ?_, hX⟩
      unfold f12_ill
      rw [r_iR_yes hB hi]
      simp only [Option.bind_some, reduceIte, in_0_1, hq]
      rfl
    | true =>
      rw [if_pos rfl, if_pos (r_7 hB hi)]
      have hg := hB.ge hi
      obtain ⟨⟨a1, a2, k, hk, a3, a4⟩, b, c, e⟩ := hB.2.2.2 i hi
      refine ⟨_, _, sF (sF σ (B i) 5 x2) 49 i x2, rfl, ?_, ?_⟩
      · unfold f12_ill
        rw [r_iR0_yes h1 (by rw [q_FFa (by omega)]; exact hB.2.2.1) hi]
        simp only [Option.bind_some, reduceIte, in_0_1, hq]
        rw [if_pos (q_in (by omega) (by omega)), if_pos (q_in (by omega) (by omega)), nI_clamp (by omega), q_FFa (by omega), b 5 (by omega)]
      · have g : q_Ag (fun a k => (a = B i ∧ k = 5) ∨ (a = 49 ∧ k = i)) σ (sF (sF σ (B i) 5 x2) 49 i x2) := ((q_Ag.rf σ).sF (Or.inl ⟨rfl, rfl⟩)).sF (Or.inr ⟨rfl, rfl⟩)
        have hx2 : x2 = 0 ∨ x2 = 1 := by
          have := q_wiT.mp hq
          have hv : x2.toInt = 0 ∨ x2.toInt = 1 := by omega
          rcases hv with hv | hv
          · exact Or.inl (i_ext hv)
          · exact Or.inr (i_ext hv)
        refine ⟨n, m, tc, A, B, hK.mv g, hC.mv g ?_, hB.it g ?_ ?_, hW.mv g ?_, hP.mv g ?_, hS.mv g ?_, hT.mv g ?_, hI.mv g (Nat.le_refl _) (Nat.le_refl _) (Nat.le_refl _) (fun _ _ => rfl) (fun _ _ => rfl) ?_⟩
        · intro a k hc hs
          rcases hc with h | h | h | h | ⟨i', hi', h, hk'⟩
          · omega
          · omega
          · omega
          · omega
          · have := hC.ge hi'
            have := r_ne hC hB hi' hi
            omega
        · intro a k hc h49 h5 hs
          have := fun y => h5 y i hi
          omega
        · intro j hj
          have hgj := hB.ge hj
          by_cases hij : j = i
          · rw [hij]
            refine ⟨?_, ?_, ?_⟩
            · rw [q_FFa (by omega), q_FFe, q_FFe]
            · rw [q_FFa (by omega), q_FFk (by omega), q_FFa (by omega), q_FFa (by omega)]
              exact b 6 (by omega)
            · rw [q_FFe]; exact hx2
          · have hne : B j ≠ B i := fun x => hij ((hB.2.2.2 j hj).2.2.2 i hi x)
            obtain ⟨-, b', ⟨-, -, -, -, c'⟩, -⟩ := hB.2.2.2 j hj
            refine ⟨?_, ?_, ?_⟩
            · rw [q_FFa (by omega), q_FFa hne, q_FFk hij, q_FFa (by omega)]; exact b' 5 (by omega)
            · rw [q_FFa (by omega), q_FFa hne, q_FFa (by omega), q_FFa (by omega)]; exact b' 6 (by omega)
            · rw [q_FFk hij, q_FFa (by omega)]; exact c'
        · intro a k hc hs; unfold r_Wc at hc; omega
        · intro a k hc hs; unfold r_Pc at hc; omega
        · intro a k hc hs; unfold r_Sc at hc; omega
        · intro a k hc hs; unfold r_Tc at hc; omega
        · intro a k hc hs
          rcases hc with h | h | h | ⟨i', hi', h, hk'⟩ | ⟨i', hi', h, hk'⟩
          · omega
          · omega
          · omega
          · have := hC.ge hi'
            have := r_ne hC hB hi' hi
            omega
          · have := hB.ge hi'
            omega
theorem m_force (x1 : Int32) : m_OK (fun σ => f11_force σ x1) (fun σ => f12_force σ x1) := by
  intro σ h
  have hX := h
  obtain ⟨n, m, tc, A, B, hK, hC, hB, hW, hP, hS, hT, hI⟩ := h
  obtain ⟨t1, t2, t3, ⟨r, t4, t5, t6⟩, t7, t8⟩ := hT
  have hT : r_T tc σ := ⟨t1, t2, t3, ⟨r, t4, t5, t6⟩, t7, t8⟩
  dsimp only
  have e1 : f11_within x1 0 ((fF σ 11 4) - 1) = some (q_wi x1 0 ((tc : Int) - 1)) := q_wt _ _ rfl (by rw [t2, q_pred (by omega)])
  have e2 : ∀ s : am_S, fF s 36 3 = nI tc → f12_in x1.toInt64 0 (((fF s 36 3) - 1).toInt64) = some (q_wi x1 0 ((tc : Int) - 1)) := fun s e => q_nt _ _ rfl (by rw [q_64, e, q_pred (by omega)])
  unfold f11_force
  rw [e1, Option.bind_some]
  cases hq : q_wi x1 0 ((tc : Int) - 1) with
  | false =>
    refine ⟨-2, σ, σ, rfl, ?_, hX⟩
    unfold f12_force
    rw [e2 σ t3, hq]; rfl
  | true =>
    have hw := q_wiT.mp hq
    obtain ⟨u, hu, rfl, -⟩ := q_ofb (n := tc) (x := x1) (by omega) (by omega)
    rw [if_pos rfl]
    refine ⟨_, _, sF (sF σ 11 5 (nI u)) 36 4 (nI u), rfl, ?_, ?_⟩
    · unfold f12_force
      rw [e2 _ (by rw [q_FFa (by decide)]; exact t3), hq, Option.bind_some, if_pos rfl, q_FFa (by decide), t5, t6]
    · have g : q_Ag (fun a k => (a = 11 ∧ k = 5) ∨ (a = 36 ∧ k = 4)) σ (sF (sF σ 11 5 (nI u)) 36 4 (nI u)) := ((q_Ag.rf σ).sF (Or.inl ⟨rfl, rfl⟩)).sF (Or.inr ⟨rfl, rfl⟩)
      refine ⟨n, m, tc, A, B, hK.mv g, hC.mv g ?_, hB.mv g (Nat.le_refl _) ?_, hW.mv g ?_, hP.mv g ?_, hS.mv g ?_, ⟨t1, t2, t3, ⟨u, hu, rfl, rfl⟩, t7, t8⟩, hI.mv g (Nat.le_refl _) (Nat.le_refl _) (Nat.le_refl _) (fun _ _ => rfl) (fun _ _ => rfl) ?_⟩
      · intro a k hc hs
        rcases hc with h | h | h | h | ⟨i', hi', h, hk'⟩
        · omega
        · omega
        · omega
        · omega
        · have := hC.ge hi'
          omega
      · intro a k hc hs
        rcases hc with h | h | h | h | ⟨i', hi', h, hk'⟩
        · omega
        · omega
        · omega
        · omega
        · have := hB.ge hi'
          omega
      · intro a k hc hs; unfold r_Wc at hc; omega
      · intro a k hc hs; unfold r_Pc at hc; omega
      · intro a k hc hs; unfold r_Sc at hc; omega
      · intro a k hc hs
        rcases hc with h | h | h | ⟨i', hi', h, hk'⟩ | ⟨i', hi', h, hk'⟩
        · omega
        · omega
        · omega
        · have := hC.ge hi'
          omega
        · have := hB.ge hi'
          omega
