/-! THE METHODS: image, back -/
def lp_st (d1 s1 d2 s2 : Nat × Nat) (σ : am_S) : am_S := sF (sF σ d1.1 d1.2 (fF σ s1.1 s1.2)) d2.1 d2.2 (fF (sF σ d1.1 d1.2 (fF σ s1.1 s1.2)) s2.1 s2.2)
theorem lp_gen {R : Type} (Lp : Nat → Int32 → am_S → Option R) (K : am_S → Option R) (n : Nat) (d1 s1 d2 s2 : Nat → Nat × Nat) (good : am_S → Prop)
    (hx : ∀ n' σ, good σ → Lp (n' + 1) (nI n) σ = K σ) (hst : ∀ n' i σ, i < n → good σ → Lp (n' + 1) (nI i) σ = Lp n' (nI (i + 1)) (lp_st (d1 i) (s1 i) (d2 i) (s2 i) σ)) (hg : ∀ i σ, i < n → good σ → good (lp_st (d1 i) (s1 i) (d2 i) (s2 i) σ))
    (h1 : ∀ i j, i < n → j < n → d1 i = d1 j → i = j) (h2 : ∀ i j, i < n → j < n → d2 i = d2 j → i = j) (h3 : ∀ i j, i < n → j < n → d1 i ≠ d2 j) (h4 : ∀ i j, i < n → j < n → s1 j ≠ d1 i ∧ s1 j ≠ d2 i ∧ s2 j ≠ d1 i ∧ s2 j ≠ d2 i) :
    ∀ e i n' σ, i + e = n → e < n' → good σ → ∃ σ', Lp n' (nI i) σ = K σ' ∧ good σ' ∧ q_Ag (fun a k => ∃ j, i ≤ j ∧ j < n ∧ ((a, k) = d1 j ∨ (a, k) = d2 j)) σ σ' ∧ ∀ j, i ≤ j → j < n → fF σ' (d1 j).1 (d1 j).2 = fF σ (s1 j).1 (s1 j).2 ∧ fF σ' (d2 j).1 (d2 j).2 = fF σ (s2 j).1 (s2 j).2 := by
  have one : ∀ i σ, i < n → q_Ag (fun a k => (a, k) = d1 i ∨ (a, k) = d2 i) σ (lp_st (d1 i) (s1 i) (d2 i) (s2 i) σ) ∧ fF (lp_st (d1 i) (s1 i) (d2 i) (s2 i) σ) (d1 i).1 (d1 i).2 = fF σ (s1 i).1 (s1 i).2 ∧ fF (lp_st (d1 i) (s1 i) (d2 i) (s2 i) σ) (d2 i).1 (d2 i).2 = fF σ (s2 i).1 (s2 i).2 := by
    intro i σ hi
    refine ⟨((q_Ag.rf σ).sF (Or.inl rfl)).sF (Or.inr rfl), ?_, ?_⟩
    · unfold lp_st
      rw [q_FF, if_neg (fun x => h3 i i hi hi (Prod.ext x.1 x.2)), q_FFe]
    · unfold lp_st
      rw [q_FFe, q_FF, if_neg (fun x => (h4 i i hi hi).2.2.1 (Prod.ext x.1 x.2))]
  intro e
  induction e with
  | zero =>
    intro i n' σ hi hn hgd
    obtain ⟨n', rfl⟩ : ∃ m, n' = m + 1 := ⟨n' - 1, by omega⟩
    have : i = n := by omega
    subst this
    exact ⟨σ, hx n' σ hgd, hgd, q_Ag.rf σ, fun j x y => by omega⟩
  | succ e ih =>
    intro i n' σ hi hn hgd
    obtain ⟨n', rfl⟩ : ∃ m, n' = m + 1 := ⟨n' - 1, by omega⟩
    have hin : i < n := by omega
    obtain ⟨g0, v1, v2⟩ := one i σ hin
    obtain ⟨σ', e1, e2, g1, e3⟩ := ih (i + 1) n' (lp_st (d1 i) (s1 i) (d2 i) (s2 i) σ) (by omega) (by omega) (hg i σ hin hgd)
    refine ⟨σ', (hst n' i σ hin hgd).trans e1, e2, ?_, fun j hj1 hj2 => ?_⟩
    · exact q_Ag.tr (S := fun a k => ∃ j, i ≤ j ∧ j < n ∧ ((a, k) = d1 j ∨ (a, k) = d2 j)) (g0.wk (fun a k x => ⟨i, Nat.le_refl _, hin, x⟩)) (g1.wk (fun a k x => by obtain ⟨j, x1, x2, x3⟩ := x; exact ⟨j, by omega, x2, x3⟩))
    · by_cases c : j = i
      · subst c
        refine ⟨?_, ?_⟩
        · rw [(g1.2 _ _ (fun x => by
            obtain ⟨j', x1, x2, x3⟩ := x
            rcases x3 with x3 | x3
            · have := h1 j j' hin x2 x3; omega
            · exact h3 j j' hin x2 x3)).1]
          exact v1
        · rw [(g1.2 _ _ (fun x => by
            obtain ⟨j', x1, x2, x3⟩ := x
            rcases x3 with x3 | x3
            · exact h3 j' j x2 hin x3.symm
            · have := h2 j j' hin x2 x3; omega)).1]
          exact v2
      · obtain ⟨u1, u2⟩ := e3 j (by omega) hj2
        have h5 := h4 i j hin hj2
        rw [u1, u2, (g0.2 (s1 j).1 (s1 j).2 (fun x => by rcases x with x | x; exact h5.1 x; exact h5.2.1 x)).1, (g0.2 (s2 j).1 (s2 j).2 (fun x => by rcases x with x | x; exact h5.2.2.1 x; exact h5.2.2.2 x)).1]
        exact ⟨rfl, rfl⟩
theorem lp_row {R : Type} (Lp : Nat → Int32 → am_S → Option R) (K : am_S → Option R) (n d s : Nat) (hds : d ≠ s) (hx : ∀ n' σ, Lp (n' + 1) (nI n) σ = K σ) (hst : ∀ n' i σ, i < n → Lp (n' + 1) (nI i) σ = Lp n' (nI (i + 1)) (sF σ d i (fF σ s i))) :
    ∀ e i n' σ, i + e = n → e < n' → ∃ σ', Lp n' (nI i) σ = K σ' ∧ q_Ag (fun a k => a = d ∧ i ≤ k) σ σ' ∧ ∀ j, i ≤ j → j < n → fF σ' d j = fF σ s j := by
  intro e
  induction e with
  | zero =>
    intro i n' σ hi hn
    obtain ⟨n', rfl⟩ : ∃ m, n' = m + 1 := ⟨n' - 1, by omega⟩
    have : i = n := by omega
    subst this
    exact ⟨σ, hx n' σ, q_Ag.rf σ, fun j x y => by omega⟩
  | succ e ih =>
    intro i n' σ hi hn
    obtain ⟨n', rfl⟩ : ∃ m, n' = m + 1 := ⟨n' - 1, by omega⟩
    obtain ⟨σ', e1, g1, e3⟩ := ih (i + 1) n' (sF σ d i (fF σ s i)) (by omega) (by omega)
    refine ⟨σ', (hst n' i σ (by omega)).trans e1, ?_, fun j hj1 hj2 => ?_⟩
    · exact q_Ag.tr (S := fun a k => a = d ∧ i ≤ k) ((q_Ag.rf σ).sF ⟨rfl, Nat.le_refl _⟩) (g1.wk (fun a k x => ⟨x.1, by omega⟩))
    · by_cases c : j = i
      · subst c
        rw [(g1.2 d j (by omega)).1, q_FFe]
      · rw [e3 j (by omega) hj2, q_FFa (Ne.symm hds)]
theorem im_c (N : Nat) {n : Nat} {A : Nat → Nat} (hn7 : n ≤ 7) (h68 : ∀ i, i < n → 68 ≤ A i) (hinj : ∀ i j, i < n → j < n → A i = A j → i = j) (σ : am_S) (hN : 7 < N) (g1 : fF σ 8 3 = nI n) (g2 : ∀ i, i < n → fQ σ 9 i = some (A i) ∧ [1].contains (am_ci σ (A i)) = true) :
    ∃ σ', f11_image_L45 N N 0 σ = f11_image_J68 N σ' ∧ q_Ag (fun a k => ∃ j, j < n ∧ a = A j ∧ (k = 4 ∨ k = 5)) σ σ' ∧ ∀ j, j < n → fF σ' (A j) 4 = fF σ (A j) 2 ∧ fF σ' (A j) 5 = fF σ (A j) 3 := by
  obtain ⟨σ', e1, -, g, e2⟩ := lp_gen (f11_image_L45 N) (f11_image_J68 N) n (fun i => (A i, 4)) (fun i => (A i, 2)) (fun i => (A i, 5)) (fun i => (A i, 3)) (fun σ => fF σ 8 3 = nI n ∧ ∀ i, i < n → fQ σ 9 i = some (A i) ∧ [1].contains (am_ci σ (A i)) = true)
    (fun n' σ h => by
      unfold f11_image_L45
      rw [h.1, if_pos (nI_le (Nat.le_refl _) (by omega))])
    (fun n' i σ hi h => by
      obtain ⟨h1, h2⟩ := h
      obtain ⟨h3, h4⟩ := h2 i hi
      conv => lhs; unfold f11_image_L45
      rw [h1, if_neg (nI_ge hi (by omega)), if_pos (q_in (by omega) (by omega)), nI_clamp (by omega), h3, Option.elim_some, if_pos h4]
      unfold f1_keep
      rw [if_pos h4, Option.bind_some, nI_1]
      rfl)
    (fun i σ hi h => by
      have hh := h68 i hi
      refine ⟨?_, fun j hj => h.2 j hj⟩
      show fF (sF (sF σ (A i) 4 _) (A i) 5 _) 8 3 = nI n
      rw [q_FFa (by omega), q_FFa (by omega)]; exact h.1)
    (fun i j hi hj e => hinj i j hi hj (congrArg Prod.fst e)) (fun i j hi hj e => hinj i j hi hj (congrArg Prod.fst e))
    (fun i j _ _ e => absurd (show (4 : Nat) = 5 from congrArg Prod.snd e) (by decide)) (fun i j _ _ => ⟨fun e => absurd (show (2 : Nat) = 4 from congrArg Prod.snd e) (by decide), fun e => absurd (show (2 : Nat) = 5 from congrArg Prod.snd e) (by decide), fun e => absurd (show (3 : Nat) = 4 from congrArg Prod.snd e) (by decide), fun e => absurd (show (3 : Nat) = 5 from congrArg Prod.snd e) (by decide)⟩)
    n 0 N σ (by omega) (by omega) ⟨g1, g2⟩
  refine ⟨σ', e1, g.wk (fun a k x => ?_), fun j hj => e2 j (Nat.zero_le _) hj⟩
  obtain ⟨j, -, x2, x3⟩ := x
  rcases x3 with x3 | x3
  · exact ⟨j, x2, congrArg Prod.fst x3, Or.inl (congrArg Prod.snd x3)⟩
  · exact ⟨j, x2, congrArg Prod.fst x3, Or.inr (congrArg Prod.snd x3)⟩
theorem im_r (N : Nat) {n : Nat} {A : Nat → Nat} (hn7 : n ≤ 14) (h68 : ∀ i, i < n → 68 ≤ A i) (hinj : ∀ i j, i < n → j < n → A i = A j → i = j) (σ : am_S) (hN : 14 < N) (g1 : fF σ 8 5 = nI n) (g2 : ∀ i, i < n → fQ σ 10 i = some (A i) ∧ [2, 3, 5, 6, 7, 9].contains (am_ci σ (A i)) = true) :
    ∃ σ', f11_image_L70 N N 0 σ = f11_image_J93 N σ' ∧ q_Ag (fun a k => ∃ j, j < n ∧ a = A j ∧ (k = 7 ∨ k = 8)) σ σ' ∧ ∀ j, j < n → fF σ' (A j) 7 = fF σ (A j) 5 ∧ fF σ' (A j) 8 = fF σ (A j) 6 := by
  obtain ⟨σ', e1, -, g, e2⟩ := lp_gen (f11_image_L70 N) (f11_image_J93 N) n (fun i => (A i, 7)) (fun i => (A i, 5)) (fun i => (A i, 8)) (fun i => (A i, 6)) (fun σ => fF σ 8 5 = nI n ∧ ∀ i, i < n → fQ σ 10 i = some (A i) ∧ [2, 3, 5, 6, 7, 9].contains (am_ci σ (A i)) = true)
    (fun n' σ h => by
      unfold f11_image_L70
      rw [h.1, if_pos (nI_le (Nat.le_refl _) (by omega))])
    (fun n' i σ hi h => by
      obtain ⟨h1, h2⟩ := h
      obtain ⟨h3, h4⟩ := h2 i hi
      conv => lhs; unfold f11_image_L70
      rw [h1, if_neg (nI_ge hi (by omega)), if_pos (q_in (by omega) (by omega)), nI_clamp (by omega), h3, Option.elim_some, if_pos h4]
      unfold f7_keep
      rw [if_pos h4, Option.bind_some, nI_1]
      rfl)
    (fun i σ hi h => by
      have hh := h68 i hi
      refine ⟨?_, fun j hj => h.2 j hj⟩
      show fF (sF (sF σ (A i) 7 _) (A i) 8 _) 8 5 = nI n
      rw [q_FFa (by omega), q_FFa (by omega)]; exact h.1)
    (fun i j hi hj e => hinj i j hi hj (congrArg Prod.fst e)) (fun i j hi hj e => hinj i j hi hj (congrArg Prod.fst e))
    (fun i j _ _ e => absurd (show (7 : Nat) = 8 from congrArg Prod.snd e) (by decide)) (fun i j _ _ => ⟨fun e => absurd (show (5 : Nat) = 7 from congrArg Prod.snd e) (by decide), fun e => absurd (show (5 : Nat) = 8 from congrArg Prod.snd e) (by decide), fun e => absurd (show (6 : Nat) = 7 from congrArg Prod.snd e) (by decide), fun e => absurd (show (6 : Nat) = 8 from congrArg Prod.snd e) (by decide)⟩)
    n 0 N σ (by omega) (by omega) ⟨g1, g2⟩
  refine ⟨σ', e1, g.wk (fun a k x => ?_), fun j hj => e2 j (Nat.zero_le _) hj⟩
  obtain ⟨j, -, x2, x3⟩ := x
  rcases x3 with x3 | x3
  · exact ⟨j, x2, congrArg Prod.fst x3, Or.inl (congrArg Prod.snd x3)⟩
  · exact ⟨j, x2, congrArg Prod.fst x3, Or.inr (congrArg Prod.snd x3)⟩
theorem bk_c (N : Nat) {n : Nat} {A : Nat → Nat} (hn7 : n ≤ 7) (h68 : ∀ i, i < n → 68 ≤ A i) (hinj : ∀ i j, i < n → j < n → A i = A j → i = j) (σ : am_S) (hN : 7 < N) (g1 : fF σ 8 16 = nI n) (g2 : ∀ i, i < n → fQ σ 9 i = some (A i) ∧ [1].contains (am_ci σ (A i)) = true) :
    ∃ σ', f11_back_L39 N N 0 σ = f11_back_J62 N σ' ∧ q_Ag (fun a k => ∃ j, j < n ∧ a = A j ∧ (k = 2 ∨ k = 3)) σ σ' ∧ ∀ j, j < n → fF σ' (A j) 2 = fF σ (A j) 4 ∧ fF σ' (A j) 3 = fF σ (A j) 5 := by
  obtain ⟨σ', e1, -, g, e2⟩ := lp_gen (f11_back_L39 N) (f11_back_J62 N) n (fun i => (A i, 2)) (fun i => (A i, 4)) (fun i => (A i, 3)) (fun i => (A i, 5)) (fun σ => fF σ 8 16 = nI n ∧ ∀ i, i < n → fQ σ 9 i = some (A i) ∧ [1].contains (am_ci σ (A i)) = true)
    (fun n' σ h => by
      unfold f11_back_L39
      rw [h.1, if_pos (nI_le (Nat.le_refl _) (by omega))])
    (fun n' i σ hi h => by
      obtain ⟨h1, h2⟩ := h
      obtain ⟨h3, h4⟩ := h2 i hi
      conv => lhs; unfold f11_back_L39
      rw [h1, if_neg (nI_ge hi (by omega)), if_pos (q_in (by omega) (by omega)), nI_clamp (by omega), h3, Option.elim_some, if_pos h4]
      unfold f1_comeBack
      rw [if_pos h4, Option.bind_some, nI_1]
      rfl)
    (fun i σ hi h => by
      have hh := h68 i hi
      refine ⟨?_, fun j hj => h.2 j hj⟩
      show fF (sF (sF σ (A i) 2 _) (A i) 3 _) 8 16 = nI n
      rw [q_FFa (by omega), q_FFa (by omega)]; exact h.1)
    (fun i j hi hj e => hinj i j hi hj (congrArg Prod.fst e)) (fun i j hi hj e => hinj i j hi hj (congrArg Prod.fst e))
    (fun i j _ _ e => absurd (show (2 : Nat) = 3 from congrArg Prod.snd e) (by decide)) (fun i j _ _ => ⟨fun e => absurd (show (4 : Nat) = 2 from congrArg Prod.snd e) (by decide), fun e => absurd (show (4 : Nat) = 3 from congrArg Prod.snd e) (by decide), fun e => absurd (show (5 : Nat) = 2 from congrArg Prod.snd e) (by decide), fun e => absurd (show (5 : Nat) = 3 from congrArg Prod.snd e) (by decide)⟩)
    n 0 N σ (by omega) (by omega) ⟨g1, g2⟩
  refine ⟨σ', e1, g.wk (fun a k x => ?_), fun j hj => e2 j (Nat.zero_le _) hj⟩
  obtain ⟨j, -, x2, x3⟩ := x
  rcases x3 with x3 | x3
  · exact ⟨j, x2, congrArg Prod.fst x3, Or.inl (congrArg Prod.snd x3)⟩
  · exact ⟨j, x2, congrArg Prod.fst x3, Or.inr (congrArg Prod.snd x3)⟩
theorem bk_r (N : Nat) {n : Nat} {A : Nat → Nat} (hn7 : n ≤ 14) (h68 : ∀ i, i < n → 68 ≤ A i) (hinj : ∀ i j, i < n → j < n → A i = A j → i = j) (σ : am_S) (hN : 14 < N) (g1 : fF σ 8 17 = nI n) (g2 : ∀ i, i < n → fQ σ 10 i = some (A i) ∧ [2, 3, 5, 6, 7, 9].contains (am_ci σ (A i)) = true) :
    ∃ σ', f11_back_L64 N N 0 σ = f11_back_J87 N σ' ∧ q_Ag (fun a k => ∃ j, j < n ∧ a = A j ∧ (k = 5 ∨ k = 6)) σ σ' ∧ ∀ j, j < n → fF σ' (A j) 5 = fF σ (A j) 7 ∧ fF σ' (A j) 6 = fF σ (A j) 8 := by
  obtain ⟨σ', e1, -, g, e2⟩ := lp_gen (f11_back_L64 N) (f11_back_J87 N) n (fun i => (A i, 5)) (fun i => (A i, 7)) (fun i => (A i, 6)) (fun i => (A i, 8)) (fun σ => fF σ 8 17 = nI n ∧ ∀ i, i < n → fQ σ 10 i = some (A i) ∧ [2, 3, 5, 6, 7, 9].contains (am_ci σ (A i)) = true)
    (fun n' σ h => by
      unfold f11_back_L64
      rw [h.1, if_pos (nI_le (Nat.le_refl _) (by omega))])
    (fun n' i σ hi h => by
      obtain ⟨h1, h2⟩ := h
      obtain ⟨h3, h4⟩ := h2 i hi
      conv => lhs; unfold f11_back_L64
      rw [h1, if_neg (nI_ge hi (by omega)), if_pos (q_in (by omega) (by omega)), nI_clamp (by omega), h3, Option.elim_some, if_pos h4]
      unfold f7_comeBack
      rw [if_pos h4, Option.bind_some, nI_1]
      rfl)
    (fun i σ hi h => by
      have hh := h68 i hi
      refine ⟨?_, fun j hj => h.2 j hj⟩
      show fF (sF (sF σ (A i) 5 _) (A i) 6 _) 8 17 = nI n
      rw [q_FFa (by omega), q_FFa (by omega)]; exact h.1)
    (fun i j hi hj e => hinj i j hi hj (congrArg Prod.fst e)) (fun i j hi hj e => hinj i j hi hj (congrArg Prod.fst e))
    (fun i j _ _ e => absurd (show (5 : Nat) = 6 from congrArg Prod.snd e) (by decide)) (fun i j _ _ => ⟨fun e => absurd (show (7 : Nat) = 5 from congrArg Prod.snd e) (by decide), fun e => absurd (show (7 : Nat) = 6 from congrArg Prod.snd e) (by decide), fun e => absurd (show (8 : Nat) = 5 from congrArg Prod.snd e) (by decide), fun e => absurd (show (8 : Nat) = 6 from congrArg Prod.snd e) (by decide)⟩)
    n 0 N σ (by omega) (by omega) ⟨g1, g2⟩
  refine ⟨σ', e1, g.wk (fun a k x => ?_), fun j hj => e2 j (Nat.zero_le _) hj⟩
  obtain ⟨j, -, x2, x3⟩ := x
  rcases x3 with x3 | x3
  · exact ⟨j, x2, congrArg Prod.fst x3, Or.inl (congrArg Prod.snd x3)⟩
  · exact ⟨j, x2, congrArg Prod.fst x3, Or.inr (congrArg Prod.snd x3)⟩
theorem im_c2 (N : Nat) {n : Nat} (hn7 : n ≤ 7) (σ : am_S) (hN : 7 < N) (g1 : fF σ 36 11 = nI n) :
    ∃ σ', f12_image_L47 N N 0 σ = f12_image_J85 N σ' ∧ q_Ag (fun a k => (a = 59 ∨ a = 60) ∧ k < n) σ σ' ∧ ∀ j, j < n → fF σ' 59 j = fF σ 42 j ∧ fF σ' 60 j = fF σ 43 j := by
  obtain ⟨σ', e1, -, g, e2⟩ := lp_gen (f12_image_L47 N) (f12_image_J85 N) n (fun i => (59, i)) (fun i => (42, i)) (fun i => (60, i)) (fun i => (43, i)) (fun σ => fF σ 36 11 = nI n)
    (fun n' σ h => by
      unfold f12_image_L47
      rw [h, if_pos (nI_le (Nat.le_refl _) (by omega))])
    (fun n' i σ hi h => by
      conv => lhs; unfold f12_image_L47
      rw [h, if_neg (nI_ge hi (by omega)), if_pos (q_in (by omega) (by omega)), if_pos (q_in (by omega) (by omega)), if_pos (q_in (by omega) (by omega)), if_pos (q_in (by omega) (by omega)), nI_clamp (by omega), nI_1]
      rfl)
    (fun i σ hi h => by
      show fF (sF (sF σ 59 i _) 60 i _) 36 11 = nI n
      rw [q_FFa (by decide), q_FFa (by decide)]; exact h)
    (fun i j hi hj e => congrArg Prod.snd e) (fun i j hi hj e => congrArg Prod.snd e)
    (fun i j _ _ e => absurd (show (59 : Nat) = 60 from congrArg Prod.fst e) (by decide)) (fun i j _ _ => ⟨fun e => absurd (show (42 : Nat) = 59 from congrArg Prod.fst e) (by decide), fun e => absurd (show (42 : Nat) = 60 from congrArg Prod.fst e) (by decide), fun e => absurd (show (43 : Nat) = 59 from congrArg Prod.fst e) (by decide), fun e => absurd (show (43 : Nat) = 60 from congrArg Prod.fst e) (by decide)⟩)
    n 0 N σ (by omega) (by omega) g1
  refine ⟨σ', e1, g.wk (fun a k x => ?_), fun j hj => e2 j (Nat.zero_le _) hj⟩
  obtain ⟨j, -, x2, x3⟩ := x
  rcases x3 with x3 | x3
  · exact ⟨Or.inl (congrArg Prod.fst x3), by have : k = j := congrArg Prod.snd x3; omega⟩
  · exact ⟨Or.inr (congrArg Prod.fst x3), by have : k = j := congrArg Prod.snd x3; omega⟩
theorem im_r2 (N : Nat) {n : Nat} (hn7 : n ≤ 14) (σ : am_S) (hN : 14 < N) (g1 : fF σ 36 21 = nI n) :
    ∃ σ', f12_image_L87 N N 0 σ = f12_image_J125 N σ' ∧ q_Ag (fun a k => (a = 61 ∨ a = 62) ∧ k < n) σ σ' ∧ ∀ j, j < n → fF σ' 61 j = fF σ 49 j ∧ fF σ' 62 j = fF σ 50 j := by
  obtain ⟨σ', e1, -, g, e2⟩ := lp_gen (f12_image_L87 N) (f12_image_J125 N) n (fun i => (61, i)) (fun i => (49, i)) (fun i => (62, i)) (fun i => (50, i)) (fun σ => fF σ 36 21 = nI n)
    (fun n' σ h => by
      unfold f12_image_L87
      rw [h, if_pos (nI_le (Nat.le_refl _) (by omega))])
    (fun n' i σ hi h => by
      conv => lhs; unfold f12_image_L87
      rw [h, if_neg (nI_ge hi (by omega)), if_pos (q_in (by omega) (by omega)), if_pos (q_in (by omega) (by omega)), if_pos (q_in (by omega) (by omega)), if_pos (q_in (by omega) (by omega)), nI_clamp (by omega), nI_1]
      rfl)
    (fun i σ hi h => by
      show fF (sF (sF σ 61 i _) 62 i _) 36 21 = nI n
      rw [q_FFa (by decide), q_FFa (by decide)]; exact h)
    (fun i j hi hj e => congrArg Prod.snd e) (fun i j hi hj e => congrArg Prod.snd e)
    (fun i j _ _ e => absurd (show (61 : Nat) = 62 from congrArg Prod.fst e) (by decide)) (fun i j _ _ => ⟨fun e => absurd (show (49 : Nat) = 61 from congrArg Prod.fst e) (by decide), fun e => absurd (show (49 : Nat) = 62 from congrArg Prod.fst e) (by decide), fun e => absurd (show (50 : Nat) = 61 from congrArg Prod.fst e) (by decide), fun e => absurd (show (50 : Nat) = 62 from congrArg Prod.fst e) (by decide)⟩)
    n 0 N σ (by omega) (by omega) g1
  refine ⟨σ', e1, g.wk (fun a k x => ?_), fun j hj => e2 j (Nat.zero_le _) hj⟩
  obtain ⟨j, -, x2, x3⟩ := x
  rcases x3 with x3 | x3
  · exact ⟨Or.inl (congrArg Prod.fst x3), by have : k = j := congrArg Prod.snd x3; omega⟩
  · exact ⟨Or.inr (congrArg Prod.fst x3), by have : k = j := congrArg Prod.snd x3; omega⟩
theorem bk_c2 (N : Nat) {n : Nat} (hn7 : n ≤ 7) (σ : am_S) (hN : 7 < N) (g1 : fF σ 36 49 = nI n) :
    ∃ σ', f12_back_L36 N N 0 σ = f12_back_J74 N σ' ∧ q_Ag (fun a k => (a = 42 ∨ a = 43) ∧ k < n) σ σ' ∧ ∀ j, j < n → fF σ' 42 j = fF σ 59 j ∧ fF σ' 43 j = fF σ 60 j := by
  obtain ⟨σ', e1, -, g, e2⟩ := lp_gen (f12_back_L36 N) (f12_back_J74 N) n (fun i => (42, i)) (fun i => (59, i)) (fun i => (43, i)) (fun i => (60, i)) (fun σ => fF σ 36 49 = nI n)
    (fun n' σ h => by
      unfold f12_back_L36
      rw [h, if_pos (nI_le (Nat.le_refl _) (by omega))])
    (fun n' i σ hi h => by
      conv => lhs; unfold f12_back_L36
      rw [h, if_neg (nI_ge hi (by omega)), if_pos (q_in (by omega) (by omega)), if_pos (q_in (by omega) (by omega)), if_pos (q_in (by omega) (by omega)), if_pos (q_in (by omega) (by omega)), nI_clamp (by omega), nI_1]
      rfl)
    (fun i σ hi h => by
      show fF (sF (sF σ 42 i _) 43 i _) 36 49 = nI n
      rw [q_FFa (by decide), q_FFa (by decide)]; exact h)
    (fun i j hi hj e => congrArg Prod.snd e) (fun i j hi hj e => congrArg Prod.snd e)
    (fun i j _ _ e => absurd (show (42 : Nat) = 43 from congrArg Prod.fst e) (by decide)) (fun i j _ _ => ⟨fun e => absurd (show (59 : Nat) = 42 from congrArg Prod.fst e) (by decide), fun e => absurd (show (59 : Nat) = 43 from congrArg Prod.fst e) (by decide), fun e => absurd (show (60 : Nat) = 42 from congrArg Prod.fst e) (by decide), fun e => absurd (show (60 : Nat) = 43 from congrArg Prod.fst e) (by decide)⟩)
    n 0 N σ (by omega) (by omega) g1
  refine ⟨σ', e1, g.wk (fun a k x => ?_), fun j hj => e2 j (Nat.zero_le _) hj⟩
  obtain ⟨j, -, x2, x3⟩ := x
  rcases x3 with x3 | x3
  · exact ⟨Or.inl (congrArg Prod.fst x3), by have : k = j := congrArg Prod.snd x3; omega⟩
  · exact ⟨Or.inr (congrArg Prod.fst x3), by have : k = j := congrArg Prod.snd x3; omega⟩
theorem bk_r2 (N : Nat) {n : Nat} (hn7 : n ≤ 14) (σ : am_S) (hN : 14 < N) (g1 : fF σ 36 50 = nI n) :
    ∃ σ', f12_back_L76 N N 0 σ = f12_back_J114 N σ' ∧ q_Ag (fun a k => (a = 49 ∨ a = 50) ∧ k < n) σ σ' ∧ ∀ j, j < n → fF σ' 49 j = fF σ 61 j ∧ fF σ' 50 j = fF σ 62 j := by
  obtain ⟨σ', e1, -, g, e2⟩ := lp_gen (f12_back_L76 N) (f12_back_J114 N) n (fun i => (49, i)) (fun i => (61, i)) (fun i => (50, i)) (fun i => (62, i)) (fun σ => fF σ 36 50 = nI n)
    (fun n' σ h => by
      unfold f12_back_L76
      rw [h, if_pos (nI_le (Nat.le_refl _) (by omega))])
    (fun n' i σ hi h => by
      conv => lhs; unfold f12_back_L76
      rw [h, if_neg (nI_ge hi (by omega)), if_pos (q_in (by omega) (by omega)), if_pos (q_in (by omega) (by omega)), if_pos (q_in (by omega) (by omega)), if_pos (q_in (by omega) (by omega)), nI_clamp (by omega), nI_1]
      rfl)
    (fun i σ hi h => by
      show fF (sF (sF σ 49 i _) 50 i _) 36 50 = nI n
      rw [q_FFa (by decide), q_FFa (by decide)]; exact h)
    (fun i j hi hj e => congrArg Prod.snd e) (fun i j hi hj e => congrArg Prod.snd e)
    (fun i j _ _ e => absurd (show (49 : Nat) = 50 from congrArg Prod.fst e) (by decide)) (fun i j _ _ => ⟨fun e => absurd (show (61 : Nat) = 49 from congrArg Prod.fst e) (by decide), fun e => absurd (show (61 : Nat) = 50 from congrArg Prod.fst e) (by decide), fun e => absurd (show (62 : Nat) = 49 from congrArg Prod.fst e) (by decide), fun e => absurd (show (62 : Nat) = 50 from congrArg Prod.fst e) (by decide)⟩)
    n 0 N σ (by omega) (by omega) g1
  refine ⟨σ', e1, g.wk (fun a k x => ?_), fun j hj => e2 j (Nat.zero_le _) hj⟩
  obtain ⟨j, -, x2, x3⟩ := x
  rcases x3 with x3 | x3
  · exact ⟨Or.inl (congrArg Prod.fst x3), by have : k = j := congrArg Prod.snd x3; omega⟩
  · exact ⟨Or.inr (congrArg Prod.fst x3), by have : k = j := congrArg Prod.snd x3; omega⟩
theorem im_p2 (N : Nat) (σ : am_S) (hN : 100 < N) : ∃ σ', f12_image_L127 N N 0 σ = some (fF σ' 36 21, σ') ∧ q_Ag (fun a _ => a = 63) σ σ' ∧ ∀ j, j < 100 → fF σ' 63 j = fF σ 56 j := by
  obtain ⟨σ', e1, g, e2⟩ := lp_row (f12_image_L127 N) (fun σ => some (fF σ 36 21, σ)) 100 63 56 (by decide)
    (fun n' σ => by unfold f12_image_L127; rw [if_pos (show (100 : Int32) ≤ nI 100 from nI_le (a := 100) (Nat.le_refl _) (by omega))])
    (fun n' i σ hi => by
      conv => lhs; unfold f12_image_L127
      rw [if_neg (show ¬ (100 : Int32) ≤ nI i from nI_ge (b := 100) hi (by omega)), if_pos (q_in (by omega) (by omega)), if_pos (q_in (by omega) (by omega)), nI_clamp (by omega), nI_1])
    100 0 N σ (by omega) (by omega)
  exact ⟨σ', e1, g.wk (fun a k x => x.1), fun j hj => e2 j (Nat.zero_le _) hj⟩
theorem bk_p2 (N : Nat) (σ : am_S) (hN : 100 < N) : ∃ σ', f12_back_L116 N N 0 σ = some (fF σ' 36 21, σ') ∧ q_Ag (fun a _ => a = 56) σ σ' ∧ ∀ j, j < 100 → fF σ' 56 j = fF σ 63 j := by
  obtain ⟨σ', e1, g, e2⟩ := lp_row (f12_back_L116 N) (fun σ => some (fF σ 36 21, σ)) 100 56 63 (by decide)
    (fun n' σ => by unfold f12_back_L116; rw [if_pos (show (100 : Int32) ≤ nI 100 from nI_le (a := 100) (Nat.le_refl _) (by omega))])
    (fun n' i σ hi => by
      conv => lhs; unfold f12_back_L116
      rw [if_neg (show ¬ (100 : Int32) ≤ nI i from nI_ge (b := 100) hi (by omega)), if_pos (q_in (by omega) (by omega)), if_pos (q_in (by omega) (by omega)), nI_clamp (by omega), nI_1])
    100 0 N σ (by omega) (by omega)
  exact ⟨σ', e1, g.wk (fun a k x => x.1), fun j hj => e2 j (Nat.zero_le _) hj⟩
