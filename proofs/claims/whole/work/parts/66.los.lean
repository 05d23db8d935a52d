/-! THE METHODS: foot, lost -/
theorem q_nn {x : Int32} (h : 0 ≤ x.toInt) : x = nI x.toInt.toNat := by
  obtain ⟨j, hj, e, ej⟩ := q_of h
  rw [ej]
  exact e
theorem ft_dat {n m tc : Nat} {A B : Nat → Nat} {σ : am_S} (hR : RR n m tc A B σ) : ∃ p l o, (∀ a, (a = 24 ∨ a = 25) → ft_K σ a p l o n A) ∧ ft_M σ p l o n := by
  obtain ⟨hK, hC, hB, hW, hP, hS, hT, hI⟩ := hR
  have hp : ∀ k, k < 100 → fF σ 56 k = nI (fF σ 56 k).toInt.toNat ∧ (fF σ 56 k).toInt.toNat ≤ 99 ∧ (fF σ 56 (ft_t k)).toInt.toNat = (fF σ 56 k).toInt.toNat := fun k hk => by
    obtain ⟨-, ⟨h1, h2⟩, h3⟩ := hP.1 k hk
    refine ⟨q_nn h1, by omega, ?_⟩
    rw [show fF σ 56 (ft_t k) = fF σ 56 k from h3]
  have hl : ∀ j, j < n → fF σ 41 j = nI (fF σ 41 j).toInt.toNat ∧ (fF σ 41 j).toInt.toNat < 100 ∧ (fF σ 41 j).toInt.toNat / 10 ≠ (fF σ 41 j).toInt.toNat % 10 := fun j hj => by
    obtain ⟨-, -, ⟨l, e, h1, h2⟩, -⟩ := hC.2.2.2 j hj
    have el : (fF σ 41 j).toInt.toNat = l := by rw [e, nI_toInt (by omega)]; rfl
    rw [el]
    exact ⟨e, h1, h2⟩
  refine ⟨fun k => (fF σ 56 k).toInt.toNat, fun j => (fF σ 41 j).toInt.toNat, fun j => decide (fF σ 42 j = 1), fun a ha => ⟨⟨hK, ha, hC.1⟩, fun k hk => ⟨?_, (hp k hk).2⟩, fun j hj => ?_⟩, hC.1, hC.2.2.1, hp, fun j hj => ⟨(hl j hj).1, ?_, (hl j hj).2⟩⟩
  · rw [(hP.1 k hk).1]; exact (hp k hk).1
  · obtain ⟨⟨a1, a2, a3⟩, ⟨b1, b2, b3, b4⟩, c, d, e⟩ := hC.2.2.2 j hj
    refine ⟨⟨a2, a3, a1⟩, b2.trans (hl j hj).1, ?_, (hl j hj).2⟩
    rw [b3, decide_eq_false_iff_not]
    rcases d with d | d
    · rw [d]; exact ⟨fun _ => by decide, fun _ => rfl⟩
    · rw [d]; exact ⟨fun x => absurd x (by decide), fun x => absurd rfl x⟩
  · exact decide_eq_true_iff.symm
theorem ft_K.mv {S : Nat → Nat → Prop} {σ σ' : am_S} {a a' : Nat} {p l : Nat → Nat} {o o' : Nat → Bool} {n : Nat} {A : Nat → Nat} (h : ft_K σ a p l o n A) (g : q_Ag S σ σ') (hS : ∀ x k, S x k → x = 24 ∨ x = 25 ∨ x = 57 ∨ x = 58 ∨ x = 42 ∨ (68 ≤ x ∧ k = 2)) (ha : a' = 24 ∨ a' = 25) (ho : ∀ j, j < n → (fF σ' (A j) 2 = 0 ↔ o' j = false)) : ft_K σ' a' p l o' n A := by
  obtain ⟨⟨h1, h2, h3⟩, h4, h5⟩ := h
  refine ⟨⟨h1.mv g, ha, h3⟩, fun k hk => ⟨?_, (h4 k hk).2⟩, fun j hj => ?_⟩
  · rw [(g.2 22 k (fun x => by have := hS _ _ x; omega)).1]; exact (h4 k hk).1
  · obtain ⟨⟨a2, a3, a1⟩, b2, -, c⟩ := h5 j hj
    refine ⟨⟨?_, g.ci a3 (by decide), a1⟩, ?_, ho j hj, c⟩
    · rw [(g.2 9 j (fun x => by have := hS _ _ x; omega)).2]; exact a2
    · rw [(g.2 (A j) 1 (fun x => by have := hS _ _ x; omega)).1]; exact b2
theorem ft_M.mv {S : Nat → Nat → Prop} {σ σ' : am_S} {p l : Nat → Nat} {o o' : Nat → Bool} {n : Nat} (h : ft_M σ p l o n) (g : q_Ag S σ σ') (hS : ∀ x k, S x k → x = 24 ∨ x = 25 ∨ x = 57 ∨ x = 58 ∨ x = 42 ∨ (68 ≤ x ∧ k = 2)) (ho : ∀ j, j < n → (fF σ' 42 j = 1 ↔ o' j = true)) : ft_M σ' p l o' n := by
  obtain ⟨h1, h2, h3, h4⟩ := h
  refine ⟨h1, ?_, fun k hk => ⟨?_, (h3 k hk).2⟩, fun j hj => ⟨?_, ho j hj, (h4 j hj).2.2⟩⟩
  · rw [(g.2 36 11 (fun x => by have := hS _ _ x; omega)).1]; exact h2
  · rw [(g.2 56 k (fun x => by have := hS _ _ x; omega)).1]; exact (h3 k hk).1
  · rw [(g.2 41 j (fun x => by have := hS _ _ x; omega)).1]; exact (h4 j hj).1
theorem m_foot {N : Nat} (hN : 200 ≤ N) (x1 : Int32) : m_OK (fun σ => f11_foot N σ x1) (fun σ => f12_foot N σ x1) := by
  intro σ h
  have hX := h
  obtain ⟨n, m, tc, A, B, hR⟩ := h
  have h7 := hR.2.1.1
  dsimp only
  unfold f11_foot
  rw [wt_0_99, Option.bind_some]
  cases hq : q_wi x1 0 99 with
  | false =>
    refine ⟨-2, σ, σ, rfl, ?_, hX⟩
    unfold f12_foot
    rw [in_0_99, hq]; rfl
  | true =>
    have w := q_wiT.mp hq
    obtain ⟨k, hk, rfl, -⟩ := q_ofb (n := 100) (x := x1) (by omega) (by omega)
    obtain ⟨p, l, o, dK, dM⟩ := ft_dat hR
    have dK := dK 24 (Or.inl rfl)
    obtain ⟨σ1, e1, g1, r1⟩ := ft_cls hN dK
    have dM1 : ft_M σ1 p l o n := dM.mv g1 (fun x k e => Or.inl e) (fun j hj => by
      rw [(g1.2 42 j (by omega)).1]; exact (dM.2.2.2 j hj).2.1)
    obtain ⟨σ2, e2, g2, r2⟩ := fm_all hN dM1
    obtain ⟨c1, c2⟩ := ft_all (p := p) (l := l) (o := o) (n := n) (fun k hk => (dM.2.2.1 k hk).2.1) (fun j hj => (dM.2.2.2 j hj).2.2) hk
    have gg : q_Ag r_sc σ σ2 := (g1.wk (fun a k x => by unfold r_sc; omega)).tr (g2.wk (fun a k x => by unfold r_sc; omega))
    have cv : f4_leastWay N σ (nI k) (fF σ 8 3) = some (nI (ft_D p l o 1000000 n k), σ1) := by
      unfold f4_leastWay
      rw [hR.2.1.2.1, e1, Option.bind_some, if_pos (q_in hk (by omega)), nI_clamp (by omega), r1 k hk]
    have mv : f12_foot N σ1 (nI k) = if (1000 : Int32) ≤ nI (ft_D p l o 1000 n k) then some (-1, σ2) else some (nI (ft_D p l o 1000 n k), σ2) := by
      unfold f12_foot
      rw [in_0_99, hq, Option.bind_some, if_pos rfl, e2, Option.bind_some, if_pos (q_in hk (by omega)), if_pos (q_in hk (by omega)), nI_clamp (by omega), r2 k hk]
    have b3 : ft_D p l o 1000000 n k ≤ 1000000 := by
      have l1 := fw_le (w := ft_c p l o 1000000 n) 10 k
      have l2 := ft_w (l := l) (o := o) (F := 1000000) (fun k hk => (dM.2.2.1 k hk).2.1) n k hk
      unfold ft_D
      omega
    rw [if_pos rfl, cv, Option.bind_some]
    dsimp only
    rw [c1] at mv
    generalize ft_D p l o 1000000 n k = D at mv c2 b3 ⊢
    by_cases c : D < 1000000
    · have := c2 c
      refine ⟨nI D, σ1, σ2, ?_, ?_, n, m, tc, A, B, hR.fr gg⟩
      · rw [if_neg (show ¬ (1000000 : Int32) ≤ nI D from nI_ge (b := 1000000) c (by omega))]
      · rw [mv, Nat.min_eq_left (by omega), if_neg (show ¬ (1000 : Int32) ≤ nI D from nI_ge (b := 1000) (by omega) (by omega))]
    · refine ⟨-1, σ1, σ2, ?_, ?_, n, m, tc, A, B, hR.fr gg⟩
      · rw [if_pos (show (1000000 : Int32) ≤ nI D from nI_le (a := 1000000) (by omega) (by omega))]
      · rw [mv, Nat.min_eq_right (by omega), if_pos (show (1000 : Int32) ≤ nI 1000 from nI_le (a := 1000) (Nat.le_refl _) (by omega))]
/-- what is lost, pair by pair -/
def ft_g (now then_ : Nat → Nat) (k : Nat) : Int32 := if k / 10 < k % 10 ∧ now k < 1000000 then (if then_ k < 1000000 then nI (then_ k) - nI (now k) else 100) else 0
def ft_G (now then_ : Nat → Nat) : Nat → Int32
  | 0 => 0
  | k + 1 => ft_G now then_ k + ft_g now then_ k
theorem ft_Gz {now then_ : Nat → Nat} {x : Nat} (hx : x < 10) : ∀ j, j ≤ x + 1 → ft_G now then_ (x * 10 + j) = ft_G now then_ (x * 10)
  | 0, _ => rfl
  | j + 1, hj => by
    show ft_G now then_ (x * 10 + j) + ft_g now then_ (x * 10 + j) = _
    rw [ft_Gz hx j (by omega)]
    unfold ft_g
    rw [if_neg (by omega), Int32.add_zero]
section FTL
variable {now then_ : Nat → Nat} {σ : am_S}
theorem fl_cls {N : Nat} (h1 : ∀ k, k < 100 → fF σ 24 k = nI (now k) ∧ now k ≤ 1000000) (h2 : ∀ k, k < 100 → fF σ 25 k = nI (then_ k) ∧ then_ k ≤ 1000000) : ∀ d i n', i + d = 100 → d < n' → f4_lostMinutes_L4 σ N n' (ft_G now then_ i) (nI i) = some (ft_G now then_ 100) := by
  intro d
  induction d with
  | zero =>
    intro i n' hi hn
    obtain ⟨n', rfl⟩ : ∃ m, n' = m + 1 := ⟨n' - 1, by omega⟩
    have : i = 100 := by omega
    subst this
    unfold f4_lostMinutes_L4
    rw [if_pos (show (100 : Int32) ≤ nI 100 from nI_le (a := 100) (Nat.le_refl _) (by omega))]
  | succ d ih =>
    intro i n' hi hn
    obtain ⟨n', rfl⟩ : ∃ m, n' = m + 1 := ⟨n' - 1, by omega⟩
    have hin : i < 100 := by omega
    have e2 : nI i - nI i / 10 * 10 = nI (i % 10) := pk_rem (d := 10) (by omega) (by omega) (by omega)
    have e1 : nI i / 10 = nI (i / 10) := pk_div (d := 10) (by omega) (by omega) (by omega)
    obtain ⟨a1, a2⟩ := h1 i hin
    obtain ⟨b1, b2⟩ := h2 i hin
    have go := ih (i + 1) n' (by omega) (by omega)
    have hG : ft_G now then_ (i + 1) = ft_G now then_ i + ft_g now then_ i := rfl
    rw [hG] at go
    unfold f4_lostMinutes_L4
    rw [if_neg (show ¬ (100 : Int32) ≤ nI i from nI_ge (b := 100) hin (by omega)), e2, e1, if_pos (q_in hin (by omega)), nI_clamp (by omega), a1, b1, nI_1]
    unfold ft_g at go
    by_cases c : i % 10 ≤ i / 10
    · rw [if_pos (nI_le c (by omega))]
      rw [if_neg (by omega), Int32.add_zero] at go
      exact go
    · rw [if_neg (nI_ge (by omega) (by omega))]
      by_cases c2 : now i < 1000000
      · rw [if_neg (show ¬ (1000000 : Int32) ≤ nI (now i) from nI_ge (b := 1000000) c2 (by omega)), if_pos (q_in hin (by omega))]
        rw [if_pos (by omega)] at go
        by_cases c3 : then_ i < 1000000
        · rw [if_neg (show ¬ (1000000 : Int32) ≤ nI (then_ i) from nI_ge (b := 1000000) c3 (by omega)), if_pos (q_in hin (by omega)), if_pos (q_in hin (by omega))]
          rw [if_pos c3] at go
          exact go
        · rw [if_pos (show (1000000 : Int32) ≤ nI (then_ i) from nI_le (a := 1000000) (by omega) (by omega))]
          rw [if_neg c3] at go
          exact go
      · rw [if_pos (show (1000000 : Int32) ≤ nI (now i) from nI_le (a := 1000000) (by omega) (by omega))]
        rw [if_neg (by omega), Int32.add_zero] at go
        exact go
theorem fl_m1 {N : Nat} (k74 : Int32 → Int32 → am_S → Option (Int32 × am_S)) (h1 : ∀ k, k < 100 → fF σ 58 k = nI (min (now k) 1000) ∧ (now k < 1000000 → now k ≤ 891)) (h2 : ∀ k, k < 100 → fF σ 57 k = nI (min (then_ k) 1000) ∧ (then_ k < 1000000 → then_ k ≤ 891)) {x : Nat} (hx : x < 10) : ∀ d y n', y + d = 10 → d < n' → x < y → f12_lost_L85 k74 N n' (ft_G now then_ (x * 10 + y)) (nI x) (nI y) σ = k74 (ft_G now then_ ((x + 1) * 10)) (nI (x + 1)) σ := by
  intro d
  induction d with
  | zero =>
    intro y n' hi hn hxy
    obtain ⟨n', rfl⟩ : ∃ m, n' = m + 1 := ⟨n' - 1, by omega⟩
    have : y = 10 := by omega
    subst this
    unfold f12_lost_L85 f12_lost_J156
    rw [if_pos (show (10 : Int32) ≤ nI 10 from nI_le (a := 10) (Nat.le_refl _) (by omega)), nI_1, show x * 10 + 10 = (x + 1) * 10 by omega]
  | succ d ih =>
    intro y n' hi hn hxy
    obtain ⟨n', rfl⟩ : ∃ m, n' = m + 1 := ⟨n' - 1, by omega⟩
    have hy : y < 10 := by omega
    obtain ⟨a1, a2⟩ := h1 (x * 10 + y) (by omega)
    obtain ⟨b1, b2⟩ := h2 (x * 10 + y) (by omega)
    have go := ih (y + 1) n' (by omega) (by omega) (by omega)
    have hG : ft_G now then_ (x * 10 + (y + 1)) = ft_G now then_ (x * 10 + y) + ft_g now then_ (x * 10 + y) := rfl
    rw [hG] at go
    unfold f12_lost_L85
    rw [if_neg (show ¬ (10 : Int32) ≤ nI y from nI_ge (b := 10) hy (by omega)), show (10 : Int32) = nI 10 from rfl, pk_mul, nI_add, if_pos (q_in (by omega) (by omega)), nI_clamp (by omega), show 10 * x + y = x * 10 + y by omega, a1, b1, nI_1]
    unfold ft_g at go
    have qin : am_in (nI (x * 10 + y)) 100 = true := q_in (by omega) (by omega)
    by_cases c2 : now (x * 10 + y) < 1000000
    · have u1 := a2 c2
      rw [if_neg (show ¬ (1000 : Int32) ≤ nI (min (now (x * 10 + y)) 1000) from nI_ge (b := 1000) (by omega) (by omega)), if_pos qin, Nat.min_eq_left (show now (x * 10 + y) ≤ 1000 by omega)]
      rw [if_pos (by omega)] at go
      by_cases c3 : then_ (x * 10 + y) < 1000000
      · have u2 := b2 c3
        rw [if_neg (show ¬ (1000 : Int32) ≤ nI (min (then_ (x * 10 + y)) 1000) from nI_ge (b := 1000) (by omega) (by omega)), if_pos qin, if_pos qin, Nat.min_eq_left (show then_ (x * 10 + y) ≤ 1000 by omega)]
        rw [if_pos c3] at go
        exact go
      · rw [if_pos (show (1000 : Int32) ≤ nI (min (then_ (x * 10 + y)) 1000) from nI_le (a := 1000) (by omega) (by omega))]
        rw [if_neg c3] at go
        exact go
    · rw [if_pos (show (1000 : Int32) ≤ nI (min (now (x * 10 + y)) 1000) from nI_le (a := 1000) (by omega) (by omega))]
      rw [if_neg (by omega), Int32.add_zero] at go
      exact go
theorem fl_m2 {N : Nat} (hN : 200 ≤ N) (h1 : ∀ k, k < 100 → fF σ 58 k = nI (min (now k) 1000) ∧ (now k < 1000000 → now k ≤ 891)) (h2 : ∀ k, k < 100 → fF σ 57 k = nI (min (then_ k) 1000) ∧ (then_ k < 1000000 → then_ k ≤ 891)) : ∀ d x n', x + d = 10 → d < n' → f12_lost_L74 N n' (ft_G now then_ (x * 10)) (nI x) σ = some (ft_G now then_ 100, σ) := by
  intro d
  induction d with
  | zero =>
    intro x n' hi hn
    obtain ⟨n', rfl⟩ : ∃ m, n' = m + 1 := ⟨n' - 1, by omega⟩
    have : x = 10 := by omega
    subst this
    unfold f12_lost_L74
    rw [if_pos (show (10 : Int32) ≤ nI 10 from nI_le (a := 10) (Nat.le_refl _) (by omega))]
  | succ d ih =>
    intro x n' hi hn
    obtain ⟨n', rfl⟩ : ∃ m, n' = m + 1 := ⟨n' - 1, by omega⟩
    have hx : x < 10 := by omega
    have key := fl_m1 (σ := σ) (N := N) (f12_lost_L74 N n') h1 h2 hx (10 - (x + 1)) (x + 1) N (by omega) (by omega) (by omega)
    rw [ft_Gz hx (x + 1) (Nat.le_refl _)] at key
    unfold f12_lost_L74
    rw [if_neg (show ¬ (10 : Int32) ≤ nI x from nI_ge (b := 10) hx (by omega)), nI_1, key]
    exact ih (x + 1) n' (by omega) (by omega)
end FTL
theorem fl_cp {N : Nat} {x1 : Int32} {σ0 : am_S} : ∀ d i n' (σ : am_S), i + d = 100 → d < n' → q_Ag (fun x _ => x = 58) σ0 σ → (∀ k, k < i → fF σ 58 k = fF σ0 57 k) → ∃ σ', f12_lost_L28 N n' x1 (nI i) σ = f12_lost_J52 N x1 σ' ∧ q_Ag (fun x _ => x = 58) σ0 σ' ∧ ∀ k, k < 100 → fF σ' 58 k = fF σ0 57 k := by
  intro d
  induction d with
  | zero =>
    intro i n' σ hi hn g hr
    obtain ⟨n', rfl⟩ : ∃ m, n' = m + 1 := ⟨n' - 1, by omega⟩
    have : i = 100 := by omega
    subst this
    refine ⟨σ, ?_, g, hr⟩
    conv => lhs; unfold f12_lost_L28
    rw [if_pos (show (100 : Int32) ≤ nI 100 from nI_le (a := 100) (Nat.le_refl _) (by omega))]
  | succ d ih =>
    intro i n' σ hi hn g hr
    obtain ⟨n', rfl⟩ : ∃ m, n' = m + 1 := ⟨n' - 1, by omega⟩
    have hin : i < 100 := by omega
    conv =>
      enter [1, σ', 1, 1]
      unfold f12_lost_L28
    rw [if_neg (show ¬ (100 : Int32) ≤ nI i from nI_ge (b := 100) hin (by omega)), if_pos (q_in hin (by omega)), if_pos (q_in hin (by omega)), nI_clamp (by omega), nI_1]
    exact ih (i + 1) n' _ (by omega) (by omega) (g.sF rfl) (fun k hk => by
      by_cases c : k = i
      · rw [c, q_FFe, (g.2 57 i (by omega)).1]
      · rw [q_FFk c]; exact hr k (by omega))
theorem m_lost {N : Nat} (hN : 200 ≤ N) (x1 : Int32) : m_OK (fun σ => f11_lost N σ x1) (fun σ => f12_lost N σ x1) := by
  intro σ h
  have hX := h
  obtain ⟨n, m, tc, A, B, hR⟩ := h
  have hR' := hR
  obtain ⟨hK, hC, hB, hW, hP, hS, hT, hI⟩ := hR
  have h7 := hC.1
  dsimp only
  unfold f11_lost
  rcases q_ix x1 n with hx | ⟨i, hi, rfl⟩
  · rw [r_cA_no hC hx]
    refine ⟨-2, σ, σ, rfl, ?_, hX⟩
    unfold f12_lost
    rw [r_iC_no hC hx]; rfl
  rw [r_cA_yes hC hi, Option.bind_some, Option.elim_some, if_pos (r_1 hC hi)]
  have gA := hC.ge hi
  have hAi : ∀ j, j < n → j ≠ i → A j ≠ A i := fun j hj c e => c (((hC.2.2.2 j hj).2.2.2.2) i hi e)
  have bc : ∀ (σ1 : am_S) (v : Int32), am_ci σ1 (A i) = 1 → f1_become σ1 (A i) v = some (fF σ1 (A i) 2, sF σ1 (A i) 2 v) := fun σ1 v e => by
    unfold f1_become
    rw [if_pos (by rw [e]; rfl)]
  obtain ⟨⟨-, -, k1⟩, ⟨-, -, b3, -⟩, -, d, -⟩ := hC.2.2.2 i hi
  rw [bc σ 0 k1, Option.bind_some]
  dsimp only
  have mdl : ∀ τ : am_S, fF τ 36 11 = nI n → f12_lost N τ (nI i) = if fF τ 42 i = 0 then some (0, τ) else ((f12_walks N τ).bind fun s8 => (f12_lost_L28 N N (nI i) (0 : Int32) s8)) := fun τ e => by
    unfold f12_lost
    rw [r_iC0_yes h7 e hi, Option.bind_some, if_pos rfl, if_pos (q_in (by omega) (by omega)), nI_clamp (by omega)]
  by_cases c0 : fF σ 42 i = 0
  · rw [if_pos (b3.trans c0)]
    have gs : q_Ag r_sc σ (sF σ (A i) 2 0) := ⟨fun _ _ e => e, fun a k _ => ⟨by
      rw [q_FF]
      by_cases c : a = A i ∧ k = 2
      · rw [if_pos c, c.1, c.2, b3, c0]
      · rw [if_neg c], rfl⟩⟩
    refine ⟨0, _, sF σ (A i) 2 0, rfl, ?_, n, m, tc, A, B, hR'.fr gs⟩
    rw [mdl _ ((gs.2 36 11 (by unfold r_sc; omega)).1.trans hC.2.2.1), if_pos (by rw [(gs.2 42 i (by unfold r_sc; omega)).1]; exact c0)]
  have c1 : fF σ 42 i = 1 := d.resolve_left c0
  rw [if_neg (by rw [b3]; exact c0), b3, c1]
  obtain ⟨p, l, o, dK, dM⟩ := ft_dat hR'
  have dK := dK 24 (Or.inl rfl)
  obtain ⟨o', ho'⟩ : ∃ o' : Nat → Bool, ∀ j, o' j = if j = i then false else o j := ⟨_, fun _ => rfl⟩
  have oi : o i = true := (dM.2.2.2 i hi).2.1.mp c1
  -- the class: first without, then with
  have g1 : q_Ag (fun a k => a = A i ∧ k = 2) σ (sF σ (A i) 2 0) := (q_Ag.rf σ).sF (S := fun a k => a = A i ∧ k = 2) ⟨rfl, rfl⟩
  have dK1 : ft_K (sF σ (A i) 2 0) 25 p l o' n A := dK.mv g1 (fun x k e => by omega) (Or.inr rfl) (fun j hj => by
    rw [ho' j]
    by_cases c : j = i
    · rw [if_pos c, c, q_FFe]; exact ⟨fun _ => rfl, fun _ => rfl⟩
    · rw [if_neg c, q_FFa (hAi j hj c)]
      exact (dK.2.2 j hj).2.2.1)
  obtain ⟨σ2, e2, g2, r2⟩ := ft_cls hN dK1
  have g02 := (g1.wk (T := fun a k => (a = A i ∧ k = 2) ∨ a = 24 ∨ a = 25) (fun a k x => Or.inl x)).tr (g2.wk (fun a k x => Or.inr (Or.inr x)))
  have g3 : q_Ag (fun a k => (a = A i ∧ k = 2) ∨ a = 24 ∨ a = 25) σ (sF σ2 (A i) 2 1) := g02.sF (Or.inl ⟨rfl, rfl⟩)
  have dK3 : ft_K (sF σ2 (A i) 2 1) 24 p l o n A := dK.mv g3 (fun x k e => by omega) (Or.inl rfl) (fun j hj => by
    by_cases c : j = i
    · rw [c, q_FFe, oi]; exact ⟨fun x => absurd x (by decide), fun x => absurd x (by decide)⟩
    · have := hC.ge hj
      rw [q_FFa (hAi j hj c), (g02.2 (A j) 2 (fun x => by
        rcases x with x | x
        · exact hAi j hj c x.1
        · omega)).1]
      exact (dK.2.2 j hj).2.2.1)
  obtain ⟨σ4, e4, g4, r4⟩ := ft_cls hN dK3
  have G4 : q_Ag r_sc σ σ4 := by
    have w := g3.tr (g4.wk (fun a k x => Or.inr (Or.inl x)))
    refine ⟨w.1, fun a k hs => ?_⟩
    have n24 : a ≠ 24 ∧ a ≠ 25 := by unfold r_sc at hs; omega
    by_cases c : a = A i ∧ k = 2
    · obtain ⟨ca, ck⟩ := c
      subst ck
      rw [ca]
      have y := g4.2 (A i) 2 (by omega)
      have y2 := g2.2 (A i) 2 (by omega)
      refine ⟨?_, ?_⟩
      · rw [y.1, q_FFe, b3, c1]
      · rw [y.2]
        exact y2.2
    · exact w.2 a k (fun x => by
        rcases x with x | x
        · exact c x
        · omega)
  have bd : ∀ (o : Nat → Bool) k, k < 100 → ft_D p l o 1000 n k = min (ft_D p l o 1000000 n k) 1000 ∧ (ft_D p l o 1000000 n k < 1000000 → ft_D p l o 1000000 n k ≤ 891) := fun o k hk => ft_all (fun k hk => (dM.2.2.1 k hk).2.1) (fun j hj => (dM.2.2.2 j hj).2.2) hk
  have b3 : ∀ (o : Nat → Bool) k, k < 100 → ft_D p l o 1000000 n k ≤ 1000000 := fun o k hk => by
    have l1 := fw_le (w := ft_c p l o 1000000 n) 10 k
    have l2 := ft_w (l := l) (o := o) (F := 1000000) (fun k hk => (dM.2.2.1 k hk).2.1) n k hk
    unfold ft_D
    omega
  have r25 : ∀ k, k < 100 → fF σ4 25 k = nI (ft_D p l o' 1000000 n k) := fun k hk => by
    rw [(g4.2 25 k (by omega)).1, q_FFa (by omega)]
    exact r2 k hk
  have sum := fl_cls (σ := σ4) (N := N) (now := ft_D p l o 1000000 n) (then_ := ft_D p l o' 1000000 n) (fun k hk => ⟨r4 k hk, b3 o k hk⟩) (fun k hk => ⟨r25 k hk, b3 o' k hk⟩) 100 0 N (by omega) (by omega)
  -- the model: first with, then without
  have dM4 : ft_M σ4 p l o n := dM.mv (S := fun a k => (a = A i ∧ k = 2) ∨ a = 24 ∨ a = 25) (g3.tr (g4.wk (fun a k x => Or.inr (Or.inl x)))) (fun x k e => by omega) (fun j hj => by
    rw [(G4.2 42 j (by unfold r_sc; omega)).1]; exact (dM.2.2.2 j hj).2.1)
  obtain ⟨τ1, f1, h1, s1⟩ := fm_all hN dM4
  obtain ⟨τ2, f2, h2, s2⟩ := fl_cp (N := N) (x1 := nI i) (σ0 := τ1) 100 0 N τ1 (by omega) (by omega) (q_Ag.rf τ1) (fun k hk => by omega)
  have h12 := (h1.wk (T := fun a _ => a = 57 ∨ a = 58) (fun a k x => Or.inl x)).tr (h2.wk (fun a k x => Or.inr x))
  have h3 : q_Ag (fun a k => a = 57 ∨ a = 58 ∨ (a = 42 ∧ k = i)) σ4 (sF τ2 42 i 0) := (h12.wk (T := fun a k => a = 57 ∨ a = 58 ∨ (a = 42 ∧ k = i)) (fun a k x => by omega)).sF (Or.inr (Or.inr ⟨rfl, rfl⟩))
  have dM5 : ft_M (sF τ2 42 i 0) p l o' n := dM4.mv h3 (fun x k e => by omega) (fun j hj => by
    rw [ho' j]
    by_cases c : j = i
    · rw [if_pos c, c, q_FFe]; exact ⟨fun x => absurd x (by decide), fun x => absurd x (by decide)⟩
    · rw [if_neg c, q_FFk c, (h12.2 42 j (by omega)).1]
      exact (dM4.2.2.2 j hj).2.1)
  obtain ⟨τ3, f3, h4, s3⟩ := fm_all hN dM5
  have G6 : q_Ag r_sc σ4 (sF τ3 42 i 1) := by
    have w := (h3.tr (h4.wk (fun a k x => Or.inl x))).sF (a := 42) (k := i) (v := 1) (Or.inr (Or.inr ⟨rfl, rfl⟩))
    refine ⟨w.1, fun a k hs => ?_⟩
    have n57 : a ≠ 57 ∧ a ≠ 58 := by unfold r_sc at hs; omega
    by_cases c : a = 42 ∧ k = i
    · obtain ⟨ca, ck⟩ := c
      subst ck
      rw [ca]
      have y := h4.2 42 k (by omega)
      have y2 := h12.2 42 k (by omega)
      refine ⟨?_, ?_⟩
      · rw [q_FFe, (G4.2 42 k (by unfold r_sc; omega)).1, c1]
      · rw [← y2.2]
        exact y.2
    · exact w.2 a k (by omega)
  have m58 : ∀ k, k < 100 → fF (sF τ3 42 i 1) 58 k = nI (ft_D p l o 1000 n k) := fun k hk => by
    rw [q_FFa (by omega), (h4.2 58 k (by omega)).1, q_FFa (by omega), s2 k hk, s1 k hk]
  have m57 : ∀ k, k < 100 → fF (sF τ3 42 i 1) 57 k = nI (ft_D p l o' 1000 n k) := fun k hk => by
    rw [q_FFa (by omega), s3 k hk]
  have sum2 := fl_m2 (σ := sF τ3 42 i 1) hN (now := ft_D p l o 1000000 n) (then_ := ft_D p l o' 1000000 n) (fun k hk => ⟨by rw [m58 k hk, (bd o k hk).1], (bd o k hk).2⟩) (fun k hk => ⟨by rw [m57 k hk, (bd o' k hk).1], (bd o' k hk).2⟩) 10 0 N (by omega) (by omega)
  refine ⟨ft_G (ft_D p l o 1000000 n) (ft_D p l o' 1000000 n) 100, σ4, sF τ3 42 i 1, ?_, ?_, n, m, tc, A, B, (hR'.fr G4).fr G6⟩
  · unfold f4_measureThen
    rw [show fF (sF σ (A i) 2 0) 8 3 = nI n by rw [q_FFa (by omega)]; exact hC.2.1, e2, Option.bind_some, Option.bind_some]
    have k2 : am_ci σ2 (A i) = 1 := g02.ci k1 (by decide)
    rw [if_pos (by rw [k2]; rfl), bc σ2 1 k2, Option.bind_some]
    dsimp only
    unfold f4_measureNow
    rw [show fF (sF σ2 (A i) 2 1) 8 3 = nI n by rw [(g3.2 8 3 (by omega)).1]; exact hC.2.1, e4, Option.bind_some, Option.bind_some]
    unfold f4_lostMinutes
    rw [show f4_lostMinutes_L4 σ4 N N 0 0 = _ from sum]
    rfl
  · rw [mdl σ4 ((G4.2 36 11 (by unfold r_sc; omega)).1.trans hC.2.2.1), if_neg (by rw [(G4.2 42 i (by unfold r_sc; omega)).1]; exact c0), f1, Option.bind_some, show (0 : Int32) = nI 0 from rfl, f2]
    unfold f12_lost_J52
    rw [if_pos (q_in (by omega) (by omega)), nI_clamp (by omega), f3, Option.bind_some, if_pos (q_in (by omega) (by omega))]
    exact sum2
