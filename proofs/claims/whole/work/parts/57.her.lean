/-! THE METHODS: heir, shares -/
section HEIR
variable {n m : Nat} {B : Nat → Nat} {σ : am_S}
theorem h_115_1 (k : Int32 → Int32 → Int32 → Int32 → Option Int32) (N : Nat) (x1 x3 x4 x5 x6 : Int32) : f12_heir_J115 k σ N x1 1 x3 x4 x5 x6 = k x1 1 x3 (x4 + 1) := by
  unfold f12_heir_J115
  rw [if_neg (by decide), if_neg (by decide)]
theorem h_115_3 (k : Int32 → Int32 → Int32 → Int32 → Option Int32) (N : Nat) {i r : Nat} (hi : i < 14) (hr : r < 14) (x3 x5 x6 : Int32) : f12_heir_J115 k σ N (nI r) 3 x3 (nI i) x5 x6 = if i = r then k (nI r) 3 x3 (nI (i + 1)) else if fF σ 47 i = fF σ 47 r then ((f12_isAhead σ (nI i) x3).bind fun v => if v = true then k (nI r) 3 (nI i) (nI (i + 1)) else k (nI r) 3 x3 (nI (i + 1))) else k (nI r) 3 x3 (nI (i + 1)) := by
  unfold f12_heir_J115
  have e : (nI i = nI r) = (i = r) := propext (nI_eq (by omega) (by omega))
  rw [if_neg (by decide), if_pos rfl, nI_1]
  simp only [e]
  by_cases c : i = r
  · rw [if_pos c, if_pos c]
  · rw [if_neg c, if_neg c, if_pos (q_in hi (by omega)), if_pos (q_in hr (by omega)), nI_clamp (by omega), nI_clamp (by omega)]
theorem h_115_2 (k : Int32 → Int32 → Int32 → Int32 → Option Int32) (N : Nat) {i : Nat} (hi : i < 14) (x1 x3 x5 x6 : Int32) (h5 : x5 = -1 ∨ ∃ f : Nat, f < 14 ∧ x5 = nI f) : f12_heir_J115 k σ N x1 2 x3 (nI i) x5 x6 = if x3 = -1 then (if fF σ 49 i = 0 then (if x6 = 0 then (if x5 = -1 then k x1 2 x3 (nI (i + 1)) else if fF σ 48 x5.toNatClampNeg = x1 then k x1 2 (nI i) (nI (i + 1)) else k x1 2 x3 (nI (i + 1))) else k x1 2 (nI i) (nI (i + 1))) else k x1 2 x3 (nI (i + 1))) else k x1 2 x3 (nI (i + 1)) := by
  have d : ¬ (2 : Int32) = 3 := by decide
  have h5' : ¬ x5 = -1 → am_in x5 14 = true := fun c => by
    rcases h5 with h5 | ⟨f, hf, rfl⟩
    · exact absurd h5 c
    · exact q_in hf (by omega)
  unfold f12_heir_J115
  rw [if_pos rfl, nI_1, if_pos (q_in hi (by omega)), nI_clamp (by omega)]
  simp only [if_neg d]
  by_cases c3 : x3 = -1
  · rw [if_pos c3, if_pos c3]
    by_cases c4 : fF σ 49 i = 0
    · rw [if_pos c4, if_pos c4]
      by_cases c5 : x6 = 0
      · rw [if_pos c5, if_pos c5]
        by_cases c6 : x5 = -1
        · rw [if_pos c6, if_pos c6]
        · rw [if_neg c6, if_neg c6, if_pos (h5' c6)]
      · rw [if_neg c5, if_neg c5]
    · rw [if_neg c4, if_neg c4]
  · rw [if_neg c3, if_neg c3]
theorem h_L28 (N n' : Nat) (hB : r_B n m B σ) {i : Nat} (hi : i < m) (x1 x2 x3 : Int32) : f12_heir_L28 σ N (n' + 1) x1 x2 x3 (nI i) = f12_heir_J57 (f12_heir_L28 σ N n') σ N x1 x2 x3 (nI i) (fF σ 48 i) (if fF σ 48 i = x1 then 1 else 0) := by
  have h1 := hB.1
  conv => lhs; unfold f12_heir_L28
  rw [hB.2.2.1, if_neg (nI_ge hi (by omega)), if_pos (q_in (by omega) (by omega)), nI_clamp (by omega)]
  by_cases c : fF σ 48 i = x1
  · rw [if_pos c, if_pos c]
  · rw [if_neg c, if_neg c]
theorem h_57_o (k : Int32 → Int32 → Int32 → Int32 → Option Int32) (N : Nat) (x1 x2 x3 x4 x5 s0 : Int32) (h : x2 ≠ 1) : f12_heir_J57 k σ N x1 x2 x3 x4 x5 s0 = f12_heir_J115 k σ N x1 x2 x3 x4 x5 s0 := by
  unfold f12_heir_J57
  rw [if_neg h]
theorem h_end (N n' : Nat) (hB : r_B n m B σ) (x1 x2 x3 : Int32) : f12_heir_L28 σ N (n' + 1) x1 x2 x3 (nI m) = some x3 := by
  have h1 := hB.1
  unfold f12_heir_L28
  rw [hB.2.2.1, if_pos (nI_le (Nat.le_refl _) (by omega))]
theorem h_r1 (N : Nat) (hB : r_B n m B σ) (x1 : Int32) : ∀ d i n' n'' (best ba : Int32), i + d = m → d < n' → d < n'' → (best = -1 ∨ ∃ u : Nat, u < m ∧ best = nI u ∧ ba = fF σ 45 u) → ∃ v, f11_eldestSon_L7 σ N n' x1 best ba (nI i) = some v ∧ f12_heir_L28 σ N n'' x1 1 best (nI i) = some v := by
  have h1 := hB.1
  intro d
  induction d with
  | zero =>
    intro i n' n'' best ba hi hn hn' hb
    obtain ⟨n', rfl⟩ : ∃ m, n' = m + 1 := ⟨n' - 1, by omega⟩
    obtain ⟨n'', rfl⟩ : ∃ m, n'' = m + 1 := ⟨n'' - 1, by omega⟩
    have : i = m := by omega
    subst this
    refine ⟨best, ?_, h_end N n'' hB _ _ _⟩
    unfold f11_eldestSon_L7
    rw [hB.2.1, if_pos (nI_le (Nat.le_refl _) (by omega))]
  | succ d ih =>
    intro i n' n'' best ba hi hn hn' hb
    obtain ⟨n', rfl⟩ : ∃ m, n' = m + 1 := ⟨n' - 1, by omega⟩
    obtain ⟨n'', rfl⟩ : ∃ m, n'' = m + 1 := ⟨n'' - 1, by omega⟩
    have hin : i < m := by omega
    obtain ⟨⟨a1, a2, k, hk, a3, a4⟩, e3, -, -⟩ := hB.2.2.2 i hin
    rw [h_L28 N n'' hB hin]
    unfold f11_eldestSon_L7 f12_heir_J57
    simp only [h_115_1, if_true]
    rw [hB.2.1, if_neg (nI_ge hin (by omega)), if_pos (q_in (by omega) (by omega)), nI_clamp (by omega), a2, Option.elim_some, if_pos (r_7 hB hin), e3 4 (by omega), nI_1]
    have same := ih (i + 1) n' n'' best ba (by omega) (by omega) (by omega) hb
    have take := ih (i + 1) n' n'' (nI i) (fF σ 45 i) (by omega) (by omega) (by omega) (Or.inr ⟨i, hin, rfl, rfl⟩)
    by_cases c : fF σ 48 i = x1
    · rw [if_pos c, if_pos c, if_neg (show ¬ (1 : Int32) = 0 by decide), a3, a4, e3 1 (by omega)]
      simp only [q_in (show i < 14 by omega) (show i < 2 ^ 31 by omega), if_true]
      have kk : ∀ q : Nat, q < 6 → (nI k = nI q) = (k = q) := fun q hq => propext (nI_eq (by omega) (by omega))
      rw [show (1 : Int32) = nI 1 from rfl, show (3 : Int32) = nI 3 from rfl]
      simp only [kk 1 (by omega), kk 3 (by omega)]
      have hk' : [3, 5].contains (r_kc k) = true ↔ (k = 1 ∨ k = 3) := by
        have key : ∀ k, k < 6 → ([3, 5].contains (r_kc k) = true ↔ (k = 1 ∨ k = 3)) := by decide
        exact key k hk
      have hbest : ¬ best = -1 → ∃ u : Nat, u < m ∧ best = nI u ∧ ba = fF σ 45 u := fun y => by
        rcases hb with hb | hb
        · exact absurd hb y
        · exact hb
      by_cases c13 : k = 1 ∨ k = 3
      · rw [if_pos (hk'.mpr c13)]
        have mdl : (if k = 1 then (if best = -1 then f12_heir_L28 σ N n'' x1 (nI 1) (nI i) (nI (i + 1)) else if am_in best 14 = true then (if fF σ 45 i ≤ fF σ 45 best.toNatClampNeg then f12_heir_L28 σ N n'' x1 (nI 1) best (nI (i + 1)) else f12_heir_L28 σ N n'' x1 (nI 1) (nI i) (nI (i + 1))) else none) else if k = 3 then (if best = -1 then f12_heir_L28 σ N n'' x1 (nI 1) (nI i) (nI (i + 1)) else if am_in best 14 = true then (if fF σ 45 i ≤ fF σ 45 best.toNatClampNeg then f12_heir_L28 σ N n'' x1 (nI 1) best (nI (i + 1)) else f12_heir_L28 σ N n'' x1 (nI 1) (nI i) (nI (i + 1))) else none) else f12_heir_L28 σ N n'' x1 (nI 1) best (nI (i + 1))) = (if best = -1 then f12_heir_L28 σ N n'' x1 (nI 1) (nI i) (nI (i + 1)) else if fF σ 45 i ≤ ba then f12_heir_L28 σ N n'' x1 (nI 1) best (nI (i + 1)) else f12_heir_L28 σ N n'' x1 (nI 1) (nI i) (nI (i + 1))) := by
          have inner : (if best = -1 then f12_heir_L28 σ N n'' x1 (nI 1) (nI i) (nI (i + 1)) else if am_in best 14 = true then (if fF σ 45 i ≤ fF σ 45 best.toNatClampNeg then f12_heir_L28 σ N n'' x1 (nI 1) best (nI (i + 1)) else f12_heir_L28 σ N n'' x1 (nI 1) (nI i) (nI (i + 1))) else none) = (if best = -1 then f12_heir_L28 σ N n'' x1 (nI 1) (nI i) (nI (i + 1)) else if fF σ 45 i ≤ ba then f12_heir_L28 σ N n'' x1 (nI 1) best (nI (i + 1)) else f12_heir_L28 σ N n'' x1 (nI 1) (nI i) (nI (i + 1))) := by
            by_cases cb : best = -1
            · rw [if_pos cb, if_pos cb]
            · obtain ⟨u, hu, eb, ea⟩ := hbest cb
              rw [if_neg cb, if_neg cb, eb, if_pos (q_in (by omega) (by omega)), nI_clamp (by omega), ea]
          rcases c13 with c1 | c1
          · rw [if_pos c1]; exact inner
          · rw [if_neg (by omega), if_pos c1]; exact inner
        refine Exists.imp (fun v hv => ⟨hv.1, ?_⟩) (show ∃ v, (if best = -1 then f11_eldestSon_L7 σ N n' x1 (nI i) (fF σ 45 i) (nI (i + 1)) else if fF σ 45 i ≤ ba then f11_eldestSon_L7 σ N n' x1 best ba (nI (i + 1)) else f11_eldestSon_L7 σ N n' x1 (nI i) (fF σ 45 i) (nI (i + 1))) = some v ∧ (if best = -1 then f12_heir_L28 σ N n'' x1 (nI 1) (nI i) (nI (i + 1)) else if fF σ 45 i ≤ ba then f12_heir_L28 σ N n'' x1 (nI 1) best (nI (i + 1)) else f12_heir_L28 σ N n'' x1 (nI 1) (nI i) (nI (i + 1))) = some v from ?_)
        · exact mdl.trans hv.2
        · by_cases cb : best = -1
          · rw [if_pos cb, if_pos cb]; exact take
          · rw [if_neg cb, if_neg cb]
            by_cases ca : fF σ 45 i ≤ ba
            · rw [if_pos ca, if_pos ca]; exact same
            · rw [if_neg ca, if_neg ca]; exact take
      · rw [if_neg (fun y => c13 (hk'.mp y)), if_neg (by omega), if_neg (by omega)]
        exact same
    · rw [if_neg c, if_neg c, if_pos rfl]
      exact same
theorem h_r2f (N : Nat) (hB : r_B n m B σ) (x1 : Int32) {u : Nat} (hu : u < m) : ∀ d i n'', i + d = m → d < n'' → f12_heir_L28 σ N n'' x1 2 (nI u) (nI i) = some (nI u) := by
  have h1 := hB.1
  intro d
  induction d with
  | zero =>
    intro i n'' hi hn'
    obtain ⟨n'', rfl⟩ : ∃ m, n'' = m + 1 := ⟨n'' - 1, by omega⟩
    have : i = m := by omega
    subst this
    exact h_end N n'' hB _ _ _
  | succ d ih =>
    intro i n'' hi hn'
    obtain ⟨n'', rfl⟩ : ∃ m, n'' = m + 1 := ⟨n'' - 1, by omega⟩
    have hin : i < m := by omega
    obtain ⟨-, -, ⟨-, -, -, c4, -⟩, -⟩ := hB.2.2.2 i hin
    rw [h_L28 N n'' hB hin, h_57_o _ _ _ _ _ _ _ _ (by decide), h_115_2 _ _ (by omega) _ _ _ _ (by
      rcases c4 with c4 | ⟨f, f1, f2⟩
      · exact Or.inl c4
      · exact Or.inr ⟨f, by omega, f2⟩), if_neg (nI_m1 (by omega))]
    exact ih (i + 1) n'' (by omega) (by omega)
theorem h_r2 (N : Nat) (hB : r_B n m B σ) {r : Nat} (hr : r < m) : ∀ d i n' n'', i + d = m → d < n' → d < n'' → ∃ v, f11_firstOfBlood_L2 σ N n' (nI r) (nI i) = some v ∧ f12_heir_L28 σ N n'' (nI r) 2 (-1) (nI i) = some v := by
  have h1 := hB.1
  intro d
  induction d with
  | zero =>
    intro i n' n'' hi hn hn'
    obtain ⟨n', rfl⟩ : ∃ m, n' = m + 1 := ⟨n' - 1, by omega⟩
    obtain ⟨n'', rfl⟩ : ∃ m, n'' = m + 1 := ⟨n'' - 1, by omega⟩
    have : i = m := by omega
    subst this
    refine ⟨-1, ?_, h_end N n'' hB _ _ _⟩
    unfold f11_firstOfBlood_L2
    rw [hB.2.1, if_pos (nI_le (Nat.le_refl _) (by omega))]
  | succ d ih =>
    intro i n' n'' hi hn hn'
    obtain ⟨n', rfl⟩ : ∃ m, n' = m + 1 := ⟨n' - 1, by omega⟩
    obtain ⟨n'', rfl⟩ : ∃ m, n'' = m + 1 := ⟨n'' - 1, by omega⟩
    have hin : i < m := by omega
    obtain ⟨⟨a1, a2, k, hk, a3, a4⟩, e3, ⟨-, -, -, c4, -⟩, -⟩ := hB.2.2.2 i hin
    have next := ih (i + 1) n' n'' (by omega) (by omega) (by omega)
    have found : f12_heir_L28 σ N n'' (nI r) 2 (nI i) (nI (i + 1)) = some (nI i) := h_r2f N hB (nI r) hin d (i + 1) n'' (by omega) (by omega)
    rw [h_L28 N n'' hB hin, h_57_o _ _ _ _ _ _ _ _ (by decide), h_115_2 _ _ (by omega) _ _ _ _ (by
      rcases c4 with c4 | ⟨f, f1, f2⟩
      · exact Or.inl c4
      · exact Or.inr ⟨f, by omega, f2⟩), if_pos rfl]
    unfold f11_firstOfBlood_L2
    rw [hB.2.1, if_neg (nI_ge hin (by omega)), if_pos (q_in (by omega) (by omega)), nI_clamp (by omega), a2, Option.elim_some, if_pos (r_7 hB hin), e3 4 (by omega), e3 5 (by omega), nI_1]
    show ∃ v, ((f11_rowerAt σ (fF σ 48 i)).bind _) = some v ∧ _
    rcases c4 with c4 | ⟨f, f1, f2⟩
    · have hne : ¬ fF σ 48 i = nI r := fun y => by rw [c4] at y; exact nI_m1 (by omega) y.symm
      rw [r_rA_no hB (by rw [c4]; show ¬ ((0 : Int) ≤ -1 ∧ _); omega), Option.bind_some, Option.elim_none, if_neg hne, if_neg hne, if_pos rfl, if_pos c4]
      by_cases c5 : fF σ 49 i = 0
      · rw [if_pos c5]; exact next
      · rw [if_neg c5]; exact next
    · have hf1 : ¬ fF σ 48 i = -1 := by rw [f2]; exact nI_m1 (by omega)
      have ef : fF σ (B f) 4 = fF σ 48 f := (hB.2.2.2 f f1).2.1 4 (by omega)
      have e49 : fF σ (44 + 5) i = fF σ 49 i := rfl
      rw [show f11_rowerAt σ (fF σ 48 i) = some (some (B f)) by rw [f2]; exact r_rA_yes hB f1, Option.bind_some, Option.elim_some, if_pos (r_7 hB f1), ef, if_neg hf1, show (fF σ 48 i).toNatClampNeg = f by rw [f2, nI_clamp (by omega)], e49]
      have z0 : (0 : Int32) = 0 := rfl
      have z1 : ¬ (1 : Int32) = 0 := by decide
      by_cases cs : fF σ 48 i = nI r
      · rw [if_pos cs, if_pos cs]
        by_cases c5 : fF σ 49 i = 0
        · rw [if_pos c5, if_pos c5, if_neg z1]; exact ⟨nI i, rfl, found⟩
        · rw [if_neg c5, if_neg c5]; exact next
      · rw [if_neg cs, if_neg cs]
        by_cases cg : fF σ 48 f = nI r
        · by_cases c5 : fF σ 49 i = 0
          · rw [if_pos cg, if_pos c5, if_pos c5, if_pos z0, if_pos cg]; exact ⟨nI i, rfl, found⟩
          · rw [if_pos cg, if_neg c5, if_neg c5]; exact next
        · by_cases c5 : fF σ 49 i = 0
          · rw [if_neg cg, if_pos c5, if_pos z0, if_neg cg]; exact next
          · rw [if_neg cg, if_neg c5]; exact next
theorem h_r3 (N : Nat) (hB : r_B n m B σ) {r : Nat} (hr : r < m) : ∀ d i n' n'' (best bt ba : Int32), i + d = m → d < n' → d < n'' → (best = -1 ∨ ∃ u : Nat, u < m ∧ best = nI u ∧ bt = fF σ 50 u ∧ ba = fF σ 45 u) → ∃ v, f11_mostTurns_L11 σ N n' (nI r) (fF σ 47 r) best bt ba (nI i) = some v ∧ f12_heir_L28 σ N n'' (nI r) 3 best (nI i) = some v := by
  have h1 := hB.1
  intro d
  induction d with
  | zero =>
    intro i n' n'' best bt ba hi hn hn' hb
    obtain ⟨n', rfl⟩ : ∃ m, n' = m + 1 := ⟨n' - 1, by omega⟩
    obtain ⟨n'', rfl⟩ : ∃ m, n'' = m + 1 := ⟨n'' - 1, by omega⟩
    have : i = m := by omega
    subst this
    refine ⟨best, ?_, h_end N n'' hB _ _ _⟩
    unfold f11_mostTurns_L11
    rw [hB.2.1, if_pos (nI_le (Nat.le_refl _) (by omega))]
  | succ d ih =>
    intro i n' n'' best bt ba hi hn hn' hb
    obtain ⟨n', rfl⟩ : ∃ m, n' = m + 1 := ⟨n' - 1, by omega⟩
    obtain ⟨n'', rfl⟩ : ∃ m, n'' = m + 1 := ⟨n'' - 1, by omega⟩
    have hin : i < m := by omega
    obtain ⟨⟨a1, a2, k, hk, a3, a4⟩, e3, -, -⟩ := hB.2.2.2 i hin
    have same := ih (i + 1) n' n'' best bt ba (by omega) (by omega) (by omega) hb
    have take := ih (i + 1) n' n'' (nI i) (fF σ 50 i) (fF σ 45 i) (by omega) (by omega) (by omega) (Or.inr ⟨i, hin, rfl, rfl, rfl⟩)
    have e : (nI i = nI r) = (i = r) := propext (nI_eq (by omega) (by omega))
    rw [h_L28 N n'' hB hin, h_57_o _ _ _ _ _ _ _ _ (by decide), h_115_3 _ _ (by omega) (by omega)]
    unfold f11_mostTurns_L11
    rw [hB.2.1, if_neg (nI_ge hin (by omega)), if_pos (q_in (by omega) (by omega)), nI_clamp (by omega), a2, Option.elim_some, if_pos (r_7 hB hin), e3 3 (by omega), e3 6 (by omega), e3 1 (by omega), nI_1]
    simp only [e]
    by_cases ci : i = r
    · rw [if_pos ci, if_pos ci]; exact same
    rw [if_neg ci, if_neg ci]
    by_cases cc : fF σ 47 i = fF σ 47 r
    · rw [if_pos cc, if_pos (show fF σ (44 + 3) i = fF σ 47 r from cc)]
      unfold f12_isAhead
      by_cases cb : best = -1
      · rw [if_pos cb, if_pos cb, Option.bind_some, if_pos rfl]; exact take
      · rcases hb with hb | ⟨u, hu, eb, et, ea⟩
        · exact absurd hb cb
        · rw [if_neg cb, if_neg cb, eb]
          simp only [q_in (show i < 14 by omega) (show i < 2 ^ 31 by omega), q_in (show u < 14 by omega) (show u < 2 ^ 31 by omega), reduceIte, nI_clamp (show i < 2 ^ 31 by omega), nI_clamp (show u < 2 ^ 31 by omega)]
          rw [← et, ← ea, ← eb]
          by_cases c1 : bt < fF σ 50 i
          · rw [if_pos c1, if_pos (show bt < fF σ (44 + 6) i from c1), Option.bind_some, if_pos rfl]; exact take
          · rw [if_neg c1, if_neg (show ¬ bt < fF σ (44 + 6) i from c1)]
            by_cases c2 : fF σ 50 i = bt
            · rw [if_pos c2, if_pos (show fF σ (44 + 6) i = bt from c2)]
              by_cases c3 : fF σ 45 i ≤ ba
              · rw [if_pos c3, if_pos (show fF σ (44 + 1) i ≤ ba from c3), Option.bind_some, if_neg (by decide)]; exact same
              · rw [if_neg c3, if_neg (show ¬ fF σ (44 + 1) i ≤ ba from c3), Option.bind_some, if_pos rfl]; exact take
            · rw [if_neg c2, if_neg (show ¬ fF σ (44 + 6) i = bt from c2), Option.bind_some, if_neg (by decide)]; exact same
    · rw [if_neg cc, if_neg (show ¬ fF σ (44 + 3) i = fF σ 47 r from cc)]; exact same
end HEIR
theorem m_heir {N : Nat} (hN : 200 ≤ N) {σ : am_S} (h : RX σ) (x1 x2 : Int32) : ∃ v, f11_heir N σ x1 x2 = some v ∧ f12_heir N σ x1 x2 = some v := by
  obtain ⟨n, m, tc, A, B, hK, hC, hB, hW, hP, hS, hT, hI⟩ := h
  have h1 := hB.1
  unfold f11_heir f12_heir
  simp only [tx_bsm]
  rcases q_ix x1 m with hx | ⟨r, hr, rfl⟩
  · rw [r_rA_no hB hx, r_iR_no hB hx]; exact ⟨-2, rfl, rfl⟩
  rw [r_rA_yes hB hr, r_iR_yes hB hr]
  simp only [Option.bind_some, Option.elim_some, reduceIte, in_1_3]
  rw [if_pos (r_7 hB hr), (hB.2.2.2 r hr).2.1 3 (by omega)]
  by_cases c1 : x2 = 1
  · subst c1
    rw [if_pos rfl, if_pos (by decide)]
    exact h_r1 N hB (nI r) m 0 N N (-1) 0 (by omega) (by omega) (by omega) (Or.inl rfl)
  rw [if_neg c1]
  by_cases c2 : x2 = 2
  · subst c2
    rw [if_pos rfl, if_pos (by decide)]
    exact h_r2 N hB hr m 0 N N (by omega) (by omega) (by omega)
  rw [if_neg c2]
  by_cases c3 : x2 = 3
  · subst c3
    rw [if_pos rfl, if_pos (by decide)]
    exact h_r3 N hB hr m 0 N N (-1) 0 0 (by omega) (by omega) (by omega) (Or.inl rfl)
  rw [if_neg c3, q_wiF.mpr (fun y => by
    have hv : x2.toInt = 1 ∨ x2.toInt = 2 ∨ x2.toInt = 3 := by omega
    rcases hv with hv | hv | hv
    · exact c1 (i_ext hv)
    · exact c2 (i_ext hv)
    · exact c3 (i_ext hv))]
  exact ⟨-2, rfl, rfl⟩
