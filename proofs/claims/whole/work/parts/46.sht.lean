/-! THE METHODS: sheet, cell, copy -/
theorem r_hold {σ : am_S} {a z : Nat} (h8 : [8].contains (am_ci σ a) = true) (hz : z ≤ 40) (e : fF σ a 1 = nI z) (x1 x2 : Int32) : f8_holds σ a x1 x2 = some (decide (0 ≤ x1.toInt ∧ 0 ≤ x2.toInt ∧ x1.toInt ≤ z ∧ x2.toInt ≤ z - x1.toInt)) := by
  have ez : (nI z).toInt = (z : Int) := nI_toInt (by omega)
  unfold f8_holds
  rw [e]
  by_cases c1 : x1.toInt < 0
  · rw [if_pos (q_lt.mpr c1), decide_eq_false (by omega)]
  rw [if_neg (fun y => c1 (q_lt.mp y))]
  by_cases c2 : x2.toInt < 0
  · rw [if_pos (q_lt.mpr c2), decide_eq_false (by omega)]
  rw [if_neg (fun y => c2 (q_lt.mp y)), if_pos h8]
  by_cases c3 : (z : Int) < x1.toInt
  · rw [if_pos (q_lt.mpr (by rw [ez]; exact c3)), decide_eq_false (by omega)]
  rw [if_neg (fun y => c3 (by have := q_lt.mp y; rw [ez] at this; exact this))]
  have es : (nI z - x1).toInt = (z : Int) - x1.toInt := by rw [fb_subI (by omega) (by omega), ez]
  by_cases c4 : (z : Int) - x1.toInt < x2.toInt
  · rw [if_pos (q_lt.mpr (by rw [es]; exact c4)), decide_eq_false (by omega)]
  · rw [if_neg (fun y => c4 (by have := q_lt.mp y; rw [es] at this; exact this)), decide_eq_true (by omega)]
theorem r_mis {σ : am_S} {a : Nat} (h8 : [8].contains (am_ci σ a) = true) : f8_isMissing σ a = some (decide (fF σ a 0 = -1)) := by
  unfold f8_isMissing
  rw [if_pos h8]
  by_cases c : fF σ a 0 = -1
  · rw [if_pos c, decide_eq_true c]
  · rw [if_neg c, decide_eq_false c]
/-- sheets after a change of one, all else as it was -/
theorem r_Sup {σ σ' : am_S} {s n m tc : Nat} {A B : Nat → Nat} (h : RR n m tc A B σ) (hs : s < 4) (g : q_Ag (fun a k => (a = 28 + 2 * s ∨ a = 29 + 2 * s) ∨ (64 ≤ a ∧ a ≤ 66 ∧ k = s) ∨ (a = 67 ∧ 40 * s ≤ k ∧ k < 40 * s + 40)) σ σ') (h1 : r_S1 s σ') : RR n m tc A B σ' := by
  obtain ⟨hK, hC, hB, hW, hP, hS, hT, hI⟩ := h
  refine ⟨hK.mv g, hC.mv g ?_, hB.mv g (Nat.le_refl _) ?_, hW.mv g ?_, hP.mv g ?_, fun s' hs' => ?_, hT.mv g ?_, hI.mv g (Nat.le_refl _) (Nat.le_refl _) (Nat.le_refl _) (fun _ _ => rfl) (fun _ _ => rfl) ?_⟩
  · intro a k hc hs
    rcases hc with h | h | h | h | ⟨i', hi', h, hk'⟩
    · omega
    · omega
    · omega
    · omega
    · have := hC.ge hi'
      omega
  · intro a k hc hs
    rcases hc with h | h | h | h | ⟨i', hi', h, hk'⟩
    · omega
    · omega
    · omega
    · omega
    · have := hB.ge hi'
      omega
  · intro a k hc hs; unfold r_Wc at hc; omega
  · intro a k hc hs; unfold r_Pc at hc; omega
  · by_cases c : s' = s
    · rw [c]; exact h1
    · obtain ⟨a1, a2⟩ := hS s' hs'
      have f1 : ∀ a k, (a = 28 + 2 * s' ∨ a = 29 + 2 * s' ∨ (64 ≤ a ∧ a ≤ 66 ∧ k = s') ∨ (a = 67 ∧ 40 * s' ≤ k ∧ k < 40 * s' + 40)) → fF σ' a k = fF σ a k := fun a k x => (g.2 a k (by omega)).1
      refine ⟨((g.2 26 s' (by omega)).2).trans a1, ?_⟩
      rcases a2 with ⟨b1, b2⟩ | ⟨k, n, k1, k2, b1, b2, b3, b4, b5, b6⟩
      · exact Or.inl ⟨(f1 _ _ (by omega)).trans b1, (f1 _ _ (by omega)).trans b2⟩
      · exact Or.inr ⟨k, n, k1, k2, (f1 _ _ (by omega)).trans b1, (f1 _ _ (by omega)).trans b2, (f1 _ _ (by omega)).trans b3, (f1 _ _ (by omega)).trans b4, (f1 _ _ (by omega)).trans b5, fun i hi => by rw [f1 (29 + 2 * s') i (by omega), f1 67 (40 * s' + i) (by omega)]; exact b6 i hi⟩
  · intro a k hc hs; unfold r_Tc at hc; omega
  · intro a k hc hs
    rcases hc with h | h | h | ⟨i', hi', h, hk'⟩ | ⟨i', hi', h, hk'⟩
    · omega
    · omega
    · omega
    · have := hC.ge hi'
      omega
    · have := hB.ge hi'
      omega
theorem m_cell (x1 x2 x3 : Int32) : m_OK (fun σ => f11_cell σ x1 x2 x3) (fun σ => f12_cell σ x1 x2 x3) := by
  intro σ h
  have hX := h
  obtain ⟨n, m, tc, A, B, hR⟩ := h
  obtain ⟨hK, hC, hB, hW, hP, hS, hT, hI⟩ := hR
  have hR : RR n m tc A B σ := ⟨hK, hC, hB, hW, hP, hS, hT, hI⟩
  dsimp only
  unfold f11_cell
  rcases q_ix x1 4 with hx | ⟨s, hs, rfl⟩
  · rw [r_sA_no hx]
    refine ⟨-2, σ, σ, rfl, ?_, hX⟩
    unfold f12_cell
    rw [r_iS_no hx]; rfl
  · obtain ⟨k8, krq, kan⟩ := r_8 hK hs
    obtain ⟨a1, a2⟩ := hS s hs
    rw [r_sA_yes hS hs]
    simp only [Option.bind_some, Option.elim_some]
    rw [if_pos k8, r_mis k8, Option.bind_some]
    rcases a2 with ⟨b1, b2⟩ | ⟨k, z, k1, k2, b1, b2, b3, b4, b5, b6⟩
    · rw [if_pos (decide_eq_true b1)]
      refine ⟨-11, σ, σ, rfl, ?_, hX⟩
      unfold f12_cell
      rw [r_iS_yes hs, Option.bind_some, if_pos rfl, if_pos (q_in hs (by omega)), nI_clamp (by omega), if_pos b2]
    · rw [if_neg (by rw [decide_eq_true_eq, b1]; exact nI_m1 (by omega))]
      have e2 : ∀ σ2 : am_S, fF σ2 66 s = nI z → f12_in x2.toInt64 0 (((fF σ2 66 s) - 1).toInt64) = some (q_wi x2 0 ((z : Int) - 1)) := fun σ2 e => q_nt _ _ rfl (by rw [q_64, e, q_pred (by omega)])
      have one : (1 : Int32).toInt = 1 := rfl
      unfold f8_put
      rw [if_pos k8, r_hold k8 k2 b4, Option.bind_some]
      rcases q_ix x2 z with hx | ⟨i, hi, rfl⟩
      · rw [if_neg (by rw [decide_eq_true_eq, one]; omega), Option.bind_some]
        refine ⟨-12, σ, σ, rfl, ?_, hX⟩
        unfold f12_cell
        rw [r_iS_yes hs, Option.bind_some, if_pos rfl, if_pos (q_in hs (by omega)), nI_clamp (by omega), if_neg (by rw [b2]; decide), if_pos (q_in hs (by omega)), e2 σ b5, q_wiF.mpr (by omega)]
        rfl
      · have ei : (nI i).toInt = (i : Int) := nI_toInt (by omega)
        rw [if_pos (by rw [decide_eq_true_eq, one, ei]; omega), krq, Option.elim_some, b1]
        have fin : ∀ v : Int32, RX (sF (sF σ (29 + 2 * s) i v) 67 (40 * s + i) v) := by
          intro v
          have g : q_Ag (fun a k => (a = 28 + 2 * s ∨ a = 29 + 2 * s) ∨ (64 ≤ a ∧ a ≤ 66 ∧ k = s) ∨ (a = 67 ∧ 40 * s ≤ k ∧ k < 40 * s + 40)) σ (sF (sF σ (29 + 2 * s) i v) 67 (40 * s + i) v) := ((q_Ag.rf σ).sF (Or.inl (Or.inr rfl))).sF (Or.inr (Or.inr ⟨rfl, by omega, by omega⟩))
          refine ⟨n, m, tc, A, B, r_Sup hR hs g ⟨a1, Or.inr ⟨k, z, k1, k2, ?_, ?_, ?_, ?_, ?_, fun i' hi' => ?_⟩⟩⟩
          · rw [q_FFa (by omega), q_FFa (by omega)]; exact b1
          · rw [q_FFa (by omega), q_FFa (by omega)]; exact b2
          · rw [q_FFa (by omega), q_FFa (by omega)]; exact b3
          · rw [q_FFa (by omega), q_FFa (by omega)]; exact b4
          · rw [q_FFa (by omega), q_FFa (by omega)]; exact b5
          · by_cases c : i' = i
            · rw [c, q_FFa (by omega), q_FFe, q_FFe]
            · rw [q_FFa (by omega), q_FFk c, q_FFk (by omega), q_FFa (by omega)]; exact b6 i' hi'
        have k0 : (nI k = (0 : Int32)) = (k = 0) := propext (nI_eq (b := 0) (by omega) (by omega))
        have k1' : (nI k = (1 : Int32)) = (k = 1) := propext (nI_eq (b := 1) (by omega) (by omega))
        have mdl : ∀ v : Int32, (v = if k = 0 then x3.toInt8.toInt32 else if k = 1 then x3.toInt16.toInt32 else x3) → f12_cell (sF σ (29 + 2 * s) i v) (nI s) (nI i) x3 = some (1, sF (sF σ (29 + 2 * s) i v) 67 (40 * s + i) v) := by
          intro v hv
          unfold f12_cell
          rw [r_iS_yes hs, Option.bind_some, if_pos rfl, if_pos (q_in hs (by omega)), nI_clamp (by omega), if_neg (by rw [q_FFa (by omega), b2]; decide), if_pos (q_in hs (by omega)), e2 _ (by rw [q_FFa (by omega)]; exact b5), q_wiT.mpr (by rw [ei]; omega), Option.bind_some, if_pos rfl, if_pos (q_in hs (by omega)), q_FFa (by omega), b3, show (40 : Int32) = nI 40 from rfl, pk_mul, nI_add, if_pos (q_in hs (by omega)), nI_clamp (by omega), if_pos (q_in (by omega) (by omega))]
          simp only [k0, k1']
          by_cases c0 : k = 0
          · rw [if_pos c0] at hv ⊢; rw [hv]
          · rw [if_neg c0] at hv ⊢
            by_cases c1 : k = 1
            · rw [if_pos c1] at hv ⊢; rw [hv, if_pos (q_in (by omega) (by omega))]
            · rw [if_neg c1] at hv ⊢; rw [hv, if_pos (q_in (by omega) (by omega))]
        rw [nI_clamp (by omega), kan]
        simp only [k0, k1']
        by_cases c0 : k = 0
        · rw [if_pos c0, if_pos (show 0 < 40 by decide), if_pos (q_in (by omega) (by omega)), Option.bind_some]
          exact ⟨_, _, _, rfl, mdl _ (by rw [if_pos c0]), fin _⟩
        · rw [if_neg c0]
          by_cases c1 : k = 1
          · rw [if_pos c1, if_pos (show 0 < 40 by decide), if_pos (q_in (by omega) (by omega)), Option.bind_some]
            exact ⟨_, _, _, rfl, mdl _ (by rw [if_neg c0, if_pos c1]), fin _⟩
          · rw [if_neg c1, if_pos (show 0 < 40 by decide), if_pos (q_in (by omega) (by omega)), Option.bind_some]
            exact ⟨_, _, _, rfl, mdl _ (by rw [if_neg c0, if_neg c1]), fin _⟩
-- sheet
theorem m_fill (N : Nat) {a : Nat} : ∀ d i n' (σ : am_S), i + d = 40 → d < n' → am_an σ a 0 = 40 → ∃ σ', fJ7_fill_53178_L5 N n' a 0 (nI i) (nI 40) σ = some σ' ∧ q_Ag (fun b _ => b = a) σ σ' ∧ (∀ j, i ≤ j → j < 40 → fF σ' a j = 0) ∧ ∀ j, j < i → fF σ' a j = fF σ a j := by
  intro d
  induction d with
  | zero =>
    intro i n' σ hi hn ha
    obtain ⟨n', rfl⟩ : ∃ m, n' = m + 1 := ⟨n' - 1, by omega⟩
    refine ⟨σ, ?_, q_Ag.rf σ, fun j h1 h2 => by omega, fun _ _ => rfl⟩
    unfold fJ7_fill_53178_L5
    rw [if_pos (nI_le (by omega) (by omega))]
  | succ d ih =>
    intro i n' σ hi hn ha
    obtain ⟨n', rfl⟩ : ∃ m, n' = m + 1 := ⟨n' - 1, by omega⟩
    unfold fJ7_fill_53178_L5
    rw [if_neg (nI_ge (by omega) (by omega)), ha, if_pos (by decide), if_pos (q_in (by omega) (by omega)), nI_clamp (by omega), nI_1]
    obtain ⟨σ', e, g, h1, h2⟩ := ih (i + 1) n' (sF σ a i 0) (by omega) (by omega) ha
    refine ⟨σ', e, q_Ag.tr (S := fun b _ => b = a) ((q_Ag.rf σ).sF rfl) g, fun j h3 h4 => ?_, fun j h3 => ?_⟩
    · by_cases c : j = i
      · rw [c, h2 i (by omega), q_FFe]
      · exact h1 j (by omega) h4
    · rw [h2 j (by omega), q_FFk (by omega)]
theorem m_zero (N : Nat) {s k z : Nat} (hs : s < 4) (hz : z ≤ 40) (hk3 : k < 3) : ∀ d i n' (σ : am_S), i + d = z → d < n' → ∃ σ', f12_sheet_L77 N n' (nI s) (nI k) (nI z) (nI i) σ = some (1, σ') ∧ q_Ag (fun a j => a = 67 ∧ 40 * s ≤ j ∧ j < 40 * s + 40) σ σ' ∧ (∀ j, i ≤ j → j < z → fF σ' 67 (40 * s + j) = 0) ∧ ∀ j, j < i → fF σ' 67 (40 * s + j) = fF σ 67 (40 * s + j) := by
  intro d
  induction d with
  | zero =>
    intro i n' σ hi hn
    obtain ⟨n', rfl⟩ : ∃ m, n' = m + 1 := ⟨n' - 1, by omega⟩
    refine ⟨σ, ?_, q_Ag.rf σ, fun j h1 h2 => by omega, fun _ _ => rfl⟩
    unfold f12_sheet_L77
    rw [if_pos (nI_le (by omega) (by omega))]
  | succ d ih =>
    intro i n' σ hi hn
    obtain ⟨n', rfl⟩ : ∃ m, n' = m + 1 := ⟨n' - 1, by omega⟩
    unfold f12_sheet_L77
    · rw [if_neg (nI_ge (by omega) (by omega)), if_neg (nI_pos (by omega)), show (40 : Int32) = nI 40 from rfl, pk_mul, nI_add, if_pos (q_in (by omega) (by omega)), nI_clamp (by omega), nI_1]
      obtain ⟨σ', e, g, h1, h2⟩ := ih (i + 1) n' (sF σ 67 (40 * s + i) 0) (by omega) (by omega)
      refine ⟨σ', e, ((q_Ag.rf σ).sF ⟨rfl, by omega, by omega⟩).tr g, fun j h3 h4 => ?_, fun j h3 => ?_⟩
      · by_cases c : j = i
        · rw [c, h2 i (by omega), q_FFe]
        · exact h1 j (by omega) h4
      · rw [h2 j (by omega), q_FFk (by omega)]
theorem m_bec {N : Nat} (hN : 200 ≤ N) {σ : am_S} {s : Nat} (hK : r_K σ) (hs : s < 4) (x : Int32) (z : Nat) (hz : z ≤ 40) : ∃ σ', f8_become N σ (28 + 2 * s) x (nI z) = some σ' ∧ q_Ag (fun a _ => a = 28 + 2 * s ∨ a = 29 + 2 * s) σ σ' ∧ fF σ' (28 + 2 * s) 0 = x ∧ (x ≠ -1 → fF σ' (28 + 2 * s) 1 = nI z) ∧ ∀ j, j < 40 → fF σ' (29 + 2 * s) j = 0 := by
  obtain ⟨k8, krq, kan⟩ := r_8 hK hs
  have fin : ∀ y : Int32, ∃ σ', fJ7_fill_53178 N (sF (sF σ (28 + 2 * s) 0 x) (28 + 2 * s) 1 y) (29 + 2 * s) 0 = some σ' ∧ q_Ag (fun a _ => a = 28 + 2 * s ∨ a = 29 + 2 * s) σ σ' ∧ fF σ' (28 + 2 * s) 0 = x ∧ fF σ' (28 + 2 * s) 1 = y ∧ ∀ j, j < 40 → fF σ' (29 + 2 * s) j = 0 := by
    intro y
    have ka : am_an (sF (sF σ (28 + 2 * s) 0 x) (28 + 2 * s) 1 y) (29 + 2 * s) 0 = 40 := kan
    unfold fJ7_fill_53178
    rw [ka, if_pos (by decide)]
    obtain ⟨σ', e, g, h1, -⟩ := m_fill N (a := 29 + 2 * s) 40 0 N (sF (sF σ (28 + 2 * s) 0 x) (28 + 2 * s) 1 y) rfl (by omega) ka
    refine ⟨σ', e, (((q_Ag.rf σ).sF (Or.inl rfl)).sF (Or.inl rfl)).tr (g.wk (fun a k x => Or.inr x)), ?_, ?_, fun j hj => h1 j (by omega) hj⟩
    · rw [(g.2 _ 0 (by omega)).1, q_FFk (by decide), q_FFe]
    · rw [(g.2 _ 1 (by omega)).1, q_FFe]
  unfold f8_become
  rw [if_pos k8]
  by_cases c : x = -1
  · have kr : am_rq (sF (sF σ (28 + 2 * s) 0 x) (28 + 2 * s) 1 0) (28 + 2 * s) 2 = some (29 + 2 * s) := krq
    rw [if_pos c, kr, Option.elim_some, tx_bsm]
    obtain ⟨σ', e, g, h1, -, h2⟩ := fin 0
    exact ⟨σ', e, g, h1, fun y => absurd c y, h2⟩
  · have ez : (if (0 : Int32) < (if nI z < (40 : Int32) then nI z else (40 : Int32)) then (if nI z < (40 : Int32) then nI z else (40 : Int32)) else (0 : Int32)) = nI z := by
      have e1 : (if nI z < (40 : Int32) then nI z else (40 : Int32)) = nI z := by
        by_cases d : z < 40
        · rw [if_pos (show nI z < (40 : Int32) from nI_lt (b := 40) d (by omega))]
        · rw [if_neg (show ¬ nI z < (40 : Int32) from nI_nlt (b := 40) (by omega) (by omega)), show z = 40 by omega]; rfl
      rw [e1]
      by_cases d : 0 < z
      · rw [if_pos (show (0 : Int32) < nI z from nI_lt (a := 0) d (by omega))]
      · rw [if_neg (show ¬ (0 : Int32) < nI z from nI_nlt (a := 0) (by omega) (by omega)), show z = 0 by omega]; rfl
    have kr : am_rq (sF (sF σ (28 + 2 * s) 0 x) (28 + 2 * s) 1 (nI z)) (28 + 2 * s) 2 = some (29 + 2 * s) := krq
    rw [if_neg c, ez, kr, Option.elim_some, tx_bsm]
    obtain ⟨σ', e, g, h1, h2, h3⟩ := fin (nI z)
    exact ⟨σ', e, g, h1, fun _ => h2, h3⟩
