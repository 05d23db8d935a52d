/-! THE METHODS: sheet, copy, feed -/
theorem m_sheet {N : Nat} (hN : 200 ≤ N) (x1 x2 x3 : Int32) : m_OK (fun σ => f11_sheet N σ x1 x2 x3) (fun σ => f12_sheet N σ x1 x2 x3) := by
  intro σ h
  have hX := h
  obtain ⟨n, m, tc, A, B, hR⟩ := h
  obtain ⟨hK, hC, hB, hW, hP, hS, hT, hI⟩ := hR
  have hR : RR n m tc A B σ := ⟨hK, hC, hB, hW, hP, hS, hT, hI⟩
  obtain ⟨N', rfl⟩ : ∃ m, N = m + 1 := ⟨N - 1, by omega⟩
  dsimp only
  unfold f11_sheet
  rcases q_ix x1 4 with hx | ⟨s, hs, rfl⟩
  · rw [r_sA_no hx]
    refine ⟨-2, σ, σ, rfl, ?_, hX⟩
    unfold f12_sheet
    rw [r_iS_no hx]; rfl
  · obtain ⟨k8, krq, kan⟩ := r_8 hK hs
    obtain ⟨a1, -⟩ := hS s hs
    rw [r_sA_yes hS hs]
    simp only [Option.bind_some, Option.elim_some, wt_m1_2]
    cases hq : q_wi x2 (-1) 2 with
    | false =>
      refine ⟨-2, σ, σ, rfl, ?_, hX⟩
      unfold f12_sheet
      rw [r_iS_yes hs, Option.bind_some, if_pos rfl, in_m1_2, hq]; rfl
    | true =>
      have hw := q_wiT.mp hq
      rw [if_pos rfl]
      have hm : ∀ σ2 : am_S, f12_sheet (N' + 1) σ2 (nI s) x2 x3 = if x2 < 0 then f12_sheet_J34 (N' + 1) (nI s) x2 x3 σ2 else if x3 ≤ (40 : Int32) then f12_sheet_J34 (N' + 1) (nI s) x2 x3 σ2 else some (-2, σ2) := fun σ2 => by
        unfold f12_sheet
        rw [r_iS_yes hs, Option.bind_some, if_pos rfl, in_m1_2, hq, Option.bind_some, if_pos rfl]
      by_cases c : x2 = -1
      · -- missing
        subst c
        rw [if_pos rfl, if_pos rfl, if_pos k8]
        have eb : f8_become (N' + 1) σ (28 + 2 * s) (-1) x3 = f8_become (N' + 1) σ (28 + 2 * s) (-1) (nI 0) := by
          unfold f8_become
          rw [if_pos k8, if_pos k8, if_pos rfl, if_pos rfl]
        obtain ⟨σ1, e1, g1, h1, -, h3⟩ := m_bec hN hK hs (-1) 0 (by omega)
        rw [eb, e1]
        refine ⟨1, σ1, sF (sF (sF σ1 64 s 0) 65 s (-1)) 66 s x3, rfl, ?_, ?_⟩
        · rw [hm, if_pos (by decide)]
          unfold f12_sheet_J34
          rw [if_pos (by decide), if_pos (by decide), if_pos (q_in hs (by omega)), if_pos (q_in hs (by omega)), if_pos (q_in hs (by omega)), nI_clamp (by omega)]
          unfold f12_sheet_L77
          by_cases d : x3 ≤ 0
          · rw [if_pos d]
          · rw [if_neg d, if_pos (by decide)]
        · have g : q_Ag (fun a k => (a = 28 + 2 * s ∨ a = 29 + 2 * s) ∨ (64 ≤ a ∧ a ≤ 66 ∧ k = s) ∨ (a = 67 ∧ 40 * s ≤ k ∧ k < 40 * s + 40)) σ (sF (sF (sF σ1 64 s 0) 65 s (-1)) 66 s x3) :=
            (((g1.wk (T := fun a k => (a = 28 + 2 * s ∨ a = 29 + 2 * s) ∨ (64 ≤ a ∧ a ≤ 66 ∧ k = s) ∨ (a = 67 ∧ 40 * s ≤ k ∧ k < 40 * s + 40)) (fun a k x => Or.inl x)).sF (Or.inr (Or.inl ⟨by omega, by omega, rfl⟩))).sF (Or.inr (Or.inl ⟨by omega, by omega, rfl⟩))).sF (Or.inr (Or.inl ⟨by omega, by omega, rfl⟩))
          refine ⟨n, m, tc, A, B, r_Sup hR hs g ⟨?_, Or.inl ⟨?_, ?_⟩⟩⟩
          · rw [(g.2 26 s (by omega)).2]; exact a1
          · rw [q_FFa (by omega), q_FFa (by omega), q_FFa (by omega)]; exact h1
          · rw [q_FFa (by omega), q_FFa (by omega), q_FFe]
      · rw [if_neg c]
        have h0 : 0 ≤ x2.toInt := by
          have : x2.toInt ≠ -1 := fun y => c (i_ext y)
          omega
        obtain ⟨k, hk, rfl, -⟩ := q_ofb (n := 3) h0 (by omega)
        have c0 : ¬ nI k < 0 := nI_pos (by omega)
        by_cases d : x3 ≤ 40
        · rw [if_pos d, if_neg c]
          by_cases d0 : 0 ≤ x3
          · rw [if_pos d0, if_pos k8]
            have d1 := q_le.mp d
            have d2 := q_le.mp d0
            rw [show (40 : Int32).toInt = 40 from rfl] at d1
            rw [show (0 : Int32).toInt = 0 from rfl] at d2
            obtain ⟨z, hz, rfl, -⟩ := q_ofb (n := 41) d2 (by omega)
            obtain ⟨σ1, e1, g1, h1, h2, h3⟩ := m_bec hN hK hs (nI k) z (by omega)
            have g2 : q_Ag (fun a j => 64 ≤ a ∧ a ≤ 66 ∧ j = s) σ1 (sF (sF (sF σ1 64 s 1) 65 s (nI k)) 66 s (nI z)) := (((q_Ag.rf σ1).sF ⟨by omega, by omega, rfl⟩).sF ⟨by omega, by omega, rfl⟩).sF ⟨by omega, by omega, rfl⟩
            obtain ⟨σ3, e3, g3, z1, -⟩ := m_zero (N' + 1) hs (z := z) (by omega) hk z 0 (N' + 1) (sF (sF (sF σ1 64 s 1) 65 s (nI k)) 66 s (nI z)) (by omega) (by omega)
            rw [e1]
            refine ⟨1, σ1, σ3, rfl, ?_, ?_⟩
            · rw [hm, if_neg c0, if_pos d]
              unfold f12_sheet_J34
              rw [if_neg c0, if_pos d0, if_neg c0, if_pos (q_in hs (by omega)), if_pos (q_in hs (by omega)), if_pos (q_in hs (by omega)), nI_clamp (by omega)]
              exact e3
            · have g : q_Ag (fun a k => (a = 28 + 2 * s ∨ a = 29 + 2 * s) ∨ (64 ≤ a ∧ a ≤ 66 ∧ k = s) ∨ (a = 67 ∧ 40 * s ≤ k ∧ k < 40 * s + 40)) σ σ3 :=
                (g1.wk (fun a k x => Or.inl x)).tr ((g2.wk (fun a k x => Or.inr (Or.inl x))).tr (g3.wk (fun a k x => Or.inr (Or.inr x))))
              refine ⟨n, m, tc, A, B, r_Sup hR hs g ⟨?_, Or.inr ⟨k, z, hk, by omega, ?_, ?_, ?_, ?_, ?_, fun i hi => ?_⟩⟩⟩
              · rw [(g.2 26 s (by omega)).2]; exact a1
              · rw [(g3.2 _ 0 (by omega)).1, (g2.2 _ 0 (by omega)).1]; exact h1
              · rw [(g3.2 _ s (by omega)).1, q_FFa (by omega), q_FFa (by omega), q_FFe]
              · rw [(g3.2 _ s (by omega)).1, q_FFa (by omega), q_FFe]
              · rw [(g3.2 _ 1 (by omega)).1, (g2.2 _ 1 (by omega)).1]; exact h2 c
              · rw [(g3.2 _ s (by omega)).1, q_FFe]
              · rw [(g3.2 _ i (by omega)).1, (g2.2 _ i (by omega)).1, h3 i (by omega), z1 i (by omega) hi]
          · rw [if_neg d0]
            refine ⟨-14, σ, σ, rfl, ?_, hX⟩
            rw [hm, if_neg c0, if_pos d]
            unfold f12_sheet_J34
            rw [if_neg c0, if_neg d0]
        · rw [if_neg d]
          refine ⟨-2, σ, σ, rfl, ?_, hX⟩
          rw [hm, if_neg c0, if_neg d]
-- copy
theorem m_cpU (N : Nat) {s i t j q : Nat} {σ0 : am_S} (h1 : 40 * s + i + q ≤ 160) (h2 : 40 * t + j + q ≤ 160) (hne : ∀ k' k'', k' < k'' → k'' < q → 40 * t + j + k' ≠ 40 * s + i + k'') :
    ∀ d k n' (σ : am_S), k + d = q → d < n' → q_Ag (fun a p => a = 67 ∧ 40 * t + j ≤ p ∧ p < 40 * t + j + q) σ0 σ → (∀ p, fF σ 67 p = if 40 * t + j ≤ p ∧ p < 40 * t + j + k then fF σ0 67 (40 * s + i + (p - (40 * t + j))) else fF σ0 67 p) →
    ∃ σ', f12_copy_L121 N n' (nI s) (nI i) (nI t) (nI j) (nI q) 0 (nI k) σ = some (nI q, σ') ∧ q_Ag (fun a p => a = 67 ∧ 40 * t + j ≤ p ∧ p < 40 * t + j + q) σ0 σ' ∧ ∀ p, fF σ' 67 p = if 40 * t + j ≤ p ∧ p < 40 * t + j + q then fF σ0 67 (40 * s + i + (p - (40 * t + j))) else fF σ0 67 p := by
  intro d
  induction d with
  | zero =>
    intro k n' σ hk hn g hp
    obtain ⟨n', rfl⟩ : ∃ m, n' = m + 1 := ⟨n' - 1, by omega⟩
    have : k = q := by omega
    subst this
    refine ⟨σ, ?_, g, hp⟩
    unfold f12_copy_L121
    rw [if_pos (nI_le (by omega) (by omega))]
  | succ d ih =>
    intro k n' σ hk hn g hp
    obtain ⟨n', rfl⟩ : ∃ m, n' = m + 1 := ⟨n' - 1, by omega⟩
    have hsrc : fF σ 67 (40 * s + i + k) = fF σ0 67 (40 * s + i + k) := by
      rw [hp]
      by_cases c : 40 * t + j ≤ 40 * s + i + k ∧ 40 * s + i + k < 40 * t + j + k
      · exact absurd (show 40 * t + j + (40 * s + i + k - (40 * t + j)) = 40 * s + i + k by omega) (hne _ k (by omega) (by omega))
      · rw [if_neg c]
    unfold f12_copy_L121
    rw [if_neg (nI_ge (by omega) (by omega)), if_pos rfl, show (40 : Int32) = nI 40 from rfl, pk_mul, nI_add, nI_add, if_pos (q_in (by omega) (by omega)), pk_mul, nI_add, nI_add, if_pos (q_in (by omega) (by omega)), nI_clamp (by omega), nI_clamp (by omega), hsrc, nI_1]
    refine ih (k + 1) n' _ (by omega) (by omega) (g.sF ⟨rfl, by omega, by omega⟩) (fun p => ?_)
    by_cases c : p = 40 * t + j + k
    · rw [c, q_FFe, if_pos (by omega), show 40 * t + j + k - (40 * t + j) = k by omega]
    · rw [q_FFk c, hp]
      by_cases c2 : 40 * t + j ≤ p ∧ p < 40 * t + j + k
      · rw [if_pos c2, if_pos (by omega)]
      · rw [if_neg c2, if_neg (by omega)]
theorem m_cpD (N : Nat) {s i t j q : Nat} {σ0 : am_S} (h1 : 40 * s + i + q ≤ 160) (h2 : 40 * t + j + q ≤ 160) (hne : ∀ k' k'', k' < k'' → k'' < q → 40 * t + j + k'' ≠ 40 * s + i + k') :
    ∀ d k n' (σ : am_S), k + d = q → d < n' → q_Ag (fun a p => a = 67 ∧ 40 * t + j ≤ p ∧ p < 40 * t + j + q) σ0 σ → (∀ p, fF σ 67 p = if 40 * t + j + d ≤ p ∧ p < 40 * t + j + q then fF σ0 67 (40 * s + i + (p - (40 * t + j))) else fF σ0 67 p) →
    ∃ σ', f12_copy_L121 N n' (nI s) (nI i) (nI t) (nI j) (nI q) 1 (nI k) σ = some (nI q, σ') ∧ q_Ag (fun a p => a = 67 ∧ 40 * t + j ≤ p ∧ p < 40 * t + j + q) σ0 σ' ∧ ∀ p, fF σ' 67 p = if 40 * t + j ≤ p ∧ p < 40 * t + j + q then fF σ0 67 (40 * s + i + (p - (40 * t + j))) else fF σ0 67 p := by
  intro d
  induction d with
  | zero =>
    intro k n' σ hk hn g hp
    obtain ⟨n', rfl⟩ : ∃ m, n' = m + 1 := ⟨n' - 1, by omega⟩
    have : k = q := by omega
    subst this
    refine ⟨σ, ?_, g, hp⟩
    unfold f12_copy_L121
    rw [if_pos (nI_le (by omega) (by omega))]
  | succ d ih =>
    intro k n' σ hk hn g hp
    obtain ⟨n', rfl⟩ : ∃ m, n' = m + 1 := ⟨n' - 1, by omega⟩
    have ek : (nI q - 1) - nI k = nI d := by rw [show (1 : Int32) = nI 1 from rfl, pk_sub (by omega), pk_sub (by omega), show q - 1 - k = d by omega]
    have hsrc : fF σ 67 (40 * s + i + d) = fF σ0 67 (40 * s + i + d) := by
      rw [hp]
      by_cases c : 40 * t + j + (d + 1) ≤ 40 * s + i + d ∧ 40 * s + i + d < 40 * t + j + q
      · exact absurd (show 40 * t + j + (40 * s + i + d - (40 * t + j)) = 40 * s + i + d by omega) (hne d _ (by omega) (by omega))
      · rw [if_neg c]
    unfold f12_copy_L121
    rw [if_neg (nI_ge (by omega) (by omega)), if_neg (by decide), ek, show (40 : Int32) = nI 40 from rfl, pk_mul, nI_add, nI_add, if_pos (q_in (by omega) (by omega)), pk_mul, nI_add, nI_add, if_pos (q_in (by omega) (by omega)), nI_clamp (by omega), nI_clamp (by omega), hsrc, nI_1]
    refine ih (k + 1) n' _ (by omega) (by omega) (g.sF ⟨rfl, by omega, by omega⟩) (fun p => ?_)
    by_cases c : p = 40 * t + j + d
    · rw [c, q_FFe, if_pos (by omega), show 40 * t + j + d - (40 * t + j) = d by omega]
    · rw [q_FFk c, hp]
      by_cases c2 : 40 * t + j + (d + 1) ≤ p ∧ p < 40 * t + j + q
      · rw [if_pos c2, if_pos (by omega)]
      · rw [if_neg c2, if_neg (by omega)]
theorem m_copy {N : Nat} (hN : 200 ≤ N) (x1 x2 x3 x4 x5 : Int32) : m_OK (fun σ => f11_copy σ x1 x2 x3 x4 x5) (fun σ => f12_copy N σ x1 x2 x3 x4 x5) := by
  intro σ h
  have hX := h
  obtain ⟨n, m, tc, A, B, hR⟩ := h
  obtain ⟨hK, hC, hB, hW, hP, hS, hT, hI⟩ := hR
  have hR : RR n m tc A B σ := ⟨hK, hC, hB, hW, hP, hS, hT, hI⟩
  dsimp only
  unfold f11_copy
  rcases q_ix x1 4 with hx | ⟨s, hs, rfl⟩
  · rw [r_sA_no hx]
    refine ⟨-2, σ, σ, ?_, ?_, hX⟩
    · rcases q_ix x3 4 with hy | ⟨t, ht, rfl⟩
      · rw [r_sA_no hy]; rfl
      · rw [r_sA_yes hS ht]; rfl
    · unfold f12_copy
      rw [r_iS_no hx]; rfl
  rw [r_sA_yes hS hs]
  simp only [Option.bind_some, Option.elim_some]
  rcases q_ix x3 4 with hy | ⟨t, ht, rfl⟩
  · rw [r_sA_no hy]
    refine ⟨-2, σ, σ, rfl, ?_, hX⟩
    unfold f12_copy
    rw [r_iS_yes hs, Option.bind_some, if_pos rfl, r_iS_no hy]; rfl
  rw [r_sA_yes hS ht]
  simp only [Option.bind_some, Option.elim_some]
  obtain ⟨k8, krq, kan⟩ := r_8 hK hs
  obtain ⟨l8, lrq, lan⟩ := r_8 hK ht
  obtain ⟨a1, a2⟩ := hS s hs
  obtain ⟨c1, c2⟩ := hS t ht
  rw [if_pos k8, r_mis k8, Option.bind_some]
  rcases a2 with ⟨b1, b2⟩ | ⟨k, z, k1, k2, b1, b2, b3, b4, b5, b6⟩
  · rw [if_pos (decide_eq_true b1)]
    refine ⟨-11, σ, σ, rfl, ?_, hX⟩
    unfold f12_copy
    rw [r_iS_yes hs, Option.bind_some, if_pos rfl, r_iS_yes ht, Option.bind_some, if_pos rfl, if_pos (q_in hs (by omega)), nI_clamp (by omega), if_pos b2]
  rw [if_neg (by rw [decide_eq_true_eq, b1]; exact nI_m1 (by omega)), if_pos l8, r_mis l8, Option.bind_some]
  rcases c2 with ⟨d1, d2⟩ | ⟨k', z', k1', k2', d1, d2, d3, d4, d5, d6⟩
  · rw [if_pos (decide_eq_true d1)]
    refine ⟨-11, σ, σ, rfl, ?_, hX⟩
    unfold f12_copy
    rw [r_iS_yes hs, Option.bind_some, if_pos rfl, r_iS_yes ht, Option.bind_some, if_pos rfl, if_pos (q_in hs (by omega)), nI_clamp (by omega), if_neg (by rw [b2]; decide), if_pos (q_in ht (by omega)), nI_clamp (by omega), if_pos d2]
  rw [if_neg (by rw [decide_eq_true_eq, d1]; exact nI_m1 (by omega)), b1, d1]
  have hm : ∀ σ2 : am_S, fF σ2 64 s = 1 → fF σ2 64 t = 1 → fF σ2 65 s = nI k → fF σ2 65 t = nI k' → fF σ2 66 s = nI z → fF σ2 66 t = nI z' → f12_copy N σ2 (nI s) x2 (nI t) x4 x5 = (if nI k = nI k' then (if x5 < 0 then (some ((-12 : Int32), σ2)) else (if x2 < 0 then (some ((-12 : Int32), σ2)) else (if x4 < 0 then (some ((-12 : Int32), σ2)) else (if nI z - x5 < x2 then (some ((-12 : Int32), σ2)) else (if x4 ≤ nI z' - x5 then (if nI s = nI t then (if x4 ≤ x2 then (f12_copy_L121 N N (nI s) x2 (nI t) x4 x5 (0 : Int32) (0 : Int32) σ2) else (f12_copy_L121 N N (nI s) x2 (nI t) x4 x5 (1 : Int32) (0 : Int32) σ2)) else (f12_copy_L121 N N (nI s) x2 (nI t) x4 x5 (0 : Int32) (0 : Int32) σ2)) else (some ((-12 : Int32), σ2))))))) else (some ((-13 : Int32), σ2))) := fun σ2 h1 h2 h3 h4 h5 h6 => by
    unfold f12_copy
    rw [r_iS_yes hs, Option.bind_some, if_pos rfl, r_iS_yes ht, Option.bind_some, if_pos rfl, if_pos (q_in hs (by omega)), nI_clamp (by omega), nI_clamp (by omega), if_neg (by rw [h1]; decide), if_pos (q_in ht (by omega)), if_neg (by rw [h2]; decide), if_pos (q_in hs (by omega)), if_pos (q_in ht (by omega)), if_pos (q_in hs (by omega)), if_pos (q_in ht (by omega)), h3, h4, h5, h6]
  have ez : (nI z).toInt = (z : Int) := nI_toInt (by omega)
  have ez' : (nI z').toInt = (z' : Int) := nI_toInt (by omega)
  have r5 := fb_rng x5
  by_cases ek : k = k'
  · subst ek
    rw [if_pos rfl, r_hold k8 k2 b4, r_hold l8 k2' d4]
    simp only [Option.bind_some]
    by_cases P1 : 0 ≤ x2.toInt ∧ 0 ≤ x5.toInt ∧ x2.toInt ≤ z ∧ x5.toInt ≤ z - x2.toInt
    · rw [if_pos (decide_eq_true P1)]
      by_cases P2 : 0 ≤ x4.toInt ∧ 0 ≤ x5.toInt ∧ x4.toInt ≤ z' ∧ x5.toInt ≤ z' - x4.toInt
      · rw [if_pos (decide_eq_true P2)]
        obtain ⟨i, hi, rfl, ei⟩ := q_ofb (n := 41) (x := x2) (by omega) (by omega)
        obtain ⟨j, hj, rfl, ej⟩ := q_ofb (n := 41) (x := x4) (by omega) (by omega)
        obtain ⟨q, hq, rfl, eq⟩ := q_ofb (n := 41) (x := x5) (by omega) (by omega)
        rw [krq, Option.elim_some, lrq, Option.elim_some, kan, lan, if_pos (by decide), if_pos (by decide)]
        have hcp : am_cp (nI i) (nI j) (nI q) 40 40 = true := by
          unfold am_cp
          rw [decide_eq_true (nI_pos' (by omega)), decide_eq_true (nI_pos' (by omega)), decide_eq_true (nI_pos' (by omega)), nI_clamp (by omega), nI_clamp (by omega), nI_clamp (by omega), decide_eq_true (show i + q ≤ 40 by omega), decide_eq_true (show j + q ≤ 40 by omega)]
          rfl
        rw [if_pos hcp, nI_clamp (by omega), nI_clamp (by omega), nI_clamp (by omega)]
        have fin : ∀ σ2 : am_S, q_Ag (fun a p => a = 67 ∧ 40 * t + j ≤ p ∧ p < 40 * t + j + q) (sK σ (29 + 2 * t) (va_cpy (fF σ (29 + 2 * s)) (fF σ (29 + 2 * t)) i j q)) σ2 → (∀ p, fF σ2 67 p = if 40 * t + j ≤ p ∧ p < 40 * t + j + q then fF (sK σ (29 + 2 * t) (va_cpy (fF σ (29 + 2 * s)) (fF σ (29 + 2 * t)) i j q)) 67 (40 * s + i + (p - (40 * t + j))) else fF (sK σ (29 + 2 * t) (va_cpy (fF σ (29 + 2 * s)) (fF σ (29 + 2 * t)) i j q)) 67 p) → RX σ2 := by
          intro σ2 g2 hp
          have g : q_Ag (fun a k => (a = 28 + 2 * t ∨ a = 29 + 2 * t) ∨ (64 ≤ a ∧ a ≤ 66 ∧ k = t) ∨ (a = 67 ∧ 40 * t ≤ k ∧ k < 40 * t + 40)) σ σ2 :=
            ((q_Ag.rf σ).sK (fun k => Or.inl (Or.inr rfl))).tr (g2.wk (fun a k x => Or.inr (Or.inr ⟨x.1, by omega, by omega⟩)))
          refine ⟨n, m, tc, A, B, r_Sup hR ht g ⟨?_, Or.inr ⟨k, z', k1', k2', ?_, ?_, ?_, ?_, ?_, fun i' hi' => ?_⟩⟩⟩
          · rw [(g.2 26 t (by omega)).2]; exact c1
          · rw [(g2.2 _ 0 (by omega)).1, q_FK, if_neg (by omega)]; exact d1
          · rw [(g2.2 _ t (by omega)).1, q_FK, if_neg (by omega)]; exact d2
          · rw [(g2.2 _ t (by omega)).1, q_FK, if_neg (by omega)]; exact d3
          · rw [(g2.2 _ 1 (by omega)).1, q_FK, if_neg (by omega)]; exact d4
          · rw [(g2.2 _ t (by omega)).1, q_FK, if_neg (by omega)]; exact d5
          · rw [(g2.2 (29 + 2 * t) i' (by omega)).1, q_FK, if_pos rfl, hp]
            by_cases c : j ≤ i' ∧ i' < j + q
            · rw [pk_cpy_in c.1 c.2, if_pos (by omega), q_FK, if_neg (by omega), b6 _ (by omega)]
              congr 1
              omega
            · rw [pk_cpy_out (by omega), if_neg (by omega), q_FK, if_neg (by omega)]
              exact d6 i' hi'
        have ss : ∀ a k, a ≠ 29 + 2 * t → fF (sK σ (29 + 2 * t) (va_cpy (fF σ (29 + 2 * s)) (fF σ (29 + 2 * t)) i j q)) a k = fF σ a k := fun a k ha => by rw [q_FK, if_neg ha]
        have hm' := hm (sK σ (29 + 2 * t) (va_cpy (fF σ (29 + 2 * s)) (fF σ (29 + 2 * t)) i j q)) (by rw [ss _ _ (by omega)]; exact b2) (by rw [ss _ _ (by omega)]; exact d2) (by rw [ss _ _ (by omega)]; exact b3) (by rw [ss _ _ (by omega)]; exact d3) (by rw [ss _ _ (by omega)]; exact b5) (by rw [ss _ _ (by omega)]; exact d5)
        have es1 : (nI z - nI q).toInt = (z : Int) - q := by rw [fb_subI (by omega) (by omega), ez, eq]
        have es2 : (nI z' - nI q).toInt = (z' : Int) - q := by rw [fb_subI (by omega) (by omega), ez', eq]
        rw [if_pos rfl, if_neg (nI_pos (by omega)), if_neg (nI_pos (by omega)), if_neg (nI_pos (by omega)), if_neg (fun y => by have := q_lt.mp y; omega), if_pos (q_le.mpr (by omega))] at hm'
        have g0 : q_Ag (fun a p => a = 67 ∧ 40 * t + j ≤ p ∧ p < 40 * t + j + q) (sK σ (29 + 2 * t) (va_cpy (fF σ (29 + 2 * s)) (fF σ (29 + 2 * t)) i j q)) (sK σ (29 + 2 * t) (va_cpy (fF σ (29 + 2 * s)) (fF σ (29 + 2 * t)) i j q)) := q_Ag.rf _
        have up : (∀ k' k'', k' < k'' → k'' < q → 40 * t + j + k' ≠ 40 * s + i + k'') → f12_copy N (sK σ (29 + 2 * t) (va_cpy (fF σ (29 + 2 * s)) (fF σ (29 + 2 * t)) i j q)) (nI s) (nI i) (nI t) (nI j) (nI q) = f12_copy_L121 N N (nI s) (nI i) (nI t) (nI j) (nI q) 0 0 (sK σ (29 + 2 * t) (va_cpy (fF σ (29 + 2 * s)) (fF σ (29 + 2 * t)) i j q)) → ∃ v σ1 σ2, some (nI q, sK σ (29 + 2 * t) (va_cpy (fF σ (29 + 2 * s)) (fF σ (29 + 2 * t)) i j q)) = some (v, σ1) ∧ f12_copy N σ1 (nI s) (nI i) (nI t) (nI j) (nI q) = some (v, σ2) ∧ RX σ2 := by
          intro hne hh
          obtain ⟨σ2, e2, g2, p2⟩ := m_cpU N (s := s) (i := i) (t := t) (j := j) (q := q) (by omega) (by omega) hne q 0 N _ (by omega) (by omega) g0 (fun p => by rw [if_neg (by omega)])
          exact ⟨_, _, σ2, rfl, hh.trans e2, fin σ2 g2 p2⟩
        by_cases est : s = t
        · rw [if_pos (by rw [est])] at hm'
          by_cases eij : j ≤ i
          · rw [if_pos (nI_le eij (by omega))] at hm'
            exact up (fun k' k'' h1 h2 => by omega) hm'
          · rw [if_neg (nI_ge (by omega) (by omega))] at hm'
            obtain ⟨σ2, e2, g2, p2⟩ := m_cpD N (s := s) (i := i) (t := t) (j := j) (q := q) (by omega) (by omega) (fun k' k'' h1 h2 => by omega) q 0 N _ (by omega) (by omega) g0 (fun p => by rw [if_neg (by omega)])
            exact ⟨_, _, σ2, rfl, hm'.trans e2, fin σ2 g2 p2⟩
        · rw [if_neg (fun y => est (q_nI (by omega) (by omega) y))] at hm'
          exact up (fun k' k'' h1 h2 => by omega) hm'
      · rw [if_neg (by rw [decide_eq_true_eq]; exact P2)]
        refine ⟨-12, σ, σ, rfl, ?_, hX⟩
        have es2 : (nI z' - x5).toInt = (z' : Int) - x5.toInt := by rw [fb_subI (by omega) (by omega), ez']
        have es1 : (nI z - x5).toInt = (z : Int) - x5.toInt := by rw [fb_subI (by omega) (by omega), ez]
        rw [hm σ b2 d2 b3 d3 b5 d5, if_pos rfl]
        simp only [q_lt, q_le, es1, es2, show (0 : Int32).toInt = 0 from rfl]
        rw [if_neg (by omega), if_neg (by omega)]
        by_cases c : x4.toInt < 0
        · rw [if_pos c]
        · rw [if_neg c, if_neg (by omega), if_neg (by omega)]
    · rw [if_neg (by rw [decide_eq_true_eq]; exact P1)]
      refine ⟨-12, σ, σ, rfl, ?_, hX⟩
      rw [hm σ b2 d2 b3 d3 b5 d5, if_pos rfl]
      simp only [q_lt, show (0 : Int32).toInt = 0 from rfl]
      by_cases c0 : x5.toInt < 0
      · rw [if_pos c0]
      rw [if_neg c0]
      by_cases c1 : x2.toInt < 0
      · rw [if_pos c1]
      rw [if_neg c1]
      by_cases c2 : x4.toInt < 0
      · rw [if_pos c2]
      have es1 : (nI z - x5).toInt = (z : Int) - x5.toInt := by rw [fb_subI (by omega) (by omega), ez]
      rw [if_neg c2, es1, if_pos (by omega)]
  · rw [if_neg (fun y => ek (q_nI (by omega) (by omega) y))]
    refine ⟨-13, σ, σ, rfl, ?_, hX⟩
    rw [hm σ b2 d2 b3 d3 b5 d5, if_neg (fun y => ek (q_nI (by omega) (by omega) y))]
