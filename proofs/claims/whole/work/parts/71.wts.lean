/-! WAITS: the class's loops; the method waits -/
def wc_s (a _k : Nat) : Prop := 17 ≤ a ∧ a ≤ 19
section WTS
variable {M t k : Nat} {it : Nat → Nat} {c : Int32} {σ0 : am_S} {s : Nat}
theorem wc_it {σ : am_S} (hK : r_K σ0) (hs : s < 4) (hM : M ≤ 24) (e : fF σ0 (28 + 2 * s) 1 = nI M) (g : q_Ag wc_s σ0 σ) {i : Nat} (hi : i < M) : f8_item σ (28 + 2 * s) (nI i) = some (fF σ0 (29 + 2 * s) i) := by
  obtain ⟨k8, krq, kan⟩ := r_8 (hK.mv g) hs
  unfold f8_item
  rw [if_pos k8, r_hold k8 (by omega : M ≤ 40) (((g.2 (28 + 2 * s) 1 (by unfold wc_s; omega)).1).trans e), nI_toInt (by omega), show (1 : Int32).toInt = 1 from rfl, Option.bind_some, if_pos (decide_eq_true (by omega)), krq, Option.elim_some, kan, if_pos (by decide), if_pos (q_in (by omega) (by omega)), nI_clamp (by omega), (g.2 (29 + 2 * s) i (by unfold wc_s; omega)).1]
theorem wc_aw {N : Nat} (hK : r_K σ0) (hs : s < 4) (hM : M ≤ 24) (e : fF σ0 (28 + 2 * s) 1 = nI M) (hit : ∀ i, i < M → fF σ0 (29 + 2 * s) i = nI (it i) ∧ it i ≤ 20) : ∀ d i n' (σ : am_S), i + d = 42 → d < n' → q_Ag wc_s σ0 σ → (∀ j, j < i → fF σ 18 j = nI (wt_S M it (j + 1))) → (∀ j, j ≤ i → fF σ 19 j = c + nI (wt_Q M it j)) → ∃ σ', f0_awaits_L23 N n' (28 + 2 * s) (nI (wt_S M it i)) (nI i) σ = some (true, σ') ∧ q_Ag wc_s σ0 σ' ∧ fF σ' 17 0 = nI M ∧ (∀ j, j < 42 → fF σ' 18 j = nI (wt_S M it (j + 1))) ∧ ∀ j, j < 43 → fF σ' 19 j = c + nI (wt_Q M it j) := by
  intro d
  induction d with
  | zero =>
    intro i n' σ hi hn g h18 h19
    obtain ⟨n', rfl⟩ : ∃ m, n' = m + 1 := ⟨n' - 1, by omega⟩
    have : i = 42 := by omega
    subst this
    have k8 := (r_8 (hK.mv g) hs).1
    refine ⟨sF σ 17 0 (nI M), ?_, g.sF (by unfold wc_s; omega), q_FFe, fun j hj => ?_, fun j hj => ?_⟩
    · unfold f0_awaits_L23
      rw [if_pos (show (42 : Int32) ≤ nI 42 from nI_le (a := 42) (Nat.le_refl _) (by omega)), if_pos k8, (g.2 (28 + 2 * s) 1 (by unfold wc_s; omega)).1, e]
    · rw [q_FFa (by decide)]; exact h18 j hj
    · rw [q_FFa (by decide)]; exact h19 j (by omega)
  | succ d ih =>
    intro i n' σ hi hn g h18 h19
    obtain ⟨n', rfl⟩ : ∃ m, n' = m + 1 := ⟨n' - 1, by omega⟩
    have k8 := (r_8 (hK.mv g) hs).1
    have key := ih (i + 1) n' (sF (sF σ 18 i (nI (wt_S M it (i + 1)))) 19 (i + 1) (fF (sF σ 18 i (nI (wt_S M it (i + 1)))) 19 i + nI (wt_S M it (i + 1)))) (by omega) (by omega) ((g.sF (by unfold wc_s; omega)).sF (by unfold wc_s; omega)) (fun j hj => by
      rw [q_FFa (by decide)]
      by_cases cj : j = i
      · rw [cj, q_FFe]
      · rw [q_FFk cj]; exact h18 j (by omega)) (fun j hj => by
      by_cases cj : j = i + 1
      · rw [cj, q_FFe, q_FFa (by decide), h19 i (Nat.le_refl _), Int32.add_assoc, nI_add]; rfl
      · rw [q_FFk cj, q_FFa (by decide)]; exact h19 j (by omega))
    have eM : fF σ (28 + 2 * s) 1 = nI M := ((g.2 (28 + 2 * s) 1 (by unfold wc_s; omega)).1).trans e
    unfold f0_awaits_L23
    rw [if_neg (show ¬ (42 : Int32) ≤ nI i from nI_ge (b := 42) (by omega) (by omega)), if_pos k8, eM, nI_1, nI_clamp (show i < 2 ^ 31 by omega), nI_clamp (show i + 1 < 2 ^ 31 by omega)]
    by_cases cM : M ≤ i
    · have e0 : wt_S M it (i + 1) = wt_S M it i := by
        show wt_S M it i + (if i < M then it i else 0) = _
        rw [if_neg (by omega)]; rfl
      rw [if_pos (nI_le cM (by omega)), if_pos (q_in (by omega) (by omega)), if_pos (q_in (by omega) (by omega)), if_pos (q_in (by omega) (by omega)), Int32.add_zero]
      rw [e0] at key
      exact key
    · obtain ⟨i1, i2⟩ := hit i (by omega)
      rw [if_neg (nI_ge (by omega) (by omega)), wc_it hK hs hM e g (by omega), Option.bind_some, i1, if_neg (nI_pos (by omega)), if_pos (show nI (it i) ≤ (20 : Int32) from nI_le (b := 20) i2 (by omega)), if_pos (q_in (by omega) (by omega)), if_pos (q_in (by omega) (by omega)), if_pos (q_in (by omega) (by omega)), nI_add, ← wt_Ss (show i < M by omega)]
      exact key
theorem wc_aN {N j : Nat} (hK : r_K σ0) (hs : s < 4) (hM : M ≤ 24) (e : fF σ0 (28 + 2 * s) 1 = nI M) (hj : j < M) (hv : q_wi (fF σ0 (29 + 2 * s) j) 0 20 = false) : ∀ d i n' (x2 : Int32) (σ : am_S), i + d = 42 → d < n' → i ≤ j → q_Ag wc_s σ0 σ → ∃ σ', f0_awaits_L23 N n' (28 + 2 * s) x2 (nI i) σ = some (false, σ') ∧ q_Ag wc_s σ0 σ' := by
  intro d
  induction d with
  | zero => intro i n' x2 σ hi hn hij g; omega
  | succ d ih =>
    intro i n' x2 σ hi hn hij g
    obtain ⟨n', rfl⟩ : ∃ m, n' = m + 1 := ⟨n' - 1, by omega⟩
    have k8 := (r_8 (hK.mv g) hs).1
    have eM : fF σ (28 + 2 * s) 1 = nI M := ((g.2 (28 + 2 * s) 1 (by unfold wc_s; omega)).1).trans e
    unfold f0_awaits_L23
    rw [if_neg (show ¬ (42 : Int32) ≤ nI i from nI_ge (b := 42) (by omega) (by omega)), if_pos k8, eM, nI_1, nI_clamp (show i < 2 ^ 31 by omega), nI_clamp (show i + 1 < 2 ^ 31 by omega), if_neg (nI_ge (by omega) (by omega)), wc_it hK hs hM e g (by omega), Option.bind_some]
    by_cases c1 : fF σ0 (29 + 2 * s) i < 0
    · rw [if_pos c1]; exact ⟨σ, rfl, g⟩
    · rw [if_neg c1]
      by_cases c2 : fF σ0 (29 + 2 * s) i ≤ (20 : Int32)
      · rw [if_pos c2, if_pos (q_in (by omega) (by omega)), if_pos (q_in (by omega) (by omega)), if_pos (q_in (by omega) (by omega))]
        refine ih (i + 1) n' _ _ (by omega) (by omega) ?_ ((g.sF (by unfold wc_s; omega)).sF (by unfold wc_s; omega))
        by_cases cj : i = j
        · subst cj
          have h1 : ¬ (fF σ0 (29 + 2 * s) i).toInt < 0 := fun y => c1 (q_lt.mpr y)
          have h2 : (fF σ0 (29 + 2 * s) i).toInt ≤ 20 := q_le.mp c2
          exact absurd ((q_wiT (a := 0) (b := 20)).mpr ⟨by omega, h2⟩) (by rw [hv]; decide)
        · omega
      · rw [if_neg c2]; exact ⟨σ, rfl, g⟩
theorem wc_66 {N : Nat} (hM : M ≤ 24) (ht : 1 ≤ t ∧ t ≤ 9) (hk : 1 ≤ k ∧ k ≤ 14) (hS : wt_S M it M ≤ 480) {k37 : Int32 → am_S → Option (Int64 × am_S)} {m : Nat} (hm : m < M) : ∀ d g n' (σ : am_S), g + d = min (wt_S M it (m + 1)) (k * (m / (2 * t))) + 1 → d < n' → q_Ag wc_s σ0 σ → wc_H M t k it c σ → wc_L M t k it (m + 1) σ → (∀ g', g' < g → fG σ 20 (m * 155 + g') = lN (wc_E M t k it m g')) → ∃ σ', f0_bestPlan_L66 k37 N n' (nI m) (nI (min (wt_S M it (m + 1)) (k * (m / (2 * t))))) (nI g) σ = k37 (nI m - 1) σ' ∧ q_Ag wc_s σ0 σ' ∧ wc_H M t k it c σ' ∧ wc_L M t k it m σ' := by
  have s1 := wt_Sl (M := M) (it := it) (m + 1)
  intro d
  induction d with
  | zero =>
    intro g n' σ hg hn gg hH hL hE
    obtain ⟨n', rfl⟩ : ∃ m, n' = m + 1 := ⟨n' - 1, by omega⟩
    refine ⟨σ, ?_, gg, hH, fun m' g' a1 a2 a3 a4 => ?_⟩
    · conv => lhs; unfold f0_bestPlan_L66 f0_bestPlan_J99
      rw [if_pos (nI_lt (by omega) (by omega)), Int32.sub_eq_add_neg]
    · by_cases c : m' = m
      · subst c
        exact hE g' (by omega)
      · exact hL m' g' (by omega) a2 a3 a4
  | succ d ih =>
    intro g n' σ hg hn gg hH hL hE
    obtain ⟨n', rfl⟩ : ∃ m, n' = m + 1 := ⟨n' - 1, by omega⟩
    obtain ⟨g4, -⟩ := wc_g ht hk (show m < 24 by omega) (g := g) (by omega)
    conv =>
      enter [1, σ', 1, 1]
      unfold f0_bestPlan_L66
    rw [if_neg (nI_nlt (by omega) (by omega)), wc_from hM ht hk hS hH hm hL (by omega) (by omega), Option.bind_some, show (155 : Int32) = nI 155 from rfl, pk_mul, nI_add, if_pos (q_in (by omega) (by omega)), nI_clamp (by omega), nI_1]
    refine ih (g + 1) n' _ (by omega) (by omega) gg.sG hH (fun m' g' a1 a2 a3 a4 => ?_) (fun g' hg' => ?_)
    · obtain ⟨g5, -⟩ := wc_g ht hk (show m' < 24 by omega) a4
      rw [q_GG, if_neg (by omega)]
      exact hL m' g' a1 a2 a3 a4
    · rw [q_GG]
      by_cases c : g' = g
      · rw [if_pos (by rw [c]; exact ⟨rfl, rfl⟩), c]
      · rw [if_neg (by omega)]
        exact hE g' (by omega)
theorem wc_37 {N : Nat} (hN : 200 ≤ N) (hM : M ≤ 24) (ht : 1 ≤ t ∧ t ≤ 9) (hk : 1 ≤ k ∧ k ≤ 14) (hS : wt_S M it M ≤ 480) : ∀ e d n' (σ : am_S), d + e = M → e < n' → q_Ag wc_s σ0 σ → wc_H M t k it c σ → wc_L M t k it (M - d) σ → ∃ σ', f0_bestPlan_L37 N n' (nI (M - d) - 1) σ = some (fG σ' 20 0, σ') ∧ q_Ag wc_s σ0 σ' ∧ wc_L M t k it 0 σ' := by
  intro e
  induction e with
  | zero =>
    intro d n' σ hd hn g hH hL
    obtain ⟨n', rfl⟩ : ∃ m, n' = m + 1 := ⟨n' - 1, by omega⟩
    have : d = M := by omega
    subst this
    rw [Nat.sub_self] at hL
    refine ⟨σ, ?_, g, hL⟩
    unfold f0_bestPlan_L37
    rw [Nat.sub_self, if_pos (show (nI 0 - 1 : Int32) < 0 by decide), if_pos (show am_in (0 : Int32) 3720 = true by decide)]
    rfl
  | succ e ih =>
    intro d n' σ hd hn g hH hL
    obtain ⟨n', rfl⟩ : ∃ m, n' = m + 1 := ⟨n' - 1, by omega⟩
    obtain ⟨m, hm⟩ : ∃ m, m = M - (d + 1) := ⟨_, rfl⟩
    have em : nI (M - d) - 1 = nI m := by rw [show (1 : Int32) = nI 1 from rfl, pk_sub (by omega), show M - d - 1 = m by omega]
    have s1 := wt_Sl (M := M) (it := it) (m + 1)
    obtain ⟨g4, -⟩ := wc_g ht hk (show m < 24 by omega) (g := k * (m / (2 * t))) (Nat.le_refl _)
    obtain ⟨σ1, r1, g1, h1, l1⟩ := wc_66 (N := N) hM ht hk hS (k37 := f0_bestPlan_L37 N n') (m := m) (by omega) (min (wt_S M it (m + 1)) (k * (m / (2 * t))) + 1) 0 N σ (by omega) (by omega) g hH (by rw [show m + 1 = M - d by omega]; exact hL) (fun g' hg' => by omega)
    obtain ⟨σ2, r2, g2⟩ := ih (d + 1) n' σ1 (by omega) (by omega) g1 h1 (by rw [← hm]; exact l1)
    refine ⟨σ2, ?_, g2⟩
    rw [← r2, ← hm, ← r1, em]
    conv => lhs; unfold f0_bestPlan_L37
    obtain ⟨⟨h0, hk1, ht2⟩, h18, -⟩ := hH
    rw [if_neg (nI_pos (by omega)), if_pos (q_in (by omega) (by omega)), ht2, if_neg (show ¬ nI (2 * t) = (0 : Int32) from fun x => by have := (nI_eq (a := 2 * t) (b := 0) (by omega) (by omega)).mp x; omega), hk1, nI_clamp (by omega), h18 m (by omega), pk_div (by omega) (by omega) (by omega), pk_mul, ft_mn (by omega) (by omega)]
    rfl
theorem wc_pl {N : Nat} (hN : 200 ≤ N) (hM0 : 1 ≤ M) (hM : M ≤ 24) (ht : 1 ≤ t ∧ t ≤ 9) (hk : 1 ≤ k ∧ k ≤ 14) (hS : wt_S M it M ≤ 480) {σ : am_S} (g : q_Ag wc_s σ0 σ) (h17 : fF σ 17 0 = nI M) (h18 : ∀ j, j < 42 → fF σ 18 j = nI (wt_S M it (j + 1))) (h19 : ∀ j, j < 43 → fF σ 19 j = c + nI (wt_Q M it j)) : ∃ σ', f0_bestPlan N σ (nI t) (nI k) = some (lN (wt_k (wt_V M t k it M 0 0)), σ') ∧ q_Ag wc_s σ0 σ' := by
  have g2 : q_Ag wc_s σ0 (sF (sF σ 17 2 (nI (2 * t))) 17 1 (nI k)) := (g.sF (by unfold wc_s; omega)).sF (by unfold wc_s; omega)
  have hH : wc_H M t k it c (sF (sF σ 17 2 (nI (2 * t))) 17 1 (nI k)) := by
    refine ⟨⟨?_, ?_, ?_⟩, fun j hj => ?_, fun j hj => ?_⟩
    · rw [q_FFk (by decide), q_FFk (by decide)]; exact h17
    · rw [q_FFe]
    · rw [q_FFk (by decide), q_FFe]
    · rw [q_FFa (by decide), q_FFa (by decide)]; exact h18 j hj
    · rw [q_FFa (by decide), q_FFa (by decide)]; exact h19 j hj
  obtain ⟨σ', e1, g3, l3⟩ := wc_37 (N := N) hN hM ht hk hS M 0 N _ (by omega) (by omega) g2 hH (fun m' g' a1 a2 _ _ => by omega)
  refine ⟨σ', ?_, g3⟩
  unfold f0_bestPlan
  rw [show (2 : Int32) = nI 2 from rfl, pk_mul, hH.1.2.2, if_neg (show ¬ nI (2 * t) < (1 : Int32) from nI_nlt (b := 1) (by omega) (by omega)), hH.1.2.1, if_pos (show (1 : Int32) ≤ nI k from nI_le (a := 1) (by omega) (by omega)), hH.1.1, show nI M - 1 = nI (M - 0) - 1 from rfl, e1]
  have z := l3 0 0 (Nat.le_refl _) (by omega) (by omega) (by omega)
  rw [wc_E0 (by omega) (by omega)] at z
  have z' : fG σ' 20 0 = lN (wt_k (wt_V M t k it M 0 0)) := z
  rw [z']
end WTS
theorem m_waits {N : Nat} (hN : 9000 ≤ N) (x1 x2 x3 x4 : Int32) : m_OK (fun σ => f11_waits N σ x1 x2 x3 x4) (fun σ => f12_waits N σ x1 x2 x3 x4) := by
  intro σ h
  have hX := h
  obtain ⟨n, m, tc, A, B, hR⟩ := h
  have hR' := hR
  obtain ⟨hK, hC, hB, hW, hP, hS, hT, hI⟩ := hR
  dsimp only
  unfold f11_waits
  rcases q_ix x1 4 with hx | ⟨s, hs, rfl⟩
  · rw [r_sA_no hx]
    refine ⟨-2, σ, σ, rfl, ?_, hX⟩
    unfold f12_waits
    rw [r_iS_no hx]; rfl
  obtain ⟨k8, krq, kan⟩ := r_8 hK hs
  obtain ⟨a1, a2⟩ := hS s hs
  rw [r_sA_yes hS hs, Option.bind_some, Option.elim_some, wt_1_9, Option.bind_some]
  have mdl : ∀ σ2 : am_S, f12_waits N σ2 (nI s) x2 x3 x4 = if q_wi x2 1 9 = true then (if q_wi x3 1 14 = true then (if q_wi x4 0 1 = true then (if fF σ2 64 s = 0 then some (-11, σ2) else ((f12_in ((fF σ2 66 s).toInt64) (1 : Int64) (24 : Int64)).bind fun v20 => if v20 = true then f12_waits_L84 N N (nI s) x2 x3 x4 (fF σ2 66 s) (0 : Int32) σ2 else some (-2, σ2))) else some (-2, σ2)) else some (-2, σ2)) else some (-2, σ2) := fun σ2 => by
    unfold f12_waits
    rw [r_iS_yes hs, Option.bind_some, if_pos rfl, in_1_9, Option.bind_some, in_1_14, Option.bind_some, in_0_1, Option.bind_some, if_pos (q_in hs (by omega)), if_pos (q_in hs (by omega)), nI_clamp (by omega)]
  cases hq2 : q_wi x2 1 9 with
  | false => exact ⟨-2, σ, σ, rfl, by rw [mdl, hq2]; rfl, hX⟩
  | true =>
  rw [if_pos rfl, wt_1_14, Option.bind_some]
  cases hq3 : q_wi x3 1 14 with
  | false => exact ⟨-2, σ, σ, rfl, by rw [mdl, hq2, hq3]; rfl, hX⟩
  | true =>
  rw [if_pos rfl, wt_0_1, Option.bind_some]
  cases hq4 : q_wi x4 0 1 with
  | false => exact ⟨-2, σ, σ, rfl, by rw [mdl, hq2, hq3, hq4]; rfl, hX⟩
  | true =>
  rw [if_pos rfl, if_pos k8, r_mis k8, Option.bind_some]
  have mdl : ∀ σ2 : am_S, f12_waits N σ2 (nI s) x2 x3 x4 = (if fF σ2 64 s = 0 then some (-11, σ2) else ((f12_in ((fF σ2 66 s).toInt64) (1 : Int64) (24 : Int64)).bind fun v20 => if v20 = true then f12_waits_L84 N N (nI s) x2 x3 x4 (fF σ2 66 s) (0 : Int32) σ2 else some (-2, σ2))) := fun σ2 => by
    rw [mdl, hq2, hq3, hq4, if_pos rfl, if_pos rfl, if_pos rfl]
  rcases a2 with ⟨b1, b2⟩ | ⟨kd, z, k1, k2, b1, b2, b3, b4, b5, b6⟩
  · rw [if_pos (decide_eq_true b1)]
    exact ⟨-11, σ, σ, rfl, by rw [mdl, if_pos b2], hX⟩
  rw [if_neg (by rw [decide_eq_true_eq, b1]; exact nI_m2 (by omega))]
  have mdl : ∀ σ2 : am_S, fF σ2 64 s = 1 → fF σ2 66 s = nI z → f12_waits N σ2 (nI s) x2 x3 x4 = if q_wi (nI z) 1 24 = true then f12_waits_L84 N N (nI s) x2 x3 x4 (nI z) (nI 0) σ2 else some (-2, σ2) := fun σ2 y1 y2 => by
    rw [mdl, if_neg (by rw [y1]; decide), y2, in_1_24]; rfl
  have ew : q_wi (nI z) 1 24 = decide (1 ≤ z ∧ z ≤ 24) := by
    unfold q_wi
    rw [nI_toInt (by omega)]
    exact decide_eq_decide.mpr ⟨fun h => by omega, fun h => by omega⟩
  unfold f0_awaits
  rw [if_pos k8, b4]
  by_cases c1 : z < 1
  · rw [if_pos (show nI z < (1 : Int32) from nI_lt (b := 1) c1 (by omega))]
    exact ⟨-2, σ, σ, rfl, by rw [mdl σ b2 b5, ew, decide_eq_false (by omega)]; rfl, hX⟩
  rw [if_neg (show ¬ nI z < (1 : Int32) from nI_nlt (b := 1) (by omega) (by omega))]
  by_cases c2' : 24 < z
  · rw [if_neg (show ¬ nI z ≤ (24 : Int32) from nI_ge (a := 24) (by omega) (by omega))]
    exact ⟨-2, σ, σ, rfl, by rw [mdl σ b2 b5, ew, decide_eq_false (by omega)]; rfl, hX⟩
  have c2 : z ≤ 24 := by omega
  rw [if_pos (show nI z ≤ (24 : Int32) from nI_le (b := 24) c2 (by omega))]
  have mdl : ∀ σ2 : am_S, fF σ2 64 s = 1 → fF σ2 66 s = nI z → f12_waits N σ2 (nI s) x2 x3 x4 = f12_waits_L84 N N (nI s) x2 x3 x4 (nI z) (nI 0) σ2 := fun σ2 y1 y2 => by
    rw [mdl σ2 y1 y2, ew, decide_eq_true (by omega), if_pos rfl]
  have sc : ∀ a k, wc_s a k → r_sc a k := fun a k x => by unfold wc_s at x; unfold r_sc; omega
  have sm : ∀ a k, wm_S a k → r_sc a k := fun a k x => by unfold wm_S at x; unfold r_sc; omega
  by_cases hv : ∃ j, j < z ∧ q_wi (fF σ 67 (40 * s + j)) 0 20 = false
  · obtain ⟨j, hj, hvj⟩ := hv
    obtain ⟨σ1, e1, g1⟩ := wc_aN (σ0 := σ) (N := N) hK hs c2 b4 hj (by rw [b6 j hj]; exact hvj) 42 0 N 0 σ (by omega) (by omega) (by omega) (q_Ag.rf σ)
    rw [show (0 : Int32) = nI 0 from rfl] at e1 ⊢
    rw [e1]
    have ns : ∀ a k, 64 ≤ a ∧ a ≤ 67 → fF σ1 a k = fF σ a k := fun a k x => (g1.2 a k (by unfold wc_s; omega)).1
    refine ⟨-2, σ1, σ1, rfl, ?_, n, m, tc, A, B, hR'.fr (g1.wk sc)⟩
    rw [mdl σ1 ((ns _ _ (by omega)).trans b2) ((ns _ _ (by omega)).trans b5)]
    exact wm_84n (σ0 := σ1) (N := N) (x2 := x2) (x3 := x3) (x4 := x4) c2 hs hj (by rw [ns _ _ (by omega)]; exact hvj) z 0 N (by omega) (by omega) (by omega)
  · have hv' : ∀ j, j < z → q_wi (fF σ 67 (40 * s + j)) 0 20 = true := fun j hj => by
      cases hq : q_wi (fF σ 67 (40 * s + j)) 0 20 with
      | true => rfl
      | false => exact absurd ⟨j, hj, hq⟩ hv
    obtain ⟨it, hit⟩ : ∃ it : Nat → Nat, ∀ j, j < z → fF σ 67 (40 * s + j) = nI (it j) ∧ it j ≤ 20 := ⟨fun j => (fF σ 67 (40 * s + j)).toInt.toNat, fun j hj => by
      have := q_wiT.mp (hv' j hj)
      exact ⟨q_nn this.1, by show (fF σ 67 (40 * s + j)).toInt.toNat ≤ 20; omega⟩⟩
    have w2 := q_wiT.mp hq2
    have w3 := q_wiT.mp hq3
    obtain ⟨t, ht, rfl, et⟩ := q_ofb (n := 10) (x := x2) (by omega) (by omega)
    obtain ⟨k, hk, rfl, ek⟩ := q_ofb (n := 15) (x := x3) (by omega) (by omega)
    have ht' : 1 ≤ t ∧ t ≤ 9 := by omega
    have hk' : 1 ≤ k ∧ k ≤ 14 := by omega
    have hSb : wt_S z it z ≤ 480 := by
      have := wt_Sb (M := z) (it := it) (c := 20) (fun m hm => (hit m hm).2) z (Nat.le_refl _)
      omega
    obtain ⟨σ1, e1, g1, f17, f18, f19⟩ := wc_aw (σ0 := σ) (N := N) (c := fF σ 19 0) (it := it) hK hs c2 b4 (fun i hi => by rw [b6 i hi]; exact hit i hi) 42 0 N σ (by omega) (by omega) (q_Ag.rf σ) (fun j hj => by omega) (fun j hj => by
      rw [show j = 0 by omega]
      show _ = fF σ 19 0 + 0
      rw [Int32.add_zero])
    obtain ⟨σ2, e2, g2⟩ := wc_pl (σ0 := σ) (N := N) (by omega) (by omega) c2 ht' hk' hSb g1 f17 f18 f19
    have ns : ∀ a k, 64 ≤ a ∧ a ≤ 67 → fF σ2 a k = fF σ a k := fun a k x => (g2.2 a k (by unfold wc_s; omega)).1
    obtain ⟨σ3, e3, g3⟩ := wm_all (σ0 := σ2) (N := N) (s := s) (x4 := x4) hN c2 ht' hk' hs (it := it) (fun i hi => by rw [ns _ _ (by omega)]; exact hit i hi)
    obtain ⟨v1, v2⟩ := wt_b2 (t := t) (k := k) (it := it) c2 ht' hSb (d := z) (r := 0) (w := 0) (Nat.le_refl _) (by omega) (by omega)
    have e1' : f0_awaits_L23 N N (28 + 2 * s) (0 : Int32) (0 : Int32) σ = some (true, σ1) := e1
    rw [e1', Option.bind_some]
    dsimp only
    rw [if_pos rfl, e2, Option.bind_some]
    dsimp only
    have p1 : f0_waitsOf (lN (wt_k (wt_V z t k it z 0 0))) = some (nI (wt_V z t k it z 0 0).1) := by
      unfold f0_waitsOf wt_k
      rw [show (16777216 : Int64) = lN 16777216 from rfl, pk_lDiv (by omega) (by omega) (by omega), lN_i, show ((wt_V z t k it z 0 0).1 * 16777216 + (wt_V z t k it z 0 0).2) / 16777216 = (wt_V z t k it z 0 0).1 by omega]
    have p2 : f0_minutesOf (lN (wt_k (wt_V z t k it z 0 0))) = some (nI (wt_V z t k it z 0 0).2) := by
      unfold f0_minutesOf wt_k
      rw [show (16777216 : Int64) = lN 16777216 from rfl, pk_lRem (by omega) (by omega) (by omega), lN_i, show ((wt_V z t k it z 0 0).1 * 16777216 + (wt_V z t k it z 0 0).2) % 16777216 = (wt_V z t k it z 0 0).2 by omega]
    rw [p1, p2, Option.bind_some, Option.bind_some]
    refine ⟨if x4 = 0 then nI (wt_V z t k it z 0 0).1 else nI (wt_V z t k it z 0 0).2, σ2, σ3, ?_, ?_, n, m, tc, A, B, (hR'.fr (g2.wk sc)).fr (g3.wk sm)⟩
    · by_cases c : x4 = 0
      · rw [if_pos c, if_pos c]
      · rw [if_neg c, if_neg c]
    · rw [mdl σ2 ((ns _ _ (by omega)).trans b2) ((ns _ _ (by omega)).trans b5)]
      rw [wm_84 (σ0 := σ2) (N := N) c2 hs (fun i hi => by rw [ns _ _ (by omega)]; exact hv' i hi) z 0 N (by omega) (by omega)]
      exact e3
