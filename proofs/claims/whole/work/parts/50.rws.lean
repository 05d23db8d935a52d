/-! THE METHODS: rower, rowers -/
theorem m_row2 {c s : am_S} (h : RX (q_J c s)) (x1 x2 x3 : Int32) : ∃ v c' s', f11_rower c x1 x2 x3 = some (v, c') ∧ f12_rower s x1 x2 x3 = some (v, s') ∧ RX (q_J c' s') ∧ q_Ag (fun a j => a = 10 ∨ (a = 8 ∧ j = 5) ∨ 68 ≤ a) c c' ∧ q_Ag (fun a j => (44 ≤ a ∧ a ≤ 50) ∨ (a = 36 ∧ j = 21)) s s' ∧ s'.1 = s.1 := by
  have hX := h
  obtain ⟨n, m, tc, A, B, hR⟩ := h
  obtain ⟨hK, hC, hB, hW, hP, hS, hT, hI⟩ := hR
  have hR : RR n m tc A B (q_J c s) := ⟨hK, hC, hB, hW, hP, hS, hT, hI⟩
  have eC : ∀ x, f11_crossingAt c x = f11_crossingAt (q_J c s) x := fun x => by unfold f11_crossingAt; rw [q_JFc (by omega), q_JQc (by omega)]
  have eR : ∀ x, f11_rowerAt c x = f11_rowerAt (q_J c s) x := fun x => by unfold f11_rowerAt; rw [q_JFc (by omega), q_JQc (by omega)]
  have fC : ∀ x, f12_isCrossing s x = f12_isCrossing (q_J c s) x := fun x => by unfold f12_isCrossing; rw [q_JFm (by omega)]
  have fR : ∀ x, f12_isRower s x = f12_isRower (q_J c s) x := fun x => by unfold f12_isRower; rw [q_JFm (by omega)]
  have no : ∀ {a b : Option (Int32 × am_S)}, a = some (-2, c) → b = some (-2, s) → ∃ v c' s', a = some (v, c') ∧ b = some (v, s') ∧ RX (q_J c' s') ∧ q_Ag (fun a j => a = 10 ∨ (a = 8 ∧ j = 5) ∨ 68 ≤ a) c c' ∧ q_Ag (fun a j => (44 ≤ a ∧ a ≤ 50) ∨ (a = 36 ∧ j = 21)) s s' ∧ s'.1 = s.1 := fun ea eb => ⟨-2, c, s, ea, eb, hX, q_Ag.rf c, q_Ag.rf s, rfl⟩
  have h1 := hC.1
  have h2 := hB.1
  rw [rw_eq]
  unfold f12_rower
  rw [wt_0_5, in_0_5, Option.bind_some, Option.bind_some]
  cases hq : q_wi x1 0 5 with
  | false => exact no rfl rfl
  | true =>
  rw [if_pos rfl, if_pos rfl, wt_1400_9099, in_1400_9099, Option.bind_some, Option.bind_some]
  cases hq2 : q_wi x2 1400 9099 with
  | false => exact no rfl rfl
  | true =>
  have w1 := q_wiT.mp hq
  have w2 := q_wiT.mp hq2
  obtain ⟨k, hk, rfl, -⟩ := q_ofb (n := 6) (x := x1) (by omega) (by omega)
  obtain ⟨r, hr, rfl, er⟩ := q_ofb (n := 9100) (x := x2) (by omega) (by omega)
  rw [if_pos rfl, if_pos rfl, show nI r - nI r / 10 * 10 = nI (r % 10) from pk_rem (d := 10) (by omega) (by omega) (by omega), eC, fC]
  by_cases hcr : r % 10 < n
  · rw [r_cA_yes hC hcr, r_iC_yes hC hcr]
    simp only [Option.bind_some, Option.elim_some, reduceIte]
    by_cases c1 : x3 = -1
    · rw [if_pos c1, if_pos c1]
      exact m_rwT hR hk (by omega) hcr (Or.inl c1)
    · rw [if_neg c1, if_neg c1, eR, fR]
      rcases q_ix x3 m with hx | ⟨f, hf, rfl⟩
      · rw [r_rA_no hB hx, r_iR_no hB hx]
        exact no rfl rfl
      · rw [r_rA_yes hB hf, r_iR_yes hB hf]
        simp only [Option.bind_some, Option.elim_some, reduceIte]
        exact m_rwT hR hk (by omega) hcr (Or.inr ⟨f, hf, rfl⟩)
  · have hx : ¬ (0 ≤ (nI (r % 10)).toInt ∧ (nI (r % 10)).toInt < n) := by rw [nI_toInt (by omega)]; omega
    rw [r_cA_no hC hx, r_iC_no hC hx]
    exact no rfl rfl
/-- from two states side by side to one behind the other -/
theorem m_seq {f g : am_S → Option (Int32 × am_S)} {S T : Nat → Nat → Prop} (hS : ∀ a k, (36 ≤ a ∧ a ≤ 67) → ¬ S a k) (hT : ∀ a k, ¬ (36 ≤ a ∧ a ≤ 67) → ¬ T a k)
    {σ : am_S} (hX : RX σ) (key : ∀ s, RX (q_J σ s) → (∀ a k, (36 ≤ a ∧ a ≤ 67) → fF s a k = fF σ a k ∧ fQ s a k = fQ σ a k) → ∃ v c' s', f σ = some (v, c') ∧ g s = some (v, s') ∧ RX (q_J c' s') ∧ q_Ag S σ c' ∧ q_Ag T s s' ∧ s'.1 = s.1) : ∃ v σ1 σ2, f σ = some (v, σ1) ∧ g σ1 = some (v, σ2) ∧ RX σ2 := by
  have h0 := (q_J_id (c := σ) (m := σ) (σ := σ) rfl (fun a k _ => ⟨rfl, rfl⟩) (fun a k _ => ⟨rfl, rfl⟩)).2
  obtain ⟨v, c1, s1, e1, -, -, g1, -, -⟩ := key σ (hX.fr h0) (fun a k _ => ⟨rfl, rfl⟩)
  have hm : ∀ a k, (36 ≤ a ∧ a ≤ 67) → fF c1 a k = fF σ a k ∧ fQ c1 a k = fQ σ a k := fun a k x => g1.2 a k (hS a k x)
  have h2 := (q_J_id (c := σ) (m := c1) (σ := σ) rfl (fun a k _ => ⟨rfl, rfl⟩) (fun a k x => ⟨(hm a k x).1.symm, (hm a k x).2.symm⟩)).2
  obtain ⟨v', c2, s2, e2, e3, hX2, -, g3, k3⟩ := key c1 (hX.fr h2) hm
  rw [e1] at e2
  have e2' := Option.some.inj e2
  have ev : v = v' := congrArg Prod.fst e2'
  have ec : c1 = c2 := congrArg Prod.snd e2'
  subst ev; subst ec
  refine ⟨v, c1, s2, e1, e3, hX2.fr ?_⟩
  exact (q_J_id (c := c1) (m := s2) (σ := s2) k3 (fun a k x => g3.2 a k (hT a k x)) (fun a k _ => ⟨rfl, rfl⟩)).1
theorem m_rower (x1 x2 x3 : Int32) : m_OK (fun σ => f11_rower σ x1 x2 x3) (fun σ => f12_rower σ x1 x2 x3) := by
  intro σ h
  exact m_seq (f := fun σ => f11_rower σ x1 x2 x3) (g := fun σ => f12_rower σ x1 x2 x3) (S := fun a j => a = 10 ∨ (a = 8 ∧ j = 5) ∨ 68 ≤ a) (T := fun a j => (44 ≤ a ∧ a ≤ 50) ∨ (a = 36 ∧ j = 21)) (fun a k x => by omega) (fun a k x => by omega) h (fun s hs _ => m_row2 hs x1 x2 x3)
theorem m_rwL (N : Nat) {s z f q : Nat} (hs : s < 4) (hz : z ≤ 40) (hf : f ≤ 40) (hq : q ≤ 12) : ∀ d k n' n'' (came : Int32) (c t : am_S), k + d = q → d < n' → d < n'' → RX (q_J c t) → r_K c → fF c (28 + 2 * s) 1 = nI z → fF t 66 s = nI z → (∀ i, i < z → fF c (29 + 2 * s) i = fF t 67 (40 * s + i)) →
    ∃ v c' t', f11_rowers_L64 N n' (nI f) (nI q) (28 + 2 * s) came (nI k) c = some (v, c') ∧ f12_rowers_L75 N n'' (nI s) (nI f) (nI q) came (nI k) t = some (v, t') ∧ RX (q_J c' t') ∧ q_Ag (fun a j => a = 10 ∨ (a = 8 ∧ j = 5) ∨ 68 ≤ a) c c' ∧ q_Ag (fun a j => (44 ≤ a ∧ a ≤ 50) ∨ (a = 36 ∧ j = 21)) t t' ∧ t'.1 = t.1 := by
  intro d
  induction d with
  | zero =>
    intro k n' n'' came c t hk hn hn' hX hK e1 e2 e3
    obtain ⟨n', rfl⟩ : ∃ m, n' = m + 1 := ⟨n' - 1, by omega⟩
    obtain ⟨n'', rfl⟩ : ∃ m, n'' = m + 1 := ⟨n'' - 1, by omega⟩
    refine ⟨came, c, t, ?_, ?_, hX, q_Ag.rf c, q_Ag.rf t, rfl⟩
    · unfold f11_rowers_L64
      rw [if_pos (nI_le (by omega) (by omega))]
    · unfold f12_rowers_L75
      rw [if_pos (nI_le (by omega) (by omega))]
  | succ d ih =>
    intro k n' n'' came c t hk hn hn' hX hK e1 e2 e3
    obtain ⟨n', rfl⟩ : ∃ m, n' = m + 1 := ⟨n' - 1, by omega⟩
    obtain ⟨n'', rfl⟩ : ∃ m, n'' = m + 1 := ⟨n'' - 1, by omega⟩
    obtain ⟨k8, krq, kan⟩ := r_8 hK hs
    have ez : (nI z).toInt = (z : Int) := nI_toInt (by omega)
    have hold : ∀ p q : Nat, p < 1000 → q < 1000 → f8_holds c (28 + 2 * s) (nI p) (nI q) = some (decide (p + q ≤ z)) := fun p q hp hq => by
      rw [r_hold k8 hz e1, nI_toInt (by omega), nI_toInt (by omega)]
      congr 1
      refine decide_eq_decide.mpr ?_
      omega
    have item : ∀ p : Nat, p < z → f8_item c (28 + 2 * s) (nI p) = some (fF t 67 (40 * s + p)) := fun p hp => by
      unfold f8_item
      rw [if_pos k8, show (1 : Int32) = nI 1 from rfl, hold p 1 (by omega) (by omega), Option.bind_some, if_pos (decide_eq_true (by omega)), krq, Option.elim_some, kan, if_pos (by decide), if_pos (q_in (by omega) (by omega)), nI_clamp (by omega), e3 p hp]
    have sub1 : (nI z - nI (3 * k)).toInt = (z : Int) - (3 * k : Nat) := by rw [fb_subI (by rw [ez, nI_toInt (by omega)]; omega) (by rw [ez, nI_toInt (by omega)]; omega), ez, nI_toInt (by omega)]
    have sub2 : ((nI z - nI (3 * k)) - 3).toInt = (z : Int) - (3 * k : Nat) - 3 := by
      rw [fb_subI (by rw [sub1]; show (_ : Int) ≤ _ - 3; omega) (by rw [sub1]; show _ - (3 : Int) < _; omega), sub1]; rfl
    unfold f11_rowers_L64 f12_rowers_L75
    rw [if_neg (nI_ge (by omega) (by omega)), if_neg (nI_ge (by omega) (by omega)), if_pos k8, show (3 : Int32) * nI k = nI (3 * k) from pk_mul 3 k, nI_add, show (3 : Int32) = nI 3 from rfl, hold _ _ (by omega) (by omega), Option.bind_some, if_neg (nI_pos (by omega)), if_pos (q_in hs (by omega)), nI_clamp (by omega), e2]
    by_cases cc : f + 3 * k + 3 ≤ z
    · rw [if_pos (decide_eq_true cc), item _ (by omega), Option.bind_some, show (1 : Int32) = nI 1 from rfl, nI_add, item _ (by omega), Option.bind_some, show (2 : Int32) = nI 2 from rfl, nI_add, item _ (by omega), Option.bind_some, if_pos (q_le.mpr (by rw [show nI z - nI (3 * k) - nI 3 = (nI z - nI (3 * k)) - 3 from rfl, sub2, nI_toInt (by omega)]; omega)), show (40 : Int32) = nI 40 from rfl, pk_mul, nI_add, nI_add, nI_add, nI_add, nI_add, if_pos (q_in (by omega) (by omega)), if_pos (q_in (by omega) (by omega)), if_pos (q_in (by omega) (by omega)), nI_clamp (by omega), nI_clamp (by omega), nI_clamp (by omega), show 40 * s + f + 3 * k = 40 * s + (f + 3 * k) by omega, show 40 * s + (f + 3 * k) + 1 = 40 * s + (f + 3 * k + 1) by omega, show 40 * s + (f + 3 * k) + 2 = 40 * s + (f + 3 * k + 2) by omega]
      obtain ⟨v, c1, t1, r1, r2, r3, r4, r5, r6⟩ := m_row2 hX (fF t 67 (40 * s + (f + 3 * k))) (fF t 67 (40 * s + (f + 3 * k + 1))) (fF t 67 (40 * s + (f + 3 * k + 2)))
      rw [r1, r2, Option.bind_some, Option.bind_some]
      dsimp only
      have go : ∀ came' : Int32, ∃ v c' t', f11_rowers_L64 N n' (nI f) (nI q) (28 + 2 * s) came' (nI (k + 1)) c1 = some (v, c') ∧ f12_rowers_L75 N n'' (nI s) (nI f) (nI q) came' (nI (k + 1)) t1 = some (v, t') ∧ RX (q_J c' t') ∧ q_Ag (fun a j => a = 10 ∨ (a = 8 ∧ j = 5) ∨ 68 ≤ a) c c' ∧ q_Ag (fun a j => (44 ≤ a ∧ a ≤ 50) ∨ (a = 36 ∧ j = 21)) t t' ∧ t'.1 = t.1 := fun came' => by
        obtain ⟨v, c2, t2, u1, u2, u3, u4, u5, u6⟩ := ih (k + 1) n' n'' came' c1 t1 (by omega) (by omega) (by omega) r3 (hK.mv r4) ((r4.2 _ _ (by omega)).1.trans e1) ((r5.2 _ _ (by omega)).1.trans e2) (fun i hi => by rw [(r4.2 _ _ (by omega)).1, (r5.2 _ _ (by omega)).1]; exact e3 i hi)
        exact ⟨v, c2, t2, u1, u2, u3, r4.tr u4, r5.tr u5, u6.trans r6⟩
      by_cases cv : v < 0
      · rw [if_pos cv, if_pos cv]; exact go _
      · rw [if_neg cv, if_neg cv]; exact go _
    · rw [if_neg (by rw [decide_eq_true_eq]; exact cc), if_neg (fun y => by
        have := q_le.mp y
        rw [show nI z - nI (3 * k) - nI 3 = (nI z - nI (3 * k)) - 3 from rfl, sub2, nI_toInt (by omega)] at this
        omega)]
      exact ⟨-12, c, t, rfl, rfl, hX, q_Ag.rf c, q_Ag.rf t, rfl⟩
theorem m_rowers {N : Nat} (hN : 200 ≤ N) (x1 x2 x3 x4 : Int32) : m_OK (fun σ => f11_rowers N σ x1 x2 x3 x4) (fun σ => f12_rowers N σ x1 x2 x3 x4) := by
  intro σ h
  have hX := h
  obtain ⟨n, m, tc, A, B, hK, hC, hB, hW, hP, hS, hT, hI⟩ := h
  dsimp only
  unfold f11_rowers
  rcases q_ix x1 4 with hx | ⟨s, hs, rfl⟩
  · rw [r_sA_no hx]
    refine ⟨-2, σ, σ, rfl, ?_, hX⟩
    unfold f12_rowers
    rw [r_iS_no hx]; rfl
  obtain ⟨k8, krq, kan⟩ := r_8 hK hs
  obtain ⟨a1, a2⟩ := hS s hs
  rw [r_sA_yes hS hs]
  simp only [Option.bind_some, Option.elim_some, wt_0_2]
  cases hq : q_wi x2 0 2 with
  | false =>
    refine ⟨-2, σ, σ, rfl, ?_, hX⟩
    unfold f12_rowers
    rw [r_iS_yes hs, Option.bind_some, if_pos rfl, in_0_2, hq]; rfl
  | true =>
  rw [if_pos rfl, wt_0_12, Option.bind_some]
  cases hq2 : q_wi x4 0 12 with
  | false =>
    refine ⟨-2, σ, σ, rfl, ?_, hX⟩
    unfold f12_rowers
    rw [r_iS_yes hs, Option.bind_some, if_pos rfl, in_0_2, hq, Option.bind_some, if_pos rfl, in_0_12, hq2]; rfl
  | true =>
  rw [if_pos rfl, if_pos k8, r_mis k8, Option.bind_some]
  have hm : ∀ σ2 : am_S, f12_rowers N σ2 (nI s) x2 x3 x4 = if fF σ2 64 s = 0 then some (-11, σ2) else if fF σ2 65 s = x2 then f12_rowers_L75 N N (nI s) x3 x4 0 0 σ2 else some (-13, σ2) := fun σ2 => by
    unfold f12_rowers
    rw [r_iS_yes hs, Option.bind_some, if_pos rfl, in_0_2, hq, Option.bind_some, if_pos rfl, in_0_12, hq2, Option.bind_some, if_pos rfl, if_pos (q_in hs (by omega)), nI_clamp (by omega)]
    by_cases c : fF σ2 64 s = 0
    · rw [if_pos c, if_pos (q_in hs (by omega)), if_pos c, if_pos c]
    · rw [if_neg c, if_pos (q_in hs (by omega))]
      by_cases c2 : fF σ2 65 s = x2
      · rw [if_pos c2, if_pos (q_in hs (by omega)), if_neg c, if_neg c, if_pos c2]
      · rw [if_neg c2, if_neg c, if_neg c2]
  rcases a2 with ⟨b1, b2⟩ | ⟨k, z, k1, k2, b1, b2, b3, b4, b5, b6⟩
  · rw [if_pos (decide_eq_true b1)]
    refine ⟨-11, σ, σ, rfl, ?_, hX⟩
    rw [hm, if_pos b2]
  rw [if_neg (by rw [decide_eq_true_eq, b1]; exact nI_m1 (by omega)), b1]
  by_cases cs : nI k = x2
  · rw [if_pos cs]
    have w2 := q_wiT.mp hq2
    obtain ⟨q, hq3, rfl, -⟩ := q_ofb (n := 13) (x := x4) (by omega) (by omega)
    have hm' : ∀ σ2 : am_S, (fF σ2 64 s = fF σ 64 s) → (fF σ2 65 s = fF σ 65 s) → f12_rowers N σ2 (nI s) x2 x3 (nI q) = f12_rowers_L75 N N (nI s) x3 (nI q) 0 0 σ2 := fun σ2 h1 h2 => by
      rw [hm, h1, if_neg (by rw [b2]; decide), h2, b3, if_pos cs]
    by_cases cf : 0 ≤ x3.toInt ∧ x3.toInt < (41 : Nat)
    · obtain ⟨f, hf, rfl, -⟩ := q_ofb (n := 41) (x := x3) cf.1 cf.2
      refine m_seq (f := fun σ => f11_rowers_L64 N N (nI f) (nI q) (28 + 2 * s) 0 0 σ) (g := fun σ => f12_rowers N σ (nI s) x2 (nI f) (nI q)) (S := fun a j => a = 10 ∨ (a = 8 ∧ j = 5) ∨ 68 ≤ a) (T := fun a j => (44 ≤ a ∧ a ≤ 50) ∨ (a = 36 ∧ j = 21)) (fun a k x => by omega) (fun a k x => by omega) hX (fun t ht hsame => ?_)
      rw [hm' t (hsame 64 s (by omega)).1 (hsame 65 s (by omega)).1, show (0 : Int32) = nI 0 from rfl]
      exact m_rwL N hs k2 (by omega) (by omega) q 0 N N _ σ t (by omega) (by omega) (by omega) ht hK b4 ((hsame 66 s (by omega)).1.trans b5) (fun i hi => by rw [(hsame 67 _ (by omega)).1]; exact b6 i hi)
    · obtain ⟨N', rfl⟩ : ∃ m, N = m + 1 := ⟨N - 1, by omega⟩
      by_cases c0 : q = 0
      · subst c0
        refine ⟨0, σ, σ, ?_, ?_, hX⟩
        · unfold f11_rowers_L64
          rw [if_pos (by decide)]
        · rw [hm' σ rfl rfl]
          unfold f12_rowers_L75
          rw [if_pos (by decide)]
      · refine ⟨-12, σ, σ, ?_, ?_, hX⟩
        · unfold f11_rowers_L64
          rw [show (0 : Int32) = nI 0 from rfl, if_neg (nI_ge (by omega) (by omega)), if_pos k8, show (3 : Int32) * nI 0 = 0 by decide, Int32.add_zero, r_hold k8 k2 b4, Option.bind_some, if_neg (by rw [decide_eq_true_eq, show (3 : Int32).toInt = 3 from rfl]; omega)]
        · rw [hm' σ rfl rfl]
          unfold f12_rowers_L75
          rw [show (0 : Int32) = nI 0 from rfl, if_neg (nI_ge (by omega) (by omega))]
          by_cases cn : x3.toInt < 0
          · rw [if_pos (q_lt.mpr cn)]
          · rw [if_neg (fun y => cn (q_lt.mp y)), if_pos (q_in hs (by omega)), nI_clamp (by omega), b5, show (3 : Int32) * nI 0 = nI 0 by decide, pk_sub (by omega), Nat.sub_zero]
            have ez : (nI z).toInt = (z : Int) := nI_toInt (by omega)
            have sub : (nI z - 3).toInt = (z : Int) - 3 := by rw [fb_subI (by rw [ez]; show (_ : Int) ≤ _ - 3; omega) (by rw [ez]; show _ - (3 : Int) < _; omega), ez]; rfl
            rw [if_neg (fun y => by have := q_le.mp y; rw [sub] at this; omega)]
  · rw [if_neg cs]
    refine ⟨-13, σ, σ, rfl, ?_, hX⟩
    rw [hm, if_neg (by rw [b2]; decide), b3, if_neg cs]
