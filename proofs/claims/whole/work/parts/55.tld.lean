/-! THE METHODS: told, load -/
theorem q_bp {α β : Type} (x : Option (α × β)) : (x.bind fun (v, s) => some (v, s)) = x := by cases x <;> rfl
theorem m_told {N : Nat} (hN : 200 ≤ N) (x1 x2 x3 : Int32) : m_OK (fun σ => f11_told N σ x1 x2 x3) (fun σ => f12_told N σ x1 x2 x3) := by
  intro σ h
  have hX := h
  obtain ⟨n, m, tc, A, B, hR⟩ := h
  obtain ⟨hK, hC, hB, hW, hP, hS, hT, hI⟩ := hR
  have h1 := hB.1
  dsimp only
  unfold f11_told
  rcases q_ix x1 m with hx | ⟨i, hi, rfl⟩
  · rw [r_rA_no hB hx]
    refine ⟨-1000000, σ, σ, rfl, ?_, hX⟩
    unfold f12_told
    rw [r_iR_no hB hx]; rfl
  rw [r_rA_yes hB hi]
  simp only [Option.bind_some, Option.elim_some, q_h1]
  have hm : ∀ σ2 : am_S, fF σ2 36 21 = nI m → f12_told N σ2 (nI i) x2 x3 = (if q_wi x2 0 23 = true then (if x3 = (0 : Int32) then (some (fF σ2 44 i, σ2)) else (if x3 = (1 : Int32) then (some (fF σ2 45 i, σ2)) else (if x3 = (2 : Int32) then (some (fF σ2 46 i, σ2)) else (if x3 = (3 : Int32) then (some (fF σ2 47 i, σ2)) else (if x3 = (4 : Int32) then (some (fF σ2 48 i, σ2)) else (if x3 = (5 : Int32) then (some (fF σ2 49 i, σ2)) else (if x3 = (6 : Int32) then (some (fF σ2 50 i, σ2)) else (if x3 = (7 : Int32) then ((f12_paceOf σ2 (nI i)).bind fun v24 => (some (v24, σ2))) else (if x3 = (8 : Int32) then ((f12_may σ2 (nI i) x2).bind fun v28 => (if v28 = true then (some ((1 : Int32), σ2)) else (some ((0 : Int32), σ2)))) else (if x3 = (9 : Int32) then ((f12_partsOf σ2 (nI i)).bind fun v33 => (some (v33, σ2))) else (if x3 = (10 : Int32) then (f12_dueOf N σ2 (nI i) x2) else (some ((-1000000 : Int32), σ2))))))))))))) else (some ((-1000000 : Int32), σ2))) := fun σ2 e => by
    unfold f12_told
    rw [r_iR0_yes h1 e hi, Option.bind_some, if_pos rfl, q_h2, Option.bind_some]
    simp only [q_bp, q_in (show i < 14 by omega) (show i < 2 ^ 31 by omega), nI_clamp (show i < 2 ^ 31 by omega), reduceIte]
  cases hq : q_wi x2 0 23 with
  | false =>
    refine ⟨-1000000, σ, σ, rfl, ?_, hX⟩
    rw [hm σ hB.2.2.1, hq]; rfl
  | true =>
  have hw := q_wiT.mp hq
  obtain ⟨u, hu, rfl, -⟩ := q_ofb (n := 24) (x := x2) (by omega) (by omega)
  rw [if_pos rfl]
  simp only [if_pos (r_7 hB hi), q_bp]
  have hmm := hm σ hB.2.2.1
  rw [hq, if_pos rfl] at hmm
  obtain ⟨-, e3, -⟩ := hB.2.2.2 i hi
  have same : ∀ v : Int32, f12_told N σ (nI i) (nI u) x3 = some (v, σ) → ∃ v' σ1 σ2, some (v, σ) = some (v', σ1) ∧ f12_told N σ1 (nI i) (nI u) x3 = some (v', σ2) ∧ RX σ2 := fun v e => ⟨v, σ, σ, rfl, e, hX⟩
  by_cases c0 : x3 = 0
  · rw [if_pos c0] at hmm ⊢
    exact same _ (by rw [hmm, e3 0 (by omega)])
  rw [if_neg c0] at hmm ⊢
  by_cases c1 : x3 = 1
  · rw [if_pos c1] at hmm ⊢
    exact same _ (by rw [hmm, e3 1 (by omega)])
  rw [if_neg c1] at hmm ⊢
  by_cases c2 : x3 = 2
  · rw [if_pos c2] at hmm ⊢
    exact same _ (by rw [hmm, e3 2 (by omega)])
  rw [if_neg c2] at hmm ⊢
  by_cases c3 : x3 = 3
  · rw [if_pos c3] at hmm ⊢
    exact same _ (by rw [hmm, e3 3 (by omega)])
  rw [if_neg c3] at hmm ⊢
  by_cases c4 : x3 = 4
  · rw [if_pos c4] at hmm ⊢
    exact same _ (by rw [hmm, e3 4 (by omega)])
  rw [if_neg c4] at hmm ⊢
  by_cases c5 : x3 = 5
  · rw [if_pos c5] at hmm ⊢
    exact same _ (by rw [hmm, e3 5 (by omega)])
  rw [if_neg c5] at hmm ⊢
  by_cases c6 : x3 = 6
  · rw [if_pos c6] at hmm ⊢
    exact same _ (by rw [hmm, e3 6 (by omega)])
  rw [if_neg c6] at hmm ⊢
  by_cases c7 : x3 = 7
  · obtain ⟨p, -, -, p3, p4⟩ := m_pace hB hi
    rw [if_pos c7] at hmm ⊢
    rw [p3, Option.bind_some]
    exact same _ (by rw [hmm, p4]; rfl)
  rw [if_neg c7] at hmm ⊢
  by_cases c8 : x3 = 8
  · obtain ⟨b, p3, p4⟩ := m_may hB hi hu
    rw [if_pos c8] at hmm ⊢
    rw [p3, Option.bind_some]
    rw [p4, Option.bind_some] at hmm
    cases b with
    | true => exact same 1 hmm
    | false => exact same 0 hmm
  rw [if_neg c8] at hmm ⊢
  by_cases c9 : x3 = 9
  · obtain ⟨p, -, -, p3, p4⟩ := m_parts hB hi
    rw [if_pos c9] at hmm ⊢
    rw [p3, Option.bind_some]
    exact same _ (by rw [hmm, p4]; rfl)
  rw [if_neg c9] at hmm ⊢
  by_cases c10 : x3 = 10
  · rw [if_pos c10] at hmm ⊢
    obtain ⟨V, hV⟩ := hT.rule
    obtain ⟨σ1, r1, g1⟩ := r_by hN hV hW (k := 2) (by decide) 0 (fF σ (B i) 1) (nI u) (fF σ (B i) 6)
    rw [show (8 : Int32) = nI (6 + 2) from rfl, r1]
    have hX1 := hX.fr g1
    obtain ⟨σ2, r2, g2⟩ := r_du hN (hV.fr g1) (i := i) (by omega) (nI u)
    refine ⟨_, σ1, σ2, rfl, ?_, hX1.fr g2⟩
    rw [hm σ1 ((g1.2 36 21 (by unfold r_sc; omega)).1.trans hB.2.2.1), hq, if_pos rfl, if_neg c0, if_neg c1, if_neg c2, if_neg c3, if_neg c4, if_neg c5, if_neg c6, if_neg c7, if_neg c8, if_neg c9, if_pos c10, r2, r_v.fr g1, (g1.2 45 i (by unfold r_sc; omega)).1, (g1.2 50 i (by unfold r_sc; omega)).1, e3 1 (by omega), e3 6 (by omega)]
  rw [if_neg c10] at hmm ⊢
  exact same _ hmm
theorem m_load {N : Nat} (hN : 200 ≤ N) (x1 x2 x3 : Int32) : m_OK (fun σ => f11_load N σ x1 x2 x3) (fun σ => f12_load N σ x1 x2 x3) := by
  intro σ h
  have hX := h
  obtain ⟨n, m, tc, A, B, hR⟩ := h
  obtain ⟨hK, hC, hB, hW, hP, hS, hT, hI⟩ := hR
  have h1 := hB.1
  dsimp only
  obtain ⟨V, hV⟩ := hT.rule
  have r114 : (1 : Int32).toInt ≤ (14 : Int32).toInt := by decide
  -- what is said at last, on both sides
  have fin : ∀ (h3 : Int32), ∃ v σ1, ((f11_byRule N σ (6 : Int32) x1 h3 x3 (0 : Int32)).bind fun (v20, s21) => (some ((if (1 : Int32) < (if v20 < (14 : Int32) then v20 else (14 : Int32)) then (if v20 < (14 : Int32) then v20 else (14 : Int32)) else (1 : Int32)), s21))) = some (v, σ1) ∧ q_Ag r_sc σ σ1 ∧ ∃ σ2, ((f12_read N σ1 (fF σ1 36 4) x1 h3 x3 (0 : Int32) (0 : Int32)).bind fun (v11, s12) => ((f12_within v11 (1 : Int32) (14 : Int32)).bind fun v14 => (some (v14, s12)))) = some (v, σ2) ∧ RX σ2 := by
    intro h3
    obtain ⟨σ1, e1, g1⟩ := r_by hN hV hW (k := 0) (by decide) x1 h3 x3 0
    obtain ⟨σ2, e2, g2⟩ := r_rd hN (hV.fr g1) (k := 0) (by decide) x1 h3 x3 0
    rw [show (6 : Int32) = nI (6 + 0) from rfl, e1, Option.bind_some]
    dsimp only
    rw [r_cl1 _ _ _ r114]
    refine ⟨_, σ1, rfl, g1, σ2, ?_, (hX.fr g1).fr g2⟩
    rw [show (f12_read N σ1 (fF σ1 36 4) x1 h3 x3 0 0) = f12_read N σ1 (fF σ1 36 4) x1 h3 x3 0 (nI 0) from rfl, e2, Option.bind_some]
    dsimp only
    rw [r_cl2, r_v.fr g1]; rfl
  have bad : ∀ {a : Option (Int32 × am_S)}, a = some (-2, σ) → f12_load N σ x1 x2 x3 = some (-2, σ) → ∃ v σ1 σ2, a = some (v, σ1) ∧ f12_load N σ1 x1 x2 x3 = some (v, σ2) ∧ RX σ2 := fun ea eb => ⟨-2, σ, σ, ea, eb, hX⟩
  by_cases c : x2 = -1
  · subst c
    have o1 : f11_oneOf σ (-1) = some none := by unfold f11_oneOf; rw [if_neg (by decide)]
    have o2 : f11_otherOf σ (-1) = some none := by unfold f11_otherOf; rw [if_neg (by decide)]
    unfold f11_load
    rw [if_pos rfl, o1, Option.bind_some, Option.elim_none, o2, Option.bind_some, Option.elim_none, wt_0_999, Option.bind_some]
    have hm : ∀ σ2, f12_load N σ2 x1 (-1) x3 = if q_wi x1 0 999 = true then (if q_wi x3 0 23 = true then ((f12_read N σ2 (fF σ2 36 4) x1 (0 : Int32) x3 (0 : Int32) (0 : Int32)).bind fun (v11, s12) => ((f12_within v11 (1 : Int32) (14 : Int32)).bind fun v14 => (some (v14, s12)))) else some (-2, σ2)) else some (-2, σ2) := fun σ2 => by
      unfold f12_load
      rw [in_0_999, Option.bind_some, if_pos rfl]
      unfold f12_load_J25
      rw [q_h2, Option.bind_some, if_pos rfl]
    cases hq : q_wi x1 0 999 with
    | false => exact bad rfl (by rw [hm, hq]; rfl)
    | true =>
      rw [if_pos rfl]
      unfold f11_load_J52n5n6
      rw [q_h1, Option.bind_some]
      cases hq2 : q_wi x3 0 23 with
      | false => exact bad rfl (by rw [hm, hq, hq2]; rfl)
      | true =>
        rw [if_pos rfl]
        obtain ⟨v, σ1, e1, g1, σ2, e2, hX2⟩ := fin 0
        exact ⟨v, σ1, σ2, e1, by rw [hm, hq, hq2, if_pos rfl, if_pos rfl]; exact e2, hX2⟩
  · unfold f11_load
    rw [if_neg c]
    rcases r_12 hB x2 with ⟨hx, e3⟩ | ⟨i, j, hi, hj, e1, e2, e3, e4, e5, -, -⟩
    · obtain ⟨o, o', e1, e2⟩ := r_1t hB x2
      rw [e1, e2] at hx ⊢
      refine bad ?_ ?_
      · simp only [Option.bind_some, wt_0_999]
        rcases hx with hx | hx
        · have : o = none := Option.some.inj hx
          subst this
          cases o' <;> simp
        · have : o' = none := Option.some.inj hx
          subst this
          cases o <;> simp
      · unfold f12_load
        rw [in_0_999, Option.bind_some, e3, Option.bind_some, if_neg c]
        cases q_wi x1 0 999 <;> rfl
    · rw [e1, Option.bind_some, Option.elim_some, e2, Option.bind_some, Option.elim_some, wt_0_999, Option.bind_some]
      have hm : ∀ σ2, fF σ2 36 21 = nI m → f12_load N σ2 x1 x2 x3 = if q_wi x1 0 999 = true then (if q_wi x3 0 23 = true then ((f12_read N σ2 (fF σ2 36 4) x1 (if fF σ2 45 i ≤ fF σ2 45 j then fF σ2 45 j else fF σ2 45 i) x3 (0 : Int32) (0 : Int32)).bind fun (v11, s12) => ((f12_within v11 (1 : Int32) (14 : Int32)).bind fun v14 => (some (v14, s12)))) else some (-2, σ2)) else some (-2, σ2) := fun σ2 em => by
        have e3' : f12_areTwo σ2 x2 = some true := by
          rw [← e3]
          unfold f12_areTwo f12_isRower
          rw [em, hB.2.2.1]
        unfold f12_load
        rw [in_0_999, Option.bind_some, if_neg c, e3', Option.bind_some, if_pos rfl]
        unfold f12_load_J25
        rw [q_h2, Option.bind_some, if_neg c, e5, e4, if_pos (q_in (by omega) (by omega)), if_pos (q_in (by omega) (by omega)), nI_clamp (by omega), nI_clamp (by omega)]
        by_cases d : fF σ2 45 i ≤ fF σ2 45 j
        · rw [if_pos d, if_pos d, if_pos (q_in (by omega) (by omega))]
        · rw [if_neg d, if_neg d, if_pos (q_in (by omega) (by omega))]
      cases hq : q_wi x1 0 999 with
      | false => exact bad rfl (by rw [hm σ hB.2.2.1, hq]; rfl)
      | true =>
        rw [if_pos rfl]
        unfold f11_load_J52
        rw [q_h1, Option.bind_some]
        cases hq2 : q_wi x3 0 23 with
        | false => exact bad rfl (by rw [hm σ hB.2.2.1, hq, hq2]; rfl)
        | true =>
          rw [if_pos rfl, if_pos (r_7 hB hi), if_pos (r_7 hB hj), (hB.2.2.2 i hi).2.1 1 (by omega), (hB.2.2.2 j hj).2.1 1 (by omega)]
          obtain ⟨v, σ1, e1, g1, σ2, e2, hX2⟩ := fin (if fF σ 45 i < fF σ 45 j then fF σ 45 j else fF σ 45 i)
          refine ⟨v, σ1, σ2, e1, ?_, hX2⟩
          have eage : (if fF σ 45 i ≤ fF σ 45 j then fF σ 45 j else fF σ 45 i) = (if fF σ 45 i < fF σ 45 j then fF σ 45 j else fF σ 45 i) := by
            simp only [q_le, q_lt]
            by_cases d : (fF σ 45 i).toInt < (fF σ 45 j).toInt
            · rw [if_pos d, if_pos (by omega)]
            · rw [if_neg d]
              by_cases d2 : (fF σ 45 i).toInt ≤ (fF σ 45 j).toInt
              · rw [if_pos d2]; exact i_ext (by omega)
              · rw [if_neg d2]
          rw [hm σ1 ((g1.2 36 21 (by unfold r_sc; omega)).1.trans hB.2.2.1), hq, hq2, if_pos rfl, if_pos rfl, (g1.2 45 i (by unfold r_sc; omega)).1, (g1.2 45 j (by unfold r_sc; omega)).1, eage]
          exact e2
