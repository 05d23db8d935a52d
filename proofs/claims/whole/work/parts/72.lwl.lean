/-! THE LAW: all steps -/
theorem lw_loop {E : am_E} {N : Nat} (hN : 9000 ≤ N) (hL : eL E ≤ 3072) : ∀ d i n' (σ : am_S), eL E ≤ i + 6 * d + 5 → i ≤ 4000 → d < n' → RX σ → ∃ σ', fL_law_L18 E N n' (nI i) σ = some (true, σ') := by
  have h200 : 200 ≤ N := by omega
  have eX : ∀ i, i ≤ 4000 → (Int32.ofNat (eL E) - (6 : Int32) < nI i ↔ eL E < i + 6) := fun i hi => by
    have h1 : (Int32.ofNat (eL E) - (6 : Int32)).toInt = (eL E : Int) - 6 := pk_sub_toInt (a := eL E) (b := 6) (by omega) (by omega)
    rw [q_lt, h1, nI_toInt (by omega)]
    omega
  intro d
  induction d with
  | zero =>
    intro i n' σ hd hi hn hX
    obtain ⟨n', rfl⟩ : ∃ m, n' = m + 1 := ⟨n' - 1, by omega⟩
    refine ⟨σ, ?_⟩
    unfold fL_law_L18
    rw [if_pos ((eX i hi).mpr (by omega))]
  | succ d ih =>
    intro i n' σ hd hi hn hX
    obtain ⟨n', rfl⟩ : ∃ m, n' = m + 1 := ⟨n' - 1, by omega⟩
    by_cases cx : eL E < i + 6
    · refine ⟨σ, ?_⟩
      unfold fL_law_L18
      rw [if_pos ((eX i hi).mpr cx)]
    have go : ∀ σ2, RX σ2 → ∃ σ', fL_law_L18 E N n' (nI i + (6 : Int32)) σ2 = some (true, σ') := fun σ2 h2 => by
      rw [show nI i + (6 : Int32) = nI (i + 6) from nI_add i 6]
      exact ih (i + 6) n' σ2 (by omega) (by omega) (by omega) h2
    have q0 : am_in (nI i) (eL E) = true := q_in (by omega) (by omega)
    have q1 : am_in (nI i + (1 : Int32)) (eL E) = true := by rw [show nI i + (1 : Int32) = nI (i + 1) from nI_add i 1]; exact q_in (by omega) (by omega)
    have q2 : am_in (nI i + (2 : Int32)) (eL E) = true := by rw [show nI i + (2 : Int32) = nI (i + 2) from nI_add i 2]; exact q_in (by omega) (by omega)
    have q3 : am_in (nI i + (3 : Int32)) (eL E) = true := by rw [show nI i + (3 : Int32) = nI (i + 3) from nI_add i 3]; exact q_in (by omega) (by omega)
    have q4 : am_in (nI i + (4 : Int32)) (eL E) = true := by rw [show nI i + (4 : Int32) = nI (i + 4) from nI_add i 4]; exact q_in (by omega) (by omega)
    have q5 : am_in (nI i + (5 : Int32)) (eL E) = true := by rw [show nI i + (5 : Int32) = nI (i + 5) from nI_add i 5]; exact q_in (by omega) (by omega)
    unfold fL_law_L18
    rw [if_neg (fun x => cx ((eX i hi).mp x)), if_pos q0]
    generalize eS E (nI i + (1 : Int32)).toNatClampNeg = a1
    generalize eS E (nI i + (2 : Int32)).toNatClampNeg = a2
    generalize eS E (nI i + (3 : Int32)).toNatClampNeg = a3
    generalize eS E (nI i + (4 : Int32)).toNatClampNeg = a4
    generalize eS E (nI i + (5 : Int32)).toNatClampNeg = a5
    generalize eS E (nI i).toNatClampNeg &&& (31 : Int32) = op
    by_cases c0 : op = (0 : Int32)
    · rw [if_pos c0, if_pos q1, if_pos q2]
      obtain ⟨v, σ1, σ2, e1, e2, hX2⟩ := m_crossing a1 a2 σ hX
      dsimp only at e1 e2
      rw [e1, Option.bind_some]
      dsimp only
      rw [if_pos q1, if_pos q2, e2, Option.bind_some]
      dsimp only
      rw [if_pos rfl]
      exact go σ2 hX2
    rw [if_neg c0]
    by_cases c1 : op = (1 : Int32)
    · rw [if_pos c1, if_pos q1, if_pos q2]
      obtain ⟨v, σ1, σ2, e1, e2, hX2⟩ := m_set a1 a2 σ hX
      dsimp only at e1 e2
      rw [e1, Option.bind_some]
      dsimp only
      rw [if_pos q1, if_pos q2, e2, Option.bind_some]
      dsimp only
      rw [if_pos rfl]
      exact go σ2 hX2
    rw [if_neg c1]
    by_cases c2 : op = (2 : Int32)
    · rw [if_pos c2, if_pos q1, if_pos q2, if_pos q3]
      obtain ⟨v, σ1, σ2, e1, e2, hX2⟩ := m_rower a1 a2 a3 σ hX
      dsimp only at e1 e2
      rw [e1, Option.bind_some]
      dsimp only
      rw [if_pos q1, if_pos q2, if_pos q3, e2, Option.bind_some]
      dsimp only
      rw [if_pos rfl]
      exact go σ2 hX2
    rw [if_neg c2]
    by_cases c3 : op = (3 : Int32)
    · rw [if_pos c3, if_pos q1, if_pos q2]
      obtain ⟨v, σ1, σ2, e1, e2, hX2⟩ := m_ill a1 a2 σ hX
      dsimp only at e1 e2
      rw [e1, Option.bind_some]
      dsimp only
      rw [if_pos q1, if_pos q2, e2, Option.bind_some]
      dsimp only
      rw [if_pos rfl]
      exact go σ2 hX2
    rw [if_neg c3]
    by_cases c4 : op = (4 : Int32)
    · rw [if_pos c4, if_pos q1, if_pos q2, if_pos q3]
      obtain ⟨v, σ1, σ2, e1, e2, hX2⟩ := m_told h200 a1 a2 a3 σ hX
      dsimp only at e1 e2
      rw [e1, Option.bind_some]
      dsimp only
      rw [if_pos q1, if_pos q2, if_pos q3, e2, Option.bind_some]
      dsimp only
      rw [if_pos rfl]
      exact go σ2 hX2
    rw [if_neg c4]
    by_cases c5 : op = (5 : Int32)
    · rw [if_pos c5, if_pos q1, if_pos q2, if_pos q3]
      obtain ⟨v, σ1, σ2, e1, e2, hX2⟩ := m_feed h200 a1 (((a2.toInt64) <<< ((32 : Int32).toInt64 &&& 63)) ||| ((a3.toInt64) &&& (4294967295 : Int64))) σ hX
      dsimp only at e1 e2
      rw [e1, Option.bind_some]
      dsimp only
      rw [if_pos q1, if_pos q2, if_pos q3, e2, Option.bind_some]
      dsimp only
      rw [if_pos rfl]
      exact go σ2 hX2
    rw [if_neg c5]
    by_cases c6 : op = (6 : Int32)
    · rw [if_pos c6]
      obtain ⟨v, σ1, σ2, e1, e2, hX2⟩ := m_text h200  σ hX
      dsimp only at e1 e2
      rw [e1, Option.bind_some]
      dsimp only
      rw [e2, Option.bind_some]
      dsimp only
      rw [if_pos rfl]
      exact go σ2 hX2
    rw [if_neg c6]
    by_cases c7 : op = (7 : Int32)
    · rw [if_pos c7, if_pos q1]
      obtain ⟨v, σ1, σ2, e1, e2, hX2⟩ := m_force a1 σ hX
      dsimp only at e1 e2
      rw [e1, Option.bind_some]
      dsimp only
      rw [if_pos q1, e2, Option.bind_some]
      dsimp only
      rw [if_pos rfl]
      exact go σ2 hX2
    rw [if_neg c7]
    by_cases c8 : op = (8 : Int32)
    · rw [if_pos c8, if_pos q1, if_pos q2, if_pos q3]
      obtain ⟨v, σ1, σ2, e1, e2, hX2⟩ := m_load h200 a1 a2 a3 σ hX
      dsimp only at e1 e2
      rw [e1, Option.bind_some]
      dsimp only
      rw [if_pos q1, if_pos q2, if_pos q3, e2, Option.bind_some]
      dsimp only
      rw [if_pos rfl]
      exact go σ2 hX2
    rw [if_neg c8]
    by_cases c9 : op = (9 : Int32)
    · rw [if_pos c9, if_pos q1, if_pos q2]
      obtain ⟨v, e1, e2⟩ := m_takes hX a1 a2
      rw [e1, Option.bind_some]
      rw [if_pos q1, if_pos q2, e2, Option.bind_some, if_pos rfl]
      exact go σ hX
    rw [if_neg c9]
    by_cases c10 : op = (10 : Int32)
    · rw [if_pos c10, if_pos q1, if_pos q2, if_pos q3, if_pos q4]
      obtain ⟨v, σ1, σ2, e1, e2, hX2⟩ := m_waits hN a1 a2 a3 a4 σ hX
      dsimp only at e1 e2
      rw [e1, Option.bind_some]
      dsimp only
      rw [if_pos q1, if_pos q2, if_pos q3, if_pos q4, e2, Option.bind_some]
      dsimp only
      rw [if_pos rfl]
      exact go σ2 hX2
    rw [if_neg c10]
    by_cases c11 : op = (11 : Int32)
    · rw [if_pos c11, if_pos q1, if_pos q2]
      obtain ⟨v, σ1, σ2, e1, e2, hX2⟩ := m_turn h200 a1 a2 σ hX
      dsimp only at e1 e2
      rw [e1, Option.bind_some]
      dsimp only
      rw [if_pos q1, if_pos q2, e2, Option.bind_some]
      dsimp only
      rw [if_pos rfl]
      exact go σ2 hX2
    rw [if_neg c11]
    by_cases c12 : op = (12 : Int32)
    · rw [if_pos c12, if_pos q1, if_pos q2]
      obtain ⟨v, σ1, σ2, e1, e2, hX2⟩ := m_rowed h200 a1 a2 σ hX
      dsimp only at e1 e2
      rw [e1, Option.bind_some]
      dsimp only
      rw [if_pos q1, if_pos q2, e2, Option.bind_some]
      dsimp only
      rw [if_pos rfl]
      exact go σ2 hX2
    rw [if_neg c12]
    by_cases c13 : op = (13 : Int32)
    · rw [if_pos c13, if_pos q1, if_pos q2]
      obtain ⟨v, σ1, σ2, e1, e2, hX2⟩ := m_judge h200 a1 a2 σ hX
      dsimp only at e1 e2
      rw [e1, Option.bind_some]
      dsimp only
      rw [if_pos q1, if_pos q2, e2, Option.bind_some]
      dsimp only
      rw [if_pos rfl]
      exact go σ2 hX2
    rw [if_neg c13]
    by_cases c14 : op = (14 : Int32)
    · rw [if_pos c14, if_pos q1, if_pos q2]
      obtain ⟨v, e1, e2⟩ := m_heir h200 hX a1 a2
      rw [e1, Option.bind_some]
      rw [if_pos q1, if_pos q2, e2, Option.bind_some, if_pos rfl]
      exact go σ hX
    rw [if_neg c14]
    by_cases c15 : op = (15 : Int32)
    · rw [if_pos c15, if_pos q1, if_pos q2]
      obtain ⟨v, e1, e2⟩ := m_open h200 hX a1 a2
      rw [e1, Option.bind_some]
      rw [if_pos q1, if_pos q2, e2, Option.bind_some, if_pos rfl]
      exact go σ hX
    rw [if_neg c15]
    by_cases c16 : op = (16 : Int32)
    · rw [if_pos c16, if_pos q1, if_pos q2]
      obtain ⟨v, σ1, σ2, e1, e2, hX2⟩ := m_path a1 a2 σ hX
      dsimp only at e1 e2
      rw [e1, Option.bind_some]
      dsimp only
      rw [if_pos q1, if_pos q2, e2, Option.bind_some]
      dsimp only
      rw [if_pos rfl]
      exact go σ2 hX2
    rw [if_neg c16]
    by_cases c17 : op = (17 : Int32)
    · rw [if_pos c17, if_pos q1]
      obtain ⟨v, σ1, σ2, e1, e2, hX2⟩ := m_foot h200 a1 σ hX
      dsimp only at e1 e2
      rw [e1, Option.bind_some]
      dsimp only
      rw [if_pos q1, e2, Option.bind_some]
      dsimp only
      rw [if_pos rfl]
      exact go σ2 hX2
    rw [if_neg c17]
    by_cases c18 : op = (18 : Int32)
    · rw [if_pos c18, if_pos q1]
      obtain ⟨v, σ1, σ2, e1, e2, hX2⟩ := m_lost h200 a1 σ hX
      dsimp only at e1 e2
      rw [e1, Option.bind_some]
      dsimp only
      rw [if_pos q1, e2, Option.bind_some]
      dsimp only
      rw [if_pos rfl]
      exact go σ2 hX2
    rw [if_neg c18]
    by_cases c19 : op = (19 : Int32)
    · rw [if_pos c19, if_pos q1, if_pos q2, if_pos q3, if_pos q4]
      obtain ⟨v, e1, e2⟩ := m_fog h200 a1 a2 a3 a4
      rw [e1, Option.bind_some]
      rw [if_pos q1, if_pos q2, if_pos q3, if_pos q4, e2, Option.bind_some, if_pos rfl]
      exact go σ hX
    rw [if_neg c19]
    by_cases c20 : op = (20 : Int32)
    · rw [if_pos c20, if_pos q1, if_pos q2, if_pos q3, if_pos q4]
      obtain ⟨v, σ1, σ2, e1, e2, hX2⟩ := m_box h200 a1 a2 a3 a4 σ hX
      dsimp only at e1 e2
      rw [e1, Option.bind_some]
      dsimp only
      rw [if_pos q1, if_pos q2, if_pos q3, if_pos q4, e2, Option.bind_some]
      dsimp only
      rw [if_pos rfl]
      exact go σ2 hX2
    rw [if_neg c20]
    by_cases c21 : op = (21 : Int32)
    · rw [if_pos c21, if_pos q1, if_pos q2, if_pos q3]
      obtain ⟨v, e1, e2⟩ := m_shares h200 hX a1 a2 a3
      rw [e1, Option.bind_some]
      rw [if_pos q1, if_pos q2, if_pos q3, e2, Option.bind_some, if_pos rfl]
      exact go σ hX
    rw [if_neg c21]
    by_cases c22 : op = (22 : Int32)
    · rw [if_pos c22, if_pos q1, if_pos q2]
      obtain ⟨v, e1, e2⟩ := m_bridge hX a1 a2
      rw [e1, Option.bind_some]
      rw [if_pos q1, if_pos q2, e2, Option.bind_some, if_pos rfl]
      exact go σ hX
    rw [if_neg c22]
    by_cases c23 : op = (23 : Int32)
    · rw [if_pos c23]
      obtain ⟨v, σ1, σ2, e1, e2, hX2⟩ := m_image h200  σ hX
      dsimp only at e1 e2
      rw [e1, Option.bind_some]
      dsimp only
      rw [e2, Option.bind_some]
      dsimp only
      rw [if_pos rfl]
      exact go σ2 hX2
    rw [if_neg c23]
    by_cases c24 : op = (24 : Int32)
    · rw [if_pos c24]
      obtain ⟨v, σ1, σ2, e1, e2, hX2⟩ := m_back h200  σ hX
      dsimp only at e1 e2
      rw [e1, Option.bind_some]
      dsimp only
      rw [e2, Option.bind_some]
      dsimp only
      rw [if_pos rfl]
      exact go σ2 hX2
    rw [if_neg c24]
    by_cases c25 : op = (25 : Int32)
    · rw [if_pos c25, if_pos q1]
      obtain ⟨v, e1, e2⟩ := m_count h200 hX a1
      rw [e1, Option.bind_some]
      rw [if_pos q1, e2, Option.bind_some, if_pos rfl]
      exact go σ hX
    rw [if_neg c25]
    by_cases c26 : op = (26 : Int32)
    · rw [if_pos c26, if_pos q1, if_pos q2, if_pos q3]
      obtain ⟨v, σ1, σ2, e1, e2, hX2⟩ := m_sheet h200 a1 a2 a3 σ hX
      dsimp only at e1 e2
      rw [e1, Option.bind_some]
      dsimp only
      rw [if_pos q1, if_pos q2, if_pos q3, e2, Option.bind_some]
      dsimp only
      rw [if_pos rfl]
      exact go σ2 hX2
    rw [if_neg c26]
    by_cases c27 : op = (27 : Int32)
    · rw [if_pos c27, if_pos q1, if_pos q2, if_pos q3]
      obtain ⟨v, σ1, σ2, e1, e2, hX2⟩ := m_cell a1 a2 a3 σ hX
      dsimp only at e1 e2
      rw [e1, Option.bind_some]
      dsimp only
      rw [if_pos q1, if_pos q2, if_pos q3, e2, Option.bind_some]
      dsimp only
      rw [if_pos rfl]
      exact go σ2 hX2
    rw [if_neg c27]
    by_cases c28 : op = (28 : Int32)
    · rw [if_pos c28, if_pos q1, if_pos q2, if_pos q3, if_pos q4, if_pos q5]
      obtain ⟨v, σ1, σ2, e1, e2, hX2⟩ := m_copy h200 a1 a2 a3 a4 a5 σ hX
      dsimp only at e1 e2
      rw [e1, Option.bind_some]
      dsimp only
      rw [if_pos q1, if_pos q2, if_pos q3, if_pos q4, if_pos q5, e2, Option.bind_some]
      dsimp only
      rw [if_pos rfl]
      exact go σ2 hX2
    rw [if_neg c28]
    by_cases c29 : op = (29 : Int32)
    · rw [if_pos c29, if_pos q1, if_pos q2, if_pos q3, if_pos q4]
      obtain ⟨v, σ1, σ2, e1, e2, hX2⟩ := m_rowers h200 a1 a2 a3 a4 σ hX
      dsimp only at e1 e2
      rw [e1, Option.bind_some]
      dsimp only
      rw [if_pos q1, if_pos q2, if_pos q3, if_pos q4, e2, Option.bind_some]
      dsimp only
      rw [if_pos rfl]
      exact go σ2 hX2
    rw [if_neg c29]
    by_cases c30 : op = (30 : Int32)
    · rw [if_pos c30, if_pos q1, if_pos q2]
      obtain ⟨v, e1, e2⟩ := m_taken h200 hX a1 a2
      rw [e1, Option.bind_some]
      rw [if_pos q1, if_pos q2, e2, Option.bind_some, if_pos rfl]
      exact go σ hX
    rw [if_neg c30]
    exact go σ hX
