/-! THE METHODS: bridge, count, taken, takes -/
theorem m_bridge {σ : am_S} (h : RX σ) (x1 x2 : Int32) : ∃ v, f11_bridge σ x1 x2 = some v ∧ f12_bridge σ x1 x2 = some v := by
  obtain ⟨n, m, tc, A, B, hK, hC, hB, hW, hP, hS, hT, hI⟩ := h
  have h1 := hC.1
  unfold f11_bridge f12_bridge
  rcases q_ix x1 n with hx | ⟨i, hi, rfl⟩
  · rw [r_cA_no hC hx, r_iC_no hC hx]; exact ⟨-2, rfl, rfl⟩
  · rw [r_cA_yes hC hi, r_iC_yes hC hi]
    simp only [Option.bind_some, Option.elim_some, reduceIte, wt_0_100, in_0_100]
    cases q_wi x2 0 100 with
    | false => exact ⟨-2, rfl, rfl⟩
    | true =>
      rw [if_pos rfl, if_pos rfl, if_pos (r_1 hC hi), if_pos (q_in (by omega) (by omega)), nI_clamp (by omega), (hC.2.2.2 i hi).2.1.2.2.2]
      exact ⟨_, rfl, rfl⟩
section CNT
variable {n m tc : Nat} {A B : Nat → Nat} {σ : am_S}
theorem m_c60 {N : Nat} (hC : r_C n A σ) : ∀ d i n' n'' acc, i + d = n → d < n' → d < n'' → ∃ v, f11_openOnes_L4 σ N n' acc (nI i) = some v ∧ f12_count_L60 σ N n'' acc (nI i) = some v := by
  have h1 := hC.1
  intro d
  induction d with
  | zero =>
    intro i n' n'' acc hi hn hn'
    obtain ⟨n', rfl⟩ : ∃ m, n' = m + 1 := ⟨n' - 1, by omega⟩
    obtain ⟨n'', rfl⟩ : ∃ m, n'' = m + 1 := ⟨n'' - 1, by omega⟩
    unfold f11_openOnes_L4 f12_count_L60
    rw [hC.2.1, hC.2.2.1, if_pos (nI_le (by omega) (by omega)), if_pos (nI_le (by omega) (by omega))]
    exact ⟨acc, rfl, rfl⟩
  | succ d ih =>
    intro i n' n'' acc hi hn hn'
    obtain ⟨n', rfl⟩ : ∃ m, n' = m + 1 := ⟨n' - 1, by omega⟩
    obtain ⟨n'', rfl⟩ : ∃ m, n'' = m + 1 := ⟨n'' - 1, by omega⟩
    have hin : i < n := by omega
    unfold f11_openOnes_L4 f12_count_L60
    rw [hC.2.1, hC.2.2.1, if_neg (nI_ge hin (by omega)), if_neg (nI_ge hin (by omega)), if_pos (q_in (by omega) (by omega)), nI_clamp (by omega), (hC.2.2.2 i hin).1.2.1, if_pos (q_in (by omega) (by omega)), Option.elim_some, if_pos (r_1 hC hin), nI_1, (hC.2.2.2 i hin).2.1.2.2.1]
    exact ih (i + 1) n' n'' _ (by omega) (by omega) (by omega)
theorem m_c87 {N : Nat} (hB : r_B n m B σ) : ∀ d i n' n'' acc, i + d = m → d < n' → d < n'' → ∃ v, f11_illOnes_L4 σ N n' acc (nI i) = some v ∧ f12_count_L87 σ N n'' acc (nI i) = some v := by
  have h1 := hB.1
  intro d
  induction d with
  | zero =>
    intro i n' n'' acc hi hn hn'
    obtain ⟨n', rfl⟩ : ∃ m, n' = m + 1 := ⟨n' - 1, by omega⟩
    obtain ⟨n'', rfl⟩ : ∃ m, n'' = m + 1 := ⟨n'' - 1, by omega⟩
    unfold f11_illOnes_L4 f12_count_L87
    rw [hB.2.1, hB.2.2.1, if_pos (nI_le (by omega) (by omega)), if_pos (nI_le (by omega) (by omega))]
    exact ⟨acc, rfl, rfl⟩
  | succ d ih =>
    intro i n' n'' acc hi hn hn'
    obtain ⟨n', rfl⟩ : ∃ m, n' = m + 1 := ⟨n' - 1, by omega⟩
    obtain ⟨n'', rfl⟩ : ∃ m, n'' = m + 1 := ⟨n'' - 1, by omega⟩
    have hin : i < m := by omega
    unfold f11_illOnes_L4 f12_count_L87
    rw [hB.2.1, hB.2.2.1, if_neg (nI_ge hin (by omega)), if_neg (nI_ge hin (by omega)), if_pos (q_in (by omega) (by omega)), nI_clamp (by omega), (hB.2.2.2 i hin).1.2.1, if_pos (q_in (by omega) (by omega)), Option.elim_some, if_pos (r_7 hB hin), nI_1, (hB.2.2.2 i hin).2.1 5 (by omega)]
    exact ih (i + 1) n' n'' _ (by omega) (by omega) (by omega)
theorem m_c114 {N : Nat} (hB : r_B n m B σ) : ∀ d i n' n'' acc, i + d = m → d < n' → d < n'' → ∃ v, f11_turnsInAll_L4 σ N n' acc (nI i) = some v ∧ f12_count_L114 σ N n'' acc (nI i) = some v := by
  have h1 := hB.1
  intro d
  induction d with
  | zero =>
    intro i n' n'' acc hi hn hn'
    obtain ⟨n', rfl⟩ : ∃ m, n' = m + 1 := ⟨n' - 1, by omega⟩
    obtain ⟨n'', rfl⟩ : ∃ m, n'' = m + 1 := ⟨n'' - 1, by omega⟩
    unfold f11_turnsInAll_L4 f12_count_L114
    rw [hB.2.1, hB.2.2.1, if_pos (nI_le (by omega) (by omega)), if_pos (nI_le (by omega) (by omega))]
    exact ⟨acc, rfl, rfl⟩
  | succ d ih =>
    intro i n' n'' acc hi hn hn'
    obtain ⟨n', rfl⟩ : ∃ m, n' = m + 1 := ⟨n' - 1, by omega⟩
    obtain ⟨n'', rfl⟩ : ∃ m, n'' = m + 1 := ⟨n'' - 1, by omega⟩
    have hin : i < m := by omega
    unfold f11_turnsInAll_L4 f12_count_L114
    rw [hB.2.1, hB.2.2.1, if_neg (nI_ge hin (by omega)), if_neg (nI_ge hin (by omega)), if_pos (q_in (by omega) (by omega)), nI_clamp (by omega), (hB.2.2.2 i hin).1.2.1, if_pos (q_in (by omega) (by omega)), Option.elim_some, if_pos (r_7 hB hin), nI_1, (hB.2.2.2 i hin).2.1 6 (by omega)]
    exact ih (i + 1) n' n'' _ (by omega) (by omega) (by omega)
end CNT
theorem m_count {N : Nat} (hN : 200 ≤ N) {σ : am_S} (h : RX σ) (x1 : Int32) : ∃ v, f11_count N σ x1 = some v ∧ f12_count N σ x1 = some v := by
  obtain ⟨n, m, tc, A, B, hK, hC, hB, hW, hP, hS, hT, hI⟩ := h
  have h1 := hC.1
  have h2 := hB.1
  unfold f11_count f12_count
  simp only [tx_bsm]
  by_cases c0 : x1 = 0
  · rw [if_pos c0, if_pos c0, hC.2.1, hC.2.2.1]; exact ⟨_, rfl, rfl⟩
  rw [if_neg c0, if_neg c0]
  by_cases c1 : x1 = 1
  · rw [if_pos c1, if_pos c1, hB.2.1, hB.2.2.1]; exact ⟨_, rfl, rfl⟩
  rw [if_neg c1, if_neg c1]
  by_cases c2 : x1 = 2
  · rw [if_pos c2, if_pos c2]
    exact m_c60 hC n 0 N N 0 (by omega) (by omega) (by omega)
  rw [if_neg c2, if_neg c2]
  by_cases c3 : x1 = 3
  · rw [if_pos c3, if_pos c3]
    exact m_c87 hB m 0 N N 0 (by omega) (by omega) (by omega)
  rw [if_neg c3, if_neg c3]
  by_cases c4 : x1 = 4
  · rw [if_pos c4, if_pos c4]
    exact m_c114 hB m 0 N N 0 (by omega) (by omega) (by omega)
  rw [if_neg c4, if_neg c4]
  obtain ⟨t1, t2, t3, ⟨r, t4, t5, t6⟩, ⟨k, t7, t8, t9, -⟩, -⟩ := hT
  by_cases c5 : x1 = 5
  · rw [if_pos c5, if_pos c5, t2, t3]; exact ⟨_, rfl, rfl⟩
  rw [if_neg c5, if_neg c5]
  by_cases c6 : x1 = 6
  · rw [if_pos c6, if_pos c6, t8, t9]; exact ⟨_, rfl, rfl⟩
  rw [if_neg c6, if_neg c6]
  by_cases c7 : x1 = 7
  · rw [if_pos c7, if_pos c7, t5, t6]; exact ⟨_, rfl, rfl⟩
  rw [if_neg c7, if_neg c7]
  exact ⟨_, rfl, rfl⟩
-- kinds under one another
def r_un (k q : Nat) : Bool := q == 0 || k == q || (k == 3 && q == 1) || (k == 5 && q == 2)
theorem m_tk {N n' k q : Nat} {σ : am_S} {x1 : Int32} (hk : k < 6) (hq : q < 6) : f12_taken_L33 σ N (n' + 5) x1 (nI q) (nI k) = f12_taken_J51 σ N x1 (nI q) (if r_un k q = true then nI q else -1) := by
  have hv : k = 0 ∨ k = 1 ∨ k = 2 ∨ k = 3 ∨ k = 4 ∨ k = 5 := by omega
  have hw : q = 0 ∨ q = 1 ∨ q = 2 ∨ q = 3 ∨ q = 4 ∨ q = 5 := by omega
  rcases hv with rfl | rfl | rfl | rfl | rfl | rfl <;> rcases hw with rfl | rfl | rfl | rfl | rfl | rfl <;> rfl
theorem m_taken {N : Nat} (hN : 200 ≤ N) {σ : am_S} (h : RX σ) (x1 x2 : Int32) : ∃ v, f11_taken σ x1 x2 = some v ∧ f12_taken N σ x1 x2 = some v := by
  obtain ⟨n, m, tc, A, B, hK, hC, hB, hW, hP, hS, hT, hI⟩ := h
  have h1 := hB.1
  unfold f11_taken f12_taken
  rw [wt_0_5, in_0_5]
  cases hq : q_wi x2 0 5 with
  | false => exact ⟨-2, rfl, rfl⟩
  | true =>
    obtain ⟨q, hq1, rfl, -⟩ := q_ofb (n := 6) (q_wiT.mp hq).1 (by have := (q_wiT.mp hq).2; omega)
    simp only [Option.bind_some, reduceIte]
    rcases q_ix x1 m with hx | ⟨i, hi, rfl⟩
    · rw [r_rA_no hB hx, r_iR_no hB hx]; exact ⟨-11, rfl, rfl⟩
    · rw [r_rA_yes hB hi, r_iR_yes hB hi]
      simp only [Option.bind_some, Option.elim_some, reduceIte]
      obtain ⟨⟨-, -, k, hk, e1, e2⟩, e3, -⟩ := hB.2.2.2 i hi
      rw [if_pos (q_in (by omega) (by omega)), nI_clamp (by omega), e1]
      obtain ⟨N', rfl⟩ : ∃ m, N = m + 5 := ⟨N - 5, by omega⟩
      rw [m_tk hk hq1]
      have hu : f11_isUnder σ (B i) (nI q) = some (r_un k q) := by
        unfold f11_isUnder
        rw [e2]
        have key : ∀ k, k < 6 → ∀ q, q < 6 → (if nI q = (0 : Int32) then (some (true)) else (if nI q = (1 : Int32) then (if [2, 3, 5, 6, 7, 9].contains (r_kc k) = true then (some ([3, 5].contains (r_kc k))) else none) else (if nI q = (2 : Int32) then (if [2, 3, 5, 6, 7, 9].contains (r_kc k) = true then (some ([2, 6].contains (r_kc k))) else none) else (if nI q = (3 : Int32) then (if [2, 3, 5, 6, 7, 9].contains (r_kc k) = true then (some ([5].contains (r_kc k))) else none) else (if nI q = (4 : Int32) then (if [2, 3, 5, 6, 7, 9].contains (r_kc k) = true then (some ([9].contains (r_kc k))) else none) else (if nI q = (5 : Int32) then (if [2, 3, 5, 6, 7, 9].contains (r_kc k) = true then (some ([2].contains (r_kc k))) else none) else (some (false)))))))) = some (r_un k q) := by decide +kernel
        exact key k hk q hq1
      rw [hu, Option.bind_some]
      unfold f12_taken_J51
      cases r_un k q with
      | false =>
        rw [if_neg (show ¬ (false = true) by decide), if_neg (show ¬ (false = true) by decide), if_neg (fun e => absurd e.symm (nI_m1 (by omega)))]
        exact ⟨_, rfl, rfl⟩
      | true =>
        rw [if_pos rfl, if_pos rfl, if_pos rfl, if_pos (r_7 hB hi), if_pos (q_in (by omega) (by omega)), nI_clamp (by omega), e3 2 (by omega)]
        exact ⟨_, rfl, rfl⟩
-- paces
theorem m_pace {n m : Nat} {B : Nat → Nat} {σ : am_S} (hB : r_B n m B σ) {i : Nat} (hi : i < m) : ∃ p : Nat, 1 ≤ p ∧ p ≤ 30 ∧ f7_toldPace σ (B i) = some (nI p) ∧ f12_paceOf σ (nI i) = some (nI p) := by
  have h1 := hB.1
  obtain ⟨⟨-, -, k, hk, e1, e2⟩, e3, ⟨⟨a1, a2⟩, ⟨u, hu, a3⟩, -⟩, -⟩ := hB.2.2.2 i hi
  obtain ⟨g, hg, eg, -⟩ := q_ofb (n := 91) (x := fF σ 45 i) (by omega) (by omega)
  have f1 : fF σ (B i) 1 = nI g := (e3 1 (by omega)).trans eg
  have f2 : fF σ (B i) 2 = nI u := (e3 2 (by omega)).trans a3
  have told : ∀ p : Nat, 1 ≤ p → p ≤ 30 → d_pace σ (B i) = some (nI p) → f7_toldPace σ (B i) = some (nI p) := fun p p1 p2 e => by
    unfold f7_toldPace
    rw [if_pos (r_7 hB hi), e, Option.bind_some]
    by_cases c : 1 < p
    · rw [if_pos (show (1 : Int32) < nI p from nI_lt (a := 1) c (by omega))]
    · rw [if_neg (show ¬ (1 : Int32) < nI p from nI_nlt (a := 1) (by omega) (by omega)), show p = 1 by omega]; rfl
  have d20 : nI g / 20 = nI (g / 20) := pk_div (d := 20) (by omega) (by omega) (by omega)
  have s10 : (10 : Int32) - nI (g / 20) = nI (10 - g / 20) := pk_sub (a := 10) (by omega)
  have d2 : nI (10 - g / 20) / 2 = nI ((10 - g / 20) / 2) := pk_div (d := 2) (by omega) (by omega) (by omega)
  unfold f12_paceOf
  rw [if_pos (q_in (by omega) (by omega)), if_pos (q_in (by omega) (by omega)), nI_clamp (by omega), e1, eg, a3, if_pos (q_in (by omega) (by omega))]
  have hv : k = 0 ∨ k = 1 ∨ k = 2 ∨ k = 3 ∨ k = 4 ∨ k = 5 := by omega
  rcases hv with rfl | rfl | rfl | rfl | rfl | rfl
  · refine ⟨10, by omega, by omega, told 10 (by omega) (by omega) ?_, rfl⟩
    have e2' : am_ci σ (B i) = 7 := e2
    unfold d_pace
    rw [e2']; rfl
  · refine ⟨12, by omega, by omega, told 12 (by omega) (by omega) ?_, rfl⟩
    have e2' : am_ci σ (B i) = 3 := e2
    unfold d_pace f3_pace
    rw [e2']; rfl
  · refine ⟨10 - g / 20, by omega, by omega, told _ (by omega) (by omega) ?_, ?_⟩
    · have e2' : am_ci σ (B i) = 6 := e2
      unfold d_pace f6_pace
      rw [e2', f1, d20, ← s10]; rfl
    · rw [d20, s10]; rfl
  · refine ⟨12 + u, by omega, by omega, told _ (by omega) (by omega) ?_, ?_⟩
    · have e2' : am_ci σ (B i) = 5 := e2
      unfold d_pace f5_pace f3_pace
      rw [e2', f2, ← nI_add]; rfl
    · rw [← nI_add]; rfl
  · refine ⟨7, by omega, by omega, told 7 (by omega) (by omega) ?_, rfl⟩
    have e2' : am_ci σ (B i) = 9 := e2
    unfold d_pace f9_pace
    rw [e2']; rfl
  · refine ⟨2 + (10 - g / 20) / 2, by omega, by omega, told _ (by omega) (by omega) ?_, ?_⟩
    · have e2' : am_ci σ (B i) = 2 := e2
      have key : f6_pace σ (B i) = some (nI (10 - g / 20)) := by
        unfold f6_pace
        rw [e2', f1, d20, ← s10]; rfl
      unfold d_pace f2_pace
      rw [e2', key]
      show some (nI (10 - g / 20) / 2 + 2) = _
      rw [d2, show (2 : Int32) = nI 2 from rfl, nI_add, Nat.add_comm]
    · rw [d20, s10, d2, ← nI_add]; rfl
/-- two rowers, spelled as one number -/
theorem q_two (x : Int32) (m : Nat) (hm : m ≤ 14) : (x.toInt < 0) ∨ (0 ≤ x.toInt ∧ ∃ y : Nat, y < 2 ^ 31 ∧ x = nI y ∧ x / 20 = nI (y / 20) ∧ x - x / 20 * 20 = nI (y % 20)) := by
  by_cases h : x.toInt < 0
  · exact Or.inl h
  · obtain ⟨y, hy, rfl, -⟩ := q_of (x := x) (by omega)
    exact Or.inr ⟨by omega, y, hy, rfl, pk_div (d := 20) hy (by omega) (by omega), pk_rem (d := 20) hy (by omega) (by omega)⟩
section TWO
variable {n m : Nat} {B : Nat → Nat} {σ : am_S}
theorem r_12 (hB : r_B n m B σ) (x : Int32) : (f11_oneOf σ x = some none ∨ f11_otherOf σ x = some none) ∧ f12_areTwo σ x = some false ∨ ∃ i j, i < m ∧ j < m ∧ f11_oneOf σ x = some (some (B i)) ∧ f11_otherOf σ x = some (some (B j)) ∧ f12_areTwo σ x = some true ∧ x / 20 = nI i ∧ x - x / 20 * 20 = nI j ∧ 0 ≤ x.toInt ∧ x = nI (20 * i + j) := by
  have h1 := hB.1
  rcases q_two x m h1 with h | ⟨h0, y, hy, rfl, e1, e2⟩
  · refine Or.inl ⟨Or.inl ?_, ?_⟩
    · unfold f11_oneOf
      rw [if_neg (fun c => by have := q_le.mp c; rw [show (0 : Int32).toInt = 0 from rfl] at this; omega)]
    · unfold f12_areTwo
      rw [if_pos (q_lt.mpr h)]
  · have c0 : (0 : Int32) ≤ nI y := q_le.mpr h0
    have c1 : ¬ nI y < 0 := fun c => by have := q_lt.mp c; rw [show (0 : Int32).toInt = 0 from rfl] at this; omega
    unfold f11_oneOf f11_otherOf f12_areTwo
    rw [if_pos c0, if_pos c0, if_neg c1, e2, e1]
    have nr : ∀ z : Nat, z < 2 ^ 31 → ¬ z < m → ¬ (0 ≤ (nI z).toInt ∧ (nI z).toInt < m) := fun z hz hzm => by rw [nI_toInt hz]; omega
    by_cases d1 : y / 20 < m
    · rw [r_rA_yes hB d1, r_iR_yes hB d1]
      by_cases d2 : y % 20 < m
      · rw [r_rA_yes hB d2, r_iR_yes hB d2]
        exact Or.inr ⟨y / 20, y % 20, d1, d2, rfl, rfl, rfl, rfl, rfl, h0, by rw [show 20 * (y / 20) + y % 20 = y by omega]⟩
      · rw [r_rA_no hB (nr _ (by omega) d2), r_iR_no hB (nr _ (by omega) d2)]
        exact Or.inl ⟨Or.inr rfl, rfl⟩
    · rw [r_rA_no hB (nr _ (by omega) d1), r_iR_no hB (nr _ (by omega) d1)]
      exact Or.inl ⟨Or.inl rfl, rfl⟩
theorem r_1t (hB : r_B n m B σ) (x : Int32) : ∃ o o', f11_oneOf σ x = some o ∧ f11_otherOf σ x = some o' := by
  have h1 := hB.1
  have key : ∀ y, ∃ o, f11_rowerAt σ y = some o := fun y => by
    rcases q_ix y m with hx | ⟨i, hi, rfl⟩
    · exact ⟨_, r_rA_no hB hx⟩
    · exact ⟨_, r_rA_yes hB hi⟩
  unfold f11_oneOf f11_otherOf
  by_cases c : 0 ≤ x
  · rw [if_pos c, if_pos c]
    obtain ⟨o, e⟩ := key (x / 20)
    obtain ⟨o', e'⟩ := key (x - x / 20 * 20)
    rw [e, e']
    refine ⟨o, o', ?_, ?_⟩
    · cases o <;> rfl
    · cases o' <;> rfl
  · rw [if_neg c, if_neg c]
    exact ⟨_, _, rfl, rfl⟩
end TWO
theorem m_takes {σ : am_S} (h : RX σ) (x1 x2 : Int32) : ∃ v, f11_takes σ x1 x2 = some v ∧ f12_takes σ x1 x2 = some v := by
  obtain ⟨n, m, tc, A, B, hK, hC, hB, hW, hP, hS, hT, hI⟩ := h
  have h1 := hC.1
  have h2 := hB.1
  unfold f11_takes f12_takes
  have bad : ∀ {a : Option Int32}, a = some (-2) → ∃ v, a = some v ∧ (some (-2) : Option Int32) = some v := fun e => ⟨-2, e, rfl⟩
  rcases q_ix x1 n with hx | ⟨c, hc, rfl⟩
  · obtain ⟨o, o', e1, e2⟩ := r_1t hB x2
    rw [r_cA_no hC hx, r_iC_no hC hx, e1, e2]
    refine bad ?_
    cases o <;> cases o' <;> rfl
  · rw [r_cA_yes hC hc, r_iC_yes hC hc]
    simp only [Option.bind_some, Option.elim_some, reduceIte]
    rcases r_12 hB x2 with ⟨hx, e3⟩ | ⟨i, j, hi, hj, e1, e2, e3, e4, e5, -, -⟩
    · obtain ⟨o, o', e1, e2⟩ := r_1t hB x2
      rw [e1, e2, e3]
      refine bad ?_
      rw [e1, e2] at hx
      rcases hx with hx | hx
      · have : o = none := Option.some.inj hx
        subst this
        cases o' <;> rfl
      · have : o' = none := Option.some.inj hx
        subst this
        cases o <;> rfl
    · rw [e1, e2, e3]
      simp only [Option.bind_some, Option.elim_some, reduceIte]
      rw [if_pos (r_7 hB hi), if_pos (r_7 hB hj), e5, e4]
      by_cases hij : i = j
      · subst hij
        rw [if_pos rfl, if_pos rfl]
        exact ⟨-2, rfl, rfl⟩
      · rw [if_neg (fun e => hij ((hB.2.2.2 i hi).2.2.2 j hj e)), if_neg (fun e => hij (q_nI (by omega) (by omega) e)), if_pos (r_1 hC hc)]
        obtain ⟨p, p1, p2, p3, p4⟩ := m_pace hB hi
        obtain ⟨q, q1, q2, q3, q4⟩ := m_pace hB hj
        rw [p3, q3, p4, q4]
        simp only [Option.bind_some]
        rw [nI_add, if_pos (show (1 : Int32) ≤ nI (p + q) from nI_le (a := 1) (by omega) (by omega)), if_neg (nI_ne0 (by omega) (by omega)), if_pos (q_in (by omega) (by omega)), if_neg (nI_ne0 (by omega) (by omega)), nI_clamp (by omega), (hC.2.2.2 c hc).2.1.1, hW.2]
        exact ⟨_, rfl, rfl⟩
