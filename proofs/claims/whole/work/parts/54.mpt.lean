/-! MAY, PARTS; told, load -/
theorem m_parts {n m : Nat} {B : Nat → Nat} {σ : am_S} (hB : r_B n m B σ) {i : Nat} (hi : i < m) : ∃ p : Nat, 2 ≤ p ∧ p ≤ 6 ∧ d_parts σ (B i) = some (nI p) ∧ f12_partsOf σ (nI i) = some (nI p) := by
  have h1 := hB.1
  obtain ⟨⟨-, -, k, hk, e1, e2⟩, -⟩ := hB.2.2.2 i hi
  unfold f12_partsOf
  rw [if_pos (q_in (by omega) (by omega)), nI_clamp (by omega), e1]
  have hv : k = 0 ∨ k = 1 ∨ k = 2 ∨ k = 3 ∨ k = 4 ∨ k = 5 := by omega
  rcases hv with rfl | rfl | rfl | rfl | rfl | rfl
  · have e2' : am_ci σ (B i) = 7 := e2
    refine ⟨4, by omega, by omega, ?_, rfl⟩
    unfold d_parts
    rw [e2']; rfl
  · have e2' : am_ci σ (B i) = 3 := e2
    refine ⟨3, by omega, by omega, ?_, rfl⟩
    unfold d_parts f3_parts
    rw [e2']; rfl
  · have e2' : am_ci σ (B i) = 6 := e2
    refine ⟨4, by omega, by omega, ?_, rfl⟩
    unfold d_parts
    rw [e2']; rfl
  · have e2' : am_ci σ (B i) = 5 := e2
    refine ⟨6, by omega, by omega, ?_, rfl⟩
    unfold d_parts f5_parts f3_parts
    rw [e2']; rfl
  · have e2' : am_ci σ (B i) = 9 := e2
    refine ⟨2, by omega, by omega, ?_, rfl⟩
    unfold d_parts f9_parts
    rw [e2']; rfl
  · have e2' : am_ci σ (B i) = 2 := e2
    refine ⟨5, by omega, by omega, ?_, rfl⟩
    unfold d_parts f2_parts
    rw [e2']; rfl
def r_may (k u g z il : Nat) : Bool := decide (il = 0) && (
  if k = 1 then decide (6 ≤ u ∧ u ≤ 21) && decide (15 < g)
  else if k = 2 then decide (6 ≤ u ∧ u ≤ 21) && (decide (u % 2 = 0) || decide (4 < z))
  else if k = 3 then (decide (6 ≤ u ∧ u ≤ 21) && decide (15 < g)) || decide (u = z)
  else if k = 4 then decide (6 ≤ u)
  else if k = 5 then decide (6 ≤ u ∧ u ≤ 13) && (decide (u % 2 = 0) || decide (4 < z))
  else decide (6 ≤ u ∧ u ≤ 21))
theorem m_may {n m : Nat} {B : Nat → Nat} {σ : am_S} (hB : r_B n m B σ) {i u : Nat} (hi : i < m) (hu : u < 24) : ∃ b, d_may σ (B i) (nI u) = some b ∧ f12_may σ (nI i) (nI u) = some b := by
  have h1 := hB.1
  obtain ⟨⟨-, -, k, hk, e1, e2⟩, e3, ⟨⟨a1, a2⟩, ⟨z, hz, a3⟩, -, -, a5⟩, -⟩ := hB.2.2.2 i hi
  obtain ⟨g, hg, eg, -⟩ := q_ofb (n := 91) (x := fF σ 45 i) (by omega) (by omega)
  have f1 : fF σ (B i) 1 = nI g := (e3 1 (by omega)).trans eg
  have f2 : fF σ (B i) 2 = nI z := (e3 2 (by omega)).trans a3
  obtain ⟨il, hil, f5, f49⟩ : ∃ il : Nat, il < 2 ∧ fF σ (B i) 5 = nI il ∧ fF σ 49 i = nI il := by
    have f5 := e3 5 (by omega)
    rcases a5 with a5 | a5
    · exact ⟨0, by omega, f5.trans a5, a5⟩
    · exact ⟨1, by omega, f5.trans a5, a5⟩
  have h7 := r_7 hB hi
  -- the base's
  have ill : f7_isIll σ (B i) = some (decide (il ≠ 0)) := by
    unfold f7_isIll
    rw [if_pos h7, f5]
    by_cases c : il = 0
    · rw [if_pos (by rw [c]; rfl), decide_eq_false (fun y => y c)]
    · rw [if_neg (show ¬ nI il = (0 : Int32) from fun y => c (q_nI (b := 0) (by omega) (by omega) y)), decide_eq_true c]
  have lt : ∀ a b : Nat, a < 2 ^ 31 → b < 2 ^ 31 → (nI a < nI b) = (a < b) := fun a b ha hb => propext (nI_ltI ha hb)
  have le : ∀ a b : Nat, a < 2 ^ 31 → b < 2 ^ 31 → (nI a ≤ nI b) = (a ≤ b) := fun a b ha hb => propext (nI_leI ha hb)
  have base : f7_may σ (B i) (nI u) = some (decide (6 ≤ u ∧ u ≤ 21) && decide (il = 0)) := by
    unfold f7_may
    rw [show (6 : Int32) = nI 6 from rfl, show (22 : Int32) = nI 22 from rfl]
    simp only [lt u 6 (by omega) (by omega), le 22 u (by omega) (by omega)]
    by_cases c1 : u < 6
    · rw [if_pos c1, decide_eq_false (by omega)]; rfl
    · rw [if_neg c1]
      by_cases c2 : 22 ≤ u
      · rw [if_pos c2, decide_eq_false (by omega)]; rfl
      · rw [if_neg c2, if_pos h7, ill, Option.bind_some, decide_eq_true (show 6 ≤ u ∧ u ≤ 21 by omega), Bool.true_and]
        by_cases c3 : il = 0
        · rw [if_neg (by rw [decide_eq_true_eq]; exact fun y => y c3), decide_eq_true c3]
        · rw [if_pos (decide_eq_true c3), decide_eq_false c3]
  have even : (nI u - nI u / 2 * 2 = (0 : Int32)) = (u % 2 = 0) := by
    rw [show nI u - nI u / 2 * 2 = nI (u % 2) from pk_rem (d := 2) (by omega) (by omega) (by omega)]
    exact propext (nI_eq (b := 0) (by omega) (by omega))
  have in621 : f12_in (nI u).toInt64 6 21 = some (decide (6 ≤ u ∧ u ≤ 21)) := by
    rw [in_6_21]
    unfold q_wi
    rw [nI_toInt (by omega)]
    congr 1
    exact decide_eq_decide.mpr (by omega)
  have in613 : f12_in (nI u).toInt64 6 13 = some (decide (6 ≤ u ∧ u ≤ 13)) := by
    rw [in_6_13]
    unfold q_wi
    rw [nI_toInt (by omega)]
    congr 1
    exact decide_eq_decide.mpr (by omega)
  have g15 : (nI g ≤ (15 : Int32)) = (g ≤ 15) := le g 15 (by omega) (by omega)
  have g15' : ((15 : Int32) < nI g) = (15 < g) := lt 15 g (by omega) (by omega)
  have z4 : (nI z ≤ (4 : Int32)) = (z ≤ 4) := le z 4 (by omega) (by omega)
  have uz : (nI u = nI z) = (u = z) := propext (nI_eq (by omega) (by omega))
  have u14 : ((14 : Int32) ≤ nI u) = (14 ≤ u) := le 14 u (by omega) (by omega)
  have u22 : (nI u < (22 : Int32)) = (u < 22) := lt u 22 (by omega) (by omega)
  have u6 : (nI u < (6 : Int32)) = (u < 6) := lt u 6 (by omega) (by omega)
  refine ⟨r_may k u g z il, ?_, ?_⟩
  · have hv : k = 0 ∨ k = 1 ∨ k = 2 ∨ k = 3 ∨ k = 4 ∨ k = 5 := by omega
    have k3 : [3, 5].contains (am_ci σ (B i)) = true → f3_may σ (B i) (nI u) = some (decide (il = 0) && (decide (6 ≤ u ∧ u ≤ 21) && decide (15 < g))) := fun hc => by
      unfold f3_may
      rw [if_pos hc, base, Option.bind_some, f1]
      simp only [g15]
      by_cases c1 : 6 ≤ u ∧ u ≤ 21 <;> by_cases c2 : il = 0 <;> by_cases c3 : g ≤ 15 <;> simp [c1, c2, c3] <;> omega
    have k6 : [2, 6].contains (am_ci σ (B i)) = true → f6_may σ (B i) (nI u) = some (decide (il = 0) && (decide (6 ≤ u ∧ u ≤ 21) && (decide (u % 2 = 0) || decide (4 < z)))) := fun hc => by
      unfold f6_may
      rw [if_pos hc, base, Option.bind_some, f2]
      simp only [even, z4]
      by_cases c1 : 6 ≤ u ∧ u ≤ 21 <;> by_cases c2 : il = 0 <;> by_cases c3 : z ≤ 4 <;> by_cases c4 : u % 2 = 0 <;> simp [c1, c2, c3, c4] <;> omega
    rcases hv with rfl | rfl | rfl | rfl | rfl | rfl
    · have e2' : am_ci σ (B i) = 7 := e2
      unfold d_may
      rw [e2', if_neg (by decide), if_neg (by decide), if_neg (by decide), if_neg (by decide), if_pos rfl, base, Bool.and_comm]; rfl
    · have e2' : am_ci σ (B i) = 3 := e2
      unfold d_may
      rw [e2', if_neg (by decide), if_pos rfl, k3 (by rw [e2']; rfl)]; rfl
    · have e2' : am_ci σ (B i) = 6 := e2
      unfold d_may
      rw [e2', if_neg (by decide), if_neg (by decide), if_neg (by decide), if_pos rfl, k6 (by rw [e2']; rfl)]; rfl
    · have e2' : am_ci σ (B i) = 5 := e2
      unfold d_may f5_may
      rw [e2', if_neg (by decide), if_neg (by decide), if_pos rfl, if_pos (show [5].contains 5 = true from rfl), k3 (by rw [e2']; rfl), Option.bind_some, f2, ill]
      simp only [uz, Option.bind_some]
      unfold r_may
      by_cases c1 : 6 ≤ u ∧ u ≤ 21 <;> by_cases c2 : il = 0 <;> by_cases c3 : 15 < g <;> by_cases c4 : u = z <;> simp [c1, c2, c3, c4]
    · have e2' : am_ci σ (B i) = 9 := e2
      unfold d_may f9_may
      rw [e2', if_neg (by decide), if_neg (by decide), if_neg (by decide), if_neg (by decide), if_neg (by decide), if_pos rfl, if_pos (show [9].contains 9 = true from rfl), base, Option.bind_some, ill]
      simp only [u22, Option.bind_some]
      unfold r_may
      by_cases c1 : 6 ≤ u ∧ u ≤ 21 <;> by_cases c2 : il = 0 <;> by_cases c3 : u < 22 <;> simp [c1, c2, c3] <;> omega
    · have e2' : am_ci σ (B i) = 2 := e2
      unfold d_may f2_may
      rw [e2', if_pos rfl, if_pos (show [2].contains 2 = true from rfl), k6 (by rw [e2']; rfl), Option.bind_some]
      simp only [u14]
      unfold r_may
      by_cases c1 : 6 ≤ u ∧ u ≤ 21 <;> by_cases c2 : il = 0 <;> by_cases c3 : 14 ≤ u <;> by_cases c4 : u % 2 = 0 <;> by_cases c5 : 4 < z <;> simp [c1, c2, c3, c4, c5] <;> omega
  · unfold f12_may
    rw [if_pos (q_in (by omega) (by omega)), nI_clamp (by omega), f49, in621, Option.bind_some, e1, eg, a3, in613, Option.bind_some]
    rw [show (1 : Int32) = nI 1 from rfl, show (2 : Int32) = nI 2 from rfl, show (3 : Int32) = nI 3 from rfl, show (4 : Int32) = nI 4 from rfl, show (5 : Int32) = nI 5 from rfl]
    have i1 : (nI il = nI 1) = (il = 1) := propext (nI_eq (by omega) (by omega))
    have kk : ∀ q : Nat, q < 6 → (nI k = nI q) = (k = q) := fun q hq => propext (nI_eq (by omega) (by omega))
    have even' : (nI u - nI u / nI 2 * nI 2 = (0 : Int32)) = (u % 2 = 0) := even
    have z4' : (nI z ≤ nI 4) = (z ≤ 4) := z4
    simp only [i1, kk 1 (by omega), kk 2 (by omega), kk 3 (by omega), kk 4 (by omega), kk 5 (by omega), even', z4', g15, g15', uz, u6, q_in (show i < 14 by omega) (show i < 2 ^ 31 by omega), reduceIte]
    unfold r_may
    have hv : k = 0 ∨ k = 1 ∨ k = 2 ∨ k = 3 ∨ k = 4 ∨ k = 5 := by omega
    have hil' : il = 0 ∨ il = 1 := by omega
    rcases hil' with rfl | rfl
    · rw [if_neg (by decide)]
      rcases hv with rfl | rfl | rfl | rfl | rfl | rfl
      · simp
      · by_cases c1 : 6 ≤ u ∧ u ≤ 21 <;> by_cases c3 : g ≤ 15 <;> simp [c1, c3] <;> omega
      · by_cases c1 : 6 ≤ u ∧ u ≤ 21 <;> by_cases c4 : u % 2 = 0 <;> by_cases c5 : z ≤ 4 <;> simp [c1, c4, c5] <;> omega
      · by_cases c1 : 6 ≤ u ∧ u ≤ 21 <;> by_cases c3 : 15 < g <;> by_cases c4 : u = z <;> simp [c1, c3, c4]
      · by_cases c1 : u < 6 <;> simp [c1] <;> omega
      · by_cases c1 : 6 ≤ u ∧ u ≤ 13 <;> by_cases c4 : u % 2 = 0 <;> by_cases c5 : z ≤ 4 <;> simp [c1, c4, c5] <;> omega
    · rw [if_pos rfl]; rfl
