/-! THE METHODS: shares, open -/
section SHR
variable {n m : Nat} {B : Nat → Nat} {σ : am_S}
theorem s_sum (N : Nat) (hB : r_B n m B σ) (x1 x2 x3 : Int32) (a4 : Nat) : ∀ d i n1 n2 n3 s0, i + d = m → d < n1 → d < n2 → d < n3 → s0 ≤ 6 * i → (∀ j, j < i → fF σ 47 j = x1 → 1 ≤ s0) → ∃ s : Nat, s ≤ 84 ∧ (∀ j, j < m → fF σ 47 j = x1 → 1 ≤ s) ∧ f11_shares_L75n4 σ N n1 x1 x2 (nI s0) (nI i) = f11_shares_J123n4 σ N x1 x2 (nI s) ∧ f11_shares_L75 σ N n2 x1 x2 a4 (nI s0) (nI i) = f11_shares_J123 σ N x1 x2 a4 (nI s) ∧ f12_shares_L52 σ N n3 x1 x2 x3 (nI s0) (nI i) = f12_shares_J93 σ N x1 x2 x3 (nI s) := by
  have h1 := hB.1
  intro d
  induction d with
  | zero =>
    intro i n1 n2 n3 s0 hi hn1 hn2 hn3 hs hp
    obtain ⟨n1, rfl⟩ : ∃ m, n1 = m + 1 := ⟨n1 - 1, by omega⟩
    obtain ⟨n2, rfl⟩ : ∃ m, n2 = m + 1 := ⟨n2 - 1, by omega⟩
    obtain ⟨n3, rfl⟩ : ∃ m, n3 = m + 1 := ⟨n3 - 1, by omega⟩
    have : i = m := by omega
    subst this
    refine ⟨s0, by omega, hp, ?_, ?_, ?_⟩
    · unfold f11_shares_L75n4
      rw [hB.2.1, if_pos (nI_le (Nat.le_refl _) (by omega))]
    · unfold f11_shares_L75
      rw [hB.2.1, if_pos (nI_le (Nat.le_refl _) (by omega))]
    · unfold f12_shares_L52
      rw [hB.2.2.1, if_pos (nI_le (Nat.le_refl _) (by omega))]
  | succ d ih =>
    intro i n1 n2 n3 s0 hi hn1 hn2 hn3 hs hp
    obtain ⟨n1, rfl⟩ : ∃ m, n1 = m + 1 := ⟨n1 - 1, by omega⟩
    obtain ⟨n2, rfl⟩ : ∃ m, n2 = m + 1 := ⟨n2 - 1, by omega⟩
    obtain ⟨n3, rfl⟩ : ∃ m, n3 = m + 1 := ⟨n3 - 1, by omega⟩
    have hin : i < m := by omega
    obtain ⟨⟨a1, a2, -⟩, e3, -, -⟩ := hB.2.2.2 i hin
    obtain ⟨p, p1, p2, p3, p4⟩ := m_parts hB hin
    unfold f11_shares_L75n4 f11_shares_L75 f12_shares_L52
    rw [hB.2.1, hB.2.2.1, if_neg (nI_ge hin (by omega)), if_neg (nI_ge hin (by omega)), if_neg (nI_ge hin (by omega))]
    simp only [q_in (show i < 14 by omega) (show i < 2 ^ 31 by omega), if_true, nI_clamp (show i < 2 ^ 31 by omega), a2, Option.elim_some, r_7 hB hin, e3 3 (by omega), p3, p4, Option.bind_some, nI_add, nI_1, Int32.add_zero]
    by_cases c : fF σ 47 i = x1
    · rw [if_pos (show fF σ (44 + 3) i = x1 from c), if_pos (show fF σ (44 + 3) i = x1 from c), if_pos c]
      exact ih (i + 1) n1 n2 n3 (s0 + p) (by omega) (by omega) (by omega) (by omega) (by omega) (fun j hj e => by omega)
    · rw [if_neg (show ¬ fF σ (44 + 3) i = x1 from c), if_neg (show ¬ fF σ (44 + 3) i = x1 from c), if_neg c]
      exact ih (i + 1) n1 n2 n3 s0 (by omega) (by omega) (by omega) (by omega) (by omega) (fun j hj e => by
        by_cases cj : j = i
        · subst cj; exact absurd e c
        · exact hp j (by omega) e)
theorem s_of (hB : r_B n m B σ) {i : Nat} (hi : i < m) {s : Nat} (hs : s ≤ 84) (h0 : 1 ≤ s) (x2 : Int32) : ∃ v, f11_shareOf σ (B i) x2 (nI s) = some v ∧ ((f12_partsOf σ (nI i)).bind fun v19 => (if nI s = 0 then none else (some ((x2 * v19) / nI s)))) = some v ∧ f12_partsOf σ (nI i) = (d_parts σ (B i)) := by
  obtain ⟨p, p1, p2, p3, p4⟩ := m_parts hB hi
  unfold f11_shareOf
  rw [if_pos (show (1 : Int32) ≤ nI s from nI_le (a := 1) h0 (by omega)), if_pos (r_7 hB hi), p3, p4, Option.bind_some, if_neg (nI_ne0 (by omega) (by omega))]
  exact ⟨_, rfl, rfl, rfl⟩
theorem s_left (N : Nat) (hB : r_B n m B σ) {s : Nat} (hs : s ≤ 84) {x1 : Int32} (hp : ∀ j, j < m → fF σ 47 j = x1 → 1 ≤ s) (x2 : Int32) : ∀ d i n1 n2 (left : Int32), i + d = m → d < n1 → d < n2 → ∃ v, f11_shares_L143 σ N n1 x1 x2 (nI s) left (nI i) = some v ∧ f12_shares_L115 σ N n2 x1 x2 (nI s) left (nI i) = some v := by
  have h1 := hB.1
  intro d
  induction d with
  | zero =>
    intro i n1 n2 left hi hn1 hn2
    obtain ⟨n1, rfl⟩ : ∃ m, n1 = m + 1 := ⟨n1 - 1, by omega⟩
    obtain ⟨n2, rfl⟩ : ∃ m, n2 = m + 1 := ⟨n2 - 1, by omega⟩
    have : i = m := by omega
    subst this
    unfold f11_shares_L143 f12_shares_L115
    rw [hB.2.1, hB.2.2.1, if_pos (nI_le (Nat.le_refl _) (by omega)), if_pos (nI_le (Nat.le_refl _) (by omega))]
    exact ⟨left, rfl, rfl⟩
  | succ d ih =>
    intro i n1 n2 left hi hn1 hn2
    obtain ⟨n1, rfl⟩ : ∃ m, n1 = m + 1 := ⟨n1 - 1, by omega⟩
    obtain ⟨n2, rfl⟩ : ∃ m, n2 = m + 1 := ⟨n2 - 1, by omega⟩
    have hin : i < m := by omega
    obtain ⟨⟨a1, a2, -⟩, e3, -, -⟩ := hB.2.2.2 i hin
    obtain ⟨p, p1, p2, p3, p4⟩ := m_parts hB hin
    unfold f11_shares_L143 f12_shares_L115 f11_shareOf
    rw [hB.2.1, hB.2.2.1, if_neg (nI_ge hin (by omega)), if_neg (nI_ge hin (by omega))]
    simp only [q_in (show i < 14 by omega) (show i < 2 ^ 31 by omega), if_true, nI_clamp (show i < 2 ^ 31 by omega), a2, Option.elim_some, r_7 hB hin, e3 3 (by omega), p3, p4, Option.bind_some, nI_1, Int32.sub_zero]
    by_cases c : fF σ 47 i = x1
    · have h0 := hp i hin c
      rw [if_pos (show fF σ (44 + 3) i = x1 from c), if_pos c, if_pos (show (1 : Int32) ≤ nI s from nI_le (a := 1) h0 (by omega)), if_neg (nI_ne0 (by omega) (by omega)), if_neg (nI_ne0 (by omega) (by omega)), Option.bind_some]
      exact ih (i + 1) n1 n2 _ (by omega) (by omega) (by omega)
    · rw [if_neg (show ¬ fF σ (44 + 3) i = x1 from c), if_neg c]
      exact ih (i + 1) n1 n2 _ (by omega) (by omega) (by omega)
end SHR
theorem m_shares {N : Nat} (hN : 200 ≤ N) {σ : am_S} (h : RX σ) (x1 x2 x3 : Int32) : ∃ v, f11_shares N σ x1 x2 x3 = some v ∧ f12_shares N σ x1 x2 x3 = some v := by
  obtain ⟨n, m, tc, A, B, hK, hC, hB, hW, hP, hS, hT, hI⟩ := h
  have h1 := hB.1
  have bad : ∀ {a b : Option Int32}, a = some (-2) → b = some (-2) → ∃ v, a = some v ∧ b = some v := fun ea eb => ⟨-2, ea, eb⟩
  unfold f11_shares f12_shares
  simp only [wt_0_99999, in_0_99999, Option.bind_some]
  rcases q_ix x1 n with hx | ⟨c, hc, rfl⟩
  · rw [r_iC_no hC hx, r_cA_no hC hx]
    refine bad ?_ rfl
    rcases q_ix x3 m with hy | ⟨i, hi, rfl⟩
    · rw [r_rA_no hB hy]
      by_cases c3 : x3 = -1
      · simp [c3]
      · simp [c3]
    · rw [r_rA_yes hB hi, Option.bind_some, Option.elim_some, if_pos (r_7 hB hi)]
      by_cases c3 : fF σ (B i) 3 = x1
      · simp [c3]
      · simp [c3]
  rw [r_iC_yes hC hc, r_cA_yes hC hc]
  simp only [Option.bind_some, Option.elim_some, if_true]
  cases hq : q_wi x2 0 99999 with
  | false =>
    refine bad ?_ rfl
    rcases q_ix x3 m with hy | ⟨i, hi, rfl⟩
    · rw [r_rA_no hB hy]
      by_cases c3 : x3 = -1
      · simp [c3]
      · simp [c3]
    · rw [r_rA_yes hB hi, Option.bind_some, Option.elim_some, if_pos (r_7 hB hi)]
      by_cases c3 : fF σ (B i) 3 = nI c
      · simp [c3]
      · simp [c3]
  | true =>
  simp only [if_true]
  rcases q_ix x3 m with hy | ⟨i, hi, rfl⟩
  · rw [r_rA_no hB hy, Option.bind_some, Option.elim_none, r_iR_no hB hy]
    by_cases c3 : x3 = -1
    · rw [if_pos c3, if_pos c3]
      obtain ⟨s, s1, s2, s3, -, s5⟩ := s_sum N hB (nI c) x2 x3 0 m 0 N N N 0 (by omega) (by omega) (by omega) (by omega) (by omega) (fun j hj => absurd hj (Nat.not_lt_zero j))
      rw [show (0 : Int32) = nI 0 from rfl, s3, s5]
      unfold f11_shares_J123n4 f12_shares_J93
      rw [if_pos c3]
      exact s_left N hB s1 s2 x2 m 0 N N x2 (by omega) (by omega) (by omega)
    · rw [if_neg c3, if_neg c3]
      exact bad rfl rfl
  · have hi14 : i < 14 := by omega
    have c3 : ¬ nI i = (-1 : Int32) := nI_m1 (by omega)
    rw [r_rA_yes hB hi, Option.bind_some, Option.elim_some, if_pos (r_7 hB hi), (hB.2.2.2 i hi).2.1 3 (by omega), r_iR_yes hB hi, if_neg c3]
    simp only [Option.bind_some, if_true]
    rw [if_pos (q_in hi14 (by omega)), nI_clamp (by omega)]
    by_cases cc : fF σ 47 i = nI c
    · rw [if_pos (show fF σ (44 + 3) i = nI c from cc), if_pos cc]
      obtain ⟨s, s1, s2, -, s4, s5⟩ := s_sum N hB (nI c) x2 (nI i) (B i) m 0 N N N 0 (by omega) (by omega) (by omega) (by omega) (by omega) (fun j hj => absurd hj (Nat.not_lt_zero j))
      rw [show (0 : Int32) = nI 0 from rfl, s4, s5]
      obtain ⟨v, e1, e2, -⟩ := s_of hB hi s1 (s2 i hi cc) x2
      unfold f11_shares_J123 f12_shares_J93
      rw [if_neg c3, tx_bsm]
      exact ⟨v, e1, e2⟩
    · rw [if_neg (show ¬ fF σ (44 + 3) i = nI c from cc), if_neg cc]
      exact bad rfl rfl
-- open
theorem o_sh : ∀ n, n < 8 → (1 : Int32) <<< (nI n &&& 31) = nI (2 ^ n) := by decide
theorem o_b01 (y : Int32) : y &&& 1 = 0 ∨ y &&& 1 = 1 := by
  obtain ⟨j, hj, e⟩ := pk_andE y 1 (m := 1) (by decide)
  have hv : j = 0 ∨ j = 1 := by omega
  rcases hv with rfl | rfl
  · exact Or.inl e
  · exact Or.inr e
section OPN
variable {n : Nat} {A : Nat → Nat} {σ : am_S}
theorem o_in (N : Nat) (hC : r_C n A σ) (k k' : Int32 → Int32 → Int32 → Int32 → Int32 → Int32 → Option Int32) (x1 x2 x3 x4 x5 x6 y3 y4 y5 : Int32) : ∀ d i n1 n2 (h w : Int32), i + d = n → d < n1 → d < n2 → ∃ h' w' : Int32, f11_open_L53 k σ N n1 x1 x2 x3 x4 x5 x6 h w (nI i) = f11_open_J108 k σ N x1 x2 x3 x4 x5 x6 h' w' ∧ f12_open_L58 k' σ N n2 x1 x2 y3 y4 y5 x6 h w (nI i) = f12_open_J137 k' σ N x1 x2 y3 y4 y5 x6 h' w' ∧ (x6 = 0 → h' = h ∧ w' = w) := by
  have h1 := hC.1
  intro d
  induction d with
  | zero =>
    intro i n1 n2 h w hi hn1 hn2
    obtain ⟨n1, rfl⟩ : ∃ m, n1 = m + 1 := ⟨n1 - 1, by omega⟩
    obtain ⟨n2, rfl⟩ : ∃ m, n2 = m + 1 := ⟨n2 - 1, by omega⟩
    have : i = n := by omega
    subst this
    refine ⟨h, w, ?_, ?_, fun _ => ⟨rfl, rfl⟩⟩
    · unfold f11_open_L53
      rw [hC.2.1, if_pos (nI_le (Nat.le_refl _) (by omega))]
    · unfold f12_open_L58
      rw [hC.2.2.1, if_pos (nI_le (Nat.le_refl _) (by omega))]
  | succ d ih =>
    intro i n1 n2 h w hi hn1 hn2
    obtain ⟨n1, rfl⟩ : ∃ m, n1 = m + 1 := ⟨n1 - 1, by omega⟩
    obtain ⟨n2, rfl⟩ : ∃ m, n2 = m + 1 := ⟨n2 - 1, by omega⟩
    have hin : i < n := by omega
    obtain ⟨⟨a1, a2, a3⟩, ⟨b1, b2, b3, b4⟩, -⟩ := hC.2.2.2 i hin
    unfold f11_open_L53 f12_open_L58 f1_crewNeeded
    rw [hC.2.1, hC.2.2.1, if_neg (nI_ge hin (by omega)), if_neg (nI_ge hin (by omega))]
    simp only [q_in (show i < 7 by omega) (show i < 2 ^ 31 by omega), if_true, nI_clamp (show i < 2 ^ 31 by omega), a2, Option.elim_some, r_1 hC hin, b1, b4, nI_1, Int32.add_zero]
    rcases o_b01 (x6 >>> (nI i &&& 31)) with hb | hb
    · have hb' : ¬ (x6 >>> (nI i &&& 31)) &&& 1 = 1 := by rw [hb]; decide
      rw [if_pos hb, if_neg hb', if_neg hb']
      exact ih (i + 1) n1 n2 h w (by omega) (by omega) (by omega)
    · have hb' : ¬ (x6 >>> (nI i &&& 31)) &&& 1 = 0 := by rw [hb]; decide
      rw [if_neg hb', if_pos hb, if_pos hb]
      have hx6 : x6 ≠ 0 := fun e => by
        rw [e] at hb
        have : ∀ i, i < 7 → ¬ ((0 : Int32) >>> (nI i &&& 31)) &&& 1 = 1 := by decide
        exact this i (by omega) hb
      by_cases c : fF σ 40 i ≤ 30
      · rw [if_pos c, if_pos c, Option.bind_some]
        obtain ⟨h', w', e1, e2, -⟩ := ih (i + 1) n1 n2 (h + fF σ 43 i) (w + 2) (by omega) (by omega) (by omega)
        exact ⟨h', w', e1, e2, fun y => absurd y hx6⟩
      · rw [if_neg c, if_neg c, Option.bind_some]
        obtain ⟨h', w', e1, e2, -⟩ := ih (i + 1) n1 n2 (h + fF σ 43 i) (w + 3) (by omega) (by omega) (by omega)
        exact ⟨h', w', e1, e2, fun y => absurd y hx6⟩
theorem o_out (N : Nat) (hN : 200 ≤ N) (hC : r_C n A σ) (x1 x2 : Int32) : ∀ d s n1 n2 (b h w : Int32), s + d = 2 ^ n → d < n1 → d < n2 → ∃ v, f11_open_L33 σ N n1 x1 x2 b h w (nI s) = some v ∧ f12_open_L38 σ N n2 x1 x2 b h w (nI s) = some v := by
  have h1 := hC.1
  have hp : 2 ^ n ≤ 2 ^ 7 := Nat.pow_le_pow_right (by decide) h1
  have hp7 : 2 ^ 7 = 128 := by decide
  intro d
  induction d with
  | zero =>
    intro s n1 n2 b h w hs hn1 hn2
    obtain ⟨n1, rfl⟩ : ∃ m, n1 = m + 1 := ⟨n1 - 1, by omega⟩
    obtain ⟨n2, rfl⟩ : ∃ m, n2 = m + 1 := ⟨n2 - 1, by omega⟩
    unfold f11_open_L33 f12_open_L38
    rw [hC.2.1, hC.2.2.1, o_sh n (by omega), if_pos (nI_le (by omega) (by omega)), if_pos (nI_le (by omega) (by omega))]
    unfold f11_open_J164 f12_open_J184
    by_cases c0 : x2 = 0
    · rw [if_pos c0]; exact ⟨_, rfl, rfl⟩
    · rw [if_neg c0]
      by_cases c1 : x2 = 1
      · rw [if_pos c1]; exact ⟨_, rfl, rfl⟩
      · rw [if_neg c1]; exact ⟨_, rfl, rfl⟩
  | succ d ih =>
    intro s n1 n2 b h w hs hn1 hn2
    obtain ⟨n1, rfl⟩ : ∃ m, n1 = m + 1 := ⟨n1 - 1, by omega⟩
    obtain ⟨n2, rfl⟩ : ∃ m, n2 = m + 1 := ⟨n2 - 1, by omega⟩
    unfold f11_open_L33 f12_open_L38
    rw [hC.2.1, hC.2.2.1, o_sh n (by omega), if_neg (nI_ge (by omega) (by omega)), if_neg (nI_ge (by omega) (by omega)), show (0 : Int32) = nI 0 from rfl]
    obtain ⟨h', w', e1, e2, -⟩ := o_in N hC (f11_open_L33 σ N n1) (f12_open_L38 σ N n2) x1 x2 b h w (nI s) b h w n 0 N N (nI 0) (nI 0) (by omega) (by omega) (by omega)
    rw [e1, e2]
    have same := ih (s + 1) n1 n2 b h w (by omega) (by omega) (by omega)
    have take := ih (s + 1) n1 n2 (nI s) h' w' (by omega) (by omega) (by omega)
    unfold f11_open_J108 f12_open_J137
    rw [nI_1]
    simp only [q_lt, q_le]
    by_cases c1 : x1.toInt < w'.toInt
    · simp only [if_pos c1]
      by_cases c2 : h.toInt < h'.toInt
      · rw [if_pos c2]; exact same
      · rw [if_neg c2]
        by_cases c3 : h' = h
        · rw [if_pos c3]
          by_cases c4 : w.toInt ≤ w'.toInt
          · rw [if_pos c4]; exact same
          · rw [if_neg c4]; exact same
        · rw [if_neg c3]; exact same
    · simp only [if_neg c1]
      by_cases c2 : h.toInt < h'.toInt
      · have c5 : ¬ h' = h := fun e => by rw [e] at c2; omega
        rw [if_pos c2, if_neg (show ¬ h'.toInt < h.toInt by omega), if_neg c5]
        exact take
      · rw [if_neg c2]
        by_cases c3 : h' = h
        · have c5 : ¬ h'.toInt < h.toInt := by rw [c3]; omega
          rw [if_pos c3, if_neg c5, if_pos c3]
          by_cases c4 : w.toInt ≤ w'.toInt
          · rw [if_pos c4, if_neg (by omega)]; exact same
          · rw [if_neg c4, if_pos (by omega)]; exact take
        · have c6 : h'.toInt ≠ h.toInt := fun e => c3 (i_ext e)
          rw [if_neg c3, if_pos (by omega)]; exact same
end OPN
theorem m_open {N : Nat} (hN : 200 ≤ N) {σ : am_S} (h : RX σ) (x1 x2 : Int32) : ∃ v, f11_open N σ x1 x2 = some v ∧ f12_open N σ x1 x2 = some v := by
  obtain ⟨n, m, tc, A, B, hK, hC, hB, hW, hP, hS, hT, hI⟩ := h
  have h1 := hC.1
  have hp : 2 ^ n ≤ 2 ^ 7 := Nat.pow_le_pow_right (by decide) h1
  have hp7 : 2 ^ 7 = 128 := by decide
  have hp0 : 0 < 2 ^ n := Nat.two_pow_pos n
  unfold f11_open f12_open
  rw [wt_0_42, in_0_42]
  cases hq : q_wi x1 0 42 with
  | false => exact ⟨-2, rfl, rfl⟩
  | true =>
  simp only [Option.bind_some, if_true, wt_0_2, in_0_2]
  cases hq2 : q_wi x2 0 2 with
  | false => exact ⟨-2, rfl, rfl⟩
  | true =>
  simp only [if_true]
  have w1 := q_wiT.mp hq
  -- the model's first turn: none at all
  have first : f12_open_L38 σ N N x1 x2 0 (-1) 0 0 = f12_open_L38 σ N (N - 1) x1 x2 0 0 0 1 := by
    obtain ⟨N', rfl⟩ : ∃ m, N = m + 1 := ⟨N - 1, by omega⟩
    conv => lhs; unfold f12_open_L38
    rw [hC.2.2.1, o_sh n (by omega), show (0 : Int32) = nI 0 from rfl, if_neg (nI_ge hp0 (by omega))]
    obtain ⟨h', w', e1, e2, e3⟩ := o_in (N' + 1) hC (fun _ _ _ _ _ _ => none) (f12_open_L38 σ (N' + 1) N') x1 x2 0 0 0 (nI 0) (nI 0) (-1) (nI 0) n 0 (N' + 1) (N' + 1) (nI 0) (nI 0) (by omega) (by omega) (by omega)
    obtain ⟨rfl, rfl⟩ := e3 rfl
    rw [e2]
    unfold f12_open_J137
    rw [if_neg (fun y => by have := q_lt.mp y; rw [show (nI 0).toInt = 0 from rfl] at this; omega), if_neg (by decide), if_neg (by decide)]
    rfl
  rw [first, show (1 : Int32) = nI 1 from rfl]
  exact o_out N hN hC x1 x2 (2 ^ n - 1) 1 N (N - 1) 0 0 0 (by omega) (by omega) (by omega)
