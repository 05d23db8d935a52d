/-! THE METHODS: path, set, feed -/
theorem q_lnd {l : Nat} (hl : l < 100) : f4_areTwo (nI l) = some (decide (l / 10 ≠ l % 10)) ∧ f12_areLandings (nI l) = some (decide (l / 10 ≠ l % 10)) ∧ f4_turned (nI l) = some (nI (l % 10 * 10 + l / 10)) ∧ (10 : Int32) * (nI l - nI l / 10 * 10) + nI l / 10 = nI (l % 10 * 10 + l / 10) := by
  have e2 : nI l - nI l / 10 * 10 = nI (l % 10) := pk_rem (d := 10) (by omega) (by omega) (by omega)
  have e1 : nI l / 10 = nI (l / 10) := pk_div (d := 10) (by omega) (by omega) (by omega)
  have e3 : (nI (l / 10) = nI (l % 10)) = (l / 10 = l % 10) := propext (nI_eq (by omega) (by omega))
  refine ⟨?_, ?_, ?_, ?_⟩
  · unfold f4_areTwo
    rw [if_neg (nI_pos (by omega)), if_neg (show ¬ (100 : Int32) ≤ nI l from nI_ge (b := 100) hl (by omega)), e2, e1]
    simp only [e3]
    by_cases c : l / 10 = l % 10
    · rw [if_pos c, decide_eq_false (fun x => x c)]
    · rw [if_neg c, decide_eq_true c]
  · unfold f12_areLandings
    rw [in_0_99, q_wiT.mpr (by rw [nI_toInt (by omega)]; omega), Option.bind_some, if_pos rfl, e2, e1]
    simp only [e3]
    by_cases c : l / 10 = l % 10
    · rw [if_pos c, decide_eq_false (fun x => x c)]
    · rw [if_neg c, decide_eq_true c]
  · unfold f4_turned
    rw [e2, e1, show (10 : Int32) = nI 10 from rfl, pk_mul, nI_add]
  · rw [e2, e1, show (10 : Int32) = nI 10 from rfl, pk_mul, nI_add, Nat.mul_comm]
theorem q_lno {x : Int32} (h : ¬ (0 ≤ x.toInt ∧ x.toInt < (100 : Nat))) : f4_areTwo x = some false ∧ f12_areLandings x = some false := by
  refine ⟨?_, ?_⟩
  · unfold f4_areTwo
    by_cases c : x.toInt < 0
    · rw [if_pos (q_lt.mpr c)]
    · rw [if_neg (fun y => c (q_lt.mp y)), if_pos (q_le.mpr (by show (100 : Int) ≤ _; omega))]
  · unfold f12_areLandings
    rw [in_0_99, q_wiF.mpr (by omega)]; rfl
theorem m_path (x1 x2 : Int32) : m_OK (fun σ => f11_path σ x1 x2) (fun σ => f12_path σ x1 x2) := by
  intro σ h
  have hX := h
  obtain ⟨n, m, tc, A, B, hK, hC, hB, hW, hP, hS, hT, hI⟩ := h
  dsimp only
  unfold f11_path
  rcases q_ix x1 100 with hx | ⟨l, hl, rfl⟩
  · rw [(q_lno hx).1]
    refine ⟨-2, σ, σ, rfl, ?_, hX⟩
    unfold f12_path
    rw [(q_lno hx).2]; rfl
  · obtain ⟨e1, e2, e3, e4⟩ := q_lnd hl
    rw [e1]
    by_cases c : l / 10 ≠ l % 10
    · rw [decide_eq_true c] at e2 ⊢
      simp only [Option.bind_some, reduceIte, wt_0_99]
      cases hq : q_wi x2 0 99 with
      | false =>
        refine ⟨-2, σ, σ, rfl, ?_, hX⟩
        unfold f12_path
        rw [e2]
        simp only [Option.bind_some, reduceIte, in_0_99, hq]
        rfl
      | true =>
        rw [if_pos rfl]
        unfold f4_takePath
        rw [e3, if_pos (q_in hl (by omega)), if_pos (q_in hl (by omega)), Option.bind_some, if_pos (q_in (by omega) (by omega)), nI_clamp (by omega), nI_clamp (by omega)]
        refine ⟨_, _, sF (sF (sF (sF σ 22 l x2) 22 (l % 10 * 10 + l / 10) x2) 56 l x2) 56 (l % 10 * 10 + l / 10) x2, rfl, ?_, ?_⟩
        · unfold f12_path
          rw [e2]
          simp only [Option.bind_some, reduceIte, in_0_99, hq]
          rw [e4, if_pos (q_in hl (by omega)), if_pos (q_in hl (by omega)), if_pos (q_in (by omega) (by omega)), nI_clamp (by omega), nI_clamp (by omega), q_FFa (by decide), q_FFa (by decide), (hP.1 l hl).1]
        · have g : q_Ag (fun a k => a = 22 ∨ a = 56) σ (sF (sF (sF (sF σ 22 l x2) 22 (l % 10 * 10 + l / 10) x2) 56 l x2) 56 (l % 10 * 10 + l / 10) x2) := ((((q_Ag.rf σ).sF (Or.inl rfl)).sF (Or.inl rfl)).sF (Or.inr rfl)).sF (Or.inr rfl)
          refine ⟨n, m, tc, A, B, hK.mv g, hC.mv g ?_, hB.mv g (Nat.le_refl _) ?_, hW.mv g ?_, ⟨?_, hP.2⟩, hS.mv g ?_, hT.mv g ?_, hI.mv g (Nat.le_refl _) (Nat.le_refl _) (Nat.le_refl _) (fun _ _ => rfl) (fun _ _ => rfl) ?_⟩
          · intro a k hc hs
            rcases hc with h | h | h | h | ⟨i', hi', h, hk'⟩
            · omega
            · omega
            · omega
            · omega
            · have := hC.ge hi'
              omega
          · intro a k hc hs
            rcases hc with h | h | h | h | ⟨i', hi', h, hk'⟩
            · omega
            · omega
            · omega
            · omega
            · have := hB.ge hi'
              omega
          · intro a k hc hs; unfold r_Wc at hc; omega
          · have f22 : ∀ k, fF (sF (sF (sF (sF σ 22 l x2) 22 (l % 10 * 10 + l / 10) x2) 56 l x2) 56 (l % 10 * 10 + l / 10) x2) 22 k = if k = l % 10 * 10 + l / 10 ∨ k = l then x2 else fF σ 22 k := fun k => by
              rw [q_FFa (by decide), q_FFa (by decide)]
              by_cases c1 : k = l % 10 * 10 + l / 10
              · rw [c1, q_FFe, if_pos (Or.inl rfl)]
              · rw [q_FFk c1]
                by_cases c2 : k = l
                · rw [c2, q_FFe, if_pos (Or.inr rfl)]
                · rw [q_FFk c2, if_neg (by omega)]
            have f56 : ∀ k, fF (sF (sF (sF (sF σ 22 l x2) 22 (l % 10 * 10 + l / 10) x2) 56 l x2) 56 (l % 10 * 10 + l / 10) x2) 56 k = if k = l % 10 * 10 + l / 10 ∨ k = l then x2 else fF σ 56 k := fun k => by
              by_cases c1 : k = l % 10 * 10 + l / 10
              · rw [c1, q_FFe, if_pos (Or.inl rfl)]
              · rw [q_FFk c1]
                by_cases c2 : k = l
                · rw [c2, q_FFe, if_pos (Or.inr rfl)]
                · rw [q_FFk c2, if_neg (by omega), q_FFa (by decide), q_FFa (by decide)]
            intro k hk
            obtain ⟨p1, p2, p3⟩ := hP.1 k hk
            rw [f22, f56, f56]
            by_cases c1 : k = l % 10 * 10 + l / 10 ∨ k = l
            · rw [if_pos c1, if_pos c1, if_pos (by omega)]
              exact ⟨rfl, q_wiT.mp hq, rfl⟩
            · rw [if_neg c1, if_neg c1, if_neg (by omega)]
              exact ⟨p1, p2, p3⟩
          · intro a k hc hs; unfold r_Sc at hc; omega
          · intro a k hc hs; unfold r_Tc at hc; omega
          · intro a k hc hs
            rcases hc with h | h | h | ⟨i', hi', h, hk'⟩ | ⟨i', hi', h, hk'⟩
            · omega
            · omega
            · omega
            · have := hC.ge hi'
              omega
            · have := hB.ge hi'
              omega
    · rw [decide_eq_false c] at e2 ⊢
      refine ⟨-2, σ, σ, rfl, ?_, hX⟩
      unfold f12_path
      rw [e2]; rfl
-- the water, open, heads
theorem q_10 (x : Int32) (d n : Nat) (hd : d ≤ 20) (hn : n ≤ 7) : (0 ≤ (x - nI d).toInt ∧ (x - nI d).toInt < n) ↔ (0 ≤ x.toInt - d ∧ x.toInt - d < n) := by
  have ed : (nI d).toInt = (d : Int) := nI_toInt (by omega)
  constructor
  · intro h
    have e : (x - nI d) + nI d = x := Int32.sub_add_cancel ..
    have := fb_addI (x := x - nI d) (y := nI d) (by omega) (by omega)
    rw [e, ed] at this
    omega
  · intro h
    have := fb_subI (x := x) (y := nI d) (by omega) (by omega)
    rw [ed] at this
    omega
theorem q_10L (x : Int32) {z : Int64} (d : Nat) (hz : z.toInt = d) (hd : d ≤ 20) : (x.toInt64 - z).toInt = x.toInt - d := by
  have h1 := fb_rng x
  rw [fb_subL (by rw [q_64, hz]; omega) (by rw [q_64, hz]; omega), q_64, hz]
theorem m_J59 {n : Nat} {σ : am_S} (hn : n ≤ 7) (e : fF σ 36 11 = nI n) (x1 x2 x3 : Int32) :
    (¬ (0 ≤ x1.toInt - 10 ∧ x1.toInt - 10 < n) → ¬ (0 ≤ x1.toInt - 20 ∧ x1.toInt - 20 < n) → f12_set_J59 x1 x2 x3 σ = some (x3, σ)) ∧
    (∀ i : Nat, i < n → x1 = nI (10 + i) → f12_set_J59 x1 x2 x3 σ = if q_wi x2 0 1 = true then some (fF σ 42 i, sF σ 42 i x2) else some (x3, σ)) ∧
    (∀ i : Nat, i < n → x1 = nI (20 + i) → f12_set_J59 x1 x2 x3 σ = if q_wi x2 0 999 = true then some (fF σ 43 i, sF σ 43 i x2) else some (x3, σ)) := by
  have n10 := q_10 x1 10 n (by omega) hn
  have n20 := q_10 x1 20 n (by omega) hn
  refine ⟨fun h1 h2 => ?_, fun i hi hx => ?_, fun i hi hx => ?_⟩
  · unfold f12_set_J59
    rw [show (10 : Int32) = nI 10 from rfl, show (20 : Int32) = nI 20 from rfl, r_iC0_no hn e (fun y => h1 (n10.mp y)), r_iC0_no hn e (fun y => h2 (n20.mp y))]
    rfl
  · have ex : x1.toInt = 10 + (i : Int) := by rw [hx, nI_toInt (by omega)]; omega
    have e10 : x1 - 10 = nI i := by rw [hx, show (10 : Int32) = nI 10 from rfl, pk_sub (by omega), show 10 + i - 10 = i by omega]
    have h2 : ¬ (0 ≤ (x1 - nI 20).toInt ∧ (x1 - nI 20).toInt < n) := fun y => by have := n20.mp y; omega
    unfold f12_set_J59
    rw [e10, r_iC0_yes hn e hi, show (20 : Int32) = nI 20 from rfl, r_iC0_no hn e h2]
    simp only [Option.bind_some, reduceIte, in_0_1]
    cases q_wi x2 0 1 with
    | false => rfl
    | true =>
      rw [if_pos rfl, if_pos rfl, if_pos (q_in (by omega) (by omega)), if_pos (q_in (by omega) (by omega)), nI_clamp (by omega), r_iC0_no hn (by rw [q_FFa (by decide)]; exact e) h2]
      rfl
  · have ex : x1.toInt = 20 + (i : Int) := by rw [hx, nI_toInt (by omega)]; omega
    have e20 : x1 - 20 = nI i := by rw [hx, show (20 : Int32) = nI 20 from rfl, pk_sub (by omega), show 20 + i - 20 = i by omega]
    have h2 : ¬ (0 ≤ (x1 - nI 10).toInt ∧ (x1 - nI 10).toInt < n) := fun y => by have := n10.mp y; omega
    unfold f12_set_J59
    rw [e20, show (10 : Int32) = nI 10 from rfl, r_iC0_no hn e h2, r_iC0_yes hn e hi]
    simp only [Option.bind_some, Bool.false_eq_true, reduceIte, in_0_999]
    cases q_wi x2 0 999 with
    | false => rfl
    | true =>
      rw [if_pos rfl, if_pos rfl, if_pos (q_in (by omega) (by omega)), if_pos (q_in (by omega) (by omega)), nI_clamp (by omega)]
theorem m_set (x1 x2 : Int32) : m_OK (fun σ => f11_set σ x1 x2) (fun σ => f12_set σ x1 x2) := by
  intro σ h
  have hX := h
  obtain ⟨n, m, tc, A, B, hK, hC, hB, hW, hP, hS, hT, hI⟩ := h
  have h1 := hC.1
  dsimp only
  by_cases c0 : x1 = 0 ∨ x1 = 1
  · -- tide, wash
    have hx : x1.toInt = 0 ∨ x1.toInt = 1 := by rcases c0 with rfl | rfl <;> decide
    have hq1 : q_wi x1 0 1 = true := q_wiT.mpr (by omega)
    have J := fun (s : am_S) (e : fF s 36 11 = nI n) (x3 : Int32) => (m_J59 h1 e x1 x2 x3).1 (by omega) (by omega)
    have hs : f11_set σ x1 x2 = f11_setWater σ x1 x2 := by
      have e : ∀ x : Option (Int32 × am_S), (x.bind fun (v2, s3) => some (v2, s3)) = x := fun x => by cases x <;> rfl
      unfold f11_set
      rw [e]
      rcases c0 with c | c
      · rw [if_pos c]
      · by_cases d : x1 = 0
        · rw [if_pos d]
        · rw [if_neg d, if_pos c]
    rw [hs]
    unfold f11_setWater
    rw [wt_0_9, Option.bind_some]
    cases hq : q_wi x2 0 9 with
    | false =>
      refine ⟨-1000, σ, σ, rfl, ?_, hX⟩
      unfold f12_set
      rw [in_0_1, hq1, Option.bind_some, if_pos rfl, in_0_9, hq, Option.bind_some, if_neg (by decide)]
      exact J σ hC.2.2.1 _
    | true =>
      rw [if_pos rfl]
      have fin : ∀ k kk, (k = 0 ∧ kk = 12) ∨ (k = 1 ∧ kk = 13) → RX (sF (sF σ 8 k x2) 36 kk x2) := by
        intro k kk hk
        have g : q_Ag (fun a k => (a = 8 ∧ k ≤ 1) ∨ (a = 36 ∧ (k = 12 ∨ k = 13))) σ (sF (sF σ 8 k x2) 36 kk x2) := ((q_Ag.rf σ).sF (Or.inl ⟨rfl, by omega⟩)).sF (Or.inr ⟨rfl, by omega⟩)
        refine ⟨n, m, tc, A, B, hK.mv g, hC.mv g ?_, hB.mv g (Nat.le_refl _) ?_, ?_, hP.mv g ?_, hS.mv g ?_, hT.mv g ?_, hI.mv g (Nat.le_refl _) (Nat.le_refl _) (Nat.le_refl _) (fun _ _ => rfl) (fun _ _ => rfl) ?_⟩
        · intro a k hc hs
          rcases hc with h | h | h | h | ⟨i', hi', h, hk'⟩
          · omega
          · omega
          · omega
          · omega
          · have := hC.ge hi'
            omega
        · intro a k hc hs
          rcases hc with h | h | h | h | ⟨i', hi', h, hk'⟩
          · omega
          · omega
          · omega
          · omega
          · have := hB.ge hi'
            omega
        · rcases hk with ⟨rfl, rfl⟩ | ⟨rfl, rfl⟩
          · exact ⟨rfl, hW.2⟩
          · exact ⟨hW.1, rfl⟩
        · intro a k hc hs; unfold r_Pc at hc; omega
        · intro a k hc hs; unfold r_Sc at hc; omega
        · intro a k hc hs; unfold r_Tc at hc; omega
        · intro a k hc hs
          rcases hc with h | h | h | ⟨i', hi', h, hk'⟩ | ⟨i', hi', h, hk'⟩
          · omega
          · omega
          · omega
          · have := hC.ge hi'
            omega
          · have := hB.ge hi'
            omega
      by_cases d : x1 = 0
      · rw [if_pos d, if_pos d]
        refine ⟨_, _, sF (sF σ 8 0 x2) 36 12 x2, rfl, ?_, fin 0 12 (Or.inl ⟨rfl, rfl⟩)⟩
        unfold f12_set
        rw [in_0_1, hq1, Option.bind_some, if_pos rfl, in_0_9, hq, Option.bind_some, if_pos rfl, if_pos d, if_pos d, J _ (by rw [q_FFk (by decide), q_FFa (by decide)]; exact hC.2.2.1), q_FFa (by decide), hW.1]
      · rw [if_neg d, if_neg d]
        refine ⟨_, _, sF (sF σ 8 1 x2) 36 13 x2, rfl, ?_, fin 1 13 (Or.inr ⟨rfl, rfl⟩)⟩
        unfold f12_set
        rw [in_0_1, hq1, Option.bind_some, if_pos rfl, in_0_9, hq, Option.bind_some, if_pos rfl, if_neg d, if_neg d, J _ (by rw [q_FFk (by decide), q_FFa (by decide)]; exact hC.2.2.1), q_FFa (by decide), hW.2]
  · have c1 : x1 ≠ 0 := fun y => c0 (Or.inl y)
    have c2 : x1 ≠ 1 := fun y => c0 (Or.inr y)
    have hq1 : q_wi x1 0 1 = false := q_wiF.mpr (fun y => by
      have hv : x1.toInt = 0 ∨ x1.toInt = 1 := by omega
      rcases hv with hv | hv
      · exact c1 (i_ext hv)
      · exact c2 (i_ext hv))
    have hf2 : ∀ s : am_S, f12_set s x1 x2 = f12_set_J59 x1 x2 (-1000) s := fun s => by
      unfold f12_set
      rw [in_0_1, hq1, Option.bind_some, if_neg (by decide)]
    unfold f11_set
    rw [if_neg c1, if_neg c2]
    have L10 := q_10L x1 (z := 10) 10 rfl (by omega)
    have L20 := q_10L x1 (z := 20) 20 rfl (by omega)
    have fin : ∀ i k kk, i < n → (k = 2 ∧ kk = 42 ∧ (x2 = 0 ∨ x2 = 1)) ∨ (k = 3 ∧ kk = 43) → RX (sF (sF σ (A i) k x2) kk i x2) := by
      intro i k kk hi hk
      have hgi := hC.ge hi
      have g : q_Ag (fun a k => (a = A i ∧ (k = 2 ∨ k = 3)) ∨ ((a = 42 ∨ a = 43) ∧ k = i)) σ (sF (sF σ (A i) k x2) kk i x2) := ((q_Ag.rf σ).sF (Or.inl ⟨rfl, by omega⟩)).sF (Or.inr ⟨by omega, rfl⟩)
      refine ⟨n, m, tc, A, B, hK.mv g, hC.oh g ?_ ?_, hB.mv g (Nat.le_refl _) ?_, hW.mv g ?_, hP.mv g ?_, hS.mv g ?_, hT.mv g ?_, hI.mv g (Nat.le_refl _) (Nat.le_refl _) (Nat.le_refl _) (fun _ _ => rfl) (fun _ _ => rfl) ?_⟩
      · intro a k hc h49 h5 hs
        have := fun y => h5 y i hi
        omega
      · intro j hj
        have hgj := hC.ge hj
        obtain ⟨-, ⟨-, -, b2, b3⟩, -, d, -⟩ := hC.2.2.2 j hj
        by_cases hij : j = i
        · subst hij
          rcases hk with ⟨rfl, rfl, h0⟩ | ⟨rfl, rfl⟩
          · refine ⟨?_, ?_, ?_⟩
            · rw [q_FFa (by omega), q_FFe, q_FFe]
            · rw [q_FFa (by omega), q_FFk (by omega), q_FFa (by omega), q_FFa (by omega)]; exact b3
            · rw [q_FFe]; exact h0
          · refine ⟨?_, ?_, ?_⟩
            · rw [q_FFa (by omega), q_FFk (by omega), q_FFa (by omega), q_FFa (by omega)]; exact b2
            · rw [q_FFa (by omega), q_FFe, q_FFe]
            · rw [q_FFa (by omega), q_FFa (by omega)]; exact d
        · have hne : A j ≠ A i := fun x => hij ((hC.2.2.2 j hj).2.2.2.2 i hi x)
          refine ⟨?_, ?_, ?_⟩
          · rw [q_FFa (by omega), q_FFa hne, q_FFk hij, q_FFa (by omega)]; exact b2
          · rw [q_FFa (by omega), q_FFa hne, q_FFk hij, q_FFa (by omega)]; exact b3
          · rw [q_FFk hij, q_FFa (by omega)]; exact d
      · intro a k hc hs
        rcases hc with h | h | h | h | ⟨i', hi', h, hk'⟩
        · omega
        · omega
        · omega
        · omega
        · have := hB.ge hi'
          have := r_ne hC hB hi hi'
          omega
      · intro a k hc hs; unfold r_Wc at hc; omega
      · intro a k hc hs; unfold r_Pc at hc; omega
      · intro a k hc hs; unfold r_Sc at hc; omega
      · intro a k hc hs; unfold r_Tc at hc; omega
      · intro a k hc hs
        rcases hc with h | h | h | ⟨i', hi', h, hk'⟩ | ⟨i', hi', h, hk'⟩
        · omega
        · omega
        · omega
        · have := hC.ge hi'
          omega
        · have := hB.ge hi'
          have := r_ne hC hB hi hi'
          omega
    rcases q_ix (x1 - nI 10) n with hx | ⟨i, hi, hx⟩
    · have hx' : ¬ (0 ≤ x1.toInt - 10 ∧ x1.toInt - 10 < n) := fun y => hx ((q_10 x1 10 n (by omega) h1).mpr y)
      rw [r_cL_no hC (by rw [L10]; exact hx')]
      simp only [Option.bind_some, Option.elim_none]
      rcases q_ix (x1 - nI 20) n with hy | ⟨i, hi, hy⟩
      · have hy' : ¬ (0 ≤ x1.toInt - 20 ∧ x1.toInt - 20 < n) := fun y => hy ((q_10 x1 20 n (by omega) h1).mpr y)
        rw [r_cL_no hC (by rw [L20]; exact hy')]
        refine ⟨-1000, σ, σ, rfl, ?_, hX⟩
        rw [hf2]
        exact (m_J59 h1 hC.2.2.1 x1 x2 _).1 hx' hy'
      · have e1 : x1 = nI (20 + i) := by
          have e : (x1 - nI 20) + nI 20 = x1 := Int32.sub_add_cancel ..
          rw [← e, hy, nI_add, Nat.add_comm]
        rw [r_cL_yes hC (i := i) (by rw [L20, e1, nI_toInt (by omega)]; omega) hi]
        simp only [Option.bind_some, Option.elim_some, wt_0_999]
        have hgi := hC.ge hi
        cases hq : q_wi x2 0 999 with
        | false =>
          refine ⟨-1000, σ, σ, rfl, ?_, hX⟩
          rw [hf2, (m_J59 h1 hC.2.2.1 x1 x2 _).2.2 i hi e1, hq]; rfl
        | true =>
          rw [if_pos rfl, if_pos (r_1 hC hi)]
          unfold f1_takeHeads
          rw [if_pos (r_1 hC hi)]
          refine ⟨_, _, sF (sF σ (A i) 3 x2) 43 i x2, rfl, ?_, fin i 3 43 hi (Or.inr ⟨rfl, rfl⟩)⟩
          rw [hf2, (m_J59 h1 (by rw [q_FFa (by omega)]; exact hC.2.2.1) x1 x2 _).2.2 i hi e1, hq, if_pos rfl, q_FFa (by omega), (hC.2.2.2 i hi).2.1.2.2.2]
    · have e1 : x1 = nI (10 + i) := by
        have e : (x1 - nI 10) + nI 10 = x1 := Int32.sub_add_cancel ..
        rw [← e, hx, nI_add, Nat.add_comm]
      rw [r_cL_yes hC (i := i) (by rw [L10, e1, nI_toInt (by omega)]; omega) hi]
      simp only [Option.bind_some, Option.elim_some, wt_0_1]
      have hgi := hC.ge hi
      cases hq : q_wi x2 0 1 with
      | false =>
        refine ⟨-1000, σ, σ, rfl, ?_, hX⟩
        rw [hf2, (m_J59 h1 hC.2.2.1 x1 x2 _).2.1 i hi e1, hq]; rfl
      | true =>
        rw [if_pos rfl, if_pos (r_1 hC hi)]
        unfold f1_become
        rw [if_pos (r_1 hC hi)]
        have hx2 : x2 = 0 ∨ x2 = 1 := by
          have := q_wiT.mp hq
          have hv : x2.toInt = 0 ∨ x2.toInt = 1 := by omega
          rcases hv with hv | hv
          · exact Or.inl (i_ext hv)
          · exact Or.inr (i_ext hv)
        refine ⟨_, _, sF (sF σ (A i) 2 x2) 42 i x2, rfl, ?_, fin i 2 42 hi (Or.inl ⟨rfl, rfl, hx2⟩)⟩
        rw [hf2, (m_J59 h1 (by rw [q_FFa (by omega)]; exact hC.2.2.1) x1 x2 _).2.1 i hi e1, hq, if_pos rfl, q_FFa (by omega), (hC.2.2.2 i hi).2.1.2.2.1]
