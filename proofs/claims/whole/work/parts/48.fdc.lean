/-! THE METHODS: feed, crossing -/
theorem fd_byte (y : Int64) : ∃ b : Nat, b < 256 ∧ (y &&& 255).toInt32 = nI b ∧ (y.toInt32).toInt8.toInt32 = tx_sb b := by
  refine ⟨y.toBitVec.toNat % 256, by omega, ?_, ?_⟩
  · refine Int32.toBitVec_inj.mp ?_
    refine BitVec.eq_of_toNat_eq ?_
    have e : (y &&& 255).toInt32.toBitVec.toNat = (y.toBitVec.toNat &&& 255) % 2 ^ 32 := by
      show ((y.toBitVec &&& (255 : Int64).toBitVec).signExtend 32).toNat = _
      rw [BitVec.signExtend_eq_setWidth_of_le _ (by decide), BitVec.toNat_setWidth, BitVec.toNat_and]
      rfl
    rw [e, show (255 : Nat) = 2 ^ 8 - 1 from rfl, Nat.and_two_pow_sub_one_eq_mod]
    show _ = (BitVec.ofNat 32 _).toNat
    rw [BitVec.toNat_ofNat]
  · have e : y.toInt32.toInt8 = (nI (y.toBitVec.toNat % 256)).toInt8 := by
      refine Int8.toBitVec_inj.mp ?_
      refine BitVec.eq_of_toNat_eq ?_
      have e1 : y.toInt32.toInt8.toBitVec.toNat = y.toBitVec.toNat % 2 ^ 32 % 2 ^ 8 := by
        show ((y.toBitVec.signExtend 32).signExtend 8).toNat = _
        rw [BitVec.signExtend_eq_setWidth_of_le _ (by decide), BitVec.signExtend_eq_setWidth_of_le _ (by decide), BitVec.toNat_setWidth, BitVec.toNat_setWidth]
      have e2 : (nI (y.toBitVec.toNat % 256)).toInt8.toBitVec.toNat = y.toBitVec.toNat % 256 % 2 ^ 32 % 2 ^ 8 := by
        show ((BitVec.ofNat 32 (y.toBitVec.toNat % 256)).signExtend 8).toNat = _
        rw [BitVec.signExtend_eq_setWidth_of_le _ (by decide), BitVec.toNat_setWidth, BitVec.toNat_ofNat]
      rw [e1, e2]
      omega
    rw [e]; rfl
def fd_y (l : Int64) (i : Nat) : Int64 := l >>> (((8 : Int32) * nI i).toInt64 &&& 63)
theorem fd_c (N : Nat) {k : Nat} {l : Int64} (hk : k ≤ 8) : ∀ d i m n' (σ : am_S), i + d = k → d < n' → m + d ≤ 160 → fF σ 11 1 = nI m → ∃ σ', f10_addBytes_L18 N n' (nI k) l (nI i) σ = some (nI (m + d), σ') ∧ q_Ag (fun a p => (a = 12 ∧ m ≤ p) ∨ (a = 11 ∧ p = 1)) σ σ' ∧ fF σ' 11 1 = nI (m + d) ∧ ∀ j, j < d → fF σ' 12 (m + j) = ((fd_y l (i + j)).toInt32).toInt8.toInt32 := by
  intro d
  induction d with
  | zero =>
    intro i m n' σ hi hn hm e
    obtain ⟨n', rfl⟩ : ∃ m, n' = m + 1 := ⟨n' - 1, by omega⟩
    refine ⟨σ, ?_, q_Ag.rf σ, e, fun j hj => absurd hj (Nat.not_lt_zero j)⟩
    unfold f10_addBytes_L18
    rw [if_pos (nI_le (by omega) (by omega)), e]; rfl
  | succ d ih =>
    intro i m n' σ hi hn hm e
    obtain ⟨n', rfl⟩ : ∃ m, n' = m + 1 := ⟨n' - 1, by omega⟩
    unfold f10_addBytes_L18
    rw [if_neg (nI_ge (by omega) (by omega)), e, if_pos (q_in (by omega) (by omega)), nI_clamp (by omega), q_FFa (by decide), e, nI_1, nI_1, fb_byte_twice]
    obtain ⟨σ', f1, f2, f3, f4⟩ := ih (i + 1) (m + 1) n' (sF (sF σ 12 m (((fd_y l i).toInt32).toInt8.toInt32)) 11 1 (nI (m + 1))) (by omega) (by omega) (by omega) q_FFe
    rw [show m + 1 + d = m + (d + 1) by omega] at f1 f3
    refine ⟨σ', f1, q_Ag.tr (S := fun a p => (a = 12 ∧ m ≤ p) ∨ (a = 11 ∧ p = 1)) (((q_Ag.rf σ).sF (Or.inl ⟨rfl, Nat.le_refl _⟩)).sF (Or.inr ⟨rfl, rfl⟩)) (f2.wk (fun a p x => by omega)), f3, fun j hj => ?_⟩
    by_cases c : j = 0
    · subst c
      rw [(f2.2 12 (m + 0) (by omega)).1, q_FFa (by decide)]
      exact q_FFe
    · have := f4 (j - 1) (by omega)
      rw [show m + 1 + (j - 1) = m + j by omega, show i + 1 + (j - 1) = i + j by omega] at this
      exact this
theorem fd_m (N : Nat) {k : Nat} {l : Int64} (hk : k ≤ 8) : ∀ d i m n' (σ : am_S), i + d = k → d < n' → m + d ≤ 160 → fF σ 36 6 = nI m → ∃ σ', f12_feed_L33 N n' (nI k) l (nI i) σ = some (nI (m + d), σ') ∧ q_Ag (fun a p => (a = 39 ∧ m ≤ p) ∨ (a = 36 ∧ p = 6)) σ σ' ∧ fF σ' 36 6 = nI (m + d) ∧ ∀ j, j < d → fF σ' 39 (m + j) = (fd_y l (i + j) &&& 255).toInt32 := by
  intro d
  induction d with
  | zero =>
    intro i m n' σ hi hn hm e
    obtain ⟨n', rfl⟩ : ∃ m, n' = m + 1 := ⟨n' - 1, by omega⟩
    refine ⟨σ, ?_, q_Ag.rf σ, e, fun j hj => absurd hj (Nat.not_lt_zero j)⟩
    unfold f12_feed_L33
    rw [if_pos (nI_le (by omega) (by omega)), e]; rfl
  | succ d ih =>
    intro i m n' σ hi hn hm e
    obtain ⟨n', rfl⟩ : ∃ m, n' = m + 1 := ⟨n' - 1, by omega⟩
    unfold f12_feed_L33
    rw [if_neg (nI_ge (by omega) (by omega)), e, if_pos (q_in (by omega) (by omega)), nI_clamp (by omega), q_FFa (by decide), e, nI_1, nI_1]
    obtain ⟨σ', f1, f2, f3, f4⟩ := ih (i + 1) (m + 1) n' (sF (sF σ 39 m ((fd_y l i &&& 255).toInt32)) 36 6 (nI (m + 1))) (by omega) (by omega) (by omega) q_FFe
    rw [show m + 1 + d = m + (d + 1) by omega] at f1 f3
    refine ⟨σ', f1, q_Ag.tr (S := fun a p => (a = 39 ∧ m ≤ p) ∨ (a = 36 ∧ p = 6)) (((q_Ag.rf σ).sF (Or.inl ⟨rfl, Nat.le_refl _⟩)).sF (Or.inr ⟨rfl, rfl⟩)) (f2.wk (fun a p x => by omega)), f3, fun j hj => ?_⟩
    by_cases c : j = 0
    · subst c
      rw [(f2.2 39 (m + 0) (by omega)).1, q_FFa (by decide)]
      exact q_FFe
    · have := f4 (j - 1) (by omega)
      rw [show m + 1 + (j - 1) = m + j by omega, show i + 1 + (j - 1) = i + j by omega] at this
      exact this
theorem m_feed {N : Nat} (hN : 200 ≤ N) (x1 : Int32) (x2 : Int64) : m_OK (fun σ => f11_feed N σ x1 x2) (fun σ => f12_feed N σ x1 x2) := by
  intro σ h
  have hX := h
  obtain ⟨n, m, tc, A, B, hK, hC, hB, hW, hP, hS, hT, hI⟩ := h
  obtain ⟨t1, t2, t3, t4, ⟨z, t7, t8, t9, t10⟩, t11⟩ := hT
  dsimp only
  have eb : ∀ x : Option (Int32 × am_S), (x.bind fun (v2, s3) => some (v2, s3)) = x := fun x => by cases x <;> rfl
  unfold f11_feed
  rw [wt_1_8, Option.bind_some]
  cases hq : q_wi x1 1 8 with
  | false =>
    refine ⟨-2, σ, σ, rfl, ?_, hX⟩
    unfold f12_feed
    rw [in_1_8, hq]; rfl
  | true =>
    have hw := q_wiT.mp hq
    obtain ⟨k, hk, rfl, ek⟩ := q_ofb (n := 9) (x := x1) (by omega) (by omega)
    rw [if_pos rfl, eb]
    unfold f10_addBytes
    rw [t8, show (160 : Int32) = nI 160 from rfl, pk_sub t7]
    by_cases c : k ≤ 160 - z
    · rw [if_pos (nI_le c (by omega))]
      obtain ⟨σ1, e1, g1, c1, c2⟩ := fd_c N (k := k) (l := x2) (by omega) k 0 z N σ (by omega) (by omega) (by omega) t8
      obtain ⟨σ2, e2, g2, d1, d2⟩ := fd_m N (k := k) (l := x2) (by omega) k 0 z N σ1 (by omega) (by omega) (by omega) (by rw [(g1.2 36 6 (by omega)).1]; exact t9)
      rw [show (0 : Int32) = nI 0 from rfl, e1]
      refine ⟨_, σ1, σ2, rfl, ?_, ?_⟩
      · unfold f12_feed
        rw [in_1_8, hq, Option.bind_some, if_pos rfl, (g1.2 36 6 (by omega)).1, t9, nI_add, if_pos (show nI (z + k) ≤ (160 : Int32) from nI_le (b := 160) (by omega) (by omega))]
        exact e2
      · have g : q_Ag (fun a p => (a = 12 ∧ z ≤ p) ∨ (a = 11 ∧ p = 1) ∨ (a = 39 ∧ z ≤ p) ∨ (a = 36 ∧ p = 6)) σ σ2 := (g1.wk (fun a p x => by omega)).tr (g2.wk (fun a p x => by omega))
        refine ⟨n, m, tc, A, B, hK.mv g, hC.mv g ?_, hB.mv g (Nat.le_refl _) ?_, hW.mv g ?_, hP.mv g ?_, hS.mv g ?_, ?_, hI.mv g (Nat.le_refl _) (Nat.le_refl _) (Nat.le_refl _) (fun _ _ => rfl) (fun _ _ => rfl) ?_⟩
        · intro a k hc hs
          rcases hc with h | h | h | h | ⟨i', hi', h, hk'⟩
          · omega
          · omega
          · omega
          · omega
          · have := hC.ge hi'
            omega
        · intro a k hc hs
          rcases hc with h | h | h | h | ⟨i', hi', h, hk'⟩
          · omega
          · omega
          · omega
          · omega
          · have := hB.ge hi'
            omega
        · intro a k hc hs; unfold r_Wc at hc; omega
        · intro a k hc hs; unfold r_Pc at hc; omega
        · intro a k hc hs; unfold r_Sc at hc; omega
        · obtain ⟨r, r1, r2, r3⟩ := t4
          refine ⟨t1, (g.2 11 4 (by omega)).1.trans t2, (g.2 36 3 (by omega)).1.trans t3, ⟨r, r1, (g.2 11 5 (by omega)).1.trans r2, (g.2 36 4 (by omega)).1.trans r3⟩, ⟨z + k, by omega, ?_, d1, fun i hi => ?_⟩, fun t ht => ?_⟩
          · rw [(g2.2 11 1 (by omega)).1]; exact c1
          · by_cases ci : i < z
            · obtain ⟨b, b1, b2, b3⟩ := t10 i ci
              exact ⟨b, b1, (g.2 39 i (by omega)).1.trans b2, (g.2 12 i (by omega)).1.trans b3⟩
            · obtain ⟨b, b1, b2, b3⟩ := fd_byte (fd_y x2 (i - z))
              have x1 := c2 (i - z) (by omega)
              have x2 := d2 (i - z) (by omega)
              rw [show z + (i - z) = i by omega, Nat.zero_add] at x1 x2
              exact ⟨b, b1, x2.trans b2, ((g2.2 12 i (by omega)).1.trans x1).trans b3⟩
          · obtain ⟨V, hV⟩ := t11 t ht
            have gF : ∀ a, (a = 13 ∨ a = 14 ∨ a = 37 ∨ a = 38) → fF σ2 a = fF σ a := fun a x => funext fun k => (g.2 a k (by omega)).1
            refine ⟨V, ?_⟩
            unfold r_X
            rw [gF 13 (by omega), gF 14 (by omega), gF 37 (by omega), gF 38 (by omega)]
            exact hV
        · intro a k hc hs
          rcases hc with h | h | h | ⟨i', hi', h, hk'⟩ | ⟨i', hi', h, hk'⟩
          · omega
          · omega
          · omega
          · have := hC.ge hi'
            omega
          · have := hB.ge hi'
            omega
    · rw [if_neg (nI_ge (by omega) (by omega))]
      refine ⟨-4, σ, σ, rfl, ?_, hX⟩
      unfold f12_feed
      rw [in_1_8, hq, Option.bind_some, if_pos rfl, t9, nI_add, if_neg (show ¬ nI (z + k) ≤ (160 : Int32) from nI_ge (a := 160) (by omega) (by omega))]
-- crossing
theorem r_lt {σ : am_S} {a c : Nat} (h : am_ci σ a = c) (hc : c ≠ 99) : a < σ.1.length := by
  by_cases x : a < σ.1.length
  · exact x
  · unfold am_ci at h
    rw [List.getElem?_eq_none (by omega)] at h
    exact absurd h.symm hc
theorem r_nw (σ : am_S) (c : Nat) : am_ci (am_nw σ (.inl (c, []))) σ.1.length = c ∧ (∀ k, fF (am_nw σ (.inl (c, []))) σ.1.length k = 0) := by
  refine ⟨?_, fun k => ?_⟩
  · unfold am_ci am_nw
    rw [List.getElem?_append_right (Nat.le_refl _), Nat.sub_self]
    rfl
  · show am_z σ.2.1 σ.1.length 0 σ.1.length k = 0
    unfold am_z
    rw [if_pos rfl]
theorem m_crossing (x1 x2 : Int32) : m_OK (fun σ => f11_crossing σ x1 x2) (fun σ => f12_crossing σ x1 x2) := by
  intro σ h
  have hX := h
  obtain ⟨n, m, tc, A, B, hK, hC, hB, hW, hP, hS, hT, hI⟩ := h
  have h1 := hC.1
  have hl := hK.2
  dsimp only
  unfold f11_crossing
  rw [wt_1_60, Option.bind_some]
  cases hq : q_wi x1 1 60 with
  | false =>
    refine ⟨-2, σ, σ, rfl, ?_, hX⟩
    unfold f12_crossing
    rw [in_1_60, hq]; rfl
  | true =>
  rw [if_pos rfl]
  rcases q_ix x2 100 with hx | ⟨l, hl100, rfl⟩
  · rw [(q_lno hx).1]
    refine ⟨-2, σ, σ, rfl, ?_, hX⟩
    unfold f12_crossing
    rw [in_1_60, hq, Option.bind_some, if_pos rfl, (q_lno hx).2]; rfl
  obtain ⟨e1, e2, -, -⟩ := q_lnd hl100
  by_cases c : l / 10 ≠ l % 10
  · rw [decide_eq_true c] at e1 e2
    rw [e1, Option.bind_some, if_pos rfl, hC.2.1]
    by_cases c7 : n < 7
    · rw [if_pos (show nI n < (7 : Int32) from nI_lt (b := 7) c7 (by omega))]
      obtain ⟨w1, w2⟩ := r_nw σ 1
      have gw : q_Ag (fun a _ => a = σ.1.length) σ (am_nw σ (.inl (1, []))) := (q_Ag.rf σ).nw (fun _ => rfl)
      unfold f1_init
      rw [if_pos (by rw [w1]; rfl), Option.bind_some]
      generalize hσ1 : am_nw σ (.inl (1, [])) = σ1 at w1 w2 gw
      have k1 : am_ci (sF (sF (sF σ1 σ.1.length 2 1) σ.1.length 0 x1) σ.1.length 1 (nI l)) σ.1.length = 1 := w1
      have r8 : fF (sQ (sF (sF (sF σ1 σ.1.length 2 1) σ.1.length 0 x1) σ.1.length 1 (nI l)) 9 n (some σ.1.length)) 8 3 = nI n := by
        rw [q_FQ, q_FFa (by omega), q_FFa (by omega), q_FFa (by omega), (gw.2 8 3 (by omega)).1, hC.2.1]
      rw [if_pos (by rw [k1]; rfl), if_pos (q_in c7 (by omega)), nI_clamp (by omega), r8, nI_1, q_FFe, nI_pred]
      generalize hσ2 : sF (sQ (sF (sF (sF σ1 σ.1.length 2 1) σ.1.length 0 x1) σ.1.length 1 (nI l)) 9 n (some σ.1.length)) 8 3 (nI (n + 1)) = σ2
      have g2 : q_Ag (fun a k => a = σ.1.length ∨ (a = 9 ∧ k = n) ∨ (a = 8 ∧ k = 3)) σ σ2 := by
        rw [← hσ2]
        exact (((((gw.wk (T := fun a k => a = σ.1.length ∨ (a = 9 ∧ k = n) ∨ (a = 8 ∧ k = 3)) (fun a k x => Or.inl x)).sF (Or.inl rfl)).sF (Or.inl rfl)).sF (Or.inl rfl)).sQ (Or.inr (Or.inl ⟨rfl, rfl⟩))).sF (Or.inr (Or.inr ⟨rfl, rfl⟩))
      have o0 : fF σ2 σ.1.length 0 = x1 := by rw [← hσ2, q_FFa (by omega), q_FQ, q_FFk (by decide), q_FFe]
      have o1 : fF σ2 σ.1.length 1 = nI l := by rw [← hσ2, q_FFa (by omega), q_FQ, q_FFe]
      have o2 : fF σ2 σ.1.length 2 = 1 := by rw [← hσ2, q_FFa (by omega), q_FQ, q_FFk (by decide), q_FFk (by decide), q_FFe]
      have o3 : fF σ2 σ.1.length 3 = 0 := by rw [← hσ2, q_FFa (by omega), q_FQ, q_FFk (by decide), q_FFk (by decide), q_FFk (by decide), w2]
      have oq : fQ σ2 9 n = some σ.1.length := by rw [← hσ2, q_QF, q_QQe]
      have oc : am_ci σ2 σ.1.length = 1 := by rw [← hσ2]; exact w1
      have o8 : fF σ2 8 3 = nI (n + 1) := by rw [← hσ2, q_FFe]
      have m11 : fF σ2 36 11 = nI n := (g2.2 36 11 (by omega)).1.trans hC.2.2.1
      refine ⟨nI n, σ2, sF (sF (sF (sF (sF σ2 40 n x1) 41 n (nI l)) 42 n 1) 43 n 0) 36 11 (nI (n + 1)), rfl, ?_, ?_⟩
      · unfold f12_crossing
        rw [in_1_60, hq, Option.bind_some, if_pos rfl, e2, Option.bind_some, if_pos rfl]
        have c7' : ¬ nI n = (7 : Int32) := fun y => by have := q_nI (b := 7) (by omega) (by omega) y; omega
        simp only [q_FFa (show (36 : Nat) ≠ 40 by decide), q_FFa (show (36 : Nat) ≠ 41 by decide), q_FFa (show (36 : Nat) ≠ 42 by decide), q_FFa (show (36 : Nat) ≠ 43 by decide), m11, q_in c7 (show n < 2 ^ 31 by omega), nI_clamp (show n < 2 ^ 31 by omega), nI_1, q_FFe, nI_pred, reduceIte, if_neg c7']
      · have gf : q_Ag (fun a k => a = σ.1.length ∨ (a = 9 ∧ k = n) ∨ (a = 8 ∧ k = 3) ∨ (40 ≤ a ∧ a ≤ 43 ∧ k = n) ∨ (a = 36 ∧ k = 11)) σ (sF (sF (sF (sF (sF σ2 40 n x1) 41 n (nI l)) 42 n 1) 43 n 0) 36 11 (nI (n + 1))) :=
          (((((g2.wk (fun a k x => by omega)).sF (Or.inr (Or.inr (Or.inr (Or.inl ⟨by omega, by omega, rfl⟩))))).sF (Or.inr (Or.inr (Or.inr (Or.inl ⟨by omega, by omega, rfl⟩))))).sF (Or.inr (Or.inr (Or.inr (Or.inl ⟨by omega, by omega, rfl⟩))))).sF (Or.inr (Or.inr (Or.inr (Or.inl ⟨by omega, by omega, rfl⟩))))).sF (Or.inr (Or.inr (Or.inr (Or.inr ⟨rfl, rfl⟩))))
        have p0 : fF (sF (sF (sF (sF (sF σ2 40 n x1) 41 n (nI l)) 42 n 1) 43 n 0) 36 11 (nI (n + 1))) 40 n = x1 := by rw [q_FFa (by decide), q_FFa (by decide), q_FFa (by decide), q_FFa (by decide), q_FFe]
        have p1 : fF (sF (sF (sF (sF (sF σ2 40 n x1) 41 n (nI l)) 42 n 1) 43 n 0) 36 11 (nI (n + 1))) 41 n = nI l := by rw [q_FFa (by decide), q_FFa (by decide), q_FFa (by decide), q_FFe]
        have p2 : fF (sF (sF (sF (sF (sF σ2 40 n x1) 41 n (nI l)) 42 n 1) 43 n 0) 36 11 (nI (n + 1))) 42 n = 1 := by rw [q_FFa (by decide), q_FFa (by decide), q_FFe]
        have p3 : fF (sF (sF (sF (sF (sF σ2 40 n x1) 41 n (nI l)) 42 n 1) 43 n 0) 36 11 (nI (n + 1))) 43 n = 0 := by rw [q_FFa (by decide), q_FFe]
        have p4 : fF (sF (sF (sF (sF (sF σ2 40 n x1) 41 n (nI l)) 42 n 1) 43 n 0) 36 11 (nI (n + 1))) 36 11 = nI (n + 1) := q_FFe
        have pL : ∀ k, fF (sF (sF (sF (sF (sF σ2 40 n x1) 41 n (nI l)) 42 n 1) 43 n 0) 36 11 (nI (n + 1))) σ.1.length k = fF σ2 σ.1.length k := fun k => by rw [q_FFa (by omega), q_FFa (by omega), q_FFa (by omega), q_FFa (by omega), q_FFa (by omega)]
        have pQ : fQ (sF (sF (sF (sF (sF σ2 40 n x1) 41 n (nI l)) 42 n 1) 43 n 0) 36 11 (nI (n + 1))) 9 n = some σ.1.length := oq
        have pC : am_ci (sF (sF (sF (sF (sF σ2 40 n x1) 41 n (nI l)) 42 n 1) 43 n 0) 36 11 (nI (n + 1))) σ.1.length = 1 := oc
        have p8 : fF (sF (sF (sF (sF (sF σ2 40 n x1) 41 n (nI l)) 42 n 1) 43 n 0) 36 11 (nI (n + 1))) 8 3 = nI (n + 1) := by rw [q_FFa (by decide), q_FFa (by decide), q_FFa (by decide), q_FFa (by decide), q_FFa (by decide)]; exact o8
        generalize (sF (sF (sF (sF (sF σ2 40 n x1) 41 n (nI l)) 42 n 1) 43 n 0) 36 11 (nI (n + 1))) = σ3 at gf p0 p1 p2 p3 p4 pL pQ pC p8
        have lA : ∀ i, i < n → A i < σ.1.length := fun i hi => r_lt (hC.2.2.2 i hi).1.2.2 (by decide)
        have lB : ∀ j, j < m → B j < σ.1.length := fun j hj => by
          obtain ⟨k, -, -, hk⟩ := (hB.2.2.2 j hj).1.2.2
          exact r_lt hk (r_kc_ne k)
        obtain ⟨A', hA1, hA2⟩ : ∃ A' : Nat → Nat, A' n = σ.1.length ∧ ∀ i, i ≠ n → A' i = A i := ⟨fun i => if i = n then σ.1.length else A i, if_pos rfl, fun i h => if_neg h⟩
        refine ⟨n + 1, m, tc, A', B, hK.mv gf, ⟨by omega, p8, p4, fun i hi => ?_⟩, hB.mv gf (by omega) ?_, hW.mv gf ?_, hP.mv gf ?_, hS.mv gf ?_, hT.mv gf ?_, hI.mv gf (by omega) (Nat.le_refl _) (Nat.le_refl _) (fun i hi => hA2 i (by omega)) (fun _ _ => rfl) ?_⟩
        · by_cases ci : i = n
          · subst ci
            refine ⟨⟨?_, ?_, ?_⟩, ⟨?_, ?_, ?_, ?_⟩, ?_, ?_, fun j hj e => ?_⟩
            · rw [hA1]; exact hl
            · rw [hA1]; exact pQ
            · rw [hA1]; exact pC
            · rw [hA1, pL, o0, p0]
            · rw [hA1, pL, o1, p1]
            · rw [hA1, pL, o2, p2]
            · rw [hA1, pL, o3, p3]
            · exact ⟨l, p1, hl100, c⟩
            · exact Or.inr p2
            · rw [hA1] at e
              by_cases cj : j = i
              · exact cj.symm
              · rw [hA2 j cj] at e
                have := lA j (by omega)
                omega
          · have hin : i < n := by omega
            have hgi := hC.ge hin
            have hli := lA i hin
            obtain ⟨⟨a1, a2, a3⟩, ⟨b1, b2, b3, b4⟩, ⟨l', c1, c2⟩, d, e⟩ := hC.2.2.2 i hin
            have fA : ∀ k, fF σ3 (A i) k = fF σ (A i) k := fun k => (gf.2 (A i) k (by omega)).1
            have f4 : ∀ a, 40 ≤ a ∧ a ≤ 43 → fF σ3 a i = fF σ a i := fun a x => (gf.2 a i (by omega)).1
            refine ⟨⟨?_, ?_, ?_⟩, ⟨?_, ?_, ?_, ?_⟩, ?_, ?_, fun j hj e' => ?_⟩
            · rw [hA2 i ci]; exact a1
            · rw [hA2 i ci, (gf.2 9 i (by omega)).2]; exact a2
            · rw [hA2 i ci]; exact gf.ci a3 (by decide)
            · rw [hA2 i ci, fA, f4 40 (by omega)]; exact b1
            · rw [hA2 i ci, fA, f4 41 (by omega)]; exact b2
            · rw [hA2 i ci, fA, f4 42 (by omega)]; exact b3
            · rw [hA2 i ci, fA, f4 43 (by omega)]; exact b4
            · exact ⟨l', (f4 41 (by omega)).trans c1, c2⟩
            · rw [f4 42 (by omega)]; exact d
            · rw [hA2 i ci] at e'
              by_cases cj : j = n
              · rw [cj, hA1] at e'; omega
              · rw [hA2 j cj] at e'
                exact e j (by omega) e'
        · intro a k hc hs
          rcases hc with h | h | h | h | ⟨i', hi', h, hk'⟩
          · omega
          · omega
          · omega
          · omega
          · have := hB.ge hi'
            have := lB i' hi'
            omega
        · intro a k hc hs; unfold r_Wc at hc; omega
        · intro a k hc hs; unfold r_Pc at hc; omega
        · intro a k hc hs; unfold r_Sc at hc; omega
        · intro a k hc hs; unfold r_Tc at hc; omega
        · intro a k hc hs
          rcases hc with h | h | h | ⟨i', hi', h, hk'⟩ | ⟨i', hi', h, hk'⟩
          · omega
          · omega
          · omega
          · have := hC.ge hi'
            have := lA i' hi'
            omega
          · have := hB.ge hi'
            have := lB i' hi'
            omega
    · rw [if_neg (show ¬ nI n < (7 : Int32) from nI_nlt (b := 7) (by omega) (by omega))]
      refine ⟨-4, σ, σ, rfl, ?_, hX⟩
      unfold f12_crossing
      rw [in_1_60, hq, Option.bind_some, if_pos rfl, e2, Option.bind_some, if_pos rfl, hC.2.2.1, if_pos (show nI n = (7 : Int32) by rw [show n = 7 by omega]; rfl)]
  · rw [decide_eq_false c] at e1 e2
    rw [e1]
    refine ⟨-2, σ, σ, rfl, ?_, hX⟩
    unfold f12_crossing
    rw [in_1_60, hq, Option.bind_some, if_pos rfl, e2]; rfl
