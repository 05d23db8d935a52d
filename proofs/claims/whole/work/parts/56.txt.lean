/-! THE METHODS: text -/
theorem r_X.rg {σ σ' : am_S} {t : Nat} {V : Nat → tx_E → Int32} (h : r_X t V σ) (h13 : ∀ i, i < 160 → fF σ' 13 (160 * t + i) = fF σ 13 (160 * t + i)) (h14 : ∀ i, i < 3 → fF σ' 14 (3 * t + i) = fF σ 14 (3 * t + i)) (h37 : ∀ i, i < 160 → fF σ' 37 (160 * t + i) = fF σ 37 (160 * t + i)) (h38 : fF σ' 38 t = fF σ 38 t) : r_X t V σ' := by
  obtain ⟨b, n, L, h1, h2, h3, h4, h5⟩ := h
  refine ⟨b, n, L, h1, h38.trans h2, fun i hi => ⟨(h3 i hi).1, ?_⟩, h4, fun k hk => ?_⟩
  · show fF σ' 37 (160 * t + i) = _
    rw [h37 i (by omega)]; exact (h3 i hi).2
  · obtain ⟨s, s1, s2, s3, s4⟩ := h5 k hk
    refine ⟨s, ?_, s2, fun i hi => ?_, ?_⟩
    · show fF σ' 14 (3 * t + k) = _
      rw [h14 k hk]; exact s1
    · show fF σ' 13 (160 * t + (s + i)) = _
      rw [h13 (s + i) (by omega)]; exact s3 i hi
    · show fF σ' 13 (160 * t + (s + (L k).length)) = _
      rw [h13 _ (by omega)]; exact s4
theorem n_cp (N : Nat) {tc z : Nat} (ht : tc < 6) (hz : z ≤ 160) : ∀ d i n' (σ : am_S), i + d = z → d < n' → fF σ 36 6 = nI z → fF σ 36 3 = nI tc → ∃ σ', f12_text_L14 N n' (nI i) σ = f12_text_J49 N σ' ∧ q_Ag (fun a k => a = 37 ∧ 160 * tc ≤ k) σ σ' ∧ (∀ j, i ≤ j → j < z → fF σ' 37 (160 * tc + j) = fF σ 39 j) ∧ ∀ j, j < i → fF σ' 37 (160 * tc + j) = fF σ 37 (160 * tc + j) := by
  intro d
  induction d with
  | zero =>
    intro i n' σ hi hn e1 e2
    obtain ⟨n', rfl⟩ : ∃ m, n' = m + 1 := ⟨n' - 1, by omega⟩
    refine ⟨σ, ?_, q_Ag.rf σ, fun j h1 h2 => by omega, fun _ _ => rfl⟩
    unfold f12_text_L14
    rw [e1, if_pos (nI_le (by omega) (by omega))]
  | succ d ih =>
    intro i n' σ hi hn e1 e2
    obtain ⟨n', rfl⟩ : ∃ m, n' = m + 1 := ⟨n' - 1, by omega⟩
    unfold f12_text_L14
    rw [e1, if_neg (nI_ge (by omega) (by omega)), if_pos (q_in (by omega) (by omega)), e2, show (160 : Int32) = nI 160 from rfl, pk_mul, nI_add, if_pos (q_in (by omega) (by omega)), nI_clamp (by omega), nI_clamp (by omega), nI_1]
    obtain ⟨σ', f1, g1, f2, f3⟩ := ih (i + 1) n' (sF σ 37 (160 * tc + i) (fF σ 39 i)) (by omega) (by omega) e1 e2
    refine ⟨σ', f1, q_Ag.tr (S := fun a k => a = 37 ∧ 160 * tc ≤ k) ((q_Ag.rf σ).sF ⟨rfl, by omega⟩) g1, fun j h1 h2 => ?_, fun j h1 => ?_⟩
    · by_cases c : j = i
      · subst c
        rw [f3 j (by omega), q_FFe]
      · rw [f2 j (by omega) h2, q_FFa (by decide)]
    · rw [f3 j (by omega), q_FFk (by omega)]
theorem m_text {N : Nat} (hN : 200 ≤ N) : m_OK (fun σ => f11_text N σ) (fun σ => f12_text N σ) := by
  intro σ h
  have hX := h
  obtain ⟨n, m, tc, A, B, hK, hC, hB, hW, hP, hS, hT, hI⟩ := h
  obtain ⟨t1, t2, t3, ⟨r, t4, t5, t6⟩, ⟨z, t7, t8, t9, t10⟩, t11⟩ := hT
  dsimp only
  unfold f11_text
  rw [q_bp]
  by_cases c6 : tc = 6
  · refine ⟨-4, σ, σ, ?_, ?_, hX⟩
    · unfold f10_readTape
      rw [t2, if_neg (show ¬ nI tc < (6 : Int32) from nI_nlt (b := 6) (by omega) (by omega))]
    · unfold f12_text
      rw [t3, if_pos (show nI tc = (6 : Int32) by rw [c6]; rfl)]
  have htc : tc < 6 := by omega
  have tb : ∀ i, i < z → (fF σ 39 i).toNatClampNeg < 256 ∧ fF σ 39 i = nI (fF σ 39 i).toNatClampNeg ∧ fF σ 12 i = tx_sb (fF σ 39 i).toNatClampNeg := fun i hi => by
    obtain ⟨b, b1, b2, b3⟩ := t10 i hi
    have e : (fF σ 39 i).toNatClampNeg = b := by rw [b2, nI_clamp (by omega)]
    rw [e]
    exact ⟨b1, b2, b3⟩
  have kS : k_S (fun i => (fF σ 39 i).toNatClampNeg) z tc σ := ⟨t7, htc, t8, t2, fun i hi => ⟨(tb i hi).1, (tb i hi).2.2⟩⟩
  obtain ⟨v, σ1, e1, g1, o1, o2⟩ := k_text hN kS
  -- the model
  have m6 : fF σ1 36 6 = nI z := (g1.2 36 6 (by unfold k_s4 k_s3 k_s2; omega)).1.trans t9
  have m3 : fF σ1 36 3 = nI tc := (g1.2 36 3 (by unfold k_s4 k_s3 k_s2; omega)).1.trans t3
  obtain ⟨σm, f1, gm, f2, -⟩ := n_cp N htc t7 z 0 N σ1 (by omega) (by omega) m6 m3
  have gn : q_Ag (fun a k => (a = 37 ∧ 160 * tc ≤ k) ∨ (a = 38 ∧ k = tc) ∨ (a = 36 ∧ k = 6)) σ1 (sF (sF σm 38 tc (nI z)) 36 6 0) := ((gm.wk (T := fun a k => (a = 37 ∧ 160 * tc ≤ k) ∨ (a = 38 ∧ k = tc) ∨ (a = 36 ∧ k = 6)) (fun a k x => Or.inl x)).sF (Or.inr (Or.inl ⟨rfl, rfl⟩))).sF (Or.inr (Or.inr ⟨rfl, rfl⟩))
  have n38 : fF (sF (sF σm 38 tc (nI z)) 36 6 0) 38 tc = nI z := by rw [q_FFa (by decide), q_FFe]
  have n37 : ∀ i, i < z → fF (sF (sF σm 38 tc (nI z)) 36 6 0) 37 (160 * tc + i) = nI (fF σ 39 i).toNatClampNeg := fun i hi => by
    rw [q_FFa (by decide), q_FFa (by decide), f2 i (by omega) hi, (g1.2 39 i (by unfold k_s4 k_s3 k_s2; omega)).1]
    exact (tb i hi).2.1
  have n3 : fF (sF (sF σm 38 tc (nI z)) 36 6 0) 36 3 = nI tc := (gn.2 36 3 (by omega)).1.trans m3
  have n6 : fF (sF (sF σm 38 tc (nI z)) 36 6 0) 36 6 = 0 := q_FFe
  have hmdl : f12_text N σ1 = ((f12_read N (sF (sF σm 38 tc (nI z)) 36 6 0) (nI tc) 0 0 0 0 (nI 0)).bind fun (v4, s5) => (if fF s5 36 29 = 0 then (some ((fF (sF s5 36 3 ((fF s5 36 3) + (1 : Int32))) 36 3) - (1 : Int32), sF s5 36 3 ((fF s5 36 3) + (1 : Int32)))) else (some ((-100 : Int32) - (fF s5 36 30), s5)))) := by
    unfold f12_text
    rw [m3, if_neg (show ¬ nI tc = (6 : Int32) from fun y => c6 (q_nI (b := 6) (by omega) (by omega) y)), show (0 : Int32) = nI 0 from rfl, f1]
    unfold f12_text_J49
    rw [(gm.2 36 3 (by omega)).1, m3, if_pos (q_in htc (by omega)), nI_clamp (by omega), (gm.2 36 6 (by omega)).1, m6, show (0 : Int32) = nI 0 from rfl]
    rw [show fF (sF (sF σm 38 tc (nI z)) 36 6 (nI 0)) 36 3 = nI tc from n3]
  generalize (sF (sF σm 38 tc (nI z)) 36 6 0) = σn at gn n38 n37 n3 n6 hmdl
  obtain ⟨w, σ2, e2, g2, o3⟩ := n_read hN (b := fun i => (fF σ 39 i).toNatClampNeg) (n := z) (x := tc) (k := 0) (σ := σn) 0 0 0 0 (by omega) htc t7 n38 (fun i hi => ⟨(tb i hi).1, n37 i hi⟩)
  rw [e2, Option.bind_some] at hmdl
  dsimp only at hmdl
  have g12 : q_Ag (fun a k => k_s4 tc a k ∨ n_s0 a k ∨ (a = 37 ∧ 160 * tc ≤ k) ∨ (a = 38 ∧ k = tc) ∨ (a = 36 ∧ (k = 3 ∨ k = 6))) σ σ2 :=
    (g1.wk (fun a k x => Or.inl x)).tr ((gn.wk (fun a k x => Or.inr (Or.inr (by omega)))).tr (g2.wk (fun a k x => Or.inr (Or.inl x))))
  have z2 : ∀ a k, a < 36 → fF σ2 a k = fF σ1 a k := fun a k ha => (g2.2 a k (by unfold n_s0; omega)).1.trans (gn.2 a k (by omega)).1
  have p3 : fF σ2 36 3 = nI tc := (g2.2 36 3 (by unfold n_s0; omega)).1.trans n3
  have p6 : fF σ2 36 6 = nI 0 := (g2.2 36 6 (by unfold n_s0; omega)).1.trans n6
  -- what all ends have alike
  have fin : ∀ (σ3 : am_S) (tc' : Nat), q_Ag (fun a k => a = 36 ∧ k = 3) σ2 σ3 → tc ≤ tc' → tc' ≤ 6 → fF σ3 11 4 = nI tc' → fF σ3 36 3 = nI tc' → (∀ t, tc ≤ t → t < tc' → ∃ V, r_X t V σ3) → RX σ3 := by
    intro σ3 tc' g3 h1 h2 h4 h3 hnew
    have g : q_Ag (fun a k => k_s4 tc a k ∨ n_s0 a k ∨ (a = 37 ∧ 160 * tc ≤ k) ∨ (a = 38 ∧ k = tc) ∨ (a = 36 ∧ (k = 3 ∨ k = 6))) σ σ3 := g12.tr (g3.wk (fun a k x => Or.inr (Or.inr (Or.inr (Or.inr ⟨x.1, Or.inl x.2⟩)))))
    refine ⟨n, m, tc', A, B, hK.mv g, hC.mv g ?_, hB.mv g (Nat.le_refl _) ?_, hW.mv g ?_, hP.mv g ?_, hS.mv g ?_, ⟨⟨by omega, h2⟩, h4, h3, ⟨r, by omega, ?_, ?_⟩, ⟨0, by omega, ?_, ?_, fun i hi => absurd hi (Nat.not_lt_zero i)⟩, fun t ht => ?_⟩, hI.mv g (Nat.le_refl _) (Nat.le_refl _) h1 (fun _ _ => rfl) (fun _ _ => rfl) ?_⟩
    · intro a k hc hs
      unfold k_s4 k_s3 k_s2 n_s0 at hs
      rcases hc with h | h | h | h | ⟨i', hi', h, hk'⟩
      · omega
      · omega
      · omega
      · omega
      · have := hC.ge hi'
        omega
    · intro a k hc hs
      unfold k_s4 k_s3 k_s2 n_s0 at hs
      rcases hc with h | h | h | h | ⟨i', hi', h, hk'⟩
      · omega
      · omega
      · omega
      · omega
      · have := hB.ge hi'
        omega
    · intro a k hc hs; unfold k_s4 k_s3 k_s2 n_s0 at hs; unfold r_Wc at hc; omega
    · intro a k hc hs; unfold k_s4 k_s3 k_s2 n_s0 at hs; unfold r_Pc at hc; omega
    · intro a k hc hs; unfold k_s4 k_s3 k_s2 n_s0 at hs; unfold r_Sc at hc; omega
    · exact (g.2 11 5 (by unfold k_s4 k_s3 k_s2 n_s0; omega)).1.trans t5
    · exact (g.2 36 4 (by unfold k_s4 k_s3 k_s2 n_s0; omega)).1.trans t6
    · rw [(g3.2 11 1 (by omega)).1, z2 11 1 (by omega)]; exact o1
    · exact (g3.2 36 6 (by omega)).1.trans p6
    · by_cases ct : t < tc
      · obtain ⟨V, hV⟩ := t11 t ct
        exact ⟨V, hV.rg (fun i hi => (g.2 13 _ (by unfold k_s4 k_s3 k_s2 n_s0; omega)).1) (fun i hi => (g.2 14 _ (by unfold k_s4 k_s3 k_s2 n_s0; omega)).1) (fun i hi => (g.2 37 _ (by unfold k_s4 k_s3 k_s2 n_s0; omega)).1) (g.2 38 t (by unfold k_s4 k_s3 k_s2 n_s0; omega)).1⟩
      · exact hnew t (by omega) ht
    · intro a k hc hs
      unfold k_s4 k_s3 k_s2 n_s0 at hs
      rcases hc with h | h | h | ⟨i', hi', h, hk'⟩ | ⟨i', hi', h, hk'⟩
      · omega
      · omega
      · omega
      · have := hC.ge hi'
        omega
      · have := hB.ge hi'
        omega
  cases hz : tx_T (fun i => (fF σ 39 i).toNatClampNeg) z with
  | inl f =>
    rw [hz] at o2 o3
    obtain ⟨o4, o5⟩ := (o2 : v = -100 - nI f ∧ fF σ1 11 4 = nI tc)
    have o6 : n_F f σ2 := o3
    rw [if_neg (by rw [o6.1]; decide), o6.2] at hmdl
    refine ⟨v, σ1, σ2, e1, by rw [hmdl, o4], fin σ2 tc (q_Ag.rf σ2) (Nat.le_refl _) (by omega) ?_ p3 (fun t h1 h2 => by omega)⟩
    rw [z2 11 4 (by omega)]; exact o5
  | inr q =>
    rw [hz] at o2 o3
    obtain ⟨o4, o5, o6⟩ := o2
    obtain ⟨-, o7⟩ := o3
    rw [if_pos o7, p3, nI_1, q_FFe, nI_pred] at hmdl
    have g3 : q_Ag (fun a k => a = 36 ∧ k = 3) σ2 (sF σ2 36 3 (nI (tc + 1))) := (q_Ag.rf σ2).sF ⟨rfl, rfl⟩
    refine ⟨v, σ1, sF σ2 36 3 (nI (tc + 1)), e1, by rw [hmdl, o4], fin _ (tc + 1) g3 (by omega) (by omega) ?_ q_FFe (fun t h1 h2 => ?_)⟩
    · rw [q_FFa (by decide), z2 11 4 (by omega)]; exact o5
    · have : t = tc := by omega
      subst this
      refine ⟨q.1, fun i => (fF σ 39 i).toNatClampNeg, z, q.2, t7, ?_, fun i hi => ⟨(tb i hi).1, ?_⟩, hz, fun k hk => ?_⟩
      · rw [q_FFa (by decide), (g2.2 38 t (by unfold n_s0; omega)).1]; exact n38
      · show fF (sF σ2 36 3 (nI (t + 1))) 37 (160 * t + i) = _
        rw [q_FFa (by decide), (g2.2 37 _ (by unfold n_s0; omega)).1]; exact n37 i hi
      · obtain ⟨s, s1, s2, s3, s4⟩ := o6 k hk
        refine ⟨s, ?_, s2, fun i hi => ?_, ?_⟩
        · show fF (sF σ2 36 3 (nI (t + 1))) 14 (3 * t + k) = _
          rw [q_FFa (by decide), z2 14 _ (by omega)]; exact s1
        · show fF (sF σ2 36 3 (nI (t + 1))) 13 (160 * t + (s + i)) = _
          rw [q_FFa (by decide), z2 13 _ (by omega)]; exact s3 i hi
        · show fF (sF σ2 36 3 (nI (t + 1))) 13 (160 * t + (s + (q.2 k).length)) = _
          rw [q_FFa (by decide), z2 13 _ (by omega)]; exact s4
