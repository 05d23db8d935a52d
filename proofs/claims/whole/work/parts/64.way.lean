/-! LEAST WAYS: class and model measure them -/
def ft_K (σ0 : am_S) (a : Nat) (p l : Nat → Nat) (o : Nat → Bool) (n : Nat) (A : Nat → Nat) : Prop :=
  (r_K σ0 ∧ (a = 24 ∨ a = 25) ∧ n ≤ 7) ∧ (∀ k, k < 100 → fF σ0 22 k = nI (p k) ∧ p k ≤ 99 ∧ p (ft_t k) = p k) ∧
  ∀ j, j < n → (fQ σ0 9 j = some (A j) ∧ am_ci σ0 (A j) = 1 ∧ 68 ≤ A j) ∧ fF σ0 (A j) 1 = nI (l j) ∧ (fF σ0 (A j) 2 = 0 ↔ o j = false) ∧ l j < 100 ∧ l j / 10 ≠ l j % 10
def ft_M (σ0 : am_S) (p l : Nat → Nat) (o : Nat → Bool) (n : Nat) : Prop :=
  n ≤ 7 ∧ fF σ0 36 11 = nI n ∧ (∀ k, k < 100 → fF σ0 56 k = nI (p k) ∧ p k ≤ 99 ∧ p (ft_t k) = p k) ∧
  ∀ j, j < n → fF σ0 41 j = nI (l j) ∧ (fF σ0 42 j = 1 ↔ o j = true) ∧ l j < 100 ∧ l j / 10 ≠ l j % 10
theorem ft_5 {v : Nat} (hv : v < 2 ^ 31) : (if (5 : Int32) < nI v then (5 : Int32) else nI v) = nI (min v 5) := by
  by_cases c : 5 < v
  · rw [if_pos (show (5 : Int32) < nI v from nI_lt (a := 5) c hv), Nat.min_eq_right (by omega)]; rfl
  · rw [if_neg (show ¬ (5 : Int32) < nI v from nI_nlt (a := 5) (by omega) (by omega)), Nat.min_eq_left (by omega)]
theorem ft_mn {c s : Nat} (hc : c < 2 ^ 31) (hs : s < 2 ^ 31) : (if nI s < nI c then nI s else nI c) = nI (min c s) := by
  by_cases d : s < c
  · rw [if_pos (nI_lt d hc), Nat.min_eq_right (by omega)]
  · rw [if_neg (nI_nlt (by omega) hs), Nat.min_eq_left (by omega)]
section FTM
variable {σ0 : am_S} {p l : Nat → Nat} {o : Nat → Bool} {n a : Nat} {A : Nat → Nat}
theorem ft_an (h : ft_K σ0 a p l o n A) {σ : am_S} (g : q_Ag (fun x _ => x = a) σ0 σ) : am_an σ a 0 = 100 := by
  rcases h.1.2.1 with e | e
  · rw [e]; exact (h.1.1.mv g).an kM24
  · rw [e]; exact (h.1.1.mv g).an kM25
theorem ft_1 {N : Nat} (h : ft_K σ0 a p l o n A) {x3 : Int32} : ∀ d i n' (σ : am_S), i + d = 100 → d < n' → q_Ag (fun x _ => x = a) σ0 σ → (∀ k, k < i → fF σ a k = nI (ft_b p 1000000 k)) → ∃ σ', f4_measure_L3 N n' a x3 (nI i) σ = f4_measure_J59 N a x3 σ' ∧ q_Ag (fun x _ => x = a) σ0 σ' ∧ ∀ k, k < 100 → fF σ' a k = nI (ft_b p 1000000 k) := by
  intro d
  induction d with
  | zero =>
    intro i n' σ hi hn g hr
    obtain ⟨n', rfl⟩ : ∃ m, n' = m + 1 := ⟨n' - 1, by omega⟩
    have : i = 100 := by omega
    subst this
    refine ⟨σ, ?_, g, hr⟩
    conv => lhs; unfold f4_measure_L3
    rw [if_pos (show (100 : Int32) ≤ nI 100 from nI_le (a := 100) (Nat.le_refl _) (by omega))]
  | succ d ih =>
    intro i n' σ hi hn g hr
    obtain ⟨n', rfl⟩ : ∃ m, n' = m + 1 := ⟨n' - 1, by omega⟩
    have hin : i < 100 := by omega
    have ha : a = 24 ∨ a = 25 := h.1.2.1
    have st : f4_measure_L3 N (n' + 1) a x3 (nI i) σ = f4_measure_L3 N n' a x3 (nI (i + 1)) (sF σ a i (nI (ft_b p 1000000 i))) := by
      have e2 : nI i - nI i / 10 * 10 = nI (i % 10) := pk_rem (d := 10) (by omega) (by omega) (by omega)
      have e1 : nI i / 10 = nI (i / 10) := pk_div (d := 10) (by omega) (by omega) (by omega)
      have p1 : fF σ 22 i = nI (p i) := (g.2 22 i (by omega)).1.trans (h.2.1 i hin).1
      have p2 := (h.2.1 i hin).2.1
      conv => lhs; unfold f4_measure_L3
      rw [if_neg (show ¬ (100 : Int32) ≤ nI i from nI_ge (b := 100) hin (by omega)), e2, e1, ft_an h g, nI_clamp (by omega), nI_1, p1]
      unfold ft_b
      by_cases c : i / 10 = i % 10
      · rw [if_pos ((nI_eq (by omega) (by omega)).mpr c), if_pos (by decide), if_pos (q_in hin (by omega)), if_pos c]; rfl
      · rw [if_neg (fun x => c ((nI_eq (by omega) (by omega)).mp x)), if_pos (q_in hin (by omega)), if_neg c]
        by_cases z : p i = 0
        · rw [if_pos z, z, if_pos (by decide), if_pos (by decide), if_pos (q_in hin (by omega))]; rfl
        · rw [if_neg z, if_neg (show ¬ nI (p i) ≤ (0 : Int32) from nI_ge (a := 0) (by omega) (by omega)), if_pos (q_in hin (by omega)), if_pos (by decide), if_pos (q_in hin (by omega))]
    rw [st]
    exact ih (i + 1) n' _ (by omega) (by omega) (g.sF rfl) (fun k hk => by
      by_cases c : k = i
      · rw [c, q_FFe]
      · rw [q_FFk c]; exact hr k (by omega))
theorem ft_2 {N : Nat} (h : ft_K σ0 a p l o n A) : ∀ d j n' (σ : am_S), j + d = n → d < n' → q_Ag (fun x _ => x = a) σ0 σ → (∀ k, k < 100 → fF σ a k = nI (ft_c p l o 1000000 j k)) → ∃ σ', f4_measure_L62 N n' a (nI n) (nI j) σ = f4_measure_J123 N a σ' ∧ q_Ag (fun x _ => x = a) σ0 σ' ∧ ∀ k, k < 100 → fF σ' a k = nI (ft_c p l o 1000000 n k) := by
  have h7 := h.1.2.2
  intro d
  induction d with
  | zero =>
    intro j n' σ hi hn g hr
    obtain ⟨n', rfl⟩ : ∃ m, n' = m + 1 := ⟨n' - 1, by omega⟩
    have : j = n := by omega
    subst this
    refine ⟨σ, ?_, g, hr⟩
    conv => lhs; unfold f4_measure_L62
    rw [if_pos (nI_le (Nat.le_refl _) (by omega))]
  | succ d ih =>
    intro j n' σ hi hn g hr
    obtain ⟨n', rfl⟩ : ∃ m, n' = m + 1 := ⟨n' - 1, by omega⟩
    have hin : j < n := by omega
    have ha : a = 24 ∨ a = 25 := h.1.2.1
    obtain ⟨⟨q1, q2, q3⟩, q4, q5, q6, q7⟩ := h.2.2 j hin
    have c1 : [1].contains (am_ci σ (A j)) = true := by rw [g.ci q2 (by decide)]; rfl
    have f1 : ∀ k, fF σ (A j) k = fF σ0 (A j) k := fun k => (g.2 (A j) k (by omega)).1
    conv =>
      enter [1, σ', 1, 1]
      unfold f4_measure_L62
    rw [if_neg (nI_ge hin (by omega)), if_pos (q_in (by omega) (by omega)), nI_clamp (by omega), (g.2 9 j (by omega)).2, q1, Option.elim_some, if_pos c1, f1 2, f1 1, q4, nI_1]
    cases ho : o j with
    | false =>
      rw [if_pos (q5.mpr ho)]
      exact ih (j + 1) n' σ (by omega) (by omega) g (fun k hk => by
        rw [hr k hk]
        show _ = nI (if o j = true ∧ (k = l j ∨ k = ft_t (l j)) then min (ft_c p l o 1000000 j k) 5 else ft_c p l o 1000000 j k)
        rw [if_neg (fun x => by rw [ho] at x; exact absurd x.1 (by decide))])
    | true =>
      have hb := ft_w (l := l) (o := o) (F := 1000000) (fun k hk => (h.2.1 k hk).2.1) j (l j) q6
      rw [if_neg (fun x => by rw [q5.mp x] at ho; exact absurd ho (by decide)), ft_an h g, if_pos (by decide), if_pos (q_in q6 (by omega)), if_pos (q_in q6 (by omega)), nI_clamp (by omega), hr _ q6, ft_5 (by omega)]
      have g1 : q_Ag (fun x _ => x = a) σ0 (sF σ a (l j) (nI (min (ft_c p l o 1000000 j (l j)) 5))) := g.sF rfl
      have e1 : fF (sF σ a (l j) (nI (min (ft_c p l o 1000000 j (l j)) 5))) (A j) 1 = nI (l j) := by rw [q_FFa (by omega), f1]; exact q4
      have e2 : fF (sF σ a (l j) (nI (min (ft_c p l o 1000000 j (l j)) 5))) a (l j) = nI (min (ft_c p l o 1000000 j (l j)) 5) := q_FFe
      have e3 : ∀ k, k ≠ l j → k < 100 → fF (sF σ a (l j) (nI (min (ft_c p l o 1000000 j (l j)) 5))) a k = nI (ft_c p l o 1000000 j k) := fun k hk hk2 => by rw [q_FFk hk]; exact hr k hk2
      generalize sF σ a (l j) (nI (min (ft_c p l o 1000000 j (l j)) 5)) = σ1 at g1 e1 e2 e3 ⊢
      rw [e1, (q_lnd q6).2.2.1, Option.bind_some, ft_an h g1, if_pos (q_in q6 (by omega)), show l j % 10 * 10 + l j / 10 = ft_t (l j) from rfl, if_pos (q_in (ft_tl q6) (by have := ft_tl q6; omega)), nI_clamp (show l j < 2 ^ 31 by omega), nI_clamp (show ft_t (l j) < 2 ^ 31 by have := ft_tl q6; omega), e2]
      refine ih (j + 1) n' _ (by omega) (by omega) (g1.sF rfl) (fun k hk => ?_)
      show _ = nI (if o j = true ∧ (k = l j ∨ k = ft_t (l j)) then min (ft_c p l o 1000000 j k) 5 else ft_c p l o 1000000 j k)
      by_cases k1 : k = ft_t (l j)
      · rw [if_pos ⟨ho, Or.inr k1⟩, k1, q_FFe, ft_sy (fun k hk => (h.2.1 k hk).2.2) n (fun j hj => (h.2.2 j hj).2.2.2.1) j (by omega) (l j) q6]
      · rw [q_FFk k1]
        by_cases k2 : k = l j
        · rw [if_pos ⟨ho, Or.inl k2⟩, k2, e2]
        · rw [if_neg (fun x => x.2.elim k2 k1)]
          exact e3 k k2 hk
theorem ft_3 {N : Nat} (h : ft_K σ0 a p l o n A) (k126 : Nat → Int32 → am_S → Option am_S) {w : Nat → Nat} {b : Nat} (hb : b < 10) (hw : fw_0 w) (hwl : ∀ k, k < 100 → w k ≤ 1000000) : ∀ d i n' (σ : am_S), i + d = 100 → d < n' → q_Ag (fun x _ => x = a) σ0 σ → (∀ k, k < 100 → fF σ a k = nI (if k < i then fw_s b w k else w k)) → ∃ σ', f4_measure_L136 k126 N n' a (nI b) (nI i) σ = k126 a (nI (b + 1)) σ' ∧ q_Ag (fun x _ => x = a) σ0 σ' ∧ ∀ k, k < 100 → fF σ' a k = nI (fw_s b w k) := by
  intro d
  induction d with
  | zero =>
    intro i n' σ hi hn g hr
    obtain ⟨n', rfl⟩ : ∃ m, n' = m + 1 := ⟨n' - 1, by omega⟩
    have : i = 100 := by omega
    subst this
    refine ⟨σ, ?_, g, fun k hk => by rw [hr k hk, if_pos hk]⟩
    conv => lhs; unfold f4_measure_L136 f4_measure_J191
    rw [if_pos (show (100 : Int32) ≤ nI 100 from nI_le (a := 100) (Nat.le_refl _) (by omega)), nI_1]
  | succ d ih =>
    intro i n' σ hi hn g hr
    obtain ⟨n', rfl⟩ : ∃ m, n' = m + 1 := ⟨n' - 1, by omega⟩
    have hin : i < 100 := by omega
    have e2 : nI i - nI i / 10 * 10 = nI (i % 10) := pk_rem (d := 10) (by omega) (by omega) (by omega)
    have e1 : nI i / 10 = nI (i / 10) := pk_div (d := 10) (by omega) (by omega) (by omega)
    have r1 : fF σ a (i / 10 * 10 + b) = nI (w (i / 10 * 10 + b)) := by
      rw [hr _ (by omega)]
      by_cases c : i / 10 * 10 + b < i
      · rw [if_pos c, fw_row hw hb]
      · rw [if_neg c]
    have r2 : fF σ a (b * 10 + i % 10) = nI (w (b * 10 + i % 10)) := by
      rw [hr _ (by omega)]
      by_cases c : b * 10 + i % 10 < i
      · rw [if_pos c, fw_col hw hb (by omega)]
      · rw [if_neg c]
    have r3 : fF σ a i = nI (w i) := by
      rw [hr _ hin, if_neg (by omega)]
    have w1 := hwl (i / 10 * 10 + b) (by omega)
    have w2 := hwl (b * 10 + i % 10) (by omega)
    have w3 := hwl i hin
    conv =>
      enter [1, σ', 1, 1]
      unfold f4_measure_L136
    rw [if_neg (show ¬ (100 : Int32) ≤ nI i from nI_ge (b := 100) hin (by omega)), e2, e1, ft_an h g, show (10 : Int32) = nI 10 from rfl, pk_mul, pk_mul, nI_add, nI_add, if_pos (by decide), if_pos (q_in (by omega) (by omega)), if_pos (q_in (by omega) (by omega)), if_pos (q_in hin (by omega)), if_pos (q_in hin (by omega)), nI_clamp (by omega), nI_clamp (by omega), nI_clamp (by omega), r1, r2, r3, nI_add, ft_mn (by omega) (by omega), nI_1]
    refine ih (i + 1) n' _ (by omega) (by omega) (g.sF rfl) (fun k hk => ?_)
    by_cases c : k = i
    · rw [c, q_FFe, if_pos (by omega)]; rfl
    · rw [q_FFk c, hr k hk]
      by_cases c2 : k < i
      · rw [if_pos c2, if_pos (by omega)]
      · rw [if_neg c2, if_neg (by omega)]
theorem ft_4 {N : Nat} (hN : 200 ≤ N) (h : ft_K σ0 a p l o n A) {w : Nat → Nat} (hw : fw_0 w) (hwl : ∀ k, k < 100 → w k ≤ 1000000) : ∀ d b n' (σ : am_S), b + d = 10 → d < n' → q_Ag (fun x _ => x = a) σ0 σ → (∀ k, k < 100 → fF σ a k = nI (fw w b k)) → ∃ σ', f4_measure_L126 N n' a (nI b) σ = some σ' ∧ q_Ag (fun x _ => x = a) σ0 σ' ∧ ∀ k, k < 100 → fF σ' a k = nI (fw w 10 k) := by
  intro d
  induction d with
  | zero =>
    intro b n' σ hi hn g hr
    obtain ⟨n', rfl⟩ : ∃ m, n' = m + 1 := ⟨n' - 1, by omega⟩
    have : b = 10 := by omega
    subst this
    refine ⟨σ, ?_, g, hr⟩
    conv => lhs; unfold f4_measure_L126
    rw [if_pos (show (10 : Int32) ≤ nI 10 from nI_le (a := 10) (Nat.le_refl _) (by omega))]
  | succ d ih =>
    intro b n' σ hi hn g hr
    obtain ⟨n', rfl⟩ : ∃ m, n' = m + 1 := ⟨n' - 1, by omega⟩
    have hb : b < 10 := by omega
    obtain ⟨σ1, e1, g1, r1⟩ := ft_3 (N := N) h (f4_measure_L126 N n') (w := fw w b) (b := b) hb (fw_00 hw b) (fun k hk => Nat.le_trans (fw_le b k) (hwl k hk)) 100 0 N σ (by omega) (by omega) g (fun k hk => by rw [hr k hk, if_neg (by omega)])
    obtain ⟨σ2, e2, g2, r2⟩ := ih (b + 1) n' σ1 (by omega) (by omega) g1 r1
    refine ⟨σ2, ?_, g2, r2⟩
    conv => lhs; unfold f4_measure_L126
    rw [if_neg (show ¬ (10 : Int32) ≤ nI b from nI_ge (b := 10) hb (by omega)), show (0 : Int32) = nI 0 from rfl, e1, e2]
theorem ft_cls {N : Nat} (hN : 200 ≤ N) (h : ft_K σ0 a p l o n A) : ∃ σ', f4_measure N σ0 a (nI n) = some σ' ∧ q_Ag (fun x _ => x = a) σ0 σ' ∧ ∀ k, k < 100 → fF σ' a k = nI (ft_D p l o 1000000 n k) := by
  have h7 := h.1.2.2
  obtain ⟨σ1, e1, g1, r1⟩ := ft_1 (N := N) h (x3 := nI n) 100 0 N σ0 (by omega) (by omega) (q_Ag.rf σ0) (fun k hk => by omega)
  obtain ⟨σ2, e2, g2, r2⟩ := ft_2 (N := N) h n 0 N σ1 (by omega) (by omega) g1 r1
  obtain ⟨σ3, e3, g3, r3⟩ := ft_4 hN h (w := ft_c p l o 1000000 n) (ft_z n (fun j hj => (h.2.2 j hj).2.2.2) n (Nat.le_refl _)) (fun k hk => by
    have := ft_w (l := l) (o := o) (F := 1000000) (fun k hk => (h.2.1 k hk).2.1) n k hk
    omega) 10 0 N σ2 (by omega) (by omega) g2 r2
  refine ⟨σ3, ?_, g3, r3⟩
  unfold f4_measure
  rw [show (0 : Int32) = nI 0 from rfl, e1]
  unfold f4_measure_J59
  rw [show (0 : Int32) = nI 0 from rfl, e2]
  unfold f4_measure_J123
  exact e3
end FTM
