/-! LEAST WAYS: the model walks -/
section FTW
variable {σ0 : am_S} {p l : Nat → Nat} {o : Nat → Bool} {n : Nat}
theorem fm_1 {N : Nat} (h : ft_M σ0 p l o n) : ∀ d i n' (σ : am_S), i + d = 100 → d < n' → q_Ag (fun x _ => x = 57) σ0 σ → (∀ k, k < i → fF σ 57 k = nI (ft_b p 1000 k)) → ∃ σ', f12_walks_L2 N n' (nI i) σ = f12_walks_J56 N σ' ∧ q_Ag (fun x _ => x = 57) σ0 σ' ∧ ∀ k, k < 100 → fF σ' 57 k = nI (ft_b p 1000 k) := by
  intro d
  induction d with
  | zero =>
    intro i n' σ hi hn g hr
    obtain ⟨n', rfl⟩ : ∃ m, n' = m + 1 := ⟨n' - 1, by omega⟩
    have : i = 100 := by omega
    subst this
    refine ⟨σ, ?_, g, hr⟩
    conv => lhs; unfold f12_walks_L2
    rw [if_pos (show (100 : Int32) ≤ nI 100 from nI_le (a := 100) (Nat.le_refl _) (by omega))]
  | succ d ih =>
    intro i n' σ hi hn g hr
    obtain ⟨n', rfl⟩ : ∃ m, n' = m + 1 := ⟨n' - 1, by omega⟩
    have hin : i < 100 := by omega
    have st : f12_walks_L2 N (n' + 1) (nI i) σ = f12_walks_L2 N n' (nI (i + 1)) (sF σ 57 i (nI (ft_b p 1000 i))) := by
      have e2 : nI i - nI i / 10 * 10 = nI (i % 10) := pk_rem (d := 10) (by omega) (by omega) (by omega)
      have e1 : nI i / 10 = nI (i / 10) := pk_div (d := 10) (by omega) (by omega) (by omega)
      have p1 : fF σ 56 i = nI (p i) := (g.2 56 i (by omega)).1.trans (h.2.2.1 i hin).1
      have p2 := (h.2.2.1 i hin).2.1
      conv => lhs; unfold f12_walks_L2
      rw [if_neg (show ¬ (100 : Int32) ≤ nI i from nI_ge (b := 100) hin (by omega)), e2, e1, nI_clamp (by omega), nI_1, p1]
      unfold ft_b
      by_cases c : i / 10 = i % 10
      · rw [if_pos ((nI_eq (by omega) (by omega)).mpr c), if_pos (q_in hin (by omega)), if_pos c]; rfl
      · rw [if_neg (fun x => c ((nI_eq (by omega) (by omega)).mp x)), if_pos (q_in hin (by omega)), if_neg c]
        by_cases z : p i = 0
        · rw [if_pos z, z, if_pos (by decide), if_pos (q_in hin (by omega))]; rfl
        · rw [if_neg z, if_neg (show ¬ nI (p i) ≤ (0 : Int32) from nI_ge (a := 0) (by omega) (by omega)), if_pos (q_in hin (by omega)), if_pos (q_in hin (by omega))]
    rw [st]
    exact ih (i + 1) n' _ (by omega) (by omega) (g.sF rfl) (fun k hk => by
      by_cases c : k = i
      · rw [c, q_FFe]
      · rw [q_FFk c]; exact hr k (by omega))
theorem fm_2 {N : Nat} (h : ft_M σ0 p l o n) : ∀ d j n' (σ : am_S), j + d = n → d < n' → q_Ag (fun x _ => x = 57) σ0 σ → (∀ k, k < 100 → fF σ 57 k = nI (ft_c p l o 1000 j k)) → ∃ σ', f12_walks_L58 N n' (nI j) σ = f12_walks_J126 N σ' ∧ q_Ag (fun x _ => x = 57) σ0 σ' ∧ ∀ k, k < 100 → fF σ' 57 k = nI (ft_c p l o 1000 n k) := by
  have h7 := h.1
  intro d
  induction d with
  | zero =>
    intro j n' σ hi hn g hr
    obtain ⟨n', rfl⟩ : ∃ m, n' = m + 1 := ⟨n' - 1, by omega⟩
    have : j = n := by omega
    subst this
    refine ⟨σ, ?_, g, hr⟩
    conv => lhs; unfold f12_walks_L58
    rw [(g.2 36 11 (by omega)).1, h.2.1, if_pos (nI_le (Nat.le_refl _) (by omega))]
  | succ d ih =>
    intro j n' σ hi hn g hr
    obtain ⟨n', rfl⟩ : ∃ m, n' = m + 1 := ⟨n' - 1, by omega⟩
    have hin : j < n := by omega
    obtain ⟨q4, q5, q6, q7⟩ := h.2.2.2 j hin
    conv =>
      enter [1, σ', 1, 1]
      unfold f12_walks_L58
    rw [(g.2 36 11 (by omega)).1, h.2.1, if_neg (nI_ge hin (by omega)), if_pos (q_in (by omega) (by omega)), if_pos (q_in (by omega) (by omega)), nI_clamp (by omega), (g.2 42 j (by omega)).1, (g.2 41 j (by omega)).1, q4, nI_1]
    cases ho : o j with
    | false =>
      rw [if_neg (fun x => by rw [q5.mp x] at ho; exact absurd ho (by decide))]
      exact ih (j + 1) n' σ (by omega) (by omega) g (fun k hk => by
        rw [hr k hk]
        show _ = nI (if o j = true ∧ (k = l j ∨ k = ft_t (l j)) then min (ft_c p l o 1000 j k) 5 else ft_c p l o 1000 j k)
        rw [if_neg (fun x => by rw [ho] at x; exact absurd x.1 (by decide))])
    | true =>
      have hb := ft_w (l := l) (o := o) (F := 1000) (fun k hk => (h.2.2.1 k hk).2.1) j (l j) q6
      have sy := ft_sy (l := l) (o := o) (F := 1000) (fun k hk => (h.2.2.1 k hk).2.2) n (fun j hj => (h.2.2.2 j hj).2.2.1) j (by omega) (l j) q6
      rw [if_pos (q5.mpr ho), if_pos (q_in q6 (by omega)), nI_clamp (show l j < 2 ^ 31 by omega), hr _ q6]
      by_cases c : ft_c p l o 1000 j (l j) ≤ 5
      · rw [if_pos (show nI _ ≤ (5 : Int32) from nI_le (b := 5) c (by omega))]
        refine ih (j + 1) n' σ (by omega) (by omega) g (fun k hk => ?_)
        rw [hr k hk]
        show _ = nI (if o j = true ∧ (k = l j ∨ k = ft_t (l j)) then min (ft_c p l o 1000 j k) 5 else ft_c p l o 1000 j k)
        by_cases k1 : k = ft_t (l j)
        · rw [if_pos ⟨ho, Or.inr k1⟩, k1, sy, Nat.min_eq_left c]
        · by_cases k2 : k = l j
          · rw [if_pos ⟨ho, Or.inl k2⟩, k2, Nat.min_eq_left c]
          · rw [if_neg (fun x => x.2.elim k2 k1)]
      · rw [if_neg (show ¬ nI _ ≤ (5 : Int32) from nI_ge (a := 5) (by omega) (by omega)), if_pos (q_in q6 (by omega)), (q_lnd q6).2.2.2, show l j % 10 * 10 + l j / 10 = ft_t (l j) from rfl, if_pos (q_in (ft_tl q6) (by have := ft_tl q6; omega)), nI_clamp (show ft_t (l j) < 2 ^ 31 by have := ft_tl q6; omega)]
        refine ih (j + 1) n' _ (by omega) (by omega) ((g.sF rfl).sF rfl) (fun k hk => ?_)
        show _ = nI (if o j = true ∧ (k = l j ∨ k = ft_t (l j)) then min (ft_c p l o 1000 j k) 5 else ft_c p l o 1000 j k)
        by_cases k1 : k = ft_t (l j)
        · rw [if_pos ⟨ho, Or.inr k1⟩, k1, q_FFe, sy, Nat.min_eq_right (by omega)]; rfl
        · rw [q_FFk k1]
          by_cases k2 : k = l j
          · rw [if_pos ⟨ho, Or.inl k2⟩, k2, q_FFe, Nat.min_eq_right (by omega)]; rfl
          · rw [if_neg (fun x => x.2.elim k2 k1), q_FFk k2]
            exact hr k hk
theorem fm_3 {N : Nat} (k128 : Int32 → am_S → Option am_S) (k136 : Int32 → Int32 → am_S → Option am_S) {w : Nat → Nat} {b x : Nat} (hb : b < 10) (hx : x < 10) (hw : fw_0 w) (hwl : ∀ k, k < 100 → w k ≤ 1000) : ∀ d y n' (σ : am_S), y + d = 10 → d < n' → q_Ag (fun x _ => x = 57) σ0 σ → (∀ k, k < 100 → fF σ 57 k = nI (if k < x * 10 + y then fw_s b w k else w k)) → ∃ σ', f12_walks_L144 k128 k136 N n' (nI b) (nI x) (nI y) σ = k136 (nI b) (nI (x + 1)) σ' ∧ q_Ag (fun x _ => x = 57) σ0 σ' ∧ ∀ k, k < 100 → fF σ' 57 k = nI (if k < (x + 1) * 10 then fw_s b w k else w k) := by
  intro d
  induction d with
  | zero =>
    intro y n' σ hi hn g hr
    obtain ⟨n', rfl⟩ : ∃ m, n' = m + 1 := ⟨n' - 1, by omega⟩
    have : y = 10 := by omega
    subst this
    refine ⟨σ, ?_, g, fun k hk => by rw [hr k hk, show x * 10 + 10 = (x + 1) * 10 by omega]⟩
    conv => lhs; unfold f12_walks_L144 f12_walks_J210
    rw [if_pos (show (10 : Int32) ≤ nI 10 from nI_le (a := 10) (Nat.le_refl _) (by omega)), nI_1]
  | succ d ih =>
    intro y n' σ hi hn g hr
    obtain ⟨n', rfl⟩ : ∃ m, n' = m + 1 := ⟨n' - 1, by omega⟩
    have hy : y < 10 := by omega
    have r1 : fF σ 57 (10 * x + b) = nI (w (x * 10 + b)) := by
      rw [show 10 * x + b = x * 10 + b by omega, hr _ (by omega)]
      by_cases c : x * 10 + b < x * 10 + y
      · rw [if_pos c, fw_row hw hb]
      · rw [if_neg c]
    have r2 : fF σ 57 (10 * b + y) = nI (w (b * 10 + y)) := by
      rw [show 10 * b + y = b * 10 + y by omega, hr _ (by omega)]
      by_cases c : b * 10 + y < x * 10 + y
      · rw [if_pos c, fw_col hw hb hy]
      · rw [if_neg c]
    have r3 : fF σ 57 (10 * x + y) = nI (w (x * 10 + y)) := by
      rw [show 10 * x + y = x * 10 + y by omega, hr _ (by omega), if_neg (by omega)]
    have w1 := hwl (x * 10 + b) (by omega)
    have w2 := hwl (b * 10 + y) (by omega)
    have w3 := hwl (x * 10 + y) (by omega)
    have sx := fw_sx (b := b) (x := x) (w := w) hy
    conv =>
      enter [1, σ', 1, 1]
      unfold f12_walks_L144
    rw [if_neg (show ¬ (10 : Int32) ≤ nI y from nI_ge (b := 10) hy (by omega)), show (10 : Int32) = nI 10 from rfl, pk_mul, pk_mul, nI_add, nI_add, nI_add, if_pos (q_in (by omega) (by omega)), if_pos (q_in (by omega) (by omega)), if_pos (q_in (by omega) (by omega)), nI_clamp (show 10 * x + y < 2 ^ 31 by omega), nI_clamp (show 10 * x + b < 2 ^ 31 by omega), nI_clamp (show 10 * b + y < 2 ^ 31 by omega), r1, r2, r3, nI_add, nI_1]
    by_cases c : w (x * 10 + y) ≤ w (x * 10 + b) + w (b * 10 + y)
    · rw [if_pos (nI_le c (by omega))]
      refine ih (y + 1) n' σ (by omega) (by omega) g (fun k hk => ?_)
      rw [hr k hk]
      by_cases ck : k = x * 10 + y
      · rw [ck, if_neg (by omega), if_pos (by omega), sx, Nat.min_eq_left c]
      · by_cases c2 : k < x * 10 + y
        · rw [if_pos c2, if_pos (by omega)]
        · rw [if_neg c2, if_neg (by omega)]
    · rw [if_neg (nI_ge (by omega) (by omega)), if_pos (q_in (by omega) (by omega))]
      refine ih (y + 1) n' _ (by omega) (by omega) (g.sF rfl) (fun k hk => ?_)
      rw [show 10 * x + y = x * 10 + y by omega]
      by_cases ck : k = x * 10 + y
      · rw [ck, q_FFe, if_pos (by omega), sx, Nat.min_eq_right (by omega)]
      · rw [q_FFk ck, hr k hk]
        by_cases c2 : k < x * 10 + y
        · rw [if_pos c2, if_pos (by omega)]
        · rw [if_neg c2, if_neg (by omega)]
theorem fm_4 {N : Nat} (hN : 200 ≤ N) (k128 : Int32 → am_S → Option am_S) {w : Nat → Nat} {b : Nat} (hb : b < 10) (hw : fw_0 w) (hwl : ∀ k, k < 100 → w k ≤ 1000) : ∀ d x n' (σ : am_S), x + d = 10 → d < n' → q_Ag (fun x _ => x = 57) σ0 σ → (∀ k, k < 100 → fF σ 57 k = nI (if k < x * 10 then fw_s b w k else w k)) → ∃ σ', f12_walks_L136 k128 N n' (nI b) (nI x) σ = k128 (nI (b + 1)) σ' ∧ q_Ag (fun x _ => x = 57) σ0 σ' ∧ ∀ k, k < 100 → fF σ' 57 k = nI (fw_s b w k) := by
  intro d
  induction d with
  | zero =>
    intro x n' σ hi hn g hr
    obtain ⟨n', rfl⟩ : ∃ m, n' = m + 1 := ⟨n' - 1, by omega⟩
    have : x = 10 := by omega
    subst this
    refine ⟨σ, ?_, g, fun k hk => by rw [hr k hk, if_pos (by omega)]⟩
    conv => lhs; unfold f12_walks_L136 f12_walks_J216
    rw [if_pos (show (10 : Int32) ≤ nI 10 from nI_le (a := 10) (Nat.le_refl _) (by omega)), nI_1]
  | succ d ih =>
    intro x n' σ hi hn g hr
    obtain ⟨n', rfl⟩ : ∃ m, n' = m + 1 := ⟨n' - 1, by omega⟩
    have hx : x < 10 := by omega
    obtain ⟨σ1, e1, g1, r1⟩ := fm_3 (σ0 := σ0) (N := N) k128 (f12_walks_L136 k128 N n') hb hx hw hwl 10 0 N σ (by omega) (by omega) g hr
    obtain ⟨σ2, e2, g2, r2⟩ := ih (x + 1) n' σ1 (by omega) (by omega) g1 r1
    refine ⟨σ2, ?_, g2, r2⟩
    conv => lhs; unfold f12_walks_L136
    rw [if_neg (show ¬ (10 : Int32) ≤ nI x from nI_ge (b := 10) hx (by omega)), show (0 : Int32) = nI 0 from rfl, e1, e2]
theorem fm_5 {N : Nat} (hN : 200 ≤ N) {w : Nat → Nat} (hw : fw_0 w) (hwl : ∀ k, k < 100 → w k ≤ 1000) : ∀ d b n' (σ : am_S), b + d = 10 → d < n' → q_Ag (fun x _ => x = 57) σ0 σ → (∀ k, k < 100 → fF σ 57 k = nI (fw w b k)) → ∃ σ', f12_walks_L128 N n' (nI b) σ = some σ' ∧ q_Ag (fun x _ => x = 57) σ0 σ' ∧ ∀ k, k < 100 → fF σ' 57 k = nI (fw w 10 k) := by
  intro d
  induction d with
  | zero =>
    intro b n' σ hi hn g hr
    obtain ⟨n', rfl⟩ : ∃ m, n' = m + 1 := ⟨n' - 1, by omega⟩
    have : b = 10 := by omega
    subst this
    refine ⟨σ, ?_, g, hr⟩
    conv => lhs; unfold f12_walks_L128
    rw [if_pos (show (10 : Int32) ≤ nI 10 from nI_le (a := 10) (Nat.le_refl _) (by omega))]
  | succ d ih =>
    intro b n' σ hi hn g hr
    obtain ⟨n', rfl⟩ : ∃ m, n' = m + 1 := ⟨n' - 1, by omega⟩
    have hb : b < 10 := by omega
    obtain ⟨σ1, e1, g1, r1⟩ := fm_4 (σ0 := σ0) hN (f12_walks_L128 N n') (w := fw w b) (b := b) hb (fw_00 hw b) (fun k hk => Nat.le_trans (fw_le b k) (hwl k hk)) 10 0 N σ (by omega) (by omega) g (fun k hk => by rw [hr k hk, if_neg (by omega)])
    obtain ⟨σ2, e2, g2, r2⟩ := ih (b + 1) n' σ1 (by omega) (by omega) g1 r1
    refine ⟨σ2, ?_, g2, r2⟩
    conv => lhs; unfold f12_walks_L128
    rw [if_neg (show ¬ (10 : Int32) ≤ nI b from nI_ge (b := 10) hb (by omega)), show (0 : Int32) = nI 0 from rfl, e1, e2]
theorem fm_all {N : Nat} (hN : 200 ≤ N) (h : ft_M σ0 p l o n) : ∃ σ', f12_walks N σ0 = some σ' ∧ q_Ag (fun x _ => x = 57) σ0 σ' ∧ ∀ k, k < 100 → fF σ' 57 k = nI (ft_D p l o 1000 n k) := by
  have h7 := h.1
  obtain ⟨σ1, e1, g1, r1⟩ := fm_1 (N := N) h 100 0 N σ0 (by omega) (by omega) (q_Ag.rf σ0) (fun k hk => by omega)
  obtain ⟨σ2, e2, g2, r2⟩ := fm_2 (N := N) h n 0 N σ1 (by omega) (by omega) g1 r1
  obtain ⟨σ3, e3, g3, r3⟩ := fm_5 (σ0 := σ0) hN (w := ft_c p l o 1000 n) (ft_z n (fun j hj => (h.2.2.2 j hj).2.2) n (Nat.le_refl _)) (fun k hk => by
    have := ft_w (l := l) (o := o) (F := 1000) (fun k hk => (h.2.2.1 k hk).2.1) n k hk
    omega) 10 0 N σ2 (by omega) (by omega) g2 r2
  refine ⟨σ3, ?_, g3, r3⟩
  unfold f12_walks
  rw [show (0 : Int32) = nI 0 from rfl, e1]
  unfold f12_walks_J56
  rw [show (0 : Int32) = nI 0 from rfl, e2]
  unfold f12_walks_J126
  exact e3
end FTW
