/-! WAITS: the model's loops -/
def wm_S (a _k : Nat) : Prop := 51 ≤ a ∧ a ≤ 54
section WTL
variable {M t k : Nat} {it : Nat → Nat} {σ0 : am_S}
theorem wm_37 {N : Nat} (hM : M ≤ 24) (ht : 1 ≤ t ∧ t ≤ 9) (hk : k ≤ 14) (hS : wt_S M it M ≤ 480) {k205 : Int32 → Int32 → Int32 → Int32 → Int32 → Int32 → Int32 → am_S → Option (Int32 × am_S)} {k227 : Int32 → Int32 → Int32 → Int32 → Int32 → Int32 → Int32 → Int32 → Int32 → am_S → Option (Int32 × am_S)} {x1 x4 x6 : Int32} {d r : Nat} (hd : d + 1 ≤ M) (hr : r < 2 * t) (hi : it (M - (d + 1)) ≤ 20) : ∀ e w n' (σ : am_S), w + e + it (M - (d + 1)) = 481 → e < n' → q_Ag wm_S σ0 σ → wm_T M t k it d σ → wm_N M t k it d r w σ → ∃ σ', f12_waits_L237 k205 k227 N n' x1 (nI t) (nI k) x4 (nI M) x6 (nI (M - (d + 1))) (nI (it (M - (d + 1)))) (nI r) (nI w) σ = k227 x1 (nI t) (nI k) x4 (nI M) x6 (nI (M - (d + 1))) (nI (it (M - (d + 1)))) (nI (r + 1)) σ' ∧ q_Ag wm_S σ0 σ' ∧ wm_T M t k it d σ' ∧ wm_N M t k it d (r + 1) 0 σ' := by
  have e1 : M - d = M - (d + 1) + 1 := by omega
  have h2 : wt_S M it (M - d) = wt_S M it (M - (d + 1)) + it (M - (d + 1)) := by rw [e1]; exact wt_Ss (by omega)
  have h3 : wt_S M it (M - d) ≤ wt_S M it M := wt_Sm _ _ (by omega)
  intro e
  induction e with
  | zero =>
    intro w n' σ hw hn g hT hN'
    obtain ⟨n', rfl⟩ : ∃ m, n' = m + 1 := ⟨n' - 1, by omega⟩
    refine ⟨σ, ?_, g, hT, fun r' w' h4 h5 h6 => hN' r' w' h4 h5 (by omega)⟩
    conv => lhs; unfold f12_waits_L237 f12_waits_J285
    rw [nI_add, if_pos (show (481 : Int32) ≤ nI (w + it (M - (d + 1))) from nI_le (a := 481) (by omega) (by omega)), nI_1]
  | succ e ih =>
    intro w n' σ hw hn g hT hN'
    obtain ⟨n', rfl⟩ : ∃ m, n' = m + 1 := ⟨n' - 1, by omega⟩
    obtain ⟨σ1, r1, g1, v1⟩ := wm_min (σ := σ) (m := M - (d + 1)) (r := r) (w := w) (w' := w + it (M - (d + 1))) (t := t) (k := k) (b := decide (d = 0)) ht.1 ht.2 hk hr (by omega) (by omega)
    have c52 : ∀ a j, a = 52 ∨ a = 54 → fF σ1 a j = fF σ a j := fun a j h => (g1.2 a j (fun x => by unfold wm_c at x; omega)).1
    have hT1 : wm_T M t k it d σ1 := fun r' w' h4 h5 => by
      rw [c52 52 _ (Or.inl rfl), c52 54 _ (Or.inr rfl)]; exact hT r' w' h4 h5
    have hN1 : wm_N M t k it d r (w + 1) σ1 := fun r' w' h4 h5 h6 => by
      by_cases c : r' = r ∧ w' = w
      · obtain ⟨rfl, rfl⟩ := c
        have vv := wm_val hM ht hS hd hT h4 h5
        rw [vv] at v1
        exact ⟨(Prod.mk.inj v1).1, (Prod.mk.inj v1).2⟩
      · have ne : ∀ a, ¬ wm_c (481 * r + w) a (481 * r' + w') := fun a x => by unfold wm_c at x; omega
        rw [(g1.2 _ _ (ne 51)).1, (g1.2 _ _ (ne 53)).1]
        exact hN' r' w' h4 h5 (by omega)
    obtain ⟨σ', r2, g2⟩ := ih (w + 1) n' σ1 (by omega) (by omega) (g.tr (g1.wk (fun a j x => by unfold wm_c at x; unfold wm_S; omega))) hT1 hN1
    refine ⟨σ', ?_, g2⟩
    rw [← r2]
    conv => lhs; unfold f12_waits_L237
    rw [nI_add, if_neg (show ¬ (481 : Int32) ≤ nI (w + it (M - (d + 1))) from nI_ge (b := 481) (by omega) (by omega)), show (1 : Int32) = nI 1 from rfl, pk_sub (by omega), nI_add]
    by_cases c : d = 0
    · rw [decide_eq_true c] at r1
      rw [if_pos (by rw [c]), r1, Option.bind_some]
    · rw [decide_eq_false c] at r1
      rw [if_neg (fun x => c (by have := (nI_eq (by omega) (by omega)).mp x; omega)), r1, Option.bind_some]
theorem wm_27 {N : Nat} (hN : 500 ≤ N) (hM : M ≤ 24) (ht : 1 ≤ t ∧ t ≤ 9) (hk : k ≤ 14) (hS : wt_S M it M ≤ 480) {k205 : Int32 → Int32 → Int32 → Int32 → Int32 → Int32 → Int32 → am_S → Option (Int32 × am_S)} {x1 x4 : Int32} {d : Nat} (hd : d + 1 ≤ M) (hi : it (M - (d + 1)) ≤ 20) : ∀ e r n' (σ : am_S), r + e = 2 * t → e < n' → q_Ag wm_S σ0 σ → wm_T M t k it d σ → wm_N M t k it d r 0 σ → ∃ σ', f12_waits_L227 k205 N n' x1 (nI t) (nI k) x4 (nI M) (nI (2 * t)) (nI (M - (d + 1))) (nI (it (M - (d + 1)))) (nI r) σ = f12_waits_J291 k205 N x1 (nI t) (nI k) x4 (nI M) (nI (2 * t)) (nI (M - (d + 1))) σ' ∧ q_Ag wm_S σ0 σ' ∧ wm_N M t k it d (2 * t) 0 σ' := by
  intro e
  induction e with
  | zero =>
    intro r n' σ hr hn g hT hN'
    obtain ⟨n', rfl⟩ : ∃ m, n' = m + 1 := ⟨n' - 1, by omega⟩
    have : r = 2 * t := by omega
    subst this
    refine ⟨σ, ?_, g, hN'⟩
    conv => lhs; unfold f12_waits_L227
    rw [if_pos (nI_le (Nat.le_refl _) (by omega))]
  | succ e ih =>
    intro r n' σ hr hn g hT hN'
    obtain ⟨n', rfl⟩ : ∃ m, n' = m + 1 := ⟨n' - 1, by omega⟩
    obtain ⟨σ1, r1, g1, hT1, hN1⟩ := wm_37 (N := N) (x1 := x1) (x4 := x4) (x6 := nI (2 * t)) (k205 := k205) (k227 := f12_waits_L227 k205 N n') hM ht hk hS hd (r := r) (by omega) hi (481 - it (M - (d + 1))) 0 N σ (by omega) (by omega) g hT hN'
    obtain ⟨σ2, r2, g2⟩ := ih (r + 1) n' σ1 (by omega) (by omega) g1 hT1 hN1
    refine ⟨σ2, ?_, g2⟩
    rw [← r2, ← r1]
    conv => lhs; unfold f12_waits_L227
    rw [if_neg (nI_ge (by omega) (by omega))]
    rfl
theorem wm_94 {N : Nat} (hN : 9000 ≤ N) (ht : 1 ≤ t ∧ t ≤ 9) {k205 : Int32 → Int32 → Int32 → Int32 → Int32 → Int32 → Int32 → am_S → Option (Int32 × am_S)} {x1 x2 x3 x4 x5 : Int32} {d m : Nat} {σ : am_S} (hm : 1 ≤ M - d) (hmd : m = M - (d + 1)) (hS : wt_S M it M ≤ 480) (g : q_Ag wm_S σ0 σ) (hN' : wm_N M t k it d (2 * t) 0 σ) : ∃ σ', f12_waits_J291 k205 N x1 x2 x3 x4 x5 (nI (2 * t)) (nI m) σ = k205 x1 x2 x3 x4 x5 (nI (2 * t)) (nI m - 1) σ' ∧ q_Ag wm_S σ0 σ' ∧ wm_T M t k it (d + 1) σ' := by
  obtain ⟨σ', e1, -, g1, v1⟩ := lp_gen (fun n' i σ => f12_waits_L294 k205 N n' x1 x2 x3 x4 x5 (nI (2 * t)) (nI m) i σ) (fun σ => f12_waits_J339 k205 N x1 x2 x3 x4 x5 (nI (2 * t)) (nI m) σ) (481 * (2 * t)) (fun i => (52, i)) (fun i => (51, i)) (fun i => (54, i)) (fun i => (53, i)) (fun _ => True) (fun n' σ _ => by
      conv => lhs; unfold f12_waits_L294
      rw [show (481 : Int32) = nI 481 from rfl, pk_mul, if_pos (nI_le (Nat.le_refl _) (by omega))]) (fun n' i σ hi _ => by
      conv => lhs; unfold f12_waits_L294
      rw [show (481 : Int32) = nI 481 from rfl, pk_mul, if_neg (nI_ge hi (by omega)), if_pos (q_in (by omega) (by omega)), if_pos (q_in (by omega) (by omega)), if_pos (q_in (by omega) (by omega)), if_pos (q_in (by omega) (by omega)), nI_clamp (by omega), nI_1]
      rfl) (fun _ _ _ _ => trivial) (fun i j _ _ h => (Prod.mk.inj h).2) (fun i j _ _ h => (Prod.mk.inj h).2) (fun i j _ _ h => absurd (Prod.mk.inj h).1 (by decide)) (fun i j _ _ => ⟨fun h => absurd (Prod.mk.inj h).1 (by decide), fun h => absurd (Prod.mk.inj h).1 (by decide), fun h => absurd (Prod.mk.inj h).1 (by decide), fun h => absurd (Prod.mk.inj h).1 (by decide)⟩) (481 * (2 * t)) 0 N σ (by omega) (by omega) trivial
  refine ⟨σ', ?_, g.tr (g1.wk (fun a j x => by
    obtain ⟨i, -, -, x⟩ := x
    rcases x with x | x
    · have := (Prod.mk.inj x).1; unfold wm_S; omega
    · have := (Prod.mk.inj x).1; unfold wm_S; omega)), fun r w hr hw => ?_⟩
  · have e2 : f12_waits_L294 k205 N N x1 x2 x3 x4 x5 (nI (2 * t)) (nI m) (nI 0) σ = f12_waits_J339 k205 N x1 x2 x3 x4 x5 (nI (2 * t)) (nI m) σ' := e1
    unfold f12_waits_J291
    rw [show (0 : Int32) = nI 0 from rfl, e2]
    unfold f12_waits_J339
    rw [Int32.sub_eq_add_neg]
  · have h3 : wt_S M it (M - (d + 1)) ≤ wt_S M it M := wt_Sm _ _ (by omega)
    obtain ⟨y1, y2⟩ := v1 (481 * r + w) (by omega) (by omega)
    obtain ⟨z1, z2⟩ := hN' r w hr hw (Or.inl hr)
    exact ⟨y1.trans z1, y2.trans z2⟩
theorem wm_05 {N s : Nat} (hN : 9000 ≤ N) (hM : M ≤ 24) (ht : 1 ≤ t ∧ t ≤ 9) (hk : k ≤ 14) (hS : wt_S M it M ≤ 480) (hs : s < 4) (hit : ∀ m, m < M → fF σ0 67 (40 * s + m) = nI (it m) ∧ it m ≤ 20) {x4 : Int32} : ∀ e d n' (σ : am_S), d + e = M → e < n' → q_Ag wm_S σ0 σ → wm_T M t k it d σ → ∃ σ', f12_waits_L205 N n' (nI s) (nI t) (nI k) x4 (nI M) (nI (2 * t)) (nI (M - d) - 1) σ = f12_waits_J345 N x4 σ' ∧ q_Ag wm_S σ0 σ' ∧ wm_T M t k it M σ' := by
  intro e
  induction e with
  | zero =>
    intro d n' σ hd hn g hT
    obtain ⟨n', rfl⟩ : ∃ m, n' = m + 1 := ⟨n' - 1, by omega⟩
    have : d = M := by omega
    subst this
    refine ⟨σ, ?_, g, hT⟩
    conv => lhs; unfold f12_waits_L205
    rw [Nat.sub_self, if_pos (show (nI 0 - 1 : Int32) < 0 by decide)]
  | succ e ih =>
    intro d n' σ hd hn g hT
    obtain ⟨n', rfl⟩ : ∃ m, n' = m + 1 := ⟨n' - 1, by omega⟩
    have em : nI (M - d) - 1 = nI (M - (d + 1)) := by rw [show (1 : Int32) = nI 1 from rfl, pk_sub (by omega), show M - d - 1 = M - (d + 1) by omega]
    obtain ⟨i1, i2⟩ := hit (M - (d + 1)) (by omega)
    obtain ⟨σ1, r1, g1, hN1⟩ := wm_27 (N := N) (k205 := f12_waits_L205 N n') (x1 := nI s) (x4 := x4) (d := d) (by omega) hM ht hk hS (by omega) i2 (2 * t) 0 N σ (by omega) (by omega) g hT (fun r w _ _ h => by omega)
    obtain ⟨σ2, r2, g2, hT2⟩ := wm_94 (N := N) (k205 := f12_waits_L205 N n') (x1 := nI s) (x2 := nI t) (x3 := nI k) (x4 := x4) (x5 := nI M) hN ht (d := d) (m := M - (d + 1)) (by omega) rfl hS g1 hN1
    obtain ⟨σ3, r3, g3⟩ := ih (d + 1) n' σ2 (by omega) (by omega) g2 hT2
    refine ⟨σ3, ?_, g3⟩
    rw [← r3, ← r2, ← r1, em]
    conv => lhs; unfold f12_waits_L205
    rw [if_neg (nI_pos (by omega)), show (40 : Int32) = nI 40 from rfl, pk_mul, nI_add, if_pos (q_in (by omega) (by omega)), nI_clamp (by omega), (g.2 67 _ (fun x => by unfold wm_S at x; omega)).1, i1]
    rfl
/-- the tables behind the last minute -/
def wm_0 (t k r0 w0 : Nat) (σ : am_S) : Prop := ∀ r w, r < 2 * t → w ≤ 480 → (r < r0 ∨ (r = r0 ∧ w < w0)) → fF σ 52 (481 * r + w) = nI (r * w + 2 * t * wt_l k 480 w) ∧ fF σ 54 (481 * r + w) = nI 0
theorem wm_41 {N : Nat} (hN : 500 ≤ N) (ht : 1 ≤ t ∧ t ≤ 9) (hk : 1 ≤ k ∧ k ≤ 14) {k131 : Int32 → Int32 → Int32 → Int32 → Int32 → Int32 → Int32 → am_S → Option (Int32 × am_S)} {x1 x4 x5 x6 : Int32} {r : Nat} (hr : r < 2 * t) : ∀ e w n' (σ : am_S), w + e = 481 → e < n' → q_Ag wm_S σ0 σ → wm_0 t k r w σ → ∃ σ', f12_waits_L141 k131 N n' x1 (nI t) (nI k) x4 x5 x6 (nI r) (nI w) σ = k131 x1 (nI t) (nI k) x4 x5 x6 (nI (r + 1)) σ' ∧ q_Ag wm_S σ0 σ' ∧ wm_0 t k (r + 1) 0 σ' := by
  intro e
  induction e with
  | zero =>
    intro w n' σ hw hn g h0
    obtain ⟨n', rfl⟩ : ∃ m, n' = m + 1 := ⟨n' - 1, by omega⟩
    have : w = 481 := by omega
    subst this
    refine ⟨σ, ?_, g, fun r' w' h4 h5 h6 => h0 r' w' h4 h5 (by omega)⟩
    conv => lhs; unfold f12_waits_L141 f12_waits_J193
    rw [if_pos (show (481 : Int32) ≤ nI 481 from nI_le (a := 481) (Nat.le_refl _) (by omega)), nI_1]
  | succ e ih =>
    intro w n' σ hw hn g h0
    obtain ⟨n', rfl⟩ : ∃ m, n' = m + 1 := ⟨n' - 1, by omega⟩
    obtain ⟨σ', r2, g2⟩ := ih (w + 1) n' (sF (sF σ 52 (481 * r + w) (nI (r * w + 2 * t * wt_l k 480 w))) 54 (481 * r + w) (nI 0)) (by omega) (by omega) ((g.sF (by unfold wm_S; omega)).sF (by unfold wm_S; omega)) (fun r' w' h4 h5 h6 => by
      by_cases c : r' = r ∧ w' = w
      · obtain ⟨rfl, rfl⟩ := c
        rw [q_FFa (by decide), q_FFe, q_FFe]
        exact ⟨rfl, rfl⟩
      · have ne : 481 * r' + w' ≠ 481 * r + w := by omega
        rw [q_FFk ne, q_FFk ne, q_FFk ne, q_FFk ne]
        exact h0 r' w' h4 h5 (by omega))
    refine ⟨σ', ?_, g2⟩
    rw [← r2]
    conv => lhs; unfold f12_waits_L141
    rw [if_neg (show ¬ (481 : Int32) ≤ nI w from nI_ge (b := 481) (by omega) (by omega)), wm_tail hN hk.1 hk.2 (by omega), Option.bind_some, show (481 : Int32) = nI 481 from rfl, pk_mul, nI_add, if_pos (q_in (by omega) (by omega)), if_pos (q_in (by omega) (by omega)), nI_clamp (by omega), nI_1]
    rfl
theorem wm_31 {N : Nat} (hN : 500 ≤ N) (ht : 1 ≤ t ∧ t ≤ 9) (hk : 1 ≤ k ∧ k ≤ 14) {x1 x4 x5 : Int32} : ∀ e r n' (σ : am_S), r + e = 2 * t → e < n' → q_Ag wm_S σ0 σ → wm_0 t k r 0 σ → ∃ σ', f12_waits_L131 N n' x1 (nI t) (nI k) x4 x5 (nI (2 * t)) (nI r) σ = f12_waits_J199 N x1 (nI t) (nI k) x4 x5 (nI (2 * t)) σ' ∧ q_Ag wm_S σ0 σ' ∧ wm_0 t k (2 * t) 0 σ' := by
  intro e
  induction e with
  | zero =>
    intro r n' σ hr hn g h0
    obtain ⟨n', rfl⟩ : ∃ m, n' = m + 1 := ⟨n' - 1, by omega⟩
    have : r = 2 * t := by omega
    subst this
    refine ⟨σ, ?_, g, h0⟩
    conv => lhs; unfold f12_waits_L131
    rw [if_pos (nI_le (Nat.le_refl _) (by omega))]
  | succ e ih =>
    intro r n' σ hr hn g h0
    obtain ⟨n', rfl⟩ : ∃ m, n' = m + 1 := ⟨n' - 1, by omega⟩
    obtain ⟨σ1, r1, g1, h1⟩ := wm_41 (N := N) hN ht hk (k131 := f12_waits_L131 N n') (x1 := x1) (x4 := x4) (x5 := x5) (x6 := nI (2 * t)) (r := r) (by omega) 481 0 N σ (by omega) (by omega) g h0
    obtain ⟨σ2, r2, g2⟩ := ih (r + 1) n' σ1 (by omega) (by omega) g1 h1
    refine ⟨σ2, ?_, g2⟩
    rw [← r2, ← r1]
    conv => lhs; unfold f12_waits_L131
    rw [if_neg (nI_ge (by omega) (by omega))]
    rfl
theorem wm_84 {N s : Nat} (hM : M ≤ 24) (hs : s < 4) {x2 x3 x4 : Int32} (hv : ∀ i, i < M → q_wi (fF σ0 67 (40 * s + i)) 0 20 = true) : ∀ e i n', i + e = M → e < n' → f12_waits_L84 N n' (nI s) x2 x3 x4 (nI M) (nI i) σ0 = f12_waits_J123 N (nI s) x2 x3 x4 (nI M) σ0 := by
  intro e
  induction e with
  | zero =>
    intro i n' hi hn
    obtain ⟨n', rfl⟩ : ∃ m, n' = m + 1 := ⟨n' - 1, by omega⟩
    conv => lhs; unfold f12_waits_L84
    rw [if_pos (nI_le (by omega) (by omega))]
  | succ e ih =>
    intro i n' hi hn
    obtain ⟨n', rfl⟩ : ∃ m, n' = m + 1 := ⟨n' - 1, by omega⟩
    conv => lhs; unfold f12_waits_L84
    rw [if_neg (nI_ge (by omega) (by omega)), show (40 : Int32) = nI 40 from rfl, pk_mul, nI_add, if_pos (q_in (by omega) (by omega)), nI_clamp (by omega), in_0_20, hv i (by omega), Option.bind_some, if_pos rfl, nI_1]
    exact ih (i + 1) n' (by omega) (by omega)
theorem wm_84n {N s j : Nat} (hM : M ≤ 24) (hs : s < 4) {x2 x3 x4 : Int32} (hj : j < M) (hv : q_wi (fF σ0 67 (40 * s + j)) 0 20 = false) : ∀ e i n', i + e = M → e < n' → i ≤ j → f12_waits_L84 N n' (nI s) x2 x3 x4 (nI M) (nI i) σ0 = some (-2, σ0) := by
  intro e
  induction e with
  | zero => intro i n' hi hn hij; omega
  | succ e ih =>
    intro i n' hi hn hij
    obtain ⟨n', rfl⟩ : ∃ m, n' = m + 1 := ⟨n' - 1, by omega⟩
    conv => lhs; unfold f12_waits_L84
    rw [if_neg (nI_ge (by omega) (by omega)), show (40 : Int32) = nI 40 from rfl, pk_mul, nI_add, if_pos (q_in (by omega) (by omega)), nI_clamp (by omega), in_0_20, Option.bind_some]
    cases hq : q_wi (fF σ0 67 (40 * s + i)) 0 20 with
    | false => rfl
    | true =>
      rw [if_pos rfl, nI_1]
      exact ih (i + 1) n' (by omega) (by omega) (by
        by_cases c : i = j
        · rw [c, hv] at hq; exact absurd hq (by decide)
        · omega)
/-- the model's answer -/
theorem wm_all {N s : Nat} (hN : 9000 ≤ N) (hM : M ≤ 24) (ht : 1 ≤ t ∧ t ≤ 9) (hk : 1 ≤ k ∧ k ≤ 14) (hs : s < 4) (hit : ∀ m, m < M → fF σ0 67 (40 * s + m) = nI (it m) ∧ it m ≤ 20) {x4 : Int32} : ∃ σ', f12_waits_J123 N (nI s) (nI t) (nI k) x4 (nI M) σ0 = some (if x4 = 0 then nI (wt_V M t k it M 0 0).1 else nI (wt_V M t k it M 0 0).2, σ') ∧ q_Ag wm_S σ0 σ' := by
  have hS : wt_S M it M ≤ 480 := by
    have := wt_Sb (M := M) (it := it) (c := 20) (fun m hm => (hit m hm).2) M (Nat.le_refl _)
    omega
  obtain ⟨σ1, r1, g1, h1⟩ := wm_31 (σ0 := σ0) (N := N) (by omega) ht hk (x1 := nI s) (x4 := x4) (x5 := nI M) (2 * t) 0 N σ0 (by omega) (by omega) (q_Ag.rf σ0) (fun r w _ _ h => by omega)
  have hT0 : wm_T M t k it 0 σ1 := fun r w hr hw => by
    have : w ≤ 480 := Nat.le_trans hw (by simpa using hS)
    exact h1 r w hr this (Or.inl hr)
  obtain ⟨σ2, r2, g2, h2⟩ := wm_05 (σ0 := σ0) (N := N) hN hM ht hk.2 hS hs hit (x4 := x4) M 0 N σ1 (by omega) (by omega) g1 hT0
  obtain ⟨v1, v2⟩ := h2 0 0 (by omega) (by omega)
  refine ⟨σ2, ?_, g2⟩
  unfold f12_waits_J123
  conv =>
    lhs
    rw [show (2 : Int32) = nI 2 from rfl, pk_mul, show (0 : Int32) = nI 0 from rfl, r1]
  unfold f12_waits_J199
  rw [show nI M - 1 = nI (M - 0) - 1 from rfl, r2]
  unfold f12_waits_J345
  have z1 : fF σ2 52 (0 : Int32).toNatClampNeg = nI (wt_V M t k it M 0 0).1 := v1
  have z2 : fF σ2 54 (0 : Int32).toNatClampNeg = nI (wt_V M t k it M 0 0).2 := v2
  have z3 : am_in (0 : Int32) 8658 = true := by decide
  rw [z1, z2, if_pos z3, if_pos z3]
  by_cases c : x4 = 0
  · rw [if_pos c, if_pos c]
  · rw [if_neg c, if_neg c]
end WTL
