/-! WAITS: the class's boat -/
theorem wt_bL : ∀ m : Nat, m < 24 → (1 : Int64) <<< ((nI m).toInt64 &&& 63) = lN (2 ^ m) := by decide +kernel
theorem wt_cc (c x y : Int32) : (c + x) - (c + y) = x - y := by
  rw [Int32.add_comm c x, Int32.add_comm c y]
  rw [Int32.sub_eq_add_neg, Int32.neg_add, Int32.add_assoc, Int32.sub_eq_add_neg, Int32.add_comm c, Int32.add_assoc, Int32.add_left_neg, Int32.add_zero, ← Int32.sub_eq_add_neg]
def wc_E (M t k : Nat) (it : Nat → Nat) (m g : Nat) : Nat := wt_k (wt_A t k m (decide (m + 1 = M)) (wt_V M t k it (M - (m + 1))) (wt_S M it (m + 1) - g))
def wc_H (M t k : Nat) (it : Nat → Nat) (c : Int32) (σ : am_S) : Prop := (fF σ 17 0 = nI M ∧ fF σ 17 1 = nI k ∧ fF σ 17 2 = nI (2 * t)) ∧ (∀ j, j < 42 → fF σ 18 j = nI (wt_S M it (j + 1))) ∧ ∀ j, j < 43 → fF σ 19 j = c + nI (wt_Q M it j)
def wc_L (M t k : Nat) (it : Nat → Nat) (a : Nat) (σ : am_S) : Prop := ∀ m g, a ≤ m → m < M → g ≤ wt_S M it (m + 1) → g ≤ k * (m / (2 * t)) → fG σ 20 (m * 155 + g) = lN (wc_E M t k it m g)
section WTC
variable {M t k : Nat} {it : Nat → Nat} {c : Int32} {σ : am_S}
theorem wt_Sl (i : Nat) : wt_S M it i ≤ wt_S M it M := by
  by_cases h : i ≤ M
  · exact wt_Sm _ _ h
  · rw [show i = M + (i - M) by omega, wt_Sc]; exact Nat.le_refl _
theorem wt_Zb (hS : wt_S M it M ≤ 480) (g : Nat) : ∀ r m, wt_Z M it g m r ≤ r * 480
  | 0, m => by show 0 ≤ _; omega
  | r + 1, m => by
    have ih := wt_Zb hS g r (m + 1)
    have := wt_Sl (M := M) (it := it) (m + 1)
    show (wt_S M it (m + 1) - g) + wt_Z M it g (m + 1) r ≤ (r + 1) * 480
    omega
theorem wc_E0 {m g : Nat} (hm : m < M) (hg : g ≤ wt_S M it m) : wc_E M t k it m g = wt_k (wt_V M t k it (M - m) 0 (wt_S M it m - g)) := by
  unfold wc_E
  rw [wt_at hm hg]
theorem wc_tl (ht : 1 ≤ t ∧ t ≤ 9) (hk : 1 ≤ k ∧ k ≤ 14) (h : wc_H M t k it c σ) {w : Nat} (hw : w ≤ 480) : f0_waitsAfterLast σ (nI w) = some (lN (2 * t * wt_l k 480 w)) := by
  obtain ⟨⟨h0, h1, h2⟩, -⟩ := h
  unfold f0_waitsAfterLast
  rw [h1, h2]
  by_cases c0 : w = 0
  · subst c0
    rw [if_pos (show nI 0 ≤ (0 : Int32) by decide), wt_l0, Nat.mul_zero, show ((0 : Int64) * ((0 : Int64) + (1 : Int64))) / (2 : Int64) = 0 by decide, Int64.mul_zero, Int64.zero_mul, Int64.sub_self, Int64.mul_zero]
    rfl
  · have q1 : nI w - 1 = nI (w - 1) := by rw [show (1 : Int32) = nI 1 from rfl, pk_sub (by omega)]
    have hq : (w - 1) / k ≤ 480 := Nat.le_trans (Nat.div_le_self _ _) (by omega)
    have hc := wt_lc (k := k) (by omega) 480 w (by omega) hw
    have hqq : (w - 1) / k * ((w - 1) / k + 1) ≤ 480 * 481 := Nat.mul_le_mul hq (by omega)
    rw [if_neg (show ¬ nI w ≤ (0 : Int32) from nI_ge (a := 0) (by omega) (by omega)), if_neg (show ¬ nI k = (0 : Int32) from fun x => by have := (nI_eq (a := k) (b := 0) (by omega) (by omega)).mp x; omega), q1, pk_div (by omega) (by omega) (by omega), nI_l (by omega), nI_l (by omega), nI_l (by omega), nI_l (by omega), lN_1, lN_mul, lN_mul, show (2 : Int64) = lN 2 from rfl, pk_lDiv (by omega) (by omega) (by omega), wt_r2, lN_mul, lN_sub (by omega), lN_mul]
    rw [show (w - 1) / k * w - k * wt_r ((w - 1) / k) = wt_l k 480 w by omega]
theorem wc_h (ht : 1 ≤ t ∧ t ≤ 9) (hk : 1 ≤ k ∧ k ≤ 14) {m g w : Nat} (hg2 : g ≤ k * (m / (2 * t))) : g + min w k ≤ k * ((m + 2 * t) / (2 * t)) ∧ (m + 2 * t < 24 → g + min w k ≤ 154) := by
  have e : (m + 2 * t) / (2 * t) = m / (2 * t) + 1 := Nat.add_div_right _ (by omega)
  have h1 : g + min w k ≤ k * ((m + 2 * t) / (2 * t)) := by
    rw [e, Nat.mul_add, Nat.mul_one]
    omega
  refine ⟨h1, fun hm => ?_⟩
  have h2 : (m + 2 * t) / (2 * t) ≤ (m + 2 * t) / 2 := Nat.div_le_div_left (by omega) (by omega)
  have h3 : k * ((m + 2 * t) / (2 * t)) ≤ 14 * 11 := Nat.mul_le_mul hk.2 (by omega)
  omega
theorem wc_g (ht : 1 ≤ t ∧ t ≤ 9) (hk : 1 ≤ k ∧ k ≤ 14) {m g : Nat} (hm : m < 24) (hg2 : g ≤ k * (m / (2 * t))) : g ≤ 154 ∧ g ≤ k * ((m + 1) / (2 * t)) := by
  have h2 : m / (2 * t) ≤ m / 2 := Nat.div_le_div_left (by omega) (by omega)
  have h3 : k * (m / (2 * t)) ≤ 14 * 11 := Nat.mul_le_mul hk.2 (by omega)
  have h4 : m / (2 * t) ≤ (m + 1) / (2 * t) := Nat.div_le_div_right (by omega)
  have h5 : k * (m / (2 * t)) ≤ k * ((m + 1) / (2 * t)) := Nat.mul_le_mul (Nat.le_refl _) h4
  omega
theorem wc_put (hM : M ≤ 24) (ht : 1 ≤ t ∧ t ≤ 9) (hk : 1 ≤ k ∧ k ≤ 14) (hS : wt_S M it M ≤ 480) (h : wc_H M t k it c σ) {m g : Nat} (hm : m < M) (hL : wc_L M t k it (m + 1) σ) (hg : g ≤ wt_S M it (m + 1)) (hg2 : g ≤ k * (m / (2 * t))) : f0_planPuttingOff σ (nI m) (nI g) = some (lN (wt_k (wt_p m (wt_S M it (m + 1) - g - k) (wt_V M t k it (M - (m + 1)) (2 * t - 1) (wt_S M it (m + 1) - g - k))))) := by
  have h' := h
  obtain ⟨⟨h0, h1, h2⟩, h18, h19⟩ := h
  have s1 := wt_Sl (M := M) (it := it) (m + 1)
  have g4 := wc_g ht hk (show m < 24 by omega) hg2
  obtain ⟨hh1, hh2⟩ := wc_h ht hk (w := wt_S M it (m + 1) - g) hg2
  have e1 : fF σ 18 m - nI g = nI (wt_S M it (m + 1) - g) := by rw [h18 m (by omega), pk_sub hg]
  have e2 : (if nI k < nI (wt_S M it (m + 1) - g) then nI k else nI (wt_S M it (m + 1) - g)) = nI (min (wt_S M it (m + 1) - g) k) := ft_mn (by omega) (by omega)
  obtain ⟨hh, ehh⟩ : ∃ hh, hh = g + min (wt_S M it (m + 1) - g) k := ⟨_, rfl⟩
  have ex : nI g + (if fF σ 17 1 < fF σ 18 m - nI g then fF σ 17 1 else fF σ 18 m - nI g) = nI hh := by
    rw [h1, e1, e2, nI_add, ehh]
  rw [← ehh] at hh1 hh2
  have eh : hh ≤ wt_S M it (m + 1) := by omega
  have el : wt_S M it (m + 1) - g - k = wt_S M it (m + 1) - hh := by omega
  rw [el]
  have u := wt_un (t := t) (k := k) (it := it) hh (2 * t - 1) (m + 1) (by omega) eh
  rw [show m + 1 + (2 * t - 1) = m + 2 * t by omega] at u
  rw [u]
  have z : wt_Z M it hh m (2 * t) = (wt_S M it (m + 1) - hh) + wt_Z M it hh (m + 1) (2 * t - 1) := by
    conv => lhs; rw [show 2 * t = (2 * t - 1) + 1 by omega]
    rfl
  have zb := wt_Zb (M := M) (it := it) hS hh (2 * t) m
  have q := wt_QZ (M := M) (it := it) hh (2 * t) m eh
  have es : ((fF σ 19 (m + 2 * t) - fF σ 19 m) - (nI (2 * t) * nI hh)).toInt64 = lN (wt_Z M it hh m (2 * t)) := by
    rw [h19 _ (by omega), h19 _ (by omega), wt_cc, pk_sub (by omega), pk_mul, pk_sub (by omega), show wt_Q M it (m + 2 * t) - wt_Q M it m - 2 * t * hh = wt_Z M it hh m (2 * t) by omega, nI_l (by omega)]
  unfold f0_planPuttingOff
  rw [nI_clamp (show m < 2 ^ 31 by omega), ex, h2, h0, nI_add, if_pos (q_in (by omega) (by omega)), if_pos (q_in (by omega) (by omega)), if_pos (q_in (by omega) (by omega)), nI_clamp (show m + 2 * t < 2 ^ 31 by omega), es, wt_bL m (by omega)]
  by_cases cM : M ≤ m + 2 * t
  · have s2 : wt_S M it (m + 2 * t + 1) = wt_S M it M := by rw [show m + 2 * t + 1 = M + (m + 2 * t + 1 - M) by omega, wt_Sc]
    have s3 : wt_S M it (m + 2 * t) = wt_S M it M := by rw [show m + 2 * t = M + (m + 2 * t - M) by omega, wt_Sc]
    rw [if_pos (nI_le cM (by omega)), if_pos (q_in (by omega) (by omega)), h18 _ (by omega), s2, pk_sub (by omega), wc_tl ht hk h' (by omega), Option.bind_some, show (16777216 : Int64) = lN 16777216 from rfl, lN_mul, lN_mul, lN_add, lN_add, show M - (m + 2 * t) = 0 by omega, s3]
    refine congrArg some (congrArg lN ?_)
    show _ = ((wt_S M it (m + 1) - hh) + (wt_Z M it hh (m + 1) (2 * t - 1) + (0 * _ + 2 * t * wt_l k 480 (wt_S M it M - hh)))) * 16777216 + (0 + 2 ^ m)
    rw [z, Nat.zero_mul]
    omega
  · have hb := hh2 (by omega)
    have s4 : wt_S M it (m + 1) ≤ wt_S M it (m + 2 * t) := wt_Sm _ _ (by omega)
    have s5 : wt_S M it (m + 1) ≤ wt_S M it (m + 2 * t + 1) := wt_Sm _ _ (by omega)
    rw [if_neg (nI_ge (by omega) (by omega)), show (155 : Int32) = nI 155 from rfl, pk_mul, nI_add, if_pos (q_in (by omega) (by omega)), nI_clamp (by omega), hL (m + 2 * t) hh (by omega) (by omega) (by omega) hh1, wc_E0 (by omega) (by omega), show (16777216 : Int64) = lN 16777216 from rfl, lN_mul, lN_add, lN_add]
    refine congrArg some (congrArg lN ?_)
    unfold wt_k wt_p
    dsimp only
    rw [z]
    omega
/-- what the boat does when it is there -/
theorem wc_from (hM : M ≤ 24) (ht : 1 ≤ t ∧ t ≤ 9) (hk : 1 ≤ k ∧ k ≤ 14) (hS : wt_S M it M ≤ 480) (h : wc_H M t k it c σ) {m g : Nat} (hm : m < M) (hL : wc_L M t k it (m + 1) σ) (hg : g ≤ wt_S M it (m + 1)) (hg2 : g ≤ k * (m / (2 * t))) : f0_bestFrom σ (nI m) (nI g) = some (lN (wc_E M t k it m g)) := by
  have hp := wc_put hM ht hk hS h hm hL hg hg2
  obtain ⟨⟨h0, h1, h2⟩, h18, h19⟩ := h
  have s1 := wt_Sl (M := M) (it := it) (m + 1)
  obtain ⟨g4, g5⟩ := wc_g ht hk (show m < 24 by omega) hg2
  have e1 : fF σ 18 m - nI g = nI (wt_S M it (m + 1) - g) := by rw [h18 m (by omega), pk_sub hg]
  have eM : nI M - 1 = nI (M - 1) := by rw [show (1 : Int32) = nI 1 from rfl, pk_sub (by omega)]
  have b1 := wt_b2 (t := t) (k := k) (it := it) hM ht hS (d := M - (m + 1)) (r := 0) (w := wt_S M it (m + 1) - g) (by omega) (by omega) (by rw [show M - (M - (m + 1)) = m + 1 by omega]; omega)
  have b2 := wt_b2 (t := t) (k := k) (it := it) hM ht hS (d := M - (m + 1)) (r := 2 * t - 1) (w := wt_S M it (m + 1) - g - k) (by omega) (by omega) (by rw [show M - (M - (m + 1)) = m + 1 by omega]; omega)
  have p2 : 2 ^ m ≤ 2 ^ 24 := Nat.pow_le_pow_right (by omega) (by omega)
  have stay : m + 1 < M → fG σ 20 ((m + 1) * 155 + g) = lN (wt_k (wt_V M t k it (M - (m + 1)) 0 (wt_S M it (m + 1) - g))) := fun hm1 => by
    have s2 : wt_S M it (m + 1) ≤ wt_S M it (m + 1 + 1) := wt_Sm _ _ (by omega)
    rw [hL (m + 1) g (Nat.le_refl _) hm1 (by omega) g5, wc_E0 hm1 hg]
  unfold wc_E wt_A
  unfold f0_bestFrom
  rw [if_pos (q_in (by omega) (by omega)), nI_clamp (show m < 2 ^ 31 by omega), h0, eM, e1]
  have ix : ((nI m + (1 : Int32)) * (155 : Int32)) + nI g = nI ((m + 1) * 155 + g) := by
    rw [nI_1, show (155 : Int32) = nI 155 from rfl, pk_mul, nI_add]
  have wb : wt_S M it (m + 1) - g ≤ 480 := by omega
  generalize wt_S M it (m + 1) - g = w at *
  by_cases cl : m + 1 = M
  · rw [if_pos (show nI m = nI (M - 1) by rw [show M - 1 = m by omega]), decide_eq_true cl]
    unfold f0_bestFrom_J24
    rw [if_neg (show ¬ (1 : Int32) = 0 by decide), if_neg (show ¬ (1 : Int32) = 0 by decide)]
    by_cases cw : 0 < w
    · rw [if_pos (show (0 : Int32) < nI w from nI_lt (a := 0) cw (by omega)), hp, Option.bind_some, if_pos ⟨cw, Or.inl rfl⟩]
    · have : w = 0 := by omega
      subst this
      rw [if_neg (show ¬ (0 : Int32) < nI 0 by decide), if_neg (fun x => cw x.1)]
      rw [show M - (m + 1) = 0 by omega]
      refine congrArg some ?_
      show (0 : Int64) = lN ((0 + (0 * 0 + 2 * t * wt_l k 480 0)) * 16777216 + 0)
      have z0 : 0 + (0 * 0 + 2 * t * 0) = 0 := by simp
      rw [wt_l0, z0, Nat.zero_mul]
      rfl
  · rw [if_neg (fun x => cl (by have := (nI_eq (by omega) (by omega)).mp x; omega)), decide_eq_false cl]
    unfold f0_bestFrom_J24
    rw [if_pos (show (0 : Int32) = 0 from rfl), if_pos (show (0 : Int32) = 0 from rfl), ix, if_pos (q_in (by omega) (by omega)), nI_clamp (by omega), stay (by omega), nI_l (by omega), show (16777216 : Int64) = lN 16777216 from rfl, lN_mul, lN_add]
    have ey : w * 16777216 + wt_k (wt_V M t k it (M - (m + 1)) 0 w) = wt_k (wt_y w (wt_V M t k it (M - (m + 1)) 0 w)) := by
      unfold wt_k wt_y
      dsimp only
      omega
    rw [ey]
    by_cases cw : 0 < w
    · rw [if_pos (show (0 : Int32) < nI w from nI_lt (a := 0) cw (by omega)), if_pos (show (0 : Int32) < nI w from nI_lt (a := 0) cw (by omega)), hp, Option.bind_some]
      have y1 : wt_k (wt_p m (w - k) (wt_V M t k it (M - (m + 1)) (2 * t - 1) (w - k))) < 2 ^ 63 := by
        unfold wt_k wt_p
        dsimp only
        omega
      have y2 : wt_k (wt_y w (wt_V M t k it (M - (m + 1)) 0 w)) < 2 ^ 63 := by
        unfold wt_k wt_y
        dsimp only
        omega
      by_cases cc : wt_k (wt_p m (w - k) (wt_V M t k it (M - (m + 1)) (2 * t - 1) (w - k))) < wt_k (wt_y w (wt_V M t k it (M - (m + 1)) 0 w))
      · rw [if_pos ((pk_lLT y1 y2).mpr cc), if_pos ⟨cw, Or.inr cc⟩]
      · rw [if_neg (fun x => cc ((pk_lLT y1 y2).mp x)), if_neg (fun x => by
          rcases x.2 with y | y
          · exact absurd y (by decide)
          · exact cc y)]
    · have : w = 0 := by omega
      subst this
      rw [if_neg (show ¬ (0 : Int32) < nI 0 by decide), if_neg (show ¬ (0 : Int32) < nI 0 by decide), if_neg (fun x => cw x.1)]
end WTC
