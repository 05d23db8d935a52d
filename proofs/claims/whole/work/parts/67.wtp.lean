/-! WAITS: the mathematics -/
def wt_l (k : Nat) : Nat → Nat → Nat
  | 0, _ => 0
  | f + 1, w => (w - k) + wt_l k f (w - k)
def wt_k (p : Nat × Nat) : Nat := p.1 * 16777216 + p.2
def wt_y (w : Nat) (p : Nat × Nat) : Nat × Nat := (w + p.1, p.2)
def wt_p (m w : Nat) (p : Nat × Nat) : Nat × Nat := (w + p.1, p.2 + 2 ^ m)
/-- the boat is there, and w wait -/
def wt_A (t k m : Nat) (last : Bool) (V : Nat → Nat → Nat × Nat) (w : Nat) : Nat × Nat :=
  if 0 < w ∧ (last = true ∨ wt_k (wt_p m (w - k) (V (2 * t - 1) (w - k))) < wt_k (wt_y w (V 0 w))) then wt_p m (w - k) (V (2 * t - 1) (w - k)) else wt_y w (V 0 w)
def wt_V (M t k : Nat) (it : Nat → Nat) : Nat → Nat → Nat → Nat × Nat
  | 0, r, w => (r * w + 2 * t * wt_l k 480 w, 0)
  | d + 1, r, w => if r = 0 then wt_A t k (M - (d + 1)) (decide (d = 0)) (wt_V M t k it d) (w + it (M - (d + 1))) else wt_y (w + it (M - (d + 1))) (wt_V M t k it d (r - 1) (w + it (M - (d + 1))))
def wt_S (M : Nat) (it : Nat → Nat) : Nat → Nat
  | 0 => 0
  | m + 1 => wt_S M it m + (if m < M then it m else 0)
def wt_Q (M : Nat) (it : Nat → Nat) : Nat → Nat
  | 0 => 0
  | m + 1 => wt_Q M it m + wt_S M it (m + 1)
def wt_Z (M : Nat) (it : Nat → Nat) (g : Nat) : Nat → Nat → Nat
  | _, 0 => 0
  | m, r + 1 => (wt_S M it (m + 1) - g) + wt_Z M it g (m + 1) r
def wt_r : Nat → Nat
  | 0 => 0
  | q + 1 => wt_r q + (q + 1)
theorem wt_l0 {k : Nat} : ∀ f, wt_l k f 0 = 0
  | 0 => rfl
  | f + 1 => by
    show (0 - k) + wt_l k f (0 - k) = 0
    rw [Nat.zero_sub, wt_l0 f]
theorem wt_lb {k : Nat} : ∀ f w, wt_l k f w ≤ f * w
  | 0, w => by show 0 ≤ _; omega
  | f + 1, w => by
    show (w - k) + wt_l k f (w - k) ≤ (f + 1) * w
    have h1 := wt_lb (k := k) f (w - k)
    have h2 : f * (w - k) ≤ f * w := Nat.mul_le_mul (Nat.le_refl _) (by omega)
    rw [Nat.add_mul, Nat.one_mul]
    omega
theorem wt_r2 : ∀ q, q * (q + 1) / 2 = wt_r q
  | 0 => rfl
  | q + 1 => by
    have h := wt_r2 q
    show (q + 1) * (q + 1 + 1) / 2 = wt_r q + (q + 1)
    rw [← h, show (q + 1) * (q + 1 + 1) = q * (q + 1) + 2 * (q + 1) by
      rw [Nat.mul_add (q + 1) (q + 1) 1, Nat.add_mul q 1 (q + 1)]; omega]
    omega
theorem wt_rb (q : Nat) : wt_r q ≤ q * (q + 1) := by
  rw [← wt_r2 q]
  exact Nat.div_le_self _ _
/-- all rounds behind the last minute, summed up -/
theorem wt_lc {k : Nat} (hk : 0 < k) : ∀ f w, 0 < w → w ≤ f → wt_l k f w + k * wt_r ((w - 1) / k) = (w - 1) / k * w
  | 0, w, h0, h => by omega
  | f + 1, w, h0, h => by
    show (w - k) + wt_l k f (w - k) + k * wt_r ((w - 1) / k) = (w - 1) / k * w
    by_cases c : w ≤ k
    · rw [show w - k = 0 by omega, wt_l0, Nat.div_eq_of_lt (show w - 1 < k by omega)]
      show 0 + 0 + k * 0 = 0 * w
      rw [Nat.mul_zero, Nat.zero_mul]
    · obtain ⟨v, rfl⟩ : ∃ v, w = v + k := ⟨w - k, by omega⟩
      have ih := wt_lc hk f v (by omega) (by omega)
      have e : (v + k - 1) / k = (v - 1) / k + 1 := by
        rw [show v + k - 1 = (v - 1) + k by omega, Nat.add_div_right _ hk]
      rw [e, Nat.add_sub_cancel]
      show v + wt_l k f v + k * (wt_r ((v - 1) / k) + ((v - 1) / k + 1)) = ((v - 1) / k + 1) * (v + k)
      generalize (v - 1) / k = q at ih ⊢
      rw [Nat.mul_add k, Nat.mul_add k, Nat.mul_one, Nat.add_mul, Nat.one_mul, Nat.mul_add q, Nat.mul_comm k q]
      omega
section WTP
variable {M t k : Nat} {it : Nat → Nat}
theorem wt_Ss {m : Nat} (hm : m < M) : wt_S M it (m + 1) = wt_S M it m + it m := by
  show wt_S M it m + (if m < M then it m else 0) = _
  rw [if_pos hm]
theorem wt_Sm : ∀ b a, a ≤ b → wt_S M it a ≤ wt_S M it b
  | 0, a, h => by rw [show a = 0 by omega]; exact Nat.le_refl _
  | b + 1, a, h => by
    by_cases c : a = b + 1
    · rw [c]; exact Nat.le_refl _
    · have := wt_Sm b a (by omega)
      show _ ≤ wt_S M it b + (if b < M then it b else 0)
      omega
theorem wt_Sc : ∀ i, wt_S M it (M + i) = wt_S M it M
  | 0 => rfl
  | i + 1 => by
    show wt_S M it (M + i) + (if M + i < M then it (M + i) else 0) = _
    rw [if_neg (by omega), wt_Sc i]; rfl
theorem wt_Sb {c : Nat} (h : ∀ m, m < M → it m ≤ c) : ∀ m, m ≤ M → wt_S M it m ≤ c * m
  | 0, _ => Nat.zero_le _
  | m + 1, hm => by
    have ih := wt_Sb h m (by omega)
    have := h m (by omega)
    rw [wt_Ss (by omega), Nat.mul_add, Nat.mul_one]
    omega
theorem wt_QZ (g : Nat) : ∀ r m, g ≤ wt_S M it (m + 1) → wt_Q M it m + wt_Z M it g m r + r * g = wt_Q M it (m + r)
  | 0, m, _ => by
    show wt_Q M it m + 0 + 0 * g = wt_Q M it m
    rw [Nat.zero_mul]; omega
  | r + 1, m, h => by
    have h2 : wt_S M it (m + 1) ≤ wt_S M it (m + 1 + 1) := wt_Sm _ _ (by omega)
    have ih := wt_QZ g r (m + 1) (by omega)
    rw [show m + (r + 1) = m + 1 + r by omega, ← ih]
    show wt_Q M it m + ((wt_S M it (m + 1) - g) + wt_Z M it g (m + 1) r) + (r + 1) * g = wt_Q M it m + wt_S M it (m + 1) + wt_Z M it g (m + 1) r + r * g
    rw [Nat.add_mul, Nat.one_mul]
    omega
theorem wt_Zc (g : Nat) : ∀ r i, wt_Z M it g (M + i) r = r * (wt_S M it M - g)
  | 0, i => by show 0 = _; rw [Nat.zero_mul]
  | r + 1, i => by
    show (wt_S M it (M + i + 1) - g) + wt_Z M it g (M + i + 1) r = _
    rw [show M + i + 1 = M + (i + 1) by omega, wt_Sc, wt_Zc g r (i + 1), Nat.add_mul, Nat.one_mul, Nat.add_comm]
/-- the boat under way: what they wait meanwhile -/
theorem wt_un (g : Nat) : ∀ r m, m ≤ M → g ≤ wt_S M it m → wt_V M t k it (M - m) r (wt_S M it m - g) = (wt_Z M it g m r + (wt_V M t k it (M - (m + r)) 0 (wt_S M it (m + r) - g)).1, (wt_V M t k it (M - (m + r)) 0 (wt_S M it (m + r) - g)).2)
  | 0, m, _, _ => by
    show _ = (0 + (wt_V M t k it (M - m) 0 (wt_S M it m - g)).1, (wt_V M t k it (M - m) 0 (wt_S M it m - g)).2)
    rw [Nat.zero_add]
  | r + 1, m, hm, hg => by
    by_cases c : m < M
    · have h2 : wt_S M it (m + 1) = wt_S M it m + it m := wt_Ss c
      have ih := wt_un g r (m + 1) (by omega) (by omega)
      rw [show M - m = (M - (m + 1)) + 1 by omega]
      show wt_y (wt_S M it m - g + it (M - ((M - (m + 1)) + 1))) (wt_V M t k it (M - (m + 1)) r (wt_S M it m - g + it (M - ((M - (m + 1)) + 1)))) = _
      rw [show M - ((M - (m + 1)) + 1) = m by omega, show wt_S M it m - g + it m = wt_S M it (m + 1) - g by omega, ih, show m + (r + 1) = m + 1 + r by omega]
      refine Prod.ext ?_ rfl
      show (wt_S M it (m + 1) - g) + (wt_Z M it g (m + 1) r + (wt_V M t k it (M - (m + 1 + r)) 0 (wt_S M it (m + 1 + r) - g)).1) = (wt_S M it (m + 1) - g) + wt_Z M it g (m + 1) r + (wt_V M t k it (M - (m + 1 + r)) 0 (wt_S M it (m + 1 + r) - g)).1
      omega
    · have : m = M := by omega
      subst this
      rw [Nat.sub_self, show m - (m + (r + 1)) = 0 by omega, wt_Sc]
      have z := wt_Zc (M := m) (it := it) g (r + 1) 0
      rw [Nat.add_zero] at z
      rw [z]
      show ((r + 1) * _ + 2 * t * wt_l k 480 _, 0) = (_ + (0 * _ + 2 * t * wt_l k 480 _), 0)
      rw [Nat.zero_mul, Nat.zero_add]
/-- the boat is there: said by how many came -/
theorem wt_at {m g : Nat} (hm : m < M) (hg : g ≤ wt_S M it m) : wt_V M t k it (M - m) 0 (wt_S M it m - g) = wt_A t k m (decide (m + 1 = M)) (wt_V M t k it (M - (m + 1))) (wt_S M it (m + 1) - g) := by
  have h2 : wt_S M it (m + 1) = wt_S M it m + it m := wt_Ss hm
  rw [show M - m = (M - (m + 1)) + 1 by omega]
  show (if (0 : Nat) = 0 then wt_A t k (M - ((M - (m + 1)) + 1)) (decide (M - (m + 1) = 0)) (wt_V M t k it (M - (m + 1))) (wt_S M it m - g + it (M - ((M - (m + 1)) + 1))) else _) = _
  rw [if_pos rfl, show M - ((M - (m + 1)) + 1) = m by omega, show wt_S M it m - g + it m = wt_S M it (m + 1) - g by omega, show decide (M - (m + 1) = 0) = decide (m + 1 = M) from decide_eq_decide.mpr ⟨fun h => by omega, fun h => by omega⟩]
theorem wt_bd (hM : M ≤ 24) (ht : 1 ≤ t ∧ t ≤ 9) (hS : wt_S M it M ≤ 480) : ∀ d, d ≤ M → ∀ r w, r ≤ 17 → w ≤ wt_S M it (M - d) → (wt_V M t k it d r w).1 ≤ 480 * d + 4155360 ∧ ∃ q, q < 2 ^ d ∧ (wt_V M t k it d r w).2 = 2 ^ (M - d) * q
  | 0, _, r, w, hr, hw => by
    have w4 : w ≤ 480 := Nat.le_trans hw hS
    refine ⟨?_, 0, by omega, rfl⟩
    show r * w + 2 * t * wt_l k 480 w ≤ _
    have h1 : r * w ≤ 17 * 480 := Nat.mul_le_mul hr w4
    have h2 := wt_lb (k := k) 480 w
    have h3 : 2 * t * wt_l k 480 w ≤ 18 * (480 * 480) := Nat.mul_le_mul (by omega) (by omega)
    omega
  | d + 1, hd, r, w, hr, hw => by
    have hm : M - (d + 1) < M := by omega
    have e1 : M - d = M - (d + 1) + 1 := by omega
    have h2 : wt_S M it (M - d) = wt_S M it (M - (d + 1)) + it (M - (d + 1)) := by rw [e1]; exact wt_Ss hm
    have h3 : wt_S M it (M - d) ≤ wt_S M it M := wt_Sm _ _ (by omega)
    have ih := wt_bd hM ht hS d (by omega)
    have stay : ∀ r', r' ≤ 17 → (wt_y (w + it (M - (d + 1))) (wt_V M t k it d r' (w + it (M - (d + 1))))).1 ≤ 480 * (d + 1) + 4155360 ∧ ∃ q, q < 2 ^ (d + 1) ∧ (wt_y (w + it (M - (d + 1))) (wt_V M t k it d r' (w + it (M - (d + 1))))).2 = 2 ^ (M - (d + 1)) * q := fun r' hr' => by
      obtain ⟨i1, q, i2, i3⟩ := ih r' (w + it (M - (d + 1))) hr' (by omega)
      refine ⟨?_, 2 * q, by rw [Nat.pow_succ]; omega, ?_⟩
      · show w + it (M - (d + 1)) + _ ≤ _
        omega
      · show (wt_V M t k it d r' (w + it (M - (d + 1)))).2 = _
        rw [i3, e1, Nat.pow_succ, Nat.mul_assoc]
    show ((if r = 0 then wt_A t k (M - (d + 1)) (decide (d = 0)) (wt_V M t k it d) (w + it (M - (d + 1))) else wt_y (w + it (M - (d + 1))) (wt_V M t k it d (r - 1) (w + it (M - (d + 1)))))).1 ≤ _ ∧ ∃ q, q < 2 ^ (d + 1) ∧ ((if r = 0 then wt_A t k (M - (d + 1)) (decide (d = 0)) (wt_V M t k it d) (w + it (M - (d + 1))) else wt_y (w + it (M - (d + 1))) (wt_V M t k it d (r - 1) (w + it (M - (d + 1)))))).2 = 2 ^ (M - (d + 1)) * q
    by_cases c : r = 0
    · rw [if_pos c]
      unfold wt_A
      split
      · obtain ⟨i1, q, i2, i3⟩ := ih (2 * t - 1) (w + it (M - (d + 1)) - k) (by omega) (by omega)
        refine ⟨?_, 2 * q + 1, by rw [Nat.pow_succ]; omega, ?_⟩
        · show w + it (M - (d + 1)) - k + _ ≤ _
          omega
        · show (wt_V M t k it d (2 * t - 1) (w + it (M - (d + 1)) - k)).2 + 2 ^ (M - (d + 1)) = _
          rw [i3, e1, Nat.pow_succ, Nat.mul_add, Nat.mul_one, Nat.mul_assoc]
      · exact stay 0 (by omega)
    · rw [if_neg c]
      exact stay (r - 1) (by omega)
theorem wt_b2 (hM : M ≤ 24) (ht : 1 ≤ t ∧ t ≤ 9) (hS : wt_S M it M ≤ 480) {d r w : Nat} (hd : d ≤ M) (hr : r ≤ 17) (hw : w ≤ wt_S M it (M - d)) : (wt_V M t k it d r w).1 < 8388608 ∧ (wt_V M t k it d r w).2 < 16777216 := by
  obtain ⟨h1, q, h2, h3⟩ := wt_bd (t := t) (k := k) hM ht hS d hd r w hr hw
  refine ⟨by omega, ?_⟩
  rw [h3]
  have : 2 ^ (M - d) * q < 2 ^ (M - d) * 2 ^ d := Nat.mul_lt_mul_of_pos_left h2 (Nat.two_pow_pos _)
  rw [← Nat.pow_add, show M - d + d = M by omega] at this
  have : 2 ^ M ≤ 2 ^ 24 := Nat.pow_le_pow_right (by omega) hM
  omega
theorem wt_or (hM : M ≤ 24) (ht : 1 ≤ t ∧ t ≤ 9) (hS : wt_S M it M ≤ 480) {d r w : Nat} (hd : d + 1 ≤ M) (hr : r ≤ 17) (hw : w ≤ wt_S M it (M - d)) : (wt_V M t k it d r w).2 ||| 2 ^ (M - (d + 1)) = (wt_V M t k it d r w).2 + 2 ^ (M - (d + 1)) ∧ (wt_V M t k it d r w).2 + 2 ^ (M - (d + 1)) < 16777216 := by
  obtain ⟨h1, q, h2, h3⟩ := wt_bd (t := t) (k := k) hM ht hS d (by omega) r w hr hw
  have e1 : M - d = M - (d + 1) + 1 := by omega
  rw [h3, e1]
  refine ⟨(Nat.two_pow_add_eq_or_of_lt (Nat.pow_lt_pow_right (by omega) (by omega)) q).symm, ?_⟩
  have l1 : 2 ^ (M - (d + 1) + 1) * (q + 1) ≤ 2 ^ (M - (d + 1) + 1) * 2 ^ d := Nat.mul_le_mul (Nat.le_refl _) h2
  rw [← Nat.pow_add, show M - (d + 1) + 1 + d = M by omega, Nat.mul_add, Nat.mul_one] at l1
  have l2 : 2 ^ M ≤ 2 ^ 24 := Nat.pow_le_pow_right (by omega) hM
  have l3 : 2 ^ (M - (d + 1)) < 2 ^ (M - (d + 1) + 1) := Nat.pow_lt_pow_right (by omega) (by omega)
  omega
end WTP
