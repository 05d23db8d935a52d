/-! LEAST WAYS, all stages: the mathematics -/
def fw_s (b : Nat) (w : Nat → Nat) (k : Nat) : Nat := min (w k) (w (k / 10 * 10 + b) + w (b * 10 + k % 10))
def fw (w : Nat → Nat) : Nat → Nat → Nat
  | 0 => w
  | b + 1 => fw_s b (fw w b)
def fw_0 (w : Nat → Nat) : Prop := ∀ a, a < 10 → w (a * 10 + a) = 0
theorem fw_sx {b x y : Nat} {w : Nat → Nat} (hy : y < 10) : fw_s b w (x * 10 + y) = min (w (x * 10 + y)) (w (x * 10 + b) + w (b * 10 + y)) := by
  unfold fw_s
  rw [show (x * 10 + y) / 10 = x by omega, show (x * 10 + y) % 10 = y by omega]
theorem fw_00 {w : Nat → Nat} (h : fw_0 w) : ∀ b, fw_0 (fw w b)
  | 0 => h
  | b + 1 => fun a ha => by
    show fw_s b (fw w b) (a * 10 + a) = 0
    rw [fw_sx ha, fw_00 h b a ha]
    exact Nat.zero_min _
theorem fw_le {w : Nat → Nat} : ∀ b k, fw w b k ≤ w k
  | 0, _ => Nat.le_refl _
  | b + 1, k => Nat.le_trans (Nat.min_le_left _ _) (fw_le b k)
theorem fw_row {w : Nat → Nat} {b x : Nat} (h : fw_0 w) (hb : b < 10) : fw_s b w (x * 10 + b) = w (x * 10 + b) := by
  rw [fw_sx hb, h b hb]; omega
theorem fw_col {w : Nat → Nat} {b y : Nat} (h : fw_0 w) (hb : b < 10) (hy : y < 10) : fw_s b w (b * 10 + y) = w (b * 10 + y) := by
  rw [fw_sx hy, h b hb]; omega
theorem fw_tri {w : Nat → Nat} (h : fw_0 w) : ∀ k, k ≤ 10 → ∀ x y c, x < 10 → y < 10 → c < k → fw w k (x * 10 + y) ≤ fw w k (x * 10 + c) + fw w k (c * 10 + y)
  | 0, _, _, _, _, _, _, hc => by omega
  | k + 1, hk, x, y, c, hx, hy, hc => by
    show fw_s k (fw w k) (x * 10 + y) ≤ fw_s k (fw w k) (x * 10 + c) + fw_s k (fw w k) (c * 10 + y)
    have z := fw_00 h k k (by omega)
    rw [fw_sx hy, fw_sx (show c < 10 by omega), fw_sx hy]
    by_cases ck : c < k
    · have i1 := fw_tri h k (by omega) x y c hx hy ck
      have i2 := fw_tri h k (by omega) x k c hx (by omega) ck
      have i3 := fw_tri h k (by omega) k y c (by omega) hy ck
      omega
    · have : c = k := by omega
      subst this
      omega
theorem fw_cl {w : Nat → Nat} {F : Nat} {S : Nat → Prop} (hS : ∀ c d, c < 10 → d < 10 → S c → w (c * 10 + d) < F → S d) : ∀ k, k ≤ 10 → ∀ x y, x < 10 → y < 10 → S x → fw w k (x * 10 + y) < F → S y
  | 0, _, x, y, hx, hy, h, hl => hS x y hx hy h hl
  | k + 1, hk, x, y, hx, hy, h, hl => by
    have hl' : fw_s k (fw w k) (x * 10 + y) < F := hl
    rw [fw_sx hy] at hl'
    by_cases c : fw w k (x * 10 + y) < F
    · exact fw_cl hS k (by omega) x y hx hy h c
    · have s1 := fw_cl hS k (by omega) x k hx (by omega) h (by omega)
      exact fw_cl hS k (by omega) k y (by omega) hy s1 (by omega)
theorem fw_gap {v : Nat → Nat} {a : Nat} (ha : a < 10) (h0 : v a = 0) : ∃ i, i ≤ 9 ∧ ∀ d, d < 10 → v d ≤ 99 * (i + 1) → v d ≤ 99 * i := by
  refine Classical.byContradiction fun hno => ?_
  have hx : ∀ i, ∃ d, i ≤ 9 → d < 10 ∧ 99 * i < v d ∧ v d ≤ 99 * (i + 1) := fun i => by
    by_cases hi : i ≤ 9
    · refine Classical.byContradiction fun hn => hno ⟨i, hi, fun d hd h1 => ?_⟩
      refine Classical.byContradiction fun h2 => hn ⟨d, fun _ => ⟨hd, by omega, h1⟩⟩
    · exact ⟨0, fun h => absurd h hi⟩
  obtain ⟨f, hf⟩ : ∃ f : Nat → Nat, ∀ i, i ≤ 9 → f i < 10 ∧ 99 * i < v (f i) ∧ v (f i) ≤ 99 * (i + 1) := ⟨fun i => Classical.choose (hx i), fun i => Classical.choose_spec (hx i)⟩
  have := fb_holes 10 11 (fun i => if i = 10 then a else f i) (fun i hi => by
    by_cases c : i = 10
    · rw [if_pos c]; exact ha
    · rw [if_neg c]; exact (hf i (by omega)).1) (fun i j hij hj => by
    rw [if_neg (show i ≠ 10 by omega)]
    have f1 := hf i (by omega)
    by_cases c : j = 10
    · rw [if_pos c]
      intro e
      rw [e] at f1
      omega
    · rw [if_neg c]
      have f2 := hf j (by omega)
      intro e
      rw [e] at f1
      omega)
  omega
/-- ways that there are, are short -/
theorem fw_bd {w : Nat → Nat} {F : Nat} (h : fw_0 w) (hw : ∀ k, k < 100 → w k ≤ 99 ∨ w k = F) {k : Nat} (hk : k < 100) (hl : fw w 10 k < F) : fw w 10 k ≤ 891 := by
  obtain ⟨x, y, hx, hy, rfl⟩ : ∃ x y, x < 10 ∧ y < 10 ∧ k = x * 10 + y := ⟨k / 10, k % 10, by omega, by omega, by omega⟩
  obtain ⟨i, hi, hg⟩ := fw_gap (v := fun d => fw w 10 (x * 10 + d)) hx (fw_00 h 10 x hx)
  have := fw_cl (w := w) (F := F) (S := fun d => fw w 10 (x * 10 + d) ≤ 99 * i) (fun c d hc hd hs he => by
    refine hg d hd ?_
    have t := fw_tri h 10 (Nat.le_refl _) x d c hx hd (by omega)
    have l := fw_le (w := w) 10 (c * 10 + d)
    have := hw (c * 10 + d) (by omega)
    omega) 10 (Nat.le_refl _) x y hx hy (by
    have := fw_00 h 10 x hx
    omega) hl
  omega
/-- what lies beyond a bound may be cut to it -/
theorem fw_cut {w w' : Nat → Nat} {M : Nat} (h : ∀ k, k < 100 → w' k = min (w k) M) : ∀ b, b ≤ 10 → ∀ k, k < 100 → fw w' b k = min (fw w b k) M
  | 0, _, k, hk => h k hk
  | b + 1, hb, k, hk => by
    have e0 := fw_cut h b (by omega) k hk
    have e1 := fw_cut h b (by omega) (k / 10 * 10 + b) (by omega)
    have e2 := fw_cut h b (by omega) (b * 10 + k % 10) (by omega)
    show fw_s b (fw w' b) k = min (fw_s b (fw w b) k) M
    unfold fw_s
    rw [e0, e1, e2]
    omega
/-- what is walked in one go: paths, and crossings that are open -/
def ft_t (k : Nat) : Nat := k % 10 * 10 + k / 10
def ft_b (p : Nat → Nat) (F k : Nat) : Nat := if k / 10 = k % 10 then 0 else if p k = 0 then F else p k
def ft_c (p l : Nat → Nat) (o : Nat → Bool) (F : Nat) : Nat → Nat → Nat
  | 0, k => ft_b p F k
  | j + 1, k => if o j = true ∧ (k = l j ∨ k = ft_t (l j)) then min (ft_c p l o F j k) 5 else ft_c p l o F j k
section FTC
variable {p l : Nat → Nat} {o : Nat → Bool} {F : Nat}
theorem ft_tt {k : Nat} (hk : k < 100) : ft_t (ft_t k) = k := by unfold ft_t; omega
theorem ft_tl {k : Nat} (hk : k < 100) : ft_t k < 100 := by unfold ft_t; omega
theorem ft_sy (hp : ∀ k, k < 100 → p (ft_t k) = p k) (n : Nat) (hl : ∀ j, j < n → l j < 100) : ∀ j, j ≤ n → ∀ k, k < 100 → ft_c p l o F j (ft_t k) = ft_c p l o F j k
  | 0, _, k, hk => by
    show ft_b p F (ft_t k) = ft_b p F k
    unfold ft_b
    rw [hp k hk]
    have e : (ft_t k / 10 = ft_t k % 10) = (k / 10 = k % 10) := by unfold ft_t; exact propext ⟨fun h => by omega, fun h => by omega⟩
    simp only [e]
  | j + 1, hj, k, hk => by
    have ih := ft_sy hp n hl j (by omega) k hk
    have hlj := hl j (by omega)
    show (if o j = true ∧ (ft_t k = l j ∨ ft_t k = ft_t (l j)) then min (ft_c p l o F j (ft_t k)) 5 else ft_c p l o F j (ft_t k)) = (if o j = true ∧ (k = l j ∨ k = ft_t (l j)) then min (ft_c p l o F j k) 5 else ft_c p l o F j k)
    rw [ih]
    have e : (ft_t k = l j ∨ ft_t k = ft_t (l j)) = (k = l j ∨ k = ft_t (l j)) := by unfold ft_t; exact propext ⟨fun h => by omega, fun h => by omega⟩
    simp only [e]
theorem ft_z (n : Nat) (hl : ∀ j, j < n → l j < 100 ∧ l j / 10 ≠ l j % 10) : ∀ j, j ≤ n → fw_0 (ft_c p l o F j)
  | 0, _, a, ha => by
    show ft_b p F (a * 10 + a) = 0
    unfold ft_b
    rw [if_pos (by omega)]
  | j + 1, hj, a, ha => by
    have ih := ft_z n hl j (by omega) a ha
    have hlj := hl j (by omega)
    show (if o j = true ∧ (a * 10 + a = l j ∨ a * 10 + a = ft_t (l j)) then min (ft_c p l o F j (a * 10 + a)) 5 else ft_c p l o F j (a * 10 + a)) = 0
    rw [ih, Nat.zero_min]
    exact ite_self _
theorem ft_w (hp : ∀ k, k < 100 → p k ≤ 99) : ∀ j k, k < 100 → ft_c p l o F j k ≤ 99 ∨ ft_c p l o F j k = F
  | 0, k, hk => by
    show ft_b p F k ≤ 99 ∨ ft_b p F k = F
    unfold ft_b
    have := hp k hk
    by_cases c : k / 10 = k % 10
    · rw [if_pos c]; omega
    · rw [if_neg c]
      by_cases d : p k = 0
      · rw [if_pos d]; omega
      · rw [if_neg d]; omega
  | j + 1, k, hk => by
    have ih := ft_w hp j k hk
    show (if o j = true ∧ (k = l j ∨ k = ft_t (l j)) then min (ft_c p l o F j k) 5 else ft_c p l o F j k) ≤ 99 ∨ (if o j = true ∧ (k = l j ∨ k = ft_t (l j)) then min (ft_c p l o F j k) 5 else ft_c p l o F j k) = F
    by_cases c : o j = true ∧ (k = l j ∨ k = ft_t (l j))
    · rw [if_pos c]; omega
    · rw [if_neg c]; exact ih
theorem ft_m {F M : Nat} (hF : 99 ≤ M) (hM : M ≤ F) (hp : ∀ k, k < 100 → p k ≤ 99) : ∀ j k, k < 100 → ft_c p l o M j k = min (ft_c p l o F j k) M
  | 0, k, hk => by
    show ft_b p M k = min (ft_b p F k) M
    unfold ft_b
    have := hp k hk
    by_cases c : k / 10 = k % 10
    · rw [if_pos c, if_pos c]; omega
    · rw [if_neg c, if_neg c]
      by_cases d : p k = 0
      · rw [if_pos d, if_pos d]; omega
      · rw [if_neg d, if_neg d]; omega
  | j + 1, k, hk => by
    have ih := ft_m hF hM hp j k hk
    show (if o j = true ∧ (k = l j ∨ k = ft_t (l j)) then min (ft_c p l o M j k) 5 else ft_c p l o M j k) = min (if o j = true ∧ (k = l j ∨ k = ft_t (l j)) then min (ft_c p l o F j k) 5 else ft_c p l o F j k) M
    rw [ih]
    by_cases c : o j = true ∧ (k = l j ∨ k = ft_t (l j))
    · rw [if_pos c, if_pos c]; omega
    · rw [if_neg c, if_neg c]
/-- the ways of the class, and what the model has of them -/
def ft_D (p l : Nat → Nat) (o : Nat → Bool) (F n k : Nat) : Nat := fw (ft_c p l o F n) 10 k
theorem ft_all {n : Nat} (hp : ∀ k, k < 100 → p k ≤ 99) (hl : ∀ j, j < n → l j < 100 ∧ l j / 10 ≠ l j % 10) {k : Nat} (hk : k < 100) : ft_D p l o 1000 n k = min (ft_D p l o 1000000 n k) 1000 ∧ (ft_D p l o 1000000 n k < 1000000 → ft_D p l o 1000000 n k ≤ 891) := by
  refine ⟨?_, ?_⟩
  · exact fw_cut (w := ft_c p l o 1000000 n) (w' := ft_c p l o 1000 n) (M := 1000) (fun k hk => ft_m (by omega) (by omega) hp n k hk) 10 (Nat.le_refl _) k hk
  · exact fw_bd (ft_z n hl n (Nat.le_refl _)) (fun k hk => ft_w hp n k hk) hk
end FTC
