/-! THE TEXTS: tokens and a pure reader -/
def tx_run (P : Nat → Bool) (b : Nat → Nat) (n : Nat) : Nat → Nat → Nat
  | 0, p => p
  | d + 1, p => if p < n ∧ P (b p) = true then tx_run P b n d (p + 1) else p
def tx_R (P : Nat → Bool) (b : Nat → Nat) (n p : Nat) : Nat := tx_run P b n (n - p) p
theorem tx_R_st (P : Nat → Bool) (b : Nat → Nat) (n p : Nat) : tx_R P b n p = if p < n ∧ P (b p) = true then tx_R P b n (p + 1) else p := by
  unfold tx_R
  by_cases h : p < n
  · obtain ⟨d, hd⟩ : ∃ d, n - p = d + 1 := ⟨n - p - 1, by omega⟩
    rw [hd, show n - (p + 1) = d by omega]
    rfl
  · rw [show n - p = 0 by omega, if_neg (fun x => h x.1)]
    rfl
theorem tx_R_no {P : Nat → Bool} {b : Nat → Nat} {n p : Nat} (h : ¬ (p < n ∧ P (b p) = true)) : tx_R P b n p = p := by rw [tx_R_st, if_neg h]
theorem tx_R_go {P : Nat → Bool} {b : Nat → Nat} {n p : Nat} (h : p < n) (h2 : P (b p) = true) : tx_R P b n p = tx_R P b n (p + 1) := by rw [tx_R_st, if_pos ⟨h, h2⟩]
theorem tx_R_sp (P : Nat → Bool) (b : Nat → Nat) (n : Nat) : ∀ d p, n - p = d → p ≤ tx_R P b n p ∧ (p ≤ n → tx_R P b n p ≤ n) ∧ (∀ i, p ≤ i → i < tx_R P b n p → i < n ∧ P (b i) = true) ∧ (tx_R P b n p < n → P (b (tx_R P b n p)) = false)
  | 0, p, hd => by
    rw [tx_R_no (fun x => by omega)]
    exact ⟨Nat.le_refl _, fun h => h, fun i h1 h2 => by omega, fun h => by omega⟩
  | d + 1, p, hd => by
    by_cases h : P (b p) = true
    · obtain ⟨h1, h2, h3, h4⟩ := tx_R_sp P b n d (p + 1) (by omega)
      rw [tx_R_go (by omega) h]
      refine ⟨by omega, fun _ => h2 (by omega), fun i h5 h6 => ?_, h4⟩
      by_cases e : i = p
      · subst e; exact ⟨by omega, h⟩
      · exact h3 i (by omega) h6
    · rw [tx_R_no (fun x => h x.2)]
      exact ⟨Nat.le_refl _, fun h => h, fun i h1 h2 => by omega, fun _ => by simpa using h⟩
theorem tx_R_ge (P : Nat → Bool) (b : Nat → Nat) (n p : Nat) : p ≤ tx_R P b n p := (tx_R_sp P b n _ p rfl).1
theorem tx_R_le (P : Nat → Bool) (b : Nat → Nat) {n p : Nat} (h : p ≤ n) : tx_R P b n p ≤ n := (tx_R_sp P b n _ p rfl).2.1 h
theorem tx_R_in {P : Nat → Bool} {b : Nat → Nat} {n p i : Nat} (h : p ≤ i) (h2 : i < tx_R P b n p) : i < n ∧ P (b i) = true := (tx_R_sp P b n _ p rfl).2.2.1 i h h2
theorem tx_R_en {P : Nat → Bool} {b : Nat → Nat} {n p : Nat} (h : tx_R P b n p < n) : P (b (tx_R P b n p)) = false := (tx_R_sp P b n _ p rfl).2.2.2 h
def tx_bl (x : Nat) : Bool := x == 32 || x == 10
def tx_le (x : Nat) : Bool := decide (97 ≤ x ∧ x ≤ 122)
def tx_di (x : Nat) : Bool := decide (48 ≤ x ∧ x ≤ 57)
def tx_sg (x : Nat) : Bool := x == 40 || x == 41 || x == 59 || x == 43 || x == 45 || x == 42 || x == 60 || x == 61
def tx_bs (b : Nat → Nat) (q e : Nat) : List Nat := (List.range (e - q)).map fun i => b (q + i)
/-- the words, in the class's order -/
def tx_wd : List (List Nat) := [[104, 101, 97, 100, 115], [116, 105, 100, 101], [119, 97, 115, 104], [97, 103, 101], [104, 111, 117, 114], [116, 117, 114, 110, 115], [108, 111, 97, 100], [112, 114, 105, 99, 101], [116, 117, 114, 110], [111, 114], [97, 110, 100], [110, 111, 116]]
def tx_ix (l : List Nat) : List (List Nat) → Nat → Nat
  | [], _ => 14
  | w :: ws, k => if w = l then k else tx_ix l ws (k + 1)
def tx_wi (l : List Nat) : Nat := tx_ix l tx_wd 0
def tx_nv (b : Nat → Nat) (q : Nat) : Nat → Nat
  | 0 => 0
  | k + 1 => 10 * tx_nv b q k + (b (q + k) - 48)
/-- a token: its code, its number, its first byte, where the next one is looked for -/
def tx_tk (b : Nat → Nat) (n p : Nat) : Nat × Nat × Nat × Nat :=
  if n ≤ tx_R tx_bl b n p then (13, 0, tx_R tx_bl b n p, tx_R tx_bl b n p)
  else if tx_le (b (tx_R tx_bl b n p)) = true then (tx_wi (tx_bs b (tx_R tx_bl b n p) (tx_R tx_le b n (tx_R tx_bl b n p))), 0, tx_R tx_bl b n p, tx_R tx_le b n (tx_R tx_bl b n p))
  else if tx_di (b (tx_R tx_bl b n p)) = true then ((if tx_R tx_di b n (tx_R tx_bl b n p) - tx_R tx_bl b n p ≤ 4 then 12 else 14), tx_nv b (tx_R tx_bl b n p) (tx_R tx_di b n (tx_R tx_bl b n p) - tx_R tx_bl b n p), tx_R tx_bl b n p, tx_R tx_di b n (tx_R tx_bl b n p))
  else if tx_sg (b (tx_R tx_bl b n p)) = true then (b (tx_R tx_bl b n p), 0, tx_R tx_bl b n p, tx_R tx_bl b n p + 1)
  else (14, 0, tx_R tx_bl b n p, tx_R tx_bl b n p + 1)
def tx_c (b : Nat → Nat) (n p : Nat) : Nat := (tx_tk b n p).1
def tx_v (b : Nat → Nat) (n p : Nat) : Nat := (tx_tk b n p).2.1
def tx_f (b : Nat → Nat) (n p : Nat) : Nat := (tx_tk b n p).2.2.1
def tx_n (b : Nat → Nat) (n p : Nat) : Nat := (tx_tk b n p).2.2.2
abbrev tx_E : Type := Nat → Int32
abbrev tx_Z : Type := Nat ⊕ (Nat × (tx_E → Int32) × List Int32)
def tx_one (b : Nat → Nat) (n p : Nat) : tx_Z :=
  if tx_c b n p = 12 then .inr (tx_n b n p, fun _ => nI (tx_v b n p), [nI (tx_v b n p)])
  else if tx_c b n p < 6 then .inr (tx_n b n p, fun e => e (tx_c b n p), [nI (10000 + tx_c b n p)])
  else .inl (tx_f b n p)
def tx_jo (lev c : Nat) : Bool := (lev == 0 && c == 9) || (lev == 1 && c == 10) || (lev == 2 && (c == 60 || c == 61)) || (lev == 3 && (c == 43 || c == 45)) || (lev == 4 && c == 42)
def tx_op (c : Nat) (x y : Int32) : Int32 :=
  if c = 9 then (if x = 0 then (if y = 0 then 0 else 1) else 1) else if c = 10 then (if x = 0 then 0 else if y = 0 then 0 else 1) else if c = 43 then x + y else if c = 45 then x - y else if c = 60 then (if y ≤ x then 0 else 1) else if c = 61 then (if x = y then 1 else 0) else x * y
def tx_lp (b : Nat → Nat) (n : Nat) (rd : Nat → tx_Z) (lev : Nat) : Nat → Nat → (tx_E → Int32) → List Int32 → tx_Z
  | 0, p, V, L => .inr (p, V, L)
  | f + 1, p, V, L => if tx_jo lev (tx_c b n p) = true then (match rd (tx_n b n p) with
    | .inl x => .inl x
    | .inr r => tx_lp b n rd lev f r.1 (fun e => tx_op (tx_c b n p) (V e) (r.2.1 e)) (L ++ (r.2.2 ++ [nI (10000 + tx_c b n p)]))) else .inr (p, V, L)
def tx_jn (b : Nat → Nat) (n : Nat) (rd : Nat → tx_Z) (lev p : Nat) : tx_Z := match rd p with
  | .inl x => .inl x
  | .inr r => tx_lp b n rd lev (if lev = 2 then 1 else 160) r.1 r.2.1 r.2.2
def tx_og (b : Nat → Nat) (n : Nat) (rd : Nat → Nat → Nat → tx_Z) (o p : Nat) : tx_Z :=
  if 5 ≤ o then .inl (tx_f b n p)
  else if tx_c b n p = 11 then (match rd 2 (o + 1) (tx_n b n p) with
    | .inl x => .inl x
    | .inr r => .inr (r.1, fun e => if r.2.1 e = 0 then 1 else 0, r.2.2 ++ [nI 10011]))
  else if tx_c b n p = 45 then (match rd 5 (o + 1) (tx_n b n p) with
    | .inl x => .inl x
    | .inr r => .inr (r.1, fun e => - r.2.1 e, r.2.2 ++ [nI 10015]))
  else (match rd 0 (o + 1) (tx_n b n p) with
    | .inl x => .inl x
    | .inr r => if tx_c b n r.1 = 41 then .inr (tx_n b n r.1, r.2.1, r.2.2) else .inl (tx_f b n r.1))
def tx_sp (lev c : Nat) : Bool := (lev == 5 && (c == 45 || c == 40)) || (lev == 2 && c == 11)
def tx_rd (b : Nat → Nat) (n : Nat) : Nat → Nat → Nat → Nat → tx_Z
  | 0, _, _, _ => .inl 0
  | D + 1, lev, o, p => if tx_sp lev (tx_c b n p) = true then tx_og b n (tx_rd b n D) o p else if lev = 5 then tx_one b n p else tx_jn b n (fun q => tx_rd b n D (lev + 1) o q) lev p
def tx_pt (b : Nat → Nat) (n key p : Nat) : tx_Z :=
  if tx_c b n p = key then (match tx_rd b n 36 0 0 (tx_n b n p) with
    | .inl x => .inl x
    | .inr r => if tx_c b n r.1 = 59 then .inr (tx_n b n r.1, r.2.1, r.2.2) else .inl (tx_f b n r.1))
  else .inl (tx_f b n p)
abbrev tx_TZ : Type := Nat ⊕ ((Nat → tx_E → Int32) × (Nat → List Int32))
def tx_3 {α : Type} (x y z : α) (k : Nat) : α := match k with
  | 0 => x
  | 1 => y
  | _ => z
def tx_T (b : Nat → Nat) (n : Nat) : tx_TZ := match tx_pt b n 6 0 with
  | .inl x => .inl x
  | .inr r => match tx_pt b n 7 r.1 with
    | .inl x => .inl x
    | .inr r' => match tx_pt b n 8 r'.1 with
      | .inl x => .inl x
      | .inr r'' => if tx_c b n r''.1 = 13 then .inr (tx_3 r.2.1 r'.2.1 r''.2.1, tx_3 r.2.2 r'.2.2 r''.2.2) else .inl (tx_f b n r''.1)
-- facts of tokens
theorem tx_f_ge (b : Nat → Nat) (n p : Nat) : p ≤ tx_f b n p ∧ (p ≤ n → tx_f b n p ≤ n) := by
  have h : tx_f b n p = tx_R tx_bl b n p := by
    unfold tx_f tx_tk
    split
    · rfl
    · split
      · rfl
      · split
        · rfl
        · split <;> rfl
  rw [h]
  exact ⟨tx_R_ge _ _ _ _, tx_R_le _ _⟩
theorem tx_ix_le (l : List Nat) : ∀ (ws : List (List Nat)) (k : Nat), tx_ix l ws k < k + ws.length ∨ tx_ix l ws k = 14
  | [], _ => Or.inr rfl
  | w :: ws, k => by
    unfold tx_ix
    by_cases h : w = l
    · rw [if_pos h]; exact Or.inl (by simp)
    · rw [if_neg h]
      rcases tx_ix_le l ws (k + 1) with h | h
      · exact Or.inl (by simp only [List.length_cons]; omega)
      · exact Or.inr h
theorem tx_wi_le (l : List Nat) : tx_wi l < 12 ∨ tx_wi l = 14 := by
  have := tx_ix_le l tx_wd 0
  unfold tx_wi
  rcases this with h | h
  · exact Or.inl (by simpa [tx_wd] using h)
  · exact Or.inr h
theorem tx_n_gt {b : Nat → Nat} {n p : Nat} (h : tx_c b n p ≠ 13) : tx_f b n p < n ∧ tx_f b n p < tx_n b n p ∧ tx_n b n p ≤ n := by
  unfold tx_c tx_f tx_n at *
  unfold tx_tk at *
  by_cases h1 : n ≤ tx_R tx_bl b n p
  · rw [if_pos h1] at h; exact absurd rfl h
  · rw [if_neg h1] at h ⊢
    by_cases h2 : tx_le (b (tx_R tx_bl b n p)) = true
    · rw [if_pos h2]
      have e1 := tx_R_go (P := tx_le) (by omega : tx_R tx_bl b n p < n) h2
      have e2 := tx_R_ge tx_le b n (tx_R tx_bl b n p + 1)
      have e3 := tx_R_le tx_le b (by omega : tx_R tx_bl b n p ≤ n)
      exact ⟨by show tx_R tx_bl b n p < n; omega, by show tx_R tx_bl b n p < tx_R tx_le b n (tx_R tx_bl b n p); omega, e3⟩
    · rw [if_neg h2]
      by_cases h3 : tx_di (b (tx_R tx_bl b n p)) = true
      · rw [if_pos h3]
        have e1 := tx_R_go (P := tx_di) (by omega : tx_R tx_bl b n p < n) h3
        have e2 := tx_R_ge tx_di b n (tx_R tx_bl b n p + 1)
        have e3 := tx_R_le tx_di b (by omega : tx_R tx_bl b n p ≤ n)
        exact ⟨by show tx_R tx_bl b n p < n; omega, by show tx_R tx_bl b n p < tx_R tx_di b n (tx_R tx_bl b n p); omega, e3⟩
      · rw [if_neg h3]
        split
        · exact ⟨by show tx_R tx_bl b n p < n; omega, by show tx_R tx_bl b n p < tx_R tx_bl b n p + 1; omega, by show tx_R tx_bl b n p + 1 ≤ n; omega⟩
        · exact ⟨by show tx_R tx_bl b n p < n; omega, by show tx_R tx_bl b n p < tx_R tx_bl b n p + 1; omega, by show tx_R tx_bl b n p + 1 ≤ n; omega⟩
theorem tx_nv_lt (b : Nat → Nat) (q : Nat) : ∀ k, (∀ i, i < k → b (q + i) ≤ 57) → tx_nv b q k < 10 ^ k
  | 0, _ => by simp [tx_nv]
  | k + 1, h => by
    have h1 := tx_nv_lt b q k (fun i hi => h i (by omega))
    have h2 := h k (by omega)
    unfold tx_nv
    rw [Nat.pow_succ]
    omega
theorem tx_v_lt {b : Nat → Nat} {n p : Nat} (h : tx_c b n p = 12) : tx_v b n p < 10000 := by
  unfold tx_c tx_v at *
  unfold tx_tk at *
  by_cases h1 : n ≤ tx_R tx_bl b n p
  · rw [if_pos h1] at h
    have h' : (13 : Nat) = 12 := h
    omega
  · rw [if_neg h1] at h ⊢
    by_cases h2 : tx_le (b (tx_R tx_bl b n p)) = true
    · rw [if_pos h2] at h
      have h' : tx_wi _ = 12 := h
      have := tx_wi_le (tx_bs b (tx_R tx_bl b n p) (tx_R tx_le b n (tx_R tx_bl b n p)))
      omega
    · rw [if_neg h2] at h ⊢
      by_cases h3 : tx_di (b (tx_R tx_bl b n p)) = true
      · rw [if_pos h3] at h ⊢
        have h' : (if tx_R tx_di b n (tx_R tx_bl b n p) - tx_R tx_bl b n p ≤ 4 then 12 else 14) = 12 := h
        by_cases h4 : tx_R tx_di b n (tx_R tx_bl b n p) - tx_R tx_bl b n p ≤ 4
        · have h5 := tx_nv_lt b (tx_R tx_bl b n p) (tx_R tx_di b n (tx_R tx_bl b n p) - tx_R tx_bl b n p) (fun i hi => by
            have := (tx_R_in (P := tx_di) (b := b) (n := n) (p := tx_R tx_bl b n p) (i := tx_R tx_bl b n p + i) (by omega) (by omega)).2
            unfold tx_di at this
            have := of_decide_eq_true this
            omega)
          have h6 : 10 ^ (tx_R tx_di b n (tx_R tx_bl b n p) - tx_R tx_bl b n p) ≤ 10 ^ 4 := Nat.pow_le_pow_right (by decide) h4
          show tx_nv _ _ _ < 10000
          omega
        · rw [if_neg h4] at h'; exact absurd h' (by decide)
      · rw [if_neg h3] at h
        by_cases h4 : tx_sg (b (tx_R tx_bl b n p)) = true
        · rw [if_pos h4] at h
          have h' : b (tx_R tx_bl b n p) = 12 := h
          rw [h'] at h4
          exact absurd h4 (by decide)
        · rw [if_neg h4] at h
          have h' : (14 : Nat) = 12 := h
          omega
-- a reader goes on by as many bytes as it writes steps
def tx_Go (n p : Nat) (z : tx_Z) : Prop := ∀ r, z = .inr r → p + r.2.2.length ≤ r.1 ∧ r.1 ≤ n
theorem tx_lp_go {b : Nat → Nat} {n : Nat} {rd : Nat → tx_Z} {lev : Nat} (hrd : ∀ p, p ≤ n → tx_Go n p (rd p)) : ∀ (f p p0 : Nat) (V : tx_E → Int32) (L : List Int32), p0 + L.length ≤ p → p ≤ n → tx_Go n p0 (tx_lp b n rd lev f p V L)
  | 0, p, p0, V, L, h1, h2 => fun r e => by
    have e' := Sum.inr.inj e
    subst e'
    exact ⟨h1, h2⟩
  | f + 1, p, p0, V, L, h1, h2 => by
    unfold tx_lp
    by_cases hj : tx_jo lev (tx_c b n p) = true
    · rw [if_pos hj]
      have hc : tx_c b n p ≠ 13 := fun x => by rw [x] at hj; simp [tx_jo] at hj
      have g := tx_n_gt hc
      have g2 := tx_f_ge b n p
      cases hr : rd (tx_n b n p) with
      | inl x => exact fun r e => by cases e
      | inr r =>
        have h3 := hrd (tx_n b n p) g.2.2 r hr
        refine tx_lp_go hrd f r.1 p0 _ _ ?_ h3.2
        simp only [List.length_append, List.length_cons, List.length_nil]
        omega
    · rw [if_neg hj]
      intro r e
      have e' := Sum.inr.inj e
      subst e'
      exact ⟨h1, h2⟩
theorem tx_rd_go (b : Nat → Nat) (n : Nat) : ∀ (D lev o p : Nat), p ≤ n → tx_Go n p (tx_rd b n D lev o p)
  | 0, _, _, _, _ => fun r e => by cases e
  | D + 1, lev, o, p, hp => by
    have ih := tx_rd_go b n D
    have g2 := tx_f_ge b n p
    unfold tx_rd
    by_cases hs : tx_sp lev (tx_c b n p) = true
    · rw [if_pos hs]
      have hc : tx_c b n p ≠ 13 := fun x => by rw [x] at hs; simp [tx_sp] at hs
      have g := tx_n_gt hc
      unfold tx_og
      by_cases ho : 5 ≤ o
      · rw [if_pos ho]; exact fun r e => by cases e
      · rw [if_neg ho]
        by_cases h1 : tx_c b n p = 11
        · rw [if_pos h1]
          cases hr : tx_rd b n D 2 (o + 1) (tx_n b n p) with
          | inl x => exact fun r e => by cases e
          | inr r =>
            have h3 := ih 2 (o + 1) (tx_n b n p) g.2.2 r hr
            intro r' e
            have e' := Sum.inr.inj e
            subst e'
            simp only [List.length_append, List.length_cons, List.length_nil]
            omega
        · rw [if_neg h1]
          by_cases h2 : tx_c b n p = 45
          · rw [if_pos h2]
            cases hr : tx_rd b n D 5 (o + 1) (tx_n b n p) with
            | inl x => exact fun r e => by cases e
            | inr r =>
              have h3 := ih 5 (o + 1) (tx_n b n p) g.2.2 r hr
              intro r' e
              have e' := Sum.inr.inj e
              subst e'
              simp only [List.length_append, List.length_cons, List.length_nil]
              omega
          · rw [if_neg h2]
            cases hr : tx_rd b n D 0 (o + 1) (tx_n b n p) with
            | inl x => exact fun r e => by cases e
            | inr r =>
              have h3 := ih 0 (o + 1) (tx_n b n p) g.2.2 r hr
              by_cases h4 : tx_c b n r.1 = 41
              · have g4 := tx_n_gt (b := b) (n := n) (p := r.1) (by omega)
                have g5 := tx_f_ge b n r.1
                intro r' e
                simp only [h4, if_true] at e
                have e' := Sum.inr.inj e
                subst e'
                show p + r.2.2.length ≤ tx_n b n r.1 ∧ tx_n b n r.1 ≤ n
                omega
              · intro r' e
                simp only [h4, if_false] at e
                cases e
    · rw [if_neg hs]
      by_cases h5 : lev = 5
      · rw [if_pos h5]
        unfold tx_one
        by_cases h1 : tx_c b n p = 12
        · rw [if_pos h1]
          have g := tx_n_gt (b := b) (n := n) (p := p) (by omega)
          intro r e
          have e' := Sum.inr.inj e
          subst e'
          show p + 1 ≤ tx_n b n p ∧ tx_n b n p ≤ n
          omega
        · rw [if_neg h1]
          by_cases h2 : tx_c b n p < 6
          · rw [if_pos h2]
            have g := tx_n_gt (b := b) (n := n) (p := p) (by omega)
            intro r e
            have e' := Sum.inr.inj e
            subst e'
            show p + 1 ≤ tx_n b n p ∧ tx_n b n p ≤ n
            omega
          · rw [if_neg h2]; exact fun r e => by cases e
      · rw [if_neg h5]
        unfold tx_jn
        dsimp only
        cases hr : tx_rd b n D (lev + 1) o p with
        | inl x => exact fun r e => by cases e
        | inr r =>
          have h3 := ih (lev + 1) o p hp r hr
          exact tx_lp_go (fun q hq => ih (lev + 1) o q hq) _ r.1 p _ _ h3.1 h3.2
