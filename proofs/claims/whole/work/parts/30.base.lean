/-! THE MATHEMATICS: reading and writing -/
section QB
variable {σ : am_S} {a k b j : Nat} {v : Int32} {w : Int64} {q : Option Nat}
theorem q_FF : fF (sF σ a k v) b j = if b = a ∧ j = k then v else fF σ b j := by
  show am_up σ.2.1 a k v b j = _
  unfold am_up
  by_cases h : b = a
  · subst h
    rw [if_pos rfl]
    show (if j = k then v else σ.2.1 b j) = _
    by_cases h' : j = k
    · rw [if_pos h', if_pos ⟨rfl, h'⟩]
    · rw [if_neg h', if_neg (fun x => h' x.2)]; rfl
  · rw [if_neg h, if_neg (fun x => h x.1)]; rfl
theorem q_QQ : fQ (sQ σ a k q) b j = if b = a ∧ j = k then q else fQ σ b j := by
  show am_up σ.2.2.2 a k q b j = _
  unfold am_up
  by_cases h : b = a
  · subst h
    rw [if_pos rfl]
    show (if j = k then q else σ.2.2.2 b j) = _
    by_cases h' : j = k
    · rw [if_pos h', if_pos ⟨rfl, h'⟩]
    · rw [if_neg h', if_neg (fun x => h' x.2)]; rfl
  · rw [if_neg h, if_neg (fun x => h x.1)]; rfl
theorem q_GG : fG (sG σ a k w) b j = if b = a ∧ j = k then w else fG σ b j := by
  show am_up σ.2.2.1 a k w b j = _
  unfold am_up
  by_cases h : b = a
  · subst h
    rw [if_pos rfl]
    show (if j = k then w else σ.2.2.1 b j) = _
    by_cases h' : j = k
    · rw [if_pos h', if_pos ⟨rfl, h'⟩]
    · rw [if_neg h', if_neg (fun x => h' x.2)]; rfl
  · rw [if_neg h, if_neg (fun x => h x.1)]; rfl
theorem q_QF : fQ (sF σ a k v) b j = fQ σ b j := rfl
theorem q_GF : fG (sF σ a k v) b j = fG σ b j := rfl
theorem q_FQ : fF (sQ σ a k q) b j = fF σ b j := rfl
theorem q_GQ : fG (sQ σ a k q) b j = fG σ b j := rfl
theorem q_FG : fF (sG σ a k w) b j = fF σ b j := rfl
theorem q_QG : fQ (sG σ a k w) b j = fQ σ b j := rfl
theorem q_1F : (sF σ a k v).1 = σ.1 := rfl
theorem q_1Q : (sQ σ a k q).1 = σ.1 := rfl
theorem q_1G : (sG σ a k w).1 = σ.1 := rfl
theorem q_cF : am_ci (sF σ a k v) b = am_ci σ b := rfl
theorem q_cQ : am_ci (sQ σ a k q) b = am_ci σ b := rfl
theorem q_cG : am_ci (sG σ a k w) b = am_ci σ b := rfl
theorem q_FFe : fF (sF σ a k v) a k = v := by rw [q_FF, if_pos ⟨rfl, rfl⟩]
theorem q_FFa (h : b ≠ a) : fF (sF σ a k v) b j = fF σ b j := by rw [q_FF, if_neg (fun x => h x.1)]
theorem q_FFk (h : j ≠ k) : fF (sF σ a k v) b j = fF σ b j := by rw [q_FF, if_neg (fun x => h x.2)]
theorem q_QQe : fQ (sQ σ a k q) a k = q := by rw [q_QQ, if_pos ⟨rfl, rfl⟩]
theorem q_QQa (h : b ≠ a) : fQ (sQ σ a k q) b j = fQ σ b j := by rw [q_QQ, if_neg (fun x => h x.1)]
theorem q_QQk (h : j ≠ k) : fQ (sQ σ a k q) b j = fQ σ b j := by rw [q_QQ, if_neg (fun x => h x.2)]
end QB
/-- within, by integers -/
def q_wi (x : Int32) (lo hi : Int) : Bool := decide (lo ≤ x.toInt ∧ x.toInt ≤ hi)
theorem q_le {x y : Int32} : x ≤ y ↔ x.toInt ≤ y.toInt := Int32.le_iff_toInt_le
theorem q_lt {x y : Int32} : x < y ↔ x.toInt < y.toInt := Int32.lt_iff_toInt_lt
theorem q_in {n : Nat} {j : Nat} (h : j < n) (hj : j < 2 ^ 31) : am_in (nI j) n = true := by
  unfold am_in
  rw [decide_eq_true (nI_pos' hj), nI_clamp hj, decide_eq_true h]; rfl
theorem q_of {x : Int32} (h : 0 ≤ x.toInt) : ∃ j : Nat, j < 2 ^ 31 ∧ x = nI j ∧ x.toInt = (j : Int) := by
  obtain ⟨j, hj, rfl⟩ := nI_of (x := x) (Int32.not_lt.mpr (q_le.mpr h))
  exact ⟨j, hj, rfl, nI_toInt hj⟩
theorem q_ofb {x : Int32} {n : Nat} (h : 0 ≤ x.toInt) (h2 : x.toInt < n) : ∃ j : Nat, j < n ∧ x = nI j ∧ x.toInt = (j : Int) := by
  obtain ⟨j, _, e, e2⟩ := q_of h
  exact ⟨j, by omega, e, e2⟩
theorem q_nI {a b : Nat} (ha : a < 2 ^ 31) (hb : b < 2 ^ 31) (h : nI a = nI b) : a = b := (nI_eq ha hb).mp h
theorem q_64 (x : Int32) : x.toInt64.toInt = x.toInt := Int32.toInt_toInt64 x
theorem q_rng (x : Int32) : -2147483648 ≤ x.toInt ∧ x.toInt ≤ 2147483647 := by
  have h1 := Int32.minValue_le_toInt x
  have h2 := Int32.toInt_le x
  rw [show Int32.minValue.toInt = -2147483648 by decide +kernel] at h1
  rw [show Int32.maxValue.toInt = 2147483647 by decide +kernel] at h2
  exact ⟨h1, h2⟩
