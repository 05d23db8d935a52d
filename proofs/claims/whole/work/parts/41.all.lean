/-! THE RELATION, whole; looking up -/
def r_Tc (a k : Nat) : Prop := (a = 11 ∧ (k = 1 ∨ k = 4 ∨ k = 5)) ∨ (12 ≤ a ∧ a ≤ 14) ∨ (a = 36 ∧ (k = 3 ∨ k = 4 ∨ k = 6)) ∨ (37 ≤ a ∧ a ≤ 39)
def r_tp (m : Nat) (σ : am_S) : Prop := m ≤ 160 ∧ fF σ 11 1 = nI m ∧ fF σ 36 6 = nI m ∧ ∀ i, i < m → ∃ b : Nat, b < 256 ∧ fF σ 39 i = nI b ∧ fF σ 12 i = tx_sb b
def r_X (t : Nat) (V : Nat → tx_E → Int32) (σ : am_S) : Prop := tx_X (fun i => fF σ 13 (160 * t + i)) (fun i => fF σ 14 (3 * t + i)) (fun i => fF σ 37 (160 * t + i)) (fF σ 38 t) V
def r_T (tc : Nat) (σ : am_S) : Prop := (1 ≤ tc ∧ tc ≤ 6) ∧ fF σ 11 4 = nI tc ∧ fF σ 36 3 = nI tc ∧ (∃ r : Nat, r < tc ∧ fF σ 11 5 = nI r ∧ fF σ 36 4 = nI r) ∧ (∃ m, r_tp m σ) ∧ ∀ t, t < tc → ∃ V, r_X t V σ
theorem r_X.mv {S : Nat → Nat → Prop} {σ σ' : am_S} {t : Nat} {V : Nat → tx_E → Int32} (h : r_X t V σ) (g : q_Ag S σ σ') (hS : ∀ a k, r_Tc a k → ¬ S a k) : r_X t V σ' := by
  have gF : ∀ a, (a = 13 ∨ a = 14 ∨ a = 37 ∨ a = 38) → fF σ' a = fF σ a := fun a x => funext fun k => (g.2 a k (hS a k (by unfold r_Tc; omega))).1
  unfold r_X
  rw [gF 13 (by omega), gF 14 (by omega), gF 37 (by omega), gF 38 (by omega)]
  exact h
theorem r_T.mv {S : Nat → Nat → Prop} {σ σ' : am_S} {tc : Nat} (h : r_T tc σ) (g : q_Ag S σ σ') (hS : ∀ a k, r_Tc a k → ¬ S a k) : r_T tc σ' := by
  have gF : ∀ a k, r_Tc a k → fF σ' a k = fF σ a k := fun a k x => (g.2 a k (hS a k x)).1
  obtain ⟨h1, h2, h3, ⟨r, h4, h5, h6⟩, ⟨m, h7, h8, h9, h10⟩, h11⟩ := h
  refine ⟨h1, (gF 11 4 (by unfold r_Tc; omega)).trans h2, (gF 36 3 (by unfold r_Tc; omega)).trans h3, ⟨r, h4, (gF 11 5 (by unfold r_Tc; omega)).trans h5, (gF 36 4 (by unfold r_Tc; omega)).trans h6⟩, ⟨m, h7, (gF 11 1 (by unfold r_Tc; omega)).trans h8, (gF 36 6 (by unfold r_Tc; omega)).trans h9, fun i hi => ?_⟩, fun t ht => ?_⟩
  · obtain ⟨b, b1, b2, b3⟩ := h10 i hi
    exact ⟨b, b1, (gF 39 i (by unfold r_Tc; omega)).trans b2, (gF 12 i (by unfold r_Tc; omega)).trans b3⟩
  · obtain ⟨V, hV⟩ := h11 t ht
    exact ⟨V, hV.mv g hS⟩
/-- the image -/
def r_Ic (n m : Nat) (A B : Nat → Nat) (a k : Nat) : Prop := (a = 8 ∧ 12 ≤ k ∧ k ≤ 17) ∨ (a = 36 ∧ 48 ≤ k ∧ k ≤ 53) ∨ (59 ≤ a ∧ a ≤ 62) ∨ (∃ i, i < n ∧ a = A i ∧ (k = 4 ∨ k = 5)) ∨ ∃ j, j < m ∧ a = B j ∧ (k = 7 ∨ k = 8)
def r_I1 (tc : Nat) (A B : Nat → Nat) (σ : am_S) (kc kr : Nat) : Prop := fF σ 8 13 = fF σ 36 51 ∧ fF σ 8 14 = fF σ 36 52 ∧ (∃ r : Nat, r < tc ∧ fF σ 8 15 = nI r ∧ fF σ 36 53 = nI r) ∧ (fF σ 8 16 = nI kc ∧ fF σ 36 49 = nI kc ∧ fF σ 8 17 = nI kr ∧ fF σ 36 50 = nI kr) ∧
  (∀ i, i < kc → fF σ (A i) 4 = fF σ 59 i ∧ fF σ (A i) 5 = fF σ 60 i ∧ (fF σ 59 i = 0 ∨ fF σ 59 i = 1)) ∧ ∀ j, j < kr → fF σ (B j) 7 = fF σ 61 j ∧ fF σ (B j) 8 = fF σ 62 j ∧ (fF σ 61 j = 0 ∨ fF σ 61 j = 1)
def r_I (n m tc : Nat) (A B : Nat → Nat) (σ : am_S) : Prop := fF σ 8 12 = fF σ 36 48 ∧ (fF σ 36 48 = 0 ∨ ∃ kc kr : Nat, kc ≤ n ∧ kr ≤ m ∧ r_I1 tc A B σ kc kr)
theorem r_I.mv {S : Nat → Nat → Prop} {σ σ' : am_S} {n m tc n' m' tc' : Nat} {A B A' B' : Nat → Nat} (h : r_I n m tc A B σ) (g : q_Ag S σ σ') (hn : n ≤ n') (hm : m ≤ m') (ht : tc ≤ tc') (hA : ∀ i, i < n → A' i = A i) (hB : ∀ i, i < m → B' i = B i) (hS : ∀ a k, r_Ic n m A B a k → ¬ S a k) : r_I n' m' tc' A' B' σ' := by
  have gF : ∀ a k, r_Ic n m A B a k → fF σ' a k = fF σ a k := fun a k x => (g.2 a k (hS a k x)).1
  have g8 : ∀ k, 12 ≤ k ∧ k ≤ 17 → fF σ' 8 k = fF σ 8 k := fun k x => gF 8 k (Or.inl ⟨rfl, x⟩)
  have g36 : ∀ k, 48 ≤ k ∧ k ≤ 53 → fF σ' 36 k = fF σ 36 k := fun k x => gF 36 k (Or.inr (Or.inl ⟨rfl, x⟩))
  have g5 : ∀ a k, 59 ≤ a ∧ a ≤ 62 → fF σ' a k = fF σ a k := fun a k x => gF a k (Or.inr (Or.inr (Or.inl x)))
  obtain ⟨h1, h2⟩ := h
  refine ⟨(g8 12 (by omega)).trans (h1.trans (g36 48 (by omega)).symm), ?_⟩
  rcases h2 with h2 | ⟨kc, kr, k1, k2, i1, i2, ⟨r, i3, i4, i5⟩, ⟨i6, i7, i8, i9⟩, i10, i11⟩
  · exact Or.inl ((g36 48 (by omega)).trans h2)
  · refine Or.inr ⟨kc, kr, by omega, by omega, ?_, ?_, ⟨r, by omega, (g8 15 (by omega)).trans i4, (g36 53 (by omega)).trans i5⟩, ⟨(g8 16 (by omega)).trans i6, (g36 49 (by omega)).trans i7, (g8 17 (by omega)).trans i8, (g36 50 (by omega)).trans i9⟩, fun i hi => ?_, fun j hj => ?_⟩
    · rw [g8 13 (by omega), g36 51 (by omega)]; exact i1
    · rw [g8 14 (by omega), g36 52 (by omega)]; exact i2
    · rw [hA i (by omega), gF (A i) 4 (Or.inr (Or.inr (Or.inr (Or.inl ⟨i, by omega, rfl, Or.inl rfl⟩)))), gF (A i) 5 (Or.inr (Or.inr (Or.inr (Or.inl ⟨i, by omega, rfl, Or.inr rfl⟩)))), g5 59 i (by omega), g5 60 i (by omega)]
      exact i10 i hi
    · rw [hB j (by omega), gF (B j) 7 (Or.inr (Or.inr (Or.inr (Or.inr ⟨j, by omega, rfl, Or.inl rfl⟩)))), gF (B j) 8 (Or.inr (Or.inr (Or.inr (Or.inr ⟨j, by omega, rfl, Or.inr rfl⟩)))), g5 61 j (by omega), g5 62 j (by omega)]
      exact i11 j hj
/-- all together -/
def RR (n m tc : Nat) (A B : Nat → Nat) (σ : am_S) : Prop := r_K σ ∧ r_C n A σ ∧ r_B n m B σ ∧ r_W σ ∧ r_P σ ∧ r_S σ ∧ r_T tc σ ∧ r_I n m tc A B σ
def RX (σ : am_S) : Prop := ∃ n m tc A B, RR n m tc A B σ
/-- cells that nobody relies on -/
def r_sc (a k : Nat) : Prop := (a = 11 ∧ 7 ≤ k) ∨ (15 ≤ a ∧ a ≤ 20) ∨ a = 24 ∨ a = 25 ∨ a = 27 ∨ (a = 36 ∧ ((22 ≤ k ∧ k ≤ 25) ∨ (27 ≤ k ∧ k ≤ 34))) ∨ (51 ≤ a ∧ a ≤ 55) ∨ a = 57 ∨ a = 58
theorem r_C.ge {n : Nat} {A : Nat → Nat} {σ : am_S} (h : r_C n A σ) {i : Nat} (hi : i < n) : 68 ≤ A i := (h.2.2.2 i hi).1.1
theorem r_B.ge {n m : Nat} {B : Nat → Nat} {σ : am_S} (h : r_B n m B σ) {i : Nat} (hi : i < m) : 68 ≤ B i := (h.2.2.2 i hi).1.1
theorem r_ne {n m : Nat} {A B : Nat → Nat} {σ : am_S} (hC : r_C n A σ) (hB : r_B n m B σ) {i j : Nat} (hi : i < n) (hj : j < m) : A i ≠ B j := fun e => by
  have h1 := (hC.2.2.2 i hi).1.2.2
  obtain ⟨k, hk, -, h2⟩ := (hB.2.2.2 j hj).1.2.2
  rw [e, h2] at h1
  have hv : k = 0 ∨ k = 1 ∨ k = 2 ∨ k = 3 ∨ k = 4 ∨ k = 5 := by omega
  rcases hv with rfl | rfl | rfl | rfl | rfl | rfl <;> exact absurd h1 (by decide)
theorem RR.fr {n m tc : Nat} {A B : Nat → Nat} {σ σ' : am_S} (h : RR n m tc A B σ) (g : q_Ag r_sc σ σ') : RR n m tc A B σ' := by
  obtain ⟨hK, hC, hB, hW, hP, hS, hT, hI⟩ := h
  refine ⟨hK.mv g, hC.mv g ?_, hB.mv g (Nat.le_refl _) ?_, hW.mv g ?_, hP.mv g ?_, hS.mv g ?_, hT.mv g ?_, hI.mv g (Nat.le_refl _) (Nat.le_refl _) (Nat.le_refl _) (fun _ _ => rfl) (fun _ _ => rfl) ?_⟩
  · rintro a k (h | h | h | h | ⟨i, hi, h, -⟩)
    · unfold r_sc; omega
    · unfold r_sc; omega
    · unfold r_sc; omega
    · unfold r_sc; omega
    · have := hC.ge hi
      unfold r_sc; omega
  · rintro a k (h | h | h | h | ⟨i, hi, h, -⟩)
    · unfold r_sc; omega
    · unfold r_sc; omega
    · unfold r_sc; omega
    · unfold r_sc; omega
    · have := hB.ge hi
      unfold r_sc; omega
  · intro a k h; unfold r_Wc at h; unfold r_sc; omega
  · intro a k h; unfold r_Pc at h; unfold r_sc; omega
  · intro a k h; unfold r_Sc at h; unfold r_sc; omega
  · intro a k h; unfold r_Tc at h; unfold r_sc; omega
  · rintro a k (h | h | h | ⟨i, hi, h, -⟩ | ⟨i, hi, h, -⟩)
    · unfold r_sc; omega
    · unfold r_sc; omega
    · unfold r_sc; omega
    · have := hC.ge hi
      unfold r_sc; omega
    · have := hB.ge hi
      unfold r_sc; omega
-- an index, or none
theorem q_ix (x : Int32) (n : Nat) : ¬ (0 ≤ x.toInt ∧ x.toInt < n) ∨ ∃ i : Nat, i < n ∧ x = nI i := by
  by_cases h : 0 ≤ x.toInt ∧ x.toInt < n
  · obtain ⟨i, hi, e, -⟩ := q_ofb h.1 h.2
    exact Or.inr ⟨i, hi, e⟩
  · exact Or.inl h
theorem q_pred {n : Nat} (h : n < 2 ^ 30) : (nI n - 1 : Int32).toInt = (n : Int) - 1 := by
  rw [show (1 : Int32) = nI 1 from rfl, pk_sub_toInt h (by omega)]; rfl
section LOOK
variable {n m tc : Nat} {A B : Nat → Nat} {σ : am_S}
theorem r_cL_no (hC : r_C n A σ) {x : Int64} (hx : ¬ (0 ≤ x.toInt ∧ x.toInt < n)) : f11_crossingAt σ x = some none := by
  have h1 := hC.1
  have e1 : (lg_cmp x (0 : Int64) < 0) = (x.toInt < 0) := propext l_cm.1
  have e2 : (0 ≤ lg_cmp x ((fF σ 8 3).toInt64)) = ((n : Int) ≤ x.toInt) := propext (by rw [l_cm.2.2.2, q_64, hC.2.1, nI_toInt (by omega)])
  unfold f11_crossingAt
  simp only [e1, e2]
  by_cases c : x.toInt < 0
  · rw [if_pos c]
  · rw [if_neg c, if_pos (by omega)]
theorem r_cL_yes (hC : r_C n A σ) {x : Int64} {i : Nat} (hx : x.toInt = i) (hi : i < n) : f11_crossingAt σ x = some (some (A i)) := by
  have h1 := hC.1
  have e1 : (lg_cmp x (0 : Int64) < 0) = (x.toInt < 0) := propext l_cm.1
  have e2 : (0 ≤ lg_cmp x ((fF σ 8 3).toInt64)) = ((n : Int) ≤ x.toInt) := propext (by rw [l_cm.2.2.2, q_64, hC.2.1, nI_toInt (by omega)])
  have e3 : x.toInt32 = nI i := by
    have : x = lN i := Int64.toInt_inj.mp (by rw [hx, lN_toInt (by omega)])
    rw [this, lN_i]
  unfold f11_crossingAt
  simp only [e1, e2]
  rw [if_neg (by omega), if_neg (by omega), e3, if_pos (q_in (by omega) (by omega)), nI_clamp (by omega), (hC.2.2.2 i hi).1.2.1]
  rfl
theorem r_cA_no (hC : r_C n A σ) {x : Int32} (hx : ¬ (0 ≤ x.toInt ∧ x.toInt < n)) : f11_crossingAt σ x.toInt64 = some none := r_cL_no hC (by rw [q_64]; exact hx)
theorem r_cA_yes (hC : r_C n A σ) {i : Nat} (hi : i < n) : f11_crossingAt σ (nI i).toInt64 = some (some (A i)) := r_cL_yes hC (by have := hC.1; rw [q_64, nI_toInt (by omega)]) hi
theorem r_iC_no (hC : r_C n A σ) {x : Int32} (hx : ¬ (0 ≤ x.toInt ∧ x.toInt < n)) : f12_isCrossing σ x = some false := by
  have h1 := hC.1
  unfold f12_isCrossing
  rw [q_nt 0 ((n : Int) - 1) rfl (by rw [q_64, hC.2.2.1, q_pred (by omega)]), Option.bind_some, q_wiF.mpr (by omega)]
theorem r_iC_yes (hC : r_C n A σ) {i : Nat} (hi : i < n) : f12_isCrossing σ (nI i) = some true := by
  have h1 := hC.1
  unfold f12_isCrossing
  rw [q_nt 0 ((n : Int) - 1) rfl (by rw [q_64, hC.2.2.1, q_pred (by omega)]), Option.bind_some, q_wiT.mpr (by rw [nI_toInt (by omega)]; omega)]
theorem r_rA_no (hB : r_B n m B σ) {x : Int32} (hx : ¬ (0 ≤ x.toInt ∧ x.toInt < m)) : f11_rowerAt σ x = some none := by
  have h1 := hB.1
  unfold f11_rowerAt
  by_cases c : x.toInt < 0
  · rw [if_pos (q_lt.mpr c)]
  · rw [if_neg (fun y => c (q_lt.mp y)), hB.2.1, if_pos (q_le.mpr (by rw [nI_toInt (by omega)]; omega))]
theorem r_rA_yes (hB : r_B n m B σ) {i : Nat} (hi : i < m) : f11_rowerAt σ (nI i) = some (some (B i)) := by
  have h1 := hB.1
  unfold f11_rowerAt
  rw [if_neg (nI_pos (by omega)), hB.2.1, if_neg (nI_ge hi (by omega)), if_pos (q_in (by omega) (by omega)), nI_clamp (by omega), (hB.2.2.2 i hi).1.2.1]
  rfl
theorem r_iR_no (hB : r_B n m B σ) {x : Int32} (hx : ¬ (0 ≤ x.toInt ∧ x.toInt < m)) : f12_isRower σ x = some false := by
  have h1 := hB.1
  unfold f12_isRower
  rw [q_nt 0 ((m : Int) - 1) rfl (by rw [q_64, hB.2.2.1, q_pred (by omega)]), Option.bind_some, q_wiF.mpr (by omega)]
theorem r_iR_yes (hB : r_B n m B σ) {i : Nat} (hi : i < m) : f12_isRower σ (nI i) = some true := by
  have h1 := hB.1
  unfold f12_isRower
  rw [q_nt 0 ((m : Int) - 1) rfl (by rw [q_64, hB.2.2.1, q_pred (by omega)]), Option.bind_some, q_wiT.mpr (by rw [nI_toInt (by omega)]; omega)]
theorem r_sA_no {x : Int32} (hx : ¬ (0 ≤ x.toInt ∧ x.toInt < (4 : Nat))) : f11_sheetAt σ x = some none := by
  unfold f11_sheetAt
  by_cases c : x.toInt < 0
  · rw [if_pos (q_lt.mpr c)]
  · rw [if_neg (fun y => c (q_lt.mp y)), if_pos (q_le.mpr (by show (4 : Int) ≤ _; omega))]
theorem r_sA_yes (hS : r_S σ) {i : Nat} (hi : i < 4) : f11_sheetAt σ (nI i) = some (some (28 + 2 * i)) := by
  unfold f11_sheetAt
  rw [if_neg (nI_pos (by omega)), if_neg (show ¬ (4 : Int32) ≤ nI i from nI_ge (b := 4) hi (by omega)), if_pos (q_in hi (by omega)), nI_clamp (by omega), (hS i hi).1]
  rfl
theorem r_iS_no {x : Int32} (hx : ¬ (0 ≤ x.toInt ∧ x.toInt < (4 : Nat))) : f12_isSheet x = some false := by
  unfold f12_isSheet
  rw [q_nt 0 3 rfl rfl, Option.bind_some, q_wiF.mpr (by omega)]
theorem r_iS_yes {i : Nat} (hi : i < 4) : f12_isSheet (nI i) = some true := by
  unfold f12_isSheet
  rw [q_nt 0 3 rfl rfl, Option.bind_some, q_wiT.mpr (by rw [nI_toInt (by omega)]; omega)]
theorem r_8 (hK : r_K σ) {s : Nat} (hs : s < 4) : [8].contains (am_ci σ (28 + 2 * s)) = true ∧ am_rq σ (28 + 2 * s) 2 = some (29 + 2 * s) ∧ am_an σ (29 + 2 * s) 0 = 40 := by
  have hv : s = 0 ∨ s = 1 ∨ s = 2 ∨ s = 3 := by omega
  rcases hv with rfl | rfl | rfl | rfl
  · exact ⟨by rw [hK.ci kM28]; rfl, hK.rq kM28 rfl, hK.an kM29⟩
  · exact ⟨by rw [hK.ci kM30]; rfl, hK.rq kM30 rfl, hK.an kM31⟩
  · exact ⟨by rw [hK.ci kM32]; rfl, hK.rq kM32 rfl, hK.an kM33⟩
  · exact ⟨by rw [hK.ci kM34]; rfl, hK.rq kM34 rfl, hK.an kM35⟩
theorem r_1 (hC : r_C n A σ) {i : Nat} (hi : i < n) : [1].contains (am_ci σ (A i)) = true := by
  rw [(hC.2.2.2 i hi).1.2.2]; rfl
theorem r_7 (hB : r_B n m B σ) {i : Nat} (hi : i < m) : [2, 3, 5, 6, 7, 9].contains (am_ci σ (B i)) = true := by
  obtain ⟨k, hk, -, h2⟩ := (hB.2.2.2 i hi).1.2.2
  rw [h2]
  have hv : k = 0 ∨ k = 1 ∨ k = 2 ∨ k = 3 ∨ k = 4 ∨ k = 5 := by omega
  rcases hv with rfl | rfl | rfl | rfl | rfl | rfl <;> rfl
end LOOK
