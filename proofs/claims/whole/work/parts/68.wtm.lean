/-! WAITS: the model's tables -/
theorem wt_bit : ∀ m : Nat, m < 24 → (1 : Int32) <<< (nI m &&& 31) = nI (2 ^ m) := by decide +kernel
theorem wt_oI (a b : Nat) : nI a ||| nI b = nI (a ||| b) := by
  apply Int32.toBitVec_inj.mp
  rw [Int32.toBitVec_or]
  exact BitVec.ofNat_or.symm
theorem wm_tl {N t k : Nat} (hk : 1 ≤ k) (hk2 : k ≤ 14) : ∀ f left n' x4, left ≤ f → left ≤ 480 → f < n' → f12_tail_L8 N n' (nI t) (nI k) (nI x4) (nI left) = some (nI (x4 + 2 * t * wt_l k f left)) := by
  intro f
  induction f with
  | zero =>
    intro left n' x4 h1 h2 hn
    obtain ⟨n', rfl⟩ : ∃ m, n' = m + 1 := ⟨n' - 1, by omega⟩
    have : left = 0 := by omega
    subst this
    unfold f12_tail_L8
    rw [if_pos (show nI 0 ≤ (0 : Int32) by decide)]
    show _ = some (nI (x4 + 2 * t * 0))
    rw [Nat.mul_zero, Nat.add_zero]
  | succ f ih =>
    intro left n' x4 h1 h2 hn
    obtain ⟨n', rfl⟩ : ∃ m, n' = m + 1 := ⟨n' - 1, by omega⟩
    unfold f12_tail_L8
    by_cases c0 : left = 0
    · subst c0
      rw [if_pos (show nI 0 ≤ (0 : Int32) by decide), wt_l0]
      rw [Nat.mul_zero, Nat.add_zero]
    · rw [if_neg (show ¬ nI left ≤ (0 : Int32) from nI_ge (a := 0) (by omega) (by omega))]
      have key := fun x => ih (left - k) n' x (by omega) (by omega) (by omega)
      have e : wt_l k (f + 1) left = (left - k) + wt_l k f (left - k) := rfl
      rw [e, Nat.mul_add, show (2 : Int32) = nI 2 from rfl, pk_mul]
      by_cases c : left ≤ k
      · rw [if_pos (nI_le c (by omega))]
        have k2 := key (x4 + 2 * t * (left - k))
        rw [show left - k = 0 by omega] at k2 ⊢
        rw [show (0 : Int32) = nI 0 from rfl, pk_mul, nI_add, k2, Nat.add_assoc]
      · rw [if_neg (nI_ge (by omega) (by omega)), pk_sub (by omega), pk_mul, nI_add, key, Nat.add_assoc]
theorem wm_tail {N t k w r : Nat} (hN : 500 ≤ N) (hk : 1 ≤ k) (hk2 : k ≤ 14) (hw : w ≤ 480) : f12_tail N (nI w) (nI r) (nI t) (nI k) = some (nI (r * w + 2 * t * wt_l k 480 w)) := by
  unfold f12_tail
  rw [pk_mul, wm_tl hk hk2 480 w N _ hw hw (by omega)]
theorem wm_and {α : Type} {p q : Prop} [Decidable p] [Decidable q] (h : p) (a b : α) : (if p ∧ q then a else b) = if q then a else b := by
  by_cases c : q
  · rw [if_pos ⟨h, c⟩, if_pos c]
  · rw [if_neg (fun x => c x.2), if_neg c]
/-- a cell of the table, staying or putting off -/
def wm_R (σ : am_S) (m r t k w' : Nat) (b : Bool) : Int32 × Int32 :=
  if (r = 0 ∧ 0 < w') ∧ (b = true ∨ nI (w' - k) + fF σ 52 (481 * (2 * t - 1) + (w' - k)) < nI w' + fF σ 52 (481 * (r - 1) + w') ∨ (nI (w' - k) + fF σ 52 (481 * (2 * t - 1) + (w' - k)) = nI w' + fF σ 52 (481 * (r - 1) + w') ∧ ¬ fF σ 54 (481 * (r - 1) + w') ≤ fF σ 54 (481 * (2 * t - 1) + (w' - k)) ||| (1 : Int32) <<< (nI m &&& 31)))
  then (nI (w' - k) + fF σ 52 (481 * (2 * t - 1) + (w' - k)), fF σ 54 (481 * (2 * t - 1) + (w' - k)) ||| (1 : Int32) <<< (nI m &&& 31))
  else (nI w' + fF σ 52 (481 * (r - 1) + w'), fF σ 54 (481 * (r - 1) + w'))
def wm_c (X a j : Nat) : Prop := (a = 51 ∨ a = 53) ∧ j = X
theorem wm_J {σ : am_S} {m t X left : Nat} {b : Bool} (ht : 1 ≤ t) (ht9 : t ≤ 9) (hX : X < 8658) (hl : left ≤ 480) : ∃ σ', f12_minute_J86 (nI m) (nI t) (bI b) (nI X) (nI left) σ = some σ' ∧ q_Ag (wm_c X) σ σ' ∧ (fF σ' 51 X, fF σ' 53 X) = (if b = true ∨ nI left + fF σ 52 (481 * (2 * t - 1) + left) < fF σ 51 X ∨ (nI left + fF σ 52 (481 * (2 * t - 1) + left) = fF σ 51 X ∧ ¬ fF σ 53 X ≤ fF σ 54 (481 * (2 * t - 1) + left) ||| (1 : Int32) <<< (nI m &&& 31)) then (nI left + fF σ 52 (481 * (2 * t - 1) + left), fF σ 54 (481 * (2 * t - 1) + left) ||| (1 : Int32) <<< (nI m &&& 31)) else (fF σ 51 X, fF σ 53 X)) := by
  have ix : (481 : Int32) * (((2 : Int32) * nI t) - (1 : Int32)) + nI left = nI (481 * (2 * t - 1) + left) := by
    rw [show (2 : Int32) = nI 2 from rfl, pk_mul, show (1 : Int32) = nI 1 from rfl, pk_sub (by omega), show (481 : Int32) = nI 481 from rfl, pk_mul, nI_add]
  have qi : am_in (nI (481 * (2 * t - 1) + left)) 8658 = true := q_in (by omega) (by omega)
  have qx : am_in (nI X) 8658 = true := q_in hX (by omega)
  unfold f12_minute_J86
  rw [ix, if_pos qi, if_pos qi, nI_clamp (show 481 * (2 * t - 1) + left < 2 ^ 31 by omega), nI_clamp (show X < 2 ^ 31 by omega)]
  generalize nI left + fF σ 52 (481 * (2 * t - 1) + left) = P1
  generalize fF σ 54 (481 * (2 * t - 1) + left) ||| (1 : Int32) <<< (nI m &&& 31) = P2
  have put : ∃ σ', some (sF (sF σ 51 X P1) 53 X P2) = some σ' ∧ q_Ag (wm_c X) σ σ' ∧ (fF σ' 51 X, fF σ' 53 X) = (P1, P2) := ⟨_, rfl, ((q_Ag.rf σ).sF (S := wm_c X) ⟨Or.inl rfl, rfl⟩).sF ⟨Or.inr rfl, rfl⟩, by rw [q_FFa (by decide), q_FFe, q_FFe]⟩
  simp only [if_pos qx]
  cases b with
  | true =>
    rw [if_neg (show ¬ bI true = 0 by decide), if_pos (Or.inl rfl)]
    exact put
  | false =>
    rw [if_pos (show bI false = 0 from rfl)]
    by_cases c1 : P1 < fF σ 51 X
    · rw [if_pos c1, if_pos (Or.inr (Or.inl c1))]
      exact put
    · rw [if_neg c1]
      by_cases c2 : P1 = fF σ 51 X
      · rw [if_pos c2]
        by_cases c3 : fF σ 53 X ≤ P2
        · rw [if_pos c3, if_neg (fun x => by
            rcases x with x | x | x
            · exact absurd x (by decide)
            · exact c1 x
            · exact x.2 c3)]
          exact ⟨σ, rfl, q_Ag.rf σ, rfl⟩
        · rw [if_neg c3, if_pos (Or.inr (Or.inr ⟨c2, c3⟩))]
          exact put
      · rw [if_neg c2, if_neg (fun x => by
          rcases x with x | x | x
          · exact absurd x (by decide)
          · exact c1 x
          · exact c2 x.1)]
        exact ⟨σ, rfl, q_Ag.rf σ, rfl⟩
theorem wm_min {σ : am_S} {m r w w' t k : Nat} {b : Bool} (ht : 1 ≤ t) (ht9 : t ≤ 9) (hk14 : k ≤ 14) (hr : r < 2 * t) (hw : w ≤ w') (hw' : w' ≤ 480) : ∃ σ', f12_minute σ (nI m) (nI r) (nI w) (nI w') (nI t) (nI k) b = some σ' ∧ q_Ag (wm_c (481 * r + w)) σ σ' ∧ (fF σ' 51 (481 * r + w), fF σ' 53 (481 * r + w)) = wm_R σ m r t k w' b := by
  have ix2 : (481 : Int32) * nI r + nI w = nI (481 * r + w) := by
    rw [show (481 : Int32) = nI 481 from rfl, pk_mul, nI_add]
  have qx : am_in (nI (481 * r + w)) 8658 = true := q_in (by omega) (by omega)
  have g0 : ∀ P1 P2, q_Ag (wm_c (481 * r + w)) σ (sF (sF σ 51 (481 * r + w) P1) 53 (481 * r + w) P2) := fun P1 P2 => ((q_Ag.rf σ).sF (S := wm_c (481 * r + w)) ⟨Or.inl rfl, rfl⟩).sF ⟨Or.inr rfl, rfl⟩
  have v0 : ∀ P1 P2, (fF (sF (sF σ 51 (481 * r + w) P1) 53 (481 * r + w) P2) 51 (481 * r + w), fF (sF (sF σ 51 (481 * r + w) P1) 53 (481 * r + w) P2) 53 (481 * r + w)) = (P1, P2) := fun P1 P2 => by rw [q_FFa (by decide), q_FFe, q_FFe]
  unfold f12_minute
  by_cases c : r = 0
  · subst c
    have ix : (481 : Int32) * (0 : Int32) + nI w' = nI (481 * (0 - 1) + w') := by
      rw [show (0 : Int32) = nI 0 from rfl, show (481 : Int32) = nI 481 from rfl, pk_mul, nI_add]
    have qi : am_in (nI (481 * (0 - 1) + w')) 8658 = true := q_in (by omega) (by omega)
    rw [if_pos (show nI 0 ≤ (0 : Int32) by decide), ix, ix2, if_pos qi, if_pos qx, if_pos qi, if_pos qx, if_neg (show ¬ (0 : Int32) < nI 0 by decide), nI_clamp (show 481 * (0 - 1) + w' < 2 ^ 31 by omega), nI_clamp (show 481 * 0 + w < 2 ^ 31 by omega), q_FFa (show (54 : Nat) ≠ 51 by decide)]
    by_cases c0 : w' = 0
    · rw [if_pos (show nI w' = 0 by rw [c0]; rfl)]
      refine ⟨_, rfl, g0 _ _, ?_⟩
      rw [v0]
      unfold wm_R
      rw [if_neg (by omega)]
    · rw [if_neg (show ¬ nI w' = (0 : Int32) from fun x => c0 ((nI_eq (a := w') (b := 0) (by omega) (by omega)).mp x))]
      have left : (if nI w' ≤ nI k then (f12_minute_J86 (nI m) (nI t) (bI b) (nI (481 * 0 + w)) (0 : Int32) (sF (sF σ 51 (481 * 0 + w) (nI w' + fF σ 52 (481 * (0 - 1) + w'))) 53 (481 * 0 + w) (fF σ 54 (481 * (0 - 1) + w')))) else (f12_minute_J86 (nI m) (nI t) (bI b) (nI (481 * 0 + w)) (nI w' - nI k) (sF (sF σ 51 (481 * 0 + w) (nI w' + fF σ 52 (481 * (0 - 1) + w'))) 53 (481 * 0 + w) (fF σ 54 (481 * (0 - 1) + w'))))) = f12_minute_J86 (nI m) (nI t) (bI b) (nI (481 * 0 + w)) (nI (w' - k)) (sF (sF σ 51 (481 * 0 + w) (nI w' + fF σ 52 (481 * (0 - 1) + w'))) 53 (481 * 0 + w) (fF σ 54 (481 * (0 - 1) + w'))) := by
        by_cases c1 : w' ≤ k
        · rw [if_pos (nI_le c1 (by omega)), show w' - k = 0 by omega]; rfl
        · rw [if_neg (nI_ge (by omega) (by omega)), pk_sub (by omega)]
      rw [left]
      obtain ⟨σ', e1, g1, r1⟩ := wm_J (σ := sF (sF σ 51 (481 * 0 + w) (nI w' + fF σ 52 (481 * (0 - 1) + w'))) 53 (481 * 0 + w) (fF σ 54 (481 * (0 - 1) + w'))) (m := m) (t := t) (X := 481 * 0 + w) (left := w' - k) (b := b) ht ht9 (by omega) (by omega)
      refine ⟨σ', e1, (g0 _ _).tr g1, r1.trans ?_⟩
      have v1 := v0 (nI w' + fF σ 52 (481 * (0 - 1) + w')) (fF σ 54 (481 * (0 - 1) + w'))
      rw [(Prod.mk.inj v1).1, (Prod.mk.inj v1).2, q_FFa (show (52 : Nat) ≠ 53 by decide), q_FFa (show (52 : Nat) ≠ 51 by decide), q_FFa (show (54 : Nat) ≠ 53 by decide), q_FFa (show (54 : Nat) ≠ 51 by decide)]
      unfold wm_R
      rw [wm_and (p := (0 : Nat) = 0 ∧ 0 < w') ⟨rfl, by omega⟩]
  · have ix : (481 : Int32) * (nI r - (1 : Int32)) + nI w' = nI (481 * (r - 1) + w') := by
      rw [show (1 : Int32) = nI 1 from rfl, pk_sub (by omega), show (481 : Int32) = nI 481 from rfl, pk_mul, nI_add]
    have qi : am_in (nI (481 * (r - 1) + w')) 8658 = true := q_in (by omega) (by omega)
    rw [if_neg (show ¬ nI r ≤ (0 : Int32) from nI_ge (a := 0) (by omega) (by omega)), ix, ix2, if_pos qi, if_pos qx, if_pos qi, if_pos qx, if_pos (show (0 : Int32) < nI r from nI_lt (a := 0) (by omega) (by omega)), nI_clamp (show 481 * (r - 1) + w' < 2 ^ 31 by omega), nI_clamp (show 481 * r + w < 2 ^ 31 by omega), q_FFa (show (54 : Nat) ≠ 51 by decide)]
    refine ⟨_, rfl, g0 _ _, ?_⟩
    rw [v0]
    unfold wm_R
    rw [if_neg (fun x => c x.1.1)]
theorem nI_lti {a b : Nat} (ha : a < 2 ^ 31) (hb : b < 2 ^ 31) : nI a < nI b ↔ a < b := by
  by_cases c : a < b
  · exact ⟨fun _ => c, fun _ => nI_lt c hb⟩
  · exact ⟨fun x => absurd x (nI_nlt (by omega) ha), fun x => absurd x c⟩
theorem nI_lei {a b : Nat} (ha : a < 2 ^ 31) (hb : b < 2 ^ 31) : nI a ≤ nI b ↔ a ≤ b := by
  by_cases c : a ≤ b
  · exact ⟨fun _ => c, fun _ => nI_le c hb⟩
  · exact ⟨fun x => absurd x (nI_ge (by omega) ha), fun x => absurd x c⟩
/-- the tables behind a minute -/
def wm_T (M t k : Nat) (it : Nat → Nat) (d : Nat) (σ : am_S) : Prop := ∀ r w, r < 2 * t → w ≤ wt_S M it (M - d) → fF σ 52 (481 * r + w) = nI (wt_V M t k it d r w).1 ∧ fF σ 54 (481 * r + w) = nI (wt_V M t k it d r w).2
/-- the tables in the making: for all that lie ahead of a place -/
def wm_N (M t k : Nat) (it : Nat → Nat) (d r0 w0 : Nat) (σ : am_S) : Prop := ∀ r w, r < 2 * t → w ≤ wt_S M it (M - (d + 1)) → (r < r0 ∨ (r = r0 ∧ w < w0)) → fF σ 51 (481 * r + w) = nI (wt_V M t k it (d + 1) r w).1 ∧ fF σ 53 (481 * r + w) = nI (wt_V M t k it (d + 1) r w).2
section WTM
variable {M t k : Nat} {it : Nat → Nat}
theorem wm_val (hM : M ≤ 24) (ht : 1 ≤ t ∧ t ≤ 9) (hS : wt_S M it M ≤ 480) {d : Nat} (hd : d + 1 ≤ M) {σ : am_S} (hT : wm_T M t k it d σ) {r w : Nat} (hr : r < 2 * t) (hw : w ≤ wt_S M it (M - (d + 1))) : wm_R σ (M - (d + 1)) r t k (w + it (M - (d + 1))) (decide (d = 0)) = (nI (wt_V M t k it (d + 1) r w).1, nI (wt_V M t k it (d + 1) r w).2) := by
  have e1 : M - d = M - (d + 1) + 1 := by omega
  have h2 : wt_S M it (M - d) = wt_S M it (M - (d + 1)) + it (M - (d + 1)) := by rw [e1]; exact wt_Ss (by omega)
  have h3 : wt_S M it (M - d) ≤ wt_S M it M := wt_Sm _ _ (by omega)
  show _ = (nI (if r = 0 then wt_A t k (M - (d + 1)) (decide (d = 0)) (wt_V M t k it d) (w + it (M - (d + 1))) else wt_y (w + it (M - (d + 1))) (wt_V M t k it d (r - 1) (w + it (M - (d + 1))))).1, nI (if r = 0 then wt_A t k (M - (d + 1)) (decide (d = 0)) (wt_V M t k it d) (w + it (M - (d + 1))) else wt_y (w + it (M - (d + 1))) (wt_V M t k it d (r - 1) (w + it (M - (d + 1))))).2)
  have hm : M - (d + 1) < 24 := by omega
  have hw' : w + it (M - (d + 1)) ≤ wt_S M it (M - d) := by omega
  generalize w + it (M - (d + 1)) = w' at hw' ⊢
  obtain ⟨s1, s2⟩ := hT (r - 1) w' (by omega) hw'
  obtain ⟨p1, p2⟩ := hT (2 * t - 1) (w' - k) (by omega) (by omega)
  obtain ⟨bs1, bs2⟩ := wt_b2 (t := t) (k := k) hM ht hS (d := d) (r := r - 1) (w := w') (by omega) (by omega) hw'
  obtain ⟨bp1, bp2⟩ := wt_b2 (t := t) (k := k) hM ht hS (d := d) (r := 2 * t - 1) (w := w' - k) (by omega) (by omega) (by omega)
  obtain ⟨o1, o2⟩ := wt_or (t := t) (k := k) hM ht hS (d := d) (r := 2 * t - 1) (w := w' - k) hd (by omega) (by omega)
  unfold wm_R
  rw [s1, s2, p1, p2, wt_bit _ hm, wt_oI, o1, nI_add, nI_add]
  by_cases c : r = 0
  · rw [if_pos c]
    subst c
    unfold wt_A wt_k wt_p wt_y
    dsimp only
    rw [show (0 : Nat) - 1 = 0 from rfl] at *
    generalize (wt_V M t k it d 0 w').1 = S1 at *
    generalize (wt_V M t k it d 0 w').2 = S2 at *
    generalize (wt_V M t k it d (2 * t - 1) (w' - k)).1 = P1 at *
    generalize hP2 : (wt_V M t k it d (2 * t - 1) (w' - k)).2 + 2 ^ (M - (d + 1)) = P2 at *
    have ec : ((0 = 0 ∧ 0 < w') ∧ (decide (d = 0) = true ∨ nI (w' - k + P1) < nI (w' + S1) ∨ nI (w' - k + P1) = nI (w' + S1) ∧ ¬ nI S2 ≤ nI P2)) ↔ (0 < w' ∧ (decide (d = 0) = true ∨ (w' - k + P1) * 16777216 + P2 < (w' + S1) * 16777216 + S2)) := by
      rw [nI_lti (by omega) (by omega), nI_eq (by omega) (by omega), nI_lei (by omega) (by omega)]
      exact ⟨fun h => ⟨h.1.2, h.2.imp id (fun h => by omega)⟩, fun h => ⟨⟨rfl, h.1⟩, h.2.imp id (fun h => by omega)⟩⟩
    by_cases cc : 0 < w' ∧ (decide (d = 0) = true ∨ (w' - k + P1) * 16777216 + P2 < (w' + S1) * 16777216 + S2)
    · rw [if_pos cc, if_pos (ec.mpr cc)]
    · rw [if_neg cc, if_neg (fun x => cc (ec.mp x))]
  · rw [if_neg c, if_neg (fun x => c x.1.1)]
    rfl
end WTM
