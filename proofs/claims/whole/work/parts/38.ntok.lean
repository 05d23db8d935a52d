/-! THE TEXTS: the model's tokens -/
def n_s1 (a k : Nat) : Prop := a = 36 ∧ ((24 ≤ k ∧ k ≤ 25) ∨ (27 ≤ k ∧ k ≤ 30))
def n_S (b : Nat → Nat) (n x : Nat) (σ : am_S) : Prop := n ≤ 160 ∧ x < 6 ∧ fF σ 36 22 = nI (160 * x) ∧ fF σ 36 23 = nI n ∧ ∀ i, i < n → b i < 256 ∧ fF σ 37 (160 * x + i) = nI (b i)
theorem n_S.mv {b : Nat → Nat} {n x : Nat} {σ σ' : am_S} (h : n_S b n x σ) (g : q_Ag n_s1 σ σ') : n_S b n x σ' :=
  ⟨h.1, h.2.1, (g.2 36 22 (by unfold n_s1; omega)).1.trans h.2.2.1, (g.2 36 23 (by unfold n_s1; omega)).1.trans h.2.2.2.1, fun i hi => ⟨(h.2.2.2.2 i hi).1, (g.2 37 _ (by unfold n_s1; omega)).1.trans (h.2.2.2.2 i hi).2⟩⟩
theorem n_by {b : Nat → Nat} {n x p : Nat} {σ : am_S} (h : n_S b n x σ) (hp : p ≤ n) : f12_byteAt σ (nI p) = some (if p < n then nI (b p) else -1) := by
  obtain ⟨h1, h2, h3, h4, h5⟩ := h
  unfold f12_byteAt
  rw [h4]
  by_cases c : p < n
  · rw [if_neg (nI_ge c (by omega)), if_pos c, h3, nI_add, if_pos (q_in (by omega) (by omega)), nI_clamp (by omega), (h5 p c).2]
  · rw [if_pos (nI_le (by omega) (by omega)), if_neg c]
theorem n_ltw {c : Nat} (hc : c < 256) : q_wi (nI c) 97 122 = tx_le c ∧ q_wi (nI c) 48 57 = tx_di c := by
  have h : (nI c).toInt = (c : Int) := nI_toInt (by omega)
  unfold q_wi tx_le tx_di
  rw [h]
  exact ⟨decide_eq_decide.mpr (by omega), decide_eq_decide.mpr (by omega)⟩
theorem n_m1w : q_wi (-1) 97 122 = false ∧ q_wi (-1) 48 57 = false := by decide
theorem n_in1 (x : Int32) : f12_in x.toInt64 97 122 = some (q_wi x 97 122) := q_nt _ _ rfl rfl
theorem n_in2 (x : Int32) : f12_in x.toInt64 48 57 = some (q_wi x 48 57) := q_nt _ _ rfl rfl
-- words
def tx_h (b : Nat → Nat) (q : Nat) : Nat → Nat
  | 0 => 0
  | k + 1 => 27 * tx_h b q k + (b (q + k) - 96)
theorem tx_h_inj {b b' : Nat → Nat} {q q' : Nat} : ∀ k k', (∀ i, i < k → 97 ≤ b (q + i) ∧ b (q + i) ≤ 122) → (∀ i, i < k' → 97 ≤ b' (q' + i) ∧ b' (q' + i) ≤ 122) → tx_h b q k = tx_h b' q' k' → k = k' ∧ ∀ i, i < k → b (q + i) = b' (q' + i) := by
  intro k
  induction k with
  | zero =>
    intro k' _ h2 e
    cases k' with
    | zero => exact ⟨rfl, fun i hi => absurd hi (Nat.not_lt_zero i)⟩
    | succ k' =>
      have := h2 k' (by omega)
      simp only [tx_h] at e
      omega
  | succ k ih =>
    intro k' h1 h2 e
    cases k' with
    | zero =>
      have := h1 k (by omega)
      simp only [tx_h] at e
      omega
    | succ k' =>
      have a1 := h1 k (by omega)
      have a2 := h2 k' (by omega)
      simp only [tx_h] at e
      obtain ⟨e1, e2⟩ := ih k' (fun i hi => h1 i (by omega)) (fun i hi => h2 i (by omega)) (by omega)
      refine ⟨by omega, fun i hi => ?_⟩
      by_cases c : i = k
      · subst c; subst e1; omega
      · exact e2 i (by omega)
theorem tx_h_lt {b : Nat → Nat} {q : Nat} : ∀ k, (∀ i, i < k → b (q + i) ≤ 122) → tx_h b q k < 27 ^ k
  | 0, _ => by simp [tx_h]
  | k + 1, h => by
    have h1 := tx_h_lt (b := b) (q := q) k (fun i hi => h i (by omega))
    have h2 := h k (by omega)
    simp only [tx_h]
    rw [Nat.pow_succ]
    omega
/-- the model's numbers of the words, in the class's order -/
def tx_H (u : Nat) : Nat := [4350799, 400334, 453959, 923, 168984, 11055682, 247162, 8863997, 409469, 423, 1111, 10631].getD u 0
theorem tx_H_s : ∀ u, u < 12 → tx_H u = tx_h (fun i => (tx_w u).getD i 0) 0 (tx_w u).length ∧ (∀ i, i < (tx_w u).length → 97 ≤ (tx_w u).getD i 0 ∧ (tx_w u).getD i 0 ≤ 122) ∧ tx_H u < 2 ^ 62 := by decide +kernel
/-- what a word comes to -/
def tx_ww (b : Nat → Nat) (q k : Nat) : Int64 := if k ≤ 8 then lN (tx_h b q k) else -1
theorem tx_ww_eq {b : Nat → Nat} {q e u : Nat} (hu : u < 12) (hqe : q ≤ e) (hle : ∀ i, q ≤ i → i < e → tx_le (b i) = true) : tx_ww b q (e - q) = lN (tx_H u) ↔ tx_bs b q e = tx_w u := by
  obtain ⟨a1, a2, a3⟩ := tx_H_s u hu
  have hl : ∀ i, i < e - q → 97 ≤ b (q + i) ∧ b (q + i) ≤ 122 := fun i hi => of_decide_eq_true (hle (q + i) (by omega) (by omega))
  have hlen := (tx_w_s u hu).2.1
  unfold tx_ww
  by_cases c : e - q ≤ 8
  · rw [if_pos c]
    have b1 := tx_h_lt (b := b) (q := q) (e - q) (fun i hi => (hl i hi).2)
    have b2 : 27 ^ (e - q) ≤ 27 ^ 8 := Nat.pow_le_pow_right (by decide) c
    have b3 : 27 ^ 8 = 282429536481 := by decide
    rw [fb_lN_inj (by omega) (by omega)]
    constructor
    · intro x
      rw [a1] at x
      obtain ⟨e1, e2⟩ := tx_h_inj (e - q) _ hl (fun i hi => by rw [Nat.zero_add]; exact a2 i hi) x
      refine List.ext_getElem (by rw [tx_bs_len, e1]) fun i c1 c2 => ?_
      have := e2 i (by omega)
      rw [Nat.zero_add] at this
      have e3 : (tx_bs b q e)[i] = b (q + i) := by simp [tx_bs]
      rw [e3, this]
      exact tx_gI c2
    · intro x
      rw [a1]
      have e1 : e - q = (tx_w u).length := by rw [← x, tx_bs_len]
      have e2 : ∀ i, i < e - q → b (q + i) = (tx_w u).getD i 0 := fun i hi => by
        rw [← x, tx_gI (by rw [tx_bs_len]; exact hi)]
        simp [tx_bs]
      rw [← e1]
      have key : ∀ k, k ≤ e - q → tx_h b q k = tx_h (fun i => (tx_w u).getD i 0) 0 k := by
        intro k
        induction k with
        | zero => intro _; rfl
        | succ k ih =>
          intro hk
          simp only [tx_h]
          rw [ih (by omega), e2 k (by omega), Nat.zero_add]
      exact key _ (Nat.le_refl _)
  · rw [if_neg c]
    constructor
    · intro x
      have h1 : (lN (tx_H u)).toInt = (-1 : Int64).toInt := by rw [x]
      have h2 : ∀ u, u < 12 → (lN (tx_H u)).toInt ≠ (-1 : Int64).toInt := by decide +kernel
      exact absurd h1 (h2 u hu)
    · intro x
      have := congrArg List.length x
      rw [tx_bs_len] at this
      omega
theorem n_wrd (N : Nat) {b : Nat → Nat} {n x q : Nat} : ∀ (d p n' : Nat) (σ : am_S), n - p = d → d < n' → n_S b n x σ → fF σ 36 27 = nI p → q ≤ p → p ≤ n → fG σ 36 26 = tx_ww b q (p - q) → ∃ σ', f12_next_L107 N n' (nI (p - q)) σ = some σ' ∧ q_Ag (fun a k => a = 36 ∧ k = 27) σ σ' ∧ fF σ' 36 27 = nI (tx_R tx_le b n p) ∧ fG σ' 36 26 = tx_ww b q (tx_R tx_le b n p - q) := by
  intro d
  induction d with
  | zero =>
    intro p n' σ hd hn h hp hq hpn hw
    obtain ⟨m, rfl⟩ : ∃ m, n' = m + 1 := ⟨n' - 1, by omega⟩
    refine ⟨σ, ?_, q_Ag.rf σ, ?_, ?_⟩
    · unfold f12_next_L107
      rw [hp, n_by h hpn, if_neg (by omega), Option.bind_some, n_in1, Option.bind_some, n_m1w.1, if_neg (by decide)]
    · rw [tx_R_no (fun x => by omega)]; exact hp
    · rw [tx_R_no (fun x => by omega)]; exact hw
  | succ d ih =>
    intro p n' σ hd hn h hp hq hpn hw
    obtain ⟨m, rfl⟩ : ∃ m, n' = m + 1 := ⟨n' - 1, by omega⟩
    have h1 := h.1
    have hb := (h.2.2.2.2 p (by omega)).1
    unfold f12_next_L107
    rw [hp, n_by h hpn, if_pos (by omega), Option.bind_some, n_in1, Option.bind_some, (n_ltw hb).1, nI_1]
    by_cases c1 : tx_le (b p) = true
    · rw [if_pos c1]
      have c2 : 97 ≤ b p ∧ b p ≤ 122 := of_decide_eq_true c1
      have go : ∀ w : Int64, w = tx_ww b q (p + 1 - q) → ∃ σ', f12_next_L107 N m (nI (p - q + 1)) (sF (sG σ 36 26 w) 36 27 (nI (p + 1))) = some σ' ∧ q_Ag (fun a k => a = 36 ∧ k = 27) σ σ' ∧ fF σ' 36 27 = nI (tx_R tx_le b n p) ∧ fG σ' 36 26 = tx_ww b q (tx_R tx_le b n p - q) := fun w hw => by
        have g : q_Ag (fun a k => a = 36 ∧ k = 27) σ (sF (sG σ 36 26 w) 36 27 (nI (p + 1))) := ((q_Ag.rf σ).sG).sF ⟨rfl, rfl⟩
        obtain ⟨σ', e1, e2, e3, e4⟩ := ih (p + 1) m (sF (sG σ 36 26 w) 36 27 (nI (p + 1))) (by omega) (by omega) (h.mv (g.wk (fun a k x => ⟨x.1, by omega⟩))) q_FFe (by omega) (by omega) (by rw [q_GF, q_GG, if_pos ⟨rfl, rfl⟩, hw])
        rw [show p - q + 1 = p + 1 - q by omega]
        exact ⟨σ', e1, g.tr e2, by rw [e3, ← tx_R_go (by omega) c1], by rw [e4, ← tx_R_go (by omega) c1]⟩
      by_cases c3 : 8 ≤ p - q
      · rw [if_pos (show (8 : Int32) ≤ nI (p - q) from nI_le (a := 8) c3 (by omega)), q_FG, hp, nI_1]
        refine go (-1) ?_
        unfold tx_ww
        rw [if_neg (by omega)]
      · rw [if_neg (show ¬ (8 : Int32) ≤ nI (p - q) from nI_ge (b := 8) (by omega) (by omega)), Option.bind_some, q_FG, hp, nI_1]
        refine go _ ?_
        rw [hw]
        unfold tx_ww
        rw [if_pos (by omega), if_pos (by omega), nI_l (by omega), show (27 : Int64) = lN 27 from rfl, lN_mul, lN_add, show (96 : Int64) = lN 96 from rfl, lN_sub (by omega), show p + 1 - q = (p - q) + 1 by omega]
        show _ = lN (27 * tx_h b q (p - q) + (b (q + (p - q)) - 96))
        rw [show q + (p - q) = p by omega]
        congr 1
        omega
    · rw [if_neg c1]
      exact ⟨σ, rfl, q_Ag.rf σ, by rw [tx_R_no (fun x => c1 x.2)]; exact hp, by rw [tx_R_no (fun x => c1 x.2)]; exact hw⟩
theorem n_num (N : Nat) {b : Nat → Nat} {n x q : Nat} : ∀ (d p n' : Nat) (σ : am_S), n - p = d → d < n' → n_S b n x σ → fF σ 36 27 = nI p → q ≤ p → p ≤ n → (p - q ≤ 4 → fG σ 36 26 = lN (tx_nv b q (p - q))) → ∃ σ', f12_next_L211 N n' (nI (p - q)) σ = f12_next_J286 N (nI (tx_R tx_di b n p - q)) σ' ∧ q_Ag (fun a k => a = 36 ∧ k = 27) σ σ' ∧ fF σ' 36 27 = nI (tx_R tx_di b n p) ∧ (tx_R tx_di b n p - q ≤ 4 → fG σ' 36 26 = lN (tx_nv b q (tx_R tx_di b n p - q))) := by
  intro d
  induction d with
  | zero =>
    intro p n' σ hd hn h hp hq hpn hw
    obtain ⟨m, rfl⟩ : ∃ m, n' = m + 1 := ⟨n' - 1, by omega⟩
    rw [tx_R_no (fun x => by omega)]
    refine ⟨σ, ?_, q_Ag.rf σ, hp, hw⟩
    unfold f12_next_L211
    rw [hp, n_by h hpn, if_neg (by omega), Option.bind_some, n_in2, Option.bind_some, n_m1w.2, if_neg (by decide)]
  | succ d ih =>
    intro p n' σ hd hn h hp hq hpn hw
    obtain ⟨m, rfl⟩ : ∃ m, n' = m + 1 := ⟨n' - 1, by omega⟩
    have h1 := h.1
    have hb := (h.2.2.2.2 p (by omega)).1
    unfold f12_next_L211
    rw [hp, n_by h hpn, if_pos (by omega), Option.bind_some, n_in2, Option.bind_some, (n_ltw hb).2, nI_1]
    by_cases c1 : tx_di (b p) = true
    · rw [if_pos c1]
      have c2 : 48 ≤ b p ∧ b p ≤ 57 := of_decide_eq_true c1
      have go : ∀ w : Int64, (p + 1 - q ≤ 4 → w = lN (tx_nv b q (p + 1 - q))) → ∃ σ', f12_next_L211 N m (nI (p - q + 1)) (sF (sG σ 36 26 w) 36 27 (nI (p + 1))) = f12_next_J286 N (nI (tx_R tx_di b n p - q)) σ' ∧ q_Ag (fun a k => a = 36 ∧ k = 27) σ σ' ∧ fF σ' 36 27 = nI (tx_R tx_di b n p) ∧ (tx_R tx_di b n p - q ≤ 4 → fG σ' 36 26 = lN (tx_nv b q (tx_R tx_di b n p - q))) := fun w hw => by
        have g : q_Ag (fun a k => a = 36 ∧ k = 27) σ (sF (sG σ 36 26 w) 36 27 (nI (p + 1))) := ((q_Ag.rf σ).sG).sF ⟨rfl, rfl⟩
        obtain ⟨σ', e1, e2, e3, e4⟩ := ih (p + 1) m (sF (sG σ 36 26 w) 36 27 (nI (p + 1))) (by omega) (by omega) (h.mv (g.wk (fun a k x => ⟨x.1, by omega⟩))) q_FFe (by omega) (by omega) (fun hh => by rw [q_GF, q_GG, if_pos ⟨rfl, rfl⟩, hw hh])
        rw [show p - q + 1 = p + 1 - q by omega, tx_R_go (by omega) c1]
        exact ⟨σ', e1, g.tr e2, e3, e4⟩
      by_cases c3 : 4 ≤ p - q
      · rw [if_pos (show (4 : Int32) ≤ nI (p - q) from nI_le (a := 4) c3 (by omega)), q_FG, hp, nI_1]
        exact go _ (fun hh => by omega)
      · rw [if_neg (show ¬ (4 : Int32) ≤ nI (p - q) from nI_ge (b := 4) (by omega) (by omega)), Option.bind_some, q_FG, hp, nI_1]
        refine go _ (fun hh => ?_)
        rw [hw (by omega), nI_l (by omega), show (10 : Int64) = lN 10 from rfl, lN_mul, lN_add, show (48 : Int64) = lN 48 from rfl, lN_sub (by omega), show p + 1 - q = (p - q) + 1 by omega]
        show _ = lN (10 * tx_nv b q (p - q) + (b (q + (p - q)) - 48))
        rw [show q + (p - q) = p by omega]
        congr 1
        omega
    · rw [if_neg c1, tx_R_no (fun x => c1 x.2)]
      exact ⟨σ, rfl, q_Ag.rf σ, hp, hw⟩
/-- the model's token is that of a place -/
def n_T (b : Nat → Nat) (n p : Nat) (σ : am_S) : Prop := fF σ 36 25 = nI (tx_f b n p) ∧ (tx_c b n p ≠ 14 → fF σ 36 27 = nI (tx_n b n p)) ∧ (∀ u, u < 12 → ((fF σ 36 24 = 1 ∧ fG σ 36 26 = lN (tx_H u)) ↔ tx_c b n p = u)) ∧ (∀ s, tx_sg s = true → ((fF σ 36 24 = 3 ∧ fG σ 36 26 = lN s) ↔ tx_c b n p = s)) ∧ (fF σ 36 24 = 2 ↔ tx_c b n p = 12) ∧ (tx_c b n p = 12 → fG σ 36 26 = lN (tx_v b n p)) ∧ (fF σ 36 24 = 0 ↔ tx_c b n p = 13)
theorem tx_sg_r {s : Nat} (h : tx_sg s = true) : 40 ≤ s ∧ s < 62 := by
  simp only [tx_sg, Bool.or_eq_true, beq_iff_eq] at h
  omega
theorem tx_13_12 : ¬ (13 : Nat) = 12 := by decide
theorem tx_14_12 : ¬ (14 : Nat) = 12 := by decide
theorem tx_14_13 : ¬ (14 : Nat) = 13 := by decide
theorem tx_12_13 : ¬ (12 : Nat) = 13 := by decide
theorem n_next {N : Nat} (hN : 200 ≤ N) {b : Nat → Nat} {n x p : Nat} {σ : am_S} (h : n_S b n x σ) (hp : fF σ 36 27 = nI p) (hpn : p ≤ n) : ∃ σ', f12_next N σ = some σ' ∧ q_Ag (fun a k => a = 36 ∧ (k = 24 ∨ k = 25 ∨ k = 27)) σ σ' ∧ n_T b n p σ' := by
  have hsk : ∀ (d p n' : Nat) (σ : am_S), n - p = d → d < n' → n_S b n x σ → fF σ 36 27 = nI p → p ≤ n → ∃ σ', f12_next_L0 N n' σ = f12_next_J39 N σ' ∧ q_Ag (fun a k => a = 36 ∧ k = 27) σ σ' ∧ fF σ' 36 27 = nI (tx_R tx_bl b n p) := by
    intro d
    induction d with
    | zero =>
      intro p n' σ hd hn h hp hpn
      obtain ⟨m, rfl⟩ : ∃ m, n' = m + 1 := ⟨n' - 1, by omega⟩
      refine ⟨σ, ?_, q_Ag.rf σ, ?_⟩
      · unfold f12_next_L0
        rw [hp, n_by h hpn, if_neg (by omega), Option.bind_some, if_neg (by decide), Option.bind_some, if_neg (by decide)]
      · rw [tx_R_no (fun x => by omega)]; exact hp
    | succ d ih =>
      intro p n' σ hd hn h hp hpn
      obtain ⟨m, rfl⟩ : ∃ m, n' = m + 1 := ⟨n' - 1, by omega⟩
      have h1 := h.1
      have hb := (h.2.2.2.2 p (by omega)).1
      have hgo : tx_bl (b p) = true → ∃ σ', f12_next_L0 N m (sF σ 36 27 (nI (p + 1))) = f12_next_J39 N σ' ∧ q_Ag (fun a k => a = 36 ∧ k = 27) σ σ' ∧ fF σ' 36 27 = nI (tx_R tx_bl b n p) := fun hb => by
        have g : q_Ag (fun a k => a = 36 ∧ k = 27) σ (sF σ 36 27 (nI (p + 1))) := (q_Ag.rf σ).sF ⟨rfl, rfl⟩
        obtain ⟨σ', e1, e2, e3⟩ := ih (p + 1) m (sF σ 36 27 (nI (p + 1))) (by omega) (by omega) (h.mv (g.wk (fun a k x => ⟨x.1, by omega⟩))) q_FFe (by omega)
        exact ⟨σ', e1, g.tr e2, by rw [e3, ← tx_R_go (by omega) hb]⟩
      have e32 : (nI (b p) = (32 : Int32)) = (b p = 32) := propext (nI_eq (b := 32) (by omega) (by omega))
      have e10 : (nI (b p) = (10 : Int32)) = (b p = 10) := propext (nI_eq (b := 10) (by omega) (by omega))
      unfold f12_next_L0
      rw [hp, n_by h hpn, if_pos (by omega), Option.bind_some, nI_1]
      simp only [e32, e10, Option.bind_some]
      by_cases c1 : b p = 32
      · rw [if_pos c1]
        exact hgo (by rw [c1]; rfl)
      · rw [if_neg c1]
        by_cases c2 : b p = 10
        · rw [if_pos c2]
          exact hgo (by rw [c2]; rfl)
        · rw [if_neg c2]
          refine ⟨σ, rfl, q_Ag.rf σ, ?_⟩
          rw [tx_R_no (fun x => by
            have := x.2
            simp only [tx_bl, Bool.or_eq_true, beq_iff_eq] at this
            omega)]
          exact hp
  have h1 := h.1
  obtain ⟨σ1, e1, g1, p1⟩ := hsk (n - p) p N σ rfl (by omega) h hp hpn
  have g1' : q_Ag (fun a k => a = 36 ∧ (k = 24 ∨ k = 25 ∨ k = 27)) σ σ1 := g1.wk (fun a k x => ⟨x.1, by omega⟩)
  have hq := tx_R_le tx_bl b hpn
  have toS : ∀ {σ2 : am_S}, q_Ag (fun a k => a = 36 ∧ (k = 24 ∨ k = 25 ∨ k = 27)) σ σ2 → n_S b n x σ2 := fun g => h.mv (g.wk (fun a k x => ⟨x.1, by omega⟩))
  unfold f12_next
  rw [e1]
  unfold f12_next_J39
  have g2 : q_Ag (fun a k => a = 36 ∧ (k = 24 ∨ k = 25 ∨ k = 27)) σ (sF σ1 36 25 (nI (tx_R tx_bl b n p))) := g1'.sF ⟨rfl, by omega⟩
  have p2 : fF (sF σ1 36 25 (nI (tx_R tx_bl b n p))) 36 27 = nI (tx_R tx_bl b n p) := p1
  have p3 : fF (sF σ1 36 25 (nI (tx_R tx_bl b n p))) 36 25 = nI (tx_R tx_bl b n p) := q_FFe
  rw [p1, p2]
  unfold n_T tx_c tx_f tx_n tx_v tx_tk
  generalize sF σ1 36 25 (nI (tx_R tx_bl b n p)) = σ2 at g2 p2 p3 ⊢
  rw [n_by (toS g2) hq]
  by_cases c1 : n ≤ tx_R tx_bl b n p
  · rw [if_neg (by omega), Option.bind_some, if_neg (by decide), if_pos c1]
    have hn := (toS g2).2.2.2.1
    refine ⟨_, rfl, ((g2.sF ⟨rfl, by omega⟩).sF ⟨rfl, by omega⟩).sF ⟨rfl, by omega⟩, ?_, fun _ => ?_, fun u hu => ?_, fun s hs => ?_, ?_, ?_, ?_⟩
    · show fF (sF _ 36 25 _) 36 25 = nI (tx_R tx_bl b n p)
      rw [q_FFe, q_FFk (by decide), q_FFk (by decide), hn, show tx_R tx_bl b n p = n by omega]
    · show fF (sF (sF (sF σ2 36 24 4) 36 24 0) 36 25 _) 36 27 = nI (tx_R tx_bl b n p)
      rw [q_FFk (by decide), q_FFk (by decide), q_FFk (by decide), p2]
    · show (fF (sF (sF (sF σ2 36 24 4) 36 24 0) 36 25 _) 36 24 = 1 ∧ _) ↔ (13 : Nat) = u
      rw [q_FFk (by decide), q_FFe]
      exact ⟨fun x => absurd x.1 (by decide), fun x => by omega⟩
    · show (fF (sF (sF (sF σ2 36 24 4) 36 24 0) 36 25 _) 36 24 = 3 ∧ _) ↔ (13 : Nat) = s
      rw [q_FFk (by decide), q_FFe]
      have := tx_sg_r hs
      exact ⟨fun x => absurd x.1 (by decide), fun x => by omega⟩
    · show fF (sF (sF (sF σ2 36 24 4) 36 24 0) 36 25 _) 36 24 = 2 ↔ (13 : Nat) = 12
      rw [q_FFk (by decide), q_FFe]
      exact ⟨fun x => absurd x (by decide), fun x => absurd x (by decide)⟩
    · exact fun x => absurd x tx_13_12
    · show fF (sF (sF (sF σ2 36 24 4) 36 24 0) 36 25 _) 36 24 = 0 ↔ (13 : Nat) = 13
      rw [q_FFk (by decide), q_FFe]
      exact ⟨fun _ => rfl, fun _ => rfl⟩
  · rw [if_pos (by omega), Option.bind_some, if_neg c1]
    have hb := (h.2.2.2.2 (tx_R tx_bl b n p) (by omega)).1
    rw [if_pos (nI_pos' (by omega)), n_in1, Option.bind_some, (n_ltw hb).1]
    by_cases c2 : tx_le (b (tx_R tx_bl b n p)) = true
    · rw [if_pos c2, if_pos c2]
      have g3 : q_Ag (fun a k => a = 36 ∧ (k = 24 ∨ k = 25 ∨ k = 27)) σ (sG (sF (sF σ2 36 24 4) 36 24 1) 36 26 0) := ((g2.sF ⟨rfl, by omega⟩).sF ⟨rfl, by omega⟩).sG
      have q1 : fF (sG (sF (sF σ2 36 24 4) 36 24 1) 36 26 0) 36 24 = 1 := by rw [q_FG, q_FFe]
      have q2 : fF (sG (sF (sF σ2 36 24 4) 36 24 1) 36 26 0) 36 25 = nI (tx_R tx_bl b n p) := by rw [q_FG, q_FFk (by decide), q_FFk (by decide), p3]
      have q3 : fF (sG (sF (sF σ2 36 24 4) 36 24 1) 36 26 0) 36 27 = nI (tx_R tx_bl b n p) := by rw [q_FG, q_FFk (by decide), q_FFk (by decide), p2]
      have q4 : fG (sG (sF (sF σ2 36 24 4) 36 24 1) 36 26 0) 36 26 = tx_ww b (tx_R tx_bl b n p) (tx_R tx_bl b n p - tx_R tx_bl b n p) := by rw [q_GG, if_pos ⟨rfl, rfl⟩, Nat.sub_self]; rfl
      generalize sG (sF (sF σ2 36 24 4) 36 24 1) 36 26 0 = σ3 at g3 q1 q2 q3 q4 ⊢
      obtain ⟨σ4, e4, g4, r1, r2⟩ := n_wrd N (q := tx_R tx_bl b n p) (n - tx_R tx_bl b n p) (tx_R tx_bl b n p) N σ3 rfl (by omega) (toS g3) q3 (Nat.le_refl _) hq q4
      rw [Nat.sub_self] at e4
      have s1 : fF σ4 36 24 = 1 := (g4.2 36 24 (by omega)).1.trans q1
      have hw := fun u (hu : u < 12) => tx_ww_eq hu (tx_R_ge tx_le b n (tx_R tx_bl b n p)) (fun i i1 i2 => (tx_R_in i1 i2).2)
      have hwi : ∀ u, u < 12 → (tx_bs b (tx_R tx_bl b n p) (tx_R tx_le b n (tx_R tx_bl b n p)) = tx_w u ↔ tx_wi (tx_bs b (tx_R tx_bl b n p) (tx_R tx_le b n (tx_R tx_bl b n p))) = u) := fun u hu => by
        constructor
        · intro e; rw [e]; exact (tx_w_s u hu).2.2.2
        · intro e
          by_cases hx : ∃ v, v < 12 ∧ tx_bs b (tx_R tx_bl b n p) (tx_R tx_le b n (tx_R tx_bl b n p)) = tx_w v
          · obtain ⟨v, v1, v2⟩ := hx
            rw [v2, (tx_w_s v v1).2.2.2] at e
            rw [v2, e]
          · rw [tx_wi_no (fun v v1 v2 => hx ⟨v, v1, v2⟩)] at e
            omega
      have hle := tx_wi_le (tx_bs b (tx_R tx_bl b n p) (tx_R tx_le b n (tx_R tx_bl b n p)))
      refine ⟨σ4, e4, g3.tr (g4.wk (fun a k x => ⟨x.1, by omega⟩)), (g4.2 36 25 (by omega)).1.trans q2, fun _ => r1, fun u hu => ?_, fun s hs => ?_, ?_, ?_, ?_⟩
      · rw [s1, r2, hw u hu]
        exact ⟨fun x => (hwi u hu).mp x.2, fun x => ⟨rfl, (hwi u hu).mpr x⟩⟩
      · have := tx_sg_r hs
        rw [s1]
        refine ⟨fun x => absurd x.1 (by decide), fun x => ?_⟩
        have x' : tx_wi (tx_bs b (tx_R tx_bl b n p) (tx_R tx_le b n (tx_R tx_bl b n p))) = s := x
        omega
      · rw [s1]
        refine ⟨fun x => absurd x (by decide), fun x => ?_⟩
        have x' : tx_wi (tx_bs b (tx_R tx_bl b n p) (tx_R tx_le b n (tx_R tx_bl b n p))) = 12 := x
        omega
      · intro x
        have x' : tx_wi (tx_bs b (tx_R tx_bl b n p) (tx_R tx_le b n (tx_R tx_bl b n p))) = 12 := x
        omega
      · rw [s1]
        refine ⟨fun x => absurd x (by decide), fun x => ?_⟩
        have x' : tx_wi (tx_bs b (tx_R tx_bl b n p) (tx_R tx_le b n (tx_R tx_bl b n p))) = 13 := x
        omega
    · rw [if_neg c2, if_neg c2, n_in2, Option.bind_some, (n_ltw hb).2]
      by_cases c3 : tx_di (b (tx_R tx_bl b n p)) = true
      · rw [if_pos c3, if_pos c3]
        have g3 : q_Ag (fun a k => a = 36 ∧ (k = 24 ∨ k = 25 ∨ k = 27)) σ (sG (sF (sF σ2 36 24 4) 36 24 2) 36 26 0) := ((g2.sF ⟨rfl, by omega⟩).sF ⟨rfl, by omega⟩).sG
        have q2 : fF (sG (sF (sF σ2 36 24 4) 36 24 2) 36 26 0) 36 25 = nI (tx_R tx_bl b n p) := by rw [q_FG, q_FFk (by decide), q_FFk (by decide), p3]
        have q3 : fF (sG (sF (sF σ2 36 24 4) 36 24 2) 36 26 0) 36 27 = nI (tx_R tx_bl b n p) := by rw [q_FG, q_FFk (by decide), q_FFk (by decide), p2]
        have q4 : tx_R tx_bl b n p - tx_R tx_bl b n p ≤ 4 → fG (sG (sF (sF σ2 36 24 4) 36 24 2) 36 26 0) 36 26 = lN (tx_nv b (tx_R tx_bl b n p) (tx_R tx_bl b n p - tx_R tx_bl b n p)) := fun _ => by rw [q_GG, if_pos ⟨rfl, rfl⟩, Nat.sub_self]; rfl
        generalize sG (sF (sF σ2 36 24 4) 36 24 2) 36 26 0 = σ3 at g3 q2 q3 q4 ⊢
        obtain ⟨σ4, e4, g4, r1, r2⟩ := n_num N (q := tx_R tx_bl b n p) (n - tx_R tx_bl b n p) (tx_R tx_bl b n p) N σ3 rfl (by omega) (toS g3) q3 (Nat.le_refl _) hq q4
        rw [Nat.sub_self] at e4
        have hx := tx_R_le tx_di b hq
        have g5 := g3.tr (g4.wk (fun a k x => ⟨x.1, by omega⟩))
        have r3 := (g4.2 36 25 (by omega)).1.trans q2
        rw [show (0 : Int32) = nI 0 from rfl, e4]
        unfold f12_next_J286
        by_cases c4 : tx_R tx_di b n (tx_R tx_bl b n p) - tx_R tx_bl b n p ≤ 4
        · rw [if_pos (show nI _ ≤ (4 : Int32) from nI_le (b := 4) c4 (by omega)), if_pos c4]
          refine ⟨_, rfl, g5.sF ⟨rfl, by omega⟩, r3, fun _ => r1, fun u hu => ?_, fun s hs => ?_, ?_, ?_, ?_⟩
          · rw [q_FFe]
            refine ⟨fun x => absurd x.1 (by decide), fun x => ?_⟩
            have x' : (12 : Nat) = u := x
            omega
          · have := tx_sg_r hs
            rw [q_FFe]
            refine ⟨fun x => absurd x.1 (by decide), fun x => ?_⟩
            have x' : (12 : Nat) = s := x
            omega
          · rw [q_FFe]
            exact ⟨fun _ => rfl, fun _ => rfl⟩
          · exact fun _ => r2 c4
          · rw [q_FFe]
            exact ⟨fun x => absurd x (by decide), fun x => absurd x tx_12_13⟩
        · rw [if_neg (show ¬ nI _ ≤ (4 : Int32) from nI_ge (a := 4) (by omega) (by omega)), if_neg c4]
          refine ⟨_, rfl, g5.sF ⟨rfl, by omega⟩, r3, fun _ => r1, fun u hu => ?_, fun s hs => ?_, ?_, ?_, ?_⟩
          · rw [q_FFe]
            refine ⟨fun x => absurd x.1 (by decide), fun x => ?_⟩
            have x' : (14 : Nat) = u := x
            omega
          · have := tx_sg_r hs
            rw [q_FFe]
            refine ⟨fun x => absurd x.1 (by decide), fun x => ?_⟩
            have x' : (14 : Nat) = s := x
            omega
          · rw [q_FFe]
            exact ⟨fun x => absurd x (by decide), fun x => absurd x tx_14_12⟩
          · exact fun x => absurd x tx_14_12
          · rw [q_FFe]
            exact ⟨fun x => absurd x (by decide), fun x => absurd x tx_14_13⟩
      · rw [if_neg c3, if_neg c3]
        have sgn : tx_sg (b (tx_R tx_bl b n p)) = true → ∃ σ', some (sF (sG (sF (sF σ2 36 24 4) 36 24 3) 36 26 (nI (b (tx_R tx_bl b n p))).toInt64) 36 27 ((fF (sG (sF (sF σ2 36 24 4) 36 24 3) 36 26 (nI (b (tx_R tx_bl b n p))).toInt64) 36 27) + 1)) = some σ' ∧ q_Ag (fun a k => a = 36 ∧ (k = 24 ∨ k = 25 ∨ k = 27)) σ σ' ∧ fF σ' 36 25 = nI (tx_R tx_bl b n p) ∧ fF σ' 36 27 = nI (tx_R tx_bl b n p + 1) ∧ fF σ' 36 24 = 3 ∧ fG σ' 36 26 = lN (b (tx_R tx_bl b n p)) := fun _ => by
          refine ⟨_, rfl, (((g2.sF ⟨rfl, by omega⟩).sF ⟨rfl, by omega⟩).sG).sF ⟨rfl, by omega⟩, ?_, ?_, ?_, ?_⟩
          · rw [q_FFk (by decide), q_FG, q_FFk (by decide), q_FFk (by decide), p3]
          · rw [q_FFe, q_FG, q_FFk (by decide), q_FFk (by decide), p2, nI_1]
          · rw [q_FFk (by decide), q_FG, q_FFe]
          · rw [q_GF, q_GG, if_pos ⟨rfl, rfl⟩, nI_l (by omega)]
        have tail : tx_sg (b (tx_R tx_bl b n p)) = true → ∀ {o : Option am_S}, o = some (sF (sG (sF (sF σ2 36 24 4) 36 24 3) 36 26 (nI (b (tx_R tx_bl b n p))).toInt64) 36 27 ((fF (sG (sF (sF σ2 36 24 4) 36 24 3) 36 26 (nI (b (tx_R tx_bl b n p))).toInt64) 36 27) + 1)) → ∃ σ', o = some σ' ∧ q_Ag (fun a k => a = 36 ∧ (k = 24 ∨ k = 25 ∨ k = 27)) σ σ' ∧ fF σ' 36 25 = nI (tx_R tx_bl b n p) ∧ (b (tx_R tx_bl b n p) ≠ 14 → fF σ' 36 27 = nI (tx_R tx_bl b n p + 1)) ∧ (∀ u, u < 12 → ((fF σ' 36 24 = 1 ∧ fG σ' 36 26 = lN (tx_H u)) ↔ b (tx_R tx_bl b n p) = u)) ∧ (∀ s, tx_sg s = true → ((fF σ' 36 24 = 3 ∧ fG σ' 36 26 = lN s) ↔ b (tx_R tx_bl b n p) = s)) ∧ (fF σ' 36 24 = 2 ↔ b (tx_R tx_bl b n p) = 12) ∧ (b (tx_R tx_bl b n p) = 12 → fG σ' 36 26 = lN 0) ∧ (fF σ' 36 24 = 0 ↔ b (tx_R tx_bl b n p) = 13) := fun hs o ho => by
          obtain ⟨σ', f1, f2, f3, f4, f5, f6⟩ := sgn hs
          have hr := tx_sg_r hs
          refine ⟨σ', ho.trans f1, f2, f3, fun _ => f4, fun u hu => ?_, fun s hs' => ?_, ?_, fun x => by omega, ?_⟩
          · rw [f5]
            exact ⟨fun x => absurd x.1 (by decide), fun x => by omega⟩
          · have hr' := tx_sg_r hs'
            rw [f5, f6, fb_lN_inj (by omega) (by omega)]
            exact ⟨fun x => x.2, fun x => ⟨rfl, x⟩⟩
          · rw [f5]
            exact ⟨fun x => absurd x (by decide), fun x => by omega⟩
          · rw [f5]
            exact ⟨fun x => absurd x (by decide), fun x => by omega⟩
        have ek : ∀ c : Nat, c < 100 → (nI (b (tx_R tx_bl b n p)) = nI c) = (b (tx_R tx_bl b n p) = c) := fun c hc => propext (nI_eq (by omega) (by omega))
        rw [show (40 : Int32) = nI 40 from rfl, show (41 : Int32) = nI 41 from rfl, show (59 : Int32) = nI 59 from rfl, show (43 : Int32) = nI 43 from rfl, show (45 : Int32) = nI 45 from rfl, show (42 : Int32) = nI 42 from rfl, show (60 : Int32) = nI 60 from rfl, show (61 : Int32) = nI 61 from rfl]
        simp only [ek 40 (by decide), ek 41 (by decide), ek 59 (by decide), ek 43 (by decide), ek 45 (by decide), ek 42 (by decide), ek 60 (by decide), ek 61 (by decide)]
        by_cases c4 : tx_sg (b (tx_R tx_bl b n p)) = true
        · rw [if_pos c4]
          refine tail c4 ?_
          have c4' := c4
          simp only [tx_sg, Bool.or_eq_true, beq_iff_eq] at c4'
          repeat' split
          all_goals first | rfl | (exfalso; omega)
        · rw [if_neg c4]
          have c4' := c4
          simp only [tx_sg, Bool.or_eq_true, beq_iff_eq] at c4'
          rw [if_neg (by omega), if_neg (by omega), if_neg (by omega), if_neg (by omega), if_neg (by omega), if_neg (by omega), if_neg (by omega), if_neg (by omega)]
          refine ⟨_, rfl, g2.sF ⟨rfl, by omega⟩, (q_FFk (by decide)).trans p3, fun x => absurd rfl x, fun u hu => ?_, fun s hs => ?_, ?_, fun x => absurd x tx_14_12, ?_⟩
          · rw [q_FFe]
            refine ⟨fun x => absurd x.1 (by decide), fun x => ?_⟩
            have x' : (14 : Nat) = u := x
            omega
          · have := tx_sg_r hs
            rw [q_FFe]
            refine ⟨fun x => absurd x.1 (by decide), fun x => ?_⟩
            have x' : (14 : Nat) = s := x
            omega
          · rw [q_FFe]
            exact ⟨fun x => absurd x (by decide), fun x => absurd x tx_14_12⟩
          · rw [q_FFe]
            exact ⟨fun x => absurd x (by decide), fun x => absurd x tx_14_13⟩
