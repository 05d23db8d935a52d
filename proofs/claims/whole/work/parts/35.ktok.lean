/-! THE TEXTS: the class's tokens -/
def tx_sb (b : Nat) : Int32 := (nI b).toInt8.toInt32
theorem tx_sb_i : ∀ b, b < 256 → (tx_sb b).toInt = if b < 128 then (b : Int) else (b : Int) - 256 := by decide +kernel
def k_S (b : Nat → Nat) (n t : Nat) (σ : am_S) : Prop := n ≤ 160 ∧ t < 6 ∧ fF σ 11 1 = nI n ∧ fF σ 11 4 = nI t ∧ ∀ i, i < n → b i < 256 ∧ fF σ 12 i = tx_sb (b i)
theorem k_S.mv {S : Nat → Nat → Prop} {b : Nat → Nat} {n t : Nat} {σ σ' : am_S} (h : k_S b n t σ) (g : q_Ag S σ σ') (h1 : ¬ S 11 1) (h4 : ¬ S 11 4) (h12 : ∀ i, ¬ S 12 i) : k_S b n t σ' :=
  ⟨h.1, h.2.1, (g.2 11 1 h1).1.trans h.2.2.1, (g.2 11 4 h4).1.trans h.2.2.2.1, fun i hi => ⟨(h.2.2.2.2 i hi).1, (g.2 12 i (h12 i)).1.trans (h.2.2.2.2 i hi).2⟩⟩
/-- the cells that the class's tokens touch -/
def k_s1 (a k : Nat) : Prop := a = 11 ∧ 8 ≤ k ∧ k ≤ 11
theorem k_S.mv1 {b : Nat → Nat} {n t : Nat} {σ σ' : am_S} (h : k_S b n t σ) (g : q_Ag k_s1 σ σ') : k_S b n t σ' :=
  h.mv g (by unfold k_s1; omega) (by unfold k_s1; omega) (fun i => by unfold k_s1; omega)
theorem k_by {b : Nat → Nat} {n t p : Nat} {σ : am_S} (h : k_S b n t σ) (hp : p < n) : am_in (nI p) 160 = true ∧ b p < 256 ∧ fF σ 12 (nI p).toNatClampNeg = tx_sb (b p) := by
  have h1 := h.1
  refine ⟨q_in (by omega) (by omega), (h.2.2.2.2 p hp).1, ?_⟩
  rw [nI_clamp (by omega)]
  exact (h.2.2.2.2 p hp).2
theorem tx_sb_eq {b c : Nat} (hb : b < 256) (hc : c < 128) : tx_sb b = nI c ↔ b = c := by
  have h1 := tx_sb_i b hb
  have h2 : (nI c).toInt = (c : Int) := nI_toInt (by omega)
  constructor
  · intro e
    rw [e, h2] at h1
    split at h1 <;> omega
  · intro e
    subst e
    exact i_ext (by rw [h1, h2, if_pos hc])
theorem k_sk (N : Nat) {b : Nat → Nat} {n t : Nat} : ∀ (d p n' : Nat) (σ : am_S), n - p = d → d < n' → k_S b n t σ → fF σ 11 8 = nI p → p ≤ n → ∃ σ', f10_nextToken_L0 N n' σ = f10_nextToken_J52 N σ' ∧ q_Ag k_s1 σ σ' ∧ fF σ' 11 8 = nI (tx_R tx_bl b n p) := by
  intro d
  induction d with
  | zero =>
    intro p n' σ hd hn h hp hpn
    obtain ⟨m, rfl⟩ : ∃ m, n' = m + 1 := ⟨n' - 1, by omega⟩
    have h1 := h.1
    refine ⟨σ, ?_, q_Ag.rf σ, ?_⟩
    · unfold f10_nextToken_L0
      rw [h.2.2.1, hp, if_pos (nI_le (by omega) (by omega))]
    · rw [tx_R_no (fun x => by omega)]; exact hp
  | succ d ih =>
    intro p n' σ hd hn h hp hpn
    obtain ⟨m, rfl⟩ : ∃ m, n' = m + 1 := ⟨n' - 1, by omega⟩
    have h1 := h.1
    obtain ⟨a1, a2, a3⟩ := k_by h (p := p) (by omega)
    unfold f10_nextToken_L0
    rw [h.2.2.1, hp, if_neg (nI_ge (by omega) (by omega)), if_pos a1, a3, nI_1]
    have e32 : (tx_sb (b p) = (32 : Int32)) = (b p = 32) := propext (tx_sb_eq a2 (c := 32) (by omega))
    have e10 : (tx_sb (b p) = (10 : Int32)) = (b p = 10) := propext (tx_sb_eq a2 (c := 10) (by omega))
    simp only [e32, e10]
    have hgo : tx_bl (b p) = true → ∃ σ', f10_nextToken_L0 N m (sF σ 11 8 (nI (p + 1))) = f10_nextToken_J52 N σ' ∧ q_Ag k_s1 σ σ' ∧ fF σ' 11 8 = nI (tx_R tx_bl b n p) := fun hb => by
      have g : q_Ag k_s1 σ (sF σ 11 8 (nI (p + 1))) := (q_Ag.rf σ).sF ⟨rfl, by omega, by omega⟩
      obtain ⟨σ', e1, e2, e3⟩ := ih (p + 1) m (sF σ 11 8 (nI (p + 1))) (by omega) (by omega) (h.mv1 g) q_FFe (by omega)
      exact ⟨σ', e1, g.tr e2, by rw [e3, ← tx_R_go (by omega) hb]⟩
    by_cases c1 : b p = 32
    · rw [if_pos c1]
      exact hgo (by rw [c1]; rfl)
    · rw [if_neg c1, if_pos a1]
      by_cases c2 : b p = 10
      · rw [if_pos c2]
        exact hgo (by rw [c2]; rfl)
      · rw [if_neg c2]
        refine ⟨σ, rfl, q_Ag.rf σ, ?_⟩
        rw [tx_R_no (fun x => by
          have := x.2
          simp only [tx_bl, Bool.or_eq_true, beq_iff_eq] at this
          omega)]
        exact hp
theorem k_let {b : Nat} (hb : b < 256) : f10_isLetter (tx_sb b) = some (tx_le b) := by
  have h := tx_sb_i b hb
  unfold f10_isLetter tx_le
  by_cases h1 : tx_sb b < 97
  · rw [if_pos h1, decide_eq_false]
    rw [q_lt, show (97 : Int32).toInt = 97 from rfl] at h1
    split at h <;> omega
  · rw [if_neg h1]
    rw [q_lt, show (97 : Int32).toInt = 97 from rfl] at h1
    by_cases h2 : 122 < tx_sb b
    · rw [if_pos h2, decide_eq_false]
      rw [q_lt, show (122 : Int32).toInt = 122 from rfl] at h2
      split at h <;> omega
    · rw [if_neg h2, decide_eq_true]
      rw [q_lt, show (122 : Int32).toInt = 122 from rfl] at h2
      split at h <;> omega
theorem k_dig {b : Nat} (hb : b < 256) : f10_isDigit (tx_sb b) = some (tx_di b) := by
  have h := tx_sb_i b hb
  unfold f10_isDigit tx_di
  by_cases h1 : tx_sb b < 48
  · rw [if_pos h1, decide_eq_false]
    rw [q_lt, show (48 : Int32).toInt = 48 from rfl] at h1
    split at h <;> omega
  · rw [if_neg h1]
    rw [q_lt, show (48 : Int32).toInt = 48 from rfl] at h1
    by_cases h2 : 57 < tx_sb b
    · rw [if_pos h2, decide_eq_false]
      rw [q_lt, show (57 : Int32).toInt = 57 from rfl] at h2
      split at h <;> omega
    · rw [if_neg h2, decide_eq_true]
      rw [q_lt, show (57 : Int32).toInt = 57 from rfl] at h2
      split at h <;> omega
-- numbers
theorem k_num (N : Nat) {b : Nat → Nat} {n t q : Nat} : ∀ (d p n' : Nat) (σ : am_S), n - p = d → d < n' → k_S b n t σ → fF σ 11 8 = nI p → q ≤ p → p ≤ n → fF σ 11 11 = nI (tx_nv b q (p - q)) → ∃ σ', f10_takeNumber_L5 N n' σ = f10_takeNumber_J68 N σ' ∧ q_Ag (fun a k => a = 11 ∧ (k = 8 ∨ k = 11)) σ σ' ∧ fF σ' 11 8 = nI (tx_R tx_di b n p) ∧ fF σ' 11 11 = nI (tx_nv b q (tx_R tx_di b n p - q)) := by
  intro d
  induction d with
  | zero =>
    intro p n' σ hd hn h hp hq hpn hv
    obtain ⟨m, rfl⟩ : ∃ m, n' = m + 1 := ⟨n' - 1, by omega⟩
    have h1 := h.1
    refine ⟨σ, ?_, q_Ag.rf σ, ?_, ?_⟩
    · unfold f10_takeNumber_L5
      rw [h.2.2.1, hp, if_pos (nI_le (by omega) (by omega))]
    · rw [tx_R_no (fun x => by omega)]; exact hp
    · rw [tx_R_no (fun x => by omega)]; exact hv
  | succ d ih =>
    intro p n' σ hd hn h hp hq hpn hv
    obtain ⟨m, rfl⟩ : ∃ m, n' = m + 1 := ⟨n' - 1, by omega⟩
    have h1 := h.1
    obtain ⟨a1, a2, a3⟩ := k_by h (p := p) (by omega)
    unfold f10_takeNumber_L5
    rw [h.2.2.1, hp, if_neg (nI_ge (by omega) (by omega)), if_pos a1, a3, k_dig a2, Option.bind_some, if_pos a1]
    by_cases c1 : tx_di (b p) = true
    · rw [if_pos c1]
      have c2 : 48 ≤ b p ∧ b p ≤ 57 := of_decide_eq_true c1
      have e1 : (fF σ 11 11 * 10 + tx_sb (b p)) - 48 = nI (tx_nv b q (p + 1 - q)) := by
        rw [(tx_sb_eq a2 (c := b p) (by omega)).mpr rfl, hv, show (10 : Int32) = nI 10 from rfl, pk_mul, nI_add, show (48 : Int32) = nI 48 from rfl, pk_sub (by omega), show p + 1 - q = (p - q) + 1 by omega]
        show _ = nI (10 * tx_nv b q (p - q) + (b (q + (p - q)) - 48))
        rw [show q + (p - q) = p by omega]
        congr 1
        omega
      rw [e1, q_FFk (by decide), hp, nI_1]
      have g : q_Ag (fun a k => a = 11 ∧ (k = 8 ∨ k = 11)) σ (sF (sF σ 11 11 (nI (tx_nv b q (p + 1 - q)))) 11 8 (nI (p + 1))) := ((q_Ag.rf σ).sF ⟨rfl, Or.inr rfl⟩).sF ⟨rfl, Or.inl rfl⟩
      obtain ⟨σ', f1, f2, f3, f4⟩ := ih (p + 1) m _ (by omega) (by omega) (h.mv g (by omega) (by omega) (fun i => by omega)) q_FFe (by omega) (by omega) (by rw [q_FFk (by decide), q_FFe])
      refine ⟨σ', f1, g.tr f2, ?_, ?_⟩
      · rw [f3, ← tx_R_go (by omega) c1]
      · rw [f4, ← tx_R_go (by omega) c1]
    · rw [if_neg c1]
      refine ⟨σ, rfl, q_Ag.rf σ, ?_, ?_⟩
      · rw [tx_R_no (fun x => c1 x.2)]; exact hp
      · rw [tx_R_no (fun x => c1 x.2)]; exact hv
-- words
theorem k_wrd (N : Nat) {b : Nat → Nat} {n t : Nat} : ∀ (d p n' : Nat) (σ : am_S), n - p = d → d < n' → k_S b n t σ → fF σ 11 8 = nI p → p ≤ n → ∃ σ', f10_takeWord_L0 N n' σ = f10_takeWord_J39 N σ' ∧ q_Ag (fun a k => a = 11 ∧ k = 8) σ σ' ∧ fF σ' 11 8 = nI (tx_R tx_le b n p) := by
  intro d
  induction d with
  | zero =>
    intro p n' σ hd hn h hp hpn
    obtain ⟨m, rfl⟩ : ∃ m, n' = m + 1 := ⟨n' - 1, by omega⟩
    have h1 := h.1
    refine ⟨σ, ?_, q_Ag.rf σ, ?_⟩
    · unfold f10_takeWord_L0
      rw [h.2.2.1, hp, if_pos (nI_le (by omega) (by omega))]
    · rw [tx_R_no (fun x => by omega)]; exact hp
  | succ d ih =>
    intro p n' σ hd hn h hp hpn
    obtain ⟨m, rfl⟩ : ∃ m, n' = m + 1 := ⟨n' - 1, by omega⟩
    have h1 := h.1
    obtain ⟨a1, a2, a3⟩ := k_by h (p := p) (by omega)
    unfold f10_takeWord_L0
    rw [h.2.2.1, hp, if_neg (nI_ge (by omega) (by omega)), if_pos a1, a3, k_let a2, Option.bind_some, nI_1]
    by_cases c1 : tx_le (b p) = true
    · rw [if_pos c1]
      have g : q_Ag (fun a k => a = 11 ∧ k = 8) σ (sF σ 11 8 (nI (p + 1))) := (q_Ag.rf σ).sF ⟨rfl, rfl⟩
      obtain ⟨σ', f1, f2, f3⟩ := ih (p + 1) m _ (by omega) (by omega) (h.mv g (by omega) (by omega) (fun i => by omega)) q_FFe (by omega)
      exact ⟨σ', f1, g.tr f2, by rw [f3, ← tx_R_go (by omega) c1]⟩
    · rw [if_neg c1]
      exact ⟨σ, rfl, q_Ag.rf σ, by rw [tx_R_no (fun x => c1 x.2)]; exact hp⟩
theorem tx_gI {α : Type} {l : List α} {i : Nat} {d : α} (h : i < l.length) : l.getD i d = l[i] := by
  rw [List.getD_eq_getElem?_getD, List.getElem?_eq_getElem h]; rfl
theorem tx_gO {α : Type} {l : List α} {i : Nat} {d : α} (h : l.length ≤ i) : l.getD i d = d := by
  rw [List.getD_eq_getElem?_getD, List.getElem?_eq_none h]; rfl
theorem tx_pad : ∀ (l w : List Nat), (∀ x ∈ l, x ≠ 32) → (∀ x ∈ w, x ≠ 32) → l.length ≤ 5 → w.length ≤ 5 → (∀ i, i < 5 → l.getD i 32 = w.getD i 32) → l = w := by
  intro l w hl hw h1 h2 h
  have hlen : l.length = w.length := by
    rcases Nat.lt_trichotomy l.length w.length with c | c | c
    · have := h l.length (by omega)
      rw [tx_gO (Nat.le_refl _), tx_gI c] at this
      exact absurd this.symm (hw _ (List.getElem_mem c))
    · exact c
    · have := h w.length (by omega)
      rw [tx_gO (l := w) (Nat.le_refl _), tx_gI c] at this
      exact absurd this (hl _ (List.getElem_mem c))
  refine List.ext_getElem hlen fun i c1 c2 => ?_
  have := h i (by omega)
  rw [tx_gI c1, tx_gI c2] at this
  exact this
def tx_w (u : Nat) : List Nat := tx_wd.getD u []
theorem tx_w_s : ∀ u, u < 12 → (∀ i, i < 5 → (s_txt 2).getD (u * 5 + i) 0 = (tx_w u).getD i 32) ∧ (tx_w u).length ≤ 5 ∧ (∀ x ∈ tx_w u, x ≠ 32) ∧ tx_wi (tx_w u) = u := by decide +kernel
theorem tx_w_l : (s_txt 2).length = 60 := by decide +kernel
theorem tx_w_in : ∀ u, u < 12 → ∀ v, v < 12 → tx_w u = tx_w v → u = v := by decide +kernel
theorem tx_wi_no {l : List Nat} (h : ∀ u, u < 12 → l ≠ tx_w u) : tx_wi l = 14 := by
  have key : ∀ (ws : List (List Nat)) (k : Nat), (∀ w ∈ ws, l ≠ w) → tx_ix l ws k = 14 := by
    intro ws
    induction ws with
    | nil => intro k _; rfl
    | cons w ws ih =>
      intro k hk
      unfold tx_ix
      rw [if_neg (fun e => hk w (by simp) e.symm)]
      exact ih (k + 1) (fun v hv => hk v (List.mem_cons_of_mem _ hv))
  refine key tx_wd 0 fun w hw => ?_
  obtain ⟨u, hu, e⟩ := List.getElem_of_mem hw
  have hu' : u < 12 := hu
  intro e2
  refine h u hu' ?_
  rw [e2, ← e]
  show _ = tx_wd.getD u []
  rw [tx_gI hu]
theorem tx_bs_get {b : Nat → Nat} {q e i : Nat} : (tx_bs b q e).getD i 32 = if q + i < e then b (q + i) else 32 := by
  unfold tx_bs
  by_cases h : q + i < e
  · rw [if_pos h, tx_gI (by simp; omega)]
    simp
  · rw [if_neg h, tx_gO (by simp; omega)]
theorem tx_bs_len {b : Nat → Nat} {q e : Nat} : (tx_bs b q e).length = e - q := by simp [tx_bs]
def tx_al (l w : List Nat) : Nat → Nat → Bool
  | _, 0 => true
  | i, k + 1 => decide (l.getD i 32 = w.getD i 32) && tx_al l w (i + 1) k
theorem tx_al_i {l w : List Nat} : ∀ (k i : Nat), tx_al l w i k = true → ∀ j, i ≤ j → j < i + k → l.getD j 32 = w.getD j 32
  | 0, i, _, j, h1, h2 => by omega
  | k + 1, i, h, j, h1, h2 => by
    simp only [tx_al, Bool.and_eq_true, decide_eq_true_eq] at h
    by_cases c : j = i
    · rw [c]; exact h.1
    · exact tx_al_i k (i + 1) h.2 j (by omega) (by omega)
theorem tx_al_r (l : List Nat) : ∀ (k i : Nat), tx_al l l i k = true
  | 0, _ => rfl
  | k + 1, i => by simp only [tx_al, decide_true, Bool.true_and]; exact tx_al_r l k (i + 1)
theorem k_isw {N : Nat} (hN : 6 ≤ N) {b : Nat → Nat} {n t q e u : Nat} {σ : am_S} (h : k_S b n t σ) (h8 : fF σ 11 8 = nI e) (h9 : fF σ 11 9 = nI q) (hqe : q ≤ e) (hen : e ≤ n) (hle : ∀ i, q ≤ i → i < e → tx_le (b i) = true) (hu : u < 12) : f10_isWord N σ (nI u) = some (decide (tx_bs b q e = tx_w u)) := by
  have h1 := h.1
  obtain ⟨w1, w2, w3, -⟩ := tx_w_s u hu
  have hF : ∀ n' x3, n' ≠ 0 → f10_isWord_L21 σ N n' (nI u) false x3 = some false := by
    intro n' x3 hn
    obtain ⟨m, rfl⟩ : ∃ m, n' = m + 1 := ⟨n' - 1, by omega⟩
    unfold f10_isWord_L21
    split
    · rfl
    · rw [if_neg (by decide)]
  have hT : ∀ k i n', i + k = 5 → k < n' → f10_isWord_L21 σ N n' (nI u) true (nI i) = some (tx_al (tx_bs b q e) (tx_w u) i k) := by
    intro k
    induction k with
    | zero =>
      intro i n' hi hn
      obtain ⟨m, rfl⟩ : ∃ m, n' = m + 1 := ⟨n' - 1, by omega⟩
      unfold f10_isWord_L21
      rw [if_pos (show (5 : Int32) ≤ nI i from nI_le (a := 5) (by omega) (by omega))]
      rfl
    | succ k ih =>
      intro i n' hi hn
      obtain ⟨m, rfl⟩ : ∃ m, n' = m + 1 := ⟨n' - 1, by omega⟩
      have hsat : s_at 2 (nI u * 5 + nI i) = some (nI ((tx_w u).getD i 32)) := by
        unfold s_at
        rw [show (5 : Int32) = nI 5 from rfl, pk_mul, nI_add, if_pos (q_in (by rw [tx_w_l]; omega) (by omega)), nI_clamp (by omega), w1 i (by omega)]
      have hsm : ∀ l : List Nat, (∀ x ∈ l, x < 256) → l.getD i 32 < 256 := fun l hl => by
        by_cases c : i < l.length
        · rw [tx_gI c]; exact hl _ (List.getElem_mem c)
        · rw [tx_gO (by omega)]; decide
      have hwb : (tx_w u).getD i 32 < 128 := by
        have : ∀ u, u < 12 → ∀ i, i < 5 → (tx_w u).getD i 32 < 128 := by decide +kernel
        exact this u hu i (by omega)
      have step : ∀ (c : Prop) [Decidable c], (c ↔ (tx_bs b q e).getD i 32 = (tx_w u).getD i 32) → (if c then f10_isWord_L21 σ N m (nI u) true (nI i + 1) else f10_isWord_L21 σ N m (nI u) false (nI i + 1)) = some (tx_al (tx_bs b q e) (tx_w u) i (k + 1)) := by
        intro c _ hc
        by_cases c1 : c
        · rw [if_pos c1, nI_1, ih (i + 1) m (by omega) (by omega)]
          simp only [tx_al, decide_eq_true (hc.mp c1), Bool.true_and]
        · rw [if_neg c1, hF _ _ (by omega)]
          simp only [tx_al, decide_eq_false (fun x => c1 (hc.mpr x)), Bool.false_and]
      unfold f10_isWord_L21
      rw [if_neg (show ¬ (5 : Int32) ≤ nI i from nI_ge (b := 5) (by omega) (by omega)), if_pos rfl, h8, h9, nI_add, hsat]
      simp only [Option.bind_some]
      by_cases c2 : e ≤ q + i
      · rw [if_pos (nI_le c2 (by omega))]
        refine step _ ?_
        rw [tx_bs_get, if_neg (by omega), show (32 : Int32) = nI 32 from rfl, nI_eq (by omega) (by omega)]
      · rw [if_neg (nI_ge (by omega) (by omega)), if_pos (q_in (by omega) (by omega)), nI_clamp (by omega)]
        refine step _ ?_
        have hb := h.2.2.2.2 (q + i) (by omega)
        rw [hb.2, tx_sb_eq hb.1 hwb, tx_bs_get, if_pos (by omega)]
  unfold f10_isWord
  rw [h8, h9, pk_sub hqe]
  by_cases hl : 5 < e - q
  · rw [if_pos (show (5 : Int32) < nI (e - q) from nI_lt (a := 5) hl (by omega)), hF _ _ (by omega), decide_eq_false]
    intro x
    have := congrArg List.length x
    rw [tx_bs_len] at this
    omega
  · rw [if_neg (show ¬ (5 : Int32) < nI (e - q) from nI_nlt (b := e - q) (a := 5) (by omega) (by omega)), show (0 : Int32) = nI 0 from rfl, hT 5 0 N (by omega) (by omega)]
    congr 1
    refine Bool.eq_iff_iff.mpr ?_
    rw [decide_eq_true_eq]
    refine ⟨fun x => ?_, fun x => by rw [x]; exact tx_al_r _ _ _⟩
    refine tx_pad _ _ (fun y hy => ?_) w3 (by rw [tx_bs_len]; omega) w2 (fun i hi => tx_al_i 5 0 x i (by omega) (by omega))
    unfold tx_bs at hy
    obtain ⟨i, hi, rfl⟩ := List.mem_map.mp hy
    have hi' := List.mem_range.mp hi
    have := of_decide_eq_true (hle (q + i) (by omega) (by omega))
    omega
theorem k_tw (N : Nat) (hN : 6 ≤ N) {b : Nat → Nat} {n t q e : Nat} (hqe : q ≤ e) (hen : e ≤ n) (hle : ∀ i, q ≤ i → i < e → tx_le (b i) = true) : ∀ (k u n' : Nat) (σ : am_S), u + k = 12 → k < n' → k_S b n t σ → fF σ 11 8 = nI e → fF σ 11 9 = nI q → ∃ σ', f10_takeWord_L47 N n' (nI u) σ = some σ' ∧ q_Ag (fun a k => a = 11 ∧ k = 10) σ σ' ∧ (∀ v, u ≤ v → v < 12 → tx_bs b q e = tx_w v → fF σ' 11 10 = nI v) ∧ ((∀ v, u ≤ v → v < 12 → tx_bs b q e ≠ tx_w v) → fF σ' 11 10 = fF σ 11 10) := by
  intro k
  induction k with
  | zero =>
    intro u n' σ hu hn h h8 h9
    obtain ⟨m, rfl⟩ : ∃ m, n' = m + 1 := ⟨n' - 1, by omega⟩
    refine ⟨σ, ?_, q_Ag.rf σ, fun v h1 h2 => by omega, fun _ => rfl⟩
    unfold f10_takeWord_L47
    rw [if_pos (show (12 : Int32) ≤ nI u from nI_le (a := 12) (by omega) (by omega))]
  | succ k ih =>
    intro u n' σ hu hn h h8 h9
    obtain ⟨m, rfl⟩ : ∃ m, n' = m + 1 := ⟨n' - 1, by omega⟩
    unfold f10_takeWord_L47
    rw [if_neg (show ¬ (12 : Int32) ≤ nI u from nI_ge (b := 12) (by omega) (by omega)), k_isw hN h h8 h9 hqe hen hle (by omega), Option.bind_some, nI_1]
    by_cases c : tx_bs b q e = tx_w u
    · rw [if_pos (decide_eq_true c)]
      have g : q_Ag (fun a k => a = 11 ∧ k = 10) σ (sF σ 11 10 (nI u)) := (q_Ag.rf σ).sF ⟨rfl, rfl⟩
      obtain ⟨σ', e1, e2, e3, e4⟩ := ih (u + 1) m (sF σ 11 10 (nI u)) (by omega) (by omega) (h.mv g (by omega) (by omega) (fun i => by omega)) h8 h9
      have hno : ∀ v, u + 1 ≤ v → v < 12 → tx_bs b q e ≠ tx_w v := fun v v1 v2 x => by
        have := tx_w_in u (by omega) v v2 (c.symm.trans x)
        omega
      refine ⟨σ', e1, g.tr e2, fun v v1 v2 x => ?_, fun x => absurd c (x u (Nat.le_refl _) (by omega))⟩
      have := tx_w_in u (by omega) v v2 (c.symm.trans x)
      subst this
      rw [e4 hno, q_FFe]
    · rw [if_neg (by rw [decide_eq_true_iff]; exact c)]
      obtain ⟨σ', e1, e2, e3, e4⟩ := ih (u + 1) m σ (by omega) (by omega) h h8 h9
      refine ⟨σ', e1, e2, fun v v1 v2 x => ?_, fun x => e4 (fun v v1 v2 => x v (by omega) v2)⟩
      by_cases hv : v = u
      · subst hv; exact absurd x c
      · exact e3 v (by omega) v2 x
/-- the class's token is that of a place -/
def k_T (b : Nat → Nat) (n p : Nat) (σ : am_S) : Prop := fF σ 11 10 = nI (tx_c b n p) ∧ fF σ 11 9 = nI (tx_f b n p) ∧ fF σ 11 8 = nI (tx_n b n p) ∧ (tx_c b n p = 12 → fF σ 11 11 = nI (tx_v b n p))
theorem k_next {N : Nat} (hN : 200 ≤ N) {b : Nat → Nat} {n t p : Nat} {σ : am_S} (h : k_S b n t σ) (hp : fF σ 11 8 = nI p) (hpn : p ≤ n) : ∃ σ', f10_nextToken N σ = some σ' ∧ q_Ag k_s1 σ σ' ∧ k_T b n p σ' := by
  have h1 := h.1
  obtain ⟨σ1, e1, g1, p1⟩ := k_sk N (n - p) p N σ rfl (by omega) h hp hpn
  have hS := h.mv1 g1
  have hq := tx_R_le tx_bl b hpn
  have g2 : q_Ag k_s1 σ (sF σ1 11 9 (nI (tx_R tx_bl b n p))) := g1.sF ⟨rfl, by omega, by omega⟩
  have hS2 := h.mv1 g2
  unfold f10_nextToken
  rw [e1]
  unfold f10_nextToken_J52
  rw [p1]
  have p2 : fF (sF σ1 11 9 (nI (tx_R tx_bl b n p))) 11 8 = nI (tx_R tx_bl b n p) := p1
  have p3 : fF (sF σ1 11 9 (nI (tx_R tx_bl b n p))) 11 9 = nI (tx_R tx_bl b n p) := q_FFe
  rw [p2, hS2.2.2.1]
  unfold k_T tx_c tx_f tx_n tx_v tx_tk
  generalize sF σ1 11 9 (nI (tx_R tx_bl b n p)) = σ2 at g2 hS2 p2 p3 ⊢
  by_cases c1 : n ≤ tx_R tx_bl b n p
  · rw [if_neg (nI_nlt c1 (by omega)), if_pos c1]
    refine ⟨_, rfl, g2.sF ⟨rfl, by omega, by omega⟩, q_FFe, p3, p2, fun x => absurd (show (13 : Nat) = 12 from x) (by decide)⟩
  · rw [if_pos (nI_lt (by omega) (by omega)), if_neg c1]
    obtain ⟨a1, a2, a3⟩ := k_by hS2 (p := tx_R tx_bl b n p) (by omega)
    rw [if_pos a1, a3, k_let a2]
    simp only [Option.bind_some]
    by_cases c2 : tx_le (b (tx_R tx_bl b n p)) = true
    · rw [if_pos c2, if_pos c2]
      obtain ⟨σ3, e3, g3, p4⟩ := k_wrd N (n - tx_R tx_bl b n p) (tx_R tx_bl b n p) N σ2 rfl (by omega) hS2 p2 hq
      have hS3 := hS2.mv g3 (by omega) (by omega) (fun i => by omega)
      have g4 : q_Ag (fun a k => a = 11 ∧ (k = 8 ∨ k = 10)) σ2 (sF σ3 11 10 14) := (g3.wk (fun a k x => ⟨x.1, Or.inl x.2⟩)).sF ⟨rfl, Or.inr rfl⟩
      obtain ⟨σ4, e5, g5, w1, w2⟩ := k_tw N (by omega) (tx_R_ge tx_le b n (tx_R tx_bl b n p)) (tx_R_le tx_le b hq) (fun i i1 i2 => (tx_R_in i1 i2).2) 12 0 N (sF σ3 11 10 14) rfl (by omega) (hS2.mv g4 (by omega) (by omega) (fun i => by omega)) p4 (by rw [q_FFk (by decide), (g3.2 11 9 (by omega)).1, p3])
      have g6 : q_Ag (fun a k => a = 11 ∧ (k = 8 ∨ k = 10)) σ2 σ4 := g4.tr (g5.wk (fun a k x => ⟨x.1, Or.inr x.2⟩))
      refine ⟨σ4, ?_, g2.tr (g6.wk (fun a k x => ⟨x.1, by omega, by omega⟩)), ?_, ?_, ?_, ?_⟩
      · unfold f10_takeWord
        rw [e3]
        unfold f10_takeWord_J39
        rw [show (0 : Int32) = nI 0 from rfl, e5]
        rfl
      · show fF σ4 11 10 = nI (tx_wi (tx_bs b (tx_R tx_bl b n p) (tx_R tx_le b n (tx_R tx_bl b n p))))
        by_cases hw : ∃ v, v < 12 ∧ tx_bs b (tx_R tx_bl b n p) (tx_R tx_le b n (tx_R tx_bl b n p)) = tx_w v
        · obtain ⟨v, v1, v2⟩ := hw
          rw [w1 v (by omega) v1 v2, v2, (tx_w_s v v1).2.2.2]
        · have hw' : ∀ v, v < 12 → tx_bs b (tx_R tx_bl b n p) (tx_R tx_le b n (tx_R tx_bl b n p)) ≠ tx_w v := fun v v1 v2 => hw ⟨v, v1, v2⟩
          rw [w2 (fun v _ v1 => hw' v v1), tx_wi_no hw', q_FFe]; rfl
      · rw [(g6.2 11 9 (by omega)).1, p3]
      · rw [(g5.2 11 8 (by omega)).1, q_FFk (by decide), p4]
      · intro x
        have x' : tx_wi (tx_bs b (tx_R tx_bl b n p) (tx_R tx_le b n (tx_R tx_bl b n p))) = 12 := x
        have := tx_wi_le (tx_bs b (tx_R tx_bl b n p) (tx_R tx_le b n (tx_R tx_bl b n p)))
        omega
    · rw [if_neg c2, if_neg c2, if_pos a1, k_dig a2]
      simp only [Option.bind_some]
      by_cases c3 : tx_di (b (tx_R tx_bl b n p)) = true
      · rw [if_pos c3, if_pos c3]
        have g3 : q_Ag (fun a k => a = 11 ∧ (k = 8 ∨ k = 11)) σ2 (sF σ2 11 11 0) := (q_Ag.rf σ2).sF ⟨rfl, Or.inr rfl⟩
        obtain ⟨σ3, e3, g4, p4, p5⟩ := k_num N (q := tx_R tx_bl b n p) (n - tx_R tx_bl b n p) (tx_R tx_bl b n p) N (sF σ2 11 11 0) rfl (by omega) (hS2.mv g3 (by omega) (by omega) (fun i => by omega)) p2 (Nat.le_refl _) hq (by rw [q_FFe, Nat.sub_self]; rfl)
        have g5 := g3.tr g4
        have p6 : fF σ3 11 9 = nI (tx_R tx_bl b n p) := (g5.2 11 9 (by omega)).1.trans p3
        have hd : (fF σ3 11 8) - (fF σ3 11 9) = nI (tx_R tx_di b n (tx_R tx_bl b n p) - tx_R tx_bl b n p) := by
          rw [p4, p6, pk_sub (tx_R_ge tx_di b n _)]
        have hx := tx_R_le tx_di b hq
        have fin : ∀ v : Nat, ∃ σ', some (sF σ3 11 10 (nI v)) = some σ' ∧ q_Ag k_s1 σ σ' ∧ fF σ' 11 10 = nI v ∧ fF σ' 11 9 = nI (tx_R tx_bl b n p) ∧ fF σ' 11 8 = nI (tx_R tx_di b n (tx_R tx_bl b n p)) ∧ fF σ' 11 11 = nI (tx_nv b (tx_R tx_bl b n p) (tx_R tx_di b n (tx_R tx_bl b n p) - tx_R tx_bl b n p)) := fun v =>
          ⟨_, rfl, (g2.tr (g5.wk (fun a k x => ⟨x.1, by omega, by omega⟩))).sF ⟨rfl, by omega, by omega⟩, q_FFe, p6, p4, p5⟩
        unfold f10_takeNumber
        rw [e3]
        unfold f10_takeNumber_J68
        rw [hd]
        by_cases c4 : tx_R tx_di b n (tx_R tx_bl b n p) - tx_R tx_bl b n p ≤ 4
        · rw [if_pos (show nI _ ≤ (4 : Int32) from nI_le (b := 4) c4 (by omega))]
          obtain ⟨σ', f1, f2, f3, f4, f5, f6⟩ := fin 12
          refine ⟨σ', f1, f2, ?_, f4, f5, fun _ => f6⟩
          rw [if_pos c4]; exact f3
        · rw [if_neg (show ¬ nI _ ≤ (4 : Int32) from nI_ge (a := 4) (by omega) (by omega))]
          obtain ⟨σ', f1, f2, f3, f4, f5, f6⟩ := fin 14
          refine ⟨σ', f1, f2, ?_, f4, f5, fun _ => f6⟩
          rw [if_neg c4]; exact f3
      · rw [if_neg c3, if_neg c3, if_pos a1]
        have hb := tx_sb_i (b (tx_R tx_bl b n p)) a2
        have fin : ∀ v : Nat, ∃ σ', some (sF (sF σ2 11 10 (nI v)) 11 8 ((fF (sF σ2 11 10 (nI v)) 11 8) + 1)) = some σ' ∧ q_Ag k_s1 σ σ' ∧ fF σ' 11 10 = nI v ∧ fF σ' 11 9 = nI (tx_R tx_bl b n p) ∧ fF σ' 11 8 = nI (tx_R tx_bl b n p + 1) := fun v =>
          ⟨_, rfl, (g2.sF ⟨rfl, by omega, by omega⟩).sF ⟨rfl, by omega, by omega⟩, by rw [q_FFk (by decide), q_FFe], p3, by rw [q_FFe, q_FFk (by decide), p2, nI_1]⟩
        have hix : ∀ v, v < 128 → (s_ix 3 ((nI v).toUInt32 % 65536).toInt32 = some (if tx_sg v = true then s_ixF (nI v) (s_txt 3) 0 else -1)) ∧ (tx_sg v = true → ¬ s_ixF (nI v) (s_txt 3) 0 < 0) := by decide +kernel
        by_cases c4 : tx_sb (b (tx_R tx_bl b n p)) ≤ 0
        · rw [if_pos c4]
          have c4' : b (tx_R tx_bl b n p) = 0 ∨ 128 ≤ b (tx_R tx_bl b n p) := by
            rw [q_le, show (0 : Int32).toInt = 0 from rfl] at c4
            split at hb <;> omega
          have c5 : ¬ tx_sg (b (tx_R tx_bl b n p)) = true := by
            simp only [tx_sg, Bool.or_eq_true, beq_iff_eq]
            omega
          rw [if_neg c5]
          obtain ⟨σ', f1, f2, f3, f4, f5⟩ := fin 14
          exact ⟨σ', f1, f2, f3, f4, f5, fun x => absurd (show (14 : Nat) = 12 from x) (by decide)⟩
        · rw [if_neg c4]
          have c4' : b (tx_R tx_bl b n p) < 128 := by
            rw [q_le, show (0 : Int32).toInt = 0 from rfl] at c4
            split at hb <;> omega
          obtain ⟨i1, i2⟩ := hix _ c4'
          rw [(tx_sb_eq a2 c4').mpr rfl, i1]
          simp only [Option.bind_some]
          by_cases c5 : tx_sg (b (tx_R tx_bl b n p)) = true
          · rw [if_pos c5, if_neg (i2 c5), if_pos c5]
            obtain ⟨σ', f1, f2, f3, f4, f5⟩ := fin (b (tx_R tx_bl b n p))
            refine ⟨σ', f1, f2, f3, f4, f5, fun x => ?_⟩
            have x' : b (tx_R tx_bl b n p) = 12 := x
            rw [x'] at c5
            exact absurd c5 (by decide)
          · rw [if_neg c5, if_pos (by decide), if_neg c5]
            obtain ⟨σ', f1, f2, f3, f4, f5⟩ := fin 14
            exact ⟨σ', f1, f2, f3, f4, f5, fun x => absurd (show (14 : Nat) = 12 from x) (by decide)⟩
