/-! THE TEXTS: what the steps come to -/
def tx_ex : List Int32 → Int32 → am_S → Option (Int32 × am_S)
  | [], d, σ => some (d, σ)
  | x :: L, d, σ => (f10_doStep σ x d).bind fun q => tx_ex L q.1 q.2
theorem tx_ex_ap : ∀ (L M : List Int32) (d : Int32) (σ : am_S), tx_ex (L ++ M) d σ = (tx_ex L d σ).bind fun q => tx_ex M q.1 q.2
  | [], M, d, σ => rfl
  | x :: L, M, d, σ => by
    show (f10_doStep σ x d).bind (fun q => tx_ex (L ++ M) q.1 q.2) = ((f10_doStep σ x d).bind fun q => tx_ex L q.1 q.2).bind fun q => tx_ex M q.1 q.2
    cases f10_doStep σ x d with
    | none => rfl
    | some q => exact tx_ex_ap L M q.1 q.2
theorem tx_ds_num {σ : am_S} {v k : Nat} (hv : v < 10000) (hk : k < 64) : f10_doStep σ (nI v) (nI k) = some (nI (k + 1), sF σ 15 k (nI v)) := by
  have e : (nI v - 10000 : Int32).toInt = (v : Int) - 10000 := by
    rw [show (10000 : Int32) = nI 10000 from rfl, pk_sub_toInt (by omega) (by omega)]; rfl
  have c1 : nI v - 10000 < 0 := by rw [q_lt, e]; show (v : Int) - 10000 < 0; omega
  have c2 : ¬ 0 ≤ nI v - 10000 := by rw [q_le, e]; show ¬ 0 ≤ (v : Int) - 10000; omega
  have c3 : ¬ (64 : Int32) ≤ nI k := nI_ge (b := 64) hk (by omega)
  unfold f10_doStep
  rw [if_pos c1, if_neg c3, if_neg c2, if_pos (q_in hk (by omega)), nI_1, nI_clamp (by omega)]
theorem tx_ds_name {σ : am_S} {c k : Nat} (hc : c < 6) (hk : k < 64) : f10_doStep σ (nI (10000 + c)) (nI k) = some (nI (k + 1), sF σ 15 k (fF σ 16 c)) := by
  have e : nI (10000 + c) - 10000 = nI c := by
    rw [show (10000 : Int32) = nI 10000 from rfl, pk_sub (by omega), show 10000 + c - 10000 = c by omega]
  have c1 : ¬ nI c < 0 := nI_pos (by omega)
  have c2 : ¬ (6 : Int32) ≤ nI c := nI_ge (b := 6) hc (by omega)
  have c3 : ¬ (64 : Int32) ≤ nI k := nI_ge (b := 64) hk (by omega)
  have c4 : 0 ≤ nI c := nI_pos' (by omega)
  unfold f10_doStep
  rw [e, if_neg c1, if_neg c2, if_neg c3, if_pos c4, if_pos (q_in hc (by omega)), if_pos (q_in hk (by omega)), nI_1, nI_clamp (by omega), nI_clamp (by omega)]
theorem tx_ds_not {σ : am_S} {k : Nat} (hk : k < 64) : f10_doStep σ (nI 10011) (nI (k + 1)) = some (nI (k + 1), sF σ 15 k (if fF σ 15 k = 0 then 1 else 0)) := by
  have c5 : ¬ nI (k + 1) ≤ 0 := nI_nle (by omega) (by omega)
  unfold f10_doStep
  rw [show nI 10011 - 10000 = nI 11 by decide, if_neg (by decide), if_pos (by decide), if_pos (by decide), if_neg c5, nI_pred, if_pos (q_in hk (by omega)), if_neg (by decide), nI_clamp (by omega)]
  by_cases h : fF σ 15 k = 0
  · rw [if_pos h, if_pos h, if_pos (q_in hk (by omega))]
  · rw [if_neg h, if_neg h, if_pos (q_in hk (by omega))]
theorem tx_ds_neg {σ : am_S} {k : Nat} (hk : k < 64) : f10_doStep σ (nI 10015) (nI (k + 1)) = some (nI (k + 1), sF σ 15 k (- fF σ 15 k)) := by
  have c5 : ¬ nI (k + 1) ≤ 0 := nI_nle (by omega) (by omega)
  unfold f10_doStep
  rw [show nI 10015 - 10000 = nI 15 by decide, if_neg (by decide), if_pos (by decide), if_neg (by decide), if_pos (by decide), if_neg c5, nI_pred, if_pos (q_in hk (by omega)), if_pos (by decide), if_pos (q_in hk (by omega)), nI_clamp (by omega)]
def tx_bo (c : Nat) : Bool := c == 9 || c == 10 || c == 43 || c == 45 || c == 60 || c == 61 || c == 42
theorem tx_bo_or {c : Nat} (h : tx_bo c = true) : c = 9 ∨ c = 10 ∨ c = 43 ∨ c = 45 ∨ c = 60 ∨ c = 61 ∨ c = 42 := by
  simp only [tx_bo, Bool.or_eq_true, beq_iff_eq] at h
  omega
theorem tx_jo_bo {lev c : Nat} (h : tx_jo lev c = true) : tx_bo c = true := by
  simp only [tx_jo, Bool.or_eq_true, Bool.and_eq_true, beq_iff_eq] at h
  simp only [tx_bo, Bool.or_eq_true, beq_iff_eq]
  omega
theorem tx_joined {c : Nat} (h : tx_bo c = true) (x y : Int32) : f10_joined (nI c) x y = some (tx_op c x y) := by
  rcases tx_bo_or h with rfl | rfl | rfl | rfl | rfl | rfl | rfl
  · show (if x = 0 then (if y = 0 then some 0 else some 1) else some 1) = some (if x = 0 then (if y = 0 then 0 else 1) else 1)
    split
    · split <;> rfl
    · rfl
  · show (if x = 0 then some 0 else (if y = 0 then some 0 else some 1)) = some (if x = 0 then 0 else if y = 0 then 0 else 1)
    split
    · rfl
    · split <;> rfl
  · rfl
  · rfl
  · show (if y ≤ x then some 0 else some 1) = some (if y ≤ x then 0 else 1)
    split <;> rfl
  · show (if x = y then some 1 else some 0) = some (if x = y then 1 else 0)
    split <;> rfl
  · rfl
theorem tx_ds_bi {σ : am_S} {c k : Nat} (hc : tx_bo c = true) (hk : k + 1 < 64) : f10_doStep σ (nI (10000 + c)) (nI (k + 2)) = some (nI (k + 1), sF σ 15 k (tx_op c (fF σ 15 k) (fF σ 15 (k + 1)))) := by
  have e : nI (10000 + c) - 10000 = nI c := by
    rw [show (10000 : Int32) = nI 10000 from rfl, pk_sub (by omega), show 10000 + c - 10000 = c by omega]
  have hb := tx_bo_or hc
  have c1 : ¬ nI c < 0 := nI_pos (by omega)
  have c2 : (6 : Int32) ≤ nI c := nI_le (a := 6) (by omega) (by omega)
  have c3 : ¬ nI c = (11 : Int32) := fun x => by have := q_nI (b := 11) (by omega) (by omega) x; omega
  have c4 : ¬ nI c = (15 : Int32) := fun x => by have := q_nI (b := 15) (by omega) (by omega) x; omega
  have c5 : ¬ nI (k + 2) ≤ 1 := nI_ge (a := 1) (by omega) (by omega)
  have e2 : nI (k + 2) - 2 = nI k := by rw [show (2 : Int32) = nI 2 from rfl, pk_sub (by omega), show k + 2 - 2 = k by omega]
  have e1 : nI (k + 2) - 1 = nI (k + 1) := nI_pred (k + 1)
  unfold f10_doStep
  rw [e, if_neg c1, if_pos c2, if_neg c3, if_neg c4, if_neg c5, e2, e1, if_pos (q_in (by omega) (by omega)), if_pos (q_in (by omega) (by omega)), nI_clamp (by omega), nI_clamp (by omega), tx_joined hc, Option.bind_some, if_pos (q_in (by omega) (by omega))]
/-- steps that leave one more number on the stack -/
def tx_Sem (need : Nat) (L : List Int32) (V : tx_E → Int32) : Prop :=
  (∀ x ∈ L, x ≠ nI 10059) ∧ (∀ e e' : tx_E, (∀ c, c < 6 → e c = e' c) → V e = V e') ∧
  ∀ (σ : am_S) (d : Nat), d + need ≤ 64 → ∃ σ', tx_ex L (nI d) σ = some (nI (d + 1), σ') ∧ q_Ag (fun a _ => a = 15) σ σ' ∧ (∀ j, j < d → fF σ' 15 j = fF σ 15 j) ∧ fF σ' 15 d = V (fF σ 16)
theorem tx_Sem.mono {a b : Nat} {L : List Int32} {V : tx_E → Int32} (h : tx_Sem a L V) (hab : a ≤ b) : tx_Sem b L V :=
  ⟨h.1, h.2.1, fun σ d hd => h.2.2 σ d (by omega)⟩
theorem tx_16 {σ σ' : am_S} (h : q_Ag (fun a _ => a = 15) σ σ') : fF σ' 16 = fF σ 16 := funext fun k => (h.2 16 k (fun x : (16 : Nat) = 15 => absurd x (by decide))).1
theorem tx_10k {c : Nat} (h : c < 60 ∨ c = 60 ∨ c = 61) (h2 : c ≠ 59) : nI (10000 + c) ≠ nI 10059 := fun x => by
  have := q_nI (by omega) (by omega) x
  omega
theorem tx_Sem.one {v need : Nat} (hv : v < 10000) (h0 : 1 ≤ need) : tx_Sem need [nI v] (fun _ => nI v) := by
  refine ⟨fun x hx => ?_, fun _ _ _ => rfl, fun σ d hd => ⟨_, ?_, (q_Ag.rf σ).sF (a := 15) (k := d) (v := nI v) rfl, fun j hj => q_FFk (by omega), q_FFe⟩⟩
  · rw [List.mem_singleton.mp hx]
    exact fun e => by have := q_nI (by omega) (by omega) e; omega
  · show (f10_doStep σ (nI v) (nI d)).bind (fun q => tx_ex [] q.1 q.2) = _
    rw [tx_ds_num hv (by omega)]; rfl
theorem tx_Sem.name {c need : Nat} (hc : c < 6) (h0 : 1 ≤ need) : tx_Sem need [nI (10000 + c)] (fun e => e c) := by
  refine ⟨fun x hx => ?_, fun e e' h => h c hc, fun σ d hd => ⟨_, ?_, (q_Ag.rf σ).sF (a := 15) (k := d) (v := fF σ 16 c) rfl, fun j hj => q_FFk (by omega), q_FFe⟩⟩
  · rw [List.mem_singleton.mp hx]
    exact tx_10k (by omega) (by omega)
  · show (f10_doStep σ (nI (10000 + c)) (nI d)).bind (fun q => tx_ex [] q.1 q.2) = _
    rw [tx_ds_name hc (by omega)]; rfl
theorem tx_Sem.un {need s : Nat} {L : List Int32} {V : tx_E → Int32} {g : Int32 → Int32} (h : tx_Sem need L V) (h0 : 1 ≤ need) (hs : nI s ≠ nI 10059) (hg : ∀ (σ : am_S) (k : Nat), k < 64 → f10_doStep σ (nI s) (nI (k + 1)) = some (nI (k + 1), sF σ 15 k (g (fF σ 15 k)))) : tx_Sem need (L ++ [nI s]) (fun e => g (V e)) := by
  refine ⟨fun x hx => ?_, fun e e' he => by dsimp only; rw [h.2.1 e e' he], fun σ d hd => ?_⟩
  · rcases List.mem_append.mp hx with hx | hx
    · exact h.1 x hx
    · rw [List.mem_singleton.mp hx]; exact hs
  · obtain ⟨σ', e1, g1, k1, v1⟩ := h.2.2 σ d hd
    refine ⟨sF σ' 15 d (g (fF σ' 15 d)), ?_, g1.sF rfl, fun j hj => ?_, ?_⟩
    · rw [tx_ex_ap, e1]
      show (f10_doStep σ' (nI s) (nI (d + 1))).bind (fun q => tx_ex [] q.1 q.2) = _
      rw [hg σ' d (by omega)]; rfl
    · rw [q_FFk (by omega)]; exact k1 j hj
    · rw [q_FFe, v1]
theorem tx_Sem.bi {need c : Nat} {L M : List Int32} {V W : tx_E → Int32} (h : tx_Sem (need + 1) L V) (h' : tx_Sem need M W) (h0 : 1 ≤ need) (hc : tx_bo c = true) : tx_Sem (need + 1) (L ++ (M ++ [nI (10000 + c)])) (fun e => tx_op c (V e) (W e)) := by
  have hb := tx_bo_or hc
  refine ⟨fun x hx => ?_, fun e e' he => by dsimp only; rw [h.2.1 e e' he, h'.2.1 e e' he], fun σ d hd => ?_⟩
  · rcases List.mem_append.mp hx with hx | hx
    · exact h.1 x hx
    · rcases List.mem_append.mp hx with hx | hx
      · exact h'.1 x hx
      · rw [List.mem_singleton.mp hx]
        exact tx_10k (by omega) (by omega)
  · obtain ⟨σ1, e1, g1, k1, v1⟩ := h.2.2 σ d hd
    obtain ⟨σ2, e2, g2, k2, v2⟩ := h'.2.2 σ1 (d + 1) (by omega)
    refine ⟨sF σ2 15 d (tx_op c (fF σ2 15 d) (fF σ2 15 (d + 1))), ?_, (g1.tr g2).sF rfl, fun j hj => ?_, ?_⟩
    · rw [tx_ex_ap, e1]
      show tx_ex (M ++ [nI (10000 + c)]) (nI (d + 1)) σ1 = _
      rw [tx_ex_ap, e2]
      show (f10_doStep σ2 (nI (10000 + c)) (nI (d + 2))).bind (fun q => tx_ex [] q.1 q.2) = _
      rw [tx_ds_bi hc (by omega)]; rfl
    · rw [q_FFk (by omega), k2 j (by omega)]; exact k1 j hj
    · rw [q_FFe, v2, k2 d (by omega), v1, tx_16 g1]
theorem tx_lp_sem {b : Nat → Nat} {n need : Nat} {rd : Nat → tx_Z} {lev : Nat} (h0 : 1 ≤ need) (hrd : ∀ p r, rd p = .inr r → tx_Sem need r.2.2 r.2.1) : ∀ (f p : Nat) (V : tx_E → Int32) (L : List Int32), tx_Sem (need + 1) L V → ∀ r, tx_lp b n rd lev f p V L = .inr r → tx_Sem (need + 1) r.2.2 r.2.1
  | 0, p, V, L, h, r, e => by
    have e' := Sum.inr.inj e
    subst e'
    exact h
  | f + 1, p, V, L, h, r, e => by
    unfold tx_lp at e
    by_cases hj : tx_jo lev (tx_c b n p) = true
    · rw [if_pos hj] at e
      cases hr : rd (tx_n b n p) with
      | inl x => rw [hr] at e; cases e
      | inr r1 =>
        rw [hr] at e
        exact tx_lp_sem h0 hrd f r1.1 _ _ (h.bi (hrd _ r1 hr) h0 (tx_jo_bo hj)) r e
    · rw [if_neg hj] at e
      have e' := Sum.inr.inj e
      subst e'
      exact h
theorem tx_rd_sem (b : Nat → Nat) (n : Nat) : ∀ (D lev o p : Nat), lev ≤ 5 → o ≤ 5 → ∀ r, tx_rd b n D lev o p = .inr r → tx_Sem (6 * (6 - o) - lev) r.2.2 r.2.1
  | 0, _, _, _, _, _, r, e => by cases e
  | D + 1, lev, o, p, hl, ho, r, e => by
    have ih := tx_rd_sem b n D
    unfold tx_rd at e
    by_cases hs : tx_sp lev (tx_c b n p) = true
    · rw [if_pos hs] at e
      unfold tx_og at e
      by_cases h5 : 5 ≤ o
      · rw [if_pos h5] at e; cases e
      · rw [if_neg h5] at e
        by_cases h1 : tx_c b n p = 11
        · rw [if_pos h1] at e
          cases hr : tx_rd b n D 2 (o + 1) (tx_n b n p) with
          | inl x => rw [hr] at e; cases e
          | inr r1 =>
            rw [hr] at e
            have e' := Sum.inr.inj e
            subst e'
            exact ((ih 2 (o + 1) _ (by omega) (by omega) r1 hr).mono (by omega)).un (g := fun x => if x = 0 then 1 else 0) (by omega) (by decide) (fun σ k hk => tx_ds_not hk)
        · rw [if_neg h1] at e
          by_cases h2 : tx_c b n p = 45
          · rw [if_pos h2] at e
            cases hr : tx_rd b n D 5 (o + 1) (tx_n b n p) with
            | inl x => rw [hr] at e; cases e
            | inr r1 =>
              rw [hr] at e
              have e' := Sum.inr.inj e
              subst e'
              exact ((ih 5 (o + 1) _ (by omega) (by omega) r1 hr).mono (by omega)).un (g := fun x => - x) (by omega) (by decide) (fun σ k hk => tx_ds_neg hk)
          · rw [if_neg h2] at e
            cases hr : tx_rd b n D 0 (o + 1) (tx_n b n p) with
            | inl x => rw [hr] at e; cases e
            | inr r1 =>
              rw [hr] at e
              by_cases h4 : tx_c b n r1.1 = 41
              · simp only [h4, if_true] at e
                have e' := Sum.inr.inj e
                subst e'
                exact (ih 0 (o + 1) _ (by omega) (by omega) r1 hr).mono (by omega)
              · simp only [h4, if_false] at e
                cases e
    · rw [if_neg hs] at e
      by_cases h5 : lev = 5
      · rw [if_pos h5] at e
        unfold tx_one at e
        by_cases h1 : tx_c b n p = 12
        · rw [if_pos h1] at e
          have e' := Sum.inr.inj e
          subst e'
          exact tx_Sem.one (tx_v_lt h1) (by omega)
        · rw [if_neg h1] at e
          by_cases h2 : tx_c b n p < 6
          · rw [if_pos h2] at e
            have e' := Sum.inr.inj e
            subst e'
            exact tx_Sem.name h2 (by omega)
          · rw [if_neg h2] at e; cases e
      · rw [if_neg h5] at e
        unfold tx_jn at e
        dsimp only at e
        cases hr : tx_rd b n D (lev + 1) o p with
        | inl x => rw [hr] at e; cases e
        | inr r1 =>
          rw [hr] at e
          have h3 := ih (lev + 1) o p (by omega) ho r1 hr
          have key := tx_lp_sem (need := 6 * (6 - o) - (lev + 1)) (by omega) (fun q r2 hq => ih (lev + 1) o q (by omega) ho r2 hq) _ r1.1 r1.2.1 r1.2.2 (h3.mono (by omega)) r e
          exact key.mono (by omega)
