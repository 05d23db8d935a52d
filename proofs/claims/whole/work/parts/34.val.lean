/-! THE TEXTS: what a part of a text comes to, by the class -/
theorem tx_ds_ag {σ : am_S} {x d : Int32} {q : Int32 × am_S} (h : f10_doStep σ x d = some q) : q_Ag (fun a _ => a = 15) σ q.2 := by
  have hb : ∀ {k : Nat} {v : Int32} {y : Int32}, some (y, sF σ 15 k v) = some q → q_Ag (fun a _ => a = 15) σ q.2 := fun e => by
    have e' := Option.some.inj e
    subst e'
    exact (q_Ag.rf σ).sF rfl
  have hc : ∀ {y : Int32}, some (y, σ) = some q → q_Ag (fun a _ => a = 15) σ q.2 := fun e => by
    have e' := Option.some.inj e
    subst e'
    exact q_Ag.rf σ
  have hn : (none : Option (Int32 × am_S)) = some q → q_Ag (fun a _ => a = 15) σ q.2 := fun e => by cases e
  unfold f10_doStep at h
  repeat' split at h
  all_goals first | exact hb h | exact hc h | exact hn h | skip
  cases e : f10_joined (x - 10000) (fF σ 15 (d - 2).toNatClampNeg) (fF σ 15 (d - 1).toNatClampNeg) with
  | none => rw [e] at h; exact hn h
  | some y =>
    rw [e, Option.bind_some] at h
    first | exact hb h | (split at h <;> first | exact hb h | exact hn h)
theorem tx_ag13 {σ σ' : am_S} (h : q_Ag (fun a _ => a = 15) σ σ') : fF σ' 13 = fF σ 13 := funext fun k => (h.2 13 k (fun x : (13 : Nat) = 15 => absurd x (by decide))).1
theorem tx_val_lp (N : Nat) : ∀ (L : List Int32) (n i X : Nat) (d d' : Int32) (σ σ' : am_S), L.length < n → i + L.length < X + 160 → X + 160 ≤ 960 → (∀ j (h : j < L.length), fF σ 13 (i + j) = L[j]) → fF σ 13 (i + L.length) = nI 10059 → (∀ x ∈ L, x ≠ nI 10059) → tx_ex L d σ = some (d', σ') → f10_value_L30 N n d (nI X) (nI i) σ = some (fF σ' 15 0, σ')
  | [], 0, _, _, _, _, _, _, h, _, _, _, _, _, _ => absurd h (Nat.not_lt_zero _)
  | x :: L, 0, _, _, _, _, _, _, h, _, _, _, _, _, _ => absurd h (Nat.not_lt_zero _)
  | [], n + 1, i, X, d, d', σ, σ', hn, hi, hX, hL, he, hne, e => by
    have e' := Option.some.inj e
    have e1 : d = d' := congrArg Prod.fst e'
    have e2 : σ = σ' := congrArg Prod.snd e'
    subst e1; subst e2
    have hi' : i < X + 160 := hi
    have he' : fF σ 13 i = nI 10059 := he
    unfold f10_value_L30
    rw [show (160 : Int32) = nI 160 from rfl, show (10059 : Int32) = nI 10059 from rfl, nI_add, if_neg (nI_ge hi' (by omega)), if_pos (q_in (by omega) (by omega)), nI_clamp (by omega), if_pos he', if_pos (by decide)]
    rfl
  | x :: L, n + 1, i, X, d, d', σ, σ', hn, hi, hX, hL, he, hne, e => by
    have hi' : i + (L.length + 1) < X + 160 := hi
    have hn' : L.length + 1 < n + 1 := hn
    have h0 : fF σ 13 i = x := hL 0 (by simp)
    have hx : x ≠ nI 10059 := hne x (by simp)
    cases h1 : f10_doStep σ x d with
    | none =>
      have e' : (f10_doStep σ x d).bind (fun q => tx_ex L q.1 q.2) = some (d', σ') := e
      rw [h1] at e'; cases e'
    | some q =>
      have e' : (f10_doStep σ x d).bind (fun q => tx_ex L q.1 q.2) = some (d', σ') := e
      rw [h1, Option.bind_some] at e'
      have g := tx_ag13 (tx_ds_ag h1)
      have ih := tx_val_lp N L n (i + 1) X q.1 d' q.2 σ' (by omega) (by omega) hX (fun j hj => by
        rw [g, show i + 1 + j = i + (j + 1) by omega, hL (j + 1) (by simp; omega)]; rfl) (by
        rw [g, show i + 1 + L.length = i + (L.length + 1) by omega]; exact he) (fun y hy => hne y (List.mem_cons_of_mem _ hy)) e'
      unfold f10_value_L30
      rw [show (160 : Int32) = nI 160 from rfl, show (10059 : Int32) = nI 10059 from rfl, nI_add, if_neg (nI_ge (a := i) (b := X + 160) (by omega) (by omega)), if_pos (q_in (by omega) (by omega)), nI_clamp (by omega), h0, if_neg hx, if_pos (q_in (by omega) (by omega)), h1, Option.bind_some, nI_1]
      exact ih
/-- a text: bytes and steps, and what both come to -/
def tx_X (st sa byt : Nat → Int32) (sz : Int32) (V : Nat → tx_E → Int32) : Prop := ∃ (b : Nat → Nat) (n : Nat) (L : Nat → List Int32), n ≤ 160 ∧ sz = nI n ∧ (∀ i, i < n → b i < 256 ∧ byt i = nI (b i)) ∧ tx_T b n = .inr (V, L) ∧ ∀ k, k < 3 → ∃ s : Nat, sa k = nI s ∧ s + (L k).length < 160 ∧ (∀ i (h : i < (L k).length), st (s + i) = (L k)[i]) ∧ st (s + (L k).length) = nI 10059
theorem tx_pt_sem {b : Nat → Nat} {n key p : Nat} {r : Nat × (tx_E → Int32) × List Int32} (h : tx_pt b n key p = .inr r) : tx_Sem 36 r.2.2 r.2.1 := by
  unfold tx_pt at h
  by_cases h1 : tx_c b n p = key
  · rw [if_pos h1] at h
    cases hr : tx_rd b n 36 0 0 (tx_n b n p) with
    | inl x => rw [hr] at h; cases h
    | inr r1 =>
      rw [hr] at h
      by_cases h2 : tx_c b n r1.1 = 59
      · simp only [h2, if_true] at h
        have e' := Sum.inr.inj h
        subst e'
        exact (tx_rd_sem b n 36 0 0 _ (by omega) (by omega) r1 hr)
      · simp only [h2, if_false] at h
        cases h
  · rw [if_neg h1] at h; cases h
theorem tx_T_sem {b : Nat → Nat} {n : Nat} {V : Nat → tx_E → Int32} {L : Nat → List Int32} (h : tx_T b n = .inr (V, L)) : ∀ k, tx_Sem 36 (L k) (V k) := by
  unfold tx_T at h
  cases h1 : tx_pt b n 6 0 with
  | inl x => rw [h1] at h; cases h
  | inr r1 =>
    rw [h1] at h
    dsimp only at h
    cases h2 : tx_pt b n 7 r1.1 with
    | inl x => rw [h2] at h; cases h
    | inr r2 =>
      rw [h2] at h
      dsimp only at h
      cases h3 : tx_pt b n 8 r2.1 with
      | inl x => rw [h3] at h; cases h
      | inr r3 =>
        rw [h3] at h
        dsimp only at h
        by_cases h4 : tx_c b n r3.1 = 13
        · rw [if_pos h4] at h
          have e := Sum.inr.inj h
          have e1 : tx_3 r1.2.1 r2.2.1 r3.2.1 = V := congrArg Prod.fst e
          have e2 : tx_3 r1.2.2 r2.2.2 r3.2.2 = L := congrArg Prod.snd e
          subst e1; subst e2
          intro k
          match k with
          | 0 => exact tx_pt_sem h1
          | 1 => exact tx_pt_sem h2
          | k + 2 => exact tx_pt_sem h3
        · rw [if_neg h4] at h; cases h
theorem tx_value {N : Nat} (hN : 161 ≤ N) {σ : am_S} {r k : Nat} {V : Nat → tx_E → Int32} (hr : r < 6) (hk : k < 3) (e5 : fF σ 11 5 = nI r) (hX : tx_X (fun i => fF σ 13 (160 * r + i)) (fun i => fF σ 14 (3 * r + i)) (fun i => fF σ 37 (160 * r + i)) (fF σ 38 r) V) : ∃ σ', f10_value N σ (nI k) = some (V k (fF σ 16), σ') ∧ q_Ag (fun a _ => a = 15) σ σ' := by
  obtain ⟨b, n, L, hn, -, -, hT, hL⟩ := hX
  obtain ⟨s, e1, h1, h2, h3⟩ := hL k hk
  obtain ⟨hne, -, hs⟩ := tx_T_sem hT k
  obtain ⟨σ', e2, g, -, v⟩ := hs σ 0 (by omega)
  refine ⟨σ', ?_, g⟩
  have e1' : fF σ 14 (3 * r + k) = nI s := e1
  unfold f10_value
  rw [e5, show (3 : Int32) = nI 3 from rfl, show (160 : Int32) = nI 160 from rfl, pk_mul, pk_mul, nI_add, if_pos (q_in (by omega) (by omega)), nI_clamp (by omega), show r * 3 + k = 3 * r + k by omega, e1', nI_add]
  have key := tx_val_lp N (L k) N (r * 160 + s) (r * 160) 0 (nI 1) σ σ' (by omega) (by omega) (by omega) (fun j hj => by
    have := h2 j hj
    rw [← this]
    show fF σ 13 _ = fF σ 13 _
    rw [show r * 160 + s + j = 160 * r + (s + j) by omega]) (by
    have := h3
    rw [← this]
    show fF σ 13 _ = fF σ 13 _
    rw [show r * 160 + s + (L k).length = 160 * r + (s + (L k).length) by omega]) hne e2
  rw [key, v]
