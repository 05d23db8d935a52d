/-! THE TEXTS: the class's reader does as the pure one -/
def k_s2 (t a k : Nat) : Prop := (a = 11 ∧ 7 ≤ k ∧ k ≤ 12) ∨ (a = 13 ∧ 160 * t ≤ k)
theorem k_S.mv2 {b : Nat → Nat} {n t : Nat} {σ σ' : am_S} (h : k_S b n t σ) (g : q_Ag (k_s2 t) σ σ') : k_S b n t σ' :=
  h.mv g (by unfold k_s2; omega) (by unfold k_s2; omega) (fun i => by unfold k_s2; omega)
def k_G (b : Nat → Nat) (n t p len : Nat) (σ : am_S) : Prop := k_S b n t σ ∧ k_T b n p σ ∧ fF σ 11 12 = -1 ∧ fF σ 11 7 = nI len
def k_ok (b : Nat → Nat) (n t p len : Nat) (L : List Int32) (σ σ' : am_S) : Prop := k_G b n t p (len + L.length) σ' ∧ q_Ag (k_s2 t) σ σ' ∧ (∀ k, k < 160 * t + len → fF σ' 13 k = fF σ 13 k) ∧ ∀ i (h : i < L.length), fF σ' 13 (160 * t + len + i) = L[i]
def k_F (b : Nat → Nat) (n t f : Nat) (σ : am_S) : Prop := k_S b n t σ ∧ f ≤ 160 ∧ fF σ 11 12 = nI f ∧ fF σ 11 10 = nI 14 ∧ ∃ len, len ≤ 160 ∧ fF σ 11 7 = nI len
def k_Out (b : Nat → Nat) (n t len : Nat) (z : tx_Z) (σ σ' : am_S) : Prop := match z with
  | .inl f => k_F b n t f σ' ∧ q_Ag (k_s2 t) σ σ'
  | .inr r => k_ok b n t r.1 len r.2.2 σ σ'
theorem tx_bsm {α : Type} (x : Option α) : (x.bind fun s => some s) = x := by cases x <;> rfl
theorem nI_m1 {f : Nat} (h : f ≤ 160) : nI f ≠ (-1 : Int32) := fun e => by
  have h1 : (nI f).toInt = (f : Int) := nI_toInt (by omega)
  rw [e, show (-1 : Int32).toInt = -1 from rfl] at h1
  omega
theorem k_G.rfl' {b : Nat → Nat} {n t p len : Nat} {σ : am_S} (h : k_G b n t p len σ) : k_ok b n t p len [] σ σ := ⟨h, q_Ag.rf σ, fun _ _ => rfl, fun i hi => absurd hi (Nat.not_lt_zero i)⟩
theorem k_ok.tr {b : Nat → Nat} {n t p p' len : Nat} {L M : List Int32} {σ σ' σ'' : am_S} (h : k_ok b n t p len L σ σ') (h' : k_ok b n t p' (len + L.length) M σ' σ'') : k_ok b n t p' len (L ++ M) σ σ'' := by
  refine ⟨?_, h.2.1.tr h'.2.1, fun k hk => (h'.2.2.1 k (by omega)).trans (h.2.2.1 k hk), fun i hi => ?_⟩
  · rw [List.length_append, ← Nat.add_assoc]; exact h'.1
  · by_cases c : i < L.length
    · rw [List.getElem_append_left c, h'.2.2.1 _ (by omega)]
      exact h.2.2.2 i c
    · rw [List.getElem_append_right (by omega)]
      have := h'.2.2.2 (i - L.length) (by rw [List.length_append] at hi; omega)
      rw [← this, show 160 * t + (len + L.length) + (i - L.length) = 160 * t + len + i by omega]
theorem k_refG {b : Nat → Nat} {n t p len : Nat} {σ : am_S} (h : k_G b n t p len σ) (hp : p ≤ n) (hl : len ≤ 160) : ∃ σ', f10_refuse σ = some σ' ∧ k_F b n t (tx_f b n p) σ' ∧ q_Ag (k_s2 t) σ σ' := by
  have h1 := h.1.1
  have g : q_Ag (k_s2 t) σ (sF (sF σ 11 12 (fF σ 11 9)) 11 10 14) := ((q_Ag.rf σ).sF (Or.inl ⟨rfl, by omega, by omega⟩)).sF (Or.inl ⟨rfl, by omega, by omega⟩)
  refine ⟨_, by unfold f10_refuse; rw [if_pos h.2.2.1], ⟨h.1.mv2 g, by have := (tx_f_ge b n p).2 hp; omega, ?_, q_FFe, len, hl, ?_⟩, g⟩
  · rw [q_FFk (by decide), q_FFe, h.2.1.2.1]
  · rw [q_FFk (by decide), q_FFk (by decide)]; exact h.2.2.2
theorem k_refF {b : Nat → Nat} {n t f : Nat} {σ : am_S} (h : k_F b n t f σ) : ∃ σ', f10_refuse σ = some σ' ∧ k_F b n t f σ' ∧ q_Ag (k_s2 t) σ σ' := by
  obtain ⟨h1, h2, h3, h4, len, h5, h6⟩ := h
  have g : q_Ag (k_s2 t) σ (sF σ 11 10 14) := (q_Ag.rf σ).sF (Or.inl ⟨rfl, by omega, by omega⟩)
  refine ⟨_, by unfold f10_refuse; rw [if_neg (by rw [h3]; exact nI_m1 h2)], ⟨h1.mv2 g, h2, ?_, q_FFe, len, h5, ?_⟩, g⟩
  · rw [q_FFk (by decide)]; exact h3
  · rw [q_FFk (by decide)]; exact h6
theorem k_wrG {b : Nat → Nat} {n t p len : Nat} {σ : am_S} (x : Int32) (h : k_G b n t p len σ) (hl : len < 160) : ∃ σ', f10_write σ x = some σ' ∧ k_ok b n t p len [x] σ σ' := by
  have h2 := h.1.2.1
  have g : q_Ag (k_s2 t) σ (sF (sF σ 13 (t * 160 + len) x) 11 7 (nI (len + 1))) := ((q_Ag.rf σ).sF (Or.inr ⟨rfl, by omega⟩)).sF (Or.inl ⟨rfl, by omega, by omega⟩)
  refine ⟨sF (sF σ 13 (t * 160 + len) x) 11 7 (nI (len + 1)), ?_, ⟨h.1.mv2 g, ⟨?_, ?_, ?_, ?_⟩, ?_, q_FFe⟩, g, fun k hk => ?_, fun i hi => ?_⟩
  · unfold f10_write
    rw [h.2.2.2, h.1.2.2.2.1, if_neg (show ¬ (160 : Int32) ≤ nI len from nI_ge (b := 160) hl (by omega)), show (160 : Int32) = nI 160 from rfl, pk_mul, nI_add, if_pos (q_in (by omega) (by omega)), nI_clamp (by omega), q_FFa (by decide), h.2.2.2, nI_1]
  · rw [q_FFk (by decide), q_FFa (by decide)]; exact h.2.1.1
  · rw [q_FFk (by decide), q_FFa (by decide)]; exact h.2.1.2.1
  · rw [q_FFk (by decide), q_FFa (by decide)]; exact h.2.1.2.2.1
  · intro e
    rw [q_FFk (by decide), q_FFa (by decide)]; exact h.2.1.2.2.2 e
  · rw [q_FFk (by decide), q_FFa (by decide)]; exact h.2.2.1
  · rw [q_FFa (by decide), q_FFk (by omega)]
  · have e : i = 0 := by simp only [List.length_cons, List.length_nil] at hi; omega
    subst e
    rw [q_FFa (by decide), show 160 * t + len + 0 = t * 160 + len by omega, q_FFe]
    rfl
theorem k_wrF {b : Nat → Nat} {n t f : Nat} {σ : am_S} (x : Int32) (h : k_F b n t f σ) : ∃ σ', f10_write σ x = some σ' ∧ k_F b n t f σ' ∧ q_Ag (k_s2 t) σ σ' := by
  obtain ⟨h1, h2, h3, h4, len, h5, h6⟩ := h
  have ht := h1.2.1
  by_cases c : len = 160
  · refine ⟨σ, ?_, ⟨h1, h2, h3, h4, len, h5, h6⟩, q_Ag.rf σ⟩
    unfold f10_write
    rw [h6, if_pos (show (160 : Int32) ≤ nI len from nI_le (a := 160) (by omega) (by omega))]
  · have g : q_Ag (k_s2 t) σ (sF (sF σ 13 (t * 160 + len) x) 11 7 (nI (len + 1))) := ((q_Ag.rf σ).sF (Or.inr ⟨rfl, by omega⟩)).sF (Or.inl ⟨rfl, by omega, by omega⟩)
    refine ⟨sF (sF σ 13 (t * 160 + len) x) 11 7 (nI (len + 1)), ?_, ⟨h1.mv2 g, h2, ?_, ?_, len + 1, by omega, q_FFe⟩, g⟩
    · unfold f10_write
      rw [h6, h1.2.2.2.1, if_neg (show ¬ (160 : Int32) ≤ nI len from nI_ge (b := 160) (by omega) (by omega)), show (160 : Int32) = nI 160 from rfl, pk_mul, nI_add, if_pos (q_in (by omega) (by omega)), nI_clamp (by omega), q_FFa (by decide), h6, nI_1]
    · rw [q_FFk (by decide), q_FFa (by decide)]; exact h3
    · rw [q_FFk (by decide), q_FFa (by decide)]; exact h4
theorem k_s1_2 {t a k : Nat} (h : k_s1 a k) : k_s2 t a k := Or.inl ⟨h.1, by have := h.2.1; omega, by have := h.2.2; omega⟩
theorem k_nxG {N : Nat} (hN : 200 ≤ N) {b : Nat → Nat} {n t p len : Nat} {σ : am_S} (h : k_G b n t p len σ) (hc : tx_c b n p ≠ 13) : ∃ σ', f10_nextToken N σ = some σ' ∧ k_ok b n t (tx_n b n p) len [] σ σ' := by
  obtain ⟨σ', e, g, hT⟩ := k_next hN h.1 h.2.1.2.2.1 (tx_n_gt hc).2.2
  refine ⟨σ', e, ⟨h.1.mv1 g, hT, ?_, ?_⟩, g.wk (fun a k => k_s1_2), fun k _ => (g.2 13 k (by unfold k_s1; omega)).1, fun i hi => absurd hi (Nat.not_lt_zero i)⟩
  · rw [(g.2 11 12 (by unfold k_s1; omega)).1]; exact h.2.2.1
  · rw [(g.2 11 7 (by unfold k_s1; omega)).1]; exact h.2.2.2
theorem tx_c_lt (b : Nat → Nat) (n p : Nat) : tx_c b n p < 62 := by
  unfold tx_c tx_tk
  split
  · show (13 : Nat) < 62
    decide
  · split
    · have := tx_wi_le (tx_bs b (tx_R tx_bl b n p) (tx_R tx_le b n (tx_R tx_bl b n p)))
      show tx_wi _ < 62
      omega
    · split
      · show (if _ then 12 else 14) < 62
        split <;> decide
      · split
        · rename_i h
          simp only [tx_sg, Bool.or_eq_true, beq_iff_eq] at h
          show b _ < 62
          omega
        · show (14 : Nat) < 62
          decide
theorem k_paG {N : Nat} (hN : 200 ≤ N) {b : Nat → Nat} {n t p len c : Nat} {σ : am_S} (h : k_G b n t p len σ) (hp : p ≤ n) (hl : len ≤ 160) (hc : c < 62) (hc2 : c ≠ 13) : ∃ σ', f10_pass N σ (nI c) = some σ' ∧ k_Out b n t len (if tx_c b n p = c then .inr (tx_n b n p, (fun _ => 0), []) else .inl (tx_f b n p)) σ σ' := by
  have h1 := tx_c_lt b n p
  unfold f10_pass
  rw [h.2.1.1]
  by_cases e : tx_c b n p = c
  · rw [if_pos (by rw [e]), if_pos e, tx_bsm]
    obtain ⟨σ', f1, f2⟩ := k_nxG hN h (by omega)
    exact ⟨σ', f1, f2⟩
  · rw [if_neg (fun x => e (q_nI (by omega) (by omega) x)), if_neg e, tx_bsm]
    obtain ⟨σ', f1, f2, f3⟩ := k_refG h hp hl
    exact ⟨σ', f1, f2, f3⟩
theorem k_paF {N : Nat} {b : Nat → Nat} {n t f c : Nat} {σ : am_S} (h : k_F b n t f σ) (hc : c < 62) (hc2 : c ≠ 14) : ∃ σ', f10_pass N σ (nI c) = some σ' ∧ k_F b n t f σ' ∧ q_Ag (k_s2 t) σ σ' := by
  unfold f10_pass
  rw [h.2.2.2.1, if_neg (fun x => hc2 (q_nI (by omega) (by omega) x).symm), tx_bsm]
  exact k_refF h
theorem k_oneG {N : Nat} (hN : 200 ≤ N) {b : Nat → Nat} {n t p len : Nat} {σ : am_S} (h : k_G b n t p len σ) (hp : p ≤ n) (hl : len ≤ p) : ∃ σ', f10_readOne N σ = some σ' ∧ k_Out b n t len (tx_one b n p) σ σ' := by
  have h1 := tx_c_lt b n p
  have hn := h.1.1
  have go : ∀ x : Int32, tx_c b n p ≠ 13 → ∃ σ', ((f10_write σ x).bind fun s3 => (f10_nextToken N s3).bind fun s6 => some s6) = some σ' ∧ k_ok b n t (tx_n b n p) len [x] σ σ' := fun x hc => by
    have h2 := tx_n_gt hc
    have h3 := tx_f_ge b n p
    obtain ⟨σ1, e1, k1⟩ := k_wrG x h (by omega)
    obtain ⟨σ2, e2, k2⟩ := k_nxG hN k1.1 hc
    refine ⟨σ2, ?_, ?_⟩
    · rw [e1, Option.bind_some, e2]; rfl
    · exact k1.tr k2
  unfold f10_readOne tx_one
  rw [h.2.1.1]
  by_cases c1 : tx_c b n p = 12
  · rw [if_pos (show nI (tx_c b n p) = (12 : Int32) by rw [c1]; rfl), if_pos c1, h.2.1.2.2.2 c1]
    exact go (nI (tx_v b n p)) (by omega)
  · rw [if_neg (show ¬ nI (tx_c b n p) = (12 : Int32) from fun x => c1 (q_nI (b := 12) (by omega) (by omega) x)), if_neg (nI_pos (by omega)), if_neg c1]
    by_cases c2 : tx_c b n p < 6
    · rw [if_neg (show ¬ (6 : Int32) ≤ nI (tx_c b n p) from nI_ge (b := 6) c2 (by omega)), if_pos c2, show (10000 : Int32) = nI 10000 from rfl, nI_add]
      exact go (nI (10000 + tx_c b n p)) (by omega)
    · rw [if_pos (show (6 : Int32) ≤ nI (tx_c b n p) from nI_le (a := 6) (by omega) (by omega)), if_neg c2, tx_bsm]
      obtain ⟨σ', f1, f2, f3⟩ := k_refG h hp (by omega)
      exact ⟨σ', f1, f2, f3⟩
theorem k_oneF {N : Nat} {b : Nat → Nat} {n t f : Nat} {σ : am_S} (h : k_F b n t f σ) : ∃ σ', f10_readOne N σ = some σ' ∧ k_F b n t f σ' ∧ q_Ag (k_s2 t) σ σ' := by
  unfold f10_readOne
  rw [h.2.2.2.1, if_neg (by decide), if_neg (by decide), if_pos (by decide), tx_bsm]
  exact k_refF h
theorem k_joins {σ : am_S} {lev c : Nat} (hl : lev ≤ 5) (hc : c < 62) (h : fF σ 11 10 = nI c) : f10_joins σ (nI lev) = some (tx_jo lev c) := by
  have key : ∀ lev, lev ≤ 5 → ∀ c, c < 62 → (if nI lev = (0 : Int32) then (if nI c = (9 : Int32) then (some (true)) else (some (false))) else (if nI lev = (1 : Int32) then (if nI c = (10 : Int32) then (some (true)) else (some (false))) else (if nI lev = (2 : Int32) then (if nI c = (60 : Int32) then (some (true)) else (if nI c = (61 : Int32) then (some (true)) else (some (false)))) else (if nI lev = (3 : Int32) then (if nI c = (43 : Int32) then (some (true)) else (if nI c = (45 : Int32) then (some (true)) else (some (false)))) else (if nI lev = (4 : Int32) then (if nI c = (42 : Int32) then (some (true)) else (some (false))) else (some (false))))))) = some (tx_jo lev c) := by decide +kernel
  unfold f10_joins
  rw [h]
  exact key lev hl c hc
theorem k_read_r {N : Nat} {rj : am_S → Int32 → Int32 → Option am_S} {ro : am_S → Int32 → Option am_S} {σ : am_S} {lev c : Nat} {o : Int32} (hl : lev ≤ 5) (hc : c < 62) (h : fF σ 11 10 = nI c) : f10_read_r N rj ro σ (nI lev) o = if tx_sp lev c = true then ro σ o else if lev = 5 then f10_readOne N σ else rj σ (nI lev) o := by
  unfold f10_read_r
  rw [h]
  simp only [tx_bsm]
  have e5 : (nI lev = (5 : Int32)) = (lev = 5) := propext (nI_eq (b := 5) (by omega) (by omega))
  have e2 : (nI lev = (2 : Int32)) = (lev = 2) := propext (nI_eq (b := 2) (by omega) (by omega))
  have e45 : (nI c = (45 : Int32)) = (c = 45) := propext (nI_eq (b := 45) (by omega) (by omega))
  have e40 : (nI c = (40 : Int32)) = (c = 40) := propext (nI_eq (b := 40) (by omega) (by omega))
  have e11 : (nI c = (11 : Int32)) = (c = 11) := propext (nI_eq (b := 11) (by omega) (by omega))
  simp only [e5, e2, e45, e40, e11]
  unfold tx_sp
  by_cases c5 : lev = 5
  · subst c5
    by_cases d1 : c = 45
    · subst d1; rfl
    · by_cases d2 : c = 40
      · subst d2; rfl
      · simp [d1, d2]
  · by_cases c2 : lev = 2
    · subst c2
      by_cases d1 : c = 11
      · subst d1; rfl
      · simp [d1]
    · simp [c5, c2]
-- once a fault stands, the reader only unwinds
theorem k_lpF {N : Nat} {rd : am_S → Int32 → Int32 → Option am_S} {b : Nat → Nat} {n t f lev : Nat} {o m i : Int32} {σ : am_S} (n' : Nat) (h : k_F b n t f σ) (hl : lev ≤ 5) : f10_readJoined_L24 N rd (n' + 1) (nI lev) o m i σ = some σ := by
  unfold f10_readJoined_L24
  split
  · rfl
  · rw [k_joins hl (by decide) h.2.2.2.1, Option.bind_some]
    have : tx_jo lev 14 = false := by simp [tx_jo]
    rw [this]
    rfl
theorem k_rdF {N : Nat} (hN : 200 ≤ N) {b : Nat → Nat} {n t f : Nat} {o : Int32} : ∀ (d lev M : Nat) (σ : am_S), lev + d = 5 → 2 * d + 1 ≤ M → k_F b n t f σ → ∃ σ', (gT N M).1 σ (nI lev) o = some σ' ∧ k_F b n t f σ' ∧ q_Ag (k_s2 t) σ σ' := by
  intro d
  induction d with
  | zero =>
    intro lev M σ hd hM h
    obtain ⟨M, rfl⟩ : ∃ m, M = m + 1 := ⟨M - 1, by omega⟩
    show ∃ σ', f10_read_r N (gT N M).2.1 (gT N M).2.2 σ (nI lev) o = some σ' ∧ _
    rw [k_read_r (by omega) (by decide) h.2.2.2.1, if_neg (by simp [tx_sp]), if_pos (by omega)]
    exact k_oneF h
  | succ d ih =>
    intro lev M σ hd hM h
    obtain ⟨M, rfl⟩ : ∃ m, M = m + 2 := ⟨M - 2, by omega⟩
    obtain ⟨N', rfl⟩ : ∃ m, N = m + 1 := ⟨N - 1, by omega⟩
    show ∃ σ', f10_read_r (N' + 1) (gT (N' + 1) (M + 1)).2.1 (gT (N' + 1) (M + 1)).2.2 σ (nI lev) o = some σ' ∧ _
    rw [k_read_r (by omega) (by decide) h.2.2.2.1, if_neg (by simp [tx_sp]), if_neg (by omega)]
    show ∃ σ', f10_readJoined_r (N' + 1) (gT (N' + 1) M).1 σ (nI lev) o = some σ' ∧ _
    obtain ⟨σ1, e1, k1, g1⟩ := ih (lev + 1) M σ (by omega) (by omega) h
    unfold f10_readJoined_r
    rw [nI_1, e1, Option.bind_some, k_lpF N' k1 (by omega), k_lpF N' k1 (by omega)]
    refine ⟨σ1, ?_, k1, g1⟩
    split <;> rfl
-- the loop of joined ones
theorem k_lp {N : Nat} (hN : 200 ≤ N) {b : Nat → Nat} {n t lev len : Nat} {o m : Nat} {rd : am_S → Int32 → Int32 → Option am_S} {prd : Nat → tx_Z} {σ0 : am_S} (hl : lev ≤ 4) (hm : m ≤ 160) (hgo : ∀ p, p ≤ n → tx_Go n p (prd p))
    (hrd : ∀ p len σ, p ≤ n → len ≤ p → k_G b n t p len σ → ∃ σ', rd σ (nI (lev + 1)) (nI o) = some σ' ∧ k_Out b n t len (prd p) σ σ') :
    ∀ (f i n' p : Nat) (V : tx_E → Int32) (L : List Int32) (σ : am_S), i + f = m → f < n' → p ≤ n → len + L.length ≤ p → k_ok b n t p len L σ0 σ → ∃ σ', f10_readJoined_L24 N rd n' (nI lev) (nI o) (nI m) (nI i) σ = some σ' ∧ k_Out b n t len (tx_lp b n prd lev f p V L) σ0 σ' := by
  intro f
  induction f with
  | zero =>
    intro i n' p V L σ hi hn hp hlen h
    obtain ⟨n', rfl⟩ : ∃ m, n' = m + 1 := ⟨n' - 1, by omega⟩
    refine ⟨σ, ?_, h⟩
    unfold f10_readJoined_L24
    rw [if_pos (nI_le (by omega) (by omega))]
  | succ f ih =>
    intro i n' p V L σ hi hn hp hlen h
    obtain ⟨n', rfl⟩ : ∃ m, n' = m + 1 := ⟨n' - 1, by omega⟩
    have hc := tx_c_lt b n p
    have hn160 := h.1.1.1
    unfold f10_readJoined_L24 tx_lp
    rw [if_neg (nI_ge (by omega) (by omega)), k_joins (by omega) hc h.1.2.1.1, Option.bind_some]
    by_cases hj : tx_jo lev (tx_c b n p) = true
    · rw [if_pos hj, if_pos hj]
      have hc13 : tx_c b n p ≠ 13 := fun x => by rw [x] at hj; simp [tx_jo] at hj
      have h2 := tx_n_gt hc13
      have h3 := tx_f_ge b n p
      obtain ⟨σ1, e1, k1⟩ := k_nxG hN h.1 hc13
      obtain ⟨σ2, e2, k2⟩ := hrd (tx_n b n p) (len + L.length) σ1 h2.2.2 (by omega) k1.1
      rw [e1, Option.bind_some, nI_1, e2, Option.bind_some, h.1.2.1.1, show (10000 : Int32) = nI 10000 from rfl, nI_add]
      cases hr : prd (tx_n b n p) with
      | inl x =>
        rw [hr] at k2
        obtain ⟨k2, g2⟩ := k2
        obtain ⟨σ3, e3, k3, g3⟩ := k_wrF (nI (10000 + tx_c b n p)) k2
        obtain ⟨n', rfl⟩ : ∃ m, n' = m + 1 := ⟨n' - 1, by omega⟩
        refine ⟨σ3, ?_, k3, h.2.1.tr (k1.2.1.tr (g2.tr g3))⟩
        rw [e3, Option.bind_some, k_lpF n' k3 (by omega)]
      | inr r =>
        rw [hr] at k2
        have k2' : k_ok b n t r.1 (len + L.length) r.2.2 σ1 σ2 := k2
        have h4 := hgo (tx_n b n p) h2.2.2 r hr
        obtain ⟨σ3, e3, k3⟩ := k_wrG (nI (10000 + tx_c b n p)) k2'.1 (by omega)
        rw [e3, Option.bind_some, nI_1]
        have k23 := k2'.tr k3
        have k13 := k1.tr (M := r.2.2 ++ [nI (10000 + tx_c b n p)]) (p' := r.1) (σ'' := σ3) k23
        have k03 := h.tr k13
        exact ih (i + 1) n' r.1 _ (L ++ (r.2.2 ++ [nI (10000 + tx_c b n p)])) σ3 (by omega) (by omega) h4.2 (by simp only [List.length_append, List.length_cons, List.length_nil]; omega) k03
    · rw [if_neg hj, if_neg hj]
      exact ⟨σ, rfl, h⟩
theorem k_rd {N : Nat} (hN : 200 ≤ N) {b : Nat → Nat} {n t : Nat} : ∀ (D M lev o p len : Nat) (σ : am_S), lev ≤ 5 → o ≤ 5 → 6 * (6 - o) - lev ≤ D → 2 * (6 * (6 - o) - lev) ≤ M → p ≤ n → len ≤ p → k_G b n t p len σ → ∃ σ', (gT N M).1 σ (nI lev) (nI o) = some σ' ∧ k_Out b n t len (tx_rd b n D lev o p) σ σ' := by
  intro D
  induction D with
  | zero => intro M lev o p len σ hl ho hD; omega
  | succ D ih =>
    intro M lev o p len σ hl ho hD hM hp hlen h
    obtain ⟨M, rfl⟩ : ∃ m, M = m + 2 := ⟨M - 2, by omega⟩
    have hc := tx_c_lt b n p
    have hn160 := h.1.1
    show ∃ σ', f10_read_r N (gT N (M + 1)).2.1 (gT N (M + 1)).2.2 σ (nI lev) (nI o) = some σ' ∧ _
    rw [k_read_r hl hc h.2.1.1]
    unfold tx_rd
    by_cases hs : tx_sp lev (tx_c b n p) = true
    · rw [if_pos hs, if_pos hs]
      show ∃ σ', f10_readOpening_r N (gT N M).1 σ (nI o) = some σ' ∧ _
      unfold f10_readOpening_r tx_og
      have hs' := hs
      simp only [tx_sp, Bool.or_eq_true, Bool.and_eq_true, beq_iff_eq] at hs'
      have hc13 : tx_c b n p ≠ 13 := by omega
      have h2 := tx_n_gt hc13
      have h3 := tx_f_ge b n p
      by_cases c5 : 5 ≤ o
      · rw [if_neg (show ¬ nI o < (5 : Int32) from nI_nlt (b := 5) c5 (by omega)), if_pos c5, tx_bsm]
        obtain ⟨σ1, e1, k1, g1⟩ := k_refG h hp (by omega)
        exact ⟨σ1, e1, k1, g1⟩
      · rw [if_pos (show nI o < (5 : Int32) from nI_lt (b := 5) (by omega) (by omega)), if_neg c5]
        obtain ⟨σ1, e1, k1⟩ := k_nxG hN h hc13
        rw [e1, Option.bind_some, h.2.1.1, nI_1]
        simp only [tx_bsm]
        have e11 : (nI (tx_c b n p) = (11 : Int32)) = (tx_c b n p = 11) := propext (nI_eq (b := 11) (by omega) (by omega))
        have e45 : (nI (tx_c b n p) = (45 : Int32)) = (tx_c b n p = 45) := propext (nI_eq (b := 45) (by omega) (by omega))
        have e40 : (nI (tx_c b n p) = (40 : Int32)) = (tx_c b n p = 40) := propext (nI_eq (b := 40) (by omega) (by omega))
        simp only [e11, e45, e40]
        have un : ∀ (lev' s : Nat) (z : tx_Z) (g : (tx_E → Int32) → tx_E → Int32), lev' ≤ 5 → 6 * (6 - (o + 1)) - lev' ≤ D → 2 * (6 * (6 - (o + 1)) - lev') ≤ M → z = tx_rd b n D lev' (o + 1) (tx_n b n p) → ∃ σ', ((gT N M).1 σ1 (nI lev') (nI (o + 1))).bind (fun s8 => f10_write s8 (nI s)) = some σ' ∧ k_Out b n t len (match z with
            | .inl x => .inl x
            | .inr r => .inr (r.1, g r.2.1, r.2.2 ++ [nI s])) σ σ' := by
          intro lev' s z g hl' hD' hM' hz
          obtain ⟨σ2, e2, k2⟩ := ih M lev' (o + 1) (tx_n b n p) len σ1 hl' (by omega) hD' hM' h2.2.2 (by omega) k1.1
          rw [e2, Option.bind_some]
          rw [← hz] at k2
          cases z with
          | inl x =>
            obtain ⟨k2, g2⟩ := k2
            obtain ⟨σ3, e3, k3, g3⟩ := k_wrF (nI s) k2
            exact ⟨σ3, e3, k3, k1.2.1.tr (g2.tr g3)⟩
          | inr r =>
            have k2' : k_ok b n t r.1 len r.2.2 σ1 σ2 := k2
            have h4 := tx_rd_go b n D lev' (o + 1) (tx_n b n p) h2.2.2 r hz.symm
            obtain ⟨σ3, e3, k3⟩ := k_wrG (nI s) k2'.1 (by omega)
            exact ⟨σ3, e3, k1.tr (M := r.2.2 ++ [nI s]) (p' := r.1) (σ'' := σ3) (k2'.tr k3)⟩
        by_cases c1 : tx_c b n p = 11
        · rw [if_pos c1, if_pos c1]
          simp only [c1, if_true, if_neg (show ¬ (11 : Nat) = 40 by decide)]
          exact un 2 10011 _ (fun V e => if V e = 0 then 1 else 0) (by omega) (by omega) (by omega) rfl
        · rw [if_neg c1, if_neg c1]
          by_cases c2 : tx_c b n p = 45
          · rw [if_pos c2, if_pos c2]
            simp only [c2, if_neg (show ¬ (45 : Nat) = 40 by decide), if_neg (show ¬ (45 : Nat) = 11 by decide)]
            exact un 5 10015 _ (fun V e => - V e) (by omega) (by omega) (by omega) rfl
          · rw [if_neg c2, if_neg c2]
            have c3 : tx_c b n p = 40 := by omega
            simp only [c3, if_true]
            obtain ⟨σ2, e2, k2⟩ := ih M 0 (o + 1) (tx_n b n p) len σ1 (by omega) (by omega) (by omega) (by omega) h2.2.2 (by omega) k1.1
            rw [show (0 : Int32) = nI 0 from rfl, e2, Option.bind_some]
            cases hr : tx_rd b n D 0 (o + 1) (tx_n b n p) with
            | inl x =>
              rw [hr] at k2
              obtain ⟨k2, g2⟩ := k2
              obtain ⟨σ3, e3, k3, g3⟩ := k_paF (N := N) (c := 41) k2 (by decide) (by decide)
              exact ⟨σ3, e3, k3, k1.2.1.tr (g2.tr g3)⟩
            | inr r =>
              rw [hr] at k2
              have k2' : k_ok b n t r.1 len r.2.2 σ1 σ2 := k2
              have h4 := tx_rd_go b n D 0 (o + 1) (tx_n b n p) h2.2.2 r hr
              obtain ⟨σ3, e3, k3⟩ := k_paG hN (c := 41) k2'.1 h4.2 (by omega) (by decide) (by decide)
              refine ⟨σ3, e3, ?_⟩
              show k_Out b n t len (if tx_c b n r.1 = 41 then .inr (tx_n b n r.1, r.2.1, r.2.2) else .inl (tx_f b n r.1)) σ σ3
              by_cases c4 : tx_c b n r.1 = 41
              · rw [if_pos c4] at k3 ⊢
                have k3' : k_ok b n t (tx_n b n r.1) (len + r.2.2.length) [] σ2 σ3 := k3
                have := k1.tr (M := r.2.2 ++ []) (p' := tx_n b n r.1) (σ'' := σ3) (k2'.tr k3')
                rw [List.append_nil] at this
                exact this
              · rw [if_neg c4] at k3 ⊢
                obtain ⟨k3, g3⟩ := k3
                exact ⟨k3, k1.2.1.tr (k2'.2.1.tr g3)⟩
    · rw [if_neg hs, if_neg hs]
      by_cases c5 : lev = 5
      · rw [if_pos c5, if_pos c5]
        exact k_oneG hN h hp hlen
      · rw [if_neg c5, if_neg c5]
        show ∃ σ', f10_readJoined_r N (gT N M).1 σ (nI lev) (nI o) = some σ' ∧ _
        unfold f10_readJoined_r tx_jn
        dsimp only
        obtain ⟨σ1, e1, k1⟩ := ih M (lev + 1) o p len σ (by omega) ho (by omega) (by omega) hp hlen h
        rw [nI_1, e1, Option.bind_some]
        have e2 : (nI lev = (2 : Int32)) = (lev = 2) := propext (nI_eq (b := 2) (by omega) (by omega))
        simp only [e2]
        cases hr : tx_rd b n D (lev + 1) o p with
        | inl x =>
          rw [hr] at k1
          obtain ⟨k1, g1⟩ := k1
          obtain ⟨N', rfl⟩ : ∃ m, N = m + 1 := ⟨N - 1, by omega⟩
          refine ⟨σ1, ?_, k1, g1⟩
          rw [k_lpF N' k1 hl, k_lpF N' k1 hl]
          split <;> rfl
        | inr r =>
          rw [hr] at k1
          have k1' : k_ok b n t r.1 len r.2.2 σ σ1 := k1
          have h4 := tx_rd_go b n D (lev + 1) o p hp r hr
          have hrd : ∀ p len σ, p ≤ n → len ≤ p → k_G b n t p len σ → ∃ σ', (gT N M).1 σ (nI (lev + 1)) (nI o) = some σ' ∧ k_Out b n t len (tx_rd b n D (lev + 1) o p) σ σ' := fun p len σ x1 x2 x3 => ih M (lev + 1) o p len σ (by omega) ho (by omega) (by omega) x1 x2 x3
          show ∃ σ', _ ∧ k_Out b n t len (tx_lp b n (fun q => tx_rd b n D (lev + 1) o q) lev (if lev = 2 then 1 else 160) r.1 r.2.1 r.2.2) σ σ'
          by_cases c2 : lev = 2
          · rw [if_pos c2, if_pos c2]
            exact k_lp hN (m := 1) (prd := fun q => tx_rd b n D (lev + 1) o q) (by omega) (by omega) (fun p hp => tx_rd_go b n D (lev + 1) o p hp) hrd 1 0 N r.1 r.2.1 r.2.2 σ1 rfl (by omega) h4.2 (by omega) k1'
          · rw [if_neg c2, if_neg c2]
            exact k_lp hN (m := 160) (prd := fun q => tx_rd b n D (lev + 1) o q) (by omega) (by omega) (fun p hp => tx_rd_go b n D (lev + 1) o p hp) hrd 160 0 N r.1 r.2.1 r.2.2 σ1 rfl (by omega) h4.2 (by omega) k1'
