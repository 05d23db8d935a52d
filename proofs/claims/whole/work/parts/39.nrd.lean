/-! THE TEXTS: the model's reader does as the pure one -/
def n_G (b : Nat → Nat) (n x p o : Nat) (σ : am_S) : Prop := n_S b n x σ ∧ n_T b n p σ ∧ fF σ 36 28 = nI o ∧ fF σ 36 29 = 0
def n_F (f : Nat) (σ : am_S) : Prop := fF σ 36 29 = 1 ∧ fF σ 36 30 = nI f
/-- what the names mean to the model -/
def n_E (σ : am_S) : tx_E := fun c => match c with
  | 0 => fF σ 36 31
  | 1 => fF σ 36 12
  | 2 => fF σ 36 13
  | 3 => fF σ 36 32
  | 4 => fF σ 36 33
  | 5 => fF σ 36 34
  | _ => 0
theorem n_E.mv {σ σ' : am_S} (g : q_Ag n_s1 σ σ') : n_E σ' = n_E σ := by
  have h : ∀ k, k = 31 ∨ k = 12 ∨ k = 13 ∨ k = 32 ∨ k = 33 ∨ k = 34 → fF σ' 36 k = fF σ 36 k := fun k hk => (g.2 36 k (by unfold n_s1; omega)).1
  funext c
  match c with
  | 0 => exact h 31 (by omega)
  | 1 => exact h 12 (by omega)
  | 2 => exact h 13 (by omega)
  | 3 => exact h 32 (by omega)
  | 4 => exact h 33 (by omega)
  | 5 => exact h 34 (by omega)
  | _ + 6 => rfl
def n_Out (b : Nat → Nat) (n x o : Nat) (z : tx_Z) (e : tx_E) (v : Int32) (σ' : am_S) : Prop := match z with
  | .inl f => n_F f σ'
  | .inr r => v = r.2.1 e ∧ n_G b n x r.1 o σ'
theorem n_tk {a k : Nat} (h : a = 36 ∧ (k = 24 ∨ k = 25 ∨ k = 27)) : n_s1 a k := ⟨h.1, by omega⟩
theorem n_nxG {N : Nat} (hN : 200 ≤ N) {b : Nat → Nat} {n x p o o' : Nat} {σ : am_S} (h : n_G b n x p o σ) (hc : tx_c b n p ≠ 13) (hc2 : tx_c b n p ≠ 14) : ∃ σ', f12_next N (sF σ 36 28 (nI o')) = some σ' ∧ q_Ag n_s1 σ σ' ∧ n_G b n x (tx_n b n p) o' σ' := by
  have g : q_Ag n_s1 σ (sF σ 36 28 (nI o')) := (q_Ag.rf σ).sF ⟨rfl, by omega⟩
  obtain ⟨σ', e, g2, hT⟩ := n_next hN (p := tx_n b n p) (h.1.mv g) ((q_FFk (by decide)).trans (h.2.1.2.1 hc2)) (tx_n_gt hc).2.2
  have g3 := g2.wk (T := n_s1) (fun a k => n_tk)
  refine ⟨σ', e, g.tr g3, h.1.mv (g.tr g3), hT, ?_, ?_⟩
  · rw [(g2.2 36 28 (by omega)).1, q_FFe]
  · rw [(g2.2 36 29 (by omega)).1, q_FFk (by decide)]; exact h.2.2.2
theorem q_self {σ : am_S} {a k : Nat} {v : Int32} (h : fF σ a k = v) : sF σ a k v = σ := by
  obtain ⟨s1, s2, s3⟩ := σ
  show (s1, am_up s2 a k v, s3) = (s1, s2, s3)
  congr 2
  funext c
  unfold am_up
  by_cases h1 : c = a
  · rw [if_pos h1]
    funext j
    by_cases h2 : j = k
    · rw [if_pos h2, h1, h2]; exact h.symm
    · rw [if_neg h2, h1]
  · rw [if_neg h1]
theorem n_nx {N : Nat} (hN : 200 ≤ N) {b : Nat → Nat} {n x p o : Nat} {σ : am_S} (h : n_G b n x p o σ) (hc : tx_c b n p ≠ 13) (hc2 : tx_c b n p ≠ 14) : ∃ σ', f12_next N σ = some σ' ∧ q_Ag n_s1 σ σ' ∧ n_G b n x (tx_n b n p) o σ' := by
  have := n_nxG hN (o' := o) h hc hc2
  rw [q_self h.2.2.1] at this
  exact this
theorem n_isw {b : Nat → Nat} {n x p o u : Nat} {σ : am_S} {w : Int64} (h : n_G b n x p o σ) (hu : u < 12) (hw : w = lN (tx_H u)) : f12_isWord σ w = some (decide (tx_c b n p = u)) := by
  unfold f12_isWord
  have e : (lg_cmp (fG σ 36 26) w = 0) = (fG σ 36 26 = lN (tx_H u)) := propext (by rw [l_cm.2.2.1, hw])
  rw [if_pos h.2.2.2]
  simp only [e]
  have key := h.2.1.2.2.1 u hu
  by_cases c1 : fF σ 36 24 = 1
  · rw [if_pos c1]
    by_cases c2 : fG σ 36 26 = lN (tx_H u)
    · rw [if_pos c2, decide_eq_true (key.mp ⟨c1, c2⟩)]
    · rw [if_neg c2, decide_eq_false (fun y => c2 (key.mpr y).2)]
  · rw [if_neg c1, decide_eq_false (fun y => c1 (key.mpr y).1)]
theorem n_iss {b : Nat → Nat} {n x p o s : Nat} {σ : am_S} (h : n_G b n x p o σ) (hs : tx_sg s = true) : f12_isSign σ (nI s) = some (decide (tx_c b n p = s)) := by
  unfold f12_isSign
  have hr := tx_sg_r hs
  have e : (lg_cmp (fG σ 36 26) (nI s).toInt64 = 0) = (fG σ 36 26 = lN s) := propext (by rw [l_cm.2.2.1, nI_l (by omega)])
  rw [if_pos h.2.2.2]
  simp only [e]
  have key := h.2.1.2.2.2.1 s hs
  by_cases c1 : fF σ 36 24 = 3
  · rw [if_pos c1]
    by_cases c2 : fG σ 36 26 = lN s
    · rw [if_pos c2, decide_eq_true (key.mp ⟨c1, c2⟩)]
    · rw [if_neg c2, decide_eq_false (fun y => c2 (key.mpr y).2)]
  · rw [if_neg c1, decide_eq_false (fun y => c1 (key.mpr y).1)]
theorem n_iswF {f : Nat} {σ : am_S} {w : Int64} (h : n_F f σ) : f12_isWord σ w = some false := by
  unfold f12_isWord
  rw [if_neg (by rw [h.1]; decide)]
theorem n_issF {f : Nat} {σ : am_S} {s : Int32} (h : n_F f σ) : f12_isSign σ s = some false := by
  unfold f12_isSign
  rw [if_neg (by rw [h.1]; decide)]
theorem n_failF {f : Nat} {σ : am_S} (h : n_F f σ) : f12_fail σ = some σ := by
  unfold f12_fail
  rw [if_neg (by rw [h.1]; decide)]
theorem n_failG {b : Nat → Nat} {n x p o : Nat} {σ : am_S} (h : n_G b n x p o σ) : ∃ σ', f12_fail σ = some σ' ∧ n_F (tx_f b n p) σ' ∧ q_Ag n_s1 σ σ' := by
  refine ⟨_, by unfold f12_fail; rw [if_pos h.2.2.2], ⟨?_, ?_⟩, ((q_Ag.rf σ).sF ⟨rfl, by omega⟩).sF ⟨rfl, by omega⟩⟩
  · rw [q_FFk (by decide), q_FFe]
  · rw [q_FFe, q_FFk (by decide), h.2.1.1]
-- the numbers as they stand
theorem n_Hs : (4350799 : Int64) = lN (tx_H 0) ∧ (400334 : Int64) = lN (tx_H 1) ∧ (453959 : Int64) = lN (tx_H 2) ∧ (923 : Int64) = lN (tx_H 3) ∧ (168984 : Int64) = lN (tx_H 4) ∧ (11055682 : Int64) = lN (tx_H 5) ∧ (247162 : Int64) = lN (tx_H 6) ∧ (8863997 : Int64) = lN (tx_H 7) ∧ (409469 : Int64) = lN (tx_H 8) ∧ (423 : Int64) = lN (tx_H 9) ∧ (1111 : Int64) = lN (tx_H 10) ∧ (10631 : Int64) = lN (tx_H 11) := by decide +kernel
theorem n_name {b : Nat → Nat} {n x p o : Nat} {σ : am_S} (h : n_G b n x p o σ) : (tx_c b n p < 6 → f12_name σ = some (n_E σ (tx_c b n p), σ)) ∧ (6 ≤ tx_c b n p → f12_name σ = (f12_fail σ).bind fun s => some (0, s)) := by
  obtain ⟨h0, h1, h2, h3, h4, h5, -⟩ := n_Hs
  unfold f12_name
  rw [n_isw h (u := 0) (by decide) h0, n_isw h (u := 1) (by decide) h1, n_isw h (u := 2) (by decide) h2, n_isw h (u := 3) (by decide) h3, n_isw h (u := 4) (by decide) h4, n_isw h (u := 5) (by decide) h5]
  simp only [Option.bind_some, decide_eq_true_eq]
  refine ⟨fun hc => ?_, fun hc => ?_⟩
  · have hv : tx_c b n p = 0 ∨ tx_c b n p = 1 ∨ tx_c b n p = 2 ∨ tx_c b n p = 3 ∨ tx_c b n p = 4 ∨ tx_c b n p = 5 := by omega
    rcases hv with e | e | e | e | e | e <;> rw [e]
    · rw [if_pos rfl]; rfl
    · rw [if_neg (by decide), if_pos rfl]; rfl
    · rw [if_neg (by decide), if_neg (by decide), if_pos rfl]; rfl
    · rw [if_neg (by decide), if_neg (by decide), if_neg (by decide), if_pos rfl]; rfl
    · rw [if_neg (by decide), if_neg (by decide), if_neg (by decide), if_neg (by decide), if_pos rfl]; rfl
    · rw [if_neg (by decide), if_neg (by decide), if_neg (by decide), if_neg (by decide), if_neg (by decide), if_pos rfl]; rfl
  · rw [if_neg (by omega), if_neg (by omega), if_neg (by omega), if_neg (by omega), if_neg (by omega), if_neg (by omega)]
-- a reader of a level, and its loop
def n_Rd (b : Nat → Nat) (n x o : Nat) (r : am_S → Option (Int32 × am_S)) (z : Nat → tx_Z) : Prop := ∀ p σ, p ≤ n → n_G b n x p o σ → ∃ v σ', r σ = some (v, σ') ∧ q_Ag n_s1 σ σ' ∧ n_Out b n x o (z p) (n_E σ) v σ'
def n_Lp (N : Nat) (b : Nat → Nat) (n x o lev : Nat) (r : am_S → Option (Int32 × am_S)) (Lp : Nat → Int32 → am_S → Option (Int32 × am_S)) : Prop :=
  (∀ n' v σ f, n_F f σ → Lp (n' + 1) v σ = some (v, σ)) ∧
  (∀ n' v σ p, n_G b n x p o σ → tx_jo lev (tx_c b n p) = false → Lp (n' + 1) v σ = some (v, σ)) ∧
  ∀ n' v σ p, n_G b n x p o σ → tx_jo lev (tx_c b n p) = true → Lp (n' + 1) v σ = (f12_next N σ).bind fun s => (r s).bind fun q => Lp n' (tx_op (tx_c b n p) v q.1) q.2
theorem n_lp {N : Nat} (hN : 200 ≤ N) {b : Nat → Nat} {n x o lev : Nat} {r : am_S → Option (Int32 × am_S)} {Lp : Nat → Int32 → am_S → Option (Int32 × am_S)} {prd : Nat → tx_Z} (hL : n_Lp N b n x o lev r Lp) (hr : n_Rd b n x o r prd) (hgo : ∀ p, p ≤ n → tx_Go n p (prd p)) :
    ∀ (f p n' : Nat) (V : tx_E → Int32) (L : List Int32) (σ : am_S), n - p ≤ f → f < n' → p ≤ n → n_G b n x p o σ → ∃ v σ', Lp n' (V (n_E σ)) σ = some (v, σ') ∧ q_Ag n_s1 σ σ' ∧ n_Out b n x o (tx_lp b n prd lev f p V L) (n_E σ) v σ' := by
  intro f
  induction f with
  | zero =>
    intro p n' V L σ hf hn hp h
    obtain ⟨n', rfl⟩ : ∃ m, n' = m + 1 := ⟨n' - 1, by omega⟩
    have hc : tx_c b n p = 13 := by
      by_cases c : tx_c b n p = 13
      · exact c
      · have := tx_n_gt c
        have := tx_f_ge b n p
        omega
    exact ⟨_, σ, hL.2.1 n' _ σ p h (by rw [hc]; simp [tx_jo]), q_Ag.rf σ, rfl, h⟩
  | succ f ih =>
    intro p n' V L σ hf hn hp h
    obtain ⟨n', rfl⟩ : ∃ m, n' = m + 1 := ⟨n' - 1, by omega⟩
    unfold tx_lp
    by_cases hj : tx_jo lev (tx_c b n p) = true
    · rw [if_pos hj, hL.2.2 n' _ σ p h hj]
      have hc13 : tx_c b n p ≠ 13 := fun y => by rw [y] at hj; simp [tx_jo] at hj
      have hc14 : tx_c b n p ≠ 14 := fun y => by rw [y] at hj; simp [tx_jo] at hj
      have h2 := tx_n_gt hc13
      have h3 := tx_f_ge b n p
      obtain ⟨σ1, e1, g1, G1⟩ := n_nx hN h hc13 hc14
      rw [e1, Option.bind_some]
      obtain ⟨v, σ2, e2, g2, o2⟩ := hr (tx_n b n p) σ1 h2.2.2 G1
      rw [e2, Option.bind_some]
      cases hz : prd (tx_n b n p) with
      | inl y =>
        rw [hz] at o2
        have o2' : n_F y σ2 := o2
        obtain ⟨n', rfl⟩ : ∃ m, n' = m + 1 := ⟨n' - 1, by omega⟩
        exact ⟨_, σ2, hL.1 n' _ σ2 y o2', g1.tr g2, o2'⟩
      | inr q =>
        rw [hz] at o2
        obtain ⟨o3, G2⟩ := (o2 : v = q.2.1 (n_E σ1) ∧ n_G b n x q.1 o σ2)
        have h4 := hgo (tx_n b n p) h2.2.2 q hz
        obtain ⟨v3, σ3, e3, g3, o3'⟩ := ih q.1 n' (fun e => tx_op (tx_c b n p) (V e) (q.2.1 e)) (L ++ (q.2.2 ++ [nI (10000 + tx_c b n p)])) σ2 (by omega) (by omega) h4.2 G2
        have ee : n_E σ2 = n_E σ := (n_E.mv g2).trans (n_E.mv g1)
        rw [ee] at e3 o3'
        refine ⟨v3, σ3, ?_, g1.tr (g2.tr g3), o3'⟩
        show Lp n' (tx_op (tx_c b n p) (V (n_E σ)) v) σ2 = _
        rw [o3, n_E.mv g1]
        exact e3
    · rw [if_neg hj]
      exact ⟨_, σ, hL.2.1 n' _ σ p h (by simpa using hj), q_Ag.rf σ, rfl, h⟩
theorem tx_op0 (x y : Int32) : tx_op 9 x y = (if x = 0 then (if y = 0 then 0 else 1) else 1) := rfl
theorem n_l0 {N : Nat} {b : Nat → Nat} {n x o : Nat} {r : am_S → Option (Int32 × am_S)} : n_Lp N b n x o 0 r (f12_either_L5 N r) := by
  obtain ⟨-, -, -, -, -, -, -, -, -, h9, -⟩ := n_Hs
  refine ⟨fun n' v σ f h => ?_, fun n' v σ p h hj => ?_, fun n' v σ p h hj => ?_⟩
  · conv => lhs; unfold f12_either_L5
    rw [n_iswF h, Option.bind_some, if_neg (by decide)]
  · have hc : tx_c b n p ≠ 9 := fun y => by rw [y] at hj; exact absurd hj (by decide)
    conv => lhs; unfold f12_either_L5
    rw [n_isw h (u := 9) (by decide) h9, Option.bind_some, if_neg (by rw [decide_eq_true_eq]; exact hc)]
  · have hc : tx_c b n p = 9 := by simpa [tx_jo] using hj
    conv => lhs; unfold f12_either_L5
    rw [n_isw h (u := 9) (by decide) h9, Option.bind_some, if_pos (decide_eq_true hc), hc]
    congr 1
    funext s
    congr 1
    funext q
    obtain ⟨q1, q2⟩ := q
    show (if v = 0 then (if q1 = 0 then _ else _) else _) = f12_either_L5 N r n' (if v = 0 then (if q1 = 0 then 0 else 1) else 1) q2
    by_cases c1 : v = 0
    · rw [if_pos c1, if_pos c1]
      by_cases c2 : q1 = 0
      · rw [if_pos c2, if_pos c2]
      · rw [if_neg c2, if_neg c2]
    · rw [if_neg c1, if_neg c1]
theorem n_l1 {N : Nat} {b : Nat → Nat} {n x o : Nat} {r : am_S → Option (Int32 × am_S)} : n_Lp N b n x o 1 r (f12_both_L5 N r) := by
  obtain ⟨-, -, -, -, -, -, -, -, -, -, h10, -⟩ := n_Hs
  refine ⟨fun n' v σ f h => ?_, fun n' v σ p h hj => ?_, fun n' v σ p h hj => ?_⟩
  · conv => lhs; unfold f12_both_L5
    rw [n_iswF h, Option.bind_some, if_neg (by decide)]
  · have hc : tx_c b n p ≠ 10 := fun y => by rw [y] at hj; exact absurd hj (by decide)
    conv => lhs; unfold f12_both_L5
    rw [n_isw h (u := 10) (by decide) h10, Option.bind_some, if_neg (by rw [decide_eq_true_eq]; exact hc)]
  · have hc : tx_c b n p = 10 := by simpa [tx_jo] using hj
    conv => lhs; unfold f12_both_L5
    rw [n_isw h (u := 10) (by decide) h10, Option.bind_some, if_pos (decide_eq_true hc), hc]
    congr 1
    funext s
    congr 1
    funext q
    obtain ⟨q1, q2⟩ := q
    show (if v = 0 then _ else (if q1 = 0 then _ else _)) = f12_both_L5 N r n' (if v = 0 then 0 else if q1 = 0 then 0 else 1) q2
    by_cases c1 : v = 0
    · rw [if_pos c1, if_pos c1]
    · rw [if_neg c1, if_neg c1]
      by_cases c2 : q1 = 0
      · rw [if_pos c2, if_pos c2]
      · rw [if_neg c2, if_neg c2]
theorem n_l3 {N : Nat} {b : Nat → Nat} {n x o : Nat} {r : am_S → Option (Int32 × am_S)} : n_Lp N b n x o 3 r (f12_added_L5 N r) := by
  have s43 : tx_sg 43 = true := rfl
  have s45 : tx_sg 45 = true := rfl
  refine ⟨fun n' v σ f h => ?_, fun n' v σ p h hj => ?_, fun n' v σ p h hj => ?_⟩
  · conv => lhs; unfold f12_added_L5
    rw [n_issF h, Option.bind_some, if_neg (by decide), n_issF h, Option.bind_some, if_neg (by decide)]
  · have hc : tx_c b n p ≠ 43 ∧ tx_c b n p ≠ 45 := ⟨fun y => by rw [y] at hj; exact absurd hj (by decide), fun y => by rw [y] at hj; exact absurd hj (by decide)⟩
    conv => lhs; unfold f12_added_L5
    rw [show (43 : Int32) = nI 43 from rfl, n_iss h s43, Option.bind_some, if_neg (by rw [decide_eq_true_eq]; exact hc.1), show (45 : Int32) = nI 45 from rfl, n_iss h s45, Option.bind_some, if_neg (by rw [decide_eq_true_eq]; exact hc.2)]
  · have hc : tx_c b n p = 43 ∨ tx_c b n p = 45 := by simpa [tx_jo] using hj
    have hJ : f12_added_J23 (f12_added_L5 N r n') N r v σ = (f12_next N σ).bind fun s => (r s).bind fun q => f12_added_L5 N r n' (tx_op (tx_c b n p) v q.1) q.2 := by
      unfold f12_added_J23
      have e : (lg_cmp (fG σ 36 26) 43 = 0) = (fG σ 36 26 = lN 43) := propext l_cm.2.2.1
      simp only [e]
      rcases hc with hc | hc
      · rw [if_pos ((h.2.1.2.2.2.1 43 s43).mpr hc).2, hc]
        rfl
      · have h45 := ((h.2.1.2.2.2.1 45 s45).mpr hc).2
        rw [if_neg (by rw [h45]; decide), hc]
        rfl
    conv => lhs; unfold f12_added_L5
    rw [show (43 : Int32) = nI 43 from rfl, n_iss h s43, Option.bind_some, show (45 : Int32) = nI 45 from rfl, n_iss h s45, Option.bind_some, hJ]
    rcases hc with hc | hc
    · rw [if_pos (decide_eq_true hc)]
    · rw [if_neg (by rw [decide_eq_true_eq]; omega), if_pos (decide_eq_true hc)]
theorem n_l4 {N : Nat} {b : Nat → Nat} {n x o : Nat} {r : am_S → Option (Int32 × am_S)} : n_Lp N b n x o 4 r (f12_term_L5 N r) := by
  have s42 : tx_sg 42 = true := rfl
  refine ⟨fun n' v σ f h => ?_, fun n' v σ p h hj => ?_, fun n' v σ p h hj => ?_⟩
  · conv => lhs; unfold f12_term_L5
    rw [n_issF h, Option.bind_some, if_neg (by decide)]
  · have hc : tx_c b n p ≠ 42 := fun y => by rw [y] at hj; exact absurd hj (by decide)
    conv => lhs; unfold f12_term_L5
    rw [show (42 : Int32) = nI 42 from rfl, n_iss h s42, Option.bind_some, if_neg (by rw [decide_eq_true_eq]; exact hc)]
  · have hc : tx_c b n p = 42 := by simpa [tx_jo] using hj
    conv => lhs; unfold f12_term_L5
    rw [show (42 : Int32) = nI 42 from rfl, n_iss h s42, Option.bind_some, if_pos (decide_eq_true hc), hc]
    rfl
def n_g (N M lev : Nat) : am_S → Option (Int32 × am_S) := match lev with
  | 0 => (gM N M).2.2.1
  | 1 => (gM N M).2.1
  | 2 => (gM N M).2.2.2.1
  | 3 => (gM N M).1
  | 4 => (gM N M).2.2.2.2.2
  | _ => (gM N M).2.2.2.2.1
-- what opens
theorem n_opn {N : Nat} (hN : 200 ≤ N) {b : Nat → Nat} {n x p o : Nat} {σ : am_S} (h : n_G b n x p o σ) (ho : o ≤ 5) (hc : tx_c b n p ≠ 13) (hc2 : tx_c b n p ≠ 14) : (5 ≤ o → ∃ σ', f12_opens N σ = some (false, σ') ∧ q_Ag n_s1 σ σ' ∧ n_F (tx_f b n p) σ') ∧ (o < 5 → ∃ σ', f12_opens N σ = some (true, σ') ∧ q_Ag n_s1 σ σ' ∧ n_G b n x (tx_n b n p) (o + 1) σ') := by
  unfold f12_opens
  rw [h.2.2.1]
  refine ⟨fun c => ?_, fun c => ?_⟩
  · rw [if_pos (show nI o = (5 : Int32) by rw [show o = 5 by omega]; rfl)]
    obtain ⟨σ', e, F, g⟩ := n_failG h
    exact ⟨σ', by rw [e]; rfl, g, F⟩
  · rw [if_neg (fun y => by have := q_nI (b := 5) (by omega) (by omega) y; omega), nI_1]
    obtain ⟨σ', e, g, G⟩ := n_nxG hN (o' := o + 1) h hc hc2
    exact ⟨σ', by rw [e]; rfl, g, G⟩
theorem n_cls {b : Nat → Nat} {n x p o : Nat} {σ : am_S} (h : n_G b n x p (o + 1) σ) : q_Ag n_s1 σ (sF σ 36 28 ((fF σ 36 28) - 1)) ∧ n_G b n x p o (sF σ 36 28 ((fF σ 36 28) - 1)) := by
  have g : q_Ag n_s1 σ (sF σ 36 28 ((fF σ 36 28) - 1)) := (q_Ag.rf σ).sF ⟨rfl, by omega⟩
  refine ⟨g, h.1.mv g, h.2.1, ?_, h.2.2.2⟩
  rw [q_FFe, h.2.2.1, nI_pred]
theorem n_clF {f : Nat} {σ : am_S} {v : Int32} (h : n_F f σ) : q_Ag n_s1 σ (sF σ 36 28 v) ∧ n_F f (sF σ 36 28 v) := ⟨(q_Ag.rf σ).sF ⟨rfl, by omega⟩, h⟩
theorem n_rd {N : Nat} (hN : 200 ≤ N) {b : Nat → Nat} {n x : Nat} (hn160 : n ≤ 160) : ∀ (D M lev o : Nat), lev ≤ 5 → o ≤ 5 → 6 * (6 - o) - lev ≤ D → 6 * (6 - o) - lev ≤ M → n_Rd b n x o (n_g N M lev) (fun p => tx_rd b n D lev o p) := by
  intro D
  induction D with
  | zero => intro M lev o hl ho hD; omega
  | succ D ih =>
    intro M lev o hl ho hD hM p σ hp h
    obtain ⟨M, rfl⟩ : ∃ m, M = m + 1 := ⟨M - 1, by omega⟩
    obtain ⟨-, -, -, -, -, -, -, -, -, -, -, h11⟩ := n_Hs
    -- the loops of the levels 0, 1, 3, 4
    have joined : ∀ (Lp : (am_S → Option (Int32 × am_S)) → Nat → Int32 → am_S → Option (Int32 × am_S)), lev ≠ 2 → lev ≠ 5 → n_Lp N b n x o lev (n_g N M (lev + 1)) (Lp (n_g N M (lev + 1))) → n_g N (M + 1) lev σ = ((n_g N M (lev + 1)) σ).bind (fun q => Lp (n_g N M (lev + 1)) N q.1 q.2) → ∃ v σ', n_g N (M + 1) lev σ = some (v, σ') ∧ q_Ag n_s1 σ σ' ∧ n_Out b n x o (tx_rd b n (D + 1) lev o p) (n_E σ) v σ' := by
      intro Lp hl2 hl5 hLp he
      obtain ⟨v1, σ1, e1, g1, o1⟩ := ih M (lev + 1) o (by omega) ho (by omega) (by omega) p σ hp h
      rw [he, e1, Option.bind_some]
      have hs : ¬ tx_sp lev (tx_c b n p) = true := by simp [tx_sp, hl2, hl5]
      unfold tx_rd
      rw [if_neg hs, if_neg hl5]
      unfold tx_jn
      dsimp only
      cases hz : tx_rd b n D (lev + 1) o p with
      | inl y =>
        have o1' : n_F y σ1 := by have := o1; rw [show (fun p => tx_rd b n D (lev + 1) o p) p = tx_rd b n D (lev + 1) o p from rfl, hz] at this; exact this
        obtain ⟨N', rfl⟩ : ∃ m, N = m + 1 := ⟨N - 1, by omega⟩
        exact ⟨_, σ1, hLp.1 N' _ σ1 y o1', g1, o1'⟩
      | inr q =>
        have o1' : v1 = q.2.1 (n_E σ) ∧ n_G b n x q.1 o σ1 := by have := o1; rw [show (fun p => tx_rd b n D (lev + 1) o p) p = tx_rd b n D (lev + 1) o p from rfl, hz] at this; exact this
        have h4 := tx_rd_go b n D (lev + 1) o p hp q hz
        obtain ⟨v2, σ2, e2, g2, o2⟩ := n_lp hN hLp (ih M (lev + 1) o (by omega) ho (by omega) (by omega)) (fun p hp => tx_rd_go b n D (lev + 1) o p hp) 160 q.1 N q.2.1 q.2.2 σ1 (by omega) (by omega) h4.2 o1'.2
        rw [n_E.mv g1] at e2 o2
        refine ⟨v2, σ2, ?_, g1.tr g2, ?_⟩
        · rw [o1'.1]; exact e2
        · show n_Out b n x o (tx_lp b n (fun q => tx_rd b n D (lev + 1) o q) lev (if lev = 2 then 1 else 160) q.1 q.2.1 q.2.2) (n_E σ) v2 σ2
          rw [if_neg hl2]
          exact o2
    have hlev : lev = 0 ∨ lev = 1 ∨ lev = 2 ∨ lev = 3 ∨ lev = 4 ∨ lev = 5 := by omega
    rcases hlev with rfl | rfl | rfl | rfl | rfl | rfl
    · exact joined (fun r => f12_either_L5 N r) (by decide) (by decide) n_l0 rfl
    · exact joined (fun r => f12_both_L5 N r) (by decide) (by decide) n_l1 rfl
    · -- not
      show ∃ v σ', f12_not_r N (n_g N M 3) (n_g N M 2) σ = some (v, σ') ∧ q_Ag n_s1 σ σ' ∧ n_Out b n x o (tx_rd b n (D + 1) 2 o p) (n_E σ) v σ'
      unfold f12_not_r tx_rd
      rw [n_isw h (u := 11) (by decide) h11, Option.bind_some]
      by_cases c1 : tx_c b n p = 11
      · rw [if_pos (decide_eq_true c1), if_pos (by rw [c1]; rfl)]
        have hop := n_opn hN h ho (by omega) (by omega)
        have h2 := tx_n_gt (b := b) (n := n) (p := p) (by omega)
        unfold tx_og
        by_cases c5 : 5 ≤ o
        · obtain ⟨σ1, e1, g1, F1⟩ := hop.1 c5
          rw [e1, Option.bind_some, if_pos c5]
          exact ⟨0, σ1, rfl, g1, F1⟩
        · obtain ⟨σ1, e1, g1, G1⟩ := hop.2 (by omega)
          rw [e1, Option.bind_some, if_neg c5, if_pos c1]
          dsimp only
          rw [if_pos rfl]
          obtain ⟨v2, σ2, e2, g2, o2⟩ := ih M 2 (o + 1) (by omega) (by omega) (by omega) (by omega) (tx_n b n p) σ1 h2.2.2 G1
          rw [e2, Option.bind_some]
          dsimp only at o2 ⊢
          cases hz : tx_rd b n D 2 (o + 1) (tx_n b n p) with
          | inl y =>
            rw [hz] at o2
            have o2' : n_F y σ2 := o2
            by_cases c6 : v2 = 0
            · rw [if_pos c6]; exact ⟨_, _, rfl, g1.tr (g2.tr (n_clF o2').1), (n_clF o2').2⟩
            · rw [if_neg c6]; exact ⟨_, _, rfl, g1.tr (g2.tr (n_clF o2').1), (n_clF o2').2⟩
          | inr q =>
            rw [hz] at o2
            obtain ⟨o3, G2⟩ := (o2 : v2 = q.2.1 (n_E σ1) ∧ n_G b n x q.1 (o + 1) σ2)
            rw [n_E.mv g1] at o3
            have cl := n_cls G2
            by_cases c6 : v2 = 0
            · rw [if_pos c6]
              exact ⟨_, _, rfl, g1.tr (g2.tr cl.1), by show (1 : Int32) = if q.2.1 (n_E σ) = 0 then 1 else 0; rw [← o3, if_pos c6], cl.2⟩
            · rw [if_neg c6]
              exact ⟨_, _, rfl, g1.tr (g2.tr cl.1), by show (0 : Int32) = if q.2.1 (n_E σ) = 0 then 1 else 0; rw [← o3, if_neg c6], cl.2⟩
      · rw [if_neg (by rw [decide_eq_true_eq]; exact c1), if_neg (by simp [tx_sp, c1]), if_neg (by decide)]
        obtain ⟨v1, σ1, e1, g1, o1⟩ := ih M 3 o (by omega) ho (by omega) (by omega) p σ hp h
        rw [e1, Option.bind_some]
        dsimp only at o1 ⊢
        unfold tx_jn
        dsimp only
        cases hz : tx_rd b n D (2 + 1) o p with
        | inl y =>
          rw [show 2 + 1 = 3 from rfl] at hz
          rw [hz] at o1
          have o1' : n_F y σ1 := o1
          rw [n_issF o1', Option.bind_some, if_neg (by decide), n_issF o1', Option.bind_some, if_neg (by decide)]
          exact ⟨v1, σ1, rfl, g1, o1'⟩
        | inr q =>
          rw [show 2 + 1 = 3 from rfl] at hz
          rw [hz] at o1
          obtain ⟨o3, G1⟩ := (o1 : v1 = q.2.1 (n_E σ) ∧ n_G b n x q.1 o σ1)
          have h4 := tx_rd_go b n D 3 o p hp q hz
          have s60 : tx_sg 60 = true := rfl
          have s61 : tx_sg 61 = true := rfl
          rw [show (60 : Int32) = nI 60 from rfl, n_iss G1 s60, Option.bind_some, show (61 : Int32) = nI 61 from rfl, n_iss G1 s61, Option.bind_some]
          simp only [if_true]
          unfold tx_lp
          by_cases hj : tx_c b n q.1 = 60 ∨ tx_c b n q.1 = 61
          · have hj' : tx_jo 2 (tx_c b n q.1) = true := by simp [tx_jo]; exact hj
            have h2 := tx_n_gt (b := b) (n := n) (p := q.1) (by omega)
            obtain ⟨σ2, e2, g2, G2⟩ := n_nx hN G1 (by omega) (by omega)
            obtain ⟨v3, σ3, e3, g3, o4⟩ := ih M 3 o (by omega) ho (by omega) (by omega) (tx_n b n q.1) σ2 h2.2.2 G2
            have eE : n_E σ2 = n_E σ := (n_E.mv g2).trans (n_E.mv g1)
            rw [if_pos hj']
            have hJ : ∃ w : Int32, f12_not_J69 N (n_g N M 3) (n_g N M 2) v1 σ1 = some (w, σ3) ∧ w = tx_op (tx_c b n q.1) v1 v3 := by
              unfold f12_not_J69
              have e : (lg_cmp (fG σ1 36 26) 60 = 0) = (fG σ1 36 26 = lN 60) := propext l_cm.2.2.1
              simp only [e, e2, Option.bind_some]
              rw [e3]
              simp only [Option.bind_some]
              rcases hj with hc | hc
              · rw [if_pos ((G1.2.1.2.2.2.1 60 s60).mpr hc).2, hc]
                by_cases c6 : v3 ≤ v1
                · rw [if_pos c6]; exact ⟨_, rfl, by show (0 : Int32) = if v3 ≤ v1 then 0 else 1; rw [if_pos c6]⟩
                · rw [if_neg c6]; exact ⟨_, rfl, by show (1 : Int32) = if v3 ≤ v1 then 0 else 1; rw [if_neg c6]⟩
              · have h61 := ((G1.2.1.2.2.2.1 61 s61).mpr hc).2
                rw [if_neg (by rw [h61]; decide), hc]
                by_cases c6 : v1 = v3
                · rw [if_pos c6]; exact ⟨_, rfl, by show (1 : Int32) = if v1 = v3 then 1 else 0; rw [if_pos c6]⟩
                · rw [if_neg c6]; exact ⟨_, rfl, by show (0 : Int32) = if v1 = v3 then 1 else 0; rw [if_neg c6]⟩
            obtain ⟨w, hJ1, hJ2⟩ := hJ
            have hif : (if decide (tx_c b n q.1 = 60) = true then f12_not_J69 N (n_g N M 3) (n_g N M 2) v1 σ1 else (if decide (tx_c b n q.1 = 61) = true then f12_not_J69 N (n_g N M 3) (n_g N M 2) v1 σ1 else some (v1, σ1))) = some (w, σ3) := by
              rcases hj with hc | hc
              · rw [if_pos (decide_eq_true hc), hJ1]
              · rw [if_neg (by rw [decide_eq_true_eq]; omega), if_pos (decide_eq_true hc), hJ1]
            refine ⟨w, σ3, hif, g1.tr (g2.tr g3), ?_⟩
            dsimp only at o4
            cases hz2 : tx_rd b n D (2 + 1) o (tx_n b n q.1) with
            | inl y =>
              rw [show 2 + 1 = 3 from rfl] at hz2
              rw [hz2] at o4
              exact o4
            | inr q2 =>
              rw [show 2 + 1 = 3 from rfl] at hz2
              rw [hz2] at o4
              obtain ⟨o5, G3⟩ := (o4 : v3 = q2.2.1 (n_E σ2) ∧ n_G b n x q2.1 o σ3)
              rw [eE] at o5
              show w = tx_op (tx_c b n q.1) (q.2.1 (n_E σ)) (q2.2.1 (n_E σ)) ∧ n_G b n x q2.1 o σ3
              rw [← o3, ← o5]
              exact ⟨hJ2, G3⟩
          · have hj' : ¬ tx_jo 2 (tx_c b n q.1) = true := by simp [tx_jo]; omega
            rw [if_neg (by rw [decide_eq_true_eq]; omega), if_neg (by rw [decide_eq_true_eq]; omega), if_neg hj']
            exact ⟨v1, σ1, rfl, g1, o3, G1⟩
    · exact joined (fun r => f12_added_L5 N r) (by decide) (by decide) n_l3 rfl
    · exact joined (fun r => f12_term_L5 N r) (by decide) (by decide) n_l4 rfl
    · -- one
      show ∃ v σ', f12_one_r N (n_g N M 0) (n_g N M 5) σ = some (v, σ') ∧ q_Ag n_s1 σ σ' ∧ n_Out b n x o (tx_rd b n (D + 1) 5 o p) (n_E σ) v σ'
      have s45 : tx_sg 45 = true := rfl
      have s40 : tx_sg 40 = true := rfl
      have s41 : tx_sg 41 = true := rfl
      unfold f12_one_r tx_rd
      rw [show (45 : Int32) = nI 45 from rfl, n_iss h s45, Option.bind_some, show (40 : Int32) = nI 40 from rfl, n_iss h s40, Option.bind_some]
      by_cases c1 : tx_c b n p = 45
      · rw [if_pos (decide_eq_true c1), if_pos (by rw [c1]; rfl)]
        have hop := n_opn hN h ho (by omega) (by omega)
        have h2 := tx_n_gt (b := b) (n := n) (p := p) (by omega)
        unfold tx_og
        by_cases c5 : 5 ≤ o
        · obtain ⟨σ1, e1, g1, F1⟩ := hop.1 c5
          rw [e1, Option.bind_some, if_pos c5]
          exact ⟨0, σ1, rfl, g1, F1⟩
        · obtain ⟨σ1, e1, g1, G1⟩ := hop.2 (by omega)
          rw [e1, Option.bind_some, if_neg c5, if_neg (by omega), if_pos c1]
          dsimp only
          rw [if_pos rfl]
          obtain ⟨v2, σ2, e2, g2, o2⟩ := ih M 5 (o + 1) (by omega) (by omega) (by omega) (by omega) (tx_n b n p) σ1 h2.2.2 G1
          rw [e2, Option.bind_some]
          dsimp only at o2 ⊢
          cases hz : tx_rd b n D 5 (o + 1) (tx_n b n p) with
          | inl y =>
            rw [hz] at o2
            have o2' : n_F y σ2 := o2
            exact ⟨_, _, rfl, g1.tr (g2.tr (n_clF o2').1), (n_clF o2').2⟩
          | inr q =>
            rw [hz] at o2
            obtain ⟨o3, G2⟩ := (o2 : v2 = q.2.1 (n_E σ1) ∧ n_G b n x q.1 (o + 1) σ2)
            rw [n_E.mv g1] at o3
            have cl := n_cls G2
            exact ⟨_, _, rfl, g1.tr (g2.tr cl.1), by show - v2 = - q.2.1 (n_E σ); rw [o3], cl.2⟩
      · rw [if_neg (by rw [decide_eq_true_eq]; exact c1)]
        by_cases c2 : tx_c b n p = 40
        · rw [if_pos (decide_eq_true c2), if_pos (by rw [c2]; rfl)]
          have hop := n_opn hN h ho (by omega) (by omega)
          have h2 := tx_n_gt (b := b) (n := n) (p := p) (by omega)
          unfold tx_og
          by_cases c5 : 5 ≤ o
          · obtain ⟨σ1, e1, g1, F1⟩ := hop.1 c5
            rw [e1, Option.bind_some, if_pos c5]
            exact ⟨0, σ1, rfl, g1, F1⟩
          · obtain ⟨σ1, e1, g1, G1⟩ := hop.2 (by omega)
            rw [e1, Option.bind_some, if_neg c5, if_neg (by omega), if_neg c1]
            dsimp only
            rw [if_pos rfl]
            obtain ⟨v2, σ2, e2, g2, o2⟩ := ih M 0 (o + 1) (by omega) (by omega) (by omega) (by omega) (tx_n b n p) σ1 h2.2.2 G1
            rw [e2, Option.bind_some]
            dsimp only at o2 ⊢
            cases hz : tx_rd b n D 0 (o + 1) (tx_n b n p) with
            | inl y =>
              rw [hz] at o2
              have o2' : n_F y σ2 := o2
              rw [n_issF o2', Option.bind_some, if_neg (by decide), n_failF o2', Option.bind_some, if_neg (by rw [q_FFk (by decide), o2'.1]; decide)]
              exact ⟨_, _, rfl, g1.tr (g2.tr (n_clF o2').1), (n_clF o2').2⟩
            | inr q =>
              rw [hz] at o2
              obtain ⟨o3, G2⟩ := (o2 : v2 = q.2.1 (n_E σ1) ∧ n_G b n x q.1 (o + 1) σ2)
              rw [n_E.mv g1] at o3
              rw [show (41 : Int32) = nI 41 from rfl, n_iss G2 s41, Option.bind_some]
              have cl := n_cls G2
              by_cases c6 : tx_c b n q.1 = 41
              · rw [if_pos (decide_eq_true c6), if_pos cl.2.2.2.2]
                obtain ⟨σ3, e3, g3, G3⟩ := n_nx hN cl.2 (by omega) (by omega)
                rw [e3, Option.bind_some]
                refine ⟨v2, σ3, rfl, g1.tr (g2.tr (cl.1.tr g3)), ?_⟩
                show n_Out b n x o (if tx_c b n q.1 = 41 then .inr (tx_n b n q.1, q.2.1, q.2.2) else .inl (tx_f b n q.1)) (n_E σ) v2 σ3
                rw [if_pos c6]
                exact ⟨o3, G3⟩
              · rw [if_neg (by rw [decide_eq_true_eq]; exact c6)]
                obtain ⟨σ3, e3, F3, g3⟩ := n_failG G2
                rw [e3, Option.bind_some, if_neg (by rw [q_FFk (by decide), F3.1]; decide)]
                refine ⟨v2, _, rfl, g1.tr (g2.tr (g3.tr (n_clF F3).1)), ?_⟩
                show n_Out b n x o (if tx_c b n q.1 = 41 then .inr (tx_n b n q.1, q.2.1, q.2.2) else .inl (tx_f b n q.1)) (n_E σ) v2 _
                rw [if_neg c6]
                exact (n_clF F3).2
        · have hsp : ¬ tx_sp 5 (tx_c b n p) = true := by simp [tx_sp, c1, c2]
          rw [if_neg (by rw [decide_eq_true_eq]; exact c2), if_neg hsp, if_pos (show (5 : Nat) = 5 from rfl), if_pos h.2.2.2]
          unfold tx_one
          have hb := h.2.1.2.2.2.2.1
          by_cases c3 : tx_c b n p = 12
          · rw [if_pos (hb.mpr c3), if_pos c3]
            obtain ⟨σ1, e1, g1, G1⟩ := n_nx hN h (by omega) (by omega)
            rw [e1, Option.bind_some]
            refine ⟨_, σ1, rfl, g1, ?_, G1⟩
            rw [h.2.1.2.2.2.2.2.1 c3, lN_i]
          · rw [if_neg (fun y => c3 (hb.mp y)), if_neg c3, if_pos h.2.2.2]
            obtain ⟨nm1, nm2⟩ := n_name h
            by_cases c4 : tx_c b n p < 6
            · have t1 : fF σ 36 24 = 1 := ((h.2.1.2.2.1 (tx_c b n p) (by omega)).mpr rfl).1
              rw [if_pos t1, nm1 c4, Option.bind_some, if_pos c4]
              dsimp only
              rw [if_pos h.2.2.2]
              obtain ⟨σ1, e1, g1, G1⟩ := n_nx hN h (by omega) (by omega)
              rw [e1, Option.bind_some]
              exact ⟨_, σ1, rfl, g1, rfl, G1⟩
            · rw [if_neg c4]
              obtain ⟨σ1, e1, F1, g1⟩ := n_failG h
              by_cases t1 : fF σ 36 24 = 1
              · rw [if_pos t1, nm2 (by omega), e1]
                simp only [Option.bind_some]
                rw [if_neg (by rw [F1.1]; decide)]
                exact ⟨0, σ1, rfl, g1, F1⟩
              · rw [if_neg t1, e1]
                exact ⟨0, σ1, rfl, g1, F1⟩
