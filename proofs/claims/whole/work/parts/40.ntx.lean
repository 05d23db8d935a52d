/-! THE TEXTS: the model reads a text -/
theorem n_J23F {N f : Nat} {σ : am_S} (h : n_F f σ) : f12_part_J23 N σ = some (0, σ) := by
  unfold f12_part_J23
  rw [if_neg (by rw [h.1]; decide), n_issF h, Option.bind_some, if_neg (by decide), n_failF h, Option.bind_some, if_neg (by rw [h.1]; decide)]
theorem n_part {N : Nat} (hN : 200 ≤ N) {b : Nat → Nat} {n x p key : Nat} {w : Int64} {σ : am_S} (hk : key < 12) (hw : w = lN (tx_H key)) (hp : p ≤ n) (h : n_G b n x p 0 σ) : ∃ v σ', f12_part N σ w = some (v, σ') ∧ q_Ag n_s1 σ σ' ∧ n_Out b n x 0 (tx_pt b n key p) (n_E σ) v σ' := by
  have s59 : tx_sg 59 = true := rfl
  unfold f12_part tx_pt
  rw [n_isw h hk hw, Option.bind_some]
  by_cases c1 : tx_c b n p = key
  · rw [if_pos (decide_eq_true c1), if_pos h.2.2.2, if_pos c1]
    have h2 := tx_n_gt (b := b) (n := n) (p := p) (by omega)
    obtain ⟨σ1, e1, g1, G1⟩ := n_nx hN h (by omega) (by omega)
    rw [e1, Option.bind_some]
    unfold f12_part_J23
    rw [if_pos G1.2.2.2]
    obtain ⟨v2, σ2, e2, g2, o2⟩ := n_rd hN h.1.1 36 100 0 0 (by omega) (by omega) (by omega) (by omega) (tx_n b n p) σ1 h2.2.2 G1
    have e2' : f12_either N σ1 = some (v2, σ2) := e2
    rw [e2', Option.bind_some]
    dsimp only at o2 ⊢
    cases hz : tx_rd b n 36 0 0 (tx_n b n p) with
    | inl y =>
      rw [hz] at o2
      have o2' : n_F y σ2 := o2
      rw [show (59 : Int32) = nI 59 from rfl, n_issF o2', Option.bind_some, if_neg (by decide), n_failF o2', Option.bind_some, if_neg (by rw [o2'.1]; decide)]
      exact ⟨v2, σ2, rfl, g1.tr g2, o2'⟩
    | inr q =>
      rw [hz] at o2
      obtain ⟨o3, G2⟩ := (o2 : v2 = q.2.1 (n_E σ1) ∧ n_G b n x q.1 0 σ2)
      rw [n_E.mv g1] at o3
      rw [show (59 : Int32) = nI 59 from rfl, n_iss G2 s59, Option.bind_some]
      by_cases c6 : tx_c b n q.1 = 59
      · rw [if_pos (decide_eq_true c6), if_pos G2.2.2.2]
        obtain ⟨σ3, e3, g3, G3⟩ := n_nx hN G2 (by omega) (by omega)
        rw [e3, Option.bind_some]
        refine ⟨v2, σ3, rfl, g1.tr (g2.tr g3), ?_⟩
        show n_Out b n x 0 (if tx_c b n q.1 = 59 then .inr (tx_n b n q.1, q.2.1, q.2.2) else .inl (tx_f b n q.1)) (n_E σ) v2 σ3
        rw [if_pos c6]
        exact ⟨o3, G3⟩
      · rw [if_neg (by rw [decide_eq_true_eq]; exact c6)]
        obtain ⟨σ3, e3, F3, g3⟩ := n_failG G2
        rw [e3, Option.bind_some, if_neg (by rw [F3.1]; decide)]
        refine ⟨v2, σ3, rfl, g1.tr (g2.tr g3), ?_⟩
        show n_Out b n x 0 (if tx_c b n q.1 = 59 then .inr (tx_n b n q.1, q.2.1, q.2.2) else .inl (tx_f b n q.1)) (n_E σ) v2 σ3
        rw [if_neg c6]
        exact F3
  · rw [if_neg (by rw [decide_eq_true_eq]; exact c1), if_neg c1]
    obtain ⟨σ1, e1, F1, g1⟩ := n_failG h
    rw [e1, Option.bind_some, if_neg (by rw [F1.1]; decide), n_J23F F1]
    exact ⟨0, σ1, rfl, g1, F1⟩
def n_s0 (a k : Nat) : Prop := a = 36 ∧ ((22 ≤ k ∧ k ≤ 25) ∨ (27 ≤ k ∧ k ≤ 34))
theorem n_s1_0 {a k : Nat} (h : n_s1 a k) : n_s0 a k := ⟨h.1, by have := h.2; omega⟩
def tx_e (heads tide wash age hour turns : Int32) : tx_E := fun c => match c with
  | 0 => heads
  | 1 => tide
  | 2 => wash
  | 3 => age
  | 4 => hour
  | 5 => turns
  | _ => 0
def n_pk (k : Nat) (x y z : Int32) : Int32 := if k = 0 then x else if k = 1 then y else z
theorem n_J107 {N k : Nat} {x y z : Int32} {σ : am_S} (hk : k < 3) : (∀ f, n_F f σ → f12_read_J107 N (nI k) x y z σ = some (n_pk k x y z, σ)) ∧ ∀ b n t p, n_G b n t p 0 σ → (tx_c b n p = 13 → f12_read_J107 N (nI k) x y z σ = some (n_pk k x y z, σ)) ∧ (tx_c b n p ≠ 13 → ∃ σ', f12_read_J107 N (nI k) x y z σ = some (n_pk k x y z, σ') ∧ n_F (tx_f b n p) σ' ∧ q_Ag n_s1 σ σ') := by
  have e0 : (nI k = (0 : Int32)) = (k = 0) := propext (nI_eq (b := 0) (by omega) (by omega))
  have e1 : (nI k = (1 : Int32)) = (k = 1) := propext (nI_eq (b := 1) (by omega) (by omega))
  have pk : ∀ s : am_S, (if nI k = (0 : Int32) then some (x, s) else if nI k = (1 : Int32) then some (y, s) else some (z, s)) = some (n_pk k x y z, s) := fun s => by
    simp only [e0, e1]
    unfold n_pk
    split
    · rfl
    · split <;> rfl
  unfold f12_read_J107
  refine ⟨fun f h => ?_, fun b n t p h => ⟨fun c => ?_, fun c => ?_⟩⟩
  · rw [if_neg (by rw [h.1]; decide), pk]
  · rw [if_pos h.2.2.2, if_pos (h.2.1.2.2.2.2.2.2.mpr c), pk]
  · rw [if_pos h.2.2.2, if_neg (fun y => c (h.2.1.2.2.2.2.2.2.mp y))]
    obtain ⟨σ1, e1, F1, g1⟩ := n_failG h
    rw [e1, Option.bind_some, pk]
    exact ⟨σ1, rfl, F1, g1⟩
theorem n_read {N : Nat} (hN : 200 ≤ N) {b : Nat → Nat} {n x k : Nat} {σ : am_S} (h2 h3 h4 h5 : Int32) (hk : k < 3) (hx : x < 6) (hn : n ≤ 160) (hs : fF σ 38 x = nI n) (hb : ∀ i, i < n → b i < 256 ∧ fF σ 37 (160 * x + i) = nI (b i)) :
    ∃ v σ', f12_read N σ (nI x) h2 h3 h4 h5 (nI k) = some (v, σ') ∧ q_Ag n_s0 σ σ' ∧ (match tx_T b n with
      | .inl f => n_F f σ'
      | .inr q => v = q.1 k (tx_e h2 (fF σ 36 12) (fF σ 36 13) h3 h4 h5) ∧ fF σ' 36 29 = 0) := by
  obtain ⟨-, -, -, -, -, -, w6, w7, w8, -⟩ := n_Hs
  unfold f12_read
  rw [if_pos (q_in (by omega) (by omega)), nI_clamp (by omega), show (160 : Int32) = nI 160 from rfl, pk_mul]
  have hsz : fF (sF (sF (sF (sF (sF σ 36 31 h2) 36 32 h3) 36 33 h4) 36 34 h5) 36 22 (nI (160 * x))) 38 x = nI n := hs
  rw [hsz]
  have g0 : q_Ag n_s0 σ (sF (sF (sF (sF (sF (sF (sF (sF (sF σ 36 31 h2) 36 32 h3) 36 33 h4) 36 34 h5) 36 22 (nI (160 * x))) 36 23 (nI n)) 36 27 0) 36 28 0) 36 29 0) :=
    (((((((((q_Ag.rf σ).sF ⟨rfl, by omega⟩).sF ⟨rfl, by omega⟩).sF ⟨rfl, by omega⟩).sF ⟨rfl, by omega⟩).sF ⟨rfl, by omega⟩).sF ⟨rfl, by omega⟩).sF ⟨rfl, by omega⟩).sF ⟨rfl, by omega⟩).sF ⟨rfl, by omega⟩
  have S0 : n_S b n x (sF (sF (sF (sF (sF (sF (sF (sF (sF σ 36 31 h2) 36 32 h3) 36 33 h4) 36 34 h5) 36 22 (nI (160 * x))) 36 23 (nI n)) 36 27 0) 36 28 0) 36 29 0) := by
    refine ⟨hn, hx, ?_, ?_, fun i hi => hb i hi⟩
    · rw [q_FFk (by decide), q_FFk (by decide), q_FFk (by decide), q_FFk (by decide), q_FFe]
    · rw [q_FFk (by decide), q_FFk (by decide), q_FFk (by decide), q_FFe]
  have E0 : n_E (sF (sF (sF (sF (sF (sF (sF (sF (sF σ 36 31 h2) 36 32 h3) 36 33 h4) 36 34 h5) 36 22 (nI (160 * x))) 36 23 (nI n)) 36 27 0) 36 28 0) 36 29 0) = tx_e h2 (fF σ 36 12) (fF σ 36 13) h3 h4 h5 := by
    funext c
    match c with
    | 0 => show fF _ 36 31 = h2; simp only [q_FFk (show (31 : Nat) ≠ 29 by decide), q_FFk (show (31 : Nat) ≠ 28 by decide), q_FFk (show (31 : Nat) ≠ 27 by decide), q_FFk (show (31 : Nat) ≠ 23 by decide), q_FFk (show (31 : Nat) ≠ 22 by decide), q_FFk (show (31 : Nat) ≠ 34 by decide), q_FFk (show (31 : Nat) ≠ 33 by decide), q_FFk (show (31 : Nat) ≠ 32 by decide), q_FFe]
    | 1 => rfl
    | 2 => rfl
    | 3 => show fF _ 36 32 = h3; simp only [q_FFk (show (32 : Nat) ≠ 29 by decide), q_FFk (show (32 : Nat) ≠ 28 by decide), q_FFk (show (32 : Nat) ≠ 27 by decide), q_FFk (show (32 : Nat) ≠ 23 by decide), q_FFk (show (32 : Nat) ≠ 22 by decide), q_FFk (show (32 : Nat) ≠ 34 by decide), q_FFk (show (32 : Nat) ≠ 33 by decide), q_FFe]
    | 4 => show fF _ 36 33 = h4; simp only [q_FFk (show (33 : Nat) ≠ 29 by decide), q_FFk (show (33 : Nat) ≠ 28 by decide), q_FFk (show (33 : Nat) ≠ 27 by decide), q_FFk (show (33 : Nat) ≠ 23 by decide), q_FFk (show (33 : Nat) ≠ 22 by decide), q_FFk (show (33 : Nat) ≠ 34 by decide), q_FFe]
    | 5 => show fF _ 36 34 = h5; simp only [q_FFk (show (34 : Nat) ≠ 29 by decide), q_FFk (show (34 : Nat) ≠ 28 by decide), q_FFk (show (34 : Nat) ≠ 27 by decide), q_FFk (show (34 : Nat) ≠ 23 by decide), q_FFk (show (34 : Nat) ≠ 22 by decide), q_FFe]
    | _ + 6 => rfl
  have Z0 : fF (sF (sF (sF (sF (sF (sF (sF (sF (sF σ 36 31 h2) 36 32 h3) 36 33 h4) 36 34 h5) 36 22 (nI (160 * x))) 36 23 (nI n)) 36 27 0) 36 28 0) 36 29 0) 36 27 = nI 0 ∧ fF (sF (sF (sF (sF (sF (sF (sF (sF (sF σ 36 31 h2) 36 32 h3) 36 33 h4) 36 34 h5) 36 22 (nI (160 * x))) 36 23 (nI n)) 36 27 0) 36 28 0) 36 29 0) 36 28 = nI 0 ∧ fF (sF (sF (sF (sF (sF (sF (sF (sF (sF σ 36 31 h2) 36 32 h3) 36 33 h4) 36 34 h5) 36 22 (nI (160 * x))) 36 23 (nI n)) 36 27 0) 36 28 0) 36 29 0) 36 29 = 0 := by
    refine ⟨?_, ?_, q_FFe⟩
    · rw [q_FFk (by decide), q_FFk (by decide), q_FFe]; rfl
    · rw [q_FFk (by decide), q_FFe]; rfl
  generalize (sF (sF (sF (sF (sF (sF (sF (sF (sF σ 36 31 h2) 36 32 h3) 36 33 h4) 36 34 h5) 36 22 (nI (160 * x))) 36 23 (nI n)) 36 27 0) 36 28 0) 36 29 0) = σ0 at g0 S0 E0 Z0 ⊢
  rw [← E0]
  obtain ⟨σ1, e1, g1, T1⟩ := n_next hN (p := 0) S0 Z0.1 (Nat.zero_le _)
  have g1' := g1.wk (T := n_s1) (fun a k => n_tk)
  have G1 : n_G b n x 0 0 σ1 := ⟨S0.mv g1', T1, (g1.2 36 28 (by omega)).1.trans Z0.2.1, (g1.2 36 29 (by omega)).1.trans Z0.2.2⟩
  have g01 := g0.tr (g1'.wk (T := n_s0) (fun a k => n_s1_0))
  rw [e1, Option.bind_some]
  obtain ⟨v2, σ2, e2, g2, o2⟩ := n_part hN (key := 6) (by omega) w6 (Nat.zero_le _) G1
  have g02 := g01.tr (g2.wk (T := n_s0) (fun a k => n_s1_0))
  rw [n_E.mv g1'] at o2
  rw [e2, Option.bind_some]
  dsimp only
  unfold tx_T
  cases hz1 : tx_pt b n 6 0 with
  | inl y =>
    rw [hz1] at o2
    have o2' : n_F y σ2 := o2
    rw [if_neg (by rw [o2'.1]; decide), if_neg (by rw [o2'.1]; decide), (n_J107 hk).1 y o2']
    exact ⟨_, σ2, rfl, g02, o2'⟩
  | inr q1 =>
    rw [hz1] at o2
    obtain ⟨o3, G2⟩ := (o2 : v2 = q1.2.1 (n_E σ0) ∧ n_G b n x q1.1 0 σ2)
    have b1 : q1.1 ≤ n := by
      by_cases c : q1.1 ≤ n
      · exact c
      · have := G2.2.1
        unfold tx_pt at hz1
        by_cases d1 : tx_c b n 0 = 6
        · rw [if_pos d1] at hz1
          cases hr : tx_rd b n 36 0 0 (tx_n b n 0) with
          | inl y => rw [hr] at hz1; cases hz1
          | inr r =>
            rw [hr] at hz1
            by_cases d2 : tx_c b n r.1 = 59
            · simp only [d2, if_true] at hz1
              have e' := Sum.inr.inj hz1
              subst e'
              exact (tx_n_gt (b := b) (n := n) (p := r.1) (by omega)).2.2
            · simp only [d2, if_false] at hz1; cases hz1
        · rw [if_neg d1] at hz1; cases hz1
    dsimp only
    rw [if_pos G2.2.2.2]
    obtain ⟨v3, σ3, e3, g3, o4⟩ := n_part hN (key := 7) (by omega) w7 b1 G2
    have g03 := g02.tr (g3.wk (T := n_s0) (fun a k => n_s1_0))
    rw [n_E.mv g2, n_E.mv g1'] at o4
    rw [e3, Option.bind_some]
    dsimp only
    cases hz2 : tx_pt b n 7 q1.1 with
    | inl y =>
      rw [hz2] at o4
      have o4' : n_F y σ3 := o4
      rw [if_neg (by rw [o4'.1]; decide), (n_J107 hk).1 y o4']
      exact ⟨_, σ3, rfl, g03, o4'⟩
    | inr q2 =>
      rw [hz2] at o4
      obtain ⟨o5, G3⟩ := (o4 : v3 = q2.2.1 (n_E σ0) ∧ n_G b n x q2.1 0 σ3)
      have b2 : q2.1 ≤ n := by
        unfold tx_pt at hz2
        by_cases d1 : tx_c b n q1.1 = 7
        · rw [if_pos d1] at hz2
          cases hr : tx_rd b n 36 0 0 (tx_n b n q1.1) with
          | inl y => rw [hr] at hz2; cases hz2
          | inr r =>
            rw [hr] at hz2
            by_cases d2 : tx_c b n r.1 = 59
            · simp only [d2, if_true] at hz2
              have e' := Sum.inr.inj hz2
              subst e'
              exact (tx_n_gt (b := b) (n := n) (p := r.1) (by omega)).2.2
            · simp only [d2, if_false] at hz2; cases hz2
        · rw [if_neg d1] at hz2; cases hz2
      dsimp only
      rw [if_pos G3.2.2.2]
      obtain ⟨v4, σ4, e4, g4, o6⟩ := n_part hN (key := 8) (by omega) w8 b2 G3
      have g04 := g03.tr (g4.wk (T := n_s0) (fun a k => n_s1_0))
      rw [n_E.mv g3, n_E.mv g2, n_E.mv g1'] at o6
      rw [e4, Option.bind_some]
      dsimp only
      cases hz3 : tx_pt b n 8 q2.1 with
      | inl y =>
        rw [hz3] at o6
        have o6' : n_F y σ4 := o6
        rw [(n_J107 hk).1 y o6']
        exact ⟨_, σ4, rfl, g04, o6'⟩
      | inr q3 =>
        rw [hz3] at o6
        obtain ⟨o7, G4⟩ := (o6 : v4 = q3.2.1 (n_E σ0) ∧ n_G b n x q3.1 0 σ4)
        dsimp only
        have key := (n_J107 (N := N) (x := v2) (y := v3) (z := v4) hk).2 b n x q3.1 G4
        by_cases c : tx_c b n q3.1 = 13
        · rw [key.1 c, if_pos c]
          refine ⟨_, σ4, rfl, g04, ?_, G4.2.2.2⟩
          have hv : k = 0 ∨ k = 1 ∨ k = 2 := by omega
          rcases hv with rfl | rfl | rfl
          · exact o3
          · exact o5
          · exact o7
        · obtain ⟨σ5, e5, F5, g5⟩ := key.2 c
          rw [e5, if_neg c]
          exact ⟨_, σ5, rfl, g04.tr (g5.wk (T := n_s0) (fun a k => n_s1_0)), F5⟩
