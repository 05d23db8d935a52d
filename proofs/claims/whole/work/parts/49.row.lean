/-! THE METHODS: rower, rowers; two states side by side -/
def q_md (a : Nat) : Bool := decide (36 ≤ a ∧ a ≤ 67)
def q_J (c m : am_S) : am_S := (c.1, (fun a => if q_md a = true then m.2.1 a else c.2.1 a), c.2.2.1, fun a => if q_md a = true then m.2.2.2 a else c.2.2.2 a)
theorem q_JF (c m : am_S) (a k : Nat) : fF (q_J c m) a k = if q_md a = true then fF m a k else fF c a k := by
  show (if q_md a = true then m.2.1 a else c.2.1 a) k = _
  by_cases h : q_md a = true
  · rw [if_pos h, if_pos h]; rfl
  · rw [if_neg h, if_neg h]; rfl
theorem q_JQ (c m : am_S) (a k : Nat) : fQ (q_J c m) a k = if q_md a = true then fQ m a k else fQ c a k := by
  show (if q_md a = true then m.2.2.2 a else c.2.2.2 a) k = _
  by_cases h : q_md a = true
  · rw [if_pos h, if_pos h]; rfl
  · rw [if_neg h, if_neg h]; rfl
theorem q_mdT {a : Nat} (h : 36 ≤ a ∧ a ≤ 67) : q_md a = true := decide_eq_true h
theorem q_mdF {a : Nat} (h : ¬ (36 ≤ a ∧ a ≤ 67)) : ¬ q_md a = true := by unfold q_md; rw [decide_eq_true_eq]; exact h
theorem q_JFm {c m : am_S} {a k : Nat} (h : 36 ≤ a ∧ a ≤ 67) : fF (q_J c m) a k = fF m a k := by rw [q_JF, if_pos (q_mdT h)]
theorem q_JFc {c m : am_S} {a k : Nat} (h : ¬ (36 ≤ a ∧ a ≤ 67)) : fF (q_J c m) a k = fF c a k := by rw [q_JF, if_neg (q_mdF h)]
theorem q_JQc {c m : am_S} {a k : Nat} (h : ¬ (36 ≤ a ∧ a ≤ 67)) : fQ (q_J c m) a k = fQ c a k := by rw [q_JQ, if_neg (q_mdF h)]
theorem q_JQm {c m : am_S} {a k : Nat} (h : 36 ≤ a ∧ a ≤ 67) : fQ (q_J c m) a k = fQ m a k := by rw [q_JQ, if_pos (q_mdT h)]
theorem q_J_ag {S : Nat → Nat → Prop} {c c' m m' : am_S} (h : q_Ag S c c') (h' : q_Ag S m m') : q_Ag S (q_J c m) (q_J c' m') := by
  refine ⟨h.1, fun a k x => ?_⟩
  rw [q_JF, q_JF, q_JQ, q_JQ, (h.2 a k x).1, (h.2 a k x).2, (h'.2 a k x).1, (h'.2 a k x).2]
  exact ⟨rfl, rfl⟩
theorem q_J_id {c m σ : am_S} (e : σ.1 = c.1) (h : ∀ a k, ¬ (36 ≤ a ∧ a ≤ 67) → fF σ a k = fF c a k ∧ fQ σ a k = fQ c a k) (h' : ∀ a k, (36 ≤ a ∧ a ≤ 67) → fF σ a k = fF m a k ∧ fQ σ a k = fQ m a k) : q_Ag r_sc (q_J c m) σ ∧ q_Ag r_sc σ (q_J c m) := by
  have key : ∀ a k, fF σ a k = fF (q_J c m) a k ∧ fQ σ a k = fQ (q_J c m) a k := fun a k => by
    by_cases x : 36 ≤ a ∧ a ≤ 67
    · rw [q_JFm x, q_JQm x]; exact h' a k x
    · rw [q_JFc x, q_JQc x]; exact h a k x
  refine ⟨⟨fun a m' x => ?_, fun a k _ => key a k⟩, ⟨fun a m' x => ?_, fun a k _ => ⟨(key a k).1.symm, (key a k).2.symm⟩⟩⟩
  · rw [e]; exact x
  · rw [e] at x; exact x
theorem RX.fr {σ σ' : am_S} (h : RX σ) (g : q_Ag r_sc σ σ') : RX σ' := by
  obtain ⟨n, m, tc, A, B, hR⟩ := h
  exact ⟨n, m, tc, A, B, hR.fr g⟩
def rw_T (σ : am_S) (x1 x2 x3 : Int32) : Option (Int32 × am_S) := if fF σ 8 5 < (14 : Int32) then ((f11_newRower σ x1 x2 x3).bind fun (v16, s17) => (if [2, 3, 5, 6, 7, 9].contains (am_ci s17 v16) = true then (if am_in (fF σ 8 5) 14 = true then (some ((fF (sF (sQ s17 10 (fF σ 8 5).toNatClampNeg (some v16)) 8 5 ((fF (sQ s17 10 (fF σ 8 5).toNatClampNeg (some v16)) 8 5) + (1 : Int32))) 8 5) - (1 : Int32), sF (sQ s17 10 (fF σ 8 5).toNatClampNeg (some v16)) 8 5 ((fF (sQ s17 10 (fF σ 8 5).toNatClampNeg (some v16)) 8 5) + (1 : Int32)))) else none) else none)) else (some ((-4 : Int32), σ))
theorem rw_eq (σ : am_S) (x1 x2 x3 : Int32) : f11_rower σ x1 x2 x3 = (f11_within x1 0 5).bind fun v1 => if v1 = true then ((f11_within x2 1400 9099).bind fun v5 => if v5 = true then ((f11_crossingAt σ ((x2 - x2 / 10 * 10).toInt64)).bind fun v9 => v9.elim (some (-2, σ)) (fun _ => if x3 = -1 then rw_T σ x1 x2 x3 else (f11_rowerAt σ x3).bind fun v21 => v21.elim (some (-2, σ)) (fun _ => rw_T σ x1 x2 x3))) else some (-2, σ)) else some (-2, σ) := rfl
theorem rw_nw (σ : am_S) {k : Nat} (hk : k < 6) (x2 x3 : Int32) : f11_newRower σ (nI k) x2 x3 = (f7_init (am_nw σ (.inl (r_kc k, []))) σ.1.length (nI k) x2 x3).bind fun s => some (σ.1.length, s) := by
  have b1 : ∀ x : Option am_S, (x.bind fun s => some s) = x := tx_bsm
  unfold f11_newRower f3_init f6_init f5_init f9_init f2_init f3_init f6_init
  simp only [b1]
  have hv : k = 0 ∨ k = 1 ∨ k = 2 ∨ k = 3 ∨ k = 4 ∨ k = 5 := by omega
  rcases hv with rfl | rfl | rfl | rfl | rfl | rfl <;> rfl
/-- one more rower: the class's cells in one state, the model's in another -/
theorem m_rwT {c s : am_S} {n m tc k r : Nat} {A B : Nat → Nat} {x3 : Int32} (hR : RR n m tc A B (q_J c s)) (hk : k < 6) (hr : 1400 ≤ r ∧ r ≤ 9099) (hcr : r % 10 < n) (hf : x3 = -1 ∨ ∃ f : Nat, f < m ∧ x3 = nI f) :
    ∃ v c' s', rw_T c (nI k) (nI r) x3 = some (v, c') ∧ f12_rower_J53 (nI k) (nI r) x3 s = some (v, s') ∧ RX (q_J c' s') ∧ q_Ag (fun a j => a = 10 ∨ (a = 8 ∧ j = 5) ∨ 68 ≤ a) c c' ∧ q_Ag (fun a j => (44 ≤ a ∧ a ≤ 50) ∨ (a = 36 ∧ j = 21)) s s' ∧ s'.1 = s.1 := by
  obtain ⟨hK, hC, hB, hW, hP, hS, hT, hI⟩ := hR
  have hX : RX (q_J c s) := ⟨n, m, tc, A, B, hK, hC, hB, hW, hP, hS, hT, hI⟩
  have h1 := hB.1
  have hl : 68 ≤ c.1.length := hK.2
  have c5 : fF c 8 5 = nI m := by rw [← q_JFc (m := s) (a := 8) (by omega)]; exact hB.2.1
  have s21 : fF s 36 21 = nI m := by rw [← q_JFm (c := c) (a := 36) (by omega)]; exact hB.2.2.1
  by_cases c14 : m < 14
  · obtain ⟨w1, w2⟩ := r_nw c (r_kc k)
    have gw : q_Ag (fun a _ => a = c.1.length) c (am_nw c (.inl (r_kc k, []))) := (q_Ag.rf c).nw (fun _ => rfl)
    have hkc : [2, 3, 5, 6, 7, 9].contains (r_kc k) = true := by
      have hv : k = 0 ∨ k = 1 ∨ k = 2 ∨ k = 3 ∨ k = 4 ∨ k = 5 := by omega
      rcases hv with rfl | rfl | rfl | rfl | rfl | rfl <;> rfl
    have e1 : nI r / 100 = nI (r / 100) := pk_div (d := 100) (by omega) (by omega) (by omega)
    have e2 : nI r / 10 = nI (r / 10) := pk_div (d := 10) (by omega) (by omega) (by omega)
    have e3 : nI (r / 10) - nI (r / 10) / 10 * 10 = nI (r / 10 % 10) := pk_rem (d := 10) (by omega) (by omega) (by omega)
    have e4 : nI r - nI (r / 10) * 10 = nI (r % 10) := by rw [← e2]; exact pk_rem (d := 10) (by omega) (by omega) (by omega)
    have hinit : f7_init (am_nw c (.inl (r_kc k, []))) c.1.length (nI k) (nI r) x3 = some (sF (sF (sF (sF (sF (am_nw c (.inl (r_kc k, []))) c.1.length 0 (nI k)) c.1.length 1 (nI (r / 100))) c.1.length 2 (nI (r / 10 % 10))) c.1.length 3 (nI (r % 10))) c.1.length 4 x3) := by
      unfold f7_init
      rw [if_pos (by rw [w1]; exact hkc), e2, e3, e4, e1]
    generalize hσ1 : am_nw c (.inl (r_kc k, [])) = σ1 at w1 w2 gw hinit
    have g1 : q_Ag (fun a _ => a = c.1.length) c (sF (sF (sF (sF (sF σ1 c.1.length 0 (nI k)) c.1.length 1 (nI (r / 100))) c.1.length 2 (nI (r / 10 % 10))) c.1.length 3 (nI (r % 10))) c.1.length 4 x3) :=
      q_Ag.sF (S := fun a _ => a = c.1.length) (q_Ag.sF (S := fun a _ => a = c.1.length) (q_Ag.sF (S := fun a _ => a = c.1.length) (q_Ag.sF (S := fun a _ => a = c.1.length) (q_Ag.sF (S := fun a _ => a = c.1.length) gw rfl) rfl) rfl) rfl) rfl
    have o0 : fF (sF (sF (sF (sF (sF σ1 c.1.length 0 (nI k)) c.1.length 1 (nI (r / 100))) c.1.length 2 (nI (r / 10 % 10))) c.1.length 3 (nI (r % 10))) c.1.length 4 x3) c.1.length 0 = nI k := by rw [q_FFk (by decide), q_FFk (by decide), q_FFk (by decide), q_FFk (by decide), q_FFe]
    have o1 : fF (sF (sF (sF (sF (sF σ1 c.1.length 0 (nI k)) c.1.length 1 (nI (r / 100))) c.1.length 2 (nI (r / 10 % 10))) c.1.length 3 (nI (r % 10))) c.1.length 4 x3) c.1.length 1 = nI (r / 100) := by rw [q_FFk (by decide), q_FFk (by decide), q_FFk (by decide), q_FFe]
    have o2 : fF (sF (sF (sF (sF (sF σ1 c.1.length 0 (nI k)) c.1.length 1 (nI (r / 100))) c.1.length 2 (nI (r / 10 % 10))) c.1.length 3 (nI (r % 10))) c.1.length 4 x3) c.1.length 2 = nI (r / 10 % 10) := by rw [q_FFk (by decide), q_FFk (by decide), q_FFe]
    have o3 : fF (sF (sF (sF (sF (sF σ1 c.1.length 0 (nI k)) c.1.length 1 (nI (r / 100))) c.1.length 2 (nI (r / 10 % 10))) c.1.length 3 (nI (r % 10))) c.1.length 4 x3) c.1.length 3 = nI (r % 10) := by rw [q_FFk (by decide), q_FFe]
    have o4 : fF (sF (sF (sF (sF (sF σ1 c.1.length 0 (nI k)) c.1.length 1 (nI (r / 100))) c.1.length 2 (nI (r / 10 % 10))) c.1.length 3 (nI (r % 10))) c.1.length 4 x3) c.1.length 4 = x3 := q_FFe
    have o5 : ∀ j, 5 ≤ j → fF (sF (sF (sF (sF (sF σ1 c.1.length 0 (nI k)) c.1.length 1 (nI (r / 100))) c.1.length 2 (nI (r / 10 % 10))) c.1.length 3 (nI (r % 10))) c.1.length 4 x3) c.1.length j = 0 := fun j hj => by rw [q_FFk (by omega), q_FFk (by omega), q_FFk (by omega), q_FFk (by omega), q_FFk (by omega), w2]
    have oc : am_ci (sF (sF (sF (sF (sF σ1 c.1.length 0 (nI k)) c.1.length 1 (nI (r / 100))) c.1.length 2 (nI (r / 10 % 10))) c.1.length 3 (nI (r % 10))) c.1.length 4 x3) c.1.length = r_kc k := w1
    generalize (sF (sF (sF (sF (sF σ1 c.1.length 0 (nI k)) c.1.length 1 (nI (r / 100))) c.1.length 2 (nI (r / 10 % 10))) c.1.length 3 (nI (r % 10))) c.1.length 4 x3) = σ2 at hinit g1 o0 o1 o2 o3 o4 o5 oc
    have r8 : fF (sQ σ2 10 m (some c.1.length)) 8 5 = nI m := by rw [q_FQ, (g1.2 8 5 (by omega)).1, c5]
    have hT1 : rw_T c (nI k) (nI r) x3 = some (nI m, sF (sQ σ2 10 m (some c.1.length)) 8 5 (nI (m + 1))) := by
      unfold rw_T
      rw [c5, if_pos (show nI m < (14 : Int32) from nI_lt (b := 14) c14 (by omega)), rw_nw c hk, hσ1, hinit, Option.bind_some, Option.bind_some]
      dsimp only
      rw [if_pos (by rw [oc]; exact hkc), if_pos (q_in c14 (by omega)), nI_clamp (by omega), r8, nI_1, q_FFe, nI_pred]
    have g2 : q_Ag (fun a j => (a = 10 ∧ j = m) ∨ (a = 8 ∧ j = 5) ∨ a = c.1.length) c (sF (sQ σ2 10 m (some c.1.length)) 8 5 (nI (m + 1))) :=
      ((g1.wk (T := fun a j => (a = 10 ∧ j = m) ∨ (a = 8 ∧ j = 5) ∨ a = c.1.length) (fun a k x => Or.inr (Or.inr x))).sQ (Or.inl ⟨rfl, rfl⟩)).sF (Or.inr (Or.inl ⟨rfl, rfl⟩))
    have q0 : ∀ j, fF (sF (sQ σ2 10 m (some c.1.length)) 8 5 (nI (m + 1))) c.1.length j = fF σ2 c.1.length j := fun j => by rw [q_FFa (by omega), q_FQ]
    have q1 : fQ (sF (sQ σ2 10 m (some c.1.length)) 8 5 (nI (m + 1))) 10 m = some c.1.length := by rw [q_QF, q_QQe]
    have q2 : fF (sF (sQ σ2 10 m (some c.1.length)) 8 5 (nI (m + 1))) 8 5 = nI (m + 1) := q_FFe
    have q3 : am_ci (sF (sQ σ2 10 m (some c.1.length)) 8 5 (nI (m + 1))) c.1.length = r_kc k := oc
    generalize (sF (sQ σ2 10 m (some c.1.length)) 8 5 (nI (m + 1))) = c' at hT1 g2 q0 q1 q2 q3
    -- the model
    have c14' : ¬ nI m = (14 : Int32) := fun y => by have := q_nI (b := 14) (by omega) (by omega) y; omega
    have hT2 : f12_rower_J53 (nI k) (nI r) x3 s = some (nI m, sF (sF (sF (sF (sF (sF (sF (sF s 44 m (nI k)) 45 m (nI (r / 100))) 46 m (nI (r / 10 % 10))) 47 m (nI (r % 10))) 48 m x3) 49 m 0) 50 m 0) 36 21 (nI (m + 1))) := by
      unfold f12_rower_J53
      simp only [q_FFa (show (36 : Nat) ≠ 44 by decide), q_FFa (show (36 : Nat) ≠ 45 by decide), q_FFa (show (36 : Nat) ≠ 46 by decide), q_FFa (show (36 : Nat) ≠ 47 by decide), q_FFa (show (36 : Nat) ≠ 48 by decide), q_FFa (show (36 : Nat) ≠ 49 by decide), q_FFa (show (36 : Nat) ≠ 50 by decide), s21, q_in c14 (show m < 2 ^ 31 by omega), nI_clamp (show m < 2 ^ 31 by omega), nI_1, q_FFe, nI_pred, reduceIte, if_neg c14', e2, e3, e4, e1]
    have g3 : q_Ag (fun a j => (44 ≤ a ∧ a ≤ 50 ∧ j = m) ∨ (a = 36 ∧ j = 21)) s (sF (sF (sF (sF (sF (sF (sF (sF s 44 m (nI k)) 45 m (nI (r / 100))) 46 m (nI (r / 10 % 10))) 47 m (nI (r % 10))) 48 m x3) 49 m 0) 50 m 0) 36 21 (nI (m + 1))) :=
      ((((((((q_Ag.rf s).sF (Or.inl ⟨by omega, by omega, rfl⟩)).sF (Or.inl ⟨by omega, by omega, rfl⟩)).sF (Or.inl ⟨by omega, by omega, rfl⟩)).sF (Or.inl ⟨by omega, by omega, rfl⟩)).sF (Or.inl ⟨by omega, by omega, rfl⟩)).sF (Or.inl ⟨by omega, by omega, rfl⟩)).sF (Or.inl ⟨by omega, by omega, rfl⟩)).sF (Or.inr ⟨rfl, rfl⟩)
    have p0 : fF (sF (sF (sF (sF (sF (sF (sF (sF s 44 m (nI k)) 45 m (nI (r / 100))) 46 m (nI (r / 10 % 10))) 47 m (nI (r % 10))) 48 m x3) 49 m 0) 50 m 0) 36 21 (nI (m + 1))) 44 m = (nI k) := by rw [q_FFa (by decide), q_FFa (by decide), q_FFa (by decide), q_FFa (by decide), q_FFa (by decide), q_FFa (by decide), q_FFa (by decide), q_FFe]
    have p1 : fF (sF (sF (sF (sF (sF (sF (sF (sF s 44 m (nI k)) 45 m (nI (r / 100))) 46 m (nI (r / 10 % 10))) 47 m (nI (r % 10))) 48 m x3) 49 m 0) 50 m 0) 36 21 (nI (m + 1))) 45 m = (nI (r / 100)) := by rw [q_FFa (by decide), q_FFa (by decide), q_FFa (by decide), q_FFa (by decide), q_FFa (by decide), q_FFa (by decide), q_FFe]
    have p2 : fF (sF (sF (sF (sF (sF (sF (sF (sF s 44 m (nI k)) 45 m (nI (r / 100))) 46 m (nI (r / 10 % 10))) 47 m (nI (r % 10))) 48 m x3) 49 m 0) 50 m 0) 36 21 (nI (m + 1))) 46 m = (nI (r / 10 % 10)) := by rw [q_FFa (by decide), q_FFa (by decide), q_FFa (by decide), q_FFa (by decide), q_FFa (by decide), q_FFe]
    have p3 : fF (sF (sF (sF (sF (sF (sF (sF (sF s 44 m (nI k)) 45 m (nI (r / 100))) 46 m (nI (r / 10 % 10))) 47 m (nI (r % 10))) 48 m x3) 49 m 0) 50 m 0) 36 21 (nI (m + 1))) 47 m = (nI (r % 10)) := by rw [q_FFa (by decide), q_FFa (by decide), q_FFa (by decide), q_FFa (by decide), q_FFe]
    have p4 : fF (sF (sF (sF (sF (sF (sF (sF (sF s 44 m (nI k)) 45 m (nI (r / 100))) 46 m (nI (r / 10 % 10))) 47 m (nI (r % 10))) 48 m x3) 49 m 0) 50 m 0) 36 21 (nI (m + 1))) 48 m = x3 := by rw [q_FFa (by decide), q_FFa (by decide), q_FFa (by decide), q_FFe]
    have p5 : fF (sF (sF (sF (sF (sF (sF (sF (sF s 44 m (nI k)) 45 m (nI (r / 100))) 46 m (nI (r / 10 % 10))) 47 m (nI (r % 10))) 48 m x3) 49 m 0) 50 m 0) 36 21 (nI (m + 1))) 49 m = 0 := by rw [q_FFa (by decide), q_FFa (by decide), q_FFe]
    have p6 : fF (sF (sF (sF (sF (sF (sF (sF (sF s 44 m (nI k)) 45 m (nI (r / 100))) 46 m (nI (r / 10 % 10))) 47 m (nI (r % 10))) 48 m x3) 49 m 0) 50 m 0) 36 21 (nI (m + 1))) 50 m = 0 := by rw [q_FFa (by decide), q_FFe]
    have p7 : fF (sF (sF (sF (sF (sF (sF (sF (sF s 44 m (nI k)) 45 m (nI (r / 100))) 46 m (nI (r / 10 % 10))) 47 m (nI (r % 10))) 48 m x3) 49 m 0) 50 m 0) 36 21 (nI (m + 1))) 36 21 = nI (m + 1) := q_FFe
    have p8 : (sF (sF (sF (sF (sF (sF (sF (sF s 44 m (nI k)) 45 m (nI (r / 100))) 46 m (nI (r / 10 % 10))) 47 m (nI (r % 10))) 48 m x3) 49 m 0) 50 m 0) 36 21 (nI (m + 1))).1 = s.1 := rfl
    generalize (sF (sF (sF (sF (sF (sF (sF (sF s 44 m (nI k)) 45 m (nI (r / 100))) 46 m (nI (r / 10 % 10))) 47 m (nI (r % 10))) 48 m x3) 49 m 0) 50 m 0) 36 21 (nI (m + 1))) = s' at hT2 g3 p0 p1 p2 p3 p4 p5 p6 p7 p8
    refine ⟨nI m, c', s', hT1, hT2, ?_, g2.wk (fun a j x => by omega), g3.wk (fun a j x => by omega), p8⟩
    have g : q_Ag (fun a j => (a = 10 ∧ j = m) ∨ (a = 8 ∧ j = 5) ∨ a = c.1.length ∨ (44 ≤ a ∧ a ≤ 50 ∧ j = m) ∨ (a = 36 ∧ j = 21)) (q_J c s) (q_J c' s') :=
      q_J_ag (g2.wk (fun a j x => by omega)) (g3.wk (fun a j x => by omega))
    have jL : ∀ j, fF (q_J c' s') c.1.length j = fF σ2 c.1.length j := fun j => (q_JFc (by omega)).trans (q0 j)
    have jM : ∀ a, 44 ≤ a ∧ a ≤ 50 → fF (q_J c' s') a m = fF s' a m := fun a x => q_JFm (by omega)
    have j10 : fQ (q_J c' s') 10 m = some c.1.length := (q_JQc (by omega)).trans q1
    have j8 : fF (q_J c' s') 8 5 = nI (m + 1) := (q_JFc (by omega)).trans q2
    have j36 : fF (q_J c' s') 36 21 = nI (m + 1) := (q_JFm (by omega)).trans p7
    have jc : am_ci (q_J c' s') c.1.length = r_kc k := q3
    generalize q_J c' s' = σ3 at g jL jM j10 j8 j36 jc
    have lA : ∀ i, i < n → A i < c.1.length := fun i hi => r_lt (σ := q_J c s) (hC.2.2.2 i hi).1.2.2 (by decide)
    have lB : ∀ j, j < m → B j < c.1.length := fun j hj => by
      obtain ⟨k, -, -, hk⟩ := (hB.2.2.2 j hj).1.2.2
      exact r_lt (σ := q_J c s) hk (r_kc_ne k)
    obtain ⟨B', hB1, hB2⟩ : ∃ B' : Nat → Nat, B' m = c.1.length ∧ ∀ i, i ≠ m → B' i = B i := ⟨fun i => if i = m then c.1.length else B i, if_pos rfl, fun i h => if_neg h⟩
    refine ⟨n, m + 1, tc, A, B', hK.mv g, hC.mv g ?_, ⟨by omega, j8, j36, fun i hi => ?_⟩, hW.mv g ?_, hP.mv g ?_, hS.mv g ?_, hT.mv g ?_, hI.mv g (Nat.le_refl _) (by omega) (Nat.le_refl _) (fun _ _ => rfl) (fun i hi => hB2 i (by omega)) ?_⟩
    · intro a k hc hs
      rcases hc with h | h | h | h | ⟨i', hi', h, hk'⟩
      · omega
      · omega
      · omega
      · omega
      · have := hC.ge hi'
        have := lA i' hi'
        omega
    · by_cases ci : i = m
      · subst ci
        refine ⟨⟨?_, ?_, k, hk, ?_, ?_⟩, fun j hj => ?_, ⟨?_, ⟨r / 10 % 10, by omega, ?_⟩, ⟨r % 10, hcr, ?_⟩, ?_, ?_⟩, fun j hj e => ?_⟩
        · rw [hB1]; exact hl
        · rw [hB1]; exact j10
        · rw [jM 44 (by omega)]; exact p0
        · rw [hB1]; exact jc
        · rw [hB1, jL, jM (44 + j) (by omega)]
          have hv : j = 0 ∨ j = 1 ∨ j = 2 ∨ j = 3 ∨ j = 4 ∨ j = 5 ∨ j = 6 := by omega
          rcases hv with rfl | rfl | rfl | rfl | rfl | rfl | rfl
          · rw [o0]; exact p0.symm
          · rw [o1]; exact p1.symm
          · rw [o2]; exact p2.symm
          · rw [o3]; exact p3.symm
          · rw [o4]; exact p4.symm
          · rw [o5 5 (by omega)]; exact p5.symm
          · rw [o5 6 (by omega)]; exact p6.symm
        · rw [jM 45 (by omega), p1, nI_toInt (by omega)]; omega
        · rw [jM 46 (by omega), p2]
        · rw [jM 47 (by omega), p3]
        · rw [jM 48 (by omega), p4]
          rcases hf with hf | ⟨f, hf1, hf2⟩
          · exact Or.inl hf
          · exact Or.inr ⟨f, by omega, hf2⟩
        · rw [jM 49 (by omega), p5]; exact Or.inl rfl
        · rw [hB1] at e
          by_cases cj : j = i
          · exact cj.symm
          · rw [hB2 j cj] at e
            have := lB j (by omega)
            omega
      · have hin : i < m := by omega
        have hgi := hB.ge hin
        have hli := lB i hin
        obtain ⟨⟨a1, a2, k', hk', a3, a4⟩, b, ⟨c1, c2, c3, c4, c5⟩, e⟩ := hB.2.2.2 i hin
        have fA : ∀ k, fF σ3 (B i) k = fF (q_J c s) (B i) k := fun k => (g.2 (B i) k (by omega)).1
        have f4 : ∀ a, 44 ≤ a ∧ a ≤ 50 → fF σ3 a i = fF (q_J c s) a i := fun a x => (g.2 a i (by omega)).1
        refine ⟨⟨?_, ?_, k', hk', ?_, ?_⟩, fun j hj => ?_, ⟨?_, ?_, ?_, ?_, ?_⟩, fun j hj e' => ?_⟩
        · rw [hB2 i ci]; exact a1
        · rw [hB2 i ci, (g.2 10 i (by omega)).2]; exact a2
        · rw [f4 44 (by omega)]; exact a3
        · rw [hB2 i ci]; exact g.ci a4 (r_kc_ne k')
        · rw [hB2 i ci, fA, f4 (44 + j) (by omega)]; exact b j hj
        · rw [f4 45 (by omega)]; exact c1
        · rw [f4 46 (by omega)]; exact c2
        · rw [f4 47 (by omega)]; exact c3
        · rw [f4 48 (by omega)]
          rcases c4 with c4 | ⟨f, f1, f2⟩
          · exact Or.inl c4
          · exact Or.inr ⟨f, by omega, f2⟩
        · rw [f4 49 (by omega)]; exact c5
        · rw [hB2 i ci] at e'
          by_cases cj : j = m
          · rw [cj, hB1] at e'; omega
          · rw [hB2 j cj] at e'
            exact e j (by omega) e'
    · intro a k hc hs; unfold r_Wc at hc; omega
    · intro a k hc hs; unfold r_Pc at hc; omega
    · intro a k hc hs; unfold r_Sc at hc; omega
    · intro a k hc hs; unfold r_Tc at hc; omega
    · intro a k hc hs
      rcases hc with h | h | h | ⟨i', hi', h, hk'⟩ | ⟨i', hi', h, hk'⟩
      · omega
      · omega
      · omega
      · have := hC.ge hi'
        have := lA i' hi'
        omega
      · have := hB.ge hi'
        have := lB i' hi'
        omega
  · refine ⟨-4, c, s, ?_, ?_, hX, q_Ag.rf c, q_Ag.rf s, rfl⟩
    · unfold rw_T
      rw [c5, if_neg (show ¬ nI m < (14 : Int32) from nI_nlt (b := m) (a := m) (Nat.le_refl _) (by omega) ∘ fun y => by rw [show (14 : Int32) = nI m by rw [show m = 14 by omega]; rfl] at y; exact y)]
    · unfold f12_rower_J53
      rw [s21, if_pos (show nI m = (14 : Int32) by rw [show m = 14 by omega]; rfl)]
