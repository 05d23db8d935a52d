/-! TURNS: the methods turn, rowed, judge -/
theorem nI_m2 {f : Nat} (h : f < 2 ^ 31) : nI f ≠ (-1 : Int32) := fun e => by
  have := congrArg Int32.toInt e
  rw [nI_toInt h, show (-1 : Int32).toInt = -1 from rfl] at this
  omega
def tn_T (T : Nat → Int32) (p : Option (Nat × Nat)) (j : Nat) : Int32 := match p with
  | none => T j
  | some q => if j = q.1 ∨ j = q.2 then T j + 1 else T j
def tn_q (V : Nat → tx_E → Int32) (σ0 : am_S) (m c u : Nat) (T : Nat → Int32) : Option (Nat × Nat) := tn_p (tn_E σ0 c u) (tn_D V σ0 T u) m
def tn_S1 (m : Nat) (B : Nat → Nat) (a k : Nat) : Prop := ∃ j, j < m ∧ a = B j ∧ k = 6
def tn_S2 (m : Nat) (a k : Nat) : Prop := a = 50 ∧ k < m
section TRM
variable {n m tc : Nat} {A B : Nat → Nat} {σ0 : am_S} {V : Nat → tx_E → Int32}
theorem tn_w1 (a k : Nat) (h : tn_S1 m B a k) : r_tn m B a k := Or.inr (Or.inl h)
theorem tn_w2 (a k : Nat) (h : tn_S2 m a k) : r_tn m B a k := Or.inr (Or.inr h)
theorem tn_w0 (a k : Nat) (h : r_s2 a k) : r_tn m B a k := Or.inl (r_s2_sc a k h)
theorem tn_due1 {N : Nat} (hN : 200 ≤ N) (hR : RR n m tc A B σ0) (hV : r_R V σ0) {c u : Nat} (hu : u < 24) {T : Nat → Int32} {σ : am_S} (g : q_Ag (r_tn m B) σ0 σ) (hT : ∀ j, j < m → fF σ (B j) 6 = T j) : ∃ σ', f11_dueTwo N σ (nI c) (nI u) = some (tn_v (tn_q V σ0 m c u T), σ') ∧ q_Ag r_s2 σ σ' := by
  have h1 := hR.2.2.1.1
  exact tn_cls hN hR hV hu m 0 N 0 0 σ (by omega) (by omega) g hT (fun a h => by cases h) (fun a h => by cases h)
theorem tn_due2 {N : Nat} (hN : 200 ≤ N) (hR : RR n m tc A B σ0) (hV : r_R V σ0) {c u : Nat} (hu : u < 24) {T : Nat → Int32} {σ : am_S} (g : q_Ag (r_tn m B) σ0 σ) (hT : ∀ j, j < m → fF σ 50 j = T j) : ∃ σ', f12_turnOf N σ (nI c) (nI u) = some (tn_v (tn_q V σ0 m c u T), σ') ∧ q_Ag r_s2 σ σ' := by
  have h1 := hR.2.2.1.1
  obtain ⟨σ1, e1, g1⟩ := tn_mdl hN hR hV (c := c) (u := u) (but := 99) (by omega) (-1) (fun i hi => ⟨fun h => absurd h (nI_m2 (by omega)), fun h => by omega⟩) hu m 0 N σ (by omega) (by omega) g hT
  have e1' : f12_foremost_L6 N N (nI c) (nI u) (-1 : Int32) (-1 : Int32) (0 : Int32) σ = some (fo_c (fo_ (tn_E σ0 c u) (tn_D V σ0 T u) 99 m), σ1) := e1
  unfold f12_turnOf f12_foremost
  rw [e1', Option.bind_some]
  dsimp only
  unfold tn_q tn_p
  obtain ⟨o1, h1'⟩ : ∃ o, fo_ (tn_E σ0 c u) (tn_D V σ0 T u) 99 m = o := ⟨_, rfl⟩
  simp only [h1']
  cases o1 with
  | none =>
    rw [if_pos (show fo_c none = -1 from rfl)]
    exact ⟨σ1, rfl, g1⟩
  | some a =>
    have ha := fo_lt m a h1'
    obtain ⟨σ2, e2, g2⟩ := tn_mdl hN hR hV (T := T) (c := c) (u := u) (but := a) (by omega) (nI a) (fun i hi => nI_eq (by omega) (by omega)) hu m 0 N σ1 (by omega) (by omega) (g.tr (g1.wk tn_w0)) (fun j hj => by rw [(g1.2 50 j (by unfold r_s2; omega)).1]; exact hT j hj)
    have e2' : f12_foremost_L6 N N (nI c) (nI u) (fo_c (some a)) (-1 : Int32) (0 : Int32) σ1 = some (fo_c (fo_ (tn_E σ0 c u) (tn_D V σ0 T u) a m), σ2) := e2
    rw [if_neg (show ¬ fo_c (some a) = -1 from nI_m2 (by omega)), e2', Option.bind_some]
    dsimp only
    obtain ⟨o2, h2'⟩ : ∃ o, fo_ (tn_E σ0 c u) (tn_D V σ0 T u) a m = o := ⟨_, rfl⟩
    simp only [h2']
    refine ⟨σ2, ?_, g1.tr g2⟩
    cases o2 with
    | none =>
      rw [if_pos (show fo_c none = -1 from rfl)]
      rfl
    | some b =>
      have hb := fo_lt m b h2'
      rw [if_neg (show ¬ fo_c (some b) = -1 from nI_m2 (by omega))]
      show (if nI b ≤ nI a then some ((20 : Int32) * nI b + nI a, σ2) else some ((20 : Int32) * nI a + nI b, σ2)) = some (tn_v (if a < b then some (a, b) else some (b, a)), σ2)
      rw [show (20 : Int32) = nI 20 from rfl, pk_mul, pk_mul, nI_add, nI_add]
      by_cases cab : a < b
      · rw [if_neg (nI_ge cab (by omega)), if_pos cab]; rfl
      · rw [if_pos (nI_le (by omega) (by omega)), if_neg cab]; rfl
theorem tn_rA (hR : RR n m tc A B σ0) {σ : am_S} (g : q_Ag (r_tn m B) σ0 σ) {j : Nat} (hj : j < m) : f11_rowerAt σ (nI j) = some (some (B j)) := by
  have h1 := hR.2.2.1.1
  have e8 : fF σ 8 5 = nI m := (g.2 8 5 (r_tn_n (fun j hj => hR.2.2.1.ge hj) (by omega) (by omega) (by unfold r_sc; omega))).1.trans hR.2.2.1.2.1
  unfold f11_rowerAt
  rw [if_neg (nI_pos (by omega)), e8, if_neg (nI_ge hj (by omega)), if_pos (q_in (by omega) (by omega)), nI_clamp (by omega), (tn_B hR g hj).2.1]
  rfl
theorem tn_no {σ : am_S} {x : Int32} (hx : ¬ 0 ≤ x) : f11_oneMore σ x = some σ := by
  unfold f11_oneMore f11_oneOf f11_otherOf
  rw [if_neg hx, if_neg hx]
  rfl
theorem tn_q20 {a b : Nat} (ha : a < 20) (hb : b < 20) : nI (20 * a + b) / 20 = nI a ∧ nI (20 * a + b) - nI (20 * a + b) / 20 * 20 = nI b := by
  refine ⟨?_, ?_⟩
  · exact (pk_div (a := 20 * a + b) (d := 20) (by omega) (by omega) (by omega)).trans (congrArg nI (by omega))
  · exact (pk_rem (a := 20 * a + b) (d := 20) (by omega) (by omega) (by omega)).trans (congrArg nI (by omega))
theorem tn_one1 (hR : RR n m tc A B σ0) {σ : am_S} (g : q_Ag (r_tn m B) σ0 σ) {p : Option (Nat × Nat)} (hp : ∀ q, p = some q → q.1 < q.2 ∧ q.2 < m) {T : Nat → Int32} (hT : ∀ j, j < m → fF σ (B j) 6 = T j) : ∃ σ', f11_oneMore σ (tn_v p) = some σ' ∧ q_Ag (tn_S1 m B) σ σ' ∧ ∀ j, j < m → fF σ' (B j) 6 = tn_T T p j := by
  have h1 := hR.2.2.1.1
  cases p with
  | none => exact ⟨σ, tn_no (show ¬ (0 : Int32) ≤ -1 by decide), q_Ag.rf σ, hT⟩
  | some q =>
    obtain ⟨a, b⟩ := q
    obtain ⟨hab, hb⟩ : a < b ∧ b < m := hp _ rfl
    obtain ⟨e1, e2⟩ := tn_q20 (a := a) (b := b) (by omega) (by omega)
    have ne : B a ≠ B b := fun x => by
      have := (hR.2.2.1.2.2.2 a (by omega)).2.2.2 b hb x
      omega
    have k1 : [2, 3, 5, 6, 7, 9].contains (am_ci σ (B a)) = true := by
      rw [(tn_B hR g (show a < m by omega)).2.2.1]; exact r_7 hR.2.2.1 (by omega)
    have k2 : [2, 3, 5, 6, 7, 9].contains (am_ci σ (B b)) = true := by
      rw [(tn_B hR g hb).2.2.1]; exact r_7 hR.2.2.1 hb
    refine ⟨sF (sF σ (B a) 6 (fF σ (B a) 6 + 1)) (B b) 6 (fF (sF σ (B a) 6 (fF σ (B a) 6 + 1)) (B b) 6 + 1), ?_, ?_, ?_⟩
    · show f11_oneMore σ (nI (20 * a + b)) = _
      unfold f11_oneMore f11_oneOf f11_otherOf
      rw [if_pos (nI_pos' (by omega)), if_pos (nI_pos' (by omega)), e2, e1, tn_rA hR g (show a < m by omega), tn_rA hR g hb]
      simp only [Option.bind_some, Option.elim_some]
      rw [if_pos k1, if_pos (show [2, 3, 5, 6, 7, 9].contains (am_ci (sF σ (B a) 6 (fF σ (B a) 6 + 1)) (B b)) = true from k2)]
    · exact ((q_Ag.rf σ).sF (S := tn_S1 m B) ⟨a, by omega, rfl, rfl⟩).sF ⟨b, hb, rfl, rfl⟩
    · intro j hj
      show _ = if j = a ∨ j = b then T j + 1 else T j
      by_cases jb : j = b
      · rw [if_pos (Or.inr jb), jb, q_FFe, q_FFa (fun x => ne x.symm), hT b hb]
      · have nb : B j ≠ B b := fun x => jb ((hR.2.2.1.2.2.2 j hj).2.2.2 b hb x)
        rw [q_FFa nb]
        by_cases ja : j = a
        · rw [if_pos (Or.inl ja), ja, q_FFe, hT a (by omega)]
        · have na : B j ≠ B a := fun x => ja ((hR.2.2.1.2.2.2 j hj).2.2.2 a (by omega) x)
          rw [q_FFa na, if_neg (by omega)]
          exact hT j hj
theorem tn_one2 {N : Nat} (hN : 200 ≤ N) (hR : RR n m tc A B σ0) (hV : r_R V σ0) {c u : Nat} (hc : c < n) (hu : u < 24) {T : Nat → Int32} {σ : am_S} (g : q_Ag (r_tn m B) σ0 σ) (hT : ∀ j, j < m → fF σ 50 j = T j) : ∃ σ', f12_rowed N σ (nI c) (nI u) = some (tn_v (tn_q V σ0 m c u T), σ') ∧ q_Ag (fun a k => r_s2 a k ∨ tn_S2 m a k) σ σ' ∧ ∀ j, j < m → fF σ' 50 j = tn_T T (tn_q V σ0 m c u T) j := by
  have h1 := hR.2.2.1.1
  have e36 : fF σ 36 11 = nI n := (g.2 36 11 (r_tn_n (fun j hj => hR.2.2.1.ge hj) (by omega) (by omega) (by unfold r_sc; omega))).1.trans hR.2.1.2.2.1
  obtain ⟨σ1, e1, g1⟩ := tn_due2 hN hR hV (c := c) hu g hT
  have hT1 : ∀ j, j < m → fF σ1 50 j = T j := fun j hj => by rw [(g1.2 50 j (by unfold r_s2; omega)).1]; exact hT j hj
  have hp : ∀ q, tn_q V σ0 m c u T = some q → q.1 < q.2 ∧ q.2 < m := fun q h => tn_pl h
  unfold f12_rowed
  rw [r_iC0_yes hR.2.1.1 e36 hc, Option.bind_some, if_pos rfl, q_h2, q_wiT.mpr (by rw [nI_toInt (by omega)]; omega), Option.bind_some, if_pos rfl, e1, Option.bind_some]
  dsimp only
  generalize tn_q V σ0 m c u T = p at hp
  cases p with
  | none =>
    rw [if_pos (show tn_v none = -1 from rfl)]
    exact ⟨σ1, rfl, g1.wk (fun a k x => Or.inl x), hT1⟩
  | some q =>
    obtain ⟨a, b⟩ := q
    obtain ⟨hab, hb⟩ : a < b ∧ b < m := hp _ rfl
    obtain ⟨x1, x2⟩ := tn_q20 (a := a) (b := b) (by omega) (by omega)
    have hv : tn_v (some (a, b)) = nI (20 * a + b) := rfl
    rw [hv, if_neg (nI_m2 (by omega)), x2, x1, if_pos (q_in (by omega) (by omega)), if_pos (q_in (by omega) (by omega)), if_pos (q_in (by omega) (by omega)), if_pos (q_in (by omega) (by omega)), nI_clamp (by omega), nI_clamp (by omega)]
    refine ⟨_, rfl, ((g1.wk (T := fun a k => r_s2 a k ∨ tn_S2 m a k) (fun a k x => Or.inl x)).sF (Or.inr ⟨rfl, by omega⟩)).sF (Or.inr ⟨rfl, hb⟩), ?_⟩
    intro j hj
    show _ = if j = a ∨ j = b then T j + 1 else T j
    by_cases jb : j = b
    · rw [if_pos (Or.inr jb), jb, q_FFe, q_FFk (by omega), hT1 b hb]
    · rw [q_FFk jb]
      by_cases ja : j = a
      · rw [if_pos (Or.inl ja), ja, q_FFe, hT1 a (by omega)]
      · rw [q_FFk ja, if_neg (by omega)]
        exact hT1 j hj
end TRM
theorem m_turn {N : Nat} (hN : 200 ≤ N) (x1 x2 : Int32) : m_OK (fun σ => f11_turn N σ x1 x2) (fun σ => f12_turn N σ x1 x2) := by
  intro σ h
  have hX := h
  obtain ⟨n, m, tc, A, B, hR⟩ := h
  have hR' := hR
  obtain ⟨hK, hC, hB, hW, hP, hS, hT, hI⟩ := hR
  dsimp only
  unfold f11_turn
  rcases q_ix x1 n with hx | ⟨c, hc, rfl⟩
  · rw [r_cA_no hC hx]
    refine ⟨-2, σ, σ, rfl, ?_, hX⟩
    unfold f12_turn
    rw [r_iC_no hC hx]; rfl
  rw [r_cA_yes hC hc, Option.bind_some, Option.elim_some, q_h1, Option.bind_some]
  cases hq : q_wi x2 0 23 with
  | false =>
    refine ⟨-2, σ, σ, rfl, ?_, hX⟩
    unfold f12_turn
    rw [r_iC_yes hC hc, Option.bind_some, if_pos rfl, q_h2, hq]; rfl
  | true =>
    have w := q_wiT.mp hq
    obtain ⟨u, hu, rfl, -⟩ := q_ofb (n := 24) (x := x2) (by omega) (by omega)
    obtain ⟨V, hV⟩ := hT.rule
    obtain ⟨σ1, e1, g1⟩ := tn_due1 hN hR' hV (c := c) hu (T := fun j => fF σ 50 j) (q_Ag.rf σ) (fun j hj => (hB.2.2.2 j hj).2.1 6 (by omega))
    obtain ⟨σ2, e2, g2⟩ := tn_due2 hN hR' hV (c := c) hu (T := fun j => fF σ 50 j) (g1.wk tn_w0) (fun j hj => (g1.2 50 j (by unfold r_s2; omega)).1)
    rw [if_pos rfl, e1]
    have g12 := (g1.tr g2).wk r_s2_sc
    refine ⟨_, σ1, σ2, rfl, ?_, n, m, tc, A, B, hR'.fr g12⟩
    unfold f12_turn
    rw [r_iC_yes (hC := (hR'.fr (g1.wk r_s2_sc)).2.1) hc, Option.bind_some, if_pos rfl, q_h2, hq, Option.bind_some, if_pos rfl, e2]
    rfl
theorem m_rowed {N : Nat} (hN : 200 ≤ N) (x1 x2 : Int32) : m_OK (fun σ => f11_rowed N σ x1 x2) (fun σ => f12_rowed N σ x1 x2) := by
  intro σ h
  have hX := h
  obtain ⟨n, m, tc, A, B, hR⟩ := h
  have hR' := hR
  obtain ⟨hK, hC, hB, hW, hP, hS, hT, hI⟩ := hR
  dsimp only
  have bad : ∀ x : Option (Int32 × am_S), x = some (-2, σ) → (x.bind fun (v1, s2) => ((f11_oneMore s2 v1).bind fun s5 => (some (v1, s5)))) = some (-2, σ) := fun x hx => by
    rw [hx, Option.bind_some]
    dsimp only
    rw [tn_no (by decide)]; rfl
  unfold f11_rowed f11_turn
  rcases q_ix x1 n with hx | ⟨c, hc, rfl⟩
  · rw [r_cA_no hC hx]
    refine ⟨-2, σ, σ, bad _ rfl, ?_, hX⟩
    unfold f12_rowed
    rw [r_iC_no hC hx]; rfl
  rw [r_cA_yes hC hc, Option.bind_some, Option.elim_some, q_h1, Option.bind_some]
  cases hq : q_wi x2 0 23 with
  | false =>
    refine ⟨-2, σ, σ, bad _ rfl, ?_, hX⟩
    unfold f12_rowed
    rw [r_iC_yes hC hc, Option.bind_some, if_pos rfl, q_h2, hq]; rfl
  | true =>
    have w := q_wiT.mp hq
    obtain ⟨u, hu, rfl, -⟩ := q_ofb (n := 24) (x := x2) (by omega) (by omega)
    obtain ⟨V, hV⟩ := hT.rule
    obtain ⟨σ1, e1, g1⟩ := tn_due1 hN hR' hV (c := c) hu (T := fun j => fF σ 50 j) (q_Ag.rf σ) (fun j hj => (hB.2.2.2 j hj).2.1 6 (by omega))
    have g1' : q_Ag (r_tn m B) σ σ1 := g1.wk tn_w0
    have hB6 : ∀ j, j < m → fF σ1 (B j) 6 = fF σ 50 j := fun j hj => by
      have := hB.ge hj
      rw [(g1.2 (B j) 6 (by unfold r_s2; omega)).1]
      exact (hB.2.2.2 j hj).2.1 6 (by omega)
    obtain ⟨σ2, e2, g2, t2⟩ := tn_one1 hR' g1' (p := tn_q V σ m c u (fun j => fF σ 50 j)) (fun q h => tn_pl h) (T := fun j => fF σ 50 j) hB6
    have g2' : q_Ag (r_tn m B) σ σ2 := g1'.tr (g2.wk tn_w1)
    have n50 : ∀ j, ¬ tn_S1 m B 50 j := fun j x => by
      obtain ⟨i, hi, x, -⟩ := x
      have := hB.ge hi
      omega
    obtain ⟨σ3, e3, g3, t3⟩ := tn_one2 hN hR' hV hc hu (T := fun j => fF σ 50 j) g2' (fun j hj => by rw [(g2.2 50 j (n50 j)).1, (g1.2 50 j (by unfold r_s2; omega)).1])
    have g3' : q_Ag (r_tn m B) σ σ3 := g2'.tr (g3.wk (fun a k x => x.elim (tn_w0 a k) (tn_w2 a k)))
    refine ⟨_, σ2, σ3, ?_, e3, n, m, tc, A, B, hR'.tn g3' (fun j hj => ?_)⟩
    · rw [if_pos rfl, e1, Option.bind_some]
      dsimp only
      rw [Option.bind_some]
      dsimp only
      rw [e2]; rfl
    · have := hB.ge hj
      rw [t3 j hj, (g3.2 (B j) 6 (fun x => by unfold r_s2 tn_S2 at x; omega)).1, t2 j hj]
section JDG
variable {n m tc : Nat} {A B : Nat → Nat} {σ0 : am_S} {V : Nat → tx_E → Int32}
/-- judging: the rule's own word, hour by hour -/
def jd_R (V : Nat → tx_E → Int32) (σ0 : am_S) (m c : Nat) (it : Nat → Int32) : Nat → Nat → (Nat → Int32) → Int32
  | 0, _, _ => -1
  | d + 1, k, T => if it k = tn_v (tn_q V σ0 m c (6 + k) T) then jd_R V σ0 m c it d (k + 1) (tn_T T (tn_q V σ0 m c (6 + k) T)) else nI (6 + k)
theorem jd_Rs {it : Nat → Int32} {c d k : Nat} {T : Nat → Int32} : jd_R V σ0 m c it (d + 1) k T = if it k = tn_v (tn_q V σ0 m c (6 + k) T) then jd_R V σ0 m c it d (k + 1) (tn_T T (tn_q V σ0 m c (6 + k) T)) else nI (6 + k) := rfl
theorem jd_sv1 {N : Nat} (hR : RR n m tc A B σ0) {x1 : Int32} {a3 : Nat} {T : Nat → Int32} : ∀ d i n' (σ : am_S), i + d = m → d < n' → q_Ag (r_tn m B) σ0 σ → (∀ j, j < m → fF σ (B j) 6 = T j) → (∀ j, j < i → fF σ 27 j = T j) → ∃ σ', f11_judge_L51 N n' x1 a3 (nI i) σ = f11_judge_J83 N x1 a3 σ' ∧ q_Ag (fun a _ => a = 27) σ σ' ∧ ∀ j, j < m → fF σ' 27 j = T j := by
  have h1 := hR.2.2.1.1
  intro d
  induction d with
  | zero =>
    intro i n' σ hi hn g hT hs
    obtain ⟨n', rfl⟩ : ∃ m, n' = m + 1 := ⟨n' - 1, by omega⟩
    have : i = m := by omega
    subst this
    refine ⟨σ, ?_, q_Ag.rf σ, hs⟩
    conv => lhs; unfold f11_judge_L51
    rw [(g.2 8 5 (r_tn_n (fun j hj => hR.2.2.1.ge hj) (by omega) (by omega) (by unfold r_sc; omega))).1, hR.2.2.1.2.1, if_pos (nI_le (Nat.le_refl _) (by omega))]
  | succ d ih =>
    intro i n' σ hi hn g hT hs
    obtain ⟨n', rfl⟩ : ∃ m, n' = m + 1 := ⟨n' - 1, by omega⟩
    have hin : i < m := by omega
    obtain ⟨-, fq, fc, -⟩ := tn_B hR g hin
    have h7 : [2, 3, 5, 6, 7, 9].contains (am_ci σ (B i)) = true := by rw [fc]; exact r_7 hR.2.2.1 hin
    have g1 : q_Ag (fun a _ => a = 27) σ (sF σ 27 i (fF σ (B i) 6)) := (q_Ag.rf σ).sF (S := fun a _ => a = 27) rfl
    obtain ⟨σ', e, g', r⟩ := ih (i + 1) n' (sF σ 27 i (fF σ (B i) 6)) (by omega) (by omega) (g.tr (g1.wk (fun a k x => Or.inl (by unfold r_sc; omega)))) (fun j hj => by
      have := hR.2.2.1.ge hj
      rw [q_FFa (by omega)]; exact hT j hj) (fun j hj => by
      by_cases c : j = i
      · rw [c, q_FFe]; exact hT i hin
      · rw [q_FFk c]; exact hs j (by omega))
    refine ⟨σ', ?_, g1.tr g', r⟩
    conv => lhs; unfold f11_judge_L51
    rw [(g.2 8 5 (r_tn_n (fun j hj => hR.2.2.1.ge hj) (by omega) (by omega) (by unfold r_sc; omega))).1, hR.2.2.1.2.1, if_neg (nI_ge hin (by omega)), if_pos (q_in (by omega) (by omega)), nI_clamp (by omega), fq, Option.elim_some, if_pos h7, if_pos (q_in (by omega) (by omega)), nI_1]
    exact e
theorem jd_sv2 {N : Nat} (hR : RR n m tc A B σ0) {x1 x2 : Int32} {T : Nat → Int32} : ∀ d i n' (σ : am_S), i + d = m → d < n' → q_Ag (r_tn m B) σ0 σ → (∀ j, j < m → fF σ 50 j = T j) → (∀ j, j < i → fF σ 55 j = T j) → ∃ σ', f12_judge_L52 N n' x1 x2 (nI i) σ = f12_judge_J78 N x1 x2 σ' ∧ q_Ag (fun a _ => a = 55) σ σ' ∧ ∀ j, j < m → fF σ' 55 j = T j := by
  have h1 := hR.2.2.1.1
  intro d
  induction d with
  | zero =>
    intro i n' σ hi hn g hT hs
    obtain ⟨n', rfl⟩ : ∃ m, n' = m + 1 := ⟨n' - 1, by omega⟩
    have : i = m := by omega
    subst this
    refine ⟨σ, ?_, q_Ag.rf σ, hs⟩
    conv => lhs; unfold f12_judge_L52
    rw [(g.2 36 21 (r_tn_n (fun j hj => hR.2.2.1.ge hj) (by omega) (by omega) (by unfold r_sc; omega))).1, hR.2.2.1.2.2.1, if_pos (nI_le (Nat.le_refl _) (by omega))]
  | succ d ih =>
    intro i n' σ hi hn g hT hs
    obtain ⟨n', rfl⟩ : ∃ m, n' = m + 1 := ⟨n' - 1, by omega⟩
    have hin : i < m := by omega
    have g1 : q_Ag (fun a _ => a = 55) σ (sF σ 55 i (fF σ 50 i)) := (q_Ag.rf σ).sF (S := fun a _ => a = 55) rfl
    obtain ⟨σ', e, g', r⟩ := ih (i + 1) n' (sF σ 55 i (fF σ 50 i)) (by omega) (by omega) (g.tr (g1.wk (fun a k x => Or.inl (by unfold r_sc; omega)))) (fun j hj => by
      rw [q_FFa (by omega)]; exact hT j hj) (fun j hj => by
      by_cases c : j = i
      · rw [c, q_FFe]; exact hT i hin
      · rw [q_FFk c]; exact hs j (by omega))
    refine ⟨σ', ?_, g1.tr g', r⟩
    conv => lhs; unfold f12_judge_L52
    rw [(g.2 36 21 (r_tn_n (fun j hj => hR.2.2.1.ge hj) (by omega) (by omega) (by unfold r_sc; omega))).1, hR.2.2.1.2.2.1, if_neg (nI_ge hin (by omega)), if_pos (q_in (by omega) (by omega)), if_pos (q_in (by omega) (by omega)), nI_clamp (by omega), nI_1]
    exact e
theorem jd_rs1 {N : Nat} (hR : RR n m tc A B σ0) {x4 : Int32} {T : Nat → Int32} : ∀ d i n' (σ : am_S), i + d = m → d < n' → q_Ag (r_tn m B) σ0 σ → (∀ j, j < m → fF σ 27 j = T j) → (∀ j, j < i → fF σ (B j) 6 = T j) → ∃ σ', f11_judge_L94 N n' x4 (nI i) σ = some (x4, σ') ∧ q_Ag (tn_S1 m B) σ σ' ∧ ∀ j, j < m → fF σ' (B j) 6 = T j := by
  have h1 := hR.2.2.1.1
  intro d
  induction d with
  | zero =>
    intro i n' σ hi hn g hT hs
    obtain ⟨n', rfl⟩ : ∃ m, n' = m + 1 := ⟨n' - 1, by omega⟩
    have : i = m := by omega
    subst this
    refine ⟨σ, ?_, q_Ag.rf σ, hs⟩
    conv => lhs; unfold f11_judge_L94
    rw [(g.2 8 5 (r_tn_n (fun j hj => hR.2.2.1.ge hj) (by omega) (by omega) (by unfold r_sc; omega))).1, hR.2.2.1.2.1, if_pos (nI_le (Nat.le_refl _) (by omega))]
  | succ d ih =>
    intro i n' σ hi hn g hT hs
    obtain ⟨n', rfl⟩ : ∃ m, n' = m + 1 := ⟨n' - 1, by omega⟩
    have hin : i < m := by omega
    obtain ⟨-, fq, fc, -⟩ := tn_B hR g hin
    have hgi := hR.2.2.1.ge hin
    have h7 : [2, 3, 5, 6, 7, 9].contains (am_ci σ (B i)) = true := by rw [fc]; exact r_7 hR.2.2.1 hin
    have g1 : q_Ag (tn_S1 m B) σ (sF σ (B i) 6 (fF σ 27 i)) := (q_Ag.rf σ).sF (S := tn_S1 m B) ⟨i, hin, rfl, rfl⟩
    obtain ⟨σ', e, g', r⟩ := ih (i + 1) n' (sF σ (B i) 6 (fF σ 27 i)) (by omega) (by omega) (g.tr (g1.wk tn_w1)) (fun j hj => by
      rw [q_FFa (by omega)]; exact hT j hj) (fun j hj => by
      by_cases c : j = i
      · rw [c, q_FFe]; exact hT i hin
      · rw [q_FFa (fun x => c ((hR.2.2.1.2.2.2 j (by omega)).2.2.2 i hin x))]; exact hs j (by omega))
    refine ⟨σ', ?_, g1.tr g', r⟩
    conv => lhs; unfold f11_judge_L94
    rw [(g.2 8 5 (r_tn_n (fun j hj => hR.2.2.1.ge hj) (by omega) (by omega) (by unfold r_sc; omega))).1, hR.2.2.1.2.1, if_neg (nI_ge hin (by omega)), if_pos (q_in (by omega) (by omega)), nI_clamp (by omega), fq, Option.elim_some, if_pos (q_in (by omega) (by omega)), if_pos h7, nI_1]
    exact e
theorem jd_rs2 {N : Nat} (hR : RR n m tc A B σ0) {x4 : Int32} {T : Nat → Int32} : ∀ d i n' (σ : am_S), i + d = m → d < n' → q_Ag (r_tn m B) σ0 σ → (∀ j, j < m → fF σ 55 j = T j) → (∀ j, j < i → fF σ 50 j = T j) → ∃ σ', f12_judge_L143 N n' x4 (nI i) σ = some (x4, σ') ∧ q_Ag (tn_S2 m) σ σ' ∧ ∀ j, j < m → fF σ' 50 j = T j := by
  have h1 := hR.2.2.1.1
  intro d
  induction d with
  | zero =>
    intro i n' σ hi hn g hT hs
    obtain ⟨n', rfl⟩ : ∃ m, n' = m + 1 := ⟨n' - 1, by omega⟩
    have : i = m := by omega
    subst this
    refine ⟨σ, ?_, q_Ag.rf σ, hs⟩
    conv => lhs; unfold f12_judge_L143
    rw [(g.2 36 21 (r_tn_n (fun j hj => hR.2.2.1.ge hj) (by omega) (by omega) (by unfold r_sc; omega))).1, hR.2.2.1.2.2.1, if_pos (nI_le (Nat.le_refl _) (by omega))]
  | succ d ih =>
    intro i n' σ hi hn g hT hs
    obtain ⟨n', rfl⟩ : ∃ m, n' = m + 1 := ⟨n' - 1, by omega⟩
    have hin : i < m := by omega
    have g1 : q_Ag (tn_S2 m) σ (sF σ 50 i (fF σ 55 i)) := (q_Ag.rf σ).sF (S := tn_S2 m) ⟨rfl, hin⟩
    obtain ⟨σ', e, g', r⟩ := ih (i + 1) n' (sF σ 50 i (fF σ 55 i)) (by omega) (by omega) (g.tr (g1.wk tn_w2)) (fun j hj => by
      rw [q_FFa (by omega)]; exact hT j hj) (fun j hj => by
      by_cases c : j = i
      · rw [c, q_FFe]; exact hT i hin
      · rw [q_FFk c]; exact hs j (by omega))
    refine ⟨σ', ?_, g1.tr g', r⟩
    conv => lhs; unfold f12_judge_L143
    rw [(g.2 36 21 (r_tn_n (fun j hj => hR.2.2.1.ge hj) (by omega) (by omega) (by unfold r_sc; omega))).1, hR.2.2.1.2.2.1, if_neg (nI_ge hin (by omega)), if_pos (q_in (by omega) (by omega)), if_pos (q_in (by omega) (by omega)), nI_clamp (by omega), nI_1]
    exact e
theorem jd_fo1 {N : Nat} (hN : 200 ≤ N) (hR : RR n m tc A B σ0) (hV : r_R V σ0) {c s z : Nat} (hs : s < 4) (hz : z ≤ 16) (ez : fF σ0 (28 + 2 * s) 1 = nI z) {it : Nat → Int32} (hit : ∀ k, k < z → fF σ0 (29 + 2 * s) k = it k) : ∀ d k n' (T : Nat → Int32) (σ : am_S), k + d = z → d < n' → q_Ag (r_tn m B) σ0 σ → (∀ j, j < m → fF σ (B j) 6 = T j) → ∃ σ', f11_firstOther_L2 N n' (nI c) (28 + 2 * s) (nI k) σ = some (jd_R V σ0 m c it d k T, σ') ∧ q_Ag (fun a k => r_s2 a k ∨ tn_S1 m B a k) σ σ' := by
  have h1 := hR.2.2.1.1
  have ng : ∀ a k, 28 ≤ a ∧ a ≤ 35 → ¬ r_tn m B a k := fun a k ha => r_tn_n (fun j hj => hR.2.2.1.ge hj) (by omega) (by omega) (by unfold r_sc; omega)
  intro d
  induction d with
  | zero =>
    intro k n' T σ hk hn g hT
    obtain ⟨n', rfl⟩ : ∃ m, n' = m + 1 := ⟨n' - 1, by omega⟩
    have : k = z := by omega
    subst this
    have k8 := (r_8 (hR.1.mv g) hs).1
    refine ⟨σ, ?_, q_Ag.rf σ⟩
    unfold f11_firstOther_L2
    rw [if_pos k8, (g.2 _ 1 (ng _ _ (by omega))).1, ez, if_pos (nI_le (Nat.le_refl _) (by omega))]; rfl
  | succ d ih =>
    intro k n' T σ hk hn g hT
    obtain ⟨n', rfl⟩ : ∃ m, n' = m + 1 := ⟨n' - 1, by omega⟩
    have hkz : k < z := by omega
    have k8 := (r_8 (hR.1.mv g) hs).1
    obtain ⟨σ1, e1, g1⟩ := tn_due1 hN hR hV (c := c) (u := 6 + k) (by omega) g hT
    have g01 : q_Ag (r_tn m B) σ0 σ1 := g.tr (g1.wk tn_w0)
    obtain ⟨k8', krq, kan⟩ := r_8 (hR.1.mv g01) hs
    have hT1 : ∀ j, j < m → fF σ1 (B j) 6 = T j := fun j hj => by
      have := hR.2.2.1.ge hj
      rw [(g1.2 (B j) 6 (by unfold r_s2; omega)).1]; exact hT j hj
    have item : f8_item σ1 (28 + 2 * s) (nI k) = some (it k) := by
      unfold f8_item
      rw [if_pos k8', r_hold k8' (by omega : z ≤ 40) (((g01.2 _ 1 (ng _ _ (by omega))).1).trans ez), nI_toInt (by omega), show (1 : Int32).toInt = 1 from rfl, Option.bind_some, if_pos (decide_eq_true (by omega)), krq, Option.elim_some, kan, if_pos (by decide), if_pos (q_in (by omega) (by omega)), nI_clamp (by omega), (g01.2 _ k (ng _ _ (by omega))).1, hit k hkz]
    unfold f11_firstOther_L2 jd_R
    rw [if_pos k8, (g.2 _ 1 (ng _ _ (by omega))).1, ez, if_neg (nI_ge hkz (by omega)), show (6 : Int32) = nI 6 from rfl, nI_add, e1, Option.bind_some]
    dsimp only
    rw [if_pos k8', item, Option.bind_some]
    by_cases ci : it k = tn_v (tn_q V σ0 m c (6 + k) T)
    · rw [if_pos ci, if_pos ci]
      obtain ⟨σ2, e2, g2, t2⟩ := tn_one1 hR g01 (p := tn_q V σ0 m c (6 + k) T) (fun q h => tn_pl h) hT1
      obtain ⟨σ3, e3, g3⟩ := ih (k + 1) n' (tn_T T (tn_q V σ0 m c (6 + k) T)) σ2 (by omega) (by omega) (g01.tr (g2.wk tn_w1)) t2
      rw [e2, Option.bind_some, nI_1, e3]
      exact ⟨σ3, rfl, (g1.wk (fun a k x => Or.inl x)).tr ((g2.wk (fun a k x => Or.inr x)).tr g3)⟩
    · rw [if_neg ci, if_neg ci]
      exact ⟨σ1, rfl, g1.wk (fun a k x => Or.inl x)⟩
theorem jd_fo2 {N : Nat} (hN : 200 ≤ N) (hR : RR n m tc A B σ0) (hV : r_R V σ0) {c s z : Nat} (hc : c < n) (hs : s < 4) (hz : z ≤ 16) (ez : fF σ0 66 s = nI z) {it : Nat → Int32} (hit : ∀ k, k < z → fF σ0 67 (40 * s + k) = it k) : ∀ d k n' (T : Nat → Int32) (σ : am_S), k + d = z → d < n' → q_Ag (r_tn m B) σ0 σ → (∀ j, j < m → fF σ 50 j = T j) → ∃ σ', f12_judge_L83 N n' (nI c) (nI s) (-1 : Int32) (nI k) σ = f12_judge_J140 N (jd_R V σ0 m c it d k T) σ' ∧ q_Ag (fun a k => r_s2 a k ∨ tn_S2 m a k) σ σ' := by
  have h1 := hR.2.2.1.1
  have ng : ∀ a k, 64 ≤ a ∧ a ≤ 67 → ¬ r_tn m B a k := fun a k ha => r_tn_n (fun j hj => hR.2.2.1.ge hj) (by omega) (by omega) (by unfold r_sc; omega)
  intro d
  induction d with
  | zero =>
    intro k n' T σ hk hn g hT
    obtain ⟨n', rfl⟩ : ∃ m, n' = m + 1 := ⟨n' - 1, by omega⟩
    have : k = z := by omega
    subst this
    refine ⟨σ, ?_, q_Ag.rf σ⟩
    conv => lhs; unfold f12_judge_L83
    rw [if_pos (q_in hs (by omega)), nI_clamp (by omega), (g.2 _ _ (ng 66 s (by omega))).1, ez, if_pos (nI_le (Nat.le_refl _) (by omega))]; rfl
  | succ d ih =>
    intro k n' T σ hk hn g hT
    obtain ⟨n', rfl⟩ : ∃ m, n' = m + 1 := ⟨n' - 1, by omega⟩
    have hkz : k < z := by omega
    obtain ⟨σ1, e1, g1, t1⟩ := tn_one2 hN hR hV hc (u := 6 + k) (by omega) g hT
    have g01 : q_Ag (r_tn m B) σ0 σ1 := g.tr (g1.wk (fun a k x => x.elim (tn_w0 a k) (tn_w2 a k)))
    conv => 
      enter [1, σ', 1, 1]
      unfold f12_judge_L83
    rw [if_pos (q_in hs (by omega)), nI_clamp (by omega), (g.2 _ _ (ng 66 s (by omega))).1, ez, if_neg (nI_ge hkz (by omega)), if_pos rfl, show (6 : Int32) = nI 6 from rfl, nI_add, e1, Option.bind_some]
    dsimp only
    rw [show (40 : Int32) = nI 40 from rfl, pk_mul, nI_add, if_pos (q_in (by omega) (by omega)), nI_clamp (by omega), (g01.2 67 _ (ng _ _ (by omega))).1, hit k hkz, nI_1]
    by_cases ci : it k = tn_v (tn_q V σ0 m c (6 + k) T)
    · rw [if_pos ci.symm]
      obtain ⟨σ3, e3, g3⟩ := ih (k + 1) n' (tn_T T (tn_q V σ0 m c (6 + k) T)) σ1 (by omega) (by omega) g01 t1
      refine ⟨σ3, ?_, g1.tr g3⟩
      rw [e3, jd_Rs, if_pos ci]
    · rw [if_neg (fun x => ci x.symm)]
      refine ⟨σ1, ?_, g1⟩
      obtain ⟨n', rfl⟩ : ∃ m, n' = m + 1 := ⟨n' - 1, by omega⟩
      conv => lhs; unfold f12_judge_L83
      rw [jd_Rs, if_pos (q_in hs (by omega)), nI_clamp (by omega), (g01.2 _ _ (ng 66 s (by omega))).1, ez, if_neg ci]
      by_cases cz : z ≤ k + 1
      · rw [if_pos (nI_le cz (by omega))]
      · rw [if_neg (nI_ge (by omega) (by omega)), if_neg (nI_m2 (by omega))]
end JDG
theorem m_judge {N : Nat} (hN : 200 ≤ N) (x1 x2 : Int32) : m_OK (fun σ => f11_judge N σ x1 x2) (fun σ => f12_judge N σ x1 x2) := by
  intro σ h
  have hX := h
  obtain ⟨n, m, tc, A, B, hR⟩ := h
  have hR' := hR
  obtain ⟨hK, hC, hB, hW, hP, hS, hT, hI⟩ := hR
  have h1 := hB.1
  dsimp only
  unfold f11_judge
  rcases q_ix x1 n with hx | ⟨c, hc, rfl⟩
  · refine ⟨-2, σ, σ, ?_, ?_, hX⟩
    · rw [r_cA_no hC hx]
      rcases q_ix x2 4 with hy | ⟨s, hs, rfl⟩
      · rw [r_sA_no hy]; rfl
      · rw [r_sA_yes hS hs]; rfl
    · unfold f12_judge
      rw [r_iC_no hC hx]; rfl
  rcases q_ix x2 4 with hy | ⟨s, hs, rfl⟩
  · refine ⟨-2, σ, σ, ?_, ?_, hX⟩
    · rw [r_cA_yes hC hc, r_sA_no hy]; rfl
    · unfold f12_judge
      rw [r_iC_yes hC hc, r_iS_no hy]; rfl
  obtain ⟨k8, krq, kan⟩ := r_8 hK hs
  obtain ⟨a1, a2⟩ := hS s hs
  rw [r_cA_yes hC hc, r_sA_yes hS hs]
  simp only [Option.bind_some, Option.elim_some]
  rw [if_pos k8, r_mis k8, Option.bind_some]
  rcases a2 with ⟨b1, b2⟩ | ⟨k, z, k1, k2, b1, b2, b3, b4, b5, b6⟩
  · rw [if_pos (decide_eq_true b1)]
    refine ⟨-11, σ, σ, rfl, ?_, hX⟩
    unfold f12_judge
    rw [r_iC_yes hC hc, Option.bind_some, if_pos rfl, r_iS_yes hs, Option.bind_some, if_pos rfl, if_pos (q_in hs (by omega)), nI_clamp (by omega), if_pos b2]
  rw [if_neg (by rw [decide_eq_true_eq, b1]; exact nI_m2 (by omega)), b4, wt_1_16, Option.bind_some]
  have mdl : ∀ σ1 : am_S, fF σ1 36 11 = nI n → fF σ1 64 s = 1 → fF σ1 66 s = nI z → f12_judge N σ1 (nI c) (nI s) = if q_wi (nI z) 1 16 = true then f12_judge_L52 N N (nI c) (nI s) (0 : Int32) σ1 else some (-2, σ1) := fun σ1 y1 y2 y3 => by
    unfold f12_judge
    rw [r_iC0_yes hC.1 y1 hc, Option.bind_some, if_pos rfl, r_iS_yes hs, Option.bind_some, if_pos rfl, if_pos (q_in hs (by omega)), nI_clamp (by omega), if_neg (by rw [y2]; decide), if_pos (q_in hs (by omega)), y3, in_1_16]
    rfl
  cases hq : q_wi (nI z) 1 16 with
  | false =>
    refine ⟨-2, σ, σ, rfl, ?_, hX⟩
    rw [mdl σ hC.2.2.1 b2 b5, hq]; rfl
  | true =>
    have w := q_wiT.mp hq
    rw [nI_toInt (by omega)] at w
    have hz : z ≤ 16 := by omega
    obtain ⟨V, hV⟩ := hT.rule
    have ge : ∀ j, j < m → 68 ≤ B j := fun j hj => hB.ge hj
    have n1 : ∀ a k, a < 68 → ¬ tn_S1 m B a k := fun a k ha x => by
      obtain ⟨i, hi, x, -⟩ := x
      have := ge i hi
      omega
    have b6' : ∀ j, j < m → fF σ (B j) 6 = fF σ 50 j := fun j hj => (hB.2.2.2 j hj).2.1 6 (by omega)
    -- the class
    obtain ⟨σ1, e1, g1, t1⟩ := jd_sv1 (N := N) hR' (x1 := nI c) (a3 := 28 + 2 * s) (T := fun j => fF σ 50 j) m 0 N σ (by omega) (by omega) (q_Ag.rf σ) b6' (fun j hj => by omega)
    have G1 : q_Ag (r_tn m B) σ σ1 := g1.wk (fun a k x => Or.inl (by unfold r_sc; omega))
    obtain ⟨σ2, e2, g2⟩ := jd_fo1 hN hR' hV (c := c) hs hz b4 (it := fun k => fF σ 67 (40 * s + k)) b6 z 0 N (fun j => fF σ 50 j) σ1 (by omega) (by omega) G1 (fun j hj => by
      have := ge j hj
      rw [(g1.2 (B j) 6 (by omega)).1]; exact b6' j hj)
    have G2 : q_Ag (r_tn m B) σ σ2 := G1.tr (g2.wk (fun a k x => x.elim (tn_w0 a k) (tn_w1 a k)))
    obtain ⟨σ3, e3, g3, t3⟩ := jd_rs1 (N := N) hR' (x4 := jd_R V σ m c (fun k => fF σ 67 (40 * s + k)) z 0 (fun j => fF σ 50 j)) (T := fun j => fF σ 50 j) m 0 N σ2 (by omega) (by omega) G2 (fun j hj => by
      rw [(g2.2 27 j (fun x => x.elim (fun y => by unfold r_s2 at y; omega) (n1 27 j (by omega)))).1]
      exact t1 j hj) (fun j hj => by omega)
    have G3 : q_Ag (r_tn m B) σ σ3 := G2.tr (g3.wk tn_w1)
    have c50 : ∀ j, fF σ3 50 j = fF σ 50 j := fun j => by
      rw [(g3.2 50 j (n1 50 j (by omega))).1, (g2.2 50 j (fun x => x.elim (fun y => by unfold r_s2 at y; omega) (n1 50 j (by omega)))).1, (g1.2 50 j (by omega)).1]
    -- the model
    obtain ⟨σ4, e4, g4, t4⟩ := jd_sv2 (N := N) hR' (x1 := nI c) (x2 := nI s) (T := fun j => fF σ 50 j) m 0 N σ3 (by omega) (by omega) G3 (fun j hj => c50 j) (fun j hj => by omega)
    have G4 : q_Ag (r_tn m B) σ σ4 := G3.tr (g4.wk (fun a k x => Or.inl (by unfold r_sc; omega)))
    obtain ⟨σ5, e5, g5⟩ := jd_fo2 hN hR' hV hc hs hz b5 (it := fun k => fF σ 67 (40 * s + k)) (fun k hk => rfl) z 0 N (fun j => fF σ 50 j) σ4 (by omega) (by omega) G4 (fun j hj => by
      rw [(g4.2 50 j (by omega)).1]; exact c50 j)
    have G5 : q_Ag (r_tn m B) σ σ5 := G4.tr (g5.wk (fun a k x => x.elim (tn_w0 a k) (tn_w2 a k)))
    obtain ⟨σ6, e6, g6, t6⟩ := jd_rs2 (N := N) hR' (x4 := jd_R V σ m c (fun k => fF σ 67 (40 * s + k)) z 0 (fun j => fF σ 50 j)) (T := fun j => fF σ 50 j) m 0 N σ5 (by omega) (by omega) G5 (fun j hj => by
      rw [(g5.2 55 j (fun x => by unfold r_s2 tn_S2 at x; omega)).1]
      exact t4 j hj) (fun j hj => by omega)
    have G6 : q_Ag (r_tn m B) σ σ6 := G5.tr (g6.wk tn_w2)
    have nt : ∀ a k, a < 68 → a ≠ 50 → ¬ r_sc a k → fF σ3 a k = fF σ a k := fun a k x y w => (G3.2 a k (r_tn_n ge x y w)).1
    refine ⟨jd_R V σ m c (fun k => fF σ 67 (40 * s + k)) z 0 (fun j => fF σ 50 j), σ3, σ6, ?_, ?_, n, m, tc, A, B, hR'.tn G6 (fun j hj => ?_)⟩
    · rw [if_pos rfl, show (0 : Int32) = nI 0 from rfl, e1]
      unfold f11_judge_J83 f11_firstOther
      rw [show (0 : Int32) = nI 0 from rfl, e2, Option.bind_some]
      exact e3
    · rw [mdl σ3 ((nt 36 11 (by omega) (by omega) (by unfold r_sc; omega)).trans hC.2.2.1) ((nt 64 s (by omega) (by omega) (by unfold r_sc; omega)).trans b2) ((nt 66 s (by omega) (by omega) (by unfold r_sc; omega)).trans b5), hq, if_pos rfl, show (0 : Int32) = nI 0 from rfl, e4]
      unfold f12_judge_J78
      rw [show (0 : Int32) = nI 0 from rfl, e5]
      exact e6
    · have := ge j hj
      rw [t6 j hj, (g6.2 (B j) 6 (fun x => by unfold tn_S2 at x; omega)).1, (g5.2 (B j) 6 (fun x => by unfold r_s2 tn_S2 at x; omega)).1, (g4.2 (B j) 6 (by omega)).1]
      exact t3 j hj
