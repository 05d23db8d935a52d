/-! TURNS: class and model tell the same two -/
def fo_ (E : Nat → Bool) (D : Nat → Int) (but : Nat) : Nat → Option Nat
  | 0 => none
  | k + 1 => if E k = true ∧ k ≠ but then (match fo_ E D but k with
    | none => some k
    | some b => if D b < D k then some k else some b) else fo_ E D but k
def fo_c (o : Option Nat) : Int32 := match o with
  | none => -1
  | some b => nI b
theorem fo_lt {E : Nat → Bool} {D : Nat → Int} {but : Nat} : ∀ k b, fo_ E D but k = some b → b < k ∧ b ≠ but
  | 0, b, h => by cases h
  | k + 1, b, h => by
    unfold fo_ at h
    by_cases c : E k = true ∧ k ≠ but
    · rw [if_pos c] at h
      cases e : fo_ E D but k with
      | none =>
        rw [e] at h
        have := Option.some.inj h
        exact ⟨by omega, by rw [← this]; exact c.2⟩
      | some b' =>
        rw [e] at h
        dsimp only at h
        have ih := fo_lt k b' e
        by_cases d : D b' < D k
        · rw [if_pos d] at h
          have := Option.some.inj h
          exact ⟨by omega, by rw [← this]; exact c.2⟩
        · rw [if_neg d] at h
          have := Option.some.inj h
          exact ⟨by omega, by rw [← this]; exact ih.2⟩
    · rw [if_neg c] at h
      have ih := fo_lt k b h
      exact ⟨by omega, ih.2⟩
theorem fo_out {E : Nat → Bool} {D : Nat → Int} {a b : Nat} : ∀ k, k ≤ a → k ≤ b → fo_ E D a k = fo_ E D b k
  | 0, _, _ => rfl
  | k + 1, h1, h2 => by
    unfold fo_
    rw [fo_out (E := E) (D := D) (a := a) (b := b) k (by omega) (by omega)]
    have e : (E k = true ∧ k ≠ a) = (E k = true ∧ k ≠ b) := by
      apply propext
      constructor
      · intro h; exact ⟨h.1, by omega⟩
      · intro h; exact ⟨h.1, by omega⟩
    simp only [e]
/-- what a step of the class's one pass keeps -/
def fo_2 (E : Nat → Bool) (D : Nat → Int) (k : Nat) : Option Nat := match fo_ E D 99 k with
  | none => none
  | some a => fo_ E D a k
theorem fo_no {E : Nat → Bool} {D : Nat → Int} {but k : Nat} (h : ¬ E k = true) : fo_ E D but (k + 1) = fo_ E D but k := by
  conv => lhs; unfold fo_
  rw [if_neg (fun y => h y.1)]
theorem fo_yes {E : Nat → Bool} {D : Nat → Int} {but k : Nat} (h : E k = true) (h2 : k ≠ but) : fo_ E D but (k + 1) = (match fo_ E D but k with
    | none => some k
    | some b => if D b < D k then some k else some b) := by
  conv => lhs; unfold fo_
  rw [if_pos ⟨h, h2⟩]
theorem fo_2s {E : Nat → Bool} {D : Nat → Int} {k : Nat} (hk : k < 99) (h : E k = true) : fo_2 E D (k + 1) = (match fo_ E D 99 k with
    | none => none
    | some a => if D a < D k then some a else (match fo_2 E D k with
      | none => some k
      | some b => if D b < D k then some k else some b)) := by
  unfold fo_2
  rw [fo_yes h (by omega)]
  cases e : fo_ E D 99 k with
  | none =>
    dsimp only
    rw [show fo_ E D k (k + 1) = fo_ E D k k by
      conv => lhs; unfold fo_
      rw [if_neg (fun y => y.2 rfl)], fo_out (a := k) (b := 99) k (Nat.le_refl _) (by omega), e]
  | some a =>
    dsimp only
    have ha := fo_lt k a e
    by_cases d : D a < D k
    · rw [if_pos d, if_pos d]
      dsimp only
      rw [show fo_ E D k (k + 1) = fo_ E D k k by
        conv => lhs; unfold fo_
        rw [if_neg (fun y => y.2 rfl)], fo_out (a := k) (b := 99) k (Nat.le_refl _) (by omega), e]
    · rw [if_neg d, if_neg d]
      dsimp only
      rw [fo_yes h (by omega)]
/-- the cells that turns touch -/
def r_tn (m : Nat) (B : Nat → Nat) (a k : Nat) : Prop := r_sc a k ∨ (∃ j, j < m ∧ a = B j ∧ k = 6) ∨ (a = 50 ∧ k < m)
theorem r_tn_n {m : Nat} {B : Nat → Nat} (hB : ∀ j, j < m → 68 ≤ B j) {a k : Nat} (ha : a < 68) (h50 : a ≠ 50) (h : ¬ r_sc a k) : ¬ r_tn m B a k := fun x => by
  rcases x with x | ⟨j, hj, x, -⟩ | x
  · exact h x
  · have := hB j hj; omega
  · exact h50 x.1
theorem RR.tn {n m tc : Nat} {A B : Nat → Nat} {σ σ' : am_S} (h : RR n m tc A B σ) (g : q_Ag (r_tn m B) σ σ') (h6 : ∀ j, j < m → fF σ' (B j) 6 = fF σ' 50 j) : RR n m tc A B σ' := by
  obtain ⟨hK, hC, hB, hW, hP, hS, hT, hI⟩ := h
  have ge : ∀ j, j < m → 68 ≤ B j := fun j hj => hB.ge hj
  have n1 : ∀ a k, a < 68 → a ≠ 50 → ¬ r_sc a k → ¬ r_tn m B a k := fun a k => r_tn_n ge
  refine ⟨hK.mv g, hC.mv g ?_, hB.it g ?_ ?_, hW.mv g ?_, hP.mv g ?_, hS.mv g ?_, hT.mv g ?_, hI.mv g (Nat.le_refl _) (Nat.le_refl _) (Nat.le_refl _) (fun _ _ => rfl) (fun _ _ => rfl) ?_⟩
  · rintro a k hc
    rcases hc with h | h | h | h | ⟨i, hi, h, hk⟩
    · exact n1 a k (by omega) (by omega) (by unfold r_sc; omega)
    · exact n1 a k (by omega) (by omega) (by unfold r_sc; omega)
    · exact n1 a k (by omega) (by omega) (by unfold r_sc; omega)
    · exact n1 a k (by omega) (by omega) (by unfold r_sc; omega)
    · have := hC.ge hi
      rintro (x | x | x)
      · unfold r_sc at x; omega
      · omega
      · omega
  · intro a k hc h49 h5 x
    rcases x with x | ⟨j, hj, x, hk⟩ | x
    · rcases hc with h | h | h | h | ⟨i, hi, h, hk⟩
      · unfold r_sc at x; omega
      · unfold r_sc at x; omega
      · unfold r_sc at x; omega
      · unfold r_sc at x; omega
      · have := hB.ge hi
        unfold r_sc at x; omega
    · exact h5 (Or.inr hk) j hj x
    · exact h49.2 x.1
  · intro j hj
    have hgj := hB.ge hj
    obtain ⟨-, b, ⟨-, -, -, -, c5⟩, -⟩ := hB.2.2.2 j hj
    have e5 : fF σ' (B j) 5 = fF σ (B j) 5 := (g.2 (B j) 5 (fun x => by
      rcases x with x | ⟨j', hj', x, hk⟩ | x
      · unfold r_sc at x; omega
      · omega
      · omega)).1
    have e49 : fF σ' 49 j = fF σ 49 j := (g.2 49 j (n1 49 j (by omega) (by omega) (by unfold r_sc; omega))).1
    rw [e5, e49]
    exact ⟨b 5 (by omega), h6 j hj, c5⟩
  · intro a k h; unfold r_Wc at h; exact n1 a k (by omega) (by omega) (by unfold r_sc; omega)
  · intro a k h; unfold r_Pc at h; exact n1 a k (by omega) (by omega) (by unfold r_sc; omega)
  · intro a k h; unfold r_Sc at h; exact n1 a k (by omega) (by omega) (by unfold r_sc; omega)
  · intro a k h; unfold r_Tc at h; exact n1 a k (by omega) (by omega) (by unfold r_sc; omega)
  · rintro a k hc
    rcases hc with h | h | h | ⟨i, hi, h, hk⟩ | ⟨i, hi, h, hk⟩
    · exact n1 a k (by omega) (by omega) (by unfold r_sc; omega)
    · exact n1 a k (by omega) (by omega) (by unfold r_sc; omega)
    · exact n1 a k (by omega) (by omega) (by unfold r_sc; omega)
    · have := hC.ge hi
      rintro (x | ⟨j, hj, x, -⟩ | x)
      · unfold r_sc at x; omega
      · exact r_ne hC hB hi hj (h.symm.trans x)
      · omega
    · have := hB.ge hi
      rintro (x | ⟨j, hj, x, hk'⟩ | x)
      · unfold r_sc at x; omega
      · omega
      · omega
section TRN
variable {n m tc : Nat} {A B : Nat → Nat} {σ0 : am_S} {V : Nat → tx_E → Int32}
theorem tn_R (hR : RR n m tc A B σ0) (hV : r_R V σ0) {σ : am_S} (g : q_Ag (r_tn m B) σ0 σ) : r_R V σ ∧ r_W σ ∧ fF σ 8 5 = nI m ∧ fF σ 36 21 = nI m ∧ (∀ k h2 h3 h4 h5, r_v V σ k h2 h3 h4 h5 = r_v V σ0 k h2 h3 h4 h5) := by
  obtain ⟨hK, hC, hB, hW, hP, hS, hT, hI⟩ := hR
  have n1 : ∀ a k, a < 68 → a ≠ 50 → ¬ r_sc a k → ¬ r_tn m B a k := fun a k => r_tn_n (fun j hj => hB.ge hj)
  obtain ⟨r, h1, h2, h3, h4⟩ := hV
  refine ⟨⟨r, h1, ?_, ?_, h4.mv g (fun a k x => by unfold r_Tc at x; exact n1 a k (by omega) (by omega) (by unfold r_sc; omega))⟩, hW.mv g (fun a k x => by unfold r_Wc at x; exact n1 a k (by omega) (by omega) (by unfold r_sc; omega)), ?_, ?_, ?_⟩
  · exact (g.2 11 5 (n1 _ _ (by omega) (by omega) (by unfold r_sc; omega))).1.trans h2
  · exact (g.2 36 4 (n1 _ _ (by omega) (by omega) (by unfold r_sc; omega))).1.trans h3
  · exact (g.2 8 5 (n1 _ _ (by omega) (by omega) (by unfold r_sc; omega))).1.trans hB.2.1
  · exact (g.2 36 21 (n1 _ _ (by omega) (by omega) (by unfold r_sc; omega))).1.trans hB.2.2.1
  · intro k h2 h3 h4 h5
    unfold r_v
    rw [(g.2 36 12 (n1 _ _ (by omega) (by omega) (by unfold r_sc; omega))).1, (g.2 36 13 (n1 _ _ (by omega) (by omega) (by unfold r_sc; omega))).1]
theorem tn_B (hR : RR n m tc A B σ0) {σ : am_S} (g : q_Ag (r_tn m B) σ0 σ) {j : Nat} (hj : j < m) : (∀ k, k ≠ 6 → fF σ (B j) k = fF σ0 (B j) k) ∧ fQ σ 10 j = some (B j) ∧ am_ci σ (B j) = am_ci σ0 (B j) ∧ (∀ a, 44 ≤ a ∧ a ≤ 49 → fF σ a j = fF σ0 a j) := by
  obtain ⟨hK, hC, hB, hW, hP, hS, hT, hI⟩ := hR
  have hgj := hB.ge hj
  have n1 : ∀ a k, a < 68 → a ≠ 50 → ¬ r_sc a k → ¬ r_tn m B a k := fun a k => r_tn_n (fun j hj => hB.ge hj)
  obtain ⟨⟨-, a2, k, hk, -, a4⟩, -⟩ := hB.2.2.2 j hj
  refine ⟨fun k hk => (g.2 (B j) k (fun x => ?_)).1, ?_, ?_, fun a ha => (g.2 a j (n1 _ _ (by omega) (by omega) (by unfold r_sc; omega))).1⟩
  · rcases x with x | ⟨j', -, -, x⟩ | x
    · unfold r_sc at x; omega
    · omega
    · omega
  · exact (g.2 10 j (n1 _ _ (by omega) (by omega) (by unfold r_sc; omega))).2.trans a2
  · rw [a4]; exact g.ci a4 (r_kc_ne k)
def tn_E (σ0 : am_S) (c u j : Nat) : Bool := (decide (fF σ0 44 j = 4) || decide (fF σ0 47 j = nI c)) && (f12_may σ0 (nI j) (nI u)).getD false
def tn_D (V : Nat → tx_E → Int32) (σ0 : am_S) (T : Nat → Int32) (u j : Nat) : Int := (r_v V σ0 2 0 (fF σ0 45 j) (nI u) (T j)).toInt
theorem tn_may (hR : RR n m tc A B σ0) {σ : am_S} (g : q_Ag (r_tn m B) σ0 σ) {j u : Nat} (hj : j < m) (hu : u < 24) : d_may σ (B j) (nI u) = some ((f12_may σ0 (nI j) (nI u)).getD false) ∧ f12_may σ (nI j) (nI u) = some ((f12_may σ0 (nI j) (nI u)).getD false) := by
  have hR' := hR
  obtain ⟨hK, hC, hB, hW, hP, hS, hT, hI⟩ := hR
  have h1 := hB.1
  obtain ⟨b, e1, e2⟩ := m_may hB hj hu
  obtain ⟨f1, -, fc, f4⟩ := tn_B hR' g hj
  rw [e2]
  refine ⟨?_, ?_⟩
  · show _ = some b
    rw [← e1]
    simp only [d_may, f2_may, f3_may, f5_may, f9_may, f6_may, f7_may, f7_isIll, fc, f1 1 (by decide), f1 2 (by decide), f1 5 (by decide)]
  · show _ = some b
    rw [← e2]
    unfold f12_may
    rw [nI_clamp (by omega), f4 44 (by omega), f4 45 (by omega), f4 46 (by omega), f4 49 (by omega)]
theorem tn_rows (hR : RR n m tc A B σ0) {σ : am_S} (g : q_Ag (r_tn m B) σ0 σ) {j : Nat} (hj : j < m) (c : Nat) : d_rowsAt σ (B j) (nI c) = some (decide (fF σ0 44 j = 4) || decide (fF σ0 47 j = nI c)) := by
  have hR' := hR
  obtain ⟨hK, hC, hB, hW, hP, hS, hT, hI⟩ := hR
  obtain ⟨f1, -, fc, f4⟩ := tn_B hR' g hj
  obtain ⟨⟨-, -, k, hk, a3, a4⟩, e3, -⟩ := hB.2.2.2 j hj
  have f7 : f7_rowsAt σ (B j) (nI c) = some (decide (fF σ0 47 j = nI c)) := by
    unfold f7_rowsAt
    rw [fc, if_pos (r_7 hB hj), f1 3 (by decide), e3 3 (by omega)]
    show (if fF σ0 47 j = nI c then some true else some false) = _
    by_cases d : fF σ0 47 j = nI c
    · rw [if_pos d, decide_eq_true d]
    · rw [if_neg d, decide_eq_false d]
  unfold d_rowsAt f9_rowsAt
  rw [fc, a4, f7, a3]
  have hv : k = 0 ∨ k = 1 ∨ k = 2 ∨ k = 3 ∨ k = 4 ∨ k = 5 := by omega
  rcases hv with rfl | rfl | rfl | rfl | rfl | rfl
  · rw [decide_eq_false (show ¬ nI 0 = (4 : Int32) by decide)]; rfl
  · rw [decide_eq_false (show ¬ nI 1 = (4 : Int32) by decide)]; rfl
  · rw [decide_eq_false (show ¬ nI 2 = (4 : Int32) by decide)]; rfl
  · rw [decide_eq_false (show ¬ nI 3 = (4 : Int32) by decide)]; rfl
  · rw [decide_eq_true (show nI 4 = (4 : Int32) by decide)]; rfl
  · rw [decide_eq_false (show ¬ nI 5 = (4 : Int32) by decide)]; rfl
/-- the two, lesser first; what is told of them -/
def tn_p (E : Nat → Bool) (D : Nat → Int) (m : Nat) : Option (Nat × Nat) := match fo_ E D 99 m with
  | none => none
  | some a => match fo_ E D a m with
    | none => none
    | some b => if a < b then some (a, b) else some (b, a)
def tn_v (p : Option (Nat × Nat)) : Int32 := match p with
  | none => -1
  | some q => nI (20 * q.1 + q.2)
theorem tn_pl {E : Nat → Bool} {D : Nat → Int} {m : Nat} {q : Nat × Nat} (h : tn_p E D m = some q) : q.1 < q.2 ∧ q.2 < m := by
  unfold tn_p at h
  cases e1 : fo_ E D 99 m with
  | none => rw [e1] at h; cases h
  | some a =>
    rw [e1] at h
    dsimp only at h
    cases e2 : fo_ E D a m with
    | none => rw [e2] at h; cases h
    | some b =>
      rw [e2] at h
      dsimp only at h
      have h1 := fo_lt m a e1
      have h2 := fo_lt m b e2
      by_cases c : a < b
      · rw [if_pos c] at h
        have := Option.some.inj h
        subst this
        exact ⟨c, h2.1⟩
      · rw [if_neg c] at h
        have := Option.some.inj h
        subst this
        exact ⟨by show b < a; omega, h1.1⟩
theorem tn_cls {N : Nat} (hN : 200 ≤ N) (hR : RR n m tc A B σ0) (hV : r_R V σ0) {c u : Nat} (hu : u < 24) {T : Nat → Int32} : ∀ d i n' (x5 x6 : Int32) (σ : am_S), i + d = m → d < n' → q_Ag (r_tn m B) σ0 σ → (∀ j, j < m → fF σ (B j) 6 = T j) → (∀ a, fo_ (tn_E σ0 c u) (tn_D V σ0 T u) 99 i = some a → x5.toInt = tn_D V σ0 T u a) → (∀ a, fo_2 (tn_E σ0 c u) (tn_D V σ0 T u) i = some a → x6.toInt = tn_D V σ0 T u a) → ∃ σ', f11_dueTwo_L14 N n' (nI c) (nI u) (fo_c (fo_ (tn_E σ0 c u) (tn_D V σ0 T u) 99 i)) (fo_c (fo_2 (tn_E σ0 c u) (tn_D V σ0 T u) i)) x5 x6 (nI i) σ = some (tn_v (tn_p (tn_E σ0 c u) (tn_D V σ0 T u) m), σ') ∧ q_Ag r_s2 σ σ' := by
  have hR' := hR
  obtain ⟨hK, hC, hB, hW, hP, hS, hT, hI⟩ := hR
  have h1 := hB.1
  intro d
  induction d with
  | zero =>
    intro i n' x5 x6 σ hi hn g hT5 h5 h6
    obtain ⟨n', rfl⟩ : ∃ m, n' = m + 1 := ⟨n' - 1, by omega⟩
    have : i = m := by omega
    subst this
    obtain ⟨-, -, e5, -⟩ := tn_R hR' hV g
    refine ⟨σ, ?_, q_Ag.rf σ⟩
    unfold f11_dueTwo_L14 f11_dueTwo_J129
    rw [e5, if_pos (nI_le (Nat.le_refl _) (by omega))]
    unfold fo_2 tn_p
    obtain ⟨o1, e1⟩ : ∃ o, fo_ (tn_E σ0 c u) (tn_D V σ0 T u) 99 i = o := ⟨_, rfl⟩
    rw [e1]
    cases o1 with
    | none => dsimp only; rw [if_pos (show fo_c none = -1 from rfl)]; rfl
    | some a =>
      dsimp only
      have ha := fo_lt i a e1
      obtain ⟨o2, e2⟩ : ∃ o, fo_ (tn_E σ0 c u) (tn_D V σ0 T u) a i = o := ⟨_, rfl⟩
      simp only [e2]
      cases o2 with
      | none => dsimp only; rw [if_pos (show fo_c none = -1 from rfl)]; rfl
      | some b =>
        dsimp only
        have hb := fo_lt i b e2
        rw [if_neg (show ¬ fo_c (some b) = -1 from nI_m1 (by omega))]
        show some ((20 : Int32) * (if nI b < nI a then nI b else nI a) + (if nI a < nI b then nI b else nI a), σ) = _
        by_cases cab : a < b
        · rw [if_neg (nI_nlt (by omega) (by omega)), if_pos (nI_lt cab (by omega)), if_pos cab, show (20 : Int32) = nI 20 from rfl, pk_mul, nI_add]; rfl
        · rw [if_pos (nI_lt (by omega) (by omega)), if_neg (nI_nlt (by omega) (by omega)), if_neg cab, show (20 : Int32) = nI 20 from rfl, pk_mul, nI_add]; rfl
  | succ d ih =>
    intro i n' x5 x6 σ hi hn g hT5 h5 h6
    obtain ⟨n', rfl⟩ : ∃ m, n' = m + 1 := ⟨n' - 1, by omega⟩
    have hin : i < m := by omega
    obtain ⟨hV1, hW1, e5, -, ev⟩ := tn_R hR' hV g
    obtain ⟨f1, fq, fc, f4⟩ := tn_B hR' g hin
    have h7 : [2, 3, 5, 6, 7, 9].contains (am_ci σ (B i)) = true := by rw [fc]; exact r_7 hB hin
    unfold f11_dueTwo_L14
    rw [e5, if_neg (nI_ge hin (by omega)), if_pos (q_in (by omega) (by omega)), nI_clamp (by omega), fq, Option.elim_some, if_pos h7, tn_rows hR' g hin c, Option.bind_some, (tn_may hR' g hin hu).1, Option.bind_some, nI_1]
    have skip : ¬ tn_E σ0 c u i = true → ∃ σ', f11_dueTwo_L14 N n' (nI c) (nI u) (fo_c (fo_ (tn_E σ0 c u) (tn_D V σ0 T u) 99 i)) (fo_c (fo_2 (tn_E σ0 c u) (tn_D V σ0 T u) i)) x5 x6 (nI (i + 1)) σ = some (tn_v (tn_p (tn_E σ0 c u) (tn_D V σ0 T u) m), σ') ∧ q_Ag r_s2 σ σ' := fun hE => by
      have k1 : fo_ (tn_E σ0 c u) (tn_D V σ0 T u) 99 (i + 1) = fo_ (tn_E σ0 c u) (tn_D V σ0 T u) 99 i := fo_no hE
      have k2 : fo_2 (tn_E σ0 c u) (tn_D V σ0 T u) (i + 1) = fo_2 (tn_E σ0 c u) (tn_D V σ0 T u) i := by
        unfold fo_2
        rw [k1]
        cases fo_ (tn_E σ0 c u) (tn_D V σ0 T u) 99 i with
        | none => rfl
        | some a => exact fo_no hE
      have := ih (i + 1) n' x5 x6 σ (by omega) (by omega) g hT5 (by rw [k1]; exact h5) (by rw [k2]; exact h6)
      rw [k1, k2] at this
      exact this
    by_cases c1 : (decide (fF σ0 44 i = 4) || decide (fF σ0 47 i = nI c)) = true
    · rw [if_pos c1]
      by_cases c2 : (f12_may σ0 (nI i) (nI u)).getD false = true
      · rw [if_pos c2]
        have hE : tn_E σ0 c u i = true := by
          unfold tn_E
          rw [c1, c2]; rfl
        obtain ⟨σ1, r1, g1⟩ := r_by2 hN hV1 hW1 (k := 2) (by decide) 0 (fF σ (B i) 1) (nI u) (fF σ (B i) 6)
        have eD : r_v V σ 2 0 (fF σ (B i) 1) (nI u) (fF σ (B i) 6) = r_v V σ0 2 0 (fF σ0 45 i) (nI u) (T i) := by
          rw [ev, f1 1 (by decide), hT5 i hin, (hB.2.2.2 i hin).2.1 1 (by omega)]
        rw [eD] at r1
        rw [show (8 : Int32) = nI (6 + 2) from rfl, r1, Option.bind_some]
        dsimp only
        have g01 : q_Ag (r_tn m B) σ0 σ1 := g.tr (g1.wk (fun a k x => Or.inl (r_s2_sc a k x)))
        have hT1 : ∀ j, j < m → fF σ1 (B j) 6 = T j := fun j hj => by
          have := hB.ge hj
          rw [(g1.2 (B j) 6 (by unfold r_s2; omega)).1]; exact hT5 j hj
        have k1 := fo_yes (E := tn_E σ0 c u) (D := tn_D V σ0 T u) (but := 99) (k := i) hE (by omega)
        have k2 := fo_2s (E := tn_E σ0 c u) (D := tn_D V σ0 T u) (k := i) (by omega) hE
        have dd : (r_v V σ0 2 0 (fF σ0 45 i) (nI u) (T i)).toInt = tn_D V σ0 T u i := rfl
        generalize r_v V σ0 2 0 (fF σ0 45 i) (nI u) (T i) = v15 at dd
        have go : ∀ (y3 y4 y5 y6 : Int32), y3 = fo_c (fo_ (tn_E σ0 c u) (tn_D V σ0 T u) 99 (i + 1)) → y4 = fo_c (fo_2 (tn_E σ0 c u) (tn_D V σ0 T u) (i + 1)) → (∀ a, fo_ (tn_E σ0 c u) (tn_D V σ0 T u) 99 (i + 1) = some a → y5.toInt = tn_D V σ0 T u a) → (∀ a, fo_2 (tn_E σ0 c u) (tn_D V σ0 T u) (i + 1) = some a → y6.toInt = tn_D V σ0 T u a) → ∃ σ', f11_dueTwo_L14 N n' (nI c) (nI u) y3 y4 y5 y6 (nI (i + 1)) σ1 = some (tn_v (tn_p (tn_E σ0 c u) (tn_D V σ0 T u) m), σ') ∧ q_Ag r_s2 σ σ' := fun y3 y4 y5 y6 z3 z4 z5 z6 => by
          subst z3; subst z4
          obtain ⟨σ', e, g'⟩ := ih (i + 1) n' y5 y6 σ1 (by omega) (by omega) g01 hT1 z5 z6
          exact ⟨σ', e, g1.tr g'⟩
        cases e1 : fo_ (tn_E σ0 c u) (tn_D V σ0 T u) 99 i with
        | none =>
          rw [e1] at k1 k2
          dsimp only at k1 k2
          have e2 : fo_2 (tn_E σ0 c u) (tn_D V σ0 T u) i = none := by unfold fo_2; rw [e1]
          rw [if_pos (show fo_c none = -1 from rfl)]
          refine go _ _ _ _ (by rw [k1]; rfl) (by rw [k2]) (fun a ha => ?_) (fun a ha => ?_)
          · rw [k1] at ha
            have := Option.some.inj ha
            rw [← this]; exact dd
          · rw [k2] at ha; cases ha
        | some a =>
          rw [e1] at k1 k2
          dsimp only at k1 k2
          have ha := fo_lt i a e1
          have x5a := h5 a e1
          rw [if_neg (show ¬ fo_c (some a) = -1 from nI_m1 (by omega))]
          by_cases d1 : tn_D V σ0 T u a < tn_D V σ0 T u i
          · rw [if_pos d1] at k1 k2
            rw [if_neg (fun y => by have := q_le.mp y; omega)]
            refine go _ _ _ _ (by rw [k1]; rfl) (by rw [k2]) (fun b hb => ?_) (fun b hb => ?_)
            · rw [k1] at hb
              have := Option.some.inj hb
              rw [← this]; exact dd
            · rw [k2] at hb
              have := Option.some.inj hb
              rw [← this]; exact x5a
          · rw [if_neg d1] at k1 k2
            rw [if_pos (q_le.mpr (by omega))]
            have z5 : ∀ b, fo_ (tn_E σ0 c u) (tn_D V σ0 T u) 99 (i + 1) = some b → x5.toInt = tn_D V σ0 T u b := fun b hb => by
              rw [k1] at hb
              have := Option.some.inj hb
              rw [← this]; exact x5a
            cases e2 : fo_2 (tn_E σ0 c u) (tn_D V σ0 T u) i with
            | none =>
              rw [e2] at k2
              dsimp only at k2
              rw [if_pos (show fo_c none = -1 from rfl)]
              refine go _ _ _ _ (by rw [k1]) (by rw [k2]; rfl) z5 (fun b hb => ?_)
              rw [k2] at hb
              have := Option.some.inj hb
              rw [← this]; exact dd
            | some b =>
              rw [e2] at k2
              dsimp only at k2
              have x6b := h6 b e2
              have hb : b < i := by
                unfold fo_2 at e2
                rw [e1] at e2
                exact (fo_lt i b e2).1
              rw [if_neg (show ¬ fo_c (some b) = -1 from nI_m1 (by omega))]
              by_cases d2 : tn_D V σ0 T u b < tn_D V σ0 T u i
              · rw [if_pos d2] at k2
                rw [if_neg (fun y => by have := q_le.mp y; omega)]
                refine go _ _ _ _ (by rw [k1]) (by rw [k2]; rfl) z5 (fun b' hb' => ?_)
                rw [k2] at hb'
                have := Option.some.inj hb'
                rw [← this]; exact dd
              · rw [if_neg d2] at k2
                rw [if_pos (q_le.mpr (by omega))]
                refine go _ _ _ _ (by rw [k1]) (by rw [k2]) z5 (fun b' hb' => ?_)
                rw [k2] at hb'
                have := Option.some.inj hb'
                rw [← this]; exact x6b
      · rw [if_neg c2]
        exact skip (fun y => by unfold tn_E at y; rw [Bool.and_eq_true] at y; exact c2 y.2)
    · rw [if_neg c1]
      exact skip (fun y => by unfold tn_E at y; rw [Bool.and_eq_true] at y; exact c1 y.1)
theorem tn_mdl {N : Nat} (hN : 200 ≤ N) (hR : RR n m tc A B σ0) (hV : r_R V σ0) {c u but : Nat} (hbut : but < 1000) (xb : Int32) (hxb : ∀ i, i < m → (nI i = xb ↔ i = but)) (hu : u < 24) {T : Nat → Int32} : ∀ d i n' (σ : am_S), i + d = m → d < n' → q_Ag (r_tn m B) σ0 σ → (∀ j, j < m → fF σ 50 j = T j) → ∃ σ', f12_foremost_L6 N n' (nI c) (nI u) xb (fo_c (fo_ (tn_E σ0 c u) (tn_D V σ0 T u) but i)) (nI i) σ = some (fo_c (fo_ (tn_E σ0 c u) (tn_D V σ0 T u) but m), σ') ∧ q_Ag r_s2 σ σ' := by
  have hR' := hR
  obtain ⟨hK, hC, hB, hW, hP, hS, hT, hI⟩ := hR
  have h1 := hB.1
  intro d
  induction d with
  | zero =>
    intro i n' σ hi hn g hT5
    obtain ⟨n', rfl⟩ : ∃ m, n' = m + 1 := ⟨n' - 1, by omega⟩
    have : i = m := by omega
    subst this
    obtain ⟨-, -, -, e5, -⟩ := tn_R hR' hV g
    refine ⟨σ, ?_, q_Ag.rf σ⟩
    unfold f12_foremost_L6
    rw [e5, if_pos (nI_le (Nat.le_refl _) (by omega))]
  | succ d ih =>
    intro i n' σ hi hn g hT5
    obtain ⟨n', rfl⟩ : ∃ m, n' = m + 1 := ⟨n' - 1, by omega⟩
    have hin : i < m := by omega
    obtain ⟨hV1, hW1, -, e5, ev⟩ := tn_R hR' hV g
    obtain ⟨f1, fq, fc, f4⟩ := tn_B hR' g hin
    unfold f12_foremost_L6
    rw [e5, if_neg (nI_ge hin (by omega)), nI_1]
    have skip : ¬ (tn_E σ0 c u i = true ∧ i ≠ but) → ∃ σ', f12_foremost_L6 N n' (nI c) (nI u) xb (fo_c (fo_ (tn_E σ0 c u) (tn_D V σ0 T u) but i)) (nI (i + 1)) σ = some (fo_c (fo_ (tn_E σ0 c u) (tn_D V σ0 T u) but m), σ') ∧ q_Ag r_s2 σ σ' := fun hE => by
      have k1 : fo_ (tn_E σ0 c u) (tn_D V σ0 T u) but (i + 1) = fo_ (tn_E σ0 c u) (tn_D V σ0 T u) but i := by
        conv => lhs; unfold fo_
        rw [if_neg hE]
      have := ih (i + 1) n' σ (by omega) (by omega) g hT5
      rw [k1] at this
      exact this
    by_cases cb : i = but
    · rw [if_pos ((hxb i hin).mpr cb)]
      exact skip (fun y => y.2 cb)
    rw [if_neg (fun y => cb ((hxb i hin).mp y)), (tn_may hR' g hin hu).2, Option.bind_some, if_pos (q_in (by omega) (by omega)), nI_clamp (by omega), f4 47 (by omega), f4 44 (by omega), if_pos (q_in (by omega) (by omega))]
    by_cases c2 : (f12_may σ0 (nI i) (nI u)).getD false = true
    · rw [if_pos c2]
      -- what is done with one that may row here
      have take : tn_E σ0 c u i = true → ∃ σ', (if fo_c (fo_ (tn_E σ0 c u) (tn_D V σ0 T u) but i) = (-1 : Int32) then (f12_foremost_L6 N n' (nI c) (nI u) xb (nI i) (nI (i + 1)) σ) else ((f12_dueOf N σ (nI i) (nI u)).bind fun (v10, s11) => ((f12_dueOf N s11 (fo_c (fo_ (tn_E σ0 c u) (tn_D V σ0 T u) but i)) (nI u)).bind fun (v13, s14) => (if v10 ≤ v13 then (f12_foremost_L6 N n' (nI c) (nI u) xb (fo_c (fo_ (tn_E σ0 c u) (tn_D V σ0 T u) but i)) (nI (i + 1)) s14) else (f12_foremost_L6 N n' (nI c) (nI u) xb (nI i) (nI (i + 1)) s14))))) = some (fo_c (fo_ (tn_E σ0 c u) (tn_D V σ0 T u) but m), σ') ∧ q_Ag r_s2 σ σ' := fun hE => by
        have k1 := fo_yes (E := tn_E σ0 c u) (D := tn_D V σ0 T u) (but := but) (k := i) hE cb
        cases e1 : fo_ (tn_E σ0 c u) (tn_D V σ0 T u) but i with
        | none =>
          rw [e1] at k1
          dsimp only at k1
          rw [if_pos (show fo_c none = -1 from rfl)]
          have := ih (i + 1) n' σ (by omega) (by omega) g hT5
          rw [k1] at this
          exact this
        | some b =>
          rw [e1] at k1
          dsimp only at k1
          have hb := fo_lt i b e1
          obtain ⟨σ1, r1, g1⟩ := r_du2 hN hV1 (i := i) (by omega) (nI u)
          obtain ⟨σ2, r2, g2⟩ := r_du2 hN (hV1.fr (g1.wk r_s2_sc)) (i := b) (by omega) (nI u)
          have fb4 := (tn_B hR' g (show b < m by omega)).2.2.2
          have v1 : (r_v V σ 2 0 (fF σ 45 i) (nI u) (fF σ 50 i)).toInt = tn_D V σ0 T u i := by
            rw [ev, f4 45 (by omega), hT5 i hin]; rfl
          have v2 : (r_v V σ1 2 0 (fF σ1 45 b) (nI u) (fF σ1 50 b)).toInt = tn_D V σ0 T u b := by
            rw [r_v.fr (g1.wk r_s2_sc), ev, (g1.2 45 b (by unfold r_s2; omega)).1, (g1.2 50 b (by unfold r_s2; omega)).1, fb4 45 (by omega), hT5 b (by omega)]; rfl
          rw [if_neg (show ¬ fo_c (some b) = -1 from nI_m1 (by omega)), r1, Option.bind_some]
          dsimp only
          rw [show fo_c (some b) = nI b from rfl, r2, Option.bind_some]
          dsimp only
          have g12 := g1.tr g2
          have go := ih (i + 1) n' σ2 (by omega) (by omega) (g.tr (g12.wk (fun a k x => Or.inl (r_s2_sc a k x)))) (fun j hj => by rw [(g12.2 50 j (by unfold r_s2; omega)).1]; exact hT5 j hj)
          rw [k1] at go
          by_cases d1 : tn_D V σ0 T u b < tn_D V σ0 T u i
          · rw [if_pos d1] at go
            rw [if_neg (fun y => by have := q_le.mp y; omega)]
            obtain ⟨σ', e, g'⟩ := go
            exact ⟨σ', e, g12.tr g'⟩
          · rw [if_neg d1] at go
            rw [if_pos (q_le.mpr (by omega))]
            obtain ⟨σ', e, g'⟩ := go
            exact ⟨σ', e, g12.tr g'⟩
      by_cases c3 : fF σ0 47 i = nI c
      · rw [if_pos c3]
        exact take (by unfold tn_E; rw [c2, decide_eq_true c3, Bool.or_true]; rfl)
      · rw [if_neg c3]
        by_cases c4 : fF σ0 44 i = 4
        · rw [if_pos c4]
          exact take (by unfold tn_E; rw [c2, decide_eq_true c4, Bool.true_or]; rfl)
        · rw [if_neg c4]
          exact skip (fun y => by
            have := y.1
            unfold tn_E at this
            rw [decide_eq_false c3, decide_eq_false c4] at this
            exact absurd this (by simp))
    · rw [if_neg c2]
      exact skip (fun y => by have := y.1; unfold tn_E at this; rw [Bool.and_eq_true] at this; exact c2 this.2)
end TRN
