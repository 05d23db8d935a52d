/-! THE MATHEMATICS: looking things up; the relation between the class's cells and the model's -/
theorem i_ext {x y : Int32} (h : x.toInt = y.toInt) : x = y := Int32.toInt_inj.mp h
theorem q_wt {x lo hi : Int32} (a b : Int) (ha : lo.toInt = a) (hb : hi.toInt = b) : f11_within x lo hi = some (q_wi x a b) := by
  unfold f11_within q_wi
  by_cases h1 : x < lo
  · rw [if_pos h1, decide_eq_false]
    rw [q_lt] at h1
    omega
  · rw [if_neg h1]
    by_cases h2 : hi < x
    · rw [if_pos h2, decide_eq_false]
      rw [q_lt] at h2
      omega
    · rw [if_neg h2, decide_eq_true]
      rw [q_lt] at h1 h2
      omega
theorem l_lt {x y : Int64} : x < y ↔ x.toInt < y.toInt := Int64.lt_iff_toInt_lt
theorem l_cm {x y : Int64} : (lg_cmp x y < 0 ↔ x.toInt < y.toInt) ∧ (0 < lg_cmp x y ↔ y.toInt < x.toInt) ∧ (lg_cmp x y = 0 ↔ x = y) ∧ (0 ≤ lg_cmp x y ↔ y.toInt ≤ x.toInt) := by
  unfold lg_cmp
  by_cases h1 : x > y
  · rw [if_pos h1]
    have h1' : y.toInt < x.toInt := l_lt.mp h1
    refine ⟨⟨fun h => absurd h (by decide), fun h => by omega⟩, ⟨fun _ => h1', fun _ => by decide⟩, ⟨fun h => absurd h (by decide), fun h => by subst h; omega⟩, ⟨fun _ => by omega, fun _ => by decide⟩⟩
  · rw [if_neg h1]
    have h1' : ¬ y.toInt < x.toInt := fun h => h1 (l_lt.mpr h)
    by_cases h2 : x = y
    · rw [if_pos h2]
      subst h2
      refine ⟨⟨fun h => absurd h (by decide), fun h => by omega⟩, ⟨fun h => absurd h (by decide), fun h => by omega⟩, ⟨fun _ => rfl, fun _ => rfl⟩, ⟨fun _ => by omega, fun _ => by decide⟩⟩
    · rw [if_neg h2]
      have h3 : x.toInt ≠ y.toInt := fun h => h2 (Int64.toInt_inj.mp h)
      refine ⟨⟨fun _ => by omega, fun _ => by decide⟩, ⟨fun h => absurd h (by decide), fun h => by omega⟩, ⟨fun h => absurd h (by decide), fun h => absurd h h2⟩, ⟨fun h => absurd h (by decide), fun h => by omega⟩⟩
theorem q_nt {x : Int32} {lo hi : Int64} (a b : Int) (ha : lo.toInt = a) (hb : hi.toInt = b) : f12_in x.toInt64 lo hi = some (q_wi x a b) := by
  unfold f12_in q_wi
  have e1 : (lg_cmp x.toInt64 lo < 0) = (x.toInt < a) := propext (by rw [l_cm.1, q_64, ha])
  have e2 : (0 < lg_cmp x.toInt64 hi) = (b < x.toInt) := propext (by rw [l_cm.2.1, q_64, hb])
  simp only [e1, e2]
  by_cases h1 : x.toInt < a
  · rw [if_pos h1, decide_eq_false]
    omega
  · rw [if_neg h1]
    by_cases h2 : b < x.toInt
    · rw [if_pos h2, decide_eq_false]
      omega
    · rw [if_neg h2, decide_eq_true]
      omega
theorem q_wiT {x : Int32} {a b : Int} : q_wi x a b = true ↔ a ≤ x.toInt ∧ x.toInt ≤ b := by
  unfold q_wi
  exact decide_eq_true_iff
theorem q_wiF {x : Int32} {a b : Int} : q_wi x a b = false ↔ ¬ (a ≤ x.toInt ∧ x.toInt ≤ b) := by
  unfold q_wi
  exact decide_eq_false_iff_not
/-- the cells agree but for those of a set; kinds stay, and may grow -/
def q_Ag (S : Nat → Nat → Prop) (σ σ' : am_S) : Prop := (∀ (a : Nat) (m : am_M), σ.1[a]? = some m → σ'.1[a]? = some m) ∧ ∀ a k, ¬ S a k → fF σ' a k = fF σ a k ∧ fQ σ' a k = fQ σ a k
theorem q_Ag.rf {S : Nat → Nat → Prop} (σ : am_S) : q_Ag S σ σ := ⟨fun _ _ h => h, fun _ _ _ => ⟨rfl, rfl⟩⟩
theorem q_Ag.tr {S : Nat → Nat → Prop} {σ σ' σ'' : am_S} (h : q_Ag S σ σ') (h' : q_Ag S σ' σ'') : q_Ag S σ σ'' :=
  ⟨fun a m e => h'.1 a m (h.1 a m e), fun a k e => ⟨(h'.2 a k e).1.trans (h.2 a k e).1, (h'.2 a k e).2.trans (h.2 a k e).2⟩⟩
theorem q_Ag.wk {S T : Nat → Nat → Prop} {σ σ' : am_S} (h : q_Ag S σ σ') (hST : ∀ a k, S a k → T a k) : q_Ag T σ σ' :=
  ⟨h.1, fun a k e => h.2 a k (fun x => e (hST a k x))⟩
theorem q_Ag.sF {S : Nat → Nat → Prop} {σ σ' : am_S} {a k : Nat} {v : Int32} (h : q_Ag S σ σ') (hs : S a k) : q_Ag S σ (sF σ' a k v) := by
  refine ⟨h.1, fun b j e => ⟨?_, (h.2 b j e).2⟩⟩
  rw [q_FF, if_neg (fun x => by obtain ⟨rfl, rfl⟩ := x; exact e hs)]
  exact (h.2 b j e).1
theorem q_Ag.sQ {S : Nat → Nat → Prop} {σ σ' : am_S} {a k : Nat} {v : Option Nat} (h : q_Ag S σ σ') (hs : S a k) : q_Ag S σ (sQ σ' a k v) := by
  refine ⟨h.1, fun b j e => ⟨(h.2 b j e).1, ?_⟩⟩
  rw [q_QQ, if_neg (fun x => by obtain ⟨rfl, rfl⟩ := x; exact e hs)]
  exact (h.2 b j e).2
theorem q_Ag.sG {S : Nat → Nat → Prop} {σ σ' : am_S} {a k : Nat} {v : Int64} (h : q_Ag S σ σ') : q_Ag S σ (sG σ' a k v) := ⟨h.1, h.2⟩
theorem q_FK {σ : am_S} {b : Nat} {f : Nat → Int32} {a k : Nat} : fF (sK σ b f) a k = if a = b then f k else fF σ a k := by
  show (if a = b then f else σ.2.1 a) k = _
  by_cases h : a = b
  · rw [if_pos h, if_pos h]
  · rw [if_neg h, if_neg h]; rfl
theorem q_Ag.sK {S : Nat → Nat → Prop} {σ σ' : am_S} {a : Nat} {f : Nat → Int32} (h : q_Ag S σ σ') (hs : ∀ k, S a k) : q_Ag S σ (sK σ' a f) := by
  refine ⟨h.1, fun b j e => ⟨?_, (h.2 b j e).2⟩⟩
  rw [q_FK, if_neg (fun x => by subst x; exact e (hs j))]
  exact (h.2 b j e).1
theorem q_Ag.nw {S : Nat → Nat → Prop} {σ σ' : am_S} {m : am_M} (h : q_Ag S σ σ') (hs : ∀ k, S σ'.1.length k) : q_Ag S σ (am_nw σ' m) := by
  refine ⟨fun a q e => ?_, fun b j e => ?_⟩
  · have e1 := h.1 a q e
    show (σ'.1 ++ [m])[a]? = some q
    rw [List.getElem?_append_left (List.getElem?_eq_some_iff.mp e1).1]
    exact e1
  · have hb : b ≠ σ'.1.length := fun x => by subst x; exact e (hs j)
    refine ⟨Eq.trans ?_ (h.2 b j e).1, Eq.trans ?_ (h.2 b j e).2⟩
    · show am_z σ'.2.1 σ'.1.length 0 b j = _
      unfold am_z
      rw [if_neg hb]; rfl
    · show am_z σ'.2.2.2 σ'.1.length none b j = _
      unfold am_z
      rw [if_neg hb]; rfl
theorem q_Ag.ci {S : Nat → Nat → Prop} {σ σ' : am_S} {a c : Nat} (h : q_Ag S σ σ') (e : am_ci σ a = c) (hc : c ≠ 99) : am_ci σ' a = c := by
  unfold am_ci at e ⊢
  cases h1 : σ.1[a]? with
  | none => rw [h1] at e; exact absurd e.symm hc
  | some m =>
    rw [h.1 a m h1]
    rw [h1] at e
    exact e
/-- kinds -/
def r_K (σ : am_S) : Prop := am_kp msM σ.1 ∧ 68 ≤ σ.1.length
theorem r_K.mv {S : Nat → Nat → Prop} {σ σ' : am_S} (h : r_K σ) (g : q_Ag S σ σ') : r_K σ' := by
  refine ⟨fun k m e => ?_, ?_⟩
  · obtain ⟨m', e', l⟩ := h.1 k m e
    exact ⟨m', g.1 k m' e', l⟩
  · have h2 := h.2
    cases e : σ.1[67]? with
    | none => rw [List.getElem?_eq_none_iff] at e; omega
    | some m =>
      have := (List.getElem?_eq_some_iff.mp (g.1 67 m e)).1
      omega
theorem r_K.ci {σ : am_S} (h : r_K σ) {a ci : Nat} {refs : List (Option Nat)} (e : msM[a]? = some (.inl (ci, refs))) : am_ci σ a = ci := by
  obtain ⟨m', e', l⟩ := h.1 a _ e
  unfold am_ci
  rw [e']
  cases m' with
  | inl q => exact l.1.symm
  | inr q => exact l.elim
theorem r_K.rq {σ : am_S} (h : r_K σ) {a ci k x : Nat} {refs : List (Option Nat)} (e : msM[a]? = some (.inl (ci, refs))) (e2 : refs.getD k none = some x) : am_rq σ a k = some x := by
  obtain ⟨m', e', l⟩ := h.1 a _ e
  unfold am_rq
  rw [e']
  cases m' with
  | inl q => exact l.2 k x e2
  | inr q => exact l.elim
theorem r_K.an {σ : am_S} (h : r_K σ) {a t n : Nat} (e : msM[a]? = some (.inr (t, n))) : am_an σ a t = n := by
  obtain ⟨m', e', l⟩ := h.1 a _ e
  unfold am_an
  rw [e']
  cases m' with
  | inl q => exact l.elim
  | inr q =>
    have l' : (t, n) = q := l
    subst l'
    exact if_pos rfl
/-- crossings -/
def r_Cc (n : Nat) (A : Nat → Nat) (a k : Nat) : Prop := (a = 8 ∧ k = 3) ∨ (a = 36 ∧ k = 11) ∨ a = 9 ∨ (40 ≤ a ∧ a ≤ 43) ∨ ∃ i, i < n ∧ a = A i ∧ k ≤ 3
def r_C1 (n : Nat) (A : Nat → Nat) (σ : am_S) (i : Nat) : Prop :=
  (68 ≤ A i ∧ fQ σ 9 i = some (A i) ∧ am_ci σ (A i) = 1) ∧ (fF σ (A i) 0 = fF σ 40 i ∧ fF σ (A i) 1 = fF σ 41 i ∧ fF σ (A i) 2 = fF σ 42 i ∧ fF σ (A i) 3 = fF σ 43 i) ∧ (∃ l : Nat, fF σ 41 i = nI l ∧ l < 100 ∧ l / 10 ≠ l % 10) ∧ (fF σ 42 i = 0 ∨ fF σ 42 i = 1) ∧ ∀ j, j < n → A i = A j → i = j
def r_C (n : Nat) (A : Nat → Nat) (σ : am_S) : Prop := n ≤ 7 ∧ fF σ 8 3 = nI n ∧ fF σ 36 11 = nI n ∧ ∀ i, i < n → r_C1 n A σ i
theorem r_C.mv {S : Nat → Nat → Prop} {σ σ' : am_S} {n : Nat} {A : Nat → Nat} (h : r_C n A σ) (g : q_Ag S σ σ') (hS : ∀ a k, r_Cc n A a k → ¬ S a k) : r_C n A σ' := by
  obtain ⟨h1, h2, h3, h4⟩ := h
  have gF : ∀ a k, r_Cc n A a k → fF σ' a k = fF σ a k := fun a k x => (g.2 a k (hS a k x)).1
  have gQ : ∀ a k, r_Cc n A a k → fQ σ' a k = fQ σ a k := fun a k x => (g.2 a k (hS a k x)).2
  refine ⟨h1, (gF 8 3 (Or.inl ⟨rfl, rfl⟩)).trans h2, (gF 36 11 (Or.inr (Or.inl ⟨rfl, rfl⟩))).trans h3, fun i hi => ?_⟩
  obtain ⟨⟨a1, a2, a3⟩, ⟨b1, b2, b3, b4⟩, c, d, e⟩ := h4 i hi
  have x4 : ∀ a k, 40 ≤ a ∧ a ≤ 43 → fF σ' a k = fF σ a k := fun a k x => gF a k (Or.inr (Or.inr (Or.inr (Or.inl x))))
  have xA : ∀ k, k ≤ 3 → fF σ' (A i) k = fF σ (A i) k := fun k x => gF (A i) k (Or.inr (Or.inr (Or.inr (Or.inr ⟨i, hi, rfl, x⟩))))
  refine ⟨⟨a1, (gQ 9 i (Or.inr (Or.inr (Or.inl rfl)))).trans a2, g.ci a3 (by decide)⟩, ⟨?_, ?_, ?_, ?_⟩, ?_, ?_, e⟩
  · rw [xA 0 (by omega), x4 40 i (by omega)]; exact b1
  · rw [xA 1 (by omega), x4 41 i (by omega)]; exact b2
  · rw [xA 2 (by omega), x4 42 i (by omega)]; exact b3
  · rw [xA 3 (by omega), x4 43 i (by omega)]; exact b4
  · rw [x4 41 i (by omega)]; exact c
  · rw [x4 42 i (by omega)]; exact d
/-- rowers -/
def r_kc (k : Nat) : Nat := [7, 3, 6, 5, 9, 2].getD k 7
def r_Bc (m : Nat) (B : Nat → Nat) (a k : Nat) : Prop := (a = 8 ∧ k = 5) ∨ (a = 36 ∧ k = 21) ∨ a = 10 ∨ (44 ≤ a ∧ a ≤ 50) ∨ ∃ i, i < m ∧ a = B i ∧ k ≤ 6
def r_B1 (n m : Nat) (B : Nat → Nat) (σ : am_S) (j : Nat) : Prop :=
  (68 ≤ B j ∧ fQ σ 10 j = some (B j) ∧ ∃ k : Nat, k < 6 ∧ fF σ 44 j = nI k ∧ am_ci σ (B j) = r_kc k) ∧ (∀ k, k < 7 → fF σ (B j) k = fF σ (44 + k) j) ∧
  ((14 ≤ (fF σ 45 j).toInt ∧ (fF σ 45 j).toInt ≤ 90) ∧ (∃ k : Nat, k < 10 ∧ fF σ 46 j = nI k) ∧ (∃ c : Nat, c < n ∧ fF σ 47 j = nI c) ∧ (fF σ 48 j = -1 ∨ ∃ f : Nat, f < m ∧ fF σ 48 j = nI f) ∧ (fF σ 49 j = 0 ∨ fF σ 49 j = 1)) ∧ ∀ i, i < m → B j = B i → j = i
def r_B (n m : Nat) (B : Nat → Nat) (σ : am_S) : Prop := m ≤ 14 ∧ fF σ 8 5 = nI m ∧ fF σ 36 21 = nI m ∧ ∀ j, j < m → r_B1 n m B σ j
theorem r_kc_ne (k : Nat) : r_kc k ≠ 99 := by
  match k with
  | 0 => decide
  | 1 => decide
  | 2 => decide
  | 3 => decide
  | 4 => decide
  | 5 => decide
  | n + 6 => show [7, 3, 6, 5, 9, 2].getD (n + 6) 7 ≠ 99; simp
theorem r_B.mv {S : Nat → Nat → Prop} {σ σ' : am_S} {n n' m : Nat} {B : Nat → Nat} (h : r_B n m B σ) (g : q_Ag S σ σ') (hn : n ≤ n') (hS : ∀ a k, r_Bc m B a k → ¬ S a k) : r_B n' m B σ' := by
  obtain ⟨h1, h2, h3, h4⟩ := h
  have gF : ∀ a k, r_Bc m B a k → fF σ' a k = fF σ a k := fun a k x => (g.2 a k (hS a k x)).1
  have gQ : ∀ a k, r_Bc m B a k → fQ σ' a k = fQ σ a k := fun a k x => (g.2 a k (hS a k x)).2
  refine ⟨h1, (gF 8 5 (Or.inl ⟨rfl, rfl⟩)).trans h2, (gF 36 21 (Or.inr (Or.inl ⟨rfl, rfl⟩))).trans h3, fun i hi => ?_⟩
  obtain ⟨⟨a1, a2, k, hk, a3, a4⟩, b, ⟨c1, c2, ⟨c, hc, c3⟩, c4, c5⟩, e⟩ := h4 i hi
  have x4 : ∀ a k, 44 ≤ a ∧ a ≤ 50 → fF σ' a k = fF σ a k := fun a k x => gF a k (Or.inr (Or.inr (Or.inr (Or.inl x))))
  have xA : ∀ k, k ≤ 6 → fF σ' (B i) k = fF σ (B i) k := fun k x => gF (B i) k (Or.inr (Or.inr (Or.inr (Or.inr ⟨i, hi, rfl, x⟩))))
  refine ⟨⟨a1, (gQ 10 i (Or.inr (Or.inr (Or.inl rfl)))).trans a2, k, hk, (x4 44 i (by omega)).trans a3, g.ci a4 (r_kc_ne k)⟩, fun j hj => ?_, ⟨?_, ?_, ⟨c, by omega, ?_⟩, ?_, ?_⟩, e⟩
  · rw [xA j (by omega), x4 (44 + j) i (by omega)]; exact b j hj
  · rw [x4 45 i (by omega)]; exact c1
  · rw [x4 46 i (by omega)]; exact c2
  · rw [x4 47 i (by omega)]; exact c3
  · rw [x4 48 i (by omega)]; exact c4
  · rw [x4 49 i (by omega)]; exact c5
/-- tide, wash -/
def r_Wc (a k : Nat) : Prop := (a = 8 ∧ k ≤ 1) ∨ (a = 36 ∧ (k = 12 ∨ k = 13))
def r_W (σ : am_S) : Prop := fF σ 8 0 = fF σ 36 12 ∧ fF σ 8 1 = fF σ 36 13
theorem r_W.mv {S : Nat → Nat → Prop} {σ σ' : am_S} (h : r_W σ) (g : q_Ag S σ σ') (hS : ∀ a k, r_Wc a k → ¬ S a k) : r_W σ' := by
  have gF : ∀ a k, r_Wc a k → fF σ' a k = fF σ a k := fun a k x => (g.2 a k (hS a k x)).1
  unfold r_W
  rw [gF 8 0 (Or.inl ⟨rfl, by omega⟩), gF 8 1 (Or.inl ⟨rfl, by omega⟩), gF 36 12 (Or.inr ⟨rfl, Or.inl rfl⟩), gF 36 13 (Or.inr ⟨rfl, Or.inr rfl⟩)]
  exact h
/-- paths -/
def r_Pc (a _k : Nat) : Prop := a = 22 ∨ a = 23 ∨ a = 56 ∨ a = 63
def r_P1 (f g : Nat → Int32) : Prop := ∀ k, k < 100 → f k = g k ∧ (0 ≤ (g k).toInt ∧ (g k).toInt ≤ 99) ∧ g (k % 10 * 10 + k / 10) = g k
def r_P (σ : am_S) : Prop := r_P1 (fF σ 22) (fF σ 56) ∧ r_P1 (fF σ 23) (fF σ 63)
theorem r_P.mv {S : Nat → Nat → Prop} {σ σ' : am_S} (h : r_P σ) (g : q_Ag S σ σ') (hS : ∀ a k, r_Pc a k → ¬ S a k) : r_P σ' := by
  have gF : ∀ a, (a = 22 ∨ a = 23 ∨ a = 56 ∨ a = 63) → fF σ' a = fF σ a := fun a x => funext fun k => (g.2 a k (hS a k x)).1
  unfold r_P
  rw [gF 22 (by omega), gF 23 (by omega), gF 56 (by omega), gF 63 (by omega)]
  exact h
/-- sheets -/
def r_Sc (a _k : Nat) : Prop := a = 26 ∨ (28 ≤ a ∧ a ≤ 35) ∨ (64 ≤ a ∧ a ≤ 67)
def r_S1 (s : Nat) (σ : am_S) : Prop := fQ σ 26 s = some (28 + 2 * s) ∧ ((fF σ (28 + 2 * s) 0 = -1 ∧ fF σ 64 s = 0) ∨ ∃ k n : Nat, k < 3 ∧ n ≤ 40 ∧ fF σ (28 + 2 * s) 0 = nI k ∧ fF σ 64 s = 1 ∧ fF σ 65 s = nI k ∧ fF σ (28 + 2 * s) 1 = nI n ∧ fF σ 66 s = nI n ∧ ∀ i, i < n → fF σ (29 + 2 * s) i = fF σ 67 (40 * s + i))
def r_S (σ : am_S) : Prop := ∀ s, s < 4 → r_S1 s σ
theorem r_S.mv {S : Nat → Nat → Prop} {σ σ' : am_S} (h : r_S σ) (g : q_Ag S σ σ') (hS : ∀ a k, r_Sc a k → ¬ S a k) : r_S σ' := by
  have gF : ∀ a, (a = 26 ∨ (28 ≤ a ∧ a ≤ 35) ∨ (64 ≤ a ∧ a ≤ 67)) → fF σ' a = fF σ a := fun a x => funext fun k => (g.2 a k (hS a k x)).1
  have gQ : fQ σ' 26 = fQ σ 26 := funext fun k => (g.2 26 k (hS 26 k (Or.inl rfl))).2
  intro s hs
  unfold r_S1
  rw [gF (28 + 2 * s) (by omega), gF (29 + 2 * s) (by omega), gF 64 (by omega), gF 65 (by omega), gF 66 (by omega), gF 67 (by omega), gQ]
  exact h s hs
