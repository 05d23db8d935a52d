/-! THE HEAP OF THE ABSTRACT MACHINE: cells read, written, made -/
def am_ci (σ : am_S) (a : Nat) : Nat := match σ.1[a]? with
  | some (.inl q) => q.1
  | _ => 99
def am_rq (σ : am_S) (a k : Nat) : Option Nat := match σ.1[a]? with
  | some (.inl q) => q.2.getD k none
  | _ => none
/-- how many places an array of a type has -/
def am_an (σ : am_S) (a t : Nat) : Nat := match σ.1[a]? with
  | some (.inr q) => if q.1 = t then q.2 else 0
  | _ => 0
def am_rw (σ : am_S) (a : Nat) : Bool := [2, 3, 5, 6, 7, 9].contains (am_ci σ a)
def am_z {α : Type} (f : Nat → Nat → α) (a : Nat) (v : α) : Nat → Nat → α := fun b => if b = a then (fun _ => v) else f b
/-- one cell more, all 0 -/
def am_nw (σ : am_S) (m : am_M) : am_S := (σ.1 ++ [m], am_z σ.2.1 σ.1.length 0, am_z σ.2.2.1 σ.1.length 0, am_z σ.2.2.2 σ.1.length none)
def am_ob (ms : List am_M) (σ : am_S) (a ci : Nat) : Prop := (∃ refs, ms[a]? = some (.inl (ci, refs))) ∨ ∃ refs, σ.1[a]? = some (.inl (ci, refs))
theorem am_ob.s {ms : List am_M} {σ : am_S} {a ci : Nat} {refs : List (Option Nat)} (h : ms[a]? = some (.inl (ci, refs))) : am_ob ms σ a ci := Or.inl ⟨refs, h⟩
theorem am_ob.d {ms : List am_M} {σ : am_S} {a ci : Nat} (h : am_ci σ a = ci) (h9 : ci ≠ 99) : am_ob ms σ a ci := by
  unfold am_ci at h
  split at h
  · rename_i q e; exact Or.inr ⟨q.2, by rw [e, ← h]⟩
  · exact absurd h.symm h9
theorem am_ob.use {ms : List am_M} {σ : am_S} {a ci : Nat} (h : am_ob ms σ a ci) (hk : am_kp ms σ.1) : ∃ refs, σ.1[a]? = some (.inl (ci, refs)) := by
  rcases h with ⟨refs, h⟩ | h
  · obtain ⟨m', e, hle⟩ := hk a _ h
    cases m' with
    | inl q => exact ⟨q.2, by rw [e]; have : ci = q.1 := hle.1; rw [this]⟩
    | inr q => exact hle.elim
  · exact h
/-- an array: its type, its places -/
def am_ar (ms : List am_M) (σ : am_S) (a t n : Nat) : Prop := ms[a]? = some (.inr (t, n)) ∨ σ.1[a]? = some (.inr (t, n))
theorem am_ar.s {ms : List am_M} {σ : am_S} {a t n : Nat} (h : ms[a]? = some (.inr (t, n))) : am_ar ms σ a t n := Or.inl h
theorem am_ar.d {ms : List am_M} {σ : am_S} {a t : Nat} (h : am_an σ a t ≠ 0) : am_ar ms σ a t (am_an σ a t) := by
  unfold am_an at h ⊢
  split at h
  · rename_i q e
    split at h
    · rename_i ht; right; simp only [e, if_pos ht]; rw [← ht]
    · exact absurd rfl h
  · exact absurd rfl h
theorem am_ar.use {ms : List am_M} {σ : am_S} {a t n : Nat} (h : am_ar ms σ a t n) (hk : am_kp ms σ.1) : σ.1[a]? = some (.inr (t, n)) := by
  rcases h with h | h
  · obtain ⟨m', e, hle⟩ := hk a _ h
    cases m' with
    | inl q => exact hle.elim
    | inr q => have : (t, n) = q := hle; rw [e, this]
  · exact h
theorem am_ad8 {E : am_E} {k : Nat} (h : 8 ≤ k) : am_ad E k = eB E + (k - 8) := if_neg (by omega)
theorem am_W.lt {E : am_E} {σ : am_S} {H : Heap} (hW : am_W E σ H) {a : Nat} {m : am_M} (h8 : 8 ≤ a) (hm : σ.1[a]? = some m) : am_ad E a < H.size := by
  have hl := (List.getElem?_eq_some_iff.mp hm).1
  rw [am_ad8 h8, hW.2.1]; omega
theorem am_W.ge8 {E : am_E} {σ : am_S} {H : Heap} (hW : am_W E σ H) {a : Nat} {m : am_M} (hm : σ.1[a]? = some m) (h9 : m ≠ .inr (9, 0)) : 8 ≤ a := by
  rcases Nat.lt_or_ge a 8 with h | h
  · exact absurd (hW.2.2.2.2 a m h hm) h9
  · exact h
theorem am_at.same {E : am_E} {σ σ' : am_S} {k : Nat} {m : am_M} {H H' : Heap} (h : am_at E σ k m H) (e1 : fF σ' k = fF σ k) (e2 : fG σ' k = fG σ k) (e3 : fQ σ' k = fQ σ k) (hq : H'[am_ad E k]? = H[am_ad E k]?) : am_at E σ' k m H' := by
  cases m with
  | inl q =>
    obtain ⟨ci, refs⟩ := q
    obtain ⟨r, h1, h2⟩ := h
    refine ⟨r, h1, (h2.kept hq).to fun j _ => ?_⟩
    unfold am_V
    rw [e1, e2]
  | inr q =>
    obtain ⟨t, n⟩ := q
    show H'[_]? = some (vp_cell _ _)
    rw [hq]
    have h' : H[am_ad E k]? = some (vp_cell (eA E t) (n, am_arr E σ k t)) := h
    rw [h']
    unfold am_arr
    rw [e1, e2, e3]
theorem am_W.upd {E : am_E} {σ σ' : am_S} {H H' : Heap} (hW : am_W E σ H) (e1 : σ'.1 = σ.1) {a : Nat} (h8 : 8 ≤ a) (hz : H'.size = H.size) (ho : ∀ q : Nat, q ≠ am_ad E a → H'[q]? = H[q]?)
    (hne : ∀ b : Nat, b ≠ a → fF σ' b = fF σ b ∧ fG σ' b = fG σ b ∧ fQ σ' b = fQ σ b) (ha : ∀ m, σ.1[a]? = some m → am_at E σ' a m H') : am_W E σ' H' := by
  refine ⟨by rw [e1]; exact hW.1, by rw [e1, hz]; exact hW.2.1, fun k m hk hm => ?_, fun q hq => ?_, fun k m hk hm => hW.2.2.2.2 k m hk (by rw [← e1]; exact hm)⟩
  · rw [e1] at hm
    by_cases hka : k = a
    · subst hka; exact ha m hm
    · obtain ⟨f1, f2, f3⟩ := hne k hka
      exact (hW.2.2.1 k m hk hm).same f1 f2 f3 (ho _ (by rw [am_ad8 hk, am_ad8 h8]; omega))
  · rw [ho q (by rw [am_ad8 h8]; omega)]
    exact hW.2.2.2.1 q hq
theorem sF_ne {σ : am_S} {a k : Nat} {v : Int32} (b : Nat) (h : b ≠ a) : fF (sF σ a k v) b = fF σ b ∧ fG (sF σ a k v) b = fG σ b ∧ fQ (sF σ a k v) b = fQ σ b := by
  refine ⟨?_, rfl, rfl⟩
  funext j
  show am_up σ.2.1 a k v b j = σ.2.1 b j
  unfold am_up
  rw [if_neg h]
theorem sG_ne {σ : am_S} {a k : Nat} {v : Int64} (b : Nat) (h : b ≠ a) : fF (sG σ a k v) b = fF σ b ∧ fG (sG σ a k v) b = fG σ b ∧ fQ (sG σ a k v) b = fQ σ b := by
  refine ⟨rfl, ?_, rfl⟩
  funext j
  show am_up σ.2.2.1 a k v b j = σ.2.2.1 b j
  unfold am_up
  rw [if_neg h]
theorem sQ_ne {σ : am_S} {a k : Nat} {v : Option Nat} (b : Nat) (h : b ≠ a) : fF (sQ σ a k v) b = fF σ b ∧ fG (sQ σ a k v) b = fG σ b ∧ fQ (sQ σ a k v) b = fQ σ b := by
  refine ⟨rfl, rfl, ?_⟩
  funext j
  show am_up σ.2.2.2 a k v b j = σ.2.2.2 b j
  unfold am_up
  rw [if_neg h]
theorem fF_sF (σ : am_S) (a k : Nat) (v : Int32) (b j : Nat) : fF (sF σ a k v) b j = if b = a ∧ j = k then v else fF σ b j := by
  show am_up σ.2.1 a k v b j = _
  unfold am_up
  by_cases h : b = a
  · subst h
    by_cases h2 : j = k
    · subst h2; simp
    · simp [h2, fF]
  · simp [h, fF]
theorem fG_sG (σ : am_S) (a k : Nat) (v : Int64) (b j : Nat) : fG (sG σ a k v) b j = if b = a ∧ j = k then v else fG σ b j := by
  show am_up σ.2.2.1 a k v b j = _
  unfold am_up
  by_cases h : b = a
  · subst h
    by_cases h2 : j = k
    · subst h2; simp
    · simp [h2, fG]
  · simp [h, fG]
theorem fQ_sQ (σ : am_S) (a k : Nat) (v : Option Nat) (b j : Nat) : fQ (sQ σ a k v) b j = if b = a ∧ j = k then v else fQ σ b j := by
  show am_up σ.2.2.2 a k v b j = _
  unfold am_up
  by_cases h : b = a
  · subst h
    by_cases h2 : j = k
    · subst h2; simp
    · simp [h2, fQ]
  · simp [h, fQ]
-- classes: their words, their fields' types, their names apart
def am_okT (ty : FieldType) : Bool := match ty with
  | .float => false
  | .double => false
  | _ => true
def am_clsOk (ci : Nat) (q : vw_C) : Prop := (∀ w ∈ u_ws q.1 q.2.1 q.2.2, w ∈ am_gt) ∧ (∀ k, k < q.2.2 → parseFieldDescriptor (q.2.1 k).2.2.1 = some (am_ty ci k)) ∧ (∀ a, a < q.2.2 → ∀ b, b < q.2.2 → a ≠ b → (q.2.1 a).2.1 ≠ (q.2.1 b).2.1) ∧ ∀ k, k < q.2.2 → am_okT (am_ty ci k) = true
