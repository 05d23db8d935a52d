/-! THE START: what reading a text keeps (kinds, longs, references) -/
def w_P (σ σ' : am_S) : Prop := σ'.1 = σ.1 ∧ σ'.2.2 = σ.2.2
theorem w_P.rf (σ : am_S) : w_P σ σ := ⟨rfl, rfl⟩
theorem w_P.tr {σ σ' σ'' : am_S} (h : w_P σ σ') (h' : w_P σ' σ'') : w_P σ σ'' := ⟨h'.1.trans h.1, h'.2.trans h.2⟩
theorem w_P.sF {σ σ' : am_S} {a k : Nat} {v : Int32} (h : w_P σ σ') : w_P σ (sF σ' a k v) := ⟨h.1, h.2⟩
def w_O (σ : am_S) (o : Option am_S) : Prop := ∀ s, o = some s → w_P σ s
def w_O2 {α : Type} (σ : am_S) (o : Option (α × am_S)) : Prop := ∀ s, o = some s → w_P σ s.2
theorem w_no {σ : am_S} : w_O σ none := fun s h => by cases h
theorem w_so {σ s : am_S} (h : w_P σ s) : w_O σ (some s) := fun s' e => by cases e; exact h
theorem w_if {σ : am_S} {c : Prop} [Decidable c] {a b : Option am_S} (ha : w_O σ a) (hb : w_O σ b) : w_O σ (if c then a else b) := by
  by_cases h : c
  · rw [if_pos h]; exact ha
  · rw [if_neg h]; exact hb
theorem w_bi {σ : am_S} {o : Option am_S} {f : am_S → Option am_S} (ho : w_O σ o) (hf : ∀ s, w_P σ s → w_O σ (f s)) : w_O σ (o.bind f) := by
  cases o with
  | none => exact w_no
  | some s => exact hf s (ho s rfl)
theorem w_bv {α : Type} {σ : am_S} {o : Option α} {f : α → Option am_S} (hf : ∀ s, w_O σ (f s)) : w_O σ (o.bind f) := by
  cases o with
  | none => exact w_no
  | some s => exact hf s
theorem w_b2 {α : Type} {σ : am_S} {o : Option (α × am_S)} {f : α × am_S → Option am_S} (ho : w_O2 σ o) (hf : ∀ s, w_P σ s.2 → w_O σ (f s)) : w_O σ (o.bind f) := by
  cases o with
  | none => exact w_no
  | some s => exact hf s (ho s rfl)
theorem w2_no {α : Type} {σ : am_S} : w_O2 (α := α) σ none := fun s h => by cases h
theorem w2_so {α : Type} {σ s : am_S} {v : α} (h : w_P σ s) : w_O2 σ (some (v, s)) := fun s' e => by cases e; exact h
theorem w2_if {α : Type} {σ : am_S} {c : Prop} [Decidable c] {a b : Option (α × am_S)} (ha : w_O2 σ a) (hb : w_O2 σ b) : w_O2 σ (if c then a else b) := by
  by_cases h : c
  · rw [if_pos h]; exact ha
  · rw [if_neg h]; exact hb
theorem w2_bi {α : Type} {σ : am_S} {o : Option am_S} {f : am_S → Option (α × am_S)} (ho : w_O σ o) (hf : ∀ s, w_P σ s → w_O2 σ (f s)) : w_O2 σ (o.bind f) := by
  cases o with
  | none => exact w2_no
  | some s => exact hf s (ho s rfl)
theorem w_tw47 {N : Nat} {σ : am_S} : ∀ n x s, w_P σ s → w_O σ (f10_takeWord_L47 N n x s) := by
  intro n
  induction n with
  | zero => intro x s h; exact w_no
  | succ n ih =>
    intro x s h
    unfold f10_takeWord_L47
    refine w_if (w_so h) (w_bv fun v => w_if (ih _ _ h.sF) (ih _ _ h))
theorem w_tw39 {N : Nat} {σ s : am_S} (h : w_P σ s) : w_O σ (f10_takeWord_J39 N s) := by
  unfold f10_takeWord_J39
  exact w_tw47 _ _ _ h.sF
theorem w_tw0 {N : Nat} {σ : am_S} : ∀ n s, w_P σ s → w_O σ (f10_takeWord_L0 N n s) := by
  intro n
  induction n with
  | zero => intro s h; exact w_no
  | succ n ih =>
    intro s h
    unfold f10_takeWord_L0
    exact w_if (w_tw39 h) (w_if (w_bv fun v => w_if (ih _ h.sF) (w_tw39 h)) w_no)
theorem w_tn68 {N : Nat} {σ s : am_S} (h : w_P σ s) : w_O σ (f10_takeNumber_J68 N s) := by
  unfold f10_takeNumber_J68
  exact w_if (w_so h.sF) (w_so h.sF)
theorem w_tn5 {N : Nat} {σ : am_S} : ∀ n s, w_P σ s → w_O σ (f10_takeNumber_L5 N n s) := by
  intro n
  induction n with
  | zero => intro s h; exact w_no
  | succ n ih =>
    intro s h
    unfold f10_takeNumber_L5
    exact w_if (w_tn68 h) (w_if (w_bv fun v => w_if (w_if (ih _ h.sF.sF) w_no) (w_tn68 h)) w_no)
theorem w_nt52 {N : Nat} {σ s : am_S} (h : w_P σ s) : w_O σ (f10_nextToken_J52 N s) := by
  unfold f10_nextToken_J52 f10_takeWord f10_takeNumber
  refine w_if (w_if (w_bv fun v => w_if (w_bi (w_tw0 _ _ h.sF) fun s h => w_so h) (w_if (w_bv fun v => w_if (w_bi (w_tn5 _ _ h.sF.sF) fun s h => w_so h) (w_if (w_if (w_so h.sF.sF.sF) (w_bv fun v => w_if (w_so h.sF.sF.sF) (w_so h.sF.sF.sF))) w_no)) w_no)) w_no) (w_so h.sF.sF)
theorem w_nt0 {N : Nat} {σ : am_S} : ∀ n s, w_P σ s → w_O σ (f10_nextToken_L0 N n s) := by
  intro n
  induction n with
  | zero => intro s h; exact w_no
  | succ n ih =>
    intro s h
    unfold f10_nextToken_L0
    exact w_if (w_nt52 h) (w_if (w_if (ih _ h.sF) (w_if (w_if (ih _ h.sF) (w_nt52 h)) w_no)) w_no)
theorem w_nt {N : Nat} {σ s : am_S} (h : w_P σ s) : w_O σ (f10_nextToken N s) := by
  exact w_nt0 _ _ h
theorem w_rf {σ s : am_S} (h : w_P σ s) : w_O σ (f10_refuse s) := by
  unfold f10_refuse
  exact w_if (w_so h.sF.sF) (w_so h.sF)
theorem w_pa {N : Nat} {σ s : am_S} {x : Int32} (h : w_P σ s) : w_O σ (f10_pass N s x) := by
  unfold f10_pass
  exact w_if (w_bi (w_nt h) fun s h => w_so h) (w_bi (w_rf h) fun s h => w_so h)
theorem w_wr {σ s : am_S} {x : Int32} (h : w_P σ s) : w_O σ (f10_write s x) := by
  unfold f10_write
  exact w_if (w_so h) (w_if (w_so h.sF.sF) w_no)
theorem w_on {N : Nat} {σ s : am_S} (h : w_P σ s) : w_O σ (f10_readOne N s) := by
  unfold f10_readOne
  exact w_if (w_bi (w_wr h) fun s h => w_bi (w_nt h) fun s h => w_so h) (w_if (w_bi (w_rf h) fun s h => w_so h) (w_if (w_bi (w_rf h) fun s h => w_so h) (w_bi (w_wr h) fun s h => w_bi (w_nt h) fun s h => w_so h)))
theorem w_rd {N : Nat} {σ : am_S} {rj : am_S → Int32 → Int32 → Option am_S} {ro : am_S → Int32 → Option am_S} (hj : ∀ s x1 x2, w_P σ s → w_O σ (rj s x1 x2)) (ho : ∀ s x1, w_P σ s → w_O σ (ro s x1)) {s : am_S} {x1 x2 : Int32} (h : w_P σ s) : w_O σ (f10_read_r N rj ro s x1 x2) := by
  have o : w_O σ ((ro s x2).bind fun s5 => some s5) := w_bi (ho _ _ h) fun s h => w_so h
  have j : w_O σ ((rj s x1 x2).bind fun s5 => some s5) := w_bi (hj _ _ _ h) fun s h => w_so h
  have n : w_O σ ((f10_readOne N s).bind fun s5 => some s5) := w_bi (w_on h) fun s h => w_so h
  unfold f10_read_r
  exact w_if (w_if o (w_if o (w_if n j))) (w_if (w_if o (w_if n j)) (w_if n j))
theorem w_jl {N : Nat} {σ : am_S} {rr : am_S → Int32 → Int32 → Option am_S} (hr : ∀ s x1 x2, w_P σ s → w_O σ (rr s x1 x2)) : ∀ n x1 x2 x3 x4 s, w_P σ s → w_O σ (f10_readJoined_L24 N rr n x1 x2 x3 x4 s) := by
  intro n
  induction n with
  | zero => intro x1 x2 x3 x4 s h; exact w_no
  | succ n ih =>
    intro x1 x2 x3 x4 s h
    unfold f10_readJoined_L24
    exact w_if (w_so h) (w_bv fun v => w_if (w_bi (w_nt h) fun s h => w_bi (hr _ _ _ h) fun s h => w_bi (w_wr h) fun s h => ih _ _ _ _ _ h) (w_so h))
theorem w_jo {N : Nat} {σ : am_S} {rr : am_S → Int32 → Int32 → Option am_S} (hr : ∀ s x1 x2, w_P σ s → w_O σ (rr s x1 x2)) {s : am_S} {x1 x2 : Int32} (h : w_P σ s) : w_O σ (f10_readJoined_r N rr s x1 x2) := by
  unfold f10_readJoined_r
  exact w_bi (hr _ _ _ h) fun s h => w_if (w_jl hr _ _ _ _ _ _ h) (w_jl hr _ _ _ _ _ _ h)
theorem w_op {N : Nat} {σ : am_S} {rr : am_S → Int32 → Int32 → Option am_S} (hr : ∀ s x1 x2, w_P σ s → w_O σ (rr s x1 x2)) {s : am_S} {x1 : Int32} (h : w_P σ s) : w_O σ (f10_readOpening_r N rr s x1) := by
  have k : ∀ (t : am_S) (x : Int32), w_O σ ((rr t x (x1 + (1 : Int32))).bind fun s8 => (if fF s 11 10 = (40 : Int32) then ((f10_pass N s8 (41 : Int32)).bind fun s12 => (some (s12))) else (if fF s 11 10 = (11 : Int32) then ((f10_write s8 ((10000 : Int32) + (11 : Int32))).bind fun s16 => (some (s16))) else ((f10_write s8 ((10000 : Int32) + (15 : Int32))).bind fun s19 => (some (s19)))))) ∨ ¬ w_P σ t := fun t x => by
    by_cases ht : w_P σ t
    · exact Or.inl (w_bi (hr _ _ _ ht) fun s h => w_if (w_bi (w_pa h) fun s h => w_so h) (w_if (w_bi (w_wr h) fun s h => w_so h) (w_bi (w_wr h) fun s h => w_so h)))
    · exact Or.inr ht
  unfold f10_readOpening_r
  exact w_if (w_bi (w_nt h) fun s h => w_if ((k s _).resolve_right fun x => x h) (w_if ((k s _).resolve_right fun x => x h) ((k s _).resolve_right fun x => x h))) (w_bi (w_rf h) fun s h => w_so h)
theorem w_gT {N : Nat} {σ : am_S} : ∀ D, (∀ s x1 x2, w_P σ s → w_O σ ((gT N D).1 s x1 x2)) ∧ (∀ s x1 x2, w_P σ s → w_O σ ((gT N D).2.1 s x1 x2)) ∧ (∀ s x1, w_P σ s → w_O σ ((gT N D).2.2 s x1)) := by
  intro D
  induction D with
  | zero => exact ⟨fun _ _ _ _ => w_no, fun _ _ _ _ => w_no, fun _ _ _ => w_no⟩
  | succ D ih =>
    exact ⟨fun s x1 x2 h => w_rd ih.2.1 ih.2.2 h, fun s x1 x2 h => w_jo ih.1 h, fun s x1 h => w_op ih.1 h⟩
theorem w_88 {N : Nat} {σ s : am_S} (h : w_P σ s) : w_O2 σ (f10_readTape_J88 N s) := by
  unfold f10_readTape_J88
  exact w2_if (w2_if (w2_so h.sF.sF) (w2_so h.sF)) (w2_bi (w_rf h) fun s h => w2_if (w2_so h.sF.sF) (w2_so h.sF))
theorem w_33 {N : Nat} {σ : am_S} : ∀ n x s, w_P σ s → w_O2 σ (f10_readTape_L33 N n x s) := by
  intro n
  induction n with
  | zero => intro x s h; exact w2_no
  | succ n ih =>
    intro x s h
    unfold f10_readTape_L33 f10_read
    exact w2_if (w_88 h) (w2_if (w2_bi (w_pa h.sF) fun s h => w2_bi ((w_gT 100).1 _ _ _ h) fun s h => w2_bi (w_pa h) fun s h => w2_bi (w_wr h) fun s h => ih _ _ h) w2_no)
theorem w_rt {N : Nat} {σ s : am_S} (h : w_P σ s) : w_O2 σ (f10_readTape N s) := by
  unfold f10_readTape
  exact w2_if (w2_bi (w_nt h.sF.sF.sF) fun s h => w_33 _ _ _ h) (w2_so h)
theorem w_ab18 {N : Nat} {σ : am_S} : ∀ n x1 l x4 s, w_P σ s → w_O2 σ (f10_addBytes_L18 N n x1 l x4 s) := by
  intro n
  induction n with
  | zero => intro x1 l x4 s h; exact w2_no
  | succ n ih =>
    intro x1 l x4 s h
    unfold f10_addBytes_L18
    exact w2_if (w2_so h) (w2_if (ih _ _ _ _ h.sF.sF) w2_no)
