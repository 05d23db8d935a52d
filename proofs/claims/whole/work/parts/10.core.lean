/-! MY OWN ABSTRACT MACHINE. A heap is a list of kinds, and what the cells hold by address and place: ints, longs, references. Abstract addresses 0 .. 7 are cells of others (0 the script, 1 .. 6 strings and their bytes); from 8 on they are the law's own cells, in the order in which they were made. -/
abbrev am_M : Type := (Nat × List (Option Nat)) ⊕ (Nat × Nat)
abbrev am_S : Type := List am_M × (Nat → Nat → Int32) × (Nat → Nat → Int64) × (Nat → Nat → Option Nat)
def fF (σ : am_S) (a k : Nat) : Int32 := σ.2.1 a k
def fG (σ : am_S) (a k : Nat) : Int64 := σ.2.2.1 a k
def fQ (σ : am_S) (a k : Nat) : Option Nat := σ.2.2.2 a k
def am_up {α : Type} (f : Nat → Nat → α) (a k : Nat) (v : α) : Nat → Nat → α := fun b => if b = a then (fun j => if j = k then v else f a j) else f b
def sF (σ : am_S) (a k : Nat) (v : Int32) : am_S := (σ.1, am_up σ.2.1 a k v, σ.2.2)
def sG (σ : am_S) (a k : Nat) (v : Int64) : am_S := (σ.1, σ.2.1, am_up σ.2.2.1 a k v, σ.2.2.2)
def sQ (σ : am_S) (a k : Nat) (v : Option Nat) : am_S := (σ.1, σ.2.1, σ.2.2.1, am_up σ.2.2.2 a k v)
/-- base, addresses of others' cells, classes and slots, array classes, the heap at the start, the script -/
abbrev am_E : Type := Nat × (Nat → Nat) × va_G × (Nat → ClassId) × Heap × Nat × (Nat → Int32)
def eB (E : am_E) : Nat := E.1
def eX (E : am_E) : Nat → Nat := E.2.1
def eD (E : am_E) : va_G := E.2.2.1
def eA (E : am_E) : Nat → ClassId := E.2.2.2.1
def eH (E : am_E) : Heap := E.2.2.2.2.1
def eL (E : am_E) : Nat := E.2.2.2.2.2.1
def eS (E : am_E) : Nat → Int32 := E.2.2.2.2.2.2
def am_ad (E : am_E) (k : Nat) : Nat := if k < 8 then eX E k else eB E + (k - 8)
def am_tv (E : am_E) (v : Value) : Value := match v with
  | .ref k => .ref (am_ad E k)
  | w => w
def am_tq (E : am_E) (q : Nat × Value) : Nat × Value := (q.1, am_tv E q.2)
theorem am_tv_int (E : am_E) (x : Int32) : am_tv E (.int x) = .int x := rfl
theorem am_tv_long (E : am_E) (x : Int64) : am_tv E (.long x) = .long x := rfl
theorem am_tv_ref (E : am_E) (k : Nat) : am_tv E (.ref k) = .ref (am_ad E k) := rfl
theorem am_tv_null (E : am_E) : am_tv E .null = .null := rfl
theorem am_tv_rf (E : am_E) (o : Option Nat) : am_tv E (va_rf o) = va_rf (o.map (am_ad E)) := by cases o <;> rfl
theorem am_tv_cat (E : am_E) (v : Value) : (am_tv E v).category = v.category := by cases v <;> rfl
-- the classes whose objects there are, their fields' types
def am_cls : List vw_C := [(RX0, TX0, 6), (RX1, TX1, 6), (RX2, TX2, 9), (RX3, TX3, 9), (RX4, TX4, 4), (RX5, TX5, 9), (RX6, TX6, 9), (RX7, TX7, 9), (RX8, TX8, 3), (RX9, TX9, 9), (RX10, TX10, 13), (RX11, TX11, 18), (RX12, TX12, 58)]
def am_ty (ci k : Nat) : FieldType := match ci with
  | 0 => tyX0 k | 1 => tyX1 k | 2 => tyX2 k | 3 => tyX3 k | 4 => tyX4 k | 5 => tyX5 k | 6 => tyX6 k | 7 => tyX7 k | 8 => tyX8 k | 9 => tyX9 k | 10 => tyX10 k | 11 => tyX11 k | _ => tyX12 k
def am_kd (ty : FieldType) : Nat := match ty with
  | .long => 1
  | .object _ => 2
  | .array _ => 2
  | _ => 0
def am_V (E : am_E) (σ : am_S) (a ci : Nat) (refs : List (Option Nat)) (j : Nat) : Value :=
  if am_kd (am_ty ci j) = 0 then .int (fF σ a j) else if am_kd (am_ty ci j) = 1 then .long (fG σ a j) else va_rf ((refs.getD j none).map (am_ad E))
def am_aty (t : Nat) : FieldType := match t with
  | 0 => .int | 1 => .long | 2 => .byte | 3 => .boolean | 4 => .object RX1 | 5 => .object RX7 | _ => .object RX8
def am_arr (E : am_E) (σ : am_S) (a t : Nat) : (Nat → Int32) ⊕ (Nat → Int64) ⊕ (Nat → UInt32) ⊕ (Nat → UInt64) ⊕ (Nat → Option Nat) :=
  if t = 1 then .inr (.inl (fG σ a)) else if 4 ≤ t then .inr (.inr (.inr (.inr (fun j => (fQ σ a j).map (am_ad E))))) else .inl (fF σ a)
def am_at (E : am_E) (σ : am_S) (k : Nat) (m : am_M) (H : Heap) : Prop := match m with
  | .inl (ci, refs) => ∃ r : vw_C, am_cls[ci]? = some r ∧ t_OB (am_ad E k) ((eD E).1 ci) r.2.2 ((eD E).2 ci) H (am_V E σ k ci refs)
  | .inr (t, n) => H[am_ad E k]? = some (vp_cell (eA E t) (n, am_arr E σ k t))
def am_tys (E : am_E) : List (ClassId × FieldType) := (List.range 7).map fun t => (eA E t, am_aty t)
/-- the cells' kinds: what a kind says stays said -/
def am_le (m m' : am_M) : Prop := match m, m' with
  | .inl q, .inl q' => q.1 = q'.1 ∧ ∀ j x, q.2.getD j none = some x → q'.2.getD j none = some x
  | .inr q, .inr q' => q = q'
  | _, _ => False
theorem am_le.rf (m : am_M) : am_le m m := by
  cases m with
  | inl q => exact ⟨rfl, fun _ _ h => h⟩
  | inr q => exact rfl
theorem am_le.tr {a b c : am_M} (h : am_le a b) (h' : am_le b c) : am_le a c := by
  cases a <;> cases b <;> cases c <;> first | exact h.elim | exact h'.elim | skip
  · exact ⟨h.1.trans h'.1, fun j x e => h'.2 j x (h.2 j x e)⟩
  · exact h.trans h'
def am_kp (L L' : List am_M) : Prop := ∀ (k : Nat) (m : am_M), L[k]? = some m → ∃ m', L'[k]? = some m' ∧ am_le m m'
theorem am_kp.rf (L : List am_M) : am_kp L L := fun _ m h => ⟨m, h, am_le.rf m⟩
theorem am_kp.tr {A B C : List am_M} (h : am_kp A B) (h' : am_kp B C) : am_kp A C := fun k m e => by
  obtain ⟨m1, e1, l1⟩ := h k m e
  obtain ⟨m2, e2, l2⟩ := h' k m1 e1
  exact ⟨m2, e2, l1.tr l2⟩
theorem am_kp.push (L : List am_M) (m : am_M) : am_kp L (L ++ [m]) := fun k x h => ⟨x, by rw [List.getElem?_append_left (List.getElem?_eq_some_iff.mp h).1]; exact h, am_le.rf x⟩
def am_W (E : am_E) (σ : am_S) (H : Heap) : Prop :=
  8 ≤ σ.1.length ∧ H.size = eB E + (σ.1.length - 8) ∧ (∀ (k : Nat) (m : am_M), 8 ≤ k → σ.1[k]? = some m → am_at E σ k m H) ∧ (∀ q : Nat, q < eB E → H[q]? = (eH E)[q]?) ∧ ∀ (k : Nat) (m : am_M), k < 8 → σ.1[k]? = some m → m = .inr (9, 0)
/-- the tables' words that a callee may ask -/
def am_gt : List Cond := lw_tbl.filter goodWord
theorem am_gt_in {w : Cond} (h : w ∈ lw_tbl) (hg : goodWord w = true) : w ∈ am_gt := List.mem_filter.mpr ⟨h, hg⟩
theorem am_gt_good : ∀ ws : List Cond, (∀ w ∈ ws, w ∈ am_gt) → ∀ big : List Cond, (∀ w ∈ am_gt, w ∈ big) → GoodIn big ws := fun _ h _ hb w hw => ⟨hb w (h w hw), good_of_word (List.mem_filter.mp (h w hw)).2⟩
/-- a method: its name, bytes, locals, what it returns -/
abbrev am_Y : Type := MethodName × ByteArray × Nat × Option FieldType
abbrev am_code (Y : am_Y) : Cond := .code Y.1 Y.2.1 Y.2.2.1 Y.2.2.2
def am_ws (Y : am_Y) : List Cond := am_code Y :: am_gt
/-- castable, as the tables have it -/
def am_Yc (C T : String) (U : State) : Prop := ∃ c t : ClassId, U.vm.findClass C = some c ∧ U.vm.findClass T = some t ∧ U.vm.assignable c t = true
theorem am_Yc.moved {C T : String} {u U : State} (hvm : u.vm.Alike U.vm) (h : am_Yc C T u) : am_Yc C T U := by
  obtain ⟨c, t, h1, h2, h3⟩ := h
  exact ⟨c, t, by rw [hvm.findClass]; exact h1, by rw [hvm.findClass]; exact h2, by rw [hvm.assignable]; exact h3⟩
-- kinds under one another: what instanceof answers
def am_yes : List (String × String) := [(RX3, RX3), (RX5, RX3), (RX6, RX6), (RX2, RX6), (RX5, RX5), (RX9, RX9), (RX2, RX2), (RX2, RX7), (RX3, RX7), (RX5, RX7), (RX6, RX7), (RX7, RX7), (RX9, RX7)]
def am_not : List (String × String) := [(RX2, RX3), (RX6, RX3), (RX7, RX3), (RX9, RX3), (RX3, RX6), (RX5, RX6), (RX7, RX6), (RX9, RX6), (RX2, RX5), (RX3, RX5), (RX6, RX5), (RX7, RX5), (RX9, RX5), (RX2, RX9), (RX3, RX9), (RX5, RX9), (RX6, RX9), (RX7, RX9), (RX3, RX2), (RX5, RX2), (RX6, RX2), (RX7, RX2), (RX9, RX2)]
def am_A (E : am_E) : Nat → Prop := fun q => eB E ≤ q
def am_lens : List Nat := [(s_txt 1).length, (s_txt 2).length, (s_txt 3).length]
def am_byts : List (List Int32) := [(s_txt 1).map nI, (s_txt 2).map nI, (s_txt 3).map nI]
def am_nest : List (Nat × MethodName) := [(23, yX10_init), (34, yX0_init), (41, yX4_init), (55, yX8_init)]
def am_stx (a : Nat) : String := match a with
  | 1 => "load 14 - tide ; price 10 - heads * 8 ; turn 0 - turns ;"
  | 2 => "headstide wash age  hour turnsload priceturn or   and  not  "
  | _ => "();+-*<="
def am_SIO : String := "SIOOBE_FORMATTER"
/-- facts of the tables that no word list carries, and of others' cells -/
def am_X (E : am_E) (U : State) : Prop :=
  (∀ q ∈ am_yes, am_Yc q.1 q.2 U) ∧ (∀ q ∈ am_not, va_Nc q.1 q.2 U) ∧ (∀ t : Nat, 4 ≤ t → t < 7 → ∃ C, am_aty t = .object C ∧ va_AO C U) ∧ (∀ q ∈ am_nest, va_Nw (.methodLinkNest RX11 q.1 q.2 RX11) U) ∧
  (va_X (eX E 0) (eL E) (eS E) U (eH E) ∧ eX E 0 < eB E ∧ (eH E).size = eB E) ∧ vk_S 3 am_lens am_byts (fun i => eX E (i + 1)) (fun i => eX E (i + 4)) (am_A E) U (eH E) ∧ (∀ (own : String) (idx a : Nat), am_strAt own idx a → vk_R own idx (am_stx a) (eX E a) U) ∧
  va_Z RJ0 "COMPACT_STRINGS" "Z" (.int 1) (am_A E) U (eH E) ∧ (va_Z RJ3 am_SIO "Ljava/util/function/BiFunction;" .null (am_A E) U (eH E) ∨ va_Z RJ3 am_SIO "Ljava/util/function/BiFunction;" (.ref (eX E 7)) (am_A E) U (eH E))
def am_K (E : am_E) (U : State) : Prop := va_K (eD E) am_cls (am_tys E) U ∧ am_X E U
theorem am_K.mv {E : am_E} {u U : State} (hvm : u.vm.Alike U.vm) (h : am_K E u) (h1 : ∀ q ∈ am_nest, va_Nw (.methodLinkNest RX11 q.1 q.2 RX11) U) (h2 : ∀ (own : String) (idx a : Nat), am_strAt own idx a → vk_R own idx (am_stx a) (eX E a) U) : am_K E U := by
  obtain ⟨k0, k1, k2, k3, -, ⟨k5, k6, k6'⟩, k7, -, k9, k10⟩ := h
  exact ⟨k0.moved hvm, fun q hq => (k1 q hq).moved hvm, fun q hq => (k2 q hq).moved hvm, fun t h4 h7 => by obtain ⟨C, e, hC⟩ := k3 t h4 h7; exact ⟨C, e, hC.moved hvm⟩, h1, ⟨k5.moved hvm, k6, k6'⟩, k7.moved hvm, h2, k9.moved hvm, k10.imp (va_Z.moved hvm) (va_Z.moved hvm)⟩
theorem am_K.moved {E : am_E} {u U : State} (hW : u.WarmedH U.vm) (h : am_K E u) : am_K E U :=
  h.mv hW.alike (fun q hq => va_Nw.warmM hW (h.2.2.2.2.1 q hq)) (fun own idx a ha => (h.2.2.2.2.2.2.2.1 own idx a ha).warm hW)
theorem am_K.same {E : am_E} {u U : State} (hv : u.vm = U.vm) (h : am_K E u) : am_K E U :=
  h.mv (hv ▸ Vm.Alike.refl u.vm) (fun q hq => va_Nw.same rfl hv (h.2.2.2.2.1 q hq)) (fun own idx a ha => (h.2.2.2.2.2.2.2.1 own idx a ha).same hv.symm)
/-- where a method stands: the machine, its code, the words -/
def am_C (E : am_E) (Y : am_Y) (p : Program) (s : State) (m : MethodId) (args : Array Value) (meth : Method) (c : Code) : Prop :=
  p.tables.exec = Jvm.exec ∧ c.code = Y.2.1 ∧ meth.sig.returnType = Y.2.2.2 ∧ c.maxLocals = Y.2.2.1 ∧ s.vm.findClass Y.1.cls = some m.cls ∧ (∀ w ∈ am_gt, w.before args s = true) ∧ meth.locks = false ∧ (Y.1.name = "<init>" → meth.name = Y.1.name) ∧ am_K E s
def am_rm (d mc sl : Nat) : Room := { frames := d, cells := mc, slots := sl, locals := 64 * d }
def am_Q (E : am_E) (σ0 : am_S) (r : Option Value) (σ : am_S) : Array Value → State → Outcome → State → Prop := fun _ st o t => o = .returned (r.map (am_tv E)) ∧ am_W E σ t.heap ∧ va_F (am_A E) st t ∧ am_kp σ0.1 σ.1
def am_P (E : am_E) (ms : List am_M) (vs : List Value) (σ : am_S) : Array Value → State → Prop := fun a U => a = (vs.map (am_tv E)).toArray ∧ am_K E U ∧ am_W E σ U.heap ∧ am_kp ms σ.1
/-- THE JUDGEMENT: from here on the method does what the code says, if that comes to something; σ0 is where the method began, ms what is known of the cells' kinds -/
def Z {U : Type} (l : Launch) (E : am_E) (ms : List am_M) (σ0 : am_S) (Y : am_Y) (d mc sl pc : Nat) (lv : List (Nat × Value)) (st : List Value) (cu su : Nat) (σ : am_S) (code : Option U) (G : U → Option Value → am_S → Prop) : Prop :=
  ∀ (u : U) (r : Option Value) (σ' : am_S), code = some u → G u r σ' → ∀ (p : Program) (e : Env) (s : State) (m : MethodId) (args : Array Value) (below : List Frame) (meth : Method) (c : Code) (H : Heap) (locs : List Loc) (ls : Array Slot),
    am_C E Y p s m args meth c → (am_W E σ H ∧ va_S (am_A E) s.heap H locs ∧ am_kp ms σ.1 ∧ am_kp σ0.1 σ.1) → lv_has ls Y.2.2.1 (lv.map (am_tq E)) →
    W p l e (am_rm d mc sl) s m args below meth c H locs cu su (MQ below (am_Q E σ0 r σ') args s mc sl (am_A E)) (F0 m pc ls (st.map (am_tv E)))
/-- a method's contract -/
def Ctr (l : Launch) (E : am_E) (ms : List am_M) (Y : am_Y) (k mc sl : Nat) (vs : List Value) (σ : am_S) (r : Option Value) (σ' : am_S) : Prop :=
  ∀ d, k ≤ d → Met l Y.1 (am_ws Y) (am_rm d mc sl) (am_P E ms vs σ) (am_Q E σ r σ') mc sl (am_A E)
theorem am_args_tq (E : am_E) : ∀ (vs : List Value) (i : Nat), lv_args i (vs.map (am_tv E)) = (lv_args i vs).map (am_tq E)
  | [], _ => rfl
  | v :: vs, i => by
    show (i, am_tv E v) :: lv_args _ _ = (i, am_tv E v) :: _
    rw [am_tv_cat, am_args_tq E vs]
theorem am_sl_tv (E : am_E) (vs : List Value) : (lg_sl (vs.map (am_tv E))).length = (lg_sl vs).length := by
  induction vs with
  | nil => rfl
  | cons v vs ih =>
    have e1 : lg_sl ((v :: vs).map (am_tv E)) = (if (am_tv E v).category = 2 then [Slot.val (am_tv E v), .second] else [.val (am_tv E v)]) ++ lg_sl (vs.map (am_tv E)) := rfl
    have e2 : lg_sl (v :: vs) = (if v.category = 2 then [Slot.val v, .second] else [.val v]) ++ lg_sl vs := rfl
    rw [e1, e2, List.length_append, List.length_append, ih, am_tv_cat]
    by_cases h : v.category = 2
    · rw [if_pos h, if_pos h]; rfl
    · rw [if_neg h, if_neg h]; rfl
theorem ctr_of {U : Type} {l : Launch} {E : am_E} {ms : List am_M} {Y : am_Y} {k mc sl : Nat} {vs : List Value} {σ : am_S} {r : Option Value} {σ' : am_S} {code : Option U} {G : U → Option Value → am_S → Prop} {u : U}
    (hpl : plainName Y.1.cls = true) (hlen : (lg_sl vs).length ≤ Y.2.2.1) (hcode : code = some u) (hG : G u r σ') (h : ∀ d, k ≤ d → Z l E ms σ Y d mc sl 0 (lv_args 0 vs) [] 0 0 σ code G) : Ctr l E ms Y k mc sl vs σ r σ' := by
  intro d hd
  refine Met.ofW (cc := Y.2.1) (maxL := Y.2.2.1) (ret := Y.2.2.2) hpl rfl ?_
  intro p e s m args below meth c s₁ B hml hv
  obtain ⟨rfl, hK, hW, hkp⟩ := hv
  have hts := atoms_spec (ws := am_ws Y) B.pre
  have hl := lv_entry (vs.map (am_tv E)) (n := Y.2.2.1) (by rw [am_sl_tv]; exact hlen)
  rw [lg_entry_eq]
  rw [am_args_tq] at hl
  exact h d hd u r σ' hcode hG p e s m _ below meth c s.heap [] _ ⟨B.exec, B.bytes, B.returns, hml, findClass_of_methodNamed B.named, fun w hw => hts w (List.mem_cons_of_mem _ hw), B.notSynchronized, fun _ => (name_of_methodNamed B.named B.method).1, hK⟩ ⟨hW, va_S.rf, hkp, am_kp.rf _⟩ hl
