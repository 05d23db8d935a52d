/-! RULES OF Z: the heap -/
/-- what a field reference means in a class -/
def am_fr (own : String) (idx ci k : Nat) : Prop := ∃ (q : vw_C) (ref : String), am_cls[ci]? = some q ∧ k < q.2.2 ∧ Cond.fieldLink own idx ref (q.2.1 k).2.1 (q.2.1 k).2.2.1 ∈ am_gt ∧ (ref = (q.2.1 k).1 ∨ Cond.sameField ref (q.2.1 k).1 (q.2.1 k).2.1 (q.2.1 k).2.2.1 ∈ am_gt)
/-- and that it isn't final -/
def am_fw (own : String) (idx ci k : Nat) : Prop := am_fr own idx ci k ∧ ∀ q, am_cls[ci]? = some q → (q.2.1 k).2.2.2 = false
/-- or final, in its own constructor -/
def am_fi (own : String) (idx ci k : Nat) : Prop := am_fr own idx ci k ∧ ∀ q, am_cls[ci]? = some q → (q.2.1 k).2.2.2 = true ∧ (q.2.1 k).1 = own
theorem am_same_of {own ref : String} {q : vw_C} {k : Nat} {args : Array Value} {s : State} (hts : ∀ w ∈ am_gt, w.before args s = true) (h : ref = (q.2.1 k).1 ∨ Cond.sameField ref (q.2.1 k).1 (q.2.1 k).2.1 (q.2.1 k).2.2.1 ∈ am_gt) :
    ∀ x, s.fieldFound? (q.2.1 k).1 (q.2.1 k).2.1 (q.2.1 k).2.2.1 = some x → s.fieldFound? ref (q.2.1 k).2.1 (q.2.1 k).2.2.1 = some x := by
  rcases h with rfl | h
  · exact fun _ h => h
  · exact u_same (hts _ h)
section ZH
variable {U : Type} {l : Launch} {E : am_E} {ms : List am_M} {σ0 : am_S} {Y : am_Y} {d mc sl pc cu su : Nat} {lv : List (Nat × Value)} {st : List Value} {σ : am_S} {code A B : Option U} {G : U → Option Value → am_S → Prop}
theorem z_getV {a idx ci k : Nat} {w : Value} (hd : decode Y.2.1 pc = .ok (.getfield idx, 3)) (hm : am_ob ms σ a ci) (hf : am_fr Y.1.cls idx ci k) (hw : ∀ refs, σ.1[a]? = some (.inl (ci, refs)) → am_V E σ a ci refs k = am_tv E w)
    (kk : Z l E ms σ0 Y d mc sl (pc + 3) lv (w :: st) cu su σ code G) : Z l E ms σ0 Y d mc sl pc lv (.ref a :: st) cu su σ code G := by
  intro u r σ' h1 h2 p e s m args below meth c H locs ls C HW hl
  obtain ⟨refs, hr⟩ := hm.use HW.2.2.1
  obtain ⟨q, ref, hc, hk, hlink, hsame⟩ := hf
  have h8 := HW.1.ge8 hr (by intro h; cases h)
  obtain ⟨q', hc', cell, q1, q2, q3, q4⟩ := HW.1.2.2.1 a _ h8 hr
  cases hc.symm.trans hc'
  obtain ⟨hin, hty, hnm, hok⟩ := am_cls_ok ci q hc
  have hts := C.2.2.2.2.2.1
  obtain ⟨hS, hfc, kC, hkC, hkind⟩ := C.2.2.2.2.2.2.2.2.1.1 ci _ hc
  obtain ⟨cf, kf, fi, f, hi, hsl⟩ := hS k hk
  refine W.getf C.1 C.2.1 C.2.2.2.2.1 (hts _ hlink) (am_same_of (own := q.1) hts hsame _ hi) (u_facts hfc hkC (u_lays hts hin hk) hi).1 q1 (by rw [q3]; exact fun h => by cases h) (v := am_tv E w) ?_ rfl rfl hd (kk u r σ' h1 h2 p e s m args below meth c H locs ls C HW hl)
  rw [hsl, q4 k hk, hw refs hr]
theorem z_getI {a idx ci k : Nat} (hd : decode Y.2.1 pc = .ok (.getfield idx, 3)) (hm : am_ob ms σ a ci) (hf : am_fr Y.1.cls idx ci k) (hk : am_kd (am_ty ci k) = 0)
    (kk : Z l E ms σ0 Y d mc sl (pc + 3) lv (.int (fF σ a k) :: st) cu su σ code G) : Z l E ms σ0 Y d mc sl pc lv (.ref a :: st) cu su σ code G :=
  z_getV hd hm hf (fun refs _ => by unfold am_V; rw [if_pos hk]; rfl) kk
theorem z_getL {a idx ci k : Nat} (hd : decode Y.2.1 pc = .ok (.getfield idx, 3)) (hm : am_ob ms σ a ci) (hf : am_fr Y.1.cls idx ci k) (hk : am_kd (am_ty ci k) = 1)
    (kk : Z l E ms σ0 Y d mc sl (pc + 3) lv (.long (fG σ a k) :: st) cu su σ code G) : Z l E ms σ0 Y d mc sl pc lv (.ref a :: st) cu su σ code G :=
  z_getV hd hm hf (fun refs _ => by unfold am_V; rw [if_neg (by rw [hk]; decide), if_pos hk]; rfl) kk
/-- a reference that is known -/
theorem z_getQ {a b idx ci k : Nat} {refs : List (Option Nat)} (hd : decode Y.2.1 pc = .ok (.getfield idx, 3)) (hm : ms[a]? = some (.inl (ci, refs))) (hf : am_fr Y.1.cls idx ci k) (hk : am_kd (am_ty ci k) = 2) (hb : refs.getD k none = some b)
    (kk : Z l E ms σ0 Y d mc sl (pc + 3) lv (.ref b :: st) cu su σ code G) : Z l E ms σ0 Y d mc sl pc lv (.ref a :: st) cu su σ code G := by
  intro u r σ' h1 h2 p e s m args below meth c H locs ls C HW hl
  obtain ⟨m', e1, hle⟩ := HW.2.2.1 a _ hm
  refine z_getV hd (am_ob.s hm) hf (w := .ref b) (fun refs' hr' => ?_) kk u r σ' h1 h2 p e s m args below meth c H locs ls C HW hl
  cases e1.symm.trans hr'
  unfold am_V
  rw [if_neg (by rw [hk]; decide), if_neg (by rw [hk]; decide), hle.2 k b hb]; rfl
/-- a reference that isn't -/
theorem z_getR {a idx ci k : Nat} (hd : decode Y.2.1 pc = .ok (.getfield idx, 3)) (hm : am_ob ms σ a ci) (hf : am_fr Y.1.cls idx ci k) (hk : am_kd (am_ty ci k) = 2)
    (kk : Z l E ms σ0 Y d mc sl (pc + 3) lv (va_rf (am_rq σ a k) :: st) cu su σ code G) : Z l E ms σ0 Y d mc sl pc lv (.ref a :: st) cu su σ code G :=
  z_getV hd hm hf (fun refs hr => by
    unfold am_V
    rw [if_neg (by rw [hk]; decide), if_neg (by rw [hk]; decide), am_tv_rf]
    unfold am_rq
    rw [hr]) kk
/-- a pooled object: its class is one of several -/
theorem z_getIp {a idx k : Nat} (cis : List Nat) (hd : decode Y.2.1 pc = .ok (.getfield idx, 3)) (hm : cis.contains (am_ci σ a) = true) (h9 : cis.contains 99 = false) (hf : ∀ ci ∈ cis, am_fr Y.1.cls idx ci k ∧ am_kd (am_ty ci k) = 0)
    (kk : Z l E ms σ0 Y d mc sl (pc + 3) lv (.int (fF σ a k) :: st) cu su σ code G) : Z l E ms σ0 Y d mc sl pc lv (.ref a :: st) cu su σ code G := by
  have hmem : am_ci σ a ∈ cis := by simpa using hm
  exact z_getI hd (am_ob.d rfl (fun h => by rw [h] at hm; rw [hm] at h9; cases h9)) (hf _ hmem).1 (hf _ hmem).2 kk
theorem am_putAt {args : Array Value} {s : State} {H' : Heap} {a ci k : Nat} {refs refs' : List (Option Nat)} {q : vw_C} {σ' : am_S} {cell : Cell} {w : Value} (hcq : am_cls[ci]? = some q) (hk : k < q.2.2)
    (hts : ∀ w ∈ am_gt, w.before args s = true) (hK : am_K E s) (q2 : cell.cls = (eD E).1 ci) (q3 : cell.vm = .none) (q4 : ∀ j, j < q.2.2 → cell.slots[(eD E).2 ci j]? = some (am_V E σ a ci refs j))
    (e1 : H'[am_ad E a]? = some (cell.setSlot ((eD E).2 ci k) w)) (hV : ∀ j, j < q.2.2 → updV (am_V E σ a ci refs) k w j = am_V E σ' a ci refs' j) : am_at E σ' a (.inl (ci, refs')) H' := by
  obtain ⟨hin, hty, hnm, hok⟩ := am_cls_ok ci q hcq
  have hap := va_apart (own := q.1) (C := q.1) (T := q.2.1) (N := q.2.2) hts hin (am_ty ci) hty hnm hK.1 hcq
  exact ⟨q, hcq, t_OB.to (V := updV (am_V E σ a ci refs) k w) ⟨_, e1, q2, q3, t_set q4 hap hk w⟩ hV⟩
/-- a store into a field that isn't final -/
theorem z_putV {a idx ci k : Nat} {w : Value} {σ1 : am_S} (hd : decode Y.2.1 pc = .ok (.putfield idx, 3)) (hm : am_ob ms σ a ci) (hf : am_fw Y.1.cls idx ci k) (hn : narrow (am_ty ci k) (am_tv E w) = am_tv E w) (hfit : fits (am_ty ci k) (am_tv E w) = true) (e1 : σ1.1 = σ.1)
    (hne : ∀ b : Nat, b ≠ a → fF σ1 b = fF σ b ∧ fG σ1 b = fG σ b ∧ fQ σ1 b = fQ σ b) (hV : ∀ (refs : List (Option Nat)) (q : vw_C), σ.1[a]? = some (.inl (ci, refs)) → am_cls[ci]? = some q → ∀ j, j < q.2.2 → updV (am_V E σ a ci refs) k (am_tv E w) j = am_V E σ1 a ci refs j)
    (kk : Z l E ms σ0 Y d mc sl (pc + 3) lv st cu su σ1 code G) : Z l E ms σ0 Y d mc sl pc lv (w :: .ref a :: st) cu su σ code G := by
  intro u r σ' h1 h2 p e s m args below meth c H locs ls C HW hl
  obtain ⟨refs, hr⟩ := hm.use HW.2.2.1
  obtain ⟨⟨q, ref, hc, hk, hlink, hsame⟩, hnf⟩ := hf
  have h8 := HW.1.ge8 hr (by intro h; cases h)
  obtain ⟨q', hc', cell, q1, q2, q3, q4⟩ := HW.1.2.2.1 a _ h8 hr
  cases hc.symm.trans hc'
  obtain ⟨hin, hty, hnm, hok⟩ := am_cls_ok ci q hc
  have hts := C.2.2.2.2.2.1
  have hK := C.2.2.2.2.2.2.2.2
  obtain ⟨hS, hfc, kC, hkC, hkind⟩ := hK.1.1 ci _ hc
  obtain ⟨cf, kf, fi, f, hi, hsl⟩ := hS k hk
  have hlay := hts _ (hin _ (u_in_lay hk))
  unfold u_lay at hlay
  rw [if_neg (by rw [hnf q hc]; decide)] at hlay
  have hst := (u_facts hfc hkC (u_lays hts hin hk) hi).1
  have h6 := u_store hfc hkC hkind hlay hi (hty k hk) hn hfit
  refine W.putK C.1 C.2.1 (f := f) ⟨C.2.2.2.2.1, hts _ hlink, ⟨_, _, _, am_same_of (own := q.1) hts hsame _ hi⟩, hst⟩ (by rw [q2]; exact h6) q1 q3 (by rw [hsl]; exact k2_hasslot (q4 k hk)) rfl rfl hd fun H' e3 e4 e5 => ?_
  rw [hsl] at e3
  have hat : am_at E σ1 a (.inl (ci, refs)) H' := am_putAt hc hk hts hK q2 q3 q4 e3 (hV refs q hr hc)
  have hW' : am_W E σ1 H' := HW.1.upd e1 h8 e4 e5 hne (fun m hm => by cases hr.symm.trans hm; exact hat)
  exact kk u r σ' h1 h2 p e s m args below meth c H' _ ls C ⟨hW', HW.2.1.put e4 e5 (by show eB E ≤ am_ad E a; rw [am_ad8 h8]; omega), by rw [e1]; exact HW.2.2.1, by rw [e1]; exact HW.2.2.2⟩ hl
theorem am_V_sF {a ci k : Nat} {refs : List (Option Nat)} {v : Int32} (hk : am_kd (am_ty ci k) = 0) (j : Nat) : updV (am_V E σ a ci refs) k (.int v) j = am_V E (sF σ a k v) a ci refs j := by
  unfold updV am_V
  rw [fF_sF]
  by_cases hj : j = k
  · subst hj
    rw [if_pos rfl, if_pos hk, if_pos ⟨rfl, rfl⟩]
  · have e : (if a = a ∧ j = k then v else fF σ a j) = fF σ a j := if_neg (fun h => hj h.2)
    rw [if_neg hj, e]; rfl
theorem am_V_sG {a ci k : Nat} {refs : List (Option Nat)} {v : Int64} (hk : am_kd (am_ty ci k) = 1) (j : Nat) : updV (am_V E σ a ci refs) k (.long v) j = am_V E (sG σ a k v) a ci refs j := by
  unfold updV am_V
  rw [fG_sG]
  by_cases hj : j = k
  · subst hj
    rw [if_pos rfl, if_neg (by rw [hk]; decide), if_pos hk, if_pos ⟨rfl, rfl⟩]
  · have e : (if a = a ∧ j = k then v else fG σ a j) = fG σ a j := if_neg (fun h => hj h.2)
    rw [if_neg hj, e]; rfl
theorem am_kd0 {ty : FieldType} (h : ty = .int) : am_kd ty = 0 := by rw [h]; rfl
theorem z_putI {a idx ci k : Nat} {v : Int32} (hd : decode Y.2.1 pc = .ok (.putfield idx, 3)) (hm : am_ob ms σ a ci) (hf : am_fw Y.1.cls idx ci k) (ht : am_ty ci k = .int)
    (kk : Z l E ms σ0 Y d mc sl (pc + 3) lv st cu su (sF σ a k v) code G) : Z l E ms σ0 Y d mc sl pc lv (.int v :: .ref a :: st) cu su σ code G :=
  z_putV (σ1 := sF σ a k v) hd hm hf (by rw [ht]; rfl) (by rw [ht]; rfl) rfl sF_ne (fun _ _ _ _ j _ => am_V_sF (am_kd0 ht) j) kk
theorem z_putZ {a idx ci k : Nat} {v : Int32} (hd : decode Y.2.1 pc = .ok (.putfield idx, 3)) (hm : am_ob ms σ a ci) (hf : am_fw Y.1.cls idx ci k) (ht : am_ty ci k = .boolean) (hv : narrow .boolean (.int v) = .int v ∧ fits .boolean (.int v) = true)
    (kk : Z l E ms σ0 Y d mc sl (pc + 3) lv st cu su (sF σ a k v) code G) : Z l E ms σ0 Y d mc sl pc lv (.int v :: .ref a :: st) cu su σ code G :=
  z_putV (σ1 := sF σ a k v) hd hm hf (by rw [ht]; exact hv.1) (by rw [ht]; exact hv.2) rfl sF_ne (fun _ _ _ _ j _ => am_V_sF (by rw [ht]; rfl) j) kk
theorem z_putL {a idx ci k : Nat} {v : Int64} (hd : decode Y.2.1 pc = .ok (.putfield idx, 3)) (hm : am_ob ms σ a ci) (hf : am_fw Y.1.cls idx ci k) (ht : am_ty ci k = .long)
    (kk : Z l E ms σ0 Y d mc sl (pc + 3) lv st cu su (sG σ a k v) code G) : Z l E ms σ0 Y d mc sl pc lv (.long v :: .ref a :: st) cu su σ code G :=
  z_putV (σ1 := sG σ a k v) hd hm hf (by rw [ht]; rfl) (by rw [ht]; rfl) rfl sG_ne (fun _ _ _ _ j _ => am_V_sG (by rw [ht]; rfl) j) kk
/-- a pooled object's field that isn't final -/
theorem z_putIp {a idx k : Nat} {v : Int32} (cis : List Nat) (hd : decode Y.2.1 pc = .ok (.putfield idx, 3)) (hm : cis.contains (am_ci σ a) = true) (h9 : cis.contains 99 = false) (hf : ∀ ci ∈ cis, am_fw Y.1.cls idx ci k ∧ am_ty ci k = .int)
    (kk : Z l E ms σ0 Y d mc sl (pc + 3) lv st cu su (sF σ a k v) code G) : Z l E ms σ0 Y d mc sl pc lv (.int v :: .ref a :: st) cu su σ code G := by
  have hmem : am_ci σ a ∈ cis := by simpa using hm
  exact z_putI hd (am_ob.d rfl (fun h => by rw [h] at hm; rw [hm] at h9; cases h9)) (hf _ hmem).1 (hf _ hmem).2 kk
-- arrays
theorem am_K.arr {s : State} (hK : am_K E s) {t : Nat} (ht : t < 7) : ArrOfT s (eA E t) (am_aty t) ∧ va_RA s (eA E t) (am_aty t) :=
  hK.1.2 t (eA E t, am_aty t) (by unfold am_tys; rw [List.getElem?_map, List.getElem?_range ht]; rfl)
theorem am_at_I {a t n : Nat} {H : Heap} (ht : t = 0 ∨ t = 2 ∨ t = 3) (h : am_at E σ a (.inr (t, n)) H) : H[am_ad E a]? = some (arrV (eA E t) n (fun j => .int (fF σ a j))) := by
  rcases ht with rfl | rfl | rfl <;> exact h
theorem am_at_L {a n : Nat} {H : Heap} (h : am_at E σ a (.inr (1, n)) H) : H[am_ad E a]? = some (arrV (eA E 1) n (fun j => .long (fG σ a j))) := h
theorem am_at_Q {a t n : Nat} {H : Heap} (ht : 4 ≤ t) (h : am_at E σ a (.inr (t, n)) H) : H[am_ad E a]? = some (arrV (eA E t) n (fun j => va_rf ((fQ σ a j).map (am_ad E)))) := by
  have h' : H[am_ad E a]? = some (vp_cell (eA E t) (n, am_arr E σ a t)) := h
  rw [h']
  unfold am_arr
  rw [if_neg (by omega), if_pos ht]; rfl
theorem am_ar.t9 {a t n : Nat} {H : Heap} (hW : am_W E σ H) (hr : σ.1[a]? = some (.inr (t, n))) (ht : t < 7) : 8 ≤ a := hW.ge8 hr (by intro h; cases h; omega)
theorem am_vpin {i : Int32} {n : Nat} (h : am_in i n = true) : ¬ (i < 0 ∨ n ≤ i.toNatClampNeg) ∧ i.toNatClampNeg < n := ⟨am_in_vp h, Nat.not_le.mp fun q => am_in_vp h (Or.inr q)⟩
theorem z_iald {a n : Nat} {i : Int32} (hd : decode Y.2.1 pc = .ok (.iaload, 1)) (hm : am_ar ms σ a 0 n) (kk : am_in i n = true → Z l E ms σ0 Y d mc sl (pc + 1) lv (.int (fF σ a i.toNatClampNeg) :: st) cu su σ A G) : Z l E ms σ0 Y d mc sl pc lv (.int i :: .ref a :: st) cu su σ (if am_in i n = true then A else none) G := by
  refine z_guard fun hin => ?_
  intro u r σ' h1 h2 p e s m args below meth c H locs ls C HW hl
  have hr := hm.use HW.2.2.1
  have hc := am_at_I (Or.inl rfl) (HW.1.2.2.1 a _ (am_ar.t9 HW.1 hr (by decide)) hr)
  obtain ⟨g1, g2⟩ := am_vpin hin
  exact W.iald (v := .int (fF σ a i.toNatClampNeg)) C.1 C.2.1 hc ((C.2.2.2.2.2.2.2.2.arr (t := 0) (by decide)).1 n _) (fun q => by cases q) (by rw [arrV_size]; exact g1) (by rw [arrV_read _ _ g2]) rfl rfl hd (kk hin u r σ' h1 h2 p e s m args below meth c H locs ls C HW hl)
theorem z_bald {a n : Nat} {i : Int32} (hd : decode Y.2.1 pc = .ok (.baload, 1)) (hm : am_ar ms σ a 2 n) (kk : am_in i n = true → Z l E ms σ0 Y d mc sl (pc + 1) lv (.int (fF σ a i.toNatClampNeg) :: st) cu su σ A G) : Z l E ms σ0 Y d mc sl pc lv (.int i :: .ref a :: st) cu su σ (if am_in i n = true then A else none) G := by
  refine z_guard fun hin => ?_
  intro u r σ' h1 h2 p e s m args below meth c H locs ls C HW hl
  have hr := hm.use HW.2.2.1
  have hc := am_at_I (Or.inr (Or.inl rfl)) (HW.1.2.2.1 a _ (am_ar.t9 HW.1 hr (by decide)) hr)
  obtain ⟨g1, g2⟩ := am_vpin hin
  exact W.bald (v := .int (fF σ a i.toNatClampNeg)) C.1 C.2.1 hc ((C.2.2.2.2.2.2.2.2.arr (t := 2) (by decide)).1 n _) (fun q => by cases q) (by rw [arrV_size]; exact g1) (by rw [arrV_read _ _ g2]) rfl rfl hd (kk hin u r σ' h1 h2 p e s m args below meth c H locs ls C HW hl)
theorem z_zald {a n : Nat} {i : Int32} (hd : decode Y.2.1 pc = .ok (.baload, 1)) (hm : am_ar ms σ a 3 n) (kk : am_in i n = true → Z l E ms σ0 Y d mc sl (pc + 1) lv (.int (fF σ a i.toNatClampNeg) :: st) cu su σ A G) : Z l E ms σ0 Y d mc sl pc lv (.int i :: .ref a :: st) cu su σ (if am_in i n = true then A else none) G := by
  refine z_guard fun hin => ?_
  intro u r σ' h1 h2 p e s m args below meth c H locs ls C HW hl
  have hr := hm.use HW.2.2.1
  have hc := am_at_I (Or.inr (Or.inr rfl)) (HW.1.2.2.1 a _ (am_ar.t9 HW.1 hr (by decide)) hr)
  obtain ⟨g1, g2⟩ := am_vpin hin
  exact W.zald (v := .int (fF σ a i.toNatClampNeg)) C.1 C.2.1 hc ((C.2.2.2.2.2.2.2.2.arr (t := 3) (by decide)).1 n _) (fun q => by cases q) (by rw [arrV_size]; exact g1) (by rw [arrV_read _ _ g2]) rfl rfl hd (kk hin u r σ' h1 h2 p e s m args below meth c H locs ls C HW hl)
theorem z_lald {a n : Nat} {i : Int32} (hd : decode Y.2.1 pc = .ok (.laload, 1)) (hm : am_ar ms σ a 1 n) (kk : am_in i n = true → Z l E ms σ0 Y d mc sl (pc + 1) lv (.long (fG σ a i.toNatClampNeg) :: st) cu su σ A G) : Z l E ms σ0 Y d mc sl pc lv (.int i :: .ref a :: st) cu su σ (if am_in i n = true then A else none) G := by
  refine z_guard fun hin => ?_
  intro u r σ' h1 h2 p e s m args below meth c H locs ls C HW hl
  have hr := hm.use HW.2.2.1
  have hc := am_at_L (HW.1.2.2.1 a _ (am_ar.t9 HW.1 hr (by decide)) hr)
  obtain ⟨g1, g2⟩ := am_vpin hin
  exact W.lald (v := .long (fG σ a i.toNatClampNeg)) C.1 C.2.1 hc ((C.2.2.2.2.2.2.2.2.arr (t := 1) (by decide)).1 n _) (fun q => by cases q) (by rw [arrV_size]; exact g1) (by rw [arrV_read _ _ g2]) rfl rfl hd (kk hin u r σ' h1 h2 p e s m args below meth c H locs ls C HW hl)
theorem z_qald {a n t : Nat} {i : Int32} (hd : decode Y.2.1 pc = .ok (.aaload, 1)) (ht : 4 ≤ t ∧ t < 7) (hm : am_ar ms σ a t n) (kk : am_in i n = true → Z l E ms σ0 Y d mc sl (pc + 1) lv (va_rf (fQ σ a i.toNatClampNeg) :: st) cu su σ A G) : Z l E ms σ0 Y d mc sl pc lv (.int i :: .ref a :: st) cu su σ (if am_in i n = true then A else none) G := by
  refine z_guard fun hin => ?_
  intro u r σ' h1 h2 p e s m args below meth c H locs ls C HW hl
  have hr := hm.use HW.2.2.1
  have hc := am_at_Q ht.1 (HW.1.2.2.1 a _ (am_ar.t9 HW.1 hr ht.2) hr)
  obtain ⟨g1, g2⟩ := am_vpin hin
  refine W.aald (v := am_tv E (va_rf (fQ σ a i.toNatClampNeg))) (ty := am_aty t) C.1 C.2.1 hc ((C.2.2.2.2.2.2.2.2.arr ht.2).1 n _) ?_ (fun q => by cases q) (by rw [arrV_size]; exact g1) (by rw [arrV_read _ _ g2, am_tv_rf]) rfl rfl hd (kk hin u r σ' h1 h2 p e s m args below meth c H locs ls C HW hl)
  obtain ⟨C', e', -⟩ := C.2.2.2.2.2.2.2.2.2.2.2.1 t ht.1 ht.2
  rw [e']; rfl
theorem am_arr_put {H H' : Heap} {a t n : Nat} {σ1 : am_S} {k : Nat} {w : Value} {f g : Nat → Value} (hc : H[am_ad E a]? = some (arrV (eA E t) n f)) (e : H'[am_ad E a]? = some ((arrV (eA E t) n f).setSlot k w)) (hg : updV f k w = g) (hat : vp_cell (eA E t) (n, am_arr E σ1 a t) = arrV (eA E t) n g) : am_at E σ1 a (.inr (t, n)) H' := by
  show H'[am_ad E a]? = some _
  rw [e, arrV_store, hg, hat]
theorem am_stF {a t n : Nat} {H H' : Heap} {v : Int32} {k : Nat} (ht : t = 0 ∨ t = 2 ∨ t = 3) (hc : H[am_ad E a]? = some (arrV (eA E t) n (fun j => .int (fF σ a j)))) (e : H'[am_ad E a]? = some ((arrV (eA E t) n (fun j => .int (fF σ a j))).setSlot k (.int v))) : am_at E (sF σ a k v) a (.inr (t, n)) H' := by
  refine am_arr_put (g := fun j => .int (fF (sF σ a k v) a j)) hc e ?_ ?_
  · funext j
    unfold updV
    rw [fF_sF]
    by_cases hj : j = k
    · simp [hj]
    · simp [hj]
  · rcases ht with rfl | rfl | rfl <;> rfl
theorem z_iast {a n : Nat} {i v : Int32} (hd : decode Y.2.1 pc = .ok (.iastore, 1)) (hm : am_ar ms σ a 0 n) (kk : am_in i n = true → Z l E ms σ0 Y d mc sl (pc + 1) lv st cu su (sF σ a i.toNatClampNeg v) A G) : Z l E ms σ0 Y d mc sl pc lv (.int v :: .int i :: .ref a :: st) cu su σ (if am_in i n = true then A else none) G := by
  refine z_guard fun hin => ?_
  intro u r σ' h1 h2 p e s m args below meth c H locs ls C HW hl
  have hr := hm.use HW.2.2.1
  have h8 := am_ar.t9 HW.1 hr (by decide)
  have hc := am_at_I (Or.inl rfl) (HW.1.2.2.1 a _ h8 hr)
  obtain ⟨g1, g2⟩ := am_vpin hin
  refine W.iast C.1 C.2.1 hc ((C.2.2.2.2.2.2.2.2.arr (t := 0) (by decide)).1 n _) (fun q => by cases q) (by rw [arrV_size]; exact g1) rfl rfl hd fun H' e3 e4 e5 => ?_
  have hW' : am_W E (sF σ a i.toNatClampNeg v) H' := HW.1.upd rfl h8 e4 e5 sF_ne (fun m hm' => by cases hr.symm.trans hm'; exact am_stF (Or.inl rfl) hc e3)
  exact kk hin u r σ' h1 h2 p e s m args below meth c H' _ ls C ⟨hW', HW.2.1.put e4 e5 (by show eB E ≤ am_ad E a; rw [am_ad8 h8]; omega), HW.2.2.1, HW.2.2.2⟩ hl
theorem z_bast {a n : Nat} {i v : Int32} (hd : decode Y.2.1 pc = .ok (.bastore, 1)) (hm : am_ar ms σ a 2 n) (kk : am_in i n = true → Z l E ms σ0 Y d mc sl (pc + 1) lv st cu su (sF σ a i.toNatClampNeg v.toInt8.toInt32) A G) : Z l E ms σ0 Y d mc sl pc lv (.int v :: .int i :: .ref a :: st) cu su σ (if am_in i n = true then A else none) G := by
  refine z_guard fun hin => ?_
  intro u r σ' h1 h2 p e s m args below meth c H locs ls C HW hl
  have hr := hm.use HW.2.2.1
  have h8 := am_ar.t9 HW.1 hr (by decide)
  have hc := am_at_I (Or.inr (Or.inl rfl)) (HW.1.2.2.1 a _ h8 hr)
  obtain ⟨g1, g2⟩ := am_vpin hin
  refine W.bast C.1 C.2.1 hc ((C.2.2.2.2.2.2.2.2.arr (t := 2) (by decide)).1 n _) (fun q => by cases q) (by rw [arrV_size]; exact g1) rfl rfl hd fun H' e3 e4 e5 => ?_
  have hW' : am_W E (sF σ a i.toNatClampNeg v.toInt8.toInt32) H' := HW.1.upd rfl h8 e4 e5 sF_ne (fun m hm' => by cases hr.symm.trans hm'; exact am_stF (Or.inr (Or.inl rfl)) hc e3)
  exact kk hin u r σ' h1 h2 p e s m args below meth c H' _ ls C ⟨hW', HW.2.1.put e4 e5 (by show eB E ≤ am_ad E a; rw [am_ad8 h8]; omega), HW.2.2.1, HW.2.2.2⟩ hl
theorem z_zast {a n : Nat} {i v : Int32} (hd : decode Y.2.1 pc = .ok (.bastore, 1)) (hm : am_ar ms σ a 3 n) (hv : narrow .boolean (.int v) = .int v) (kk : am_in i n = true → Z l E ms σ0 Y d mc sl (pc + 1) lv st cu su (sF σ a i.toNatClampNeg v) A G) : Z l E ms σ0 Y d mc sl pc lv (.int v :: .int i :: .ref a :: st) cu su σ (if am_in i n = true then A else none) G := by
  refine z_guard fun hin => ?_
  intro u r σ' h1 h2 p e s m args below meth c H locs ls C HW hl
  have hr := hm.use HW.2.2.1
  have h8 := am_ar.t9 HW.1 hr (by decide)
  have hc := am_at_I (Or.inr (Or.inr rfl)) (HW.1.2.2.1 a _ h8 hr)
  obtain ⟨g1, g2⟩ := am_vpin hin
  refine W.zast C.1 C.2.1 hc ((C.2.2.2.2.2.2.2.2.arr (t := 3) (by decide)).1 n _) (fun q => by cases q) (by rw [arrV_size]; exact g1) rfl rfl hd fun H' e3 e4 e5 => ?_
  have hW' : am_W E (sF σ a i.toNatClampNeg v) H' := HW.1.upd rfl h8 e4 e5 sF_ne (fun m hm' => by cases hr.symm.trans hm'; exact am_stF (Or.inr (Or.inr rfl)) hc (by first | exact e3 | (rw [hv] at e3; exact e3) | (simp only [vp_nar, hv] at e3; exact e3)))
  exact kk hin u r σ' h1 h2 p e s m args below meth c H' _ ls C ⟨hW', HW.2.1.put e4 e5 (by show eB E ≤ am_ad E a; rw [am_ad8 h8]; omega), HW.2.2.1, HW.2.2.2⟩ hl
theorem z_last {a n : Nat} {i : Int32} {v : Int64} (hd : decode Y.2.1 pc = .ok (.lastore, 1)) (hm : am_ar ms σ a 1 n) (kk : am_in i n = true → Z l E ms σ0 Y d mc sl (pc + 1) lv st cu su (sG σ a i.toNatClampNeg v) A G) : Z l E ms σ0 Y d mc sl pc lv (.long v :: .int i :: .ref a :: st) cu su σ (if am_in i n = true then A else none) G := by
  refine z_guard fun hin => ?_
  intro u r σ' h1 h2 p e s m args below meth c H locs ls C HW hl
  have hr := hm.use HW.2.2.1
  have h8 := am_ar.t9 HW.1 hr (by decide)
  have hc := am_at_L (HW.1.2.2.1 a _ h8 hr)
  obtain ⟨g1, g2⟩ := am_vpin hin
  refine W.last C.1 C.2.1 hc ((C.2.2.2.2.2.2.2.2.arr (t := 1) (by decide)).1 n _) (fun q => by cases q) (by rw [arrV_size]; exact g1) rfl rfl hd fun H' e3 e4 e5 => ?_
  have hat : am_at E (sG σ a i.toNatClampNeg v) a (.inr (1, n)) H' := am_arr_put (g := fun j => .long (fG (sG σ a i.toNatClampNeg v) a j)) hc e3 (by
    funext j
    unfold updV
    rw [fG_sG]
    by_cases hj : j = i.toNatClampNeg
    · simp [hj]
    · simp [hj]) rfl
  have hW' : am_W E (sG σ a i.toNatClampNeg v) H' := HW.1.upd rfl h8 e4 e5 sG_ne (fun m hm' => by cases hr.symm.trans hm'; exact hat)
  exact kk hin u r σ' h1 h2 p e s m args below meth c H' _ ls C ⟨hW', HW.2.1.put e4 e5 (by show eB E ≤ am_ad E a; rw [am_ad8 h8]; omega), HW.2.2.1, HW.2.2.2⟩ hl
theorem am_cellV (cA : ClassId) (n : Nat) (x : (Nat → Int32) ⊕ (Nat → Int64) ⊕ (Nat → UInt32) ⊕ (Nat → UInt64) ⊕ (Nat → Option Nat)) : ∃ f : Nat → Value, vp_cell cA (n, x) = arrV cA n f := by
  rcases x with f | f | f | f | f
  · exact ⟨fun j => .int (f j), rfl⟩
  · exact ⟨fun j => .long (f j), rfl⟩
  · exact ⟨fun j => .float (f j), rfl⟩
  · exact ⟨fun j => .double (f j), rfl⟩
  · exact ⟨fun j => va_rf (f j), rfl⟩
theorem z_alen {a t n : Nat} {v : Int32} (hd : decode Y.2.1 pc = .ok (.arraylength, 1)) (ht : t < 7) (hm : am_ar ms σ a t n) (hv : Int32.ofNat n = v) (kk : Z l E ms σ0 Y d mc sl (pc + 1) lv (.int v :: st) cu su σ code G) : Z l E ms σ0 Y d mc sl pc lv (.ref a :: st) cu su σ code G := by
  intro u r σ' h1 h2 p e s m args below meth c H locs ls C HW hl
  have hr := hm.use HW.2.2.1
  have hc : H[am_ad E a]? = some (vp_cell (eA E t) (n, am_arr E σ a t)) := HW.1.2.2.1 a _ (am_ar.t9 HW.1 hr ht) hr
  obtain ⟨f, h4⟩ := am_cellV (eA E t) n (am_arr E σ a t)
  exact W.alen (n := v) (ty := am_aty t) C.1 C.2.1 hc (by rw [h4]; exact (C.2.2.2.2.2.2.2.2.arr ht).1 n f) (by rw [h4, arrV_size]; exact hv) rfl rfl hd (kk u r σ' h1 h2 p e s m args below meth c H locs ls C HW hl)
end ZH
