/-! RULES OF Z: cells made, final fields, references stored, instanceof, the JDK's own -/
theorem am_W.push {E : am_E} {σ : am_S} {m : am_M} {H H' : Heap} (hW : am_W E σ H) (hn : am_at E (am_nw σ m) σ.1.length m H') (hz : H'.size = H.size + 1) (ho : ∀ q : Nat, q < H.size → H'[q]? = H[q]?) : am_W E (am_nw σ m) H' := by
  have h8 := hW.1
  have hlen : (am_nw σ m).1.length = σ.1.length + 1 := by show (σ.1 ++ [m]).length = _; simp
  refine ⟨by omega, by rw [hz, hW.2.1, hlen]; omega, fun k x hk hx => ?_, fun q hq => ?_, fun k x hk hx => ?_⟩
  · by_cases h : k < σ.1.length
    · have hx' : σ.1[k]? = some x := by rw [← hx]; exact (List.getElem?_append_left h).symm
      have e1 : ∀ {α : Type} (f : Nat → Nat → α) (v : α), am_z f σ.1.length v k = f k := fun f v => if_neg (Nat.ne_of_lt h)
      refine (hW.2.2.1 k x hk hx').same ?_ ?_ ?_ (ho _ (hW.lt hk hx'))
      · funext j; exact congrFun (e1 σ.2.1 0) j
      · funext j; exact congrFun (e1 σ.2.2.1 0) j
      · funext j; exact congrFun (e1 σ.2.2.2 none) j
    · have hl : k < σ.1.length + 1 := by rw [← hlen]; exact (List.getElem?_eq_some_iff.mp hx).1
      have hkl : k = σ.1.length := by omega
      subst hkl
      have hx' : (σ.1 ++ [m])[σ.1.length]? = some x := hx
      rw [List.getElem?_concat_length] at hx'
      cases hx'
      exact hn
  · rw [ho q (by rw [hW.2.1]; omega)]
    exact hW.2.2.2.1 q hq
  · exact hW.2.2.2.2 k x hk (by rw [← hx]; exact (List.getElem?_append_left (by omega)).symm)
theorem am_W.top {E : am_E} {σ : am_S} {H : Heap} (hW : am_W E σ H) : H.size = am_ad E σ.1.length := by rw [am_ad8 hW.1, hW.2.1]
theorem am_S_push {E : am_E} {s : State} {H H' : Heap} {locs : List Loc} (hS : va_S (am_A E) s.heap H locs) (hz : H'.size = H.size + 1) (ho : ∀ q : Nat, q < H.size → H'[q]? = H[q]?) : va_S (am_A E) s.heap H' locs :=
  ⟨Nat.le_trans hS.1 (by omega), fun x h1 h2 => (ho x (Nat.lt_of_lt_of_le h1 hS.1)).trans (hS.2.1 x h1 h2), hS.2.2⟩
/-- a reference's place in the kinds -/
def am_rs (refs : List (Option Nat)) (k b : Nat) : List (Option Nat) := (List.range (max refs.length (k + 1))).map fun j => if j = k then some b else refs.getD j none
theorem am_rs_get (refs : List (Option Nat)) (k b j : Nat) : (am_rs refs k b).getD j none = if j = k then some b else refs.getD j none := by
  unfold am_rs
  rw [List.getD_eq_getElem?_getD, List.getElem?_map]
  by_cases h : j < max refs.length (k + 1)
  · rw [List.getElem?_range h]; rfl
  · rw [List.getElem?_eq_none (by simp; omega)]
    rw [if_neg (by omega), List.getD_eq_getElem?_getD, List.getElem?_eq_none (by omega)]; rfl
def sK (σ : am_S) (b : Nat) (f : Nat → Int32) : am_S := (σ.1, (fun x => if x = b then f else σ.2.1 x), σ.2.2)
theorem sK_ne {σ : am_S} {a : Nat} {f : Nat → Int32} (b : Nat) (h : b ≠ a) : fF (sK σ a f) b = fF σ b ∧ fG (sK σ a f) b = fG σ b ∧ fQ (sK σ a f) b = fQ σ b := by
  refine ⟨?_, rfl, rfl⟩
  funext j
  show (if b = a then f else σ.2.1 b) j = σ.2.1 b j
  rw [if_neg h]
theorem fF_sK (σ : am_S) (a : Nat) (f : Nat → Int32) (b j : Nat) : fF (sK σ a f) b j = if b = a then f j else fF σ b j := by
  show (if b = a then f else σ.2.1 b) j = _
  by_cases h : b = a
  · rw [if_pos h, if_pos h]
  · rw [if_neg h, if_neg h]; rfl
def am_cp (sp dp n : Int32) (n0 n1 : Nat) : Bool := decide (0 ≤ sp) && decide (0 ≤ dp) && decide (0 ≤ n) && decide (sp.toNatClampNeg + n.toNatClampNeg ≤ n0) && decide (dp.toNatClampNeg + n.toNatClampNeg ≤ n1)
def am_insOk (nm : String) (ys : List Nat) : Bool := [2, 3, 5, 6, 7, 9].all fun ci => match am_cls[ci]? with
  | some q => if ys.contains ci then am_yes.contains (q.1, nm) else am_not.contains (q.1, nm)
  | none => false
section ZN
variable {U : Type} {l : Launch} {E : am_E} {ms : List am_M} {σ0 : am_S} {Y : am_Y} {d mc sl pc cu su : Nat} {lv : List (Nat × Value)} {st : List Value} {σ : am_S} {code A B : Option U} {G : U → Option Value → am_S → Prop}
theorem z_objInit {a idx : Nat} (hd : decode Y.2.1 pc = .ok (.invokespecial idx, 3)) (w1 : Cond.methodLink Y.1.cls idx Lib.objectInit ∈ am_gt) (w2 : Cond.instanceMethod Lib.objectInit ∈ am_gt) (w3 : Cond.code Lib.objectInit ⟨#[0xb1]⟩ 1 none ∈ am_gt) (h1d : 1 ≤ d) (hro : (st.map fun v => v.category).sum ≤ 8)
    (k : Z l E ms σ0 Y d mc sl (pc + 3) lv st cu su σ code G) : Z l E ms σ0 Y d mc sl pc lv (.ref a :: st) cu su σ code G := by
  intro u r σ' h1 h2 p e s m args below meth c H locs ls C HW hl
  have hts := C.2.2.2.2.2.1
  have h9 : 2 * (F0 m pc ls []).monitorRoom + ((st.map (am_tv E)).map fun v => v.category).sum ≤ 8 := lv_room (by rw [am_cat_sum]; exact hro)
  exact W.objInit C.1 C.2.1 C.2.2.2.2.1 (hts _ w1) (hts _ w2) (hts _ w3) (g := F0 m pc ls ((Value.ref a :: st).map (am_tv E))) rfl (by rw [C.2.2.2.1]; exact hl.1) rfl hd h1d (by show 2 * (F0 m pc ls []).monitorRoom + _ + 12 ≤ 64 * d; omega) (k u r σ' h1 h2 p e s m args below meth c H locs ls C HW hl)
theorem z_new {idx ci : Nat} {q : vw_C} (hd : decode Y.2.1 pc = .ok (.new idx, 3)) (hc : am_cls[ci]? = some q) (w1 : Cond.classLink Y.1.cls idx q.1 ∈ am_gt) (w2 : Cond.instantiable q.1 q.2.2 ∈ am_gt) (w3 : Cond.initialized q.1 ∈ am_gt) (hmc : cu + 1 ≤ mc ∧ su + q.2.2 ≤ sl)
    (k : Z l E ms σ0 Y d mc sl (pc + 3) lv (.ref σ.1.length :: st) (cu + 1) (su + q.2.2) (am_nw σ (.inl (ci, []))) code G) : Z l E ms σ0 Y d mc sl pc lv st cu su σ code G := by
  intro u r σ' h1 h2 p e s m args below meth c H locs ls C HW hl
  have hts := C.2.2.2.2.2.1
  obtain ⟨hin, hty, hnm, hok⟩ := am_cls_ok ci q hc
  have hKn := C.2.2.2.2.2.2.2.2.1.1 ci q hc
  refine W.newcK C.1 C.2.1 C.2.2.2.2.1 (hts _ w1) (hts _ w2) (hts _ w3) rfl hd hmc.1 hmc.2 hKn.2.1 HW.1.top fun H' kC hkC e1 z1 o1 => ?_
  have hz : H'.size = H.size + 1 := by rw [z1, HW.1.top]
  have ho : ∀ x : Nat, x < H.size → H'[x]? = H[x]? := fun x hx => o1 x (by rw [← HW.1.top]; exact hx)
  have hat : am_at E (am_nw σ (.inl (ci, []))) σ.1.length (.inl (ci, [])) H' := by
    refine ⟨q, hc, (u_born (am_ty ci) hts hin hKn hkC e1 hty).to fun j hj => ?_⟩
    have h5 := hok j hj
    have eF : fF (am_nw σ (.inl (ci, []))) σ.1.length j = 0 := by show am_z σ.2.1 σ.1.length 0 σ.1.length j = 0; unfold am_z; rw [if_pos rfl]
    have eG : fG (am_nw σ (.inl (ci, []))) σ.1.length j = 0 := by show am_z σ.2.2.1 σ.1.length 0 σ.1.length j = 0; unfold am_z; rw [if_pos rfl]
    show defaultValue (am_ty ci j) = am_V E _ _ _ _ _
    unfold am_V
    rw [eF, eG]
    generalize am_ty ci j = ty at h5 ⊢
    cases ty <;> first | (cases h5; done) | rfl
  exact k u r σ' h1 h2 p e s m args below meth c H' locs ls C ⟨HW.1.push hat hz ho, am_S_push HW.2.1 hz ho, HW.2.2.1.tr (am_kp.push _ _), HW.2.2.2.tr (am_kp.push _ _)⟩ hl
theorem z_newa {t N : Nat} {n : Int32} {atype : ArrayType} (hd : decode Y.2.1 pc = .ok (.newarray atype, 2)) (ht : t < 4) (hty : newarray.typeOf atype = am_aty t) (w1 : Cond.arrayClass (am_aty t) ∈ am_gt) (hn : ¬ n < 0) (hN : n.toNatClampNeg = N) (hb : N ≤ 1000000) (hmc : cu + 1 ≤ mc ∧ su + N ≤ sl)
    (k : Z l E ms σ0 Y d mc sl (pc + 2) lv (.ref σ.1.length :: st) (cu + 1) (su + N) (am_nw σ (.inr (t, N))) code G) : Z l E ms σ0 Y d mc sl pc lv (.int n :: st) cu su σ code G := by
  intro u r σ' h1 h2 p e s m args below meth c H locs ls C HW hl
  have hts := C.2.2.2.2.2.1
  have hcb : componentBytes (newarray.typeOf atype) ≤ 8 := by cases atype <;> decide
  refine va_newaK C.1 C.2.1 (by rw [hty]; exact hts _ w1) rfl hd rfl hn hN (Nat.le_trans (Nat.mul_le_mul hb hcb) (by decide)) hmc.1 hmc.2 HW.1.top fun H' cA e1 z1 o1 hAr hNm => ?_
  have hz : H'.size = H.size + 1 := by rw [z1, HW.1.top]
  have ho : ∀ x : Nat, x < H.size → H'[x]? = H[x]? := fun x hx => o1 x (by rw [← HW.1.top]; exact hx)
  have hRA := (C.2.2.2.2.2.2.2.2.arr (t := t) (by omega)).2
  have hcA : cA = eA E t := by
    have h3 : s.vm.findClass ("[" ++ (am_aty t).toString) = some (eA E t) := by
      match t, ht, hRA with
      | 0, _, h => exact h
      | 1, _, h => exact h
      | 2, _, h => exact h
      | 3, _, h => exact h
    rw [hty] at hNm
    exact Option.some.inj (hNm.symm.trans h3)
  have hat : am_at E (am_nw σ (.inr (t, N))) σ.1.length (.inr (t, N)) H' := by
    show H'[am_ad E σ.1.length]? = some (vp_cell (eA E t) (N, am_arr E (am_nw σ (.inr (t, N))) σ.1.length t))
    rw [e1, hcA, hty]
    have eF : fF (am_nw σ (.inr (t, N))) σ.1.length = fun _ => 0 := by funext j; show am_z σ.2.1 σ.1.length 0 σ.1.length j = 0; unfold am_z; rw [if_pos rfl]
    have eG : fG (am_nw σ (.inr (t, N))) σ.1.length = fun _ => 0 := by funext j; show am_z σ.2.2.1 σ.1.length 0 σ.1.length j = 0; unfold am_z; rw [if_pos rfl]
    unfold am_arr
    rw [eF, eG]
    match t, ht with
    | 0, _ => rfl
    | 1, _ => rfl
    | 2, _ => rfl
    | 3, _ => rfl
  exact k u r σ' h1 h2 p e s m args below meth c H' locs ls C ⟨HW.1.push hat hz ho, am_S_push HW.2.1 hz ho, HW.2.2.1.tr (am_kp.push _ _), HW.2.2.2.tr (am_kp.push _ _)⟩ hl
theorem z_anewa {t idx N : Nat} {n : Int32} {C0 : String} (hd : decode Y.2.1 pc = .ok (.anewarray idx, 3)) (ht : 4 ≤ t ∧ t < 7) (hty : am_aty t = .object C0) (w1 : Cond.classLink Y.1.cls idx C0 ∈ am_gt) (hn : ¬ n < 0) (hN : n.toNatClampNeg = N) (hb : N ≤ 1000000) (hmc : cu + 1 ≤ mc ∧ su + N ≤ sl)
    (k : Z l E ms σ0 Y d mc sl (pc + 3) lv (.ref σ.1.length :: st) (cu + 1) (su + N) (am_nw σ (.inr (t, N))) code G) : Z l E ms σ0 Y d mc sl pc lv (.int n :: st) cu su σ code G := by
  intro u r σ' h1 h2 p e s m args below meth c H locs ls C HW hl
  have hts := C.2.2.2.2.2.1
  obtain ⟨C1, e1, hAO⟩ := C.2.2.2.2.2.2.2.2.2.2.2.1 t ht.1 ht.2
  cases hty.symm.trans e1
  subst hN
  refine W.anew C.1 C.2.1 C.2.2.2.2.1 (hts _ w1) hAO rfl hd rfl hn (by omega) hmc.1 hmc.2 fun cA kA comp g1 g2 g3 g4 => ?_
  have hRA := (C.2.2.2.2.2.2.2.2.arr (t := t) ht.2).2
  rw [hty] at hRA
  obtain ⟨kA', comp', f1, f2, f3, f4⟩ := hRA
  have hcA : cA = eA E t := Option.some.inj (g1.symm.trans f4)
  subst hcA
  have hz : ∀ x : Cell, (H.push x).size = H.size + 1 := fun x => by simp
  have ho : ∀ (x : Cell) (q : Nat), q < H.size → (H.push x)[q]? = H[q]? := fun x q hq => by rw [Array.getElem?_push, if_neg (Nat.ne_of_lt hq)]
  have hat : am_at E (am_nw σ (.inr (t, n.toNatClampNeg))) σ.1.length (.inr (t, n.toNatClampNeg)) (H.push { cls := eA E t, slots := Array.replicate n.toNatClampNeg .null, vm := .none }) := by
    show (H.push _)[am_ad E σ.1.length]? = some (vp_cell (eA E t) (n.toNatClampNeg, am_arr E (am_nw σ (.inr (t, n.toNatClampNeg))) σ.1.length t))
    rw [← HW.1.top, arrV_new]
    have eQ : fQ (am_nw σ (.inr (t, n.toNatClampNeg))) σ.1.length = fun _ => none := by funext j; show am_z σ.2.2.2 σ.1.length none σ.1.length j = none; unfold am_z; rw [if_pos rfl]
    unfold am_arr
    rw [if_neg (by omega), if_pos ht.1, eQ]
    simp [vp_cell, va_rf]
  have key := k u r σ' h1 h2 p e s m args below meth c _ locs ls C ⟨HW.1.push hat (hz _) (ho _), am_S_push HW.2.1 (hz _) (ho _), HW.2.2.1.tr (am_kp.push _ _), HW.2.2.2.tr (am_kp.push _ _)⟩ hl
  have e9 : (Value.ref σ.1.length :: st).map (am_tv E) = .ref H.size :: st.map (am_tv E) := by rw [HW.1.top]; rfl
  rw [e9] at key
  exact key
/-- a store into a final field, in its own constructor -/
theorem z_putF {a idx ci k : Nat} {w : Value} {σ1 : am_S} {refs refs' : List (Option Nat)} (hd : decode Y.2.1 pc = .ok (.putfield idx, 3)) (hini : Y.1.name = "<init>") (hr : σ.1[a]? = some (.inl (ci, refs))) (hf : am_fi Y.1.cls idx ci k) (hn : narrow (am_ty ci k) (am_tv E w) = am_tv E w) (hfit : fits (am_ty ci k) (am_tv E w) = true)
    (e1 : σ1.1 = σ.1.set a (.inl (ci, refs'))) (hle : ∀ j x, refs.getD j none = some x → refs'.getD j none = some x)
    (hne : ∀ b : Nat, b ≠ a → fF σ1 b = fF σ b ∧ fG σ1 b = fG σ b ∧ fQ σ1 b = fQ σ b) (hV : ∀ (q : vw_C), am_cls[ci]? = some q → ∀ j, j < q.2.2 → updV (am_V E σ a ci refs) k (am_tv E w) j = am_V E σ1 a ci refs' j)
    (kk : Z l E ms σ0 Y d mc sl (pc + 3) lv st cu su σ1 code G) : Z l E ms σ0 Y d mc sl pc lv (w :: .ref a :: st) cu su σ code G := by
  intro u r σ' h1 h2 p e s m args below meth c H locs ls C HW hl
  obtain ⟨⟨q, ref, hc, hk, hlink, hsame⟩, hfin⟩ := hf
  have h8 := HW.1.ge8 hr (by intro h; cases h)
  obtain ⟨q', hc', cell, q1, q2, q3, q4⟩ := HW.1.2.2.1 a _ h8 hr
  cases hc.symm.trans hc'
  obtain ⟨hin, hty, hnm, hok⟩ := am_cls_ok ci q hc
  have hts := C.2.2.2.2.2.1
  have hK := C.2.2.2.2.2.2.2.2
  obtain ⟨hS, hfc, kC, hkC, hkind⟩ := hK.1.1 ci _ hc
  obtain ⟨cf, kf, fi, f, hi, hsl⟩ := hS k hk
  have hlay := hts _ (hin _ (u_in_lay hk))
  unfold u_lay at hlay
  rw [if_pos (hfin q hc).1] at hlay
  have hst := (u_facts hfc hkC (u_lays hts hin hk) hi).1
  have hcf : m.cls = cf := by
    obtain ⟨_, _, c', _, _, _, -, -, hf', -, -, -, hown2, -⟩ := Cond.laysFinal_spec hlay
    have e1 : c' = cf := by have := hi.symm.trans hf'; simp at this; exact this.1.symm
    rw [(hfin q hc).2] at hown2
    rw [← e1]; exact Option.some.inj (C.2.2.2.2.1.symm.trans hown2)
  have h6 := u_fits hfc hkC hkind (Or.inr hlay) hi (hty k hk) hn hfit
  refine W.putFinK C.1 C.2.1 C.2.2.2.2.1 (hts _ hlink) (am_same_of (own := q.1) hts hsame _ hi) hst hcf ((C.2.2.2.2.2.2.2.1 hini).trans hini) (by rw [q2]; exact h6) q1 q3 (by rw [hsl]; exact k2_hasslot (q4 k hk)) rfl rfl hd fun H' e3 e4 e5 => ?_
  rw [hsl] at e3
  have e5 : ∀ x : Nat, x ≠ am_ad E a → H'[x]? = H[x]? := e5
  have hat : am_at E σ1 a (.inl (ci, refs')) H' := am_putAt hc hk hts hK q2 q3 q4 e3 (hV q hc)
  have hla : a < σ.1.length := (List.getElem?_eq_some_iff.mp hr).1
  have hkp : am_kp σ.1 σ1.1 := by
    intro k' m' hm'
    rw [e1]
    by_cases hka : k' = a
    · subst hka
      cases hr.symm.trans hm'
      exact ⟨.inl (ci, refs'), by rw [List.getElem?_set_self hla], rfl, hle⟩
    · exact ⟨m', by rw [List.getElem?_set_ne (Ne.symm hka)]; exact hm', am_le.rf m'⟩
  have hW' : am_W E σ1 H' := by
    refine ⟨by rw [e1, List.length_set]; exact HW.1.1, by rw [e1, e4, List.length_set]; exact HW.1.2.1, fun k' m' hk' hm' => ?_, fun x hx => ?_, fun k' m' hk' hm' => ?_⟩
    · rw [e1] at hm'
      by_cases hka : k' = a
      · subst hka
        rw [List.getElem?_set_self hla] at hm'
        cases hm'
        exact hat
      · rw [List.getElem?_set_ne (Ne.symm hka)] at hm'
        obtain ⟨f1, f2, f3⟩ := hne k' hka
        exact (HW.1.2.2.1 k' m' hk' hm').same f1 f2 f3 (e5 _ (by rw [am_ad8 hk', am_ad8 h8]; omega))
    · rw [e5 x (by rw [am_ad8 h8]; omega)]
      exact HW.1.2.2.2.1 x hx
    · rw [e1, List.getElem?_set_ne (by omega)] at hm'
      exact HW.1.2.2.2.2 k' m' hk' hm'
  exact kk u r σ' h1 h2 p e s m args below meth c H' _ ls C ⟨hW', HW.2.1.put e4 e5 (by show eB E ≤ am_ad E a; rw [am_ad8 h8]; omega), HW.2.2.1.tr hkp, HW.2.2.2.tr hkp⟩ hl
theorem z_putFI {a idx ci k : Nat} {v : Int32} (hd : decode Y.2.1 pc = .ok (.putfield idx, 3)) (hini : Y.1.name = "<init>") (refs : List (Option Nat)) (hr : σ.1[a]? = some (.inl (ci, refs))) (hf : am_fi Y.1.cls idx ci k) (ht : am_ty ci k = .int)
    (kk : Z l E ms σ0 Y d mc sl (pc + 3) lv st cu su (sF σ a k v) code G) : Z l E ms σ0 Y d mc sl pc lv (.int v :: .ref a :: st) cu su σ code G :=
  z_putF (σ1 := sF σ a k v) (refs' := refs) hd hini hr hf (by rw [ht]; rfl) (by rw [ht]; rfl) (by
    have hla : a < σ.1.length := (List.getElem?_eq_some_iff.mp hr).1
    show σ.1 = _
    apply List.ext_getElem?
    intro i
    by_cases h : i = a
    · subst h; rw [List.getElem?_set_self hla, hr]
    · rw [List.getElem?_set_ne (Ne.symm h)]) (fun _ _ h => h) sF_ne (fun _ _ j _ => am_V_sF (am_kd0 ht) j) kk
theorem z_putFQ {a b idx ci k : Nat} {L' : List am_M} (hd : decode Y.2.1 pc = .ok (.putfield idx, 3)) (hini : Y.1.name = "<init>") (refs : List (Option Nat)) (hr : σ.1[a]? = some (.inl (ci, refs))) (hf : am_fi Y.1.cls idx ci k) (hk : am_kd (am_ty ci k) = 2) (h0 : refs.getD k none = none) (hL : σ.1.set a (.inl (ci, am_rs refs k b)) = L')
    (kk : Z l E ms σ0 Y d mc sl (pc + 3) lv st cu su (L', σ.2) code G) : Z l E ms σ0 Y d mc sl pc lv (.ref b :: .ref a :: st) cu su σ code G := by
  have hty : (∃ n, am_ty ci k = .object n) ∨ ∃ t, am_ty ci k = .array t := by
    generalize am_ty ci k = ty at hk
    cases ty <;> first | (cases hk; done) | exact Or.inl ⟨_, rfl⟩ | exact Or.inr ⟨_, rfl⟩
  refine z_putF (σ1 := (L', σ.2)) (refs' := am_rs refs k b) hd hini hr hf ?_ ?_ hL.symm (fun j x h => ?_) (fun _ _ => ⟨rfl, rfl, rfl⟩) (fun _ _ j _ => ?_) kk
  · rcases hty with ⟨n, e⟩ | ⟨t, e⟩ <;> rw [e] <;> rfl
  · rcases hty with ⟨n, e⟩ | ⟨t, e⟩ <;> rw [e] <;> rfl
  · rw [am_rs_get]
    by_cases hj : j = k
    · subst hj; rw [h0] at h; cases h
    · rw [if_neg hj]; exact h
  · unfold updV am_V
    rw [am_rs_get]
    by_cases hj : j = k
    · subst hj
      rw [if_pos rfl, if_neg (by rw [hk]; decide), if_neg (by rw [hk]; decide), if_pos rfl]; rfl
    · rw [if_neg hj, if_neg hj]; rfl
/-- a reference into a row -/
theorem z_astq {a b n t ci : Nat} {i : Int32} {q : vw_C} {C0 : String} (hd : decode Y.2.1 pc = .ok (.aastore, 1)) (ht : 4 ≤ t ∧ t < 7) (hty : am_aty t = .object C0) (hm : am_ar ms σ a t n) (hb : am_ob ms σ b ci) (hq : am_cls[ci]? = some q) (hy : q.1 = C0 ∨ (q.1, C0) ∈ am_yes)
    (kk : am_in i n = true → Z l E ms σ0 Y d mc sl (pc + 1) lv st cu su (sQ σ a i.toNatClampNeg (some b)) A G) : Z l E ms σ0 Y d mc sl pc lv (.ref b :: .int i :: .ref a :: st) cu su σ (if am_in i n = true then A else none) G := by
  refine z_guard fun hin => ?_
  intro u r σ' h1 h2 p e s m args below meth c H locs ls C HW hl
  have hr := hm.use HW.2.2.1
  have h8 := am_ar.t9 HW.1 hr ht.2
  have hc := am_at_Q ht.1 (HW.1.2.2.1 a _ h8 hr)
  obtain ⟨g1, g2⟩ := am_vpin hin
  obtain ⟨refs, hrb⟩ := hb.use HW.2.2.1
  obtain ⟨q', hc', cellV, v1, v2, v3, -⟩ := HW.1.2.2.1 b _ (HW.1.ge8 hrb (by intro h; cases h)) hrb
  cases hq.symm.trans hc'
  have hcls := (C.2.2.2.2.2.2.2.2.1.1 ci q hq).2
  have hRA := (C.2.2.2.2.2.2.2.2.arr (t := t) ht.2).2
  rw [hty] at hRA
  obtain ⟨kA, comp, f1, f2, f3, f4⟩ := hRA
  obtain ⟨hfc, kC, hkC, hkind⟩ := id hcls
  have hass : s.vm.assignable ((eD E).1 ci) comp = true := by
    rcases hy with e | e
    · rw [← e] at f3
      cases hfc.symm.trans f3
      exact va_assign hcls
    · obtain ⟨c0, t0, y1, y2, y3⟩ := C.2.2.2.2.2.2.2.2.2.1 _ e
      cases hfc.symm.trans y1
      cases f3.symm.trans y2
      exact y3
  obtain ⟨kc, hkc, -⟩ := Vm.findClass_spec f3
  refine W.aast C.1 C.2.1 hc (fun q h => by cases h) (fun h => by cases h) f1 f2 rfl hkc ⟨fun h => g1 (Or.inl h), by show _ < (arrV _ _ _).slots.size; rw [arrV_size]; exact g2⟩ v1 (fun q h => by rw [v3] at h; cases h) (by rw [v2]; exact hkC) (by rw [v2]; exact hass) rfl rfl hd fun H' e3 e4 e5 => ?_
  have hat : am_at E (sQ σ a i.toNatClampNeg (some b)) a (.inr (t, n)) H' := am_arr_put (g := fun j => va_rf ((fQ (sQ σ a i.toNatClampNeg (some b)) a j).map (am_ad E))) hc e3 (by
    funext j
    unfold updV
    rw [fQ_sQ]
    by_cases hj : j = i.toNatClampNeg
    · simp [hj, va_rf]
    · simp [hj]) (by unfold am_arr; rw [if_neg (by omega), if_pos ht.1]; rfl)
  have hW' : am_W E (sQ σ a i.toNatClampNeg (some b)) H' := HW.1.upd rfl h8 e4 e5 sQ_ne (fun m hm' => by cases hr.symm.trans hm'; exact hat)
  exact kk hin u r σ' h1 h2 p e s m args below meth c H' _ ls C ⟨hW', HW.2.1.put e4 e5 (by show eB E ≤ am_ad E a; rw [am_ad8 h8]; omega), HW.2.2.1, HW.2.2.2⟩ hl
/-- instanceof, of a pooled rower -/
theorem z_inst {a idx : Nat} (nm : String) (ys : List Nat) (hd : decode Y.2.1 pc = .ok (.instanceof idx, 3)) (w1 : Cond.classLink Y.1.cls idx nm ∈ am_gt) (hm : am_rw σ a = true) (hok : am_insOk nm ys = true)
    (k : Z l E ms σ0 Y d mc sl (pc + 3) lv (.int (bI (ys.contains (am_ci σ a))) :: st) cu su σ code G) : Z l E ms σ0 Y d mc sl pc lv (.ref a :: st) cu su σ code G := by
  intro u r σ' h1 h2 p e s m args below meth c H locs ls C HW hl
  have hts := C.2.2.2.2.2.1
  have hmem : am_ci σ a ∈ [2, 3, 5, 6, 7, 9] := by simpa [am_rw] using hm
  have h99 : am_ci σ a ≠ 99 := fun h => by rw [h] at hmem; exact absurd hmem (by decide)
  have ho := List.all_eq_true.mp hok _ hmem
  have kk := k u r σ' h1 h2 p e s m args below meth c H locs ls C HW hl
  cases hq : am_cls[am_ci σ a]? with
  | none => simp only [hq] at ho; cases ho
  | some q =>
    simp only [hq] at ho
    have hrec := am_recv (am_ob.d (ms := ms) rfl h99) hq HW.1 HW.2.2.1 C.2.2.2.2.2.2.2.2
    by_cases hy : ys.contains (am_ci σ a) = true
    · rw [if_pos hy] at ho
      rw [hy] at kk
      have hin : (q.1, nm) ∈ am_yes := by simpa using ho
      obtain ⟨c0, t0, y1, y2, y3⟩ := C.2.2.2.2.2.2.2.2.2.1 _ hin
      obtain ⟨cell, r1, r2, r3⟩ := hrec
      cases r3.symm.trans y1
      intro T hT X
      obtain ⟨vm', X', stp⟩ := X.instanceofYes C.1 C.2.2.2.2.1 (hts _ w1) (by rw [hT]; exact r1) r2 y2 y3 (g := F0 m pc ls ((Value.ref a :: st).map (am_tv E))) rfl rfl (by rw [C.2.1]; exact hd)
      obtain ⟨t, a1, b1⟩ := kk (T.setVm vm') hT X'
      exact ⟨t, stp t a1, b1⟩
    · rw [if_neg hy] at ho
      rw [Bool.not_eq_true] at hy
      rw [hy] at kk
      have hin : (q.1, nm) ∈ am_not := by simpa using ho
      exact va_instNo C.1 C.2.1 C.2.2.2.2.1 (hts _ w1) (C.2.2.2.2.2.2.2.2.2.2.1 _ hin) hrec hd kk
-- the JDK's own
theorem z_max {idx : Nat} {x y : Int32} (hd : decode Y.2.1 pc = .ok (.invokestatic idx, 3)) (w1 : Cond.methodLink Y.1.cls idx Lib.Math.max.name ∈ am_gt) (w2 : Cond.static Lib.Math.max.name ∈ am_gt) (w3 : Cond.initialized "java/lang/Math" ∈ am_gt) (w4 : Cond.code Lib.Math.max.name Lib.Math.max.code 2 (some .int) ∈ am_gt) (h1d : 1 ≤ d) (hro : (st.map fun v => v.category).sum ≤ 8) (hmc : cu ≤ mc ∧ su ≤ sl)
    (k : Z l E ms σ0 Y d mc sl (pc + 3) lv (.int (if x < y then y else x) :: st) cu su σ code G) : Z l E ms σ0 Y d mc sl pc lv (.int y :: .int x :: st) cu su σ code G :=
  fun u r σ' h1 h2 p e s m args below meth c H locs ls C HW hl => va_mmax C.1 C.2.1 (C.2.2.2.1.trans hl.1.symm) C.2.2.2.2.1 (C.2.2.2.2.2.1 _ w1) (C.2.2.2.2.2.1 _ w2) (C.2.2.2.2.2.1 _ w3) (C.2.2.2.2.2.1 _ w4) h1d (by rw [am_cat_sum]; show _ + 13 ≤ 64 * d; omega) hmc.1 hmc.2 hd (k u r σ' h1 h2 p e s m args below meth c H locs ls C HW hl)
theorem z_min {idx : Nat} {x y : Int32} (hd : decode Y.2.1 pc = .ok (.invokestatic idx, 3)) (w1 : Cond.methodLink Y.1.cls idx Lib.Math.min.name ∈ am_gt) (w2 : Cond.static Lib.Math.min.name ∈ am_gt) (w3 : Cond.initialized "java/lang/Math" ∈ am_gt) (w4 : Cond.code Lib.Math.min.name Lib.Math.min.code 2 (some .int) ∈ am_gt) (h1d : 1 ≤ d) (hro : (st.map fun v => v.category).sum ≤ 8) (hmc : cu ≤ mc ∧ su ≤ sl)
    (k : Z l E ms σ0 Y d mc sl (pc + 3) lv (.int (if y < x then y else x) :: st) cu su σ code G) : Z l E ms σ0 Y d mc sl pc lv (.int y :: .int x :: st) cu su σ code G :=
  fun u r σ' h1 h2 p e s m args below meth c H locs ls C HW hl => va_mmin C.1 C.2.1 (C.2.2.2.1.trans hl.1.symm) C.2.2.2.2.1 (C.2.2.2.2.2.1 _ w1) (C.2.2.2.2.2.1 _ w2) (C.2.2.2.2.2.1 _ w3) (C.2.2.2.2.2.1 _ w4) h1d (by rw [am_cat_sum]; show _ + 13 ≤ 64 * d; omega) hmc.1 hmc.2 hd (k u r σ' h1 h2 p e s m args below meth c H locs ls C HW hl)
theorem z_abs {idx : Nat} {x : Int32} (hd : decode Y.2.1 pc = .ok (.invokestatic idx, 3)) (w1 : Cond.methodLink Y.1.cls idx Lib.Math.abs.name ∈ am_gt) (w2 : Cond.static Lib.Math.abs.name ∈ am_gt) (w3 : Cond.initialized "java/lang/Math" ∈ am_gt) (w4 : Cond.code Lib.Math.abs.name Lib.Math.abs.code 1 (some .int) ∈ am_gt) (h1d : 1 ≤ d) (hro : (st.map fun v => v.category).sum ≤ 8) (hmc : cu ≤ mc ∧ su ≤ sl)
    (k : Z l E ms σ0 Y d mc sl (pc + 3) lv (.int (if 0 ≤ x then x else 0 - x) :: st) cu su σ code G) : Z l E ms σ0 Y d mc sl pc lv (.int x :: st) cu su σ code G :=
  fun u r σ' h1 h2 p e s m args below meth c H locs ls C HW hl => va_mabs C.1 C.2.1 (C.2.2.2.1.trans hl.1.symm) C.2.2.2.2.1 (C.2.2.2.2.2.1 _ w1) (C.2.2.2.2.2.1 _ w2) (C.2.2.2.2.2.1 _ w3) (C.2.2.2.2.2.1 _ w4) h1d (by rw [am_cat_sum]; show _ + 13 ≤ 64 * d; omega) hmc.1 hmc.2 hd (k u r σ' h1 h2 p e s m args below meth c H locs ls C HW hl)
theorem z_minl {idx : Nat} {x y : Int64} (hd : decode Y.2.1 pc = .ok (.invokestatic idx, 3)) (w1 : Cond.methodLink Y.1.cls idx Lib.MathLoose.min_long.x ∈ am_gt) (w2 : Cond.static Lib.MathLoose.min_long.x ∈ am_gt) (w3 : Cond.initialized "java/lang/Math" ∈ am_gt) (w4 : Cond.code Lib.MathLoose.min_long.x Lib.MathLoose.min_long.code 4 (some .long) ∈ am_gt) (h1d : 1 ≤ d) (hro : (st.map fun v => v.category).sum ≤ 8) (hmc : cu ≤ mc ∧ su ≤ sl)
    (k : Z l E ms σ0 Y d mc sl (pc + 3) lv (.long (if y < x then y else x) :: st) cu su σ code G) : Z l E ms σ0 Y d mc sl pc lv (.long y :: .long x :: st) cu su σ code G :=
  fun u r σ' h1 h2 p e s m args below meth c H locs ls C HW hl => va_mmin_long C.1 C.2.1 (C.2.2.2.1.trans hl.1.symm) C.2.2.2.2.1 (C.2.2.2.2.2.1 _ w1) (C.2.2.2.2.2.1 _ w2) (C.2.2.2.2.2.1 _ w3) (C.2.2.2.2.2.1 _ w4) h1d (by rw [am_cat_sum]; show _ + 15 ≤ 64 * d; omega) hmc.1 hmc.2 hd (k u r σ' h1 h2 p e s m args below meth c H locs ls C HW hl)
/-- System.arraycopy between int rows -/
theorem z_copy {a b idx n0 n1 : Nat} {sp dp n : Int32} (hd : decode Y.2.1 pc = .ok (.invokestatic idx, 3)) (w1 : Cond.methodLink Y.1.cls idx arraycopyName ∈ am_gt) (w2 : Cond.native arraycopyName ∈ am_gt) (w3 : Cond.static arraycopyName ∈ am_gt) (w4 : Cond.initialized "java/lang/System" ∈ am_gt) (ha : am_ar ms σ a 0 n0) (hb : am_ar ms σ b 0 n1) (h1d : 1 ≤ d) (hro : (st.map fun v => v.category).sum ≤ 8)
    (kk : am_cp sp dp n n0 n1 = true → Z l E ms σ0 Y d mc sl (pc + 3) lv st cu su (sK σ b (va_cpy (fF σ a) (fF σ b) sp.toNatClampNeg dp.toNatClampNeg n.toNatClampNeg)) A G) : Z l E ms σ0 Y d mc sl pc lv (.int n :: .int dp :: .ref b :: .int sp :: .ref a :: st) cu su σ (if am_cp sp dp n n0 n1 = true then A else none) G := by
  refine z_guard fun hin => ?_
  intro u r σ' g1 g2 p e s m args below meth c H locs ls C HW hl
  have hts := C.2.2.2.2.2.1
  have k1 := kk hin u r σ' g1 g2 p e s m args below meth c
  simp only [am_cp, Bool.and_eq_true, decide_eq_true_eq] at hin
  obtain ⟨⟨⟨⟨h1, h2⟩, h3⟩, h4⟩, h5⟩ := hin
  have h1 := Int32.not_lt.mpr h1
  have h2 := Int32.not_lt.mpr h2
  have h3 := Int32.not_lt.mpr h3
  have hra := ha.use HW.2.2.1
  have hrb := hb.use HW.2.2.1
  have h8b := am_ar.t9 HW.1 hrb (by decide)
  have hc0 : H[am_ad E a]? = some (vp_cell (eA E 0) (n0, .inl (fF σ a))) := HW.1.2.2.1 a _ (am_ar.t9 HW.1 hra (by decide)) hra
  have hc1 : H[am_ad E b]? = some (vp_cell (eA E 0) (n1, .inl (fF σ b))) := HW.1.2.2.1 b _ h8b hrb
  have nn : ∀ z : Int32, ¬ z < 0 → z.toInt = (z.toNatClampNeg : Int) := by
    intro z hz
    have hz0 : (0 : Int) ≤ z.toInt := by
      have := Int32.not_lt.mp hz
      simpa using Int32.le_iff_toInt_le.mp this
    show z.toInt = ((z.toInt.toNat : Nat) : Int)
    omega
  have hA0 := C.2.2.2.2.2.2.2.2.arr (t := 0) (by decide)
  have hsum : ((st.map (am_tv E)).map fun v => v.category).sum + (nativeFrameWords "java/lang/System" "arraycopy" 5 + 11) ≤ 64 * d := by
    rw [am_cat_sum]
    have : nativeFrameWords "java/lang/System" "arraycopy" 5 ≤ 40 := by decide
    omega
  intro T hT X
  obtain ⟨-, k0, hk0, cm0, hkk0⟩ := hA0.1 n0 (fun j => .int (fF σ a j))
  obtain ⟨-, kb, hkb, cm1, hkk1⟩ := hA0.1 n1 (fun j => .int (fF σ b j))
  obtain ⟨vm', X', step⟩ := X.arraycopy C.1 C.2.2.2.2.1 (hts _ w1) (hts _ w2) (hts _ w3) (hts _ w4) (src := am_ad E a) (dst := am_ad E b) (cs := vp_cell (eA E 0) (n0, .inl (fF σ a))) (cd := vp_cell (eA E 0) (n1, .inl (fF σ b))) (srcPos := sp) (destPos := dp) (n := n) (by rw [hT]; exact hc0) (by rw [hT]; exact hc1)
    (fun _ h => by cases h) (fun _ h => by cases h) (fun h => by cases h) (fun h => by cases h) hk0 hkb hkk0 hkk1 (by simp [am_aty, refKind]) h1 h2 h3
    (by rw [nn sp h1, nn n h3]; show ¬ _ > ((arrV _ n0 (fun j => .int (fF σ a j))).slots.size : Int); rw [arrV_size]; omega)
    (by rw [nn dp h2, nn n h3]; show ¬ _ > ((arrV _ n1 (fun j => .int (fF σ b j))).slots.size : Int); rw [arrV_size]; omega)
    (fun vm₁ _ i hi => by
      have e : (vp_cell (eA E 0) (n0, .inl (fF σ a))).slots.getD (sp.toNatClampNeg + i) .null = .int (fF σ a (sp.toNatClampNeg + i)) := by
        show (arrV _ n0 (fun j => .int (fF σ a j))).slots.getD _ _ = _
        rw [Array.getD_eq_getD_getElem?, arrV_read _ _ (by omega)]
        rfl
      refine ⟨?_, ?_⟩
      · rw [e]; rfl
      · rw [e]; exact trivial)
    (g := F0 m pc ls (.int n :: .int dp :: .ref (am_ad E b) :: .int sp :: .ref (am_ad E a) :: st.map (am_tv E))) rfl (by rw [C.2.2.2.1]; exact hl.1) (rest := st.map (am_tv E)) rfl (by rw [C.2.1]; exact hd) h1d (by show 2 * 0 + _ + _ ≤ 64 * d; omega)
  have e1 : copied (vp_cell (eA E 0) (n0, .inl (fF σ a))) (vp_cell (eA E 0) (n1, .inl (fF σ b))) sp dp n = vp_cell (eA E 0) (n1, .inl (va_cpy (fF σ a) (fF σ b) sp.toNatClampNeg dp.toNatClampNeg n.toNatClampNeg)) := va_copied (fun z => .int z) _ _ (fF σ a) (fF σ b) h4
  rw [e1] at X' step
  generalize hcp : va_cpy (fF σ a) (fF σ b) sp.toNatClampNeg dp.toNatClampNeg n.toNatClampNeg = f at X' step k1
  have hlt : am_ad E b < H.size := (Array.getElem?_eq_some_iff.mp hc1).1
  have hheap : ((T.setVm vm').setCell (am_ad E b) (vp_cell (eA E 0) (n1, .inl f))).heap = H.setIfInBounds (am_ad E b) (vp_cell (eA E 0) (n1, .inl f)) := by rw [← hT]; rfl
  have oq : ∀ q : Nat, q ≠ am_ad E b → (H.setIfInBounds (am_ad E b) (vp_cell (eA E 0) (n1, .inl f)))[q]? = H[q]? := fun q hq => by simp [Array.getElem?_setIfInBounds, Ne.symm hq]
  have zq : (H.setIfInBounds (am_ad E b) (vp_cell (eA E 0) (n1, .inl f))).size = H.size := by simp
  have hat : am_at E (sK σ b f) b (.inr (0, n1)) (H.setIfInBounds (am_ad E b) (vp_cell (eA E 0) (n1, .inl f))) := by
    show (H.setIfInBounds _ _)[am_ad E b]? = some (vp_cell (eA E 0) (n1, am_arr E (sK σ b f) b 0))
    have e2 : am_arr E (sK σ b f) b 0 = .inl f := by
      show Sum.inl (fF (sK σ b f) b) = _
      congr 1
      funext j
      rw [fF_sK, if_pos rfl]
    rw [e2]
    simp [Array.getElem?_setIfInBounds, hlt]
  have hW' := HW.1.upd (σ' := sK σ b f) rfl h8b zq oq sK_ne (fun m hm' => by cases hrb.symm.trans hm'; exact hat)
  obtain ⟨t, a1, b1⟩ := k1 _ _ ls C ⟨hW', ⟨by rw [zq]; exact HW.2.1.1, fun q q1 q2 => by
      rw [oq q (fun e => q2 (by rw [e]; show eB E ≤ am_ad E b; rw [am_ad8 h8b]; omega))]
      exact HW.2.1.2.1 q q1 q2, fun q hq => by
      rcases List.mem_append.mp hq with h | h
      · exact HW.2.1.2.2 q h
      · obtain ⟨z, -, hz⟩ := List.mem_map.mp h
        rw [← hz]
        show eB E ≤ am_ad E b
        rw [am_ad8 h8b]; omega⟩, HW.2.2.1, HW.2.2.2⟩ hl _ hheap X'
  exact ⟨t, step t a1, b1⟩
end ZN
