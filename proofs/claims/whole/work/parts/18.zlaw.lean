/-! RULES OF Z: the script, constructors in a known heap -/
/-- what cells hold, without their kinds -/
abbrev am_D : Type := (Nat → Nat → Int32) × (Nat → Nat → Int64) × (Nat → Nat → Option Nat)
def am_zr (x : am_D) (n : Nat) : Prop := ∀ a, n ≤ a → ∀ j, x.1 a j = 0 ∧ x.2.1 a j = 0 ∧ x.2.2 a j = none
def xF (x : am_D) (a k : Nat) (v : Int32) : am_D := (am_up x.1 a k v, x.2)
def xQ (x : am_D) (a k : Nat) (v : Option Nat) : am_D := (x.1, x.2.1, am_up x.2.2 a k v)
theorem am_zr.F {x : am_D} {n a k : Nat} {v : Int32} (h : am_zr x n) (ha : a < n) : am_zr (xF x a k v) n := fun b hb j => ⟨by
  show am_up x.1 a k v b j = 0
  unfold am_up
  rw [if_neg (by omega)]; exact (h b hb j).1, (h b hb j).2⟩
theorem am_zr.Q {x : am_D} {n a k : Nat} {v : Option Nat} (h : am_zr x n) (ha : a < n) : am_zr (xQ x a k v) n := fun b hb j => ⟨(h b hb j).1, (h b hb j).2.1, by
  show am_up x.2.2 a k v b j = none
  unfold am_up
  rw [if_neg (by omega)]; exact (h b hb j).2.2⟩
theorem am_zr.up {x : am_D} {n m : Nat} (h : am_zr x n) (hm : n ≤ m) : am_zr x m := fun b hb => h b (Nat.le_trans hm hb)
theorem am_z_id {α : Type} (f : Nat → Nat → α) (n : Nat) (v : α) (h : ∀ j, f n j = v) : am_z f n v = f := by
  funext a j
  unfold am_z
  by_cases e : a = n
  · rw [if_pos e, e, h j]
  · rw [if_neg e]
theorem am_nw_L {L L' : List am_M} {x : am_D} {m : am_M} {n : Nat} (hn : L.length = n) (hz : am_zr x n) (hL : L ++ [m] = L') : am_nw (L, x) m = (L', x) := by
  subst hn
  unfold am_nw
  obtain ⟨f, g, q⟩ := x
  show (L ++ [m], am_z f L.length 0, am_z g L.length 0, am_z q L.length none) = _
  rw [am_z_id f _ _ (fun j => (hz _ (Nat.le_refl _) j).1), am_z_id g _ _ (fun j => (hz _ (Nat.le_refl _) j).2.1), am_z_id q _ _ (fun j => (hz _ (Nat.le_refl _) j).2.2), hL]
section ZLW
variable {U : Type} {l : Launch} {E : am_E} {ms : List am_M} {σ0 : am_S} {Y Yc : am_Y} {d mc sl pc cu su : Nat} {lv : List (Nat × Value)} {st stk vs : List Value} {σ : am_S} {code A B : Option U} {G : U → Option Value → am_S → Prop} {idx n : Nat}
theorem z_sg {σ' : am_S} (h : σ = σ') (k : Z l E ms σ0 Y d mc sl pc lv st cu su σ' code G) : Z l E ms σ0 Y d mc sl pc lv st cu su σ code G := h ▸ k
theorem z_sld {i : Int32} (hd : decode Y.2.1 pc = .ok (.iaload, 1)) (kk : am_in i (eL E) = true → Z l E ms σ0 Y d mc sl (pc + 1) lv (.int (eS E i.toNatClampNeg) :: st) cu su σ A G) : Z l E ms σ0 Y d mc sl pc lv (.int i :: .ref 0 :: st) cu su σ (if am_in i (eL E) = true then A else none) G := by
  refine z_guard fun hin => ?_
  intro u r σ' h1 h2 p e s m args below meth c H locs ls C HW hl
  obtain ⟨g1, g2⟩ := am_vpin hin
  obtain ⟨⟨scr, e1, e2, e3, e4, e5⟩, e6, e7⟩ := C.2.2.2.2.2.2.2.2.2.2.2.2.2.1
  have hc : H[eX E 0]? = some scr := (HW.1.2.2.2.1 _ e6).trans e1
  exact W.iald (v := .int (eS E i.toNatClampNeg)) C.1 C.2.1 hc e2 e3 (by rw [e4]; exact g1) (e5 _ g2) rfl rfl hd (kk hin u r σ' h1 h2 p e s m args below meth c H locs ls C HW hl)
theorem z_slen (hd : decode Y.2.1 pc = .ok (.arraylength, 1)) (kk : Z l E ms σ0 Y d mc sl (pc + 1) lv (.int (Int32.ofNat (eL E)) :: st) cu su σ code G) : Z l E ms σ0 Y d mc sl pc lv (.ref 0 :: st) cu su σ code G := by
  intro u r σ' h1 h2 p e s m args below meth c H locs ls C HW hl
  obtain ⟨⟨scr, e1, e2, e3, e4, e5⟩, e6, e7⟩ := C.2.2.2.2.2.2.2.2.2.2.2.2.2.1
  have hc : H[eX E 0]? = some scr := (HW.1.2.2.2.1 _ e6).trans e1
  exact W.alen (n := Int32.ofNat (eL E)) C.1 C.2.1 hc e2 (by rw [e4] <;> rfl) rfl rfl hd (kk u r σ' h1 h2 p e s m args below meth c H locs ls C HW hl)
/-- a nest mate's private constructor -/
theorem lk_IN {a : Nat} {As : List Value} (hown : Y.1.cls = RX11) (hd : decode Y.2.1 pc = .ok (.invokespecial idx, 3)) (hv : vs = .ref a :: As) (hn : As.length = n) (hnm : Yc.1.name = "<init>") (hr : Yc.2.2.2 = none) (hp : am_np Yc.1.desc n) (hy : am_noMH Yc.1.cls) (hL : Yc.2.2.1 ≤ 45)
    (w1 : (idx, Yc.1) ∈ am_nest) (w2 : Cond.instanceMethod Yc.1 ∈ am_gt) (w5 : Cond.initialized Yc.1.cls ∈ am_gt) (w4 : am_code Yc ∈ am_gt) : LK l E ms Y pc Yc vs σ := by
  intro d d' mc sl mc' sl' cu su Pc Qc p e s m args below meth c H locs ls st hdd C hW hk hsz hmc hsl hro hM hB hP
  subst hv
  have hw : am_ws Yc = Cond.code Yc.1 Yc.2.1 Yc.2.2.1 none :: am_gt := by unfold am_ws am_code; rw [hr]
  have hnw := C.2.2.2.2.2.2.2.2.2.2.2.2.1 _ w1
  exact va_runIN (b := am_ad E a) (As := As.map (am_tv E)) (host := RX11) ⟨C.1, C.2.1, C.2.2.2.1, by rw [← hown]; exact C.2.2.2.2.1, C.2.2.2.2.2.1⟩ hM ⟨va_cnB n C.2.2.2.2.2.1 (am_good [] (fun _ h => by cases h) Yc w4) hw rfl rfl hnw (C.2.2.2.2.2.1 _ w5) ⟨hy.1, hy.2, hp⟩ (am_rmR hdd hL), hnm, C.2.2.2.2.2.1 _ w2⟩ ⟨hB, hP⟩ rfl (by rw [List.length_map]; exact hn) hsz (by rw [am_tv_rev]; simp [am_tv]) (lv_room (by rw [am_cat_sum]; exact hro)) hd ⟨hmc, hsl⟩
/-- a call whose outcome is known -/
theorem z_callK {ms' : List am_M} {k mc' sl' : Nat} {er : Option Value} {es : am_S} (vs st : List Value) (hst : stk = vs.reverse ++ st) (hl : LK l E ms Y pc Yc vs σ) (hk : k + 1 ≤ d) (hmc : cu + mc' ≤ mc ∧ su + sl' ≤ sl) (hro : (st.map fun v => v.category).sum ≤ 8) (hms : am_kp ms' ms)
    (hc : Ctr l E ms' Yc k mc' sl' vs σ er es) (kk : Z l E ms σ0 Y d mc sl (pc + 3) lv (er.toList ++ st) (cu + mc') (su + sl') es code G) : Z l E ms σ0 Y d mc sl pc lv stk cu su σ code G :=
  z_callX (fc := some ()) (F := fun _ => code) (er := fun _ => er) (es := fun _ => es) hst hl hk hmc hro hms (fun _ _ => hc) (fun _ _ => kk)
theorem z_newL {ci m : Nat} {q : vw_C} {L L' : List am_M} {x : am_D} (hd : decode Y.2.1 pc = .ok (.new idx, 3)) (hc : am_cls[ci]? = some q) (w1 : Cond.classLink Y.1.cls idx q.1 ∈ am_gt) (w2 : Cond.instantiable q.1 q.2.2 ∈ am_gt) (w3 : Cond.initialized q.1 ∈ am_gt) (hmc : cu + 1 ≤ mc ∧ su + q.2.2 ≤ sl) (hn : L.length = m) (hz : am_zr x m) (hL : L ++ [.inl (ci, [])] = L')
    (k : Z l E ms σ0 Y d mc sl (pc + 3) lv (.ref m :: st) (cu + 1) (su + q.2.2) (L', x) code G) : Z l E ms σ0 Y d mc sl pc lv st cu su (L, x) code G := by
  refine z_new hd hc w1 w2 w3 hmc ?_
  rw [am_nw_L hn hz hL]
  subst hn
  exact k
theorem z_newaL {t m N : Nat} {i : Int32} {atype : ArrayType} {L L' : List am_M} {x : am_D} (hd : decode Y.2.1 pc = .ok (.newarray atype, 2)) (ht : t < 4) (hty : newarray.typeOf atype = am_aty t) (w1 : Cond.arrayClass (am_aty t) ∈ am_gt) (hi : ¬ i < 0) (hN : i.toNatClampNeg = N) (hb : N ≤ 1000000) (hmc : cu + 1 ≤ mc ∧ su + N ≤ sl) (hn : L.length = m) (hz : am_zr x m) (hL : L ++ [.inr (t, N)] = L')
    (k : Z l E ms σ0 Y d mc sl (pc + 2) lv (.ref m :: st) (cu + 1) (su + N) (L', x) code G) : Z l E ms σ0 Y d mc sl pc lv (.int i :: st) cu su (L, x) code G := by
  refine z_newa hd ht hty w1 hi hN hb hmc ?_
  rw [am_nw_L hn hz hL]
  subst hn
  exact k
theorem z_anewaL {t m N : Nat} {i : Int32} {C0 : String} {L L' : List am_M} {x : am_D} (hd : decode Y.2.1 pc = .ok (.anewarray idx, 3)) (ht : 4 ≤ t ∧ t < 7) (hty : am_aty t = .object C0) (w1 : Cond.classLink Y.1.cls idx C0 ∈ am_gt) (hi : ¬ i < 0) (hN : i.toNatClampNeg = N) (hb : N ≤ 1000000) (hmc : cu + 1 ≤ mc ∧ su + N ≤ sl) (hn : L.length = m) (hz : am_zr x m) (hL : L ++ [.inr (t, N)] = L')
    (k : Z l E ms σ0 Y d mc sl (pc + 3) lv (.ref m :: st) (cu + 1) (su + N) (L', x) code G) : Z l E ms σ0 Y d mc sl pc lv (.int i :: st) cu su (L, x) code G := by
  refine z_anewa hd ht hty w1 hi hN hb hmc ?_
  rw [am_nw_L hn hz hL]
  subst hn
  exact k
end ZLW
