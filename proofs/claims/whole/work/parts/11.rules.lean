/-! RULES OF Z: an instruction a rule -/
theorem bI_01 (b : Bool) : narrow .boolean (.int (bI b)) = .int (bI b) := by cases b <;> decide +kernel
theorem am_in_vp {i : Int32} {n : Nat} (h : am_in i n = true) : vp_in i n := by
  simp only [am_in, Bool.and_eq_true, decide_eq_true_eq] at h
  rintro (h1 | h1)
  · exact absurd h1 (Int32.not_lt.mpr h.1)
  · omega
def am_st (i : Nat) (v : Value) (lv : List (Nat × Value)) : List (Nat × Value) := (i, v) :: lv.filter (fun q => !(q.1 == i) && !(q.1 + 1 == i && q.2.category == 2))
def am_st2 (i : Nat) (v : Value) (lv : List (Nat × Value)) : List (Nat × Value) := (i, v) :: lv.filter (fun q => !(q.1 == i) && (!(q.1 == i + 1) && !(q.1 + 1 == i && q.2.category == 2)))
theorem am_st_tq (E : am_E) (i : Nat) (v : Value) (lv : List (Nat × Value)) : (i, am_tv E v) :: (lv.map (am_tq E)).filter (fun q => !(q.1 == i) && !(q.1 + 1 == i && q.2.category == 2)) = (am_st i v lv).map (am_tq E) := by
  unfold am_st
  rw [List.filter_map]
  have e : ((fun q : Nat × Value => !(q.1 == i) && !(q.1 + 1 == i && q.2.category == 2)) ∘ am_tq E) = (fun q => !(q.1 == i) && !(q.1 + 1 == i && q.2.category == 2)) := by
    funext q
    show (!(q.1 == i) && !(q.1 + 1 == i && (am_tv E q.2).category == 2)) = _
    rw [am_tv_cat]
  rw [e]; rfl
theorem am_st2_tq (E : am_E) (i : Nat) (v : Value) (lv : List (Nat × Value)) : (i, am_tv E v) :: (lv.map (am_tq E)).filter (fun q => !(q.1 == i) && (!(q.1 == i + 1) && !(q.1 + 1 == i && q.2.category == 2))) = (am_st2 i v lv).map (am_tq E) := by
  unfold am_st2
  rw [List.filter_map]
  have e : ((fun q : Nat × Value => !(q.1 == i) && (!(q.1 == i + 1) && !(q.1 + 1 == i && q.2.category == 2))) ∘ am_tq E) = (fun q => !(q.1 == i) && (!(q.1 == i + 1) && !(q.1 + 1 == i && q.2.category == 2))) := by
    funext q
    show (!(q.1 == i) && (!(q.1 == i + 1) && !(q.1 + 1 == i && (am_tv E q.2).category == 2))) = _
    rw [am_tv_cat]
  rw [e]; rfl
theorem am_tq_at {E : am_E} {lv : List (Nat × Value)} {n i : Nat} {v : Value} (h : lv[n]? = some (i, v)) : (lv.map (am_tq E))[n]? = some (i, am_tv E v) := by
  rw [List.getElem?_map, h]; rfl
section ZR
variable {U : Type} {l : Launch} {E : am_E} {ms : List am_M} {σ0 : am_S} {Y : am_Y} {d mc sl pc cu su : Nat} {lv : List (Nat × Value)} {st : List Value} {σ : am_S} {code A B : Option U} {G : U → Option Value → am_S → Prop}
theorem z_none {lv : List (Nat × Value)} {st : List Value} : Z l E ms σ0 Y d mc sl pc lv st cu su σ (none : Option U) G := fun u r σ' h => by cases h
theorem z_ms {ms' : List am_M} (h : am_kp ms' σ.1) (k : Z l E ms' σ0 Y d mc sl pc lv st cu su σ code G) : Z l E ms σ0 Y d mc sl pc lv st cu su σ code G :=
  fun u r σ' h1 h2 p e s m args below meth c H locs ls C HW hl => k u r σ' h1 h2 p e s m args below meth c H locs ls C ⟨HW.1, HW.2.1, h, HW.2.2.2⟩ hl
theorem z_ite {c : Prop} [inst : Decidable c] (ka : c → Z l E ms σ0 Y d mc sl pc lv st cu su σ A G) (kb : ¬ c → Z l E ms σ0 Y d mc sl pc lv st cu su σ B G) : Z l E ms σ0 Y d mc sl pc lv st cu su σ (if c then A else B) G := by
  by_cases h : c
  · rw [if_pos h]; exact ka h
  · rw [if_neg h]; exact kb h
theorem z_guard {c : Prop} [inst : Decidable c] (ka : c → Z l E ms σ0 Y d mc sl pc lv st cu su σ A G) : Z l E ms σ0 Y d mc sl pc lv st cu su σ (if c then A else none) G := z_ite ka fun _ => z_none
theorem z_elim {o : Option Nat} {F : Nat → Option U} (ka : o = none → Z l E ms σ0 Y d mc sl pc lv (.null :: st) cu su σ A G) (kb : ∀ a : Nat, o = some a → Z l E ms σ0 Y d mc sl pc lv (.ref a :: st) cu su σ (F a) G) : Z l E ms σ0 Y d mc sl pc lv (va_rf o :: st) cu su σ (o.elim A F) G := by
  cases o with
  | none => exact ka rfl
  | some a => exact kb a rfl
/-- fewer locals, in any order -/
theorem z_lv {lv' : List (Nat × Value)} (ks : List Nat) (h : lv_pick lv ks = lv') (k : Z l E ms σ0 Y d mc sl pc lv' st cu su σ code G) : Z l E ms σ0 Y d mc sl pc lv st cu su σ code G :=
  fun u r σ' h1 h2 p e s m args below meth c H locs ls C HW hl => k u r σ' h1 h2 p e s m args below meth c H locs ls C HW (lv_sub hl ks (by
    rw [← h]
    show (ks.filterMap fun k => (lv.map (am_tq E))[k]?) = (ks.filterMap fun k => lv[k]?).map (am_tq E)
    rw [List.map_filterMap]
    congr 1
    funext k
    rw [List.getElem?_map]))
theorem z_iconst {n : Int} {v : Int32} (hd : decode Y.2.1 pc = .ok (.iconst n, 1)) (hv : Int32.ofInt n = v) (k : Z l E ms σ0 Y d mc sl (pc + 1) lv (.int v :: st) cu su σ code G) : Z l E ms σ0 Y d mc sl pc lv (st) cu su σ code G :=
  fun u r σ' h1 h2 p e s m args below meth c H locs ls C HW hl => lv_iconst C.1 C.2.1 hd hv (k u r σ' h1 h2 p e s m args below meth c H locs ls C HW hl)
theorem z_bipush {n : Int} {v : Int32} (hd : decode Y.2.1 pc = .ok (.bipush n, 2)) (hv : (Int8.ofInt n).toInt32 = v) (k : Z l E ms σ0 Y d mc sl (pc + 2) lv (.int v :: st) cu su σ code G) : Z l E ms σ0 Y d mc sl pc lv (st) cu su σ code G :=
  fun u r σ' h1 h2 p e s m args below meth c H locs ls C HW hl => lv_bipush C.1 C.2.1 hd hv (k u r σ' h1 h2 p e s m args below meth c H locs ls C HW hl)
theorem z_sipush {n : Int} {v : Int32} (hd : decode Y.2.1 pc = .ok (.sipush n, 3)) (hv : (Int16.ofInt n).toInt32 = v) (k : Z l E ms σ0 Y d mc sl (pc + 3) lv (.int v :: st) cu su σ code G) : Z l E ms σ0 Y d mc sl pc lv (st) cu su σ code G :=
  fun u r σ' h1 h2 p e s m args below meth c H locs ls C HW hl => lv_sipush C.1 C.2.1 hd hv (k u r σ' h1 h2 p e s m args below meth c H locs ls C HW hl)
theorem z_lconst {n : Fin 2} {v : Int64} (hd : decode Y.2.1 pc = .ok (.lconst n, 1)) (hv : Int64.ofNat (n : Nat) = v) (k : Z l E ms σ0 Y d mc sl (pc + 1) lv (.long v :: st) cu su σ code G) : Z l E ms σ0 Y d mc sl pc lv (st) cu su σ code G :=
  fun u r σ' h1 h2 p e s m args below meth c H locs ls C HW hl => lv_lconst C.1 C.2.1 hd hv (k u r σ' h1 h2 p e s m args below meth c H locs ls C HW hl)
theorem z_null  (hd : decode Y.2.1 pc = .ok (.aconst_null, 1)) (k : Z l E ms σ0 Y d mc sl (pc + 1) lv (.null :: st) cu su σ code G) : Z l E ms σ0 Y d mc sl pc lv (st) cu su σ code G :=
  fun u r σ' h1 h2 p e s m args below meth c H locs ls C HW hl => lv_null C.1 C.2.1 hd  (k u r σ' h1 h2 p e s m args below meth c H locs ls C HW hl)
theorem z_ldc {index : Nat} {v : Int32} (hd : decode Y.2.1 pc = .ok (.ldc index, 2)) (hw : Jvm.Cond.constant Y.1.cls index v ∈ am_gt) (k : Z l E ms σ0 Y d mc sl (pc + 2) lv (.int v :: st) cu su σ code G) : Z l E ms σ0 Y d mc sl pc lv st cu su σ code G :=
  fun u r σ' h1 h2 p e s m args below meth c H locs ls C HW hl => lv_ldc C.1 C.2.1 C.2.2.2.2.1 (C.2.2.2.2.2.1 _ hw) hd (k u r σ' h1 h2 p e s m args below meth c H locs ls C HW hl)
theorem z_ldcw {index : Nat} {v : Int32} (hd : decode Y.2.1 pc = .ok (.ldc_w index, 3)) (hw : Jvm.Cond.constant Y.1.cls index v ∈ am_gt) (k : Z l E ms σ0 Y d mc sl (pc + 3) lv (.int v :: st) cu su σ code G) : Z l E ms σ0 Y d mc sl pc lv st cu su σ code G :=
  fun u r σ' h1 h2 p e s m args below meth c H locs ls C HW hl => lv_ldcw C.1 C.2.1 C.2.2.2.2.1 (C.2.2.2.2.2.1 _ hw) hd (k u r σ' h1 h2 p e s m args below meth c H locs ls C HW hl)
theorem z_ldc2 {index : Nat} {v : Int64} (hd : decode Y.2.1 pc = .ok (.ldc2_w index, 3)) (hw : Jvm.Cond.constantLong Y.1.cls index v ∈ am_gt) (k : Z l E ms σ0 Y d mc sl (pc + 3) lv (.long v :: st) cu su σ code G) : Z l E ms σ0 Y d mc sl pc lv st cu su σ code G :=
  fun u r σ' h1 h2 p e s m args below meth c H locs ls C HW hl => lv_ldc2 C.1 C.2.1 C.2.2.2.2.1 (C.2.2.2.2.2.1 _ hw) hd (k u r σ' h1 h2 p e s m args below meth c H locs ls C HW hl)
theorem z_iload_n {k' : Fin 4} {i : Nat} {x : Int32} (n : Nat) (hd : decode Y.2.1 pc = .ok (.iload_n k', 1)) (hi : (k' : Nat) = i) (hk : lv[n]? = some (i, .int x)) (k : Z l E ms σ0 Y d mc sl (pc + 1) lv (.int x :: st) cu su σ code G) : Z l E ms σ0 Y d mc sl pc lv st cu su σ code G :=
  fun u r σ' h1 h2 p e s m args below meth c H locs ls C HW hl => lv_iload_n C.1 C.2.1 hd hi (lv_at hl n (am_tq_at hk)) (k u r σ' h1 h2 p e s m args below meth c H locs ls C HW hl)
theorem z_iload {i : Nat} {x : Int32} (n : Nat) (hd : decode Y.2.1 pc = .ok (.iload i, 2)) (hk : lv[n]? = some (i, .int x)) (k : Z l E ms σ0 Y d mc sl (pc + 2) lv (.int x :: st) cu su σ code G) : Z l E ms σ0 Y d mc sl pc lv st cu su σ code G :=
  fun u r σ' h1 h2 p e s m args below meth c H locs ls C HW hl => lv_iload C.1 C.2.1 hd (lv_at hl n (am_tq_at hk)) (k u r σ' h1 h2 p e s m args below meth c H locs ls C HW hl)
theorem z_lload_n {k' : Fin 4} {i : Nat} {x : Int64} (n : Nat) (hd : decode Y.2.1 pc = .ok (.lload_n k', 1)) (hi : (k' : Nat) = i) (hk : lv[n]? = some (i, .long x)) (k : Z l E ms σ0 Y d mc sl (pc + 1) lv (.long x :: st) cu su σ code G) : Z l E ms σ0 Y d mc sl pc lv st cu su σ code G :=
  fun u r σ' h1 h2 p e s m args below meth c H locs ls C HW hl => lv_lload_n C.1 C.2.1 hd hi (lv_at hl n (am_tq_at hk)) (k u r σ' h1 h2 p e s m args below meth c H locs ls C HW hl)
theorem z_lload {i : Nat} {x : Int64} (n : Nat) (hd : decode Y.2.1 pc = .ok (.lload i, 2)) (hk : lv[n]? = some (i, .long x)) (k : Z l E ms σ0 Y d mc sl (pc + 2) lv (.long x :: st) cu su σ code G) : Z l E ms σ0 Y d mc sl pc lv st cu su σ code G :=
  fun u r σ' h1 h2 p e s m args below meth c H locs ls C HW hl => lv_lload C.1 C.2.1 hd (lv_at hl n (am_tq_at hk)) (k u r σ' h1 h2 p e s m args below meth c H locs ls C HW hl)
theorem z_aload_n {k' : Fin 4} {i : Nat} {x : Nat} (n : Nat) (hd : decode Y.2.1 pc = .ok (.aload_n k', 1)) (hi : (k' : Nat) = i) (hk : lv[n]? = some (i, .ref x)) (k : Z l E ms σ0 Y d mc sl (pc + 1) lv (.ref x :: st) cu su σ code G) : Z l E ms σ0 Y d mc sl pc lv st cu su σ code G :=
  fun u r σ' h1 h2 p e s m args below meth c H locs ls C HW hl => lv_aload_n C.1 C.2.1 hd hi (lv_at hl n (am_tq_at hk)) (k u r σ' h1 h2 p e s m args below meth c H locs ls C HW hl)
theorem z_aload {i : Nat} {x : Nat} (n : Nat) (hd : decode Y.2.1 pc = .ok (.aload i, 2)) (hk : lv[n]? = some (i, .ref x)) (k : Z l E ms σ0 Y d mc sl (pc + 2) lv (.ref x :: st) cu su σ code G) : Z l E ms σ0 Y d mc sl pc lv st cu su σ code G :=
  fun u r σ' h1 h2 p e s m args below meth c H locs ls C HW hl => lv_aload C.1 C.2.1 hd (lv_at hl n (am_tq_at hk)) (k u r σ' h1 h2 p e s m args below meth c H locs ls C HW hl)
theorem z_aload_nN {k' : Fin 4} {i : Nat} (n : Nat) (hd : decode Y.2.1 pc = .ok (.aload_n k', 1)) (hi : (k' : Nat) = i) (hk : lv[n]? = some (i, .null)) (k : Z l E ms σ0 Y d mc sl (pc + 1) lv (.null :: st) cu su σ code G) : Z l E ms σ0 Y d mc sl pc lv st cu su σ code G :=
  fun u r σ' h1 h2 p e s m args below meth c H locs ls C HW hl => lv_aload_nN C.1 C.2.1 hd hi (lv_at hl n (am_tq_at hk)) (k u r σ' h1 h2 p e s m args below meth c H locs ls C HW hl)
theorem z_aloadN {i : Nat} (n : Nat) (hd : decode Y.2.1 pc = .ok (.aload i, 2)) (hk : lv[n]? = some (i, .null)) (k : Z l E ms σ0 Y d mc sl (pc + 2) lv (.null :: st) cu su σ code G) : Z l E ms σ0 Y d mc sl pc lv st cu su σ code G :=
  fun u r σ' h1 h2 p e s m args below meth c H locs ls C HW hl => lv_aloadN C.1 C.2.1 hd (lv_at hl n (am_tq_at hk)) (k u r σ' h1 h2 p e s m args below meth c H locs ls C HW hl)
theorem z_istore_n {k' : Fin 4} {i : Nat} {x : Int32} {lv' : List (Nat × Value)} (hd : decode Y.2.1 pc = .ok (.istore_n k', 1)) (hi : (k' : Nat) = i) (hn : i < Y.2.2.1) (hv : am_st i (.int x) lv = lv') (k : Z l E ms σ0 Y d mc sl (pc + 1) lv' st cu su σ code G) : Z l E ms σ0 Y d mc sl pc lv (.int x :: st) cu su σ code G :=
  fun u r σ' h1 h2 p e s m args below meth c H locs ls C HW hl => lv_istore_n C.1 C.2.1 hd hi hl hn (am_st_tq E i (.int x) lv) (fun ls' hl' => hv ▸ (fun hl' => k u r σ' h1 h2 p e s m args below meth c H locs ls' C HW hl') <| hv ▸ hl')
theorem z_istore {i : Nat} {x : Int32} {lv' : List (Nat × Value)} (hd : decode Y.2.1 pc = .ok (.istore i, 2)) (hn : i < Y.2.2.1) (hv : am_st i (.int x) lv = lv') (k : Z l E ms σ0 Y d mc sl (pc + 2) lv' st cu su σ code G) : Z l E ms σ0 Y d mc sl pc lv (.int x :: st) cu su σ code G :=
  fun u r σ' h1 h2 p e s m args below meth c H locs ls C HW hl => lv_istore C.1 C.2.1 hd hl hn (am_st_tq E i (.int x) lv) (fun ls' hl' => hv ▸ (fun hl' => k u r σ' h1 h2 p e s m args below meth c H locs ls' C HW hl') <| hv ▸ hl')
theorem z_lstore_n {k' : Fin 4} {i : Nat} {x : Int64} {lv' : List (Nat × Value)} (hd : decode Y.2.1 pc = .ok (.lstore_n k', 1)) (hi : (k' : Nat) = i) (hn : i + 1 < Y.2.2.1) (hv : am_st2 i (.long x) lv = lv') (k : Z l E ms σ0 Y d mc sl (pc + 1) lv' st cu su σ code G) : Z l E ms σ0 Y d mc sl pc lv (.long x :: st) cu su σ code G :=
  fun u r σ' h1 h2 p e s m args below meth c H locs ls C HW hl => lv_lstore_n C.1 C.2.1 hd hi hl hn (am_st2_tq E i (.long x) lv) (fun ls' hl' => hv ▸ (fun hl' => k u r σ' h1 h2 p e s m args below meth c H locs ls' C HW hl') <| hv ▸ hl')
theorem z_lstore {i : Nat} {x : Int64} {lv' : List (Nat × Value)} (hd : decode Y.2.1 pc = .ok (.lstore i, 2)) (hn : i + 1 < Y.2.2.1) (hv : am_st2 i (.long x) lv = lv') (k : Z l E ms σ0 Y d mc sl (pc + 2) lv' st cu su σ code G) : Z l E ms σ0 Y d mc sl pc lv (.long x :: st) cu su σ code G :=
  fun u r σ' h1 h2 p e s m args below meth c H locs ls C HW hl => lv_lstore C.1 C.2.1 hd hl hn (am_st2_tq E i (.long x) lv) (fun ls' hl' => hv ▸ (fun hl' => k u r σ' h1 h2 p e s m args below meth c H locs ls' C HW hl') <| hv ▸ hl')
theorem z_astore_n {k' : Fin 4} {i : Nat} {x : Nat} {lv' : List (Nat × Value)} (hd : decode Y.2.1 pc = .ok (.astore_n k', 1)) (hi : (k' : Nat) = i) (hn : i < Y.2.2.1) (hv : am_st i (.ref x) lv = lv') (k : Z l E ms σ0 Y d mc sl (pc + 1) lv' st cu su σ code G) : Z l E ms σ0 Y d mc sl pc lv (.ref x :: st) cu su σ code G :=
  fun u r σ' h1 h2 p e s m args below meth c H locs ls C HW hl => lv_astore_n C.1 C.2.1 hd hi hl hn (am_st_tq E i (.ref x) lv) (fun ls' hl' => hv ▸ (fun hl' => k u r σ' h1 h2 p e s m args below meth c H locs ls' C HW hl') <| hv ▸ hl')
theorem z_astore {i : Nat} {x : Nat} {lv' : List (Nat × Value)} (hd : decode Y.2.1 pc = .ok (.astore i, 2)) (hn : i < Y.2.2.1) (hv : am_st i (.ref x) lv = lv') (k : Z l E ms σ0 Y d mc sl (pc + 2) lv' st cu su σ code G) : Z l E ms σ0 Y d mc sl pc lv (.ref x :: st) cu su σ code G :=
  fun u r σ' h1 h2 p e s m args below meth c H locs ls C HW hl => lv_astore C.1 C.2.1 hd hl hn (am_st_tq E i (.ref x) lv) (fun ls' hl' => hv ▸ (fun hl' => k u r σ' h1 h2 p e s m args below meth c H locs ls' C HW hl') <| hv ▸ hl')
theorem z_astore_nN {k' : Fin 4} {i : Nat} {lv' : List (Nat × Value)} (hd : decode Y.2.1 pc = .ok (.astore_n k', 1)) (hi : (k' : Nat) = i) (hn : i < Y.2.2.1) (hv : am_st i .null lv = lv') (k : Z l E ms σ0 Y d mc sl (pc + 1) lv' st cu su σ code G) : Z l E ms σ0 Y d mc sl pc lv (.null :: st) cu su σ code G :=
  fun u r σ' h1 h2 p e s m args below meth c H locs ls C HW hl => lv_astore_nN C.1 C.2.1 hd hi hl hn (am_st_tq E i .null lv) (fun ls' hl' => hv ▸ (fun hl' => k u r σ' h1 h2 p e s m args below meth c H locs ls' C HW hl') <| hv ▸ hl')
theorem z_astoreN {i : Nat} {lv' : List (Nat × Value)} (hd : decode Y.2.1 pc = .ok (.astore i, 2)) (hn : i < Y.2.2.1) (hv : am_st i .null lv = lv') (k : Z l E ms σ0 Y d mc sl (pc + 2) lv' st cu su σ code G) : Z l E ms σ0 Y d mc sl pc lv (.null :: st) cu su σ code G :=
  fun u r σ' h1 h2 p e s m args below meth c H locs ls C HW hl => lv_astoreN C.1 C.2.1 hd hl hn (am_st_tq E i .null lv) (fun ls' hl' => hv ▸ (fun hl' => k u r σ' h1 h2 p e s m args below meth c H locs ls' C HW hl') <| hv ▸ hl')
theorem z_iinc {i : Nat} {n : Int} {x v : Int32} {lv' : List (Nat × Value)} (q : Nat) (hd : decode Y.2.1 pc = .ok (.iinc i n, 3)) (hk : lv[q]? = some (i, .int x)) (hx : x + Int32.ofInt n = v) (hn : i < Y.2.2.1) (hv : am_st i (.int v) lv = lv') (k : Z l E ms σ0 Y d mc sl (pc + 3) lv' st cu su σ code G) : Z l E ms σ0 Y d mc sl pc lv st cu su σ code G :=
  fun u r σ' h1 h2 p e s m args below meth c H locs ls C HW hl => lv_iinc C.1 C.2.1 hd hl (am_tq_at (n := q) hk) hx hn (am_st_tq E i (.int v) lv) (fun ls' hl' => hv ▸ (fun hl' => k u r σ' h1 h2 p e s m args below meth c H locs ls' C HW hl') <| hv ▸ hl')
theorem z_iadd {x y : Int32} (hd : decode Y.2.1 pc = .ok (.iadd, 1)) (k : Z l E ms σ0 Y d mc sl (pc + 1) lv (.int (x + y) :: st) cu su σ code G) : Z l E ms σ0 Y d mc sl pc lv (.int y :: .int x :: st) cu su σ code G :=
  fun u r σ' h1 h2 p e s m args below meth c H locs ls C HW hl => lv_iadd C.1 C.2.1 hd  (k u r σ' h1 h2 p e s m args below meth c H locs ls C HW hl)
theorem z_isub {x y : Int32} (hd : decode Y.2.1 pc = .ok (.isub, 1)) (k : Z l E ms σ0 Y d mc sl (pc + 1) lv (.int (x - y) :: st) cu su σ code G) : Z l E ms σ0 Y d mc sl pc lv (.int y :: .int x :: st) cu su σ code G :=
  fun u r σ' h1 h2 p e s m args below meth c H locs ls C HW hl => lv_isub C.1 C.2.1 hd  (k u r σ' h1 h2 p e s m args below meth c H locs ls C HW hl)
theorem z_imul {x y : Int32} (hd : decode Y.2.1 pc = .ok (.imul, 1)) (k : Z l E ms σ0 Y d mc sl (pc + 1) lv (.int (x * y) :: st) cu su σ code G) : Z l E ms σ0 Y d mc sl pc lv (.int y :: .int x :: st) cu su σ code G :=
  fun u r σ' h1 h2 p e s m args below meth c H locs ls C HW hl => lv_imul C.1 C.2.1 hd  (k u r σ' h1 h2 p e s m args below meth c H locs ls C HW hl)
theorem z_iand {x y : Int32} (hd : decode Y.2.1 pc = .ok (.iand, 1)) (k : Z l E ms σ0 Y d mc sl (pc + 1) lv (.int (x &&& y) :: st) cu su σ code G) : Z l E ms σ0 Y d mc sl pc lv (.int y :: .int x :: st) cu su σ code G :=
  fun u r σ' h1 h2 p e s m args below meth c H locs ls C HW hl => lv_iand C.1 C.2.1 hd  (k u r σ' h1 h2 p e s m args below meth c H locs ls C HW hl)
theorem z_ior {x y : Int32} (hd : decode Y.2.1 pc = .ok (.ior, 1)) (k : Z l E ms σ0 Y d mc sl (pc + 1) lv (.int (x ||| y) :: st) cu su σ code G) : Z l E ms σ0 Y d mc sl pc lv (.int y :: .int x :: st) cu su σ code G :=
  fun u r σ' h1 h2 p e s m args below meth c H locs ls C HW hl => lv_ior C.1 C.2.1 hd  (k u r σ' h1 h2 p e s m args below meth c H locs ls C HW hl)
theorem z_ishl {x y : Int32} (hd : decode Y.2.1 pc = .ok (.ishl, 1)) (k : Z l E ms σ0 Y d mc sl (pc + 1) lv (.int (x <<< (y &&& 31)) :: st) cu su σ code G) : Z l E ms σ0 Y d mc sl pc lv (.int y :: .int x :: st) cu su σ code G :=
  fun u r σ' h1 h2 p e s m args below meth c H locs ls C HW hl => lv_ishl C.1 C.2.1 hd  (k u r σ' h1 h2 p e s m args below meth c H locs ls C HW hl)
theorem z_ishr {x y : Int32} (hd : decode Y.2.1 pc = .ok (.ishr, 1)) (k : Z l E ms σ0 Y d mc sl (pc + 1) lv (.int (x >>> (y &&& 31)) :: st) cu su σ code G) : Z l E ms σ0 Y d mc sl pc lv (.int y :: .int x :: st) cu su σ code G :=
  fun u r σ' h1 h2 p e s m args below meth c H locs ls C HW hl => lv_ishr C.1 C.2.1 hd  (k u r σ' h1 h2 p e s m args below meth c H locs ls C HW hl)
theorem z_idiv {x y : Int32} (hd : decode Y.2.1 pc = .ok (.idiv, 1)) (hne : ¬ y = 0) (k : Z l E ms σ0 Y d mc sl (pc + 1) lv (.int (x / y) :: st) cu su σ code G) : Z l E ms σ0 Y d mc sl pc lv (.int y :: .int x :: st) cu su σ code G :=
  fun u r σ' h1 h2 p e s m args below meth c H locs ls C HW hl => lv_idiv C.1 C.2.1 hd hne (k u r σ' h1 h2 p e s m args below meth c H locs ls C HW hl)
theorem z_irem {x y : Int32} (hd : decode Y.2.1 pc = .ok (.irem, 1)) (hne : ¬ y = 0) (k : Z l E ms σ0 Y d mc sl (pc + 1) lv (.int (x - x / y * y) :: st) cu su σ code G) : Z l E ms σ0 Y d mc sl pc lv (.int y :: .int x :: st) cu su σ code G :=
  fun u r σ' h1 h2 p e s m args below meth c H locs ls C HW hl => lv_irem C.1 C.2.1 hd hne (k u r σ' h1 h2 p e s m args below meth c H locs ls C HW hl)
theorem z_ineg {x : Int32} (hd : decode Y.2.1 pc = .ok (.ineg, 1)) (k : Z l E ms σ0 Y d mc sl (pc + 1) lv (.int (-x) :: st) cu su σ code G) : Z l E ms σ0 Y d mc sl pc lv (.int x :: st) cu su σ code G :=
  fun u r σ' h1 h2 p e s m args below meth c H locs ls C HW hl => lv_ineg C.1 C.2.1 hd  (k u r σ' h1 h2 p e s m args below meth c H locs ls C HW hl)
theorem z_ladd {x y : Int64} (hd : decode Y.2.1 pc = .ok (.ladd, 1)) (k : Z l E ms σ0 Y d mc sl (pc + 1) lv (.long (x + y) :: st) cu su σ code G) : Z l E ms σ0 Y d mc sl pc lv (.long y :: .long x :: st) cu su σ code G :=
  fun u r σ' h1 h2 p e s m args below meth c H locs ls C HW hl => lv_ladd C.1 C.2.1 hd  (k u r σ' h1 h2 p e s m args below meth c H locs ls C HW hl)
theorem z_lsub {x y : Int64} (hd : decode Y.2.1 pc = .ok (.lsub, 1)) (k : Z l E ms σ0 Y d mc sl (pc + 1) lv (.long (x - y) :: st) cu su σ code G) : Z l E ms σ0 Y d mc sl pc lv (.long y :: .long x :: st) cu su σ code G :=
  fun u r σ' h1 h2 p e s m args below meth c H locs ls C HW hl => lv_lsub C.1 C.2.1 hd  (k u r σ' h1 h2 p e s m args below meth c H locs ls C HW hl)
theorem z_lmul {x y : Int64} (hd : decode Y.2.1 pc = .ok (.lmul, 1)) (k : Z l E ms σ0 Y d mc sl (pc + 1) lv (.long (x * y) :: st) cu su σ code G) : Z l E ms σ0 Y d mc sl pc lv (.long y :: .long x :: st) cu su σ code G :=
  fun u r σ' h1 h2 p e s m args below meth c H locs ls C HW hl => lv_lmul C.1 C.2.1 hd  (k u r σ' h1 h2 p e s m args below meth c H locs ls C HW hl)
theorem z_land {x y : Int64} (hd : decode Y.2.1 pc = .ok (.land, 1)) (k : Z l E ms σ0 Y d mc sl (pc + 1) lv (.long (x &&& y) :: st) cu su σ code G) : Z l E ms σ0 Y d mc sl pc lv (.long y :: .long x :: st) cu su σ code G :=
  fun u r σ' h1 h2 p e s m args below meth c H locs ls C HW hl => lv_land C.1 C.2.1 hd  (k u r σ' h1 h2 p e s m args below meth c H locs ls C HW hl)
theorem z_lor {x y : Int64} (hd : decode Y.2.1 pc = .ok (.lor, 1)) (k : Z l E ms σ0 Y d mc sl (pc + 1) lv (.long (x ||| y) :: st) cu su σ code G) : Z l E ms σ0 Y d mc sl pc lv (.long y :: .long x :: st) cu su σ code G :=
  fun u r σ' h1 h2 p e s m args below meth c H locs ls C HW hl => lv_lor C.1 C.2.1 hd  (k u r σ' h1 h2 p e s m args below meth c H locs ls C HW hl)
theorem z_ldiv {x y : Int64} (hd : decode Y.2.1 pc = .ok (.ldiv, 1)) (hne : ¬ y = 0) (k : Z l E ms σ0 Y d mc sl (pc + 1) lv (.long (x / y) :: st) cu su σ code G) : Z l E ms σ0 Y d mc sl pc lv (.long y :: .long x :: st) cu su σ code G :=
  fun u r σ' h1 h2 p e s m args below meth c H locs ls C HW hl => lv_ldiv C.1 C.2.1 hd hne (k u r σ' h1 h2 p e s m args below meth c H locs ls C HW hl)
theorem z_lrem {x y : Int64} (hd : decode Y.2.1 pc = .ok (.lrem, 1)) (hne : ¬ y = 0) (k : Z l E ms σ0 Y d mc sl (pc + 1) lv (.long (x - x / y * y) :: st) cu su σ code G) : Z l E ms σ0 Y d mc sl pc lv (.long y :: .long x :: st) cu su σ code G :=
  fun u r σ' h1 h2 p e s m args below meth c H locs ls C HW hl => lv_lrem C.1 C.2.1 hd hne (k u r σ' h1 h2 p e s m args below meth c H locs ls C HW hl)
theorem z_lshl {x : Int64} {y : Int32} (hd : decode Y.2.1 pc = .ok (.lshl, 1)) (k : Z l E ms σ0 Y d mc sl (pc + 1) lv (.long (x <<< (y.toInt64 &&& 63)) :: st) cu su σ code G) : Z l E ms σ0 Y d mc sl pc lv (.int y :: .long x :: st) cu su σ code G :=
  fun u r σ' h1 h2 p e s m args below meth c H locs ls C HW hl => lv_lshl C.1 C.2.1 hd rfl (k u r σ' h1 h2 p e s m args below meth c H locs ls C HW hl)
theorem z_lshr {x : Int64} {y : Int32} (hd : decode Y.2.1 pc = .ok (.lshr, 1)) (k : Z l E ms σ0 Y d mc sl (pc + 1) lv (.long (x >>> (y.toInt64 &&& 63)) :: st) cu su σ code G) : Z l E ms σ0 Y d mc sl pc lv (.int y :: .long x :: st) cu su σ code G :=
  fun u r σ' h1 h2 p e s m args below meth c H locs ls C HW hl => lv_lshr C.1 C.2.1 hd rfl (k u r σ' h1 h2 p e s m args below meth c H locs ls C HW hl)
theorem z_i2l {x : Int32} (hd : decode Y.2.1 pc = .ok (.i2l, 1)) (k : Z l E ms σ0 Y d mc sl (pc + 1) lv (.long x.toInt64 :: st) cu su σ code G) : Z l E ms σ0 Y d mc sl pc lv (.int x :: st) cu su σ code G :=
  fun u r σ' h1 h2 p e s m args below meth c H locs ls C HW hl => lv_i2l C.1 C.2.1 hd rfl (k u r σ' h1 h2 p e s m args below meth c H locs ls C HW hl)
theorem z_l2i {x : Int64} (hd : decode Y.2.1 pc = .ok (.l2i, 1)) (k : Z l E ms σ0 Y d mc sl (pc + 1) lv (.int x.toInt32 :: st) cu su σ code G) : Z l E ms σ0 Y d mc sl pc lv (.long x :: st) cu su σ code G :=
  fun u r σ' h1 h2 p e s m args below meth c H locs ls C HW hl => lv_l2i C.1 C.2.1 hd rfl (k u r σ' h1 h2 p e s m args below meth c H locs ls C HW hl)
theorem z_i2b {x : Int32} (hd : decode Y.2.1 pc = .ok (.i2b, 1)) (k : Z l E ms σ0 Y d mc sl (pc + 1) lv (.int x.toInt8.toInt32 :: st) cu su σ code G) : Z l E ms σ0 Y d mc sl pc lv (.int x :: st) cu su σ code G :=
  fun u r σ' h1 h2 p e s m args below meth c H locs ls C HW hl => lv_i2b C.1 C.2.1 hd rfl (k u r σ' h1 h2 p e s m args below meth c H locs ls C HW hl)
theorem z_i2s {x : Int32} (hd : decode Y.2.1 pc = .ok (.i2s, 1)) (k : Z l E ms σ0 Y d mc sl (pc + 1) lv (.int x.toInt16.toInt32 :: st) cu su σ code G) : Z l E ms σ0 Y d mc sl pc lv (.int x :: st) cu su σ code G :=
  fun u r σ' h1 h2 p e s m args below meth c H locs ls C HW hl => lv_i2s C.1 C.2.1 hd rfl (k u r σ' h1 h2 p e s m args below meth c H locs ls C HW hl)
theorem z_i2c {x : Int32} (hd : decode Y.2.1 pc = .ok (.i2c, 1)) (k : Z l E ms σ0 Y d mc sl (pc + 1) lv (.int (x.toUInt32 % 65536).toInt32 :: st) cu su σ code G) : Z l E ms σ0 Y d mc sl pc lv (.int x :: st) cu su σ code G :=
  fun u r σ' h1 h2 p e s m args below meth c H locs ls C HW hl => lv_i2c C.1 C.2.1 hd rfl (k u r σ' h1 h2 p e s m args below meth c H locs ls C HW hl)
theorem z_dup {v : Value} (hd : decode Y.2.1 pc = .ok (.dup, 1)) (hc : v.category = 1) (k : Z l E ms σ0 Y d mc sl (pc + 1) lv (v :: v :: st) cu su σ code G) : Z l E ms σ0 Y d mc sl pc lv (v :: st) cu su σ code G :=
  fun u r σ' h1 h2 p e s m args below meth c H locs ls C HW hl => lv_dup C.1 C.2.1 hd ((am_tv_cat E v).trans hc) (k u r σ' h1 h2 p e s m args below meth c H locs ls C HW hl)
theorem z_pop {v : Value} (hd : decode Y.2.1 pc = .ok (.pop, 1)) (hc : v.category = 1) (k : Z l E ms σ0 Y d mc sl (pc + 1) lv (st) cu su σ code G) : Z l E ms σ0 Y d mc sl pc lv (v :: st) cu su σ code G :=
  fun u r σ' h1 h2 p e s m args below meth c H locs ls C HW hl => lv_pop C.1 C.2.1 hd ((am_tv_cat E v).trans hc) (k u r σ' h1 h2 p e s m args below meth c H locs ls C HW hl)
theorem z_dup2 {v w : Value} (hd : decode Y.2.1 pc = .ok (.dup2, 1)) (hc : v.category = 1) (hc2 : w.category = 1) (k : Z l E ms σ0 Y d mc sl (pc + 1) lv (v :: w :: v :: w :: st) cu su σ code G) : Z l E ms σ0 Y d mc sl pc lv (v :: w :: st) cu su σ code G :=
  fun u r σ' h1 h2 p e s m args below meth c H locs ls C HW hl => lv_dup2_11 C.1 C.2.1 hd ((am_tv_cat E v).trans hc) ((am_tv_cat E w).trans hc2) (k u r σ' h1 h2 p e s m args below meth c H locs ls C HW hl)
theorem z_dup_x1 {v w : Value} (hd : decode Y.2.1 pc = .ok (.dup_x1, 1)) (hc : v.category = 1) (hc2 : w.category = 1) (k : Z l E ms σ0 Y d mc sl (pc + 1) lv (v :: w :: v :: st) cu su σ code G) : Z l E ms σ0 Y d mc sl pc lv (v :: w :: st) cu su σ code G :=
  fun u r σ' h1 h2 p e s m args below meth c H locs ls C HW hl => lv_dup_x1 C.1 C.2.1 hd ((am_tv_cat E v).trans hc) ((am_tv_cat E w).trans hc2) (k u r σ' h1 h2 p e s m args below meth c H locs ls C HW hl)
theorem z_lcmp {x y : Int64} (hd : decode Y.2.1 pc = .ok (.lcmp, 1)) (k : Z l E ms σ0 Y d mc sl (pc + 1) lv (.int (lg_cmp x y) :: st) cu su σ code G) : Z l E ms σ0 Y d mc sl pc lv (.long y :: .long x :: st) cu su σ code G :=
  fun u r σ' h1 h2 p e s m args below meth c H locs ls C HW hl => W.lcmp C.1 C.2.1 hd (k u r σ' h1 h2 p e s m args below meth c H locs ls C HW hl)
theorem z_if_eq {x : Int32} {off : Int} {tgt : Nat} (hd : decode Y.2.1 pc = .ok (.ifCond .eq off, 3)) (ht : (pc : Int) + off = (tgt : Int)) (ka : x = 0 → Z l E ms σ0 Y d mc sl tgt lv st cu su σ A G) (kb : ¬ x = 0 → Z l E ms σ0 Y d mc sl (pc + 3) lv st cu su σ B G) : Z l E ms σ0 Y d mc sl pc lv (.int x :: st) cu su σ (if x = 0 then A else B) G := by
  intro u r σ' h1 h2 p e s m args below meth c H locs ls C HW hl
  exact lv_if_eq C.1 C.2.1 hd ht (fun hc => ka hc u r σ' (by rw [if_pos hc] at h1; exact h1) h2 p e s m args below meth c H locs ls C HW hl) (fun hc => kb hc u r σ' (by rw [if_neg hc] at h1; exact h1) h2 p e s m args below meth c H locs ls C HW hl)
theorem z_if_eq_t {x : Int32} {off : Int} {tgt : Nat} (hd : decode Y.2.1 pc = .ok (.ifCond .eq off, 3)) (ht : (pc : Int) + off = (tgt : Int)) (hc : x = 0) (k : Z l E ms σ0 Y d mc sl tgt lv st cu su σ code G) : Z l E ms σ0 Y d mc sl pc lv (.int x :: st) cu su σ code G :=
  fun u r σ' h1 h2 p e s m args below meth c H locs ls C HW hl => lv_if_eq C.1 C.2.1 hd ht (fun _ => k u r σ' h1 h2 p e s m args below meth c H locs ls C HW hl) (fun h => absurd hc h)
theorem z_if_eq_f {x : Int32} {off : Int} {tgt : Nat} (hd : decode Y.2.1 pc = .ok (.ifCond .eq off, 3)) (ht : (pc : Int) + off = (tgt : Int)) (hc : ¬ x = 0) (k : Z l E ms σ0 Y d mc sl (pc + 3) lv st cu su σ code G) : Z l E ms σ0 Y d mc sl pc lv (.int x :: st) cu su σ code G :=
  fun u r σ' h1 h2 p e s m args below meth c H locs ls C HW hl => lv_if_eq C.1 C.2.1 hd ht (fun h => absurd h hc) (fun _ => k u r σ' h1 h2 p e s m args below meth c H locs ls C HW hl)
theorem z_if_ne {x : Int32} {off : Int} {tgt : Nat} (hd : decode Y.2.1 pc = .ok (.ifCond .ne off, 3)) (ht : (pc : Int) + off = (tgt : Int)) (ka : x = 0 → Z l E ms σ0 Y d mc sl (pc + 3) lv st cu su σ A G) (kb : ¬ x = 0 → Z l E ms σ0 Y d mc sl tgt lv st cu su σ B G) : Z l E ms σ0 Y d mc sl pc lv (.int x :: st) cu su σ (if x = 0 then A else B) G := by
  intro u r σ' h1 h2 p e s m args below meth c H locs ls C HW hl
  exact lv_if_ne C.1 C.2.1 hd ht (fun hc => kb hc u r σ' (by rw [if_neg hc] at h1; exact h1) h2 p e s m args below meth c H locs ls C HW hl) (fun hc => ka hc u r σ' (by rw [if_pos hc] at h1; exact h1) h2 p e s m args below meth c H locs ls C HW hl)
theorem z_if_ne_t {x : Int32} {off : Int} {tgt : Nat} (hd : decode Y.2.1 pc = .ok (.ifCond .ne off, 3)) (ht : (pc : Int) + off = (tgt : Int)) (hc : ¬ x = 0) (k : Z l E ms σ0 Y d mc sl tgt lv st cu su σ code G) : Z l E ms σ0 Y d mc sl pc lv (.int x :: st) cu su σ code G :=
  fun u r σ' h1 h2 p e s m args below meth c H locs ls C HW hl => lv_if_ne C.1 C.2.1 hd ht (fun _ => k u r σ' h1 h2 p e s m args below meth c H locs ls C HW hl) (fun h => absurd h hc)
theorem z_if_ne_f {x : Int32} {off : Int} {tgt : Nat} (hd : decode Y.2.1 pc = .ok (.ifCond .ne off, 3)) (ht : (pc : Int) + off = (tgt : Int)) (hc : x = 0) (k : Z l E ms σ0 Y d mc sl (pc + 3) lv st cu su σ code G) : Z l E ms σ0 Y d mc sl pc lv (.int x :: st) cu su σ code G :=
  fun u r σ' h1 h2 p e s m args below meth c H locs ls C HW hl => lv_if_ne C.1 C.2.1 hd ht (fun h => absurd hc h) (fun _ => k u r σ' h1 h2 p e s m args below meth c H locs ls C HW hl)
theorem z_if_lt {x : Int32} {off : Int} {tgt : Nat} (hd : decode Y.2.1 pc = .ok (.ifCond .lt off, 3)) (ht : (pc : Int) + off = (tgt : Int)) (ka : x < 0 → Z l E ms σ0 Y d mc sl tgt lv st cu su σ A G) (kb : ¬ x < 0 → Z l E ms σ0 Y d mc sl (pc + 3) lv st cu su σ B G) : Z l E ms σ0 Y d mc sl pc lv (.int x :: st) cu su σ (if x < 0 then A else B) G := by
  intro u r σ' h1 h2 p e s m args below meth c H locs ls C HW hl
  exact lv_if_lt C.1 C.2.1 hd ht (fun hc => ka hc u r σ' (by rw [if_pos hc] at h1; exact h1) h2 p e s m args below meth c H locs ls C HW hl) (fun hc => kb hc u r σ' (by rw [if_neg hc] at h1; exact h1) h2 p e s m args below meth c H locs ls C HW hl)
theorem z_if_lt_t {x : Int32} {off : Int} {tgt : Nat} (hd : decode Y.2.1 pc = .ok (.ifCond .lt off, 3)) (ht : (pc : Int) + off = (tgt : Int)) (hc : x < 0) (k : Z l E ms σ0 Y d mc sl tgt lv st cu su σ code G) : Z l E ms σ0 Y d mc sl pc lv (.int x :: st) cu su σ code G :=
  fun u r σ' h1 h2 p e s m args below meth c H locs ls C HW hl => lv_if_lt C.1 C.2.1 hd ht (fun _ => k u r σ' h1 h2 p e s m args below meth c H locs ls C HW hl) (fun h => absurd hc h)
theorem z_if_lt_f {x : Int32} {off : Int} {tgt : Nat} (hd : decode Y.2.1 pc = .ok (.ifCond .lt off, 3)) (ht : (pc : Int) + off = (tgt : Int)) (hc : ¬ x < 0) (k : Z l E ms σ0 Y d mc sl (pc + 3) lv st cu su σ code G) : Z l E ms σ0 Y d mc sl pc lv (.int x :: st) cu su σ code G :=
  fun u r σ' h1 h2 p e s m args below meth c H locs ls C HW hl => lv_if_lt C.1 C.2.1 hd ht (fun h => absurd h hc) (fun _ => k u r σ' h1 h2 p e s m args below meth c H locs ls C HW hl)
theorem z_if_ge {x : Int32} {off : Int} {tgt : Nat} (hd : decode Y.2.1 pc = .ok (.ifCond .ge off, 3)) (ht : (pc : Int) + off = (tgt : Int)) (ka : 0 ≤ x → Z l E ms σ0 Y d mc sl tgt lv st cu su σ A G) (kb : ¬ 0 ≤ x → Z l E ms σ0 Y d mc sl (pc + 3) lv st cu su σ B G) : Z l E ms σ0 Y d mc sl pc lv (.int x :: st) cu su σ (if 0 ≤ x then A else B) G := by
  intro u r σ' h1 h2 p e s m args below meth c H locs ls C HW hl
  exact lv_if_ge C.1 C.2.1 hd ht (fun hc => ka hc u r σ' (by rw [if_pos hc] at h1; exact h1) h2 p e s m args below meth c H locs ls C HW hl) (fun hc => kb hc u r σ' (by rw [if_neg hc] at h1; exact h1) h2 p e s m args below meth c H locs ls C HW hl)
theorem z_if_ge_t {x : Int32} {off : Int} {tgt : Nat} (hd : decode Y.2.1 pc = .ok (.ifCond .ge off, 3)) (ht : (pc : Int) + off = (tgt : Int)) (hc : 0 ≤ x) (k : Z l E ms σ0 Y d mc sl tgt lv st cu su σ code G) : Z l E ms σ0 Y d mc sl pc lv (.int x :: st) cu su σ code G :=
  fun u r σ' h1 h2 p e s m args below meth c H locs ls C HW hl => lv_if_ge C.1 C.2.1 hd ht (fun _ => k u r σ' h1 h2 p e s m args below meth c H locs ls C HW hl) (fun h => absurd hc h)
theorem z_if_ge_f {x : Int32} {off : Int} {tgt : Nat} (hd : decode Y.2.1 pc = .ok (.ifCond .ge off, 3)) (ht : (pc : Int) + off = (tgt : Int)) (hc : ¬ 0 ≤ x) (k : Z l E ms σ0 Y d mc sl (pc + 3) lv st cu su σ code G) : Z l E ms σ0 Y d mc sl pc lv (.int x :: st) cu su σ code G :=
  fun u r σ' h1 h2 p e s m args below meth c H locs ls C HW hl => lv_if_ge C.1 C.2.1 hd ht (fun h => absurd h hc) (fun _ => k u r σ' h1 h2 p e s m args below meth c H locs ls C HW hl)
theorem z_if_gt {x : Int32} {off : Int} {tgt : Nat} (hd : decode Y.2.1 pc = .ok (.ifCond .gt off, 3)) (ht : (pc : Int) + off = (tgt : Int)) (ka : 0 < x → Z l E ms σ0 Y d mc sl tgt lv st cu su σ A G) (kb : ¬ 0 < x → Z l E ms σ0 Y d mc sl (pc + 3) lv st cu su σ B G) : Z l E ms σ0 Y d mc sl pc lv (.int x :: st) cu su σ (if 0 < x then A else B) G := by
  intro u r σ' h1 h2 p e s m args below meth c H locs ls C HW hl
  exact lv_if_gt C.1 C.2.1 hd ht (fun hc => ka hc u r σ' (by rw [if_pos hc] at h1; exact h1) h2 p e s m args below meth c H locs ls C HW hl) (fun hc => kb hc u r σ' (by rw [if_neg hc] at h1; exact h1) h2 p e s m args below meth c H locs ls C HW hl)
theorem z_if_gt_t {x : Int32} {off : Int} {tgt : Nat} (hd : decode Y.2.1 pc = .ok (.ifCond .gt off, 3)) (ht : (pc : Int) + off = (tgt : Int)) (hc : 0 < x) (k : Z l E ms σ0 Y d mc sl tgt lv st cu su σ code G) : Z l E ms σ0 Y d mc sl pc lv (.int x :: st) cu su σ code G :=
  fun u r σ' h1 h2 p e s m args below meth c H locs ls C HW hl => lv_if_gt C.1 C.2.1 hd ht (fun _ => k u r σ' h1 h2 p e s m args below meth c H locs ls C HW hl) (fun h => absurd hc h)
theorem z_if_gt_f {x : Int32} {off : Int} {tgt : Nat} (hd : decode Y.2.1 pc = .ok (.ifCond .gt off, 3)) (ht : (pc : Int) + off = (tgt : Int)) (hc : ¬ 0 < x) (k : Z l E ms σ0 Y d mc sl (pc + 3) lv st cu su σ code G) : Z l E ms σ0 Y d mc sl pc lv (.int x :: st) cu su σ code G :=
  fun u r σ' h1 h2 p e s m args below meth c H locs ls C HW hl => lv_if_gt C.1 C.2.1 hd ht (fun h => absurd h hc) (fun _ => k u r σ' h1 h2 p e s m args below meth c H locs ls C HW hl)
theorem z_if_le {x : Int32} {off : Int} {tgt : Nat} (hd : decode Y.2.1 pc = .ok (.ifCond .le off, 3)) (ht : (pc : Int) + off = (tgt : Int)) (ka : x ≤ 0 → Z l E ms σ0 Y d mc sl tgt lv st cu su σ A G) (kb : ¬ x ≤ 0 → Z l E ms σ0 Y d mc sl (pc + 3) lv st cu su σ B G) : Z l E ms σ0 Y d mc sl pc lv (.int x :: st) cu su σ (if x ≤ 0 then A else B) G := by
  intro u r σ' h1 h2 p e s m args below meth c H locs ls C HW hl
  exact lv_if_le C.1 C.2.1 hd ht (fun hc => ka hc u r σ' (by rw [if_pos hc] at h1; exact h1) h2 p e s m args below meth c H locs ls C HW hl) (fun hc => kb hc u r σ' (by rw [if_neg hc] at h1; exact h1) h2 p e s m args below meth c H locs ls C HW hl)
theorem z_if_le_t {x : Int32} {off : Int} {tgt : Nat} (hd : decode Y.2.1 pc = .ok (.ifCond .le off, 3)) (ht : (pc : Int) + off = (tgt : Int)) (hc : x ≤ 0) (k : Z l E ms σ0 Y d mc sl tgt lv st cu su σ code G) : Z l E ms σ0 Y d mc sl pc lv (.int x :: st) cu su σ code G :=
  fun u r σ' h1 h2 p e s m args below meth c H locs ls C HW hl => lv_if_le C.1 C.2.1 hd ht (fun _ => k u r σ' h1 h2 p e s m args below meth c H locs ls C HW hl) (fun h => absurd hc h)
theorem z_if_le_f {x : Int32} {off : Int} {tgt : Nat} (hd : decode Y.2.1 pc = .ok (.ifCond .le off, 3)) (ht : (pc : Int) + off = (tgt : Int)) (hc : ¬ x ≤ 0) (k : Z l E ms σ0 Y d mc sl (pc + 3) lv st cu su σ code G) : Z l E ms σ0 Y d mc sl pc lv (.int x :: st) cu su σ code G :=
  fun u r σ' h1 h2 p e s m args below meth c H locs ls C HW hl => lv_if_le C.1 C.2.1 hd ht (fun h => absurd h hc) (fun _ => k u r σ' h1 h2 p e s m args below meth c H locs ls C HW hl)
theorem z_ic_eq {x y : Int32} {off : Int} {tgt : Nat} (hd : decode Y.2.1 pc = .ok (.if_icmp .eq off, 3)) (ht : (pc : Int) + off = (tgt : Int)) (ka : x = y → Z l E ms σ0 Y d mc sl tgt lv st cu su σ A G) (kb : ¬ x = y → Z l E ms σ0 Y d mc sl (pc + 3) lv st cu su σ B G) : Z l E ms σ0 Y d mc sl pc lv (.int y :: .int x :: st) cu su σ (if x = y then A else B) G := by
  intro u r σ' h1 h2 p e s m args below meth c H locs ls C HW hl
  exact lv_icmp_eq C.1 C.2.1 hd ht (fun hc => ka hc u r σ' (by rw [if_pos hc] at h1; exact h1) h2 p e s m args below meth c H locs ls C HW hl) (fun hc => kb hc u r σ' (by rw [if_neg hc] at h1; exact h1) h2 p e s m args below meth c H locs ls C HW hl)
theorem z_ic_eq_t {x y : Int32} {off : Int} {tgt : Nat} (hd : decode Y.2.1 pc = .ok (.if_icmp .eq off, 3)) (ht : (pc : Int) + off = (tgt : Int)) (hc : x = y) (k : Z l E ms σ0 Y d mc sl tgt lv st cu su σ code G) : Z l E ms σ0 Y d mc sl pc lv (.int y :: .int x :: st) cu su σ code G :=
  fun u r σ' h1 h2 p e s m args below meth c H locs ls C HW hl => lv_icmp_eq C.1 C.2.1 hd ht (fun _ => k u r σ' h1 h2 p e s m args below meth c H locs ls C HW hl) (fun h => absurd hc h)
theorem z_ic_eq_f {x y : Int32} {off : Int} {tgt : Nat} (hd : decode Y.2.1 pc = .ok (.if_icmp .eq off, 3)) (ht : (pc : Int) + off = (tgt : Int)) (hc : ¬ x = y) (k : Z l E ms σ0 Y d mc sl (pc + 3) lv st cu su σ code G) : Z l E ms σ0 Y d mc sl pc lv (.int y :: .int x :: st) cu su σ code G :=
  fun u r σ' h1 h2 p e s m args below meth c H locs ls C HW hl => lv_icmp_eq C.1 C.2.1 hd ht (fun h => absurd h hc) (fun _ => k u r σ' h1 h2 p e s m args below meth c H locs ls C HW hl)
theorem z_ic_ne {x y : Int32} {off : Int} {tgt : Nat} (hd : decode Y.2.1 pc = .ok (.if_icmp .ne off, 3)) (ht : (pc : Int) + off = (tgt : Int)) (ka : x = y → Z l E ms σ0 Y d mc sl (pc + 3) lv st cu su σ A G) (kb : ¬ x = y → Z l E ms σ0 Y d mc sl tgt lv st cu su σ B G) : Z l E ms σ0 Y d mc sl pc lv (.int y :: .int x :: st) cu su σ (if x = y then A else B) G := by
  intro u r σ' h1 h2 p e s m args below meth c H locs ls C HW hl
  exact lv_icmp_ne C.1 C.2.1 hd ht (fun hc => kb hc u r σ' (by rw [if_neg hc] at h1; exact h1) h2 p e s m args below meth c H locs ls C HW hl) (fun hc => ka hc u r σ' (by rw [if_pos hc] at h1; exact h1) h2 p e s m args below meth c H locs ls C HW hl)
theorem z_ic_ne_t {x y : Int32} {off : Int} {tgt : Nat} (hd : decode Y.2.1 pc = .ok (.if_icmp .ne off, 3)) (ht : (pc : Int) + off = (tgt : Int)) (hc : ¬ x = y) (k : Z l E ms σ0 Y d mc sl tgt lv st cu su σ code G) : Z l E ms σ0 Y d mc sl pc lv (.int y :: .int x :: st) cu su σ code G :=
  fun u r σ' h1 h2 p e s m args below meth c H locs ls C HW hl => lv_icmp_ne C.1 C.2.1 hd ht (fun _ => k u r σ' h1 h2 p e s m args below meth c H locs ls C HW hl) (fun h => absurd h hc)
theorem z_ic_ne_f {x y : Int32} {off : Int} {tgt : Nat} (hd : decode Y.2.1 pc = .ok (.if_icmp .ne off, 3)) (ht : (pc : Int) + off = (tgt : Int)) (hc : x = y) (k : Z l E ms σ0 Y d mc sl (pc + 3) lv st cu su σ code G) : Z l E ms σ0 Y d mc sl pc lv (.int y :: .int x :: st) cu su σ code G :=
  fun u r σ' h1 h2 p e s m args below meth c H locs ls C HW hl => lv_icmp_ne C.1 C.2.1 hd ht (fun h => absurd hc h) (fun _ => k u r σ' h1 h2 p e s m args below meth c H locs ls C HW hl)
theorem z_ic_lt {x y : Int32} {off : Int} {tgt : Nat} (hd : decode Y.2.1 pc = .ok (.if_icmp .lt off, 3)) (ht : (pc : Int) + off = (tgt : Int)) (ka : x < y → Z l E ms σ0 Y d mc sl tgt lv st cu su σ A G) (kb : ¬ x < y → Z l E ms σ0 Y d mc sl (pc + 3) lv st cu su σ B G) : Z l E ms σ0 Y d mc sl pc lv (.int y :: .int x :: st) cu su σ (if x < y then A else B) G := by
  intro u r σ' h1 h2 p e s m args below meth c H locs ls C HW hl
  exact lv_icmp_lt C.1 C.2.1 hd ht (fun hc => ka hc u r σ' (by rw [if_pos hc] at h1; exact h1) h2 p e s m args below meth c H locs ls C HW hl) (fun hc => kb hc u r σ' (by rw [if_neg hc] at h1; exact h1) h2 p e s m args below meth c H locs ls C HW hl)
theorem z_ic_lt_t {x y : Int32} {off : Int} {tgt : Nat} (hd : decode Y.2.1 pc = .ok (.if_icmp .lt off, 3)) (ht : (pc : Int) + off = (tgt : Int)) (hc : x < y) (k : Z l E ms σ0 Y d mc sl tgt lv st cu su σ code G) : Z l E ms σ0 Y d mc sl pc lv (.int y :: .int x :: st) cu su σ code G :=
  fun u r σ' h1 h2 p e s m args below meth c H locs ls C HW hl => lv_icmp_lt C.1 C.2.1 hd ht (fun _ => k u r σ' h1 h2 p e s m args below meth c H locs ls C HW hl) (fun h => absurd hc h)
theorem z_ic_lt_f {x y : Int32} {off : Int} {tgt : Nat} (hd : decode Y.2.1 pc = .ok (.if_icmp .lt off, 3)) (ht : (pc : Int) + off = (tgt : Int)) (hc : ¬ x < y) (k : Z l E ms σ0 Y d mc sl (pc + 3) lv st cu su σ code G) : Z l E ms σ0 Y d mc sl pc lv (.int y :: .int x :: st) cu su σ code G :=
  fun u r σ' h1 h2 p e s m args below meth c H locs ls C HW hl => lv_icmp_lt C.1 C.2.1 hd ht (fun h => absurd h hc) (fun _ => k u r σ' h1 h2 p e s m args below meth c H locs ls C HW hl)
theorem z_ic_ge {x y : Int32} {off : Int} {tgt : Nat} (hd : decode Y.2.1 pc = .ok (.if_icmp .ge off, 3)) (ht : (pc : Int) + off = (tgt : Int)) (ka : y ≤ x → Z l E ms σ0 Y d mc sl tgt lv st cu su σ A G) (kb : ¬ y ≤ x → Z l E ms σ0 Y d mc sl (pc + 3) lv st cu su σ B G) : Z l E ms σ0 Y d mc sl pc lv (.int y :: .int x :: st) cu su σ (if y ≤ x then A else B) G := by
  intro u r σ' h1 h2 p e s m args below meth c H locs ls C HW hl
  exact lv_icmp_ge C.1 C.2.1 hd ht (fun hc => ka hc u r σ' (by rw [if_pos hc] at h1; exact h1) h2 p e s m args below meth c H locs ls C HW hl) (fun hc => kb hc u r σ' (by rw [if_neg hc] at h1; exact h1) h2 p e s m args below meth c H locs ls C HW hl)
theorem z_ic_ge_t {x y : Int32} {off : Int} {tgt : Nat} (hd : decode Y.2.1 pc = .ok (.if_icmp .ge off, 3)) (ht : (pc : Int) + off = (tgt : Int)) (hc : y ≤ x) (k : Z l E ms σ0 Y d mc sl tgt lv st cu su σ code G) : Z l E ms σ0 Y d mc sl pc lv (.int y :: .int x :: st) cu su σ code G :=
  fun u r σ' h1 h2 p e s m args below meth c H locs ls C HW hl => lv_icmp_ge C.1 C.2.1 hd ht (fun _ => k u r σ' h1 h2 p e s m args below meth c H locs ls C HW hl) (fun h => absurd hc h)
theorem z_ic_ge_f {x y : Int32} {off : Int} {tgt : Nat} (hd : decode Y.2.1 pc = .ok (.if_icmp .ge off, 3)) (ht : (pc : Int) + off = (tgt : Int)) (hc : ¬ y ≤ x) (k : Z l E ms σ0 Y d mc sl (pc + 3) lv st cu su σ code G) : Z l E ms σ0 Y d mc sl pc lv (.int y :: .int x :: st) cu su σ code G :=
  fun u r σ' h1 h2 p e s m args below meth c H locs ls C HW hl => lv_icmp_ge C.1 C.2.1 hd ht (fun h => absurd h hc) (fun _ => k u r σ' h1 h2 p e s m args below meth c H locs ls C HW hl)
theorem z_ic_gt {x y : Int32} {off : Int} {tgt : Nat} (hd : decode Y.2.1 pc = .ok (.if_icmp .gt off, 3)) (ht : (pc : Int) + off = (tgt : Int)) (ka : y < x → Z l E ms σ0 Y d mc sl tgt lv st cu su σ A G) (kb : ¬ y < x → Z l E ms σ0 Y d mc sl (pc + 3) lv st cu su σ B G) : Z l E ms σ0 Y d mc sl pc lv (.int y :: .int x :: st) cu su σ (if y < x then A else B) G := by
  intro u r σ' h1 h2 p e s m args below meth c H locs ls C HW hl
  exact lv_icmp_gt C.1 C.2.1 hd ht (fun hc => ka hc u r σ' (by rw [if_pos hc] at h1; exact h1) h2 p e s m args below meth c H locs ls C HW hl) (fun hc => kb hc u r σ' (by rw [if_neg hc] at h1; exact h1) h2 p e s m args below meth c H locs ls C HW hl)
theorem z_ic_gt_t {x y : Int32} {off : Int} {tgt : Nat} (hd : decode Y.2.1 pc = .ok (.if_icmp .gt off, 3)) (ht : (pc : Int) + off = (tgt : Int)) (hc : y < x) (k : Z l E ms σ0 Y d mc sl tgt lv st cu su σ code G) : Z l E ms σ0 Y d mc sl pc lv (.int y :: .int x :: st) cu su σ code G :=
  fun u r σ' h1 h2 p e s m args below meth c H locs ls C HW hl => lv_icmp_gt C.1 C.2.1 hd ht (fun _ => k u r σ' h1 h2 p e s m args below meth c H locs ls C HW hl) (fun h => absurd hc h)
theorem z_ic_gt_f {x y : Int32} {off : Int} {tgt : Nat} (hd : decode Y.2.1 pc = .ok (.if_icmp .gt off, 3)) (ht : (pc : Int) + off = (tgt : Int)) (hc : ¬ y < x) (k : Z l E ms σ0 Y d mc sl (pc + 3) lv st cu su σ code G) : Z l E ms σ0 Y d mc sl pc lv (.int y :: .int x :: st) cu su σ code G :=
  fun u r σ' h1 h2 p e s m args below meth c H locs ls C HW hl => lv_icmp_gt C.1 C.2.1 hd ht (fun h => absurd h hc) (fun _ => k u r σ' h1 h2 p e s m args below meth c H locs ls C HW hl)
theorem z_ic_le {x y : Int32} {off : Int} {tgt : Nat} (hd : decode Y.2.1 pc = .ok (.if_icmp .le off, 3)) (ht : (pc : Int) + off = (tgt : Int)) (ka : x ≤ y → Z l E ms σ0 Y d mc sl tgt lv st cu su σ A G) (kb : ¬ x ≤ y → Z l E ms σ0 Y d mc sl (pc + 3) lv st cu su σ B G) : Z l E ms σ0 Y d mc sl pc lv (.int y :: .int x :: st) cu su σ (if x ≤ y then A else B) G := by
  intro u r σ' h1 h2 p e s m args below meth c H locs ls C HW hl
  exact lv_icmp_le C.1 C.2.1 hd ht (fun hc => ka hc u r σ' (by rw [if_pos hc] at h1; exact h1) h2 p e s m args below meth c H locs ls C HW hl) (fun hc => kb hc u r σ' (by rw [if_neg hc] at h1; exact h1) h2 p e s m args below meth c H locs ls C HW hl)
theorem z_ic_le_t {x y : Int32} {off : Int} {tgt : Nat} (hd : decode Y.2.1 pc = .ok (.if_icmp .le off, 3)) (ht : (pc : Int) + off = (tgt : Int)) (hc : x ≤ y) (k : Z l E ms σ0 Y d mc sl tgt lv st cu su σ code G) : Z l E ms σ0 Y d mc sl pc lv (.int y :: .int x :: st) cu su σ code G :=
  fun u r σ' h1 h2 p e s m args below meth c H locs ls C HW hl => lv_icmp_le C.1 C.2.1 hd ht (fun _ => k u r σ' h1 h2 p e s m args below meth c H locs ls C HW hl) (fun h => absurd hc h)
theorem z_ic_le_f {x y : Int32} {off : Int} {tgt : Nat} (hd : decode Y.2.1 pc = .ok (.if_icmp .le off, 3)) (ht : (pc : Int) + off = (tgt : Int)) (hc : ¬ x ≤ y) (k : Z l E ms σ0 Y d mc sl (pc + 3) lv st cu su σ code G) : Z l E ms σ0 Y d mc sl pc lv (.int y :: .int x :: st) cu su σ code G :=
  fun u r σ' h1 h2 p e s m args below meth c H locs ls C HW hl => lv_icmp_le C.1 C.2.1 hd ht (fun h => absurd h hc) (fun _ => k u r σ' h1 h2 p e s m args below meth c H locs ls C HW hl)
theorem z_bz_eq {b : Bool} {off : Int} {tgt : Nat} (hd : decode Y.2.1 pc = .ok (.ifCond .eq off, 3)) (ht : (pc : Int) + off = (tgt : Int)) (ka : b = true → Z l E ms σ0 Y d mc sl (pc + 3) lv st cu su σ A G) (kb : ¬ b = true → Z l E ms σ0 Y d mc sl tgt lv st cu su σ B G) : Z l E ms σ0 Y d mc sl pc lv (.int (bI b) :: st) cu su σ (if b = true then A else B) G := by
  intro u r σ' h1 h2 p e s m args below meth c H locs ls C HW hl
  cases b with
  | true => exact lv_if_eq C.1 C.2.1 hd ht (fun hc => absurd hc (by decide)) (fun _ => ka rfl u r σ' (by rw [if_pos rfl] at h1; exact h1) h2 p e s m args below meth c H locs ls C HW hl)
  | false => exact lv_if_eq C.1 C.2.1 hd ht (fun _ => kb (by decide) u r σ' (by rw [if_neg (by decide)] at h1; exact h1) h2 p e s m args below meth c H locs ls C HW hl) (fun hc => absurd rfl hc)
theorem z_bz_ne {b : Bool} {off : Int} {tgt : Nat} (hd : decode Y.2.1 pc = .ok (.ifCond .ne off, 3)) (ht : (pc : Int) + off = (tgt : Int)) (ka : b = true → Z l E ms σ0 Y d mc sl tgt lv st cu su σ A G) (kb : ¬ b = true → Z l E ms σ0 Y d mc sl (pc + 3) lv st cu su σ B G) : Z l E ms σ0 Y d mc sl pc lv (.int (bI b) :: st) cu su σ (if b = true then A else B) G := by
  intro u r σ' h1 h2 p e s m args below meth c H locs ls C HW hl
  cases b with
  | true => exact lv_if_ne C.1 C.2.1 hd ht (fun _ => ka rfl u r σ' (by rw [if_pos rfl] at h1; exact h1) h2 p e s m args below meth c H locs ls C HW hl) (fun hc => absurd hc (by decide))
  | false => exact lv_if_ne C.1 C.2.1 hd ht (fun hc => absurd rfl hc) (fun _ => kb (by decide) u r σ' (by rw [if_neg (by decide)] at h1; exact h1) h2 p e s m args below meth c H locs ls C HW hl)
theorem z_goto {off : Int} {tgt : Nat} (hd : decode Y.2.1 pc = .ok (.goto off, 3)) (ht : (pc : Int) + off = (tgt : Int)) (k : Z l E ms σ0 Y d mc sl tgt lv st cu su σ code G) : Z l E ms σ0 Y d mc sl pc lv st cu su σ code G :=
  fun u r σ' h1 h2 p e s m args below meth c H locs ls C HW hl => lv_goto C.1 C.2.1 hd ht (k u r σ' h1 h2 p e s m args below meth c H locs ls C HW hl)
theorem z_ifnull {x : Nat} {off : Int} (hd : decode Y.2.1 pc = .ok (.ifnull off, 3)) (k : Z l E ms σ0 Y d mc sl (pc + 3) lv st cu su σ code G) : Z l E ms σ0 Y d mc sl pc lv (.ref x :: st) cu su σ code G :=
  fun u r σ' h1 h2 p e s m args below meth c H locs ls C HW hl => lv_ifnull C.1 C.2.1 hd (k u r σ' h1 h2 p e s m args below meth c H locs ls C HW hl)
theorem z_ifnonnull {x : Nat} {off : Int} {tgt : Nat} (hd : decode Y.2.1 pc = .ok (.ifnonnull off, 3)) (ht : (pc : Int) + off = (tgt : Int)) (k : Z l E ms σ0 Y d mc sl tgt lv st cu su σ code G) : Z l E ms σ0 Y d mc sl pc lv (.ref x :: st) cu su σ code G :=
  fun u r σ' h1 h2 p e s m args below meth c H locs ls C HW hl => lv_ifnonnull C.1 C.2.1 hd ht (k u r σ' h1 h2 p e s m args below meth c H locs ls C HW hl)
theorem z_ifnullN {off : Int} {tgt : Nat} (hd : decode Y.2.1 pc = .ok (.ifnull off, 3)) (ht : (pc : Int) + off = (tgt : Int)) (k : Z l E ms σ0 Y d mc sl tgt lv st cu su σ code G) : Z l E ms σ0 Y d mc sl pc lv (.null :: st) cu su σ code G :=
  fun u r σ' h1 h2 p e s m args below meth c H locs ls C HW hl => lv_ifnullN C.1 C.2.1 hd ht (k u r σ' h1 h2 p e s m args below meth c H locs ls C HW hl)
theorem z_ifnonnullN {off : Int} (hd : decode Y.2.1 pc = .ok (.ifnonnull off, 3)) (k : Z l E ms σ0 Y d mc sl (pc + 3) lv st cu su σ code G) : Z l E ms σ0 Y d mc sl pc lv (.null :: st) cu su σ code G :=
  fun u r σ' h1 h2 p e s m args below meth c H locs ls C HW hl => lv_ifnonnullN C.1 C.2.1 hd (k u r σ' h1 h2 p e s m args below meth c H locs ls C HW hl)
theorem z_tsIn {dflt lo hi : Int} {offs : Array Int} {len : Nat} {x : Int32} {off : Int} {tgt : Nat} (hd : decode Y.2.1 pc = .ok (.tableswitch dflt lo hi offs, len)) (h1 : ¬ x.toInt < lo) (h2 : ¬ hi < x.toInt) (ho : offs[(x.toInt - lo).toNat]? = some off) (ht : (pc : Int) + off = (tgt : Int)) (k : Z l E ms σ0 Y d mc sl tgt lv st cu su σ code G) : Z l E ms σ0 Y d mc sl pc lv (.int x :: st) cu su σ code G :=
  fun u r σ' h3 h4 p e s m args below meth c H locs ls C HW hl => lv_tableIn C.1 C.2.1 hd h1 h2 ho ht (k u r σ' h3 h4 p e s m args below meth c H locs ls C HW hl)
theorem z_tsOut {dflt lo hi : Int} {offs : Array Int} {len : Nat} {x : Int32} {tgt : Nat} (hd : decode Y.2.1 pc = .ok (.tableswitch dflt lo hi offs, len)) (h : x.toInt < lo ∨ hi < x.toInt) (ht : (pc : Int) + dflt = (tgt : Int)) (k : Z l E ms σ0 Y d mc sl tgt lv st cu su σ code G) : Z l E ms σ0 Y d mc sl pc lv (.int x :: st) cu su σ code G :=
  fun u r σ' h1 h2 p e s m args below meth c H locs ls C HW hl => lv_tableOut C.1 C.2.1 hd h ht (k u r σ' h1 h2 p e s m args below meth c H locs ls C HW hl)
theorem z_lookup {dflt : Int} {ps : Array (Int × Int)} {len : Nat} {x : Int32} {off : Int} {tgt : Nat} (hd : decode Y.2.1 pc = .ok (.lookupswitch dflt ps, len)) (hp : (ps.toList.zip (ps.toList.drop 1)).all (fun (a, next) => a.1 < next.1) = true) (ho : Op.lookupswitch.offset ps.toList dflt x.toInt = off) (ht : (pc : Int) + off = (tgt : Int)) (k : Z l E ms σ0 Y d mc sl tgt lv st cu su σ code G) : Z l E ms σ0 Y d mc sl pc lv (.int x :: st) cu su σ code G :=
  fun u r σ' h1 h2 p e s m args below meth c H locs ls C HW hl => lv_lookup C.1 C.2.1 hd hp ho ht (k u r σ' h1 h2 p e s m args below meth c H locs ls C HW hl)
theorem z_iret {v : Int32} (hd : decode Y.2.1 pc = .ok (.ireturn, 1)) (ht : Y.2.2.2 = some .int) (hG : ∀ u, code = some u → ∀ r σ', G u r σ' → r = some (.int v) ∧ σ' = σ) (hm : cu ≤ mc ∧ su ≤ sl) : Z l E ms σ0 Y d mc sl pc lv ([.int v]) cu su σ code G := by
  intro u r σ' h1 h2 p e s m args below meth c H locs ls C HW hl
  obtain ⟨rfl, rfl⟩ := hG u h1 r σ' h2
  obtain ⟨hx, hb, hr, hml, hown, hts, hlocks, hnm, hK⟩ := C
  obtain ⟨hW, hS, hk1, hk2⟩ := HW
  refine W.widen hm.1 hm.2 ?_
  exact W.iret hx hb (hr.trans ht) (fun t ht hWm => ⟨rfl, by rw [ht]; exact hW, hS.F ht, hk2⟩) hS.2.2 hd
theorem z_zret {v : Int32} {ty : FieldType} (hd : decode Y.2.1 pc = .ok (.ireturn, 1)) (ht : Y.2.2.2 = some ty) (hn : narrow ty (.int v) = .int v) (hG : ∀ u, code = some u → ∀ r σ', G u r σ' → r = some (.int v) ∧ σ' = σ) (hm : cu ≤ mc ∧ su ≤ sl) : Z l E ms σ0 Y d mc sl pc lv ([.int v]) cu su σ code G := by
  intro u r σ' h1 h2 p e s m args below meth c H locs ls C HW hl
  obtain ⟨rfl, rfl⟩ := hG u h1 r σ' h2
  obtain ⟨hx, hb, hr, hml, hown, hts, hlocks, hnm, hK⟩ := C
  obtain ⟨hW, hS, hk1, hk2⟩ := HW
  refine W.widen hm.1 hm.2 ?_
  exact W.zret hx hb (hr.trans ht) hn (fun t ht hWm => ⟨rfl, by rw [ht]; exact hW, hS.F ht, hk2⟩) hS.2.2 hd
theorem z_vret (hd : decode Y.2.1 pc = .ok (.return_, 1)) (ht : Y.2.2.2 = none) (hG : ∀ u, code = some u → ∀ r σ', G u r σ' → r = none ∧ σ' = σ) (hm : cu ≤ mc ∧ su ≤ sl) : Z l E ms σ0 Y d mc sl pc lv ([]) cu su σ code G := by
  intro u r σ' h1 h2 p e s m args below meth c H locs ls C HW hl
  obtain ⟨rfl, rfl⟩ := hG u h1 r σ' h2
  obtain ⟨hx, hb, hr, hml, hown, hts, hlocks, hnm, hK⟩ := C
  obtain ⟨hW, hS, hk1, hk2⟩ := HW
  refine W.widen hm.1 hm.2 ?_
  exact W.vret hx hb (hr.trans ht) (fun t ht hWm => ⟨rfl, by rw [ht]; exact hW, hS.F ht, hk2⟩) hS.2.2 hd
theorem z_lret {v : Int64} (hd : decode Y.2.1 pc = .ok (.lreturn, 1)) (ht : Y.2.2.2 = some .long) (hG : ∀ u, code = some u → ∀ r σ', G u r σ' → r = some (.long v) ∧ σ' = σ) (hm : cu ≤ mc ∧ su ≤ sl) : Z l E ms σ0 Y d mc sl pc lv ([.long v]) cu su σ code G := by
  intro u r σ' h1 h2 p e s m args below meth c H locs ls C HW hl
  obtain ⟨rfl, rfl⟩ := hG u h1 r σ' h2
  obtain ⟨hx, hb, hr, hml, hown, hts, hlocks, hnm, hK⟩ := C
  obtain ⟨hW, hS, hk1, hk2⟩ := HW
  refine W.widen hm.1 hm.2 ?_
  exact W.lret hx hb (hr.trans ht) (fun t ht hWm => ⟨rfl, by rw [ht]; exact hW, hS.F ht, hk2⟩) hS.2.2 hd
theorem z_aret {v : Nat} {n : String} (hd : decode Y.2.1 pc = .ok (.areturn, 1)) (ht : Y.2.2.2 = some (.object n)) (hG : ∀ u, code = some u → ∀ r σ', G u r σ' → r = some (.ref v) ∧ σ' = σ) (hm : cu ≤ mc ∧ su ≤ sl) : Z l E ms σ0 Y d mc sl pc lv ([.ref v]) cu su σ code G := by
  intro u r σ' h1 h2 p e s m args below meth c H locs ls C HW hl
  obtain ⟨rfl, rfl⟩ := hG u h1 r σ' h2
  obtain ⟨hx, hb, hr, hml, hown, hts, hlocks, hnm, hK⟩ := C
  obtain ⟨hW, hS, hk1, hk2⟩ := HW
  refine W.widen hm.1 hm.2 ?_
  exact W.aret hx hb (hr.trans ht) (Or.inl ⟨_, rfl⟩) (Or.inr ⟨_, rfl⟩) (fun t ht hWm => ⟨rfl, by rw [ht]; exact hW, hS.F ht, hk2⟩) hS.2.2 hd
theorem z_aretN {n : String} (hd : decode Y.2.1 pc = .ok (.areturn, 1)) (ht : Y.2.2.2 = some (.object n)) (hG : ∀ u, code = some u → ∀ r σ', G u r σ' → r = some (.null) ∧ σ' = σ) (hm : cu ≤ mc ∧ su ≤ sl) : Z l E ms σ0 Y d mc sl pc lv ([.null]) cu su σ code G := by
  intro u r σ' h1 h2 p e s m args below meth c H locs ls C HW hl
  obtain ⟨rfl, rfl⟩ := hG u h1 r σ' h2
  obtain ⟨hx, hb, hr, hml, hown, hts, hlocks, hnm, hK⟩ := C
  obtain ⟨hW, hS, hk1, hk2⟩ := HW
  refine W.widen hm.1 hm.2 ?_
  exact W.aret hx hb (hr.trans ht) (Or.inl ⟨_, rfl⟩) (Or.inl rfl) (fun t ht hWm => ⟨rfl, by rw [ht]; exact hW, hS.F ht, hk2⟩) hS.2.2 hd
end ZR
