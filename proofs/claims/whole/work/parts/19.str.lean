/-! STRINGS: rules -/
theorem am_ad_lt {E : am_E} {k : Nat} (h : k < 8) : am_ad E k = eX E k := if_pos h
theorem am_sS {E : am_E} {Y : am_Y} {p : Program} {s : State} {m : MethodId} {args : Array Value} {meth : Method} {c : Code} {σ : am_S} {H : Heap} (C : am_C E Y p s m args meth c) (HW : am_W E σ H) : vk_S 3 am_lens am_byts (fun i => eX E (i + 1)) (fun i => eX E (i + 4)) (am_A E) s H :=
  vk_S.kept C.2.2.2.2.2.2.2.2.2.2.2.2.2.2.1 (fun a _ h2 => HW.2.2.2.1 a (Nat.not_le.mp h2))
theorem am_str_len : ∀ b : Nat, b < 3 → am_lens.getD b 0 = (s_txt (b + 1)).length := by decide +kernel
theorem am_str_byt {b j : Nat} (hb : b < 3) (hj : j < (s_txt (b + 1)).length) : (am_byts.getD b []).getD j 0 = nI ((s_txt (b + 1)).getD j 0) := by
  have e : am_byts.getD b [] = (s_txt (b + 1)).map nI := by
    match b, hb with
    | 0, _ => rfl
    | 1, _ => rfl
    | 2, _ => rfl
  rw [e, List.getD_eq_getElem?_getD, List.getD_eq_getElem?_getD, List.getElem?_map, List.getElem?_eq_getElem hj]
  rfl
section ZS
variable {U : Type} {l : Launch} {E : am_E} {ms : List am_M} {σ0 : am_S} {Y Yc : am_Y} {d mc sl pc cu su : Nat} {lv : List (Nat × Value)} {st stk vs : List Value} {σ : am_S} {code A B : Option U} {G : U → Option Value → am_S → Prop} {idx n : Nat}
theorem z_ldcS {a : Nat} (hd : decode Y.2.1 pc = .ok (.ldc idx, 2)) (hs : am_strAt Y.1.cls idx a) (k : Z l E ms σ0 Y d mc sl (pc + 2) lv (.ref a :: st) cu su σ code G) : Z l E ms σ0 Y d mc sl pc lv st cu su σ code G := by
  intro u r σ' h1 h2 p e s m args below meth c H locs ls C HW hl
  have ha : a < 8 := by rcases hs with ⟨-, -, rfl⟩ | ⟨-, -, rfl⟩ | ⟨-, -, rfl⟩ <;> decide
  have kk := k u r σ' h1 h2 p e s m args below meth c H locs ls C HW hl
  rw [List.map_cons, am_tv_ref, am_ad_lt ha] at kk
  exact va_ldcS C.1 C.2.1 C.2.2.2.2.1 (C.2.2.2.2.2.2.2.2.2.2.2.2.2.2.2.1 _ _ _ hs) hd kk
theorem z_sval {a : Nat} (ha : 1 ≤ a ∧ a ≤ 3) (hd : decode Y.2.1 pc = .ok (.getfield idx, 3)) (w : Cond.fieldLink Y.1.cls idx RJ0 "value" "[B" ∈ am_gt) (k : Z l E ms σ0 Y d mc sl (pc + 3) lv (.ref (a + 3) :: st) cu su σ code G) : Z l E ms σ0 Y d mc sl pc lv (.ref a :: st) cu su σ code G := by
  intro u r σ' h1 h2 p e s m args below meth c H locs ls C HW hl
  obtain ⟨b, rfl⟩ : ∃ b, a = b + 1 := ⟨a - 1, by omega⟩
  have kk := k u r σ' h1 h2 p e s m args below meth c H locs ls C HW hl
  rw [List.map_cons, am_tv_ref, am_ad_lt (by omega)] at kk
  rw [List.map_cons, am_tv_ref, am_ad_lt (by omega)]
  obtain ⟨-, -, ⟨cf, k', fi, f, cell, g1, g2, g3, g4, g5, -⟩, -⟩ := (am_sS C HW.1).1 b (by omega)
  exact W.getf C.1 C.2.1 C.2.2.2.2.1 (C.2.2.2.2.2.1 _ w) g1 g2 g3 g4 (v := .ref (eX E (b + 4))) g5 rfl rfl hd kk
theorem z_scod {a : Nat} (ha : 1 ≤ a ∧ a ≤ 3) (hd : decode Y.2.1 pc = .ok (.getfield idx, 3)) (w : Cond.fieldLink Y.1.cls idx RJ0 "coder" "B" ∈ am_gt) (k : Z l E ms σ0 Y d mc sl (pc + 3) lv (.int (0 : Int32) :: st) cu su σ code G) : Z l E ms σ0 Y d mc sl pc lv (.ref a :: st) cu su σ code G := by
  intro u r σ' h1 h2 p e s m args below meth c H locs ls C HW hl
  obtain ⟨b, rfl⟩ : ∃ b, a = b + 1 := ⟨a - 1, by omega⟩
  have kk := k u r σ' h1 h2 p e s m args below meth c H locs ls C HW hl
  rw [List.map_cons, am_tv_ref, am_ad_lt (by omega)]
  obtain ⟨-, ⟨cf, k', fi, f, cell, g1, g2, g3, g4, g5, -⟩, -, -⟩ := (am_sS C HW.1).1 b (by omega)
  exact W.getf C.1 C.2.1 C.2.2.2.2.1 (C.2.2.2.2.2.1 _ w) g1 g2 g3 g4 (v := .int 0) g5 rfl rfl hd kk
theorem am_gZ {E : am_E} {Y : am_Y} {p : Program} {l : Launch} {e : Env} {R : Room} {s : State} {m : MethodId} {args : Array Value} {below : List Frame} {meth : Method} {c : Code} {H : Heap} {locs : List Loc} {ls : Array Slot} {cells slots : Nat} {Q : State → Prop} {pc idx : Nat} {rest : List Value} {v : Value} {N0 D0 C0 : String} {σ : am_S} (C : am_C E Y p s m args meth c) (HW : am_W E σ H) (hZ : va_Z C0 N0 D0 v (am_A E) s (eH E)) (hd : decode Y.2.1 pc = .ok (.getstatic idx, 3)) (w : Cond.fieldLink Y.1.cls idx C0 N0 D0 ∈ am_gt)
    (kk : W p l e R s m args below meth c H locs cells slots Q (F0 m (pc + 3) ls (v :: rest))) : W p l e R s m args below meth c H locs cells slots Q (F0 m pc ls rest) := by
  obtain ⟨cf, kf, fi, f, a, cell, g1, g2, g3, g4, g5, g6, g7, g8⟩ := hZ.kept (H1 := H) (fun a _ h2 => HW.2.2.2.1 a (Nat.not_le.mp h2))
  exact W.gets C.1 C.2.1 C.2.2.2.2.1 (C.2.2.2.2.2.1 _ w) g1 g2 g3 g4 g5 (fun e => by rw [e] at g6; cases g6) g7 rfl hd kk
theorem z_sgZ (hd : decode Y.2.1 pc = .ok (.getstatic idx, 3)) (w : Cond.fieldLink Y.1.cls idx RJ0 "COMPACT_STRINGS" "Z" ∈ am_gt) (k : Z l E ms σ0 Y d mc sl (pc + 3) lv (.int (1 : Int32) :: st) cu su σ code G) : Z l E ms σ0 Y d mc sl pc lv st cu su σ code G := by
  intro u r σ' h1 h2 p e s m args below meth c H locs ls C HW hl
  exact am_gZ C HW.1 C.2.2.2.2.2.2.2.2.2.2.2.2.2.2.2.2.1 hd w (k u r σ' h1 h2 p e s m args below meth c H locs ls C HW hl)
theorem z_sgQ (hd : decode Y.2.1 pc = .ok (.getstatic idx, 3)) (w : Cond.fieldLink Y.1.cls idx RJ3 am_SIO "Ljava/util/function/BiFunction;" ∈ am_gt) (k : ∀ w : Value, w = .null ∨ w = .ref 7 → Z l E ms σ0 Y d mc sl (pc + 3) lv (w :: st) cu su σ code G) : Z l E ms σ0 Y d mc sl pc lv st cu su σ code G := by
  intro u r σ' h1 h2 p e s m args below meth c H locs ls C HW hl
  rcases C.2.2.2.2.2.2.2.2.2.2.2.2.2.2.2.2.2 with hz | hz
  · exact am_gZ C HW.1 hz hd w (k .null (Or.inl rfl) u r σ' h1 h2 p e s m args below meth c H locs ls C HW hl)
  · have kk := k (.ref 7) (Or.inr rfl) u r σ' h1 h2 p e s m args below meth c H locs ls C HW hl
    rw [List.map_cons, am_tv_ref, am_ad_lt (by omega)] at kk
    exact am_gZ C HW.1 hz hd w kk
theorem z_blen {a : Nat} (ha : 1 ≤ a ∧ a ≤ 3) (hd : decode Y.2.1 pc = .ok (.arraylength, 1)) (k : Z l E ms σ0 Y d mc sl (pc + 1) lv (.int (nI (s_txt a).length) :: st) cu su σ code G) : Z l E ms σ0 Y d mc sl pc lv (.ref (a + 3) :: st) cu su σ code G := by
  intro u r σ' h1 h2 p e s m args below meth c H locs ls C HW hl
  obtain ⟨b, rfl⟩ : ∃ b, a = b + 1 := ⟨a - 1, by omega⟩
  have kk := k u r σ' h1 h2 p e s m args below meth c H locs ls C HW hl
  rw [List.map_cons, am_tv_ref, am_ad_lt (by omega)]
  obtain ⟨-, -, -, ⟨cell, g1, g2, g3, g4, g5, g6, g7⟩⟩ := (am_sS C HW.1).1 b (by omega)
  rw [am_str_len b (by omega)] at g5
  exact W.alen (n := nI (s_txt (b + 1)).length) C.1 C.2.1 g1 g2 g5 rfl rfl hd kk
theorem z_bbld {a : Nat} {i : Int32} (ha : 1 ≤ a ∧ a ≤ 3) (hi : am_in i (s_txt a).length = true) (hd : decode Y.2.1 pc = .ok (.baload, 1)) (k : Z l E ms σ0 Y d mc sl (pc + 1) lv (.int (nI ((s_txt a).getD i.toNatClampNeg 0)) :: st) cu su σ code G) : Z l E ms σ0 Y d mc sl pc lv (.int i :: .ref (a + 3) :: st) cu su σ code G := by
  intro u r σ' h1 h2 p e s m args below meth c H locs ls C HW hl
  obtain ⟨b, rfl⟩ : ∃ b, a = b + 1 := ⟨a - 1, by omega⟩
  have kk := k u r σ' h1 h2 p e s m args below meth c H locs ls C HW hl
  rw [List.map_cons, List.map_cons, am_tv_ref, am_ad_lt (by omega)]
  obtain ⟨-, -, -, ⟨cell, g1, g2, g3, g4, g5, g6, g7⟩⟩ := (am_sS C HW.1).1 b (by omega)
  obtain ⟨i1, i2⟩ := am_vpin hi
  rw [am_str_len b (by omega)] at g4 g6
  have hin : ¬ (i < 0 ∨ cell.slots.size ≤ i.toNatClampNeg) := by
    intro q
    rcases q with q | q
    · exact i1 (Or.inl q)
    · omega
  exact W.bald (v := .int (nI ((s_txt (b + 1)).getD i.toNatClampNeg 0))) C.1 C.2.1 g1 g2 g3 hin (by rw [g6 _ i2]; exact congrArg (fun z => some (Value.int z)) (am_str_byt (by omega) i2)) rfl rfl hd kk
theorem lk_str {a : Nat} {As : List Value} (hd : decode Y.2.1 pc = .ok (.invokevirtual idx, 3)) (hv : vs = .ref a :: As) (hn : As.length = n) (hp : am_np Yc.1.desc n) (ha : 1 ≤ a ∧ a ≤ 3) (hqy : Yc.1.cls = RJ0) (hy : am_noMH Yc.1.cls) (hL : Yc.2.2.1 ≤ 45) (w1 : Cond.methodLink Y.1.cls idx Yc.1 ∈ am_gt) (w2 : Cond.instanceMethod Yc.1 ∈ am_gt) (w3 : Cond.selects RJ0 Yc.1 Yc.1 ∈ am_gt) (w5 : Cond.initialized RJ0 ∈ am_gt) (w4 : am_code Yc ∈ am_gt) : LK l E ms Y pc Yc vs σ := by
  intro d d' mc sl mc' sl' cu su Pc Qc p e s m args below meth c H locs ls st hdd C hW hk hsz hmc hsl hro hM hB hP
  subst hv
  obtain ⟨b, rfl⟩ : ∃ b, a = b + 1 := ⟨a - 1, by omega⟩
  have hr : ∃ cell : Cell, H[am_ad E (b + 1)]? = some cell ∧ cell.vm.isStatics = false ∧ s.vm.findClass RJ0 = some cell.cls := by
    rw [am_ad_lt (by omega)]
    obtain ⟨cell, g1, g2, g3, -⟩ := ((am_sS C hW).1 b (by omega)).1
    exact ⟨cell, g1, g2, g3⟩
  exact va_runV (b := am_ad E (b + 1)) (As := As.map (am_tv E)) ⟨C.1, C.2.1, C.2.2.2.1, C.2.2.2.2.1, C.2.2.2.2.2.1⟩ hM (cwV n C.2.2.2.2.2.1 (am_good [_, _, _, _] (by intro w hw; simp only [List.mem_cons, List.not_mem_nil, or_false] at hw; rcases hw with rfl | rfl | rfl | rfl <;> assumption) Yc w4) rfl rfl rfl ⟨hqy, hy.1, hy.2, hp⟩ (am_rmR hdd hL)) ⟨hB, hr, hP⟩ rfl (by rw [List.length_map]; exact hn) hsz (by rw [am_tv_rev]; simp [am_tv]) (lv_room (by rw [am_cat_sum]; exact hro)) hd ⟨hmc, hsl⟩
end ZS
