/-! RULES OF Z: calls -/
theorem am_tv_rev (E : am_E) (vs st : List Value) : (vs.reverse ++ st).map (am_tv E) = (vs.map (am_tv E)).reverse ++ st.map (am_tv E) := by rw [List.map_append, List.map_reverse]
theorem am_cat_sum (E : am_E) (st : List Value) : ((st.map (am_tv E)).map fun v => v.category) = st.map fun v => v.category := by
  rw [List.map_map]
  congr 1
  funext v
  exact am_tv_cat E v
/-- a call: with the callee's contract, the machine's own call -/
def LK (l : Launch) (E : am_E) (ms : List am_M) (Y : am_Y) (pc : Nat) (Yc : am_Y) (vs : List Value) (σ : am_S) : Prop :=
  ∀ (d d' mc sl mc' sl' cu su : Nat) (Pc : Array Value → State → Prop) (Qc : Array Value → State → Outcome → State → Prop) (p : Program) (e : Env) (s : State) (m : MethodId) (args : Array Value) (below : List Frame) (meth : Method) (c : Code) (H : Heap) (locs : List Loc) (ls : Array Slot) (st : List Value),
    d' + 1 ≤ d → am_C E Y p s m args meth c → am_W E σ H → am_kp ms σ.1 → ls.size = Y.2.2.1 → cu + mc' ≤ mc → su + sl' ≤ sl → (st.map fun v => v.category).sum ≤ 8 →
    Met l Yc.1 (am_ws Yc) (am_rm d' mc' sl') Pc Qc mc' sl' (am_A E) → FrameBlind Pc → (∀ U : State, U.heap = H → s.WarmedH U.vm → Pc (vs.map (am_tv E)).toArray U) →
    va_Run p l e (am_rm d mc sl) s m args below meth c H locs cu su mc' sl' (F0 m pc ls ((vs.reverse ++ st).map (am_tv E))) (st.map (am_tv E)) (Qc (vs.map (am_tv E)).toArray) (am_A E)
theorem am_good (ws : List Cond) (h : ∀ w ∈ ws, w ∈ am_gt) (Yc : am_Y) (hc : am_code Yc ∈ am_gt) : GoodIn am_gt (ws ++ am_ws Yc) := by
  intro w hw
  have hin : w ∈ am_gt := by
    rcases List.mem_append.mp hw with h1 | h1
    · exact h w h1
    · rcases List.mem_cons.mp h1 with rfl | h2
      · exact hc
      · exact h2
  exact ⟨hin, good_of_word (List.mem_filter.mp hin).2⟩
theorem am_rmR {d d' mc sl mc' sl' maxL : Nat} (hd : d' + 1 ≤ d) (hL : maxL ≤ 45) : (am_rm d' mc' sl').frames + 1 ≤ (am_rm d mc sl).frames ∧ 8 + (maxL + 11) + (am_rm d' mc' sl').locals ≤ (am_rm d mc sl).locals := ⟨hd, by show 8 + (maxL + 11) + 64 * d' ≤ 64 * d; omega⟩
abbrev am_noMH (c : String) : Prop := c ≠ "java/lang/invoke/MethodHandle" ∧ c ≠ "java/lang/invoke/VarHandle"
abbrev am_np (desc : String) (n : Nat) : Prop := (parseMethodDescriptor desc).map (fun d => d.parameters.length) = some n
section ZC
variable {U : Type} {l : Launch} {E : am_E} {ms : List am_M} {σ0 : am_S} {Y Yc : am_Y} {d mc sl pc cu su : Nat} {lv : List (Nat × Value)} {st stk vs : List Value} {σ : am_S} {code : Option U} {G : U → Option Value → am_S → Prop} {idx n : Nat}
/-- a static method -/
theorem lk_S (hd : decode Y.2.1 pc = .ok (.invokestatic idx, 3)) (hn : vs.length = n) (hp : am_np Yc.1.desc n) (hy : am_noMH Yc.1.cls) (hL : Yc.2.2.1 ≤ 45) (w1 : Cond.methodLink Y.1.cls idx Yc.1 ∈ am_gt) (w2 : Cond.static Yc.1 ∈ am_gt) (w3 : Cond.initialized Yc.1.cls ∈ am_gt) (w4 : am_code Yc ∈ am_gt) : LK l E ms Y pc Yc vs σ := by
  intro d d' mc sl mc' sl' cu su Pc Qc p e s m args below meth c H locs ls st hdd C hW hk hsz hmc hsl hro hM hB hP
  exact va_runS ⟨C.1, C.2.1, C.2.2.2.1, C.2.2.2.2.1, C.2.2.2.2.2.1⟩ hM (va_cwS n C.2.2.2.2.2.1 (am_good [_, _, _] (by intro w hw; simp only [List.mem_cons, List.not_mem_nil, or_false] at hw; rcases hw with rfl | rfl | rfl <;> assumption) Yc w4) rfl rfl rfl ⟨hy.1, hy.2, hp⟩ (am_rmR hdd hL)) ⟨hB, hP⟩ rfl (by rw [List.length_map]; exact hn) hsz (am_tv_rev E vs st) (lv_room (by rw [am_cat_sum]; exact hro)) hd ⟨hmc, hsl⟩
/-- the receiver of a call -/
theorem am_recv {a ci : Nat} {q : vw_C} {s : State} {H : Heap} (hm : am_ob ms σ a ci) (hq : am_cls[ci]? = some q) (hW : am_W E σ H) (hk : am_kp ms σ.1) (hK : am_K E s) : ∃ cell : Cell, H[am_ad E a]? = some cell ∧ cell.vm.isStatics = false ∧ s.vm.findClass q.1 = some cell.cls := by
  obtain ⟨refs, hr⟩ := hm.use hk
  obtain ⟨q', hc', cell, q1, q2, q3, -⟩ := hW.2.2.1 a _ (hW.ge8 hr (by intro h; cases h)) hr
  cases hq.symm.trans hc'
  exact ⟨cell, q1, by rw [q3]; rfl, by rw [q2]; exact (hK.1.1 ci q hq).2.1⟩
/-- a virtual call whose method is the receiver's own (or private) -/
theorem lk_V {a ci : Nat} {q : vw_C} {As : List Value} (hd : decode Y.2.1 pc = .ok (.invokevirtual idx, 3)) (hv : vs = .ref a :: As) (hn : As.length = n) (hm : am_ob ms σ a ci) (hq : am_cls[ci]? = some q) (hqy : Yc.1.cls = q.1) (hp : am_np Yc.1.desc n) (hy : am_noMH Yc.1.cls) (hL : Yc.2.2.1 ≤ 45)
    (w1 : Cond.methodLink Y.1.cls idx Yc.1 ∈ am_gt) (w2 : Cond.instanceMethod Yc.1 ∈ am_gt) (w3 : Cond.selects q.1 Yc.1 Yc.1 ∈ am_gt) (w5 : Cond.initialized q.1 ∈ am_gt) (w4 : am_code Yc ∈ am_gt) : LK l E ms Y pc Yc vs σ := by
  intro d d' mc sl mc' sl' cu su Pc Qc p e s m args below meth c H locs ls st hdd C hW hk hsz hmc hsl hro hM hB hP
  subst hv
  exact va_runV (b := am_ad E a) (As := As.map (am_tv E)) ⟨C.1, C.2.1, C.2.2.2.1, C.2.2.2.2.1, C.2.2.2.2.2.1⟩ hM (cwV n C.2.2.2.2.2.1 (am_good [_, _, _, _] (by intro w hw; simp only [List.mem_cons, List.not_mem_nil, or_false] at hw; rcases hw with rfl | rfl | rfl | rfl <;> assumption) Yc w4) rfl rfl rfl ⟨hqy, hy.1, hy.2, hp⟩ (am_rmR hdd hL)) ⟨hB, am_recv hm hq hW hk C.2.2.2.2.2.2.2.2, hP⟩ rfl (by rw [List.length_map]; exact hn) hsz (by rw [am_tv_rev]; simp [am_tv]) (lv_room (by rw [am_cat_sum]; exact hro)) hd ⟨hmc, hsl⟩
/-- a virtual call by an inherited name: x is named, y is run -/
theorem lk_U {a ci : Nat} {q : vw_C} {As : List Value} {x : MethodName} (owner : String) (hd : decode Y.2.1 pc = .ok (.invokevirtual idx, 3)) (hv : vs = .ref a :: As) (hn : As.length = n) (hm : am_ob ms σ a ci) (hq : am_cls[ci]? = some q) (hyx : Yc.1 = ⟨owner, x.name, x.desc⟩) (hp : am_np x.desc n) (hy : am_noMH owner) (hL : Yc.2.2.1 ≤ 45)
    (w1 : Cond.methodLink Y.1.cls idx x ∈ am_gt) (w6 : Cond.sameMethod x.cls owner x.name x.desc ∈ am_gt) (w3 : Cond.selects q.1 x Yc.1 ∈ am_gt) (w2 : Cond.instanceMethod Yc.1 ∈ am_gt) (w5 : Cond.initialized Yc.1.cls ∈ am_gt) (w4 : am_code Yc ∈ am_gt) : LK l E ms Y pc Yc vs σ := by
  intro d d' mc sl mc' sl' cu su Pc Qc p e s m args below meth c H locs ls st hdd C hW hk hsz hmc hsl hro hM hB hP
  subst hv
  exact va_runU (b := am_ad E a) (As := As.map (am_tv E)) ⟨C.1, C.2.1, C.2.2.2.1, C.2.2.2.2.1, C.2.2.2.2.2.1⟩ hM (va_cwU n C.2.2.2.2.2.1 (am_good [_, _, _, _, _] (by intro w hw; simp only [List.mem_cons, List.not_mem_nil, or_false] at hw; rcases hw with rfl | rfl | rfl | rfl | rfl <;> assumption) Yc w4) rfl rfl rfl hyx ⟨hy.1, hy.2, hp⟩ (am_rmR hdd hL)) ⟨hB, am_recv hm hq hW hk C.2.2.2.2.2.2.2.2, hP⟩ rfl (by rw [List.length_map]; exact hn) hsz (by rw [am_tv_rev]; simp [am_tv]) (lv_room (by rw [am_cat_sum]; exact hro)) hd ⟨hmc, hsl⟩
/-- .. that overrides: x's own code isn't run -/
theorem lk_O {a ci : Nat} {q : vw_C} {As : List Value} {x : MethodName} (owner : String) {Y0 : am_Y} (hd : decode Y.2.1 pc = .ok (.invokevirtual idx, 3)) (hv : vs = .ref a :: As) (hn : As.length = n) (hm : am_ob ms σ a ci) (hq : am_cls[ci]? = some q) (h0 : Y0.1 = ⟨owner, x.name, x.desc⟩) (hp : am_np x.desc n) (hy : am_noMH owner) (hL : Yc.2.2.1 ≤ 45)
    (w1 : Cond.methodLink Y.1.cls idx x ∈ am_gt) (w6 : Cond.sameMethod x.cls owner x.name x.desc ∈ am_gt) (w7 : Cond.instanceMethod Y0.1 ∈ am_gt) (w8 : am_code Y0 ∈ am_gt) (w3 : Cond.selects q.1 x Yc.1 ∈ am_gt) (w2 : Cond.instanceMethod Yc.1 ∈ am_gt) (w5 : Cond.initialized Yc.1.cls ∈ am_gt) (w4 : am_code Yc ∈ am_gt) : LK l E ms Y pc Yc vs σ := by
  intro d d' mc sl mc' sl' cu su Pc Qc p e s m args below meth c H locs ls st hdd C hW hk hsz hmc hsl hro hM hB hP
  subst hv
  have w8' : Cond.code ⟨owner, x.name, x.desc⟩ Y0.2.1 Y0.2.2.1 Y0.2.2.2 ∈ am_gt := by rw [← h0]; exact w8
  rw [h0] at w7
  exact va_runU (b := am_ad E a) (As := As.map (am_tv E)) ⟨C.1, C.2.1, C.2.2.2.1, C.2.2.2.2.1, C.2.2.2.2.2.1⟩ hM (va_cwO n C.2.2.2.2.2.1 (am_good [_, _, _, _, _, _] (by intro w hw; simp only [List.mem_cons, List.not_mem_nil, or_false] at hw; rcases hw with rfl | rfl | rfl | rfl | rfl | rfl <;> assumption) Yc w4) rfl rfl rfl w8' ⟨hy.1, hy.2, hp⟩ (am_rmR hdd hL)) ⟨hB, am_recv hm hq hW hk C.2.2.2.2.2.2.2.2, hP⟩ rfl (by rw [List.length_map]; exact hn) hsz (by rw [am_tv_rev]; simp [am_tv]) (lv_room (by rw [am_cat_sum]; exact hro)) hd ⟨hmc, hsl⟩
/-- a constructor -/
theorem lk_I {a : Nat} {As : List Value} (hd : decode Y.2.1 pc = .ok (.invokespecial idx, 3)) (hv : vs = .ref a :: As) (hn : As.length = n) (hnm : Yc.1.name = "<init>") (hr : Yc.2.2.2 = none) (hp : am_np Yc.1.desc n) (hy : am_noMH Yc.1.cls) (hL : Yc.2.2.1 ≤ 45)
    (w1 : Cond.methodLink Y.1.cls idx Yc.1 ∈ am_gt) (w2 : Cond.instanceMethod Yc.1 ∈ am_gt) (w5 : Cond.initialized Yc.1.cls ∈ am_gt) (w4 : am_code Yc ∈ am_gt) : LK l E ms Y pc Yc vs σ := by
  intro d d' mc sl mc' sl' cu su Pc Qc p e s m args below meth c H locs ls st hdd C hW hk hsz hmc hsl hro hM hB hP
  subst hv
  have hw : am_ws Yc = Cond.code Yc.1 Yc.2.1 Yc.2.2.1 none :: am_gt := by unfold am_ws am_code; rw [hr]
  exact va_runI (b := am_ad E a) (As := As.map (am_tv E)) ⟨C.1, C.2.1, C.2.2.2.1, C.2.2.2.2.1, C.2.2.2.2.2.1⟩ hM (cwI n C.2.2.2.2.2.1 (am_good [] (fun _ h => by cases h) Yc w4) hw rfl rfl (C.2.2.2.2.2.1 _ w5) (C.2.2.2.2.2.1 _ w1) (C.2.2.2.2.2.1 _ w2) hnm ⟨hy.1, hy.2, hp⟩ (am_rmR hdd hL)) ⟨hB, hP⟩ rfl (by rw [List.length_map]; exact hn) hsz (by rw [am_tv_rev]; simp [am_tv]) (lv_room (by rw [am_cat_sum]; exact hro)) hd ⟨hmc, hsl⟩
/-- super.m(..) -/
theorem lk_SU {a ci : Nat} {q : vw_C} {As : List Value} (hd : decode Y.2.1 pc = .ok (.invokespecial idx, 3)) (hv : vs = .ref a :: As) (hn : As.length = n) (hm : am_ob ms σ a ci) (hq : am_cls[ci]? = some q) (hnm : Yc.1.name ≠ "<init>") (hp : am_np Yc.1.desc n) (hL : Yc.2.2.1 ≤ 45)
    (w1 : Cond.methodLink Y.1.cls idx Yc.1 ∈ am_gt) (w6 : Cond.sameMethod Yc.1.cls Yc.1.cls Yc.1.name Yc.1.desc ∈ am_gt) (w7 : Cond.superclass Y.1.cls Yc.1.cls ∈ am_gt) (w2 : Cond.instanceMethod Yc.1 ∈ am_gt) (w5 : Cond.initialized Yc.1.cls ∈ am_gt) (w4 : am_code Yc ∈ am_gt) : LK l E ms Y pc Yc vs σ := by
  intro d d' mc sl mc' sl' cu su Pc Qc p e s m args below meth c H locs ls st hdd C hW hk hsz hmc hsl hro hM hB hP
  subst hv
  exact va_runSU (C := q.1) (b := am_ad E a) (As := As.map (am_tv E)) (C.2.2.2.2.2.2.2.2.1.1 ci q hq).2 ⟨C.1, C.2.1, C.2.2.2.1, C.2.2.2.2.1, C.2.2.2.2.2.1⟩ hM (va_cwSU n C.2.2.2.2.2.1 (am_good [_, _, _, _, _] (by intro w hw; simp only [List.mem_cons, List.not_mem_nil, or_false] at hw; rcases hw with rfl | rfl | rfl | rfl | rfl <;> assumption) Yc w4) rfl rfl rfl ⟨hnm, hp⟩ (am_rmR hdd hL)) ⟨hB, am_recv hm hq hW hk C.2.2.2.2.2.2.2.2, hP⟩ rfl (by rw [List.length_map]; exact hn) hsz (by rw [am_tv_rev]; simp [am_tv]) (lv_room (by rw [am_cat_sum]; exact hro)) hd ⟨hmc, hsl⟩
theorem am_P_blind (vs : List Value) : FrameBlind (am_P E ms vs σ) := fun a U g mk h => ⟨h.1, h.2.1.same (u := U) (U := U.calling g mk a) rfl, h.2.2⟩
theorem z_callX {V : Type} {ms' : List am_M} {k mc' sl' : Nat} {fc : Option V} {F : V → Option U} {er : V → Option Value} {es : V → am_S} (hst : stk = vs.reverse ++ st) (hl : LK l E ms Y pc Yc vs σ) (hk : k + 1 ≤ d) (hmc : cu + mc' ≤ mc ∧ su + sl' ≤ sl) (hro : (st.map fun v => v.category).sum ≤ 8) (hms : am_kp ms' ms)
    (hc : ∀ v, fc = some v → Ctr l E ms' Yc k mc' sl' vs σ (er v) (es v)) (kk : ∀ v, fc = some v → Z l E ms σ0 Y d mc sl (pc + 3) lv ((er v).toList ++ st) (cu + mc') (su + sl') (es v) (F v) G) : Z l E ms σ0 Y d mc sl pc lv stk cu su σ (fc.bind F) G := by
  intro u r σ' h1 h2 p e s m args below meth c H locs ls C HW hls
  subst hst
  cases hf : fc with
  | none => rw [hf] at h1; cases h1
  | some v =>
    rw [hf] at h1
    have hrun := hl d (d - 1) mc sl mc' sl' cu su _ _ p e s m args below meth c H locs ls st (by omega) C HW.1 HW.2.2.1 hls.1 hmc.1 hmc.2 hro (hc v hf (d - 1) (by omega)) (am_P_blind vs) (fun U0 hU hWm => ⟨rfl, C.2.2.2.2.2.2.2.2.moved hWm, by rw [hU]; exact HW.1, hms.tr HW.2.2.1⟩)
    intro T hT X
    obtain ⟨v', st₀, t, T', L, h0, X', hL, e1, e2, ⟨hv, hq, hF, hkp⟩, stp⟩ := hrun T hT X
    cases hv
    obtain ⟨t2, a1, b1⟩ := kk v hf u r σ' h1 h2 p e s m args below meth c T'.heap (locs ++ L) ls C ⟨by rw [e1]; exact hq, ⟨Nat.le_trans HW.2.1.1 (by rw [e1, ← h0]; exact hF.1), fun x hx1 hx2 => by
      rw [e1, hF.2 x (by rw [h0]; exact Nat.lt_of_lt_of_le hx1 HW.2.1.1) hx2, h0]; exact HW.2.1.2.1 x hx1 hx2, fun x hx => by
        rcases List.mem_append.mp hx with h | h
        · exact HW.2.1.2.2 x h
        · exact hL x h⟩, HW.2.2.1.tr hkp, HW.2.2.2.tr hkp⟩ hls T' rfl X'
    refine ⟨t2, stp t2 ?_, b1⟩
    have e9 : ((er v).map (am_tv E)).toList ++ st.map (am_tv E) = ((er v).toList ++ st).map (am_tv E) := by cases er v <;> simp
    rw [e9]
    exact a1
theorem z_callI {ms' : List am_M} {k mc' sl' : Nat} {fc : Option Int32} {F : Int32 → Option U} (vs st : List Value) (hst : stk = vs.reverse ++ st) (hl : LK l E ms Y pc Yc vs σ) (hk : k + 1 ≤ d) (hmc : cu + mc' ≤ mc ∧ su + sl' ≤ sl) (hro : (st.map fun v => v.category).sum ≤ 8) (hms : am_kp ms' ms)
    (hc : ∀ v, fc = some v → Ctr l E ms' Yc k mc' sl' vs σ (some (.int v)) σ) (kk : ∀ v, fc = some v → Z l E ms σ0 Y d mc sl (pc + 3) lv (.int v :: st) (cu + mc') (su + sl') σ (F v) G) : Z l E ms σ0 Y d mc sl pc lv stk cu su σ (fc.bind F) G :=
  z_callX (er := fun v => some (.int v)) (es := fun v => σ) hst hl hk hmc hro hms (fun v hv => hc v hv) (fun v hv => kk v hv)
theorem z_callB {ms' : List am_M} {k mc' sl' : Nat} {fc : Option Bool} {F : Bool → Option U} (vs st : List Value) (hst : stk = vs.reverse ++ st) (hl : LK l E ms Y pc Yc vs σ) (hk : k + 1 ≤ d) (hmc : cu + mc' ≤ mc ∧ su + sl' ≤ sl) (hro : (st.map fun v => v.category).sum ≤ 8) (hms : am_kp ms' ms)
    (hc : ∀ v, fc = some v → Ctr l E ms' Yc k mc' sl' vs σ (some (.int (bI v))) σ) (kk : ∀ v, fc = some v → Z l E ms σ0 Y d mc sl (pc + 3) lv (.int (bI v) :: st) (cu + mc') (su + sl') σ (F v) G) : Z l E ms σ0 Y d mc sl pc lv stk cu su σ (fc.bind F) G :=
  z_callX (er := fun v => some (.int (bI v))) (es := fun v => σ) hst hl hk hmc hro hms (fun v hv => hc v hv) (fun v hv => kk v hv)
theorem z_callL {ms' : List am_M} {k mc' sl' : Nat} {fc : Option Int64} {F : Int64 → Option U} (vs st : List Value) (hst : stk = vs.reverse ++ st) (hl : LK l E ms Y pc Yc vs σ) (hk : k + 1 ≤ d) (hmc : cu + mc' ≤ mc ∧ su + sl' ≤ sl) (hro : (st.map fun v => v.category).sum ≤ 8) (hms : am_kp ms' ms)
    (hc : ∀ v, fc = some v → Ctr l E ms' Yc k mc' sl' vs σ (some (.long v)) σ) (kk : ∀ v, fc = some v → Z l E ms σ0 Y d mc sl (pc + 3) lv (.long v :: st) (cu + mc') (su + sl') σ (F v) G) : Z l E ms σ0 Y d mc sl pc lv stk cu su σ (fc.bind F) G :=
  z_callX (er := fun v => some (.long v)) (es := fun v => σ) hst hl hk hmc hro hms (fun v hv => hc v hv) (fun v hv => kk v hv)
theorem z_callR {ms' : List am_M} {k mc' sl' : Nat} {fc : Option (Option Nat)} {F : (Option Nat) → Option U} (vs st : List Value) (hst : stk = vs.reverse ++ st) (hl : LK l E ms Y pc Yc vs σ) (hk : k + 1 ≤ d) (hmc : cu + mc' ≤ mc ∧ su + sl' ≤ sl) (hro : (st.map fun v => v.category).sum ≤ 8) (hms : am_kp ms' ms)
    (hc : ∀ v, fc = some v → Ctr l E ms' Yc k mc' sl' vs σ (some (va_rf v)) σ) (kk : ∀ v, fc = some v → Z l E ms σ0 Y d mc sl (pc + 3) lv (va_rf v :: st) (cu + mc') (su + sl') σ (F v) G) : Z l E ms σ0 Y d mc sl pc lv stk cu su σ (fc.bind F) G :=
  z_callX (er := fun v => some (va_rf v)) (es := fun v => σ) hst hl hk hmc hro hms (fun v hv => hc v hv) (fun v hv => kk v hv)
theorem z_callIs {ms' : List am_M} {k mc' sl' : Nat} {fc : Option (Int32 × am_S)} {F : (Int32 × am_S) → Option U} (vs st : List Value) (hst : stk = vs.reverse ++ st) (hl : LK l E ms Y pc Yc vs σ) (hk : k + 1 ≤ d) (hmc : cu + mc' ≤ mc ∧ su + sl' ≤ sl) (hro : (st.map fun v => v.category).sum ≤ 8) (hms : am_kp ms' ms)
    (hc : ∀ v σ1, fc = some (v, σ1) → Ctr l E ms' Yc k mc' sl' vs σ (some (.int v)) σ1) (kk : ∀ v σ1, fc = some (v, σ1) → Z l E ms σ0 Y d mc sl (pc + 3) lv (.int v :: st) (cu + mc') (su + sl') σ1 (F (v, σ1)) G) : Z l E ms σ0 Y d mc sl pc lv stk cu su σ (fc.bind F) G :=
  z_callX (er := fun v => some (.int v.1)) (es := fun v => v.2) hst hl hk hmc hro hms (fun v hv => hc v.1 v.2 hv) (fun v hv => kk v.1 v.2 hv)
theorem z_callBs {ms' : List am_M} {k mc' sl' : Nat} {fc : Option (Bool × am_S)} {F : (Bool × am_S) → Option U} (vs st : List Value) (hst : stk = vs.reverse ++ st) (hl : LK l E ms Y pc Yc vs σ) (hk : k + 1 ≤ d) (hmc : cu + mc' ≤ mc ∧ su + sl' ≤ sl) (hro : (st.map fun v => v.category).sum ≤ 8) (hms : am_kp ms' ms)
    (hc : ∀ v σ1, fc = some (v, σ1) → Ctr l E ms' Yc k mc' sl' vs σ (some (.int (bI v))) σ1) (kk : ∀ v σ1, fc = some (v, σ1) → Z l E ms σ0 Y d mc sl (pc + 3) lv (.int (bI v) :: st) (cu + mc') (su + sl') σ1 (F (v, σ1)) G) : Z l E ms σ0 Y d mc sl pc lv stk cu su σ (fc.bind F) G :=
  z_callX (er := fun v => some (.int (bI v.1))) (es := fun v => v.2) hst hl hk hmc hro hms (fun v hv => hc v.1 v.2 hv) (fun v hv => kk v.1 v.2 hv)
theorem z_callLs {ms' : List am_M} {k mc' sl' : Nat} {fc : Option (Int64 × am_S)} {F : (Int64 × am_S) → Option U} (vs st : List Value) (hst : stk = vs.reverse ++ st) (hl : LK l E ms Y pc Yc vs σ) (hk : k + 1 ≤ d) (hmc : cu + mc' ≤ mc ∧ su + sl' ≤ sl) (hro : (st.map fun v => v.category).sum ≤ 8) (hms : am_kp ms' ms)
    (hc : ∀ v σ1, fc = some (v, σ1) → Ctr l E ms' Yc k mc' sl' vs σ (some (.long v)) σ1) (kk : ∀ v σ1, fc = some (v, σ1) → Z l E ms σ0 Y d mc sl (pc + 3) lv (.long v :: st) (cu + mc') (su + sl') σ1 (F (v, σ1)) G) : Z l E ms σ0 Y d mc sl pc lv stk cu su σ (fc.bind F) G :=
  z_callX (er := fun v => some (.long v.1)) (es := fun v => v.2) hst hl hk hmc hro hms (fun v hv => hc v.1 v.2 hv) (fun v hv => kk v.1 v.2 hv)
theorem z_callRs {ms' : List am_M} {k mc' sl' : Nat} {fc : Option (Option Nat × am_S)} {F : (Option Nat × am_S) → Option U} (vs st : List Value) (hst : stk = vs.reverse ++ st) (hl : LK l E ms Y pc Yc vs σ) (hk : k + 1 ≤ d) (hmc : cu + mc' ≤ mc ∧ su + sl' ≤ sl) (hro : (st.map fun v => v.category).sum ≤ 8) (hms : am_kp ms' ms)
    (hc : ∀ v σ1, fc = some (v, σ1) → Ctr l E ms' Yc k mc' sl' vs σ (some (va_rf v)) σ1) (kk : ∀ v σ1, fc = some (v, σ1) → Z l E ms σ0 Y d mc sl (pc + 3) lv (va_rf v :: st) (cu + mc') (su + sl') σ1 (F (v, σ1)) G) : Z l E ms σ0 Y d mc sl pc lv stk cu su σ (fc.bind F) G :=
  z_callX (er := fun v => some (va_rf v.1)) (es := fun v => v.2) hst hl hk hmc hro hms (fun v hv => hc v.1 v.2 hv) (fun v hv => kk v.1 v.2 hv)
theorem z_callNs {ms' : List am_M} {k mc' sl' : Nat} {fc : Option (Nat × am_S)} {F : (Nat × am_S) → Option U} (vs st : List Value) (hst : stk = vs.reverse ++ st) (hl : LK l E ms Y pc Yc vs σ) (hk : k + 1 ≤ d) (hmc : cu + mc' ≤ mc ∧ su + sl' ≤ sl) (hro : (st.map fun v => v.category).sum ≤ 8) (hms : am_kp ms' ms)
    (hc : ∀ v σ1, fc = some (v, σ1) → Ctr l E ms' Yc k mc' sl' vs σ (some (.ref v)) σ1) (kk : ∀ v σ1, fc = some (v, σ1) → Z l E ms σ0 Y d mc sl (pc + 3) lv (.ref v :: st) (cu + mc') (su + sl') σ1 (F (v, σ1)) G) : Z l E ms σ0 Y d mc sl pc lv stk cu su σ (fc.bind F) G :=
  z_callX (er := fun v => some (.ref v.1)) (es := fun v => v.2) hst hl hk hmc hro hms (fun v hv => hc v.1 v.2 hv) (fun v hv => kk v.1 v.2 hv)
theorem z_callVs {ms' : List am_M} {k mc' sl' : Nat} {fc : Option am_S} {F : am_S → Option U} (vs st : List Value) (hst : stk = vs.reverse ++ st) (hl : LK l E ms Y pc Yc vs σ) (hk : k + 1 ≤ d) (hmc : cu + mc' ≤ mc ∧ su + sl' ≤ sl) (hro : (st.map fun v => v.category).sum ≤ 8) (hms : am_kp ms' ms)
    (hc : ∀ σ1, fc = some σ1 → Ctr l E ms' Yc k mc' sl' vs σ none σ1) (kk : ∀ σ1, fc = some σ1 → Z l E ms σ0 Y d mc sl (pc + 3) lv st (cu + mc') (su + sl') σ1 (F σ1) G) : Z l E ms σ0 Y d mc sl pc lv stk cu su σ (fc.bind F) G :=
  z_callX (er := fun v => none) (es := fun v => v) hst hl hk hmc hro hms (fun v hv => hc v hv) (fun v hv => kk v hv)
theorem z_callVp {ms' : List am_M} {k mc' sl' : Nat} {fc : Option Unit} {F : Unit → Option U} (vs st : List Value) (hst : stk = vs.reverse ++ st) (hl : LK l E ms Y pc Yc vs σ) (hk : k + 1 ≤ d) (hmc : cu + mc' ≤ mc ∧ su + sl' ≤ sl) (hro : (st.map fun v => v.category).sum ≤ 8) (hms : am_kp ms' ms)
    (hc : ∀ v, fc = some v → Ctr l E ms' Yc k mc' sl' vs σ none σ) (kk : ∀ v, fc = some v → Z l E ms σ0 Y d mc sl (pc + 3) lv st (cu + mc') (su + sl') σ (F v) G) : Z l E ms σ0 Y d mc sl pc lv stk cu su σ (fc.bind F) G :=
  z_callX (er := fun v => none) (es := fun v => σ) hst hl hk hmc hro hms (fun v hv => hc v hv) (fun v hv => kk v hv)
/-- a part of the code first, then the rest -/
theorem z_bind {V : Type} {fc : Option V} {F : V → Option U} (k : Z l E ms σ0 Y d mc sl pc lv st cu su σ fc (fun v r σ' => ∃ u, F v = some u ∧ G u r σ')) : Z l E ms σ0 Y d mc sl pc lv st cu su σ (fc.bind F) G := by
  intro u r σ' h1 h2
  cases hf : fc with
  | none => rw [hf] at h1; cases h1
  | some v =>
    rw [hf] at h1
    exact k v r σ' hf ⟨u, h1, h2⟩
theorem z_exit {V : Type} {v : V} {F : V → Option U} (k : Z l E ms σ0 Y d mc sl pc lv st cu su σ (F v) G) : Z l E ms σ0 Y d mc sl pc lv st cu su σ (some v) (fun v r σ' => ∃ u, F v = some u ∧ G u r σ') := by
  intro v' r σ' h1 h2
  cases h1
  obtain ⟨u, h3, h4⟩ := h2
  exact k u r σ' h3 h4
/-- a name for a value -/
theorem z_name {V : Type} {v : V} {F : V → Option U} (k : Z l E ms σ0 Y d mc sl pc lv st cu su σ (F v) G) : Z l E ms σ0 Y d mc sl pc lv st cu su σ ((some v).bind F) G := k
theorem z_some {V : Type} {v : V} {F : V → Option U} {fc : Option V} (h : fc = some v) (k : Z l E ms σ0 Y d mc sl pc lv st cu su σ (F v) G) : Z l E ms σ0 Y d mc sl pc lv st cu su σ (fc.bind F) G := by rw [h]; exact k
end ZC
