/-! MORE RULES: pooled objects, returns, calls by class -/
theorem am_cis_ob {ms : List am_M} {σ : am_S} {a : Nat} {cis : List Nat} (hm : cis.contains (am_ci σ a) = true) (h9 : cis.contains 99 = false) : am_ob ms σ a (am_ci σ a) :=
  am_ob.d rfl (fun h => by rw [h] at hm; rw [hm] at h9; cases h9)
theorem am_tsout {x : Int32} {lo : Int} (cs : List Int32) (n : Nat) (hl : cs = (List.range n).map (fun (i : Nat) => Int32.ofInt (lo + i))) (h : ∀ c ∈ cs, ¬ x = c) : x.toInt < lo ∨ lo + n - 1 < x.toInt := by
  by_cases h1 : x.toInt < lo
  · exact Or.inl h1
  · refine Or.inr (Int.not_le.mp fun h2 => ?_)
    refine h x ?_ rfl
    rw [hl]
    refine List.mem_map.mpr ⟨(x.toInt - lo).toNat, List.mem_range.mpr (by omega), ?_⟩
    rw [show lo + ((x.toInt - lo).toNat : Int) = x.toInt by omega, Int32.ofInt_toInt]
section ZM
variable {U : Type} {l : Launch} {E : am_E} {ms : List am_M} {σ0 : am_S} {Y Yc : am_Y} {d mc sl pc cu su : Nat} {lv : List (Nat × Value)} {st stk vs : List Value} {σ : am_S} {code A B : Option U} {G : U → Option Value → am_S → Prop} {idx n : Nat}
theorem z_eqlv {lv' : List (Nat × Value)} (h : lv = lv') (k : Z l E ms σ0 Y d mc sl pc lv' st cu su σ code G) : Z l E ms σ0 Y d mc sl pc lv st cu su σ code G := h ▸ k
theorem z_putFIp {a k : Nat} {v : Int32} (cis : List Nat) (hd : decode Y.2.1 pc = .ok (.putfield idx, 3)) (hini : Y.1.name = "<init>") (hm : cis.contains (am_ci σ a) = true) (h9 : cis.contains 99 = false) (hf : ∀ ci ∈ cis, am_fi Y.1.cls idx ci k ∧ am_ty ci k = .int)
    (kk : Z l E ms σ0 Y d mc sl (pc + 3) lv st cu su (sF σ a k v) code G) : Z l E ms σ0 Y d mc sl pc lv (.int v :: .ref a :: st) cu su σ code G := by
  have hmem : am_ci σ a ∈ cis := by simpa using hm
  rcases am_cis_ob (ms := []) hm h9 with ⟨refs, h⟩ | ⟨refs, h⟩
  · simp at h
  · exact z_putFI hd hini refs h (hf _ hmem).1 (hf _ hmem).2 kk
theorem z_tsEq {dflt lo hi : Int} {offs : Array Int} {len : Nat} {x : Int32} (c : Int32) {off : Int} {tgt : Nat} (hd : decode Y.2.1 pc = .ok (.tableswitch dflt lo hi offs, len)) (hx : x = c) (h1 : ¬ c.toInt < lo) (h2 : ¬ hi < c.toInt) (ho : offs[(c.toInt - lo).toNat]? = some off) (ht : (pc : Int) + off = (tgt : Int)) (k : Z l E ms σ0 Y d mc sl tgt lv st cu su σ code G) : Z l E ms σ0 Y d mc sl pc lv (.int x :: st) cu su σ code G := by
  subst hx; exact z_tsIn hd h1 h2 ho ht k
theorem z_tsNe {dflt lo hi : Int} {offs : Array Int} {len : Nat} {x : Int32} {tgt : Nat} (cs : List Int32) (n : Nat) (hd : decode Y.2.1 pc = .ok (.tableswitch dflt lo hi offs, len)) (hl : cs = (List.range n).map (fun (i : Nat) => Int32.ofInt (lo + i))) (hn : hi = lo + n - 1) (h : ∀ c ∈ cs, ¬ x = c) (ht : (pc : Int) + dflt = (tgt : Int)) (k : Z l E ms σ0 Y d mc sl tgt lv st cu su σ code G) : Z l E ms σ0 Y d mc sl pc lv (.int x :: st) cu su σ code G :=
  z_tsOut hd (by rw [hn]; exact am_tsout cs n hl h) ht k
theorem z_lkEq {dflt : Int} {ps : Array (Int × Int)} {len : Nat} {x : Int32} (c : Int32) {off : Int} {tgt : Nat} (hd : decode Y.2.1 pc = .ok (.lookupswitch dflt ps, len)) (hp : (ps.toList.zip (ps.toList.drop 1)).all (fun (a, next) => a.1 < next.1) = true) (hx : x = c) (ho : Op.lookupswitch.offset ps.toList dflt c.toInt = off) (ht : (pc : Int) + off = (tgt : Int)) (k : Z l E ms σ0 Y d mc sl tgt lv st cu su σ code G) : Z l E ms σ0 Y d mc sl pc lv (.int x :: st) cu su σ code G := by
  subst hx; exact z_lookup hd hp ho ht k
-- returns of a whole method: pure (the cells stay), or with cells
theorem z_rI {v : Int32} (hd : decode Y.2.1 pc = .ok (.ireturn, 1)) (ht : Y.2.2.2 = some .int) (hm : cu ≤ mc ∧ su ≤ sl) : Z l E ms σ0 Y d mc sl pc lv [.int v] cu su σ (some v) (fun u r s => r = some (.int u) ∧ s = σ) :=
  z_iret hd ht (fun u h r σ' g => by cases h; exact g) hm
theorem z_rIs {v : Int32} (hd : decode Y.2.1 pc = .ok (.ireturn, 1)) (ht : Y.2.2.2 = some .int) (hm : cu ≤ mc ∧ su ≤ sl) : Z l E ms σ0 Y d mc sl pc lv [.int v] cu su σ (some (v, σ)) (fun u r s => r = some (.int u.1) ∧ s = u.2) :=
  z_iret hd ht (fun u h r σ' g => by cases h; exact g) hm
theorem z_rB {v : Int32} {b : Bool} (hv : v = bI b) (hd : decode Y.2.1 pc = .ok (.ireturn, 1)) (ht : Y.2.2.2 = some .boolean) (hm : cu ≤ mc ∧ su ≤ sl) : Z l E ms σ0 Y d mc sl pc lv [.int v] cu su σ (some b) (fun u r s => r = some (.int (bI u)) ∧ s = σ) := by
  subst hv; exact z_zret hd ht (bI_01 b) (fun u h r σ' g => by cases h; exact g) hm
theorem z_rBs {v : Int32} {b : Bool} (hv : v = bI b) (hd : decode Y.2.1 pc = .ok (.ireturn, 1)) (ht : Y.2.2.2 = some .boolean) (hm : cu ≤ mc ∧ su ≤ sl) : Z l E ms σ0 Y d mc sl pc lv [.int v] cu su σ (some (b, σ)) (fun u r s => r = some (.int (bI u.1)) ∧ s = u.2) := by
  subst hv; exact z_zret hd ht (bI_01 b) (fun u h r σ' g => by cases h; exact g) hm
theorem z_rL {v : Int64} (hd : decode Y.2.1 pc = .ok (.lreturn, 1)) (ht : Y.2.2.2 = some .long) (hm : cu ≤ mc ∧ su ≤ sl) : Z l E ms σ0 Y d mc sl pc lv [.long v] cu su σ (some v) (fun u r s => r = some (.long u) ∧ s = σ) :=
  z_lret hd ht (fun u h r σ' g => by cases h; exact g) hm
theorem z_rLs {v : Int64} (hd : decode Y.2.1 pc = .ok (.lreturn, 1)) (ht : Y.2.2.2 = some .long) (hm : cu ≤ mc ∧ su ≤ sl) : Z l E ms σ0 Y d mc sl pc lv [.long v] cu su σ (some (v, σ)) (fun u r s => r = some (.long u.1) ∧ s = u.2) :=
  z_lret hd ht (fun u h r σ' g => by cases h; exact g) hm
theorem z_rR {v : Nat} {nm : String} (hd : decode Y.2.1 pc = .ok (.areturn, 1)) (ht : Y.2.2.2 = some (.object nm)) (hm : cu ≤ mc ∧ su ≤ sl) : Z l E ms σ0 Y d mc sl pc lv [.ref v] cu su σ (some (some v)) (fun u r s => r = some (va_rf u) ∧ s = σ) :=
  z_aret hd ht (fun u h r σ' g => by cases h; exact g) hm
theorem z_rRN {nm : String} (hd : decode Y.2.1 pc = .ok (.areturn, 1)) (ht : Y.2.2.2 = some (.object nm)) (hm : cu ≤ mc ∧ su ≤ sl) : Z l E ms σ0 Y d mc sl pc lv [.null] cu su σ (some none) (fun u r s => r = some (va_rf u) ∧ s = σ) :=
  z_aretN hd ht (fun u h r σ' g => by cases h; exact g) hm
theorem z_rNs {v : Nat} {nm : String} (hd : decode Y.2.1 pc = .ok (.areturn, 1)) (ht : Y.2.2.2 = some (.object nm)) (hm : cu ≤ mc ∧ su ≤ sl) : Z l E ms σ0 Y d mc sl pc lv [.ref v] cu su σ (some (v, σ)) (fun u r s => r = some (.ref u.1) ∧ s = u.2) :=
  z_aret hd ht (fun u h r σ' g => by cases h; exact g) hm
theorem z_rVs (hd : decode Y.2.1 pc = .ok (.return_, 1)) (ht : Y.2.2.2 = none) (hm : cu ≤ mc ∧ su ≤ sl) : Z l E ms σ0 Y d mc sl pc lv [] cu su σ (some σ) (fun u r s => r = none ∧ s = u) :=
  z_vret hd ht (fun u h r σ' g => by cases h; exact g) hm
theorem z_rVp (hd : decode Y.2.1 pc = .ok (.return_, 1)) (ht : Y.2.2.2 = none) (hm : cu ≤ mc ∧ su ≤ sl) : Z l E ms σ0 Y d mc sl pc lv [] cu su σ (some ()) (fun _ r s => r = none ∧ s = σ) :=
  z_vret hd ht (fun u h r σ' g => by cases h; exact g) hm
/-- super.m(..) of a pooled object -/
theorem lk_SUp {a : Nat} {As : List Value} (cis : List Nat) (hm : cis.contains (am_ci σ a) = true) (h13 : cis.all (fun c => c < 13) = true) (hd : decode Y.2.1 pc = .ok (.invokespecial idx, 3)) (hv : vs = .ref a :: As) (hn : As.length = n) (hnm : Yc.1.name ≠ "<init>") (hp : am_np Yc.1.desc n) (hL : Yc.2.2.1 ≤ 45)
    (w1 : Cond.methodLink Y.1.cls idx Yc.1 ∈ am_gt) (w6 : Cond.sameMethod Yc.1.cls Yc.1.cls Yc.1.name Yc.1.desc ∈ am_gt) (w7 : Cond.superclass Y.1.cls Yc.1.cls ∈ am_gt) (w2 : Cond.instanceMethod Yc.1 ∈ am_gt) (w5 : Cond.initialized Yc.1.cls ∈ am_gt) (w4 : am_code Yc ∈ am_gt) : LK l E ms Y pc Yc vs σ := by
  have hmem : am_ci σ a ∈ cis := by simpa using hm
  have hlt : am_ci σ a < 13 := by simpa using List.all_eq_true.mp h13 _ hmem
  have h9 : am_ci σ a ≠ 99 := by omega
  have hq : am_cls[am_ci σ a]? = some am_cls[am_ci σ a] := List.getElem?_eq_getElem hlt
  exact lk_SU hd hv hn (am_ob.d rfl h9) hq hnm hp hL w1 w6 w7 w2 w5 w4
/-- a call whose method the receiver's class tells -/
theorem z_callD {V : Type} {fc : Option V} {F : V → Option U} {er : V → Option Value} {es : V → am_S} (hst : stk = vs.reverse ++ st) (hmc : cu ≤ mc ∧ su ≤ sl) (hro : (st.map fun v => v.category).sum ≤ 8)
    (hcert : ∀ v, fc = some v → ∃ (Yc : am_Y) (k : Nat), LK l E ms Y pc Yc vs σ ∧ k + 1 ≤ d ∧ Ctr l E ms Yc k 0 0 vs σ (er v) (es v)) (kk : ∀ v, fc = some v → Z l E ms σ0 Y d mc sl (pc + 3) lv ((er v).toList ++ st) (cu + 0) (su + 0) (es v) (F v) G) : Z l E ms σ0 Y d mc sl pc lv stk cu su σ (fc.bind F) G := by
  cases hf : fc with
  | none => exact z_none
  | some v =>
    obtain ⟨Yc, k, h1, h2, h3⟩ := hcert v hf
    have key := z_callX (σ0 := σ0) (lv := lv) (mc := mc) (sl := sl) (cu := cu) (su := su) (G := G) (ms' := ms) (fc := some v) (F := F) (er := er) (es := es) hst h1 h2 (mc' := 0) (sl' := 0) ⟨hmc.1, hmc.2⟩ hro (am_kp.rf _) (fun w hw => by cases hw; exact h3) (fun w hw => by cases hw; exact kk v hf)
    exact key
theorem z_callDI {fc : Option Int32} {F : Int32 → Option U} (vs st : List Value) (hst : stk = vs.reverse ++ st) (hmc : cu ≤ mc ∧ su ≤ sl) (hro : (st.map fun v => v.category).sum ≤ 8)
    (hcert : ∀ v, fc = some v → ∃ (Yc : am_Y) (k : Nat), LK l E ms Y pc Yc vs σ ∧ k + 1 ≤ d ∧ Ctr l E ms Yc k 0 0 vs σ (some (.int v)) σ) (kk : ∀ v, fc = some v → Z l E ms σ0 Y d mc sl (pc + 3) lv (.int v :: st) (cu + 0) (su + 0) σ (F v) G) : Z l E ms σ0 Y d mc sl pc lv stk cu su σ (fc.bind F) G :=
  z_callD (er := fun v => some (.int v)) (es := fun _ => σ) hst hmc hro hcert kk
theorem z_callDB {fc : Option Bool} {F : Bool → Option U} (vs st : List Value) (hst : stk = vs.reverse ++ st) (hmc : cu ≤ mc ∧ su ≤ sl) (hro : (st.map fun v => v.category).sum ≤ 8)
    (hcert : ∀ v, fc = some v → ∃ (Yc : am_Y) (k : Nat), LK l E ms Y pc Yc vs σ ∧ k + 1 ≤ d ∧ Ctr l E ms Yc k 0 0 vs σ (some (.int (bI v))) σ) (kk : ∀ v, fc = some v → Z l E ms σ0 Y d mc sl (pc + 3) lv (.int (bI v) :: st) (cu + 0) (su + 0) σ (F v) G) : Z l E ms σ0 Y d mc sl pc lv stk cu su σ (fc.bind F) G :=
  z_callD (er := fun v => some (.int (bI v))) (es := fun _ => σ) hst hmc hro hcert kk
theorem z_callDV {fc : Option am_S} {F : am_S → Option U} (vs st : List Value) (hst : stk = vs.reverse ++ st) (hmc : cu ≤ mc ∧ su ≤ sl) (hro : (st.map fun v => v.category).sum ≤ 8)
    (hcert : ∀ v, fc = some v → ∃ (Yc : am_Y) (k : Nat), LK l E ms Y pc Yc vs σ ∧ k + 1 ≤ d ∧ Ctr l E ms Yc k 0 0 vs σ none v) (kk : ∀ σ1, fc = some σ1 → Z l E ms σ0 Y d mc sl (pc + 3) lv st (cu + 0) (su + 0) σ1 (F σ1) G) : Z l E ms σ0 Y d mc sl pc lv stk cu su σ (fc.bind F) G :=
  z_callD (er := fun _ => none) (es := fun v => v) hst hmc hro hcert kk
end ZM
theorem am_c1 {σ : am_S} {a c : Nat} (h : [c].contains (am_ci σ a) = true) : am_ci σ a = c := by simpa using h
theorem am_cs2 {σ : am_S} {a c1 c2 : Nat} (h : [c1, c2].contains (am_ci σ a) = true) : am_ci σ a = c1 ∨ am_ci σ a = c2 := by simpa using h
theorem am_cs6 {σ : am_S} {a c1 c2 c3 c4 c5 c6 : Nat} (h : [c1, c2, c3, c4, c5, c6].contains (am_ci σ a) = true) : am_ci σ a = c1 ∨ am_ci σ a = c2 ∨ am_ci σ a = c3 ∨ am_ci σ a = c4 ∨ am_ci σ a = c5 ∨ am_ci σ a = c6 := by simpa using h
theorem am_memOf {cis : List Nat} {x : Nat} (h : cis.contains x = true) : x ∈ cis := by simpa using h
theorem am_bIz (b : Bool) : narrow .boolean (.int (bI b)) = .int (bI b) ∧ fits .boolean (.int (bI b)) = true := by cases b <;> exact ⟨by decide +kernel, by decide +kernel⟩
section ZM2
variable {U : Type} {l : Launch} {E : am_E} {ms : List am_M} {σ0 : am_S} {Y Yc : am_Y} {d mc sl pc cu su : Nat} {lv : List (Nat × Value)} {st stk vs : List Value} {σ : am_S} {code A B : Option U} {G : U → Option Value → am_S → Prop} {idx n : Nat}
theorem z_cu {cu' su' : Nat} (h : cu = cu' ∧ su = su') (k : Z l E ms σ0 Y d mc sl pc lv st cu' su' σ code G) : Z l E ms σ0 Y d mc sl pc lv st cu su σ code G := by
  obtain ⟨rfl, rfl⟩ := h; exact k
theorem am_ad_ne {a b : Nat} (ha : 8 ≤ a) (hb : 8 ≤ b) : am_ad E a = am_ad E b ↔ a = b := by
  rw [am_ad8 ha, am_ad8 hb]
  constructor
  · intro h; omega
  · intro h; rw [h]
/-- two pooled objects: the same one? -/
theorem z_acne {a b : Nat} {off : Int} {tgt : Nat} (hd : decode Y.2.1 pc = .ok (.if_acmp .ne off, 3)) (ht : (pc : Int) + off = (tgt : Int)) {ca cb : Nat} (ha : am_ob ms σ a ca) (hb : am_ob ms σ b cb) (ka : a = b → Z l E ms σ0 Y d mc sl (pc + 3) lv st cu su σ A G) (kb : ¬ a = b → Z l E ms σ0 Y d mc sl tgt lv st cu su σ B G) : Z l E ms σ0 Y d mc sl pc lv (.ref b :: .ref a :: st) cu su σ (if a = b then A else B) G := by
  intro u r σ' h1 h2 p e s m args below meth c H locs ls C HW hl
  obtain ⟨r1, e1⟩ := ha.use HW.2.2.1
  obtain ⟨r2, e2⟩ := hb.use HW.2.2.1
  have g1 := HW.1.ge8 e1 (by intro h; cases h)
  have g2 := HW.1.ge8 e2 (by intro h; cases h)
  refine lv_acmp_ne (rx := some (am_ad E a)) (ry := some (am_ad E b)) C.1 C.2.1 hd ht (fun hc => ?_) (fun hc => ?_)
  · have hab : ¬ a = b := fun h => hc (by rw [h])
    exact kb hab u r σ' (by rw [if_neg hab] at h1; exact h1) h2 p e s m args below meth c H locs ls C HW hl
  · have hab : a = b := (am_ad_ne g1 g2).mp (Option.some.inj hc)
    exact ka hab u r σ' (by rw [if_pos hab] at h1; exact h1) h2 p e s m args below meth c H locs ls C HW hl
theorem z_astqp {a b n t : Nat} {i : Int32} {C0 : String} (cis : List Nat) (hd : decode Y.2.1 pc = .ok (.aastore, 1)) (ht : 4 ≤ t ∧ t < 7) (hty : am_aty t = .object C0) (hm : am_ar ms σ a t n) (hb : cis.contains (am_ci σ b) = true) (h9 : cis.contains 99 = false) (hok : (cis.all fun ci => match am_cls[ci]? with
    | some q => q.1 == C0 || am_yes.contains (q.1, C0)
    | none => false) = true)
    (kk : am_in i n = true → Z l E ms σ0 Y d mc sl (pc + 1) lv st cu su (sQ σ a i.toNatClampNeg (some b)) A G) : Z l E ms σ0 Y d mc sl pc lv (.ref b :: .int i :: .ref a :: st) cu su σ (if am_in i n = true then A else none) G := by
  have hob := am_cis_ob (ms := ms) hb h9
  have h1 := List.all_eq_true.mp hok _ (am_memOf hb)
  cases hq : am_cls[am_ci σ b]? with
  | none => simp only [hq] at h1; cases h1
  | some q =>
    simp only [hq, Bool.or_eq_true, beq_iff_eq] at h1
    exact z_astq hd ht hty hm hob hq (h1.imp id (fun h => by simpa using h)) kk
/-- super.m(..), where the superclass inherits it -/
theorem lk_SUi {a : Nat} {As : List Value} {x : MethodName} (cis : List Nat) (hm : cis.contains (am_ci σ a) = true) (h13 : cis.all (fun c => c < 13) = true) (owner : String) (hd : decode Y.2.1 pc = .ok (.invokespecial idx, 3)) (hv : vs = .ref a :: As) (hn : As.length = n) (hnm : x.name ≠ "<init>") (hyx : Yc.1 = ⟨owner, x.name, x.desc⟩) (hp : am_np Yc.1.desc n) (hL : Yc.2.2.1 ≤ 45)
    (w1 : Cond.methodLink Y.1.cls idx x ∈ am_gt) (w6 : Cond.sameMethod x.cls owner x.name x.desc ∈ am_gt) (w7 : Cond.superclass Y.1.cls x.cls ∈ am_gt) (w8 : Cond.superclass x.cls owner ∈ am_gt) (w2 : Cond.instanceMethod Yc.1 ∈ am_gt) (w5 : Cond.initialized Yc.1.cls ∈ am_gt) (w4 : am_code Yc ∈ am_gt) : LK l E ms Y pc Yc vs σ := by
  intro d d' mc sl mc' sl' cu su Pc Qc p e s m args below meth c H locs ls st hdd C hW hk hsz hmc hsl hro hM hB hP
  subst hv
  have hlt : am_ci σ a < 13 := by simpa using List.all_eq_true.mp h13 _ (am_memOf hm)
  have hq : am_cls[am_ci σ a]? = some am_cls[am_ci σ a] := List.getElem?_eq_getElem hlt
  obtain ⟨cellB, hcB, hoB, hclB⟩ := am_recv (am_ob.d (ms := ms) rfl (by omega)) hq hW hk C.2.2.2.2.2.2.2.2
  obtain ⟨hfc, kB, hkB, -⟩ := (C.2.2.2.2.2.2.2.2.1.1 _ _ hq).2
  have hce := Option.some.inj (hfc.symm.trans hclB)
  rw [hce] at hkB
  have hts := C.2.2.2.2.2.1
  have hG := am_good [] (fun _ h => by cases h) Yc w4
  have hK : Back l (am_rm d mc sl) p e below s args Yc.1 3 8 (PreOf (am_rm d mc sl) mc' sl' Pc) (PostOf Qc mc' sl' (am_A E)) := back_of (bytes := Yc.2.1) (maxL := Yc.2.2.1) (ret := Yc.2.2.2) hM hB rfl rfl (am_rmR (mc := mc) (sl := sl) (mc' := mc') (sl' := sl') hdd hL).1 (am_rmR (mc := mc) (sl := sl) (mc' := mc') (sl' := sl') hdd hL).2 (pay_in hts hG) List.mem_cons_self (fun a' U hWm => word_at hWm (Or.inl (by first | rfl | simp [Cond.onTables, Cond.keeps, Cond.steady])) (hts _ w5))
  intro T hT X
  obtain ⟨mk, methM, hnamed, hmethM, hstM, habM⟩ := Cond.instanceMethod_spec (hts _ w2)
  obtain ⟨methM', cM, hmethM', -, -, -, -, -, -, hsigM⟩ := Cond.code_spec hnamed (hts _ w4)
  cases hmethM.symm.trans hmethM'
  obtain ⟨ps, dk, kp, hps, hdk, hkp, hsuper, -, -, hnid⟩ := Cond.superclass_spec C.2.2.2.2.1 (hts _ w7)
  obtain ⟨ps2, dk2, kp2, hps2, hdk2, hkp2, hsuper2, -, -, hnid2⟩ := Cond.superclass_spec hps (hts _ w8)
  have hn1 : s.methodNamed? ⟨owner, x.name, x.desc⟩ = some mk := by rw [← hyx]; exact hnamed
  have hpm : ps2 = mk.cls := by
    have h9 := findClass_of_methodNamed hn1
    exact Option.some.inj (hps2.symm.trans h9)
  have hsub : s.vm.isSubclass ps mk.cls = true := by
    rw [← hpm]
    obtain ⟨n', hn'⟩ := Nat.exists_eq_succ_of_ne_zero (Nat.ne_of_gt (Nat.lt_of_le_of_lt (Nat.zero_le _) (Array.getElem?_eq_some_iff.mp hdk2).1))
    unfold Vm.isSubclass
    rw [hn']
    simp [Vm.isSubclassAux, hdk2, hsuper2]
  have hsig : parseMethodDescriptor Yc.1.desc = some methM.sig := hsigM
  have hlen : (As.map (am_tv E)).length = methM.sig.parameters.length := by
    rw [List.length_map, hn]
    have h2 := hp
    unfold am_np at h2
    rw [hsig] at h2
    exact (Option.some.inj h2).symm
  obtain ⟨vm₁, X₁, hstep₁⟩ := X.invokespecialUp C.1 C.2.2.2.2.1 (hts _ w1) (hts _ w6) hn1 hmethM hstM habM hnm hdk hnid hps hsuper hsub (a := am_ad E a) (cell := cellB) (by rw [hT]; exact hcB)
    (fun z h => by rw [h] at hoB; cases hoB) hkB (g := F0 m pc ls (((Value.ref a :: As).reverse ++ st).map (am_tv E))) rfl (argsL := As.map (am_tv E)) (rest := st.map (am_tv E)) hlen (by rw [am_tv_rev]; simp [am_tv]) (by rw [C.2.1]; exact hd)
  obtain ⟨v, ⟨U', l2, c2, s2⟩, X', ⟨g', mk', t, L, e1, e2, hq', h1, hL', h2, h3⟩, st'⟩ := hK m meth c ⟨T.setVm vm₁, locs, cu, su⟩ { (F0 m pc ls (((Value.ref a :: As).reverse ++ st).map (am_tv E))) with stack := st.map (am_tv E) } (.invokespecial idx) mk (Value.ref (am_ad E a) :: As.map (am_tv E)).toArray X₁ rfl (hsz.trans C.2.2.2.1.symm) (by rw [C.2.1]; exact hd) (lv_room (by rw [am_cat_sum]; exact hro)) (X₁.named hnamed) ⟨hmc, hsl, hP (T.setVm vm₁) hT X₁.warmed⟩
  dsimp only [Pt.U, Pt.locs, Pt.cells, Pt.slots] at X' e1 e2 h1 h2 h3 st'
  subst h1; subst h2; subst h3
  exact ⟨v, (T.setVm vm₁).calling g' mk' (Value.ref (am_ad E a) :: As.map (am_tv E)).toArray, t, U', L, hT, X', hL', e1, e2, hq', fun target h => hstep₁ _ (by rw [doInvoke_state]; exact st'.trans h)⟩
end ZM2
