/-! MORE RULES: pooled objects, returns, calls by class -/
theorem am_cis_ob {ms : List am_M} {σ : am_S} {a : Nat} {cis : List Nat} (hm : cis.contains (am_ci σ a) = true) (h9 : cis.contains 99 = false) : am_ob ms σ a (am_ci σ a) :=
  am_ob.d rfl (fun h => by rw [h] at hm; rw [hm] at h9; cases h9)
theorem am_tsout {x : Int32} {lo : Int} (cs : List Int32) (n : Nat) (hl : cs = (List.range n).map (fun (i : Nat) => Int32.ofInt (lo + i))) (h : ∀ c ∈ cs, ¬ x = c) : x.toInt < lo ∨ lo + n - 1 < x.toInt := by
  by_cases h1 : x.toInt < lo
  · exact Or.inl h1
  · refine Or.inr (Int.not_le.mp fun h2 => ?_)
    refine h x ?_ rfl
    rw [hl]
    refine List.mem_map.mpr ⟨(x.toInt - lo).toNat, List.mem_range.mpr (by omega), ?_⟩
    rw [show lo + ((x.toInt - lo).toNat : Int) = x.toInt by omega, Int32.ofInt_toInt]
section ZM
variable {U : Type} {l : Launch} {E : am_E} {ms : List am_M} {σ0 : am_S} {Y Yc : am_Y} {d mc sl pc cu su : Nat} {lv : List (Nat × Value)} {st stk vs : List Value} {σ : am_S} {code A B : Option U} {G : U → Option Value → am_S → Prop} {idx n : Nat}
theorem z_eqlv {lv' : List (Nat × Value)} (h : lv = lv') (k : Z l E ms σ0 Y d mc sl pc lv' st cu su σ code G) : Z l E ms σ0 Y d mc sl pc lv st cu su σ code G := h ▸ k
theorem z_putFIp {a k : Nat} {v : Int32} (cis : List Nat) (hd : decode Y.2.1 pc = .ok (.putfield idx, 3)) (hini : Y.1.name = "<init>") (hm : cis.contains (am_ci σ a) = true) (h9 : cis.contains 99 = false) (hf : ∀ ci ∈ cis, am_fi Y.1.cls idx ci k ∧ am_ty ci k = .int)
    (kk : Z l E ms σ0 Y d mc sl (pc + 3) lv st cu su (sF σ a k v) code G) : Z l E ms σ0 Y d mc sl pc lv (.int v :: .ref a :: st) cu su σ code G := by
  have hmem : am_ci σ a ∈ cis := by simpa using hm
  rcases am_cis_ob (ms := []) hm h9 with ⟨refs, h⟩ | ⟨refs, h⟩
  · simp at h
  · exact z_putFI hd hini refs h (hf _ hmem).1 (hf _ hmem).2 kk
theorem z_tsEq {dflt lo hi : Int} {offs : Array Int} {len : Nat} {x : Int32} (c : Int32) {off : Int} {tgt : Nat} (hd : decode Y.2.1 pc = .ok (.tableswitch dflt lo hi offs, len)) (hx : x = c) (h1 : ¬ c.toInt < lo) (h2 : ¬ hi < c.toInt) (ho : offs[(c.toInt - lo).toNat]? = some off) (ht : (pc : Int) + off = (tgt : Int)) (k : Z l E ms σ0 Y d mc sl tgt lv st cu su σ code G) : Z l E ms σ0 Y d mc sl pc lv (.int x :: st) cu su σ code G := by
  subst hx; exact z_tsIn hd h1 h2 ho ht k
theorem z_tsNe {dflt lo hi : Int} {offs : Array Int} {len : Nat} {x : Int32} {tgt : Nat} (cs : List Int32) (n : Nat) (hd : decode Y.2.1 pc = .ok (.tableswitch dflt lo hi offs, len)) (hl : cs = (List.range n).map (fun (i : Nat) => Int32.ofInt (lo + i))) (hn : hi = lo + n - 1) (h : ∀ c ∈ cs, ¬ x = c) (ht : (pc : Int) + dflt = (tgt : Int)) (k : Z l E ms σ0 Y d mc sl tgt lv st cu su σ code G) : Z l E ms σ0 Y d mc sl pc lv (.int x :: st) cu su σ code G :=
  z_tsOut hd (by rw [hn]; exact am_tsout cs n hl h) ht k
theorem z_lkEq {dflt : Int} {ps : Array (Int × Int)} {len : Nat} {x : Int32} (c : Int32) {off : Int} {tgt : Nat} (hd : decode Y.2.1 pc = .ok (.lookupswitch dflt ps, len)) (hp : (ps.toList.zip (ps.toList.drop 1)).all (fun (a, next) => a.1 < next.1) = true) (hx : x = c) (ho : Op.lookupswitch.offset ps.toList dflt c.toInt = off) (ht : (pc : Int) + off = (tgt : Int)) (k : Z l E ms σ0 Y d mc sl tgt lv st cu su σ code G) : Z l E ms σ0 Y d mc sl pc lv (.int x :: st) cu su σ code G := by
  subst hx; exact z_lookup hd hp ho ht k
-- returns of a whole method: pure (the cells stay), or with cells
theorem z_rI {v : Int32} (hd : decode Y.2.1 pc = .ok (.ireturn, 1)) (ht : Y.2.2.2 = some .int) (hm : cu ≤ mc ∧ su ≤ sl) : Z l E ms σ0 Y d mc sl pc lv [.int v] cu su σ (some v) (fun u r s => r = some (.int u) ∧ s = σ) :=
  z_iret hd ht (fun u h r σ' g => by cases h; exact g) hm
theorem z_rIs {v : Int32} (hd : decode Y.2.1 pc = .ok (.ireturn, 1)) (ht : Y.2.2.2 = some .int) (hm : cu ≤ mc ∧ su ≤ sl) : Z l E ms σ0 Y d mc sl pc lv [.int v] cu su σ (some (v, σ)) (fun u r s => r = some (.int u.1) ∧ s = u.2) :=
  z_iret hd ht (fun u h r σ' g => by cases h; exact g) hm
theorem z_rB {v : Int32} {b : Bool} (hv : v = bI b) (hd : decode Y.2.1 pc = .ok (.ireturn, 1)) (ht : Y.2.2.2 = some .boolean) (hm : cu ≤ mc ∧ su ≤ sl) : Z l E ms σ0 Y d mc sl pc lv [.int v] cu su σ (some b) (fun u r s => r = some (.int (bI u)) ∧ s = σ) := by
  subst hv; exact z_zret hd ht (bI_01 b) (fun u h r σ' g => by cases h; exact g) hm
theorem z_rBs {v : Int32} {b : Bool} (hv : v = bI b) (hd : decode Y.2.1 pc = .ok (.ireturn, 1)) (ht : Y.2.2.2 = some .boolean) (hm : cu ≤ mc ∧ su ≤ sl) : Z l E ms σ0 Y d mc sl pc lv [.int v] cu su σ (some (b, σ)) (fun u r s => r = some (.int (bI u.1)) ∧ s = u.2) := by
  subst hv; exact z_zret hd ht (bI_01 b) (fun u h r σ' g => by cases h; exact g) hm
theorem z_rL {v : Int64} (hd : decode Y.2.1 pc = .ok (.lreturn, 1)) (ht : Y.2.2.2 = some .long) (hm : cu ≤ mc ∧ su ≤ sl) : Z l E ms σ0 Y d mc sl pc lv [.long v] cu su σ (some v) (fun u r s => r = some (.long u) ∧ s = σ) :=
  z_lret hd ht (fun u h r σ' g => by cases h; exact g) hm
theorem z_rLs {v : Int64} (hd : decode Y.2.1 pc = .ok (.lreturn, 1)) (ht : Y.2.2.2 = some .long) (hm : cu ≤ mc ∧ su ≤ sl) : Z l E ms σ0 Y d mc sl pc lv [.long v] cu su σ (some (v, σ)) (fun u r s => r = some (.long u.1) ∧ s = u.2) :=
  z_lret hd ht (fun u h r σ' g => by cases h; exact g) hm
theorem z_rR {v : Nat} {nm : String} (hd : decode Y.2.1 pc = .ok (.areturn, 1)) (ht : Y.2.2.2 = some (.object nm)) (hm : cu ≤ mc ∧ su ≤ sl) : Z l E ms σ0 Y d mc sl pc lv [.ref v] cu su σ (some (some v)) (fun u r s => r = some (va_rf u) ∧ s = σ) :=
  z_aret hd ht (fun u h r σ' g => by cases h; exact g) hm
theorem z_rRN {nm : String} (hd : decode Y.2.1 pc = .ok (.areturn, 1)) (ht : Y.2.2.2 = some (.object nm)) (hm : cu ≤ mc ∧ su ≤ sl) : Z l E ms σ0 Y d mc sl pc lv [.null] cu su σ (some none) (fun u r s => r = some (va_rf u) ∧ s = σ) :=
  z_aretN hd ht (fun u h r σ' g => by cases h; exact g) hm
theorem z_rNs {v : Nat} {nm : String} (hd : decode Y.2.1 pc = .ok (.areturn, 1)) (ht : Y.2.2.2 = some (.object nm)) (hm : cu ≤ mc ∧ su ≤ sl) : Z l E ms σ0 Y d mc sl pc lv [.ref v] cu su σ (some (v, σ)) (fun u r s => r = some (.ref u.1) ∧ s = u.2) :=
  z_aret hd ht (fun u h r σ' g => by cases h; exact g) hm
theorem z_rVs (hd : decode Y.2.1 pc = .ok (.return_, 1)) (ht : Y.2.2.2 = none) (hm : cu ≤ mc ∧ su ≤ sl) : Z l E ms σ0 Y d mc sl pc lv [] cu su σ (some σ) (fun u r s => r = none ∧ s = u) :=
  z_vret hd ht (fun u h r σ' g => by cases h; exact g) hm
theorem z_rVp (hd : decode Y.2.1 pc = .ok (.return_, 1)) (ht : Y.2.2.2 = none) (hm : cu ≤ mc ∧ su ≤ sl) : Z l E ms σ0 Y d mc sl pc lv [] cu su σ (some ()) (fun _ r s => r = none ∧ s = σ) :=
  z_vret hd ht (fun u h r σ' g => by cases h; exact g) hm
/-- super.m(..) of a pooled object -/
theorem lk_SUp {a : Nat} {As : List Value} (cis : List Nat) (hm : cis.contains (am_ci σ a) = true) (h13 : cis.all (fun c => c < 13) = true) (hd : decode Y.2.1 pc = .ok (.invokespecial idx, 3)) (hv : vs = .ref a :: As) (hn : As.length = n) (hnm : Yc.1.name ≠ "<init>") (hp : am_np Yc.1.desc n) (hL : Yc.2.2.1 ≤ 45)
    (w1 : Cond.methodLink Y.1.cls idx Yc.1 ∈ am_gt) (w6 : Cond.sameMethod Yc.1.cls Yc.1.cls Yc.1.name Yc.1.desc ∈ am_gt) (w7 : Cond.superclass Y.1.cls Yc.1.cls ∈ am_gt) (w2 : Cond.instanceMethod Yc.1 ∈ am_gt) (w5 : Cond.initialized Yc.1.cls ∈ am_gt) (w4 : am_code Yc ∈ am_gt) : LK l E ms Y pc Yc vs σ := by
  have hmem : am_ci σ a ∈ cis := by simpa using hm
  have hlt : am_ci σ a < 13 := by simpa using List.all_eq_true.mp h13 _ hmem
  have h9 : am_ci σ a ≠ 99 := by omega
  have hq : am_cls[am_ci σ a]? = some am_cls[am_ci σ a] := List.getElem?_eq_getElem hlt
  exact lk_SU hd hv hn (am_ob.d rfl h9) hq hnm hp hL w1 w6 w7 w2 w5 w4
/-- a call whose method the receiver's class tells -/
theorem z_callD {V : Type} {fc : Option V} {F : V → Option U} {er : V → Option Value} {es : V → am_S} (hst : stk = vs.reverse ++ st) (hmc : cu ≤ mc ∧ su ≤ sl) (hro : (st.map fun v => v.category).sum ≤ 8)
    (hcert : ∀ v, fc = some v → ∃ (Yc : am_Y) (k : Nat), LK l E ms Y pc Yc vs σ ∧ k + 1 ≤ d ∧ Ctr l E ms Yc k 0 0 vs σ (er v) (es v)) (kk : ∀ v, fc = some v → Z l E ms σ0 Y d mc sl (pc + 3) lv ((er v).toList ++ st) (cu + 0) (su + 0) (es v) (F v) G) : Z l E ms σ0 Y d mc sl pc lv stk cu su σ (fc.bind F) G := by
  cases hf : fc with
  | none => exact z_none
  | some v =>
    obtain ⟨Yc, k, h1, h2, h3⟩ := hcert v hf
    have key := z_callX (σ0 := σ0) (lv := lv) (mc := mc) (sl := sl) (cu := cu) (su := su) (G := G) (ms' := ms) (fc := some v) (F := F) (er := er) (es := es) hst h1 h2 (mc' := 0) (sl' := 0) ⟨hmc.1, hmc.2⟩ hro (am_kp.rf _) (fun w hw => by cases hw; exact h3) (fun w hw => by cases hw; exact kk v hf)
    exact key
theorem z_callDI {fc : Option Int32} {F : Int32 → Option U} (vs st : List Value) (hst : stk = vs.reverse ++ st) (hmc : cu ≤ mc ∧ su ≤ sl) (hro : (st.map fun v => v.category).sum ≤ 8)
    (hcert : ∀ v, fc = some v → ∃ (Yc : am_Y) (k : Nat), LK l E ms Y pc Yc vs σ ∧ k + 1 ≤ d ∧ Ctr l E ms Yc k 0 0 vs σ (some (.int v)) σ) (kk : ∀ v, fc = some v → Z l E ms σ0 Y d mc sl (pc + 3) lv (.int v :: st) (cu + 0) (su + 0) σ (F v) G) : Z l E ms σ0 Y d mc sl pc lv stk cu su σ (fc.bind F) G :=
  z_callD (er := fun v => some (.int v)) (es := fun _ => σ) hst hmc hro hcert kk
theorem z_callDB {fc : Option Bool} {F : Bool → Option U} (vs st : List Value) (hst : stk = vs.reverse ++ st) (hmc : cu ≤ mc ∧ su ≤ sl) (hro : (st.map fun v => v.category).sum ≤ 8)
    (hcert : ∀ v, fc = some v → ∃ (Yc : am_Y) (k : Nat), LK l E ms Y pc Yc vs σ ∧ k + 1 ≤ d ∧ Ctr l E ms Yc k 0 0 vs σ (some (.int (bI v))) σ) (kk : ∀ v, fc = some v → Z l E ms σ0 Y d mc sl (pc + 3) lv (.int (bI v) :: st) (cu + 0) (su + 0) σ (F v) G) : Z l E ms σ0 Y d mc sl pc lv stk cu su σ (fc.bind F) G :=
  z_callD (er := fun v => some (.int (bI v))) (es := fun _ => σ) hst hmc hro hcert kk
theorem z_callDV {fc : Option am_S} {F : am_S → Option U} (vs st : List Value) (hst : stk = vs.reverse ++ st) (hmc : cu ≤ mc ∧ su ≤ sl) (hro : (st.map fun v => v.category).sum ≤ 8)
    (hcert : ∀ v, fc = some v → ∃ (Yc : am_Y) (k : Nat), LK l E ms Y pc Yc vs σ ∧ k + 1 ≤ d ∧ Ctr l E ms Yc k 0 0 vs σ none v) (kk : ∀ σ1, fc = some σ1 → Z l E ms σ0 Y d mc sl (pc + 3) lv st (cu + 0) (su + 0) σ1 (F σ1) G) : Z l E ms σ0 Y d mc sl pc lv stk cu su σ (fc.bind F) G :=
  z_callD (er := fun _ => none) (es := fun v => v) hst hmc hro hcert kk
end ZM
