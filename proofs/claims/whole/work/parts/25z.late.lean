section ZLT
variable {U : Type} {l : Launch} {E : am_E} {ms : List am_M} {σ0 : am_S} {Y Yc : am_Y} {d mc sl pc cu su : Nat} {lv : List (Nat × Value)} {st stk vs : List Value} {σ : am_S} {code A B : Option U} {G : U → Option Value → am_S → Prop} {idx n : Nat}
theorem z_sq {a b n t ci : Nat} {i : Int32} {q : vw_C} {C0 : String} (hd : decode Y.2.1 pc = .ok (.aastore, 1)) (ht : 4 ≤ t ∧ t < 7) (hty : am_aty t = .object C0) (hm : am_ar ms σ a t n) (hb : am_ob ms σ b ci) (hq : am_cls[ci]? = some q) (hy : q.1 = C0 ∨ (q.1, C0) ∈ am_yes) (hin : am_in i n = true)
    (kk : Z l E ms σ0 Y d mc sl (pc + 1) lv st cu su (sQ σ a i.toNatClampNeg (some b)) code G) : Z l E ms σ0 Y d mc sl pc lv (.ref b :: .int i :: .ref a :: st) cu su σ code G := by
  have key := z_astq (A := code) (st := st) (lv := lv) (σ0 := σ0) (cu := cu) (su := su) (d := d) (mc := mc) (sl := sl) (l := l) (E := E) (G := G) hd ht hty hm hb hq hy (fun _ => kk)
  rw [if_pos hin] at key
  exact key
theorem z_cule {cu' su' : Nat} (h : cu ≤ cu' ∧ su ≤ su') (k : Z l E ms σ0 Y d mc sl pc lv st cu' su' σ code G) : Z l E ms σ0 Y d mc sl pc lv st cu su σ code G :=
  fun u r σ' h1 h2 p e s m args below meth c H locs ls C HW hl => W.widen h.1 h.2 (k u r σ' h1 h2 p e s m args below meth c H locs ls C HW hl)
end ZLT
