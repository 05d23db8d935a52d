/-! STRINGS: rules -/
section ZS
variable {U : Type} {l : Launch} {E : am_E} {ms : List am_M} {σ0 : am_S} {Y Yc : am_Y} {d mc sl pc cu su : Nat} {lv : List (Nat × Value)} {st stk vs : List Value} {σ : am_S} {code A B : Option U} {G : U → Option Value → am_S → Prop} {idx n : Nat}
theorem z_ldcS {a : Nat} (hd : decode Y.2.1 pc = .ok (.ldc idx, 2)) (hs : am_strAt Y.1.cls idx a) (k : Z l E ms σ0 Y d mc sl (pc + 2) lv (.ref a :: st) cu su σ code G) : Z l E ms σ0 Y d mc sl pc lv st cu su σ code G := sorry
theorem lk_str {a : Nat} {As : List Value} (hd : decode Y.2.1 pc = .ok (.invokevirtual idx, 3)) (hv : vs = .ref a :: As) (hn : As.length = n) (hp : am_np Yc.1.desc n) (ha : 1 ≤ a ∧ a ≤ 3) (w1 : Cond.methodLink Y.1.cls idx Yc.1 ∈ am_gt) (w2 : Cond.instanceMethod Yc.1 ∈ am_gt) (w3 : Cond.selects Yc.1.cls Yc.1 Yc.1 ∈ am_gt) (w5 : Cond.initialized Yc.1.cls ∈ am_gt) (w4 : am_code Yc ∈ am_gt) : LK l E ms Y pc Yc vs σ := sorry
end ZS
