/-! THE START: the relation holds -/
abbrev st_0 : am_S := st11 ((fun _ _ => 0), (fun _ _ => 0), (fun _ _ => none))
theorem st_xF {x : am_D} {a k : Nat} {v : Int32} {b j : Nat} (h : b ≠ a) : (xF x a k v).1 b j = x.1 b j := by
  show am_up x.1 a k v b j = _
  unfold am_up
  rw [if_neg h]
theorem st_xQ {x : am_D} {a k : Nat} {v : Option Nat} {b j : Nat} (h : b ≠ a) : (xQ x a k v).2.2 b j = x.2.2 b j := by
  show am_up x.2.2 a k v b j = _
  unfold am_up
  rw [if_neg h]
theorem st_zF {a k : Nat} (h : a ≠ 28 ∧ a ≠ 30 ∧ a ≠ 32 ∧ a ≠ 34) : fF st_0 a k = 0 :=
  (st_xF (k := 0) (v := -1) h.2.2.2).trans ((st_xF (k := 0) (v := -1) h.2.2.1).trans ((st_xF (k := 0) (v := -1) h.2.1).trans (st_xF (k := 0) (v := -1) h.1)))
theorem st_zQ {a k : Nat} (h : a ≠ 26) : fQ st_0 a k = none :=
  (st_xQ (k := 3) (v := some 34) h).trans ((st_xQ (k := 2) (v := some 32) h).trans ((st_xQ (k := 1) (v := some 30) h).trans (st_xQ (k := 0) (v := some 28) h)))
theorem st_fin1 {N : Nat} (hN : 200 ≤ N) : ∃ σ1 V L, f11_fin N st_0 = some σ1 ∧ σ1.1 = msC ∧ am_zr σ1.2 36 ∧ q_Ag (fun a k => (11 ≤ a ∧ a ≤ 14) ∧ ¬ (a = 11 ∧ k = 5)) st_0 σ1 ∧ tx_T st_b 56 = .inr (V, L) ∧ fF σ1 11 1 = 0 ∧ fF σ1 11 4 = nI 1 ∧ ∀ k, k < 3 → ∃ s : Nat, fF σ1 14 (3 * 0 + k) = nI s ∧ s + (L k).length < 160 ∧ (∀ i (h : i < (L k).length), fF σ1 13 (160 * 0 + (s + i)) = (L k)[i]) ∧ fF σ1 13 (160 * 0 + (s + (L k).length)) = nI 10059 := by
  obtain ⟨σa, e1, p1, g1, f1, v1⟩ := st_add hN 56 0 N st_0 (by omega) (by omega) (st_zF (by decide)) (fun j hj => by omega)
  have kS : k_S st_b 56 0 σa := ⟨by omega, by omega, f1, ((g1.2 11 4 (by omega)).1).trans (st_zF (by decide)), fun i hi => ⟨by have := st_lt i hi; omega, v1 i hi⟩⟩
  obtain ⟨v, σ1, e2, g2, o1, o2⟩ := k_text hN kS
  have p2 : w_P σa σ1 := w_rt (w_P.rf σa) _ e2
  have p := p1.tr p2
  cases hz : tx_T st_b 56 with
  | inl f =>
    have := st_ok
    rw [hz] at this
    exact absurd (show false = true from this) (by decide)
  | inr q =>
    rw [hz] at o2
    obtain ⟨-, o4, o6⟩ := o2
    have g : q_Ag (fun a k => (11 ≤ a ∧ a ≤ 14) ∧ ¬ (a = 11 ∧ k = 5)) st_0 σ1 := (g1.wk (fun a k x => by omega)).tr (g2.wk (fun a k x => by unfold k_s4 k_s3 k_s2 at x; omega))
    refine ⟨σ1, q.1, q.2, ?_, ?_, ?_, g, rfl, o1, o4, o6⟩
    · unfold f11_fin f10_addSigns
      rw [show (0 : Int32) = nI 0 from rfl, e1, Option.bind_some, e2]; rfl
    · rw [p.1]; rfl
    · intro a ha j
      refine ⟨?_, ?_, ?_⟩
      · show fF σ1 a j = 0
        rw [(g.2 a j (by omega)).1]; exact st_zF (by omega)
      · rw [p.2]; rfl
      · rw [p.2]
        show fQ st_0 a j = none
        exact st_zQ (by omega)
theorem st_fin2 {N : Nat} (hN : 200 ≤ N) (x : am_D) : ∃ σ2, f12_fin N (st12 x) = some σ2 ∧ σ2.1 = msM ∧ q_Ag (fun a k => a = 37 ∨ (a = 38 ∧ k = 0) ∨ (a = 36 ∧ k = 3)) (st12 x) σ2 ∧ fF σ2 38 0 = nI 56 ∧ fF σ2 36 3 = nI 1 ∧ ∀ i, i < 56 → fF σ2 37 i = nI (st_b i) := by
  obtain ⟨s1, e1, p1, g1, v1⟩ := st_sp (N := N) (x := 0) (by omega) st_w0 8 0 N (st12 x) (by omega) (by omega) (fun j hj => by omega)
  obtain ⟨s2, e2, p2, g2, v2⟩ := st_sp (N := N) (x := 8) (by omega) st_w1 8 0 N s1 (by omega) (by omega) v1
  obtain ⟨s3, e3, p3, g3, v3⟩ := st_sp (N := N) (x := 16) (by omega) st_w2 8 0 N s2 (by omega) (by omega) v2
  obtain ⟨s4, e4, p4, g4, v4⟩ := st_sp (N := N) (x := 24) (by omega) st_w3 8 0 N s3 (by omega) (by omega) v3
  obtain ⟨s5, e5, p5, g5, v5⟩ := st_sp (N := N) (x := 32) (by omega) st_w4 8 0 N s4 (by omega) (by omega) v4
  obtain ⟨s6, e6, p6, g6, v6⟩ := st_sp (N := N) (x := 40) (by omega) st_w5 8 0 N s5 (by omega) (by omega) v5
  obtain ⟨s7, e7, p7, g7, v7⟩ := st_sp (N := N) (x := 48) (by omega) st_w6 8 0 N s6 (by omega) (by omega) v6
  have p := (p1.tr (p2.tr (p3.tr (p4.tr (p5.tr (p6.tr p7))))))
  have g := (g1.tr (g2.tr (g3.tr (g4.tr (g5.tr (g6.tr g7))))))
  have g' : q_Ag (fun a k => a = 37 ∨ (a = 38 ∧ k = 0) ∨ (a = 36 ∧ k = 3)) (st12 x) (sF (sF s7 38 0 (56 : Int32)) 36 3 (1 : Int32)) := ((g.wk (T := fun a k => a = 37 ∨ (a = 38 ∧ k = 0) ∨ (a = 36 ∧ k = 3)) (fun a k y => Or.inl y)).sF (Or.inr (Or.inl ⟨rfl, rfl⟩))).sF (Or.inr (Or.inr ⟨rfl, rfl⟩))
  refine ⟨sF (sF s7 38 0 (56 : Int32)) 36 3 (1 : Int32), ?_, ?_, g', ?_, q_FFe, fun i hi => ?_⟩
  · unfold f12_fin f12_spell
    have e1' : f12_spell_L3 N N (0 : Int32) (7813570961175819296 : Int64) (0 : Int32) (st12 x) = some s1 := e1
    have e2' : f12_spell_L3 N N (8 : Int32) (3251726926966235195 : Int64) (0 : Int32) s1 = some s2 := e2
    have e3' : f12_spell_L3 N N (16 : Int32) (2337494003569991729 : Int64) (0 : Int32) s2 = some s3 := e3
    have e4' : f12_spell_L3 N N (24 : Int32) (3467821330288959844 : Int64) (0 : Int32) s3 = some s4 := e4
    have e5' : f12_spell_L3 N N (32 : Int32) (8295676831485410080 : Int64) (0 : Int32) s4 = some s5 := e5
    have e6' : f12_spell_L3 N N (40 : Int32) (8391739297986781229 : Int64) (0 : Int32) s5 = some s6 := e6
    have e7' : f12_spell_L3 N N (48 : Int32) (2338623240851890235 : Int64) (0 : Int32) s6 = some s7 := e7
    rw [e1', Option.bind_some, e2', Option.bind_some, e3', Option.bind_some, e4', Option.bind_some, e5', Option.bind_some, e6', Option.bind_some, e7', Option.bind_some, if_pos (by decide)]
    rfl
  · show s7.1 = msM
    rw [p.1]; rfl
  · rw [q_FFa (by decide), q_FFe]; rfl
  · rw [q_FFa (by decide), q_FFa (by decide)]
    exact v7 i (by omega)
theorem st_RX {N : Nat} (hN : 200 ≤ N) : ∃ σ1 σ2, f11_fin N st_0 = some σ1 ∧ σ1.1 = msC ∧ am_zr σ1.2 36 ∧ f12_fin N (st12 σ1.2) = some σ2 ∧ am_kp msM σ2.1 ∧ RX σ2 := by
  obtain ⟨σ1, V, L, e1, k1, z1, g1, hz, t1, t2, t3⟩ := st_fin1 hN
  obtain ⟨σ2, e2, k2, g2, u1, u2, u3⟩ := st_fin2 hN σ1.2
  have F2 : ∀ a k, ¬ (a = 37 ∨ (a = 38 ∧ k = 0) ∨ (a = 36 ∧ k = 3)) → fF σ2 a k = fF σ1 a k := fun a k h => (g2.2 a k h).1
  have F0 : ∀ a k, ¬ (a = 37 ∨ (a = 38 ∧ k = 0) ∨ (a = 36 ∧ k = 3)) → ¬ ((11 ≤ a ∧ a ≤ 14) ∧ ¬ (a = 11 ∧ k = 5)) → fF σ2 a k = fF st_0 a k := fun a k h h' => (F2 a k h).trans (g1.2 a k h').1
  have Z : ∀ a k, ¬ (a = 37 ∨ (a = 38 ∧ k = 0) ∨ (a = 36 ∧ k = 3)) → ¬ ((11 ≤ a ∧ a ≤ 14) ∧ ¬ (a = 11 ∧ k = 5)) → a ≠ 28 ∧ a ≠ 30 ∧ a ≠ 32 ∧ a ≠ 34 → fF σ2 a k = 0 := fun a k h h' h'' => (F0 a k h h').trans (st_zF h'')
  have Q0 : ∀ a k, ¬ (a = 37 ∨ (a = 38 ∧ k = 0) ∨ (a = 36 ∧ k = 3)) → ¬ ((11 ≤ a ∧ a ≤ 14) ∧ ¬ (a = 11 ∧ k = 5)) → fQ σ2 a k = fQ st_0 a k := fun a k h h' => (g2.2 a k h).2.trans (g1.2 a k h').2
  have kp : am_kp msM σ2.1 := by rw [k2]; exact am_kp.rf _
  refine ⟨σ1, σ2, e1, k1, z1, e2, kp, 0, 0, 1, fun _ => 0, fun _ => 0, ⟨kp, ?_⟩, ⟨by omega, Z _ _ (by omega) (by omega) (by omega), Z _ _ (by omega) (by omega) (by omega), fun i hi => absurd hi (Nat.not_lt_zero i)⟩, ⟨by omega, Z _ _ (by omega) (by omega) (by omega), Z _ _ (by omega) (by omega) (by omega), fun i hi => absurd hi (Nat.not_lt_zero i)⟩, ?_, ⟨?_, ?_⟩, ?_, ⟨⟨by omega, by omega⟩, (F2 11 4 (by omega)).trans t2, u2, ⟨0, by omega, Z _ _ (by omega) (by omega) (by omega), Z _ _ (by omega) (by omega) (by omega)⟩, ⟨0, by omega, (F2 11 1 (by omega)).trans t1, Z _ _ (by omega) (by omega) (by omega), fun i hi => absurd hi (Nat.not_lt_zero i)⟩, ?_⟩, ?_⟩
  · rw [k2]; decide
  · exact ⟨(Z _ _ (by omega) (by omega) (by omega)).trans (Z _ _ (by omega) (by omega) (by omega)).symm, (Z _ _ (by omega) (by omega) (by omega)).trans (Z _ _ (by omega) (by omega) (by omega)).symm⟩
  · intro k hk
    have z56 : ∀ k, fF σ2 56 k = 0 := fun k => Z _ _ (by omega) (by omega) (by omega)
    rw [z56, z56, Z 22 k (by omega) (by omega) (by omega)]
    exact ⟨rfl, by decide, rfl⟩
  · intro k hk
    have z63 : ∀ k, fF σ2 63 k = 0 := fun k => Z _ _ (by omega) (by omega) (by omega)
    rw [z63, z63, Z 23 k (by omega) (by omega) (by omega)]
    exact ⟨rfl, by decide, rfl⟩
  · intro s hs
    have hv : s = 0 ∨ s = 1 ∨ s = 2 ∨ s = 3 := by omega
    rcases hv with rfl | rfl | rfl | rfl
    · exact ⟨(Q0 26 0 (by omega) (by omega)).trans rfl, Or.inl ⟨(F0 28 0 (by omega) (by omega)).trans rfl, Z _ _ (by omega) (by omega) (by omega)⟩⟩
    · exact ⟨(Q0 26 1 (by omega) (by omega)).trans rfl, Or.inl ⟨(F0 30 0 (by omega) (by omega)).trans rfl, Z _ _ (by omega) (by omega) (by omega)⟩⟩
    · exact ⟨(Q0 26 2 (by omega) (by omega)).trans rfl, Or.inl ⟨(F0 32 0 (by omega) (by omega)).trans rfl, Z _ _ (by omega) (by omega) (by omega)⟩⟩
    · exact ⟨(Q0 26 3 (by omega) (by omega)).trans rfl, Or.inl ⟨(F0 34 0 (by omega) (by omega)).trans rfl, Z _ _ (by omega) (by omega) (by omega)⟩⟩
  · intro t ht
    have : t = 0 := by omega
    subst this
    refine ⟨V, st_b, 56, L, by omega, u1, fun i hi => ⟨by have := st_lt i hi; omega, ?_⟩, hz, fun k hk => ?_⟩
    · show fF σ2 37 (160 * 0 + i) = _
      rw [show 160 * 0 + i = i by omega]; exact u3 i hi
    · obtain ⟨s, s1, s2, s3, s4⟩ := t3 k hk
      refine ⟨s, (F2 14 _ (by omega)).trans s1, s2, fun i hi => (F2 13 _ (by omega)).trans (s3 i hi), (F2 13 _ (by omega)).trans s4⟩
  · exact ⟨(Z 8 12 (by omega) (by omega) (by omega)).trans (Z 36 48 (by omega) (by omega) (by omega)).symm, Or.inl (Z _ _ (by omega) (by omega) (by omega))⟩
theorem st_HM : ∀ E : am_E, eL E ≤ 3072 → ∃ (N : Nat) (σ1 σ2 σ' : am_S), f11_fin N (st11 ((fun _ _ => 0), (fun _ _ => 0), (fun _ _ => none))) = some σ1 ∧ σ1.1 = msC ∧ am_zr σ1.2 36 ∧ f12_fin N (st12 σ1.2) = some σ2 ∧ am_kp msM σ2.1 ∧ fL_law_L18 E N N 0 σ2 = some (true, σ') := by
  intro E hL
  obtain ⟨σ1, σ2, e1, k1, z1, e2, k2, hX⟩ := st_RX (N := 10000) (by omega)
  obtain ⟨σ', h⟩ := lw_loop (E := E) (N := 10000) (by omega) hL 600 0 10000 σ2 (by omega) (by omega) (by omega) hX
  exact ⟨10000, σ1, σ2, σ', e1, k1, z1, e2, k2, h⟩
