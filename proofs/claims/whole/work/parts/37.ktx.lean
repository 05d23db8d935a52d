/-! THE TEXTS: the class reads the tape -/
def k_s3 (t a k : Nat) : Prop := k_s2 t a k ∨ (a = 14 ∧ 3 * t ≤ k)
def k_pt (N : Nat) (σ : am_S) (x1 : Int32) : Option am_S := (f10_pass N (sF σ 14 (((fF σ 11 4) * (3 : Int32)) + x1).toNatClampNeg (fF σ 11 7)) ((6 : Int32) + x1)).bind fun s14 => ((f10_read N s14 (0 : Int32) (0 : Int32)).bind fun s17 => ((f10_pass N s17 (59 : Int32)).bind fun s20 => (f10_write s20 (10059 : Int32))))
theorem k_L33 (N n : Nat) (x1 : Int32) (σ : am_S) : f10_readTape_L33 N (n + 1) x1 σ = if (3 : Int32) ≤ x1 then (f10_readTape_J88 N σ) else (if am_in (((fF σ 11 4) * (3 : Int32)) + x1) 18 = true then ((k_pt N σ x1).bind fun s23 => f10_readTape_L33 N n (x1 + (1 : Int32)) s23) else none) := by
  have assoc : ∀ (x : Option am_S) (f g : am_S → Option am_S) (h : am_S → Option (Int32 × am_S)) (w : am_S → Option am_S), (x.bind fun a => (f a).bind fun b => (g b).bind fun c => (w c).bind fun d => h d) = (x.bind fun a => (f a).bind fun b => (g b).bind fun c => w c).bind h := by
    intro x f g h w
    cases x with
    | none => rfl
    | some a =>
      simp only [Option.bind_some]
      cases f a with
      | none => rfl
      | some b =>
        simp only [Option.bind_some]
        cases g b with
        | none => rfl
        | some c => simp only [Option.bind_some]
  conv => lhs; unfold f10_readTape_L33
  unfold k_pt
  rw [assoc]
theorem k_ptF {N : Nat} (hN : 200 ≤ N) {b : Nat → Nat} {n t f k : Nat} {σ : am_S} (h : k_F b n t f σ) (hk : k < 3) : ∃ σ', k_pt N σ (nI k) = some σ' ∧ k_F b n t f σ' ∧ q_Ag (k_s3 t) σ σ' := by
  obtain ⟨h1, h2, h3, h4, len, h5, h6⟩ := h
  have ht := h1.2.1
  have g0 : q_Ag (fun a k => a = 14 ∧ 3 * t ≤ k) σ (sF σ 14 (t * 3 + k) (nI len)) := (q_Ag.rf σ).sF ⟨rfl, by omega⟩
  have F0 : k_F b n t f (sF σ 14 (t * 3 + k) (nI len)) := ⟨h1.mv g0 (by omega) (by omega) (fun i => by omega), h2, h3, h4, len, h5, h6⟩
  obtain ⟨σ1, e1, k1, g1⟩ := k_paF (N := N) (c := 6 + k) F0 (by omega) (by omega)
  obtain ⟨σ2, e2, k2, g2⟩ := k_rdF hN (o := nI 0) 5 0 100 σ1 rfl (by omega) k1
  obtain ⟨σ3, e3, k3, g3⟩ := k_paF (N := N) (c := 59) k2 (by decide) (by decide)
  obtain ⟨σ4, e4, k4, g4⟩ := k_wrF (nI 10059) k3
  refine ⟨σ4, ?_, k4, (g0.wk (fun a k x => Or.inr x)).tr (((g1.tr g2).tr (g3.tr g4)).wk (fun a k x => Or.inl x))⟩
  unfold k_pt f10_read
  rw [h1.2.2.2.1, h6, show (3 : Int32) = nI 3 from rfl, pk_mul, nI_add, nI_clamp (by omega), show (6 : Int32) = nI 6 from rfl, nI_add, e1, Option.bind_some, show (0 : Int32) = nI 0 from rfl, e2, Option.bind_some, show (59 : Int32) = nI 59 from rfl, e3, Option.bind_some]
  exact e4
def k_pok (b : Nat → Nat) (n t p p' len k : Nat) (L : List Int32) (σ σ' : am_S) : Prop := k_ok b n t p' len (L ++ [nI 10059]) σ σ' ∧ p + L.length + 1 ≤ p' ∧ p' ≤ n ∧ fF σ' 14 (3 * t + k) = nI len ∧ ∀ j, j ≠ 3 * t + k → fF σ' 14 j = fF σ 14 j
theorem k_ptG {N : Nat} (hN : 200 ≤ N) {b : Nat → Nat} {n t p len k : Nat} {σ : am_S} (h : k_G b n t p len σ) (hp : p ≤ n) (hl : len ≤ p) (hk : k < 3) : ∃ σ', k_pt N σ (nI k) = some σ' ∧ q_Ag (k_s3 t) σ σ' ∧ (match tx_pt b n (6 + k) p with
    | .inl f => k_F b n t f σ'
    | .inr r => k_G b n t r.1 (len + (r.2.2.length + 1)) σ' ∧ p + r.2.2.length + 1 ≤ r.1 ∧ r.1 ≤ n ∧ fF σ' 14 (3 * t + k) = nI len ∧ (∀ j, j ≠ 3 * t + k → fF σ' 14 j = fF σ 14 j) ∧ (∀ k, k < 160 * t + len → fF σ' 13 k = fF σ 13 k) ∧ (∀ i (h : i < r.2.2.length), fF σ' 13 (160 * t + (len + i)) = r.2.2[i]) ∧ fF σ' 13 (160 * t + (len + r.2.2.length)) = nI 10059) := by
  have hn := h.1.1
  have ht := h.1.2.1
  have g0 : q_Ag (fun a k => a = 14 ∧ 3 * t ≤ k) σ (sF σ 14 (t * 3 + k) (nI len)) := (q_Ag.rf σ).sF ⟨rfl, by omega⟩
  have G0 : k_G b n t p len (sF σ 14 (t * 3 + k) (nI len)) := ⟨h.1.mv g0 (by omega) (by omega) (fun i => by omega), h.2.1, h.2.2.1, h.2.2.2⟩
  have g0' := g0.wk (T := k_s3 t) (fun a k x => Or.inr x)
  have hpt : k_pt N σ (nI k) = (f10_pass N (sF σ 14 (t * 3 + k) (nI len)) (nI (6 + k))).bind fun s14 => (((gT N 100).1 s14 (nI 0) (nI 0)).bind fun s17 => ((f10_pass N s17 (nI 59)).bind fun s20 => (f10_write s20 (nI 10059)))) := by
    unfold k_pt f10_read
    rw [h.1.2.2.2.1, h.2.2.2, show (3 : Int32) = nI 3 from rfl, pk_mul, nI_add, nI_clamp (by omega), show (6 : Int32) = nI 6 from rfl, nI_add]
    rfl
  have fail : ∀ (f : Nat) (σ3 : am_S), k_F b n t f σ3 → ∃ σ', f10_write σ3 (nI 10059) = some σ' ∧ k_F b n t f σ' ∧ q_Ag (k_s2 t) σ3 σ' := fun f σ3 k3 => k_wrF (nI 10059) k3
  rw [hpt]
  obtain ⟨σ1, e1, k1⟩ := k_paG hN (c := 6 + k) G0 hp (by omega) (by omega) (by omega)
  rw [e1, Option.bind_some]
  unfold tx_pt
  by_cases c1 : tx_c b n p = 6 + k
  · rw [if_pos c1] at k1
    rw [if_pos c1]
    have k1' : k_ok b n t (tx_n b n p) len [] (sF σ 14 (t * 3 + k) (nI len)) σ1 := k1
    have h2 := tx_n_gt (b := b) (n := n) (p := p) (by omega)
    have h3 := tx_f_ge b n p
    obtain ⟨σ2, e2, k2⟩ := k_rd hN 36 100 0 0 (tx_n b n p) len σ1 (by omega) (by omega) (by omega) (by omega) h2.2.2 (by omega) k1'.1
    rw [e2, Option.bind_some]
    cases hr : tx_rd b n 36 0 0 (tx_n b n p) with
    | inl x =>
      rw [hr] at k2
      obtain ⟨k2, g2⟩ := k2
      obtain ⟨σ3, e3, k3, g3⟩ := k_paF (N := N) (c := 59) k2 (by decide) (by decide)
      rw [e3, Option.bind_some]
      obtain ⟨σ4, e4, k4, g4⟩ := fail x σ3 k3
      exact ⟨σ4, e4, g0'.tr ((k1'.2.1.tr (g2.tr (g3.tr g4))).wk (fun a k x => Or.inl x)), k4⟩
    | inr r =>
      rw [hr] at k2
      have k2' : k_ok b n t r.1 len r.2.2 σ1 σ2 := k2
      have h4 := tx_rd_go b n 36 0 0 (tx_n b n p) h2.2.2 r hr
      obtain ⟨σ3, e3, k3⟩ := k_paG hN (c := 59) k2'.1 h4.2 (by omega) (by decide) (by decide)
      rw [e3, Option.bind_some]
      by_cases c2 : tx_c b n r.1 = 59
      · rw [if_pos c2] at k3
        have k3' : k_ok b n t (tx_n b n r.1) (len + r.2.2.length) [] σ2 σ3 := k3
        have h5 := tx_n_gt (b := b) (n := n) (p := r.1) (by omega)
        have h6 := tx_f_ge b n r.1
        obtain ⟨σ4, e4, k4⟩ := k_wrG (nI 10059) k3'.1 (by show len + r.2.2.length < 160; omega)
        have k34 := k3'.tr (M := [nI 10059]) (p' := tx_n b n r.1) (σ'' := σ4) k4
        have k24 := k2'.tr k34
        have k14 := k1'.tr (M := r.2.2 ++ ([] ++ [nI 10059])) (p' := tx_n b n r.1) (σ'' := σ4) k24
        have k14' : k_ok b n t (tx_n b n r.1) len (r.2.2 ++ [nI 10059]) (sF σ 14 (t * 3 + k) (nI len)) σ4 := k14
        have e14 : fF σ4 14 = fF (sF σ 14 (t * 3 + k) (nI len)) 14 := funext fun j => (k14'.2.1.2 14 j (by unfold k_s2; omega)).1
        refine ⟨σ4, e4, g0'.tr (k14'.2.1.wk (fun a k x => Or.inl x)), ?_⟩
        have hgo : (if tx_c b n r.1 = 59 then (.inr (tx_n b n r.1, r.2.1, r.2.2) : tx_Z) else .inl (tx_f b n r.1)) = .inr (tx_n b n r.1, r.2.1, r.2.2) := if_pos c2
        simp only [hgo]
        refine ⟨?_, by omega, h5.2.2, ?_, fun j hj => ?_, fun k hk => ?_, fun i hi => ?_, ?_⟩
        · have := k14'.1
          rw [List.length_append] at this
          exact this
        · rw [e14, show 3 * t + k = t * 3 + k by omega, q_FFe]
        · rw [e14, q_FFk (by omega)]
        · rw [k14'.2.2.1 k hk, q_FFa (by decide)]
        · have := k14'.2.2.2 i (by rw [List.length_append]; omega)
          rw [List.getElem_append_left hi] at this
          rw [← this, show 160 * t + (len + i) = 160 * t + len + i by omega]
        · have := k14'.2.2.2 r.2.2.length (by rw [List.length_append]; simp)
          rw [List.getElem_append_right (by omega)] at this
          rw [show 160 * t + (len + r.2.2.length) = 160 * t + len + r.2.2.length by omega, this]
          simp
      · rw [if_neg c2] at k3
        obtain ⟨k3, g3⟩ := k3
        obtain ⟨σ4, e4, k4, g4⟩ := fail _ σ3 k3
        refine ⟨σ4, e4, g0'.tr ((k1'.2.1.tr (k2'.2.1.tr (g3.tr g4))).wk (fun a k x => Or.inl x)), ?_⟩
        have hgo : (if tx_c b n r.1 = 59 then (.inr (tx_n b n r.1, r.2.1, r.2.2) : tx_Z) else .inl (tx_f b n r.1)) = .inl (tx_f b n r.1) := if_neg c2
        simp only [hgo]
        exact k4
  · rw [if_neg c1] at k1
    rw [if_neg c1]
    obtain ⟨k1, g1⟩ := k1
    obtain ⟨σ2, e2, k2, g2⟩ := k_rdF hN (o := nI 0) 5 0 100 σ1 rfl (by omega) k1
    rw [e2, Option.bind_some]
    obtain ⟨σ3, e3, k3, g3⟩ := k_paF (N := N) (c := 59) k2 (by decide) (by decide)
    rw [e3, Option.bind_some]
    obtain ⟨σ4, e4, k4, g4⟩ := fail _ σ3 k3
    exact ⟨σ4, e4, g0'.tr (((g1.tr g2).tr (g3.tr g4)).wk (fun a k x => Or.inl x)), k4⟩
/-- what the class's text() may touch -/
def k_s4 (t a k : Nat) : Prop := k_s3 t a k ∨ (a = 11 ∧ (k = 1 ∨ k = 4))
def k_end (b : Nat → Nat) (n t : Nat) (σ σ' : am_S) (v : Int32) (z : tx_TZ) : Prop := q_Ag (k_s4 t) σ σ' ∧ fF σ' 11 1 = 0 ∧ (match z with
  | .inl f => v = -100 - nI f ∧ fF σ' 11 4 = nI t
  | .inr q => v = nI t ∧ fF σ' 11 4 = nI (t + 1) ∧ ∀ k, k < 3 → ∃ s : Nat, fF σ' 14 (3 * t + k) = nI s ∧ s + (q.2 k).length < 160 ∧ (∀ i (h : i < (q.2 k).length), fF σ' 13 (160 * t + (s + i)) = (q.2 k)[i]) ∧ fF σ' 13 (160 * t + (s + (q.2 k).length)) = nI 10059)
theorem k_J88F {N : Nat} {b : Nat → Nat} {n t f : Nat} {σ : am_S} (h : k_F b n t f σ) : ∃ σ', f10_readTape_J88 N σ = some (-100 - nI f, σ') ∧ q_Ag (k_s4 t) σ σ' ∧ fF σ' 11 1 = 0 ∧ fF σ' 11 4 = nI t := by
  unfold f10_readTape_J88
  rw [h.2.2.2.1, if_neg (by decide)]
  obtain ⟨σ1, e1, k1, g1⟩ := k_refF h
  rw [e1, Option.bind_some, q_FFk (by decide), k1.2.2.1, if_neg (nI_m1 k1.2.1)]
  exact ⟨_, rfl, (g1.wk (fun a k x => Or.inl (Or.inl x))).sF (Or.inr ⟨rfl, Or.inl rfl⟩), q_FFe, (q_FFk (by decide)).trans k1.1.2.2.2.1⟩
theorem k_LF {N : Nat} (hN : 200 ≤ N) {b : Nat → Nat} {n t f : Nat} : ∀ (d k n' : Nat) (σ : am_S), k + d = 3 → d < n' → k_F b n t f σ → ∃ σ', f10_readTape_L33 N n' (nI k) σ = some (-100 - nI f, σ') ∧ q_Ag (k_s4 t) σ σ' ∧ fF σ' 11 1 = 0 ∧ fF σ' 11 4 = nI t := by
  intro d
  induction d with
  | zero =>
    intro k n' σ hk hn h
    obtain ⟨n', rfl⟩ : ∃ m, n' = m + 1 := ⟨n' - 1, by omega⟩
    rw [k_L33, if_pos (show (3 : Int32) ≤ nI k from nI_le (a := 3) (by omega) (by omega))]
    exact k_J88F h
  | succ d ih =>
    intro k n' σ hk hn h
    obtain ⟨n', rfl⟩ : ∃ m, n' = m + 1 := ⟨n' - 1, by omega⟩
    have ht := h.1.2.1
    obtain ⟨σ1, e1, k1, g1⟩ := k_ptF hN (k := k) h (by omega)
    rw [k_L33, if_neg (show ¬ (3 : Int32) ≤ nI k from nI_ge (b := 3) (by omega) (by omega)), h.1.2.2.2.1, show (3 : Int32) = nI 3 from rfl, pk_mul, nI_add, if_pos (q_in (by omega) (by omega)), e1, Option.bind_some, nI_1]
    obtain ⟨σ2, e2, g2, x1, x2⟩ := ih (k + 1) n' σ1 (by omega) (by omega) k1
    exact ⟨σ2, e2, (g1.wk (fun a k x => Or.inl x)).tr g2, x1, x2⟩
theorem k_text {N : Nat} (hN : 200 ≤ N) {b : Nat → Nat} {n t : Nat} {σ : am_S} (h : k_S b n t σ) : ∃ v σ', f10_readTape N σ = some (v, σ') ∧ k_end b n t σ σ' v (tx_T b n) := by
  have hn := h.1
  have ht := h.2.1
  have g0 : q_Ag (k_s2 t) σ (sF (sF (sF σ 11 7 0) 11 8 0) 11 12 (-1)) := (((q_Ag.rf σ).sF (Or.inl ⟨rfl, by omega, by omega⟩)).sF (Or.inl ⟨rfl, by omega, by omega⟩)).sF (Or.inl ⟨rfl, by omega, by omega⟩)
  obtain ⟨σ1, e1, g1, T1⟩ := k_next hN (p := 0) (h.mv2 g0) (by rw [q_FFk (by decide), q_FFe]; rfl) (Nat.zero_le _)
  have G1 : k_G b n t 0 0 σ1 := ⟨(h.mv2 g0).mv1 g1, T1, by rw [(g1.2 11 12 (by unfold k_s1; omega)).1, q_FFe], by rw [(g1.2 11 7 (by unfold k_s1; omega)).1, q_FFk (by decide), q_FFk (by decide), q_FFe]; rfl⟩
  have g01 : q_Ag (k_s4 t) σ σ1 := (g0.wk (fun a k x => Or.inl (Or.inl x))).tr (g1.wk (fun a k x => Or.inl (Or.inl (k_s1_2 x))))
  unfold f10_readTape
  rw [h.2.2.2.1, if_pos (show nI t < (6 : Int32) from nI_lt (b := 6) ht (by omega)), e1, Option.bind_some, show (0 : Int32) = nI 0 from rfl]
  obtain ⟨m, rfl⟩ : ∃ m, N = m + 4 := ⟨N - 4, by omega⟩
  have LG : ∀ (σ : am_S) (n' k p len : Nat), k < 3 → k_G b n t p len σ → f10_readTape_L33 (m + 4) (n' + 1) (nI k) σ = (k_pt (m + 4) σ (nI k)).bind fun s23 => f10_readTape_L33 (m + 4) n' (nI (k + 1)) s23 := fun σ n' k p len hk hG => by
    rw [k_L33, if_neg (show ¬ (3 : Int32) ≤ nI k from nI_ge (b := 3) hk (by omega)), hG.1.2.2.2.1, show (3 : Int32) = nI 3 from rfl, pk_mul, nI_add, if_pos (q_in (by omega) (by omega)), nI_1]
  have FF : ∀ (f k n' : Nat) (σ2 : am_S), k ≤ 3 → 4 ≤ n' + k → q_Ag (k_s4 t) σ σ2 → k_F b n t f σ2 → ∃ v σ', f10_readTape_L33 (m + 4) n' (nI k) σ2 = some (v, σ') ∧ k_end b n t σ σ' v (.inl f) := fun f k n' σ2 hk hn' g2 k2 => by
    obtain ⟨σ3, e3, g3, x1, x2⟩ := k_LF hN (3 - k) k n' σ2 (by omega) (by omega) k2
    exact ⟨_, σ3, e3, g2.tr g3, x1, rfl, x2⟩
  rw [LG σ1 (m + 3) 0 0 0 (by omega) G1]
  obtain ⟨σ2, e2, g2, o2⟩ := k_ptG hN G1 (Nat.zero_le _) (Nat.zero_le _) (k := 0) (by omega)
  have g02 := g01.tr (g2.wk (T := k_s4 t) (fun a k x => Or.inl x))
  rw [e2, Option.bind_some]
  unfold tx_T
  cases hr1 : tx_pt b n 6 0 with
  | inl x =>
    rw [show 6 + 0 = 6 from rfl, hr1] at o2
    exact FF x 1 (m + 3) σ2 (by omega) (by omega) g02 o2
  | inr r1 =>
    rw [show 6 + 0 = 6 from rfl, hr1] at o2
    obtain ⟨G2, b1, b2, s1, s2, s3, s4, s5⟩ := o2
    dsimp only
    rw [LG σ2 (m + 2) (0 + 1) r1.1 _ (by omega) G2]
    obtain ⟨σ3, e3, g3, o3⟩ := k_ptG hN G2 b2 (by omega) (k := 1) (by omega)
    have g03 := g02.tr (g3.wk (T := k_s4 t) (fun a k x => Or.inl x))
    rw [e3, Option.bind_some]
    cases hr2 : tx_pt b n 7 r1.1 with
    | inl x =>
      rw [show 6 + 1 = 7 from rfl, hr2] at o3
      exact FF x 2 (m + 2) σ3 (by omega) (by omega) g03 o3
    | inr r2 =>
      rw [show 6 + 1 = 7 from rfl, hr2] at o3
      obtain ⟨G3, c1, c2, t1, t2, t3, t4, t5⟩ := o3
      dsimp only
      rw [LG σ3 (m + 1) (0 + 1 + 1) r2.1 _ (by omega) G3]
      obtain ⟨σ4, e4, g4, o4⟩ := k_ptG hN G3 c2 (by omega) (k := 2) (by omega)
      have g04 := g03.tr (g4.wk (T := k_s4 t) (fun a k x => Or.inl x))
      rw [e4, Option.bind_some]
      cases hr3 : tx_pt b n 8 r2.1 with
      | inl x =>
        rw [show 6 + 2 = 8 from rfl, hr3] at o4
        exact FF x 3 (m + 1) σ4 (by omega) (by omega) g04 o4
      | inr r3 =>
        rw [show 6 + 2 = 8 from rfl, hr3] at o4
        obtain ⟨G4, d1, d2, u1, u2, u3, u4, u5⟩ := o4
        dsimp only
        rw [k_L33, if_pos (show (3 : Int32) ≤ nI (0 + 1 + 1 + 1) from by decide)]
        unfold f10_readTape_J88
        rw [G4.2.1.1]
        have hc := tx_c_lt b n r3.1
        by_cases c13 : tx_c b n r3.1 = 13
        · rw [if_pos (show nI (tx_c b n r3.1) = (13 : Int32) by rw [c13]; rfl), if_pos c13, q_FFk (by decide), G4.2.2.1, if_pos rfl]
          have g05 : q_Ag (k_s4 t) σ (sF (sF σ4 11 1 0) 11 4 ((fF (sF σ4 11 1 0) 11 4) + 1)) := (g04.sF (Or.inr ⟨rfl, Or.inl rfl⟩)).sF (Or.inr ⟨rfl, Or.inr rfl⟩)
          have ec : (fF (sF σ4 11 1 0) 11 4) + 1 = nI (t + 1) := by rw [q_FFk (by decide), G4.1.2.2.2.1, nI_1]
          refine ⟨_, _, rfl, g05, (q_FFk (by decide)).trans q_FFe, ?_, ?_, ?_⟩
          · rw [q_FFe, ec, nI_pred]
          · rw [q_FFe, ec]
          · intro k hk
            have hv : k = 0 ∨ k = 1 ∨ k = 2 := by omega
            rcases hv with rfl | rfl | rfl
            · refine ⟨0, ?_, ?_, fun i hi => ?_, ?_⟩
              · show fF σ4 14 (3 * t + 0) = nI 0
                rw [u2 _ (by omega), t2 _ (by omega), s1]
              · show 0 + r1.2.2.length < 160
                omega
              · show fF σ4 13 (160 * t + (0 + i)) = r1.2.2[i]'hi
                have hi' : i < r1.2.2.length := hi
                rw [u3 _ (by omega), t3 _ (by omega)]
                exact s4 i hi'
              · show fF σ4 13 (160 * t + (0 + r1.2.2.length)) = nI 10059
                rw [u3 _ (by omega), t3 _ (by omega)]
                exact s5
            · refine ⟨0 + (r1.2.2.length + 1), ?_, ?_, fun i hi => ?_, ?_⟩
              · show fF σ4 14 (3 * t + 1) = _
                rw [u2 _ (by omega), t1]
              · show 0 + (r1.2.2.length + 1) + r2.2.2.length < 160
                omega
              · show fF σ4 13 (160 * t + (0 + (r1.2.2.length + 1) + i)) = r2.2.2[i]'hi
                have hi' : i < r2.2.2.length := hi
                rw [u3 _ (by omega)]
                exact t4 i hi'
              · show fF σ4 13 (160 * t + (0 + (r1.2.2.length + 1) + r2.2.2.length)) = nI 10059
                rw [u3 _ (by omega)]
                exact t5
            · refine ⟨0 + (r1.2.2.length + 1) + (r2.2.2.length + 1), ?_, ?_, fun i hi => ?_, ?_⟩
              · show fF σ4 14 (3 * t + 2) = _
                exact u1
              · show 0 + (r1.2.2.length + 1) + (r2.2.2.length + 1) + r3.2.2.length < 160
                omega
              · exact u4 i hi
              · exact u5
        · rw [if_neg (show ¬ nI (tx_c b n r3.1) = (13 : Int32) from fun x => c13 (q_nI (b := 13) (by omega) (by omega) x)), if_neg c13]
          obtain ⟨σ5, e5, k5, g5⟩ := k_refG G4 d2 (by omega)
          rw [e5, Option.bind_some, q_FFk (by decide), k5.2.2.1, if_neg (nI_m1 k5.2.1)]
          exact ⟨_, _, rfl, (g04.tr (g5.wk (fun a k x => Or.inl (Or.inl x)))).sF (Or.inr ⟨rfl, Or.inl rfl⟩), q_FFe, rfl, (q_FFk (by decide)).trans k5.1.2.2.2.1⟩
