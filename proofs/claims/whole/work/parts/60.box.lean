/-! THE METHODS: box -/
def bx_F (M : Nat → Bool) : Nat → Nat
  | 0 => 0
  | n + 1 => bx_F M n + if M n = true then 1 else 0
theorem bx_lo {M : Nat → Bool} : ∀ n, (∀ b, b < n → M b = false) → bx_F M n = 0
  | 0, _ => rfl
  | n + 1, h => by
    unfold bx_F
    rw [bx_lo n (fun b hb => h b (by omega)), h n (by omega)]; rfl
theorem bx_hi {M : Nat → Bool} {e : Nat} (h : ∀ b, e ≤ b → M b = false) : ∀ n, e ≤ n → bx_F M n = bx_F M e
  | 0, hn => by rw [show e = 0 by omega]
  | n + 1, hn => by
    by_cases c : e = n + 1
    · rw [c]
    · rw [← bx_hi h n (by omega)]
      conv => lhs; unfold bx_F
      rw [h n (by omega)]; rfl
section BOX
variable {x3 x5 x6 x7 x8 : Int32} {σ : am_S}
theorem bx_c (k : Int32 → Int32 → Int32 → Int32 → Int32 → Int32 → Int32 → am_S → Option (Int32 × am_S)) (N : Nat) {M : Nat → Bool} {a e w : Nat} {x11 : Int32} (he : e ≤ 100) (hx : ∀ s : Nat, s ≤ 200 → (x11 < nI s ↔ e ≤ s)) : ∀ d s n', s + d = e → d < n' → (∀ b, s ≤ b → b < e → (M b = true ↔ (nI a * x5) + (nI b * x6) = x3)) → f11_box_L146 k N n' x3 x5 x6 x7 x8 (nI (w + bx_F M s)) (nI a) x11 (nI s) σ = k x3 x5 x6 x7 x8 (nI (w + bx_F M e)) (nI (a + 1)) σ := by
  intro d
  induction d with
  | zero =>
    intro s n' hs hn hM
    obtain ⟨n', rfl⟩ : ∃ m, n' = m + 1 := ⟨n' - 1, by omega⟩
    have : s = e := by omega
    subst this
    unfold f11_box_L146 f11_box_J177
    rw [if_pos ((hx s (by omega)).mpr (Nat.le_refl _)), nI_1]
  | succ d ih =>
    intro s n' hs hn hM
    obtain ⟨n', rfl⟩ : ∃ m, n' = m + 1 := ⟨n' - 1, by omega⟩
    unfold f11_box_L146
    rw [if_neg (fun y => by have := (hx s (by omega)).mp y; omega), nI_1, nI_1]
    have hF : bx_F M (s + 1) = bx_F M s + if M s = true then 1 else 0 := rfl
    have hm := hM s (Nat.le_refl _) (by omega)
    have key := ih (s + 1) n' (by omega) (by omega) (fun b h1 h2 => hM b (by omega) h2)
    rw [hF] at key
    by_cases c : (nI a * x5) + (nI s * x6) = x3
    · rw [if_pos c]
      rw [if_pos (hm.mpr c)] at key
      exact key
    · rw [if_neg c]
      rw [if_neg (fun y => c (hm.mp y))] at key
      exact key
theorem bx_m (k : Int32 → Int32 → Int32 → Int32 → Int32 → Int32 → Int32 → am_S → Option (Int32 × am_S)) (N : Nat) {M : Nat → Bool} {a h1 h2 H f w : Nat} (ha : a < 100) (eh1 : nI H / 1000 = nI h1) (eh2 : nI H - nI h1 * 1000 = nI h2) (hh1 : h1 ≤ 198) (hh2 : h2 ≤ 198) (hf : f ≤ 9) : ∀ d s n', s + d = 100 → d < n' → (∀ b, b < 100 → (M b = true ↔ ((h1 ≤ a + b + f ∧ a + b ≤ h1 + f) ∧ (h2 ≤ a + b + f ∧ a + b ≤ h2 + f)) ∧ (nI a * x5) + (nI b * x6) = x3)) → f12_box_L95 k N n' (nI H) (nI f) x3 x5 x6 (nI (w + bx_F M s)) (nI a) (nI s) σ = k (nI H) (nI f) x3 x5 x6 (nI (w + bx_F M 100)) (nI (a + 1)) σ := by
  have dst : ∀ p q : Nat, p < 1000 → q < 1000 → (nI f < fg_D (nI p - nI q) ↔ ¬ (q ≤ p + f ∧ p ≤ q + f)) := by
    intro p q hp hq
    have e : (nI p - nI q).toInt = (p : Int) - q := pk_sub_toInt (by omega) (by omega)
    have ef : (nI f).toInt = (f : Int) := nI_toInt (by omega)
    unfold fg_D
    rw [q_lt, ef]
    by_cases c : 0 ≤ nI p - nI q
    · have c' := q_le.mp c
      rw [e, show (0 : Int32).toInt = 0 from rfl] at c'
      rw [if_pos c, e]
      omega
    · have c' : ¬ (0 : Int) ≤ (p : Int) - q := fun y => c (q_le.mpr (by rw [e]; exact y))
      have e2 : (0 - (nI p - nI q)).toInt = -((p : Int) - q) := by
        rw [Int32.zero_sub, fb_negI (by rw [e]; omega), e]
      rw [if_neg c, e2]
      omega
  intro d
  induction d with
  | zero =>
    intro s n' hs hn hM
    obtain ⟨n', rfl⟩ : ∃ m, n' = m + 1 := ⟨n' - 1, by omega⟩
    have : s = 100 := by omega
    subst this
    unfold f12_box_L95 f12_box_J181
    rw [if_pos (show (100 : Int32) ≤ nI 100 from nI_le (a := 100) (Nat.le_refl _) (by omega)), nI_1]
  | succ d ih =>
    intro s n' hs hn hM
    obtain ⟨n', rfl⟩ : ∃ m, n' = m + 1 := ⟨n' - 1, by omega⟩
    unfold f12_box_L95
    rw [if_neg (show ¬ (100 : Int32) ≤ nI s from nI_ge (b := 100) (by omega) (by omega)), eh1, eh2, nI_add, fg_pl, fg_pl, Option.bind_some, Option.bind_some, nI_1, nI_1, Int32.add_zero]
    have hF : bx_F M (s + 1) = bx_F M s + if M s = true then 1 else 0 := rfl
    have hm := hM s (by omega)
    have key := ih (s + 1) n' (by omega) (by omega) hM
    rw [hF] at key
    have k1 := dst (a + s) h1 (by omega) (by omega)
    have k2 := dst (a + s) h2 (by omega) (by omega)
    by_cases c1 : nI f < fg_D (nI (a + s) - nI h1)
    · have := k1.mp c1
      rw [if_pos c1]
      rw [if_neg (fun y => by have := (hm.mp y).1.1; omega)] at key
      exact key
    · rw [if_neg c1]
      by_cases c2 : nI f < fg_D (nI (a + s) - nI h2)
      · have := k2.mp c2
        rw [if_pos c2]
        rw [if_neg (fun y => by have := (hm.mp y).1.2; omega)] at key
        exact key
      · have d1 : h1 ≤ a + s + f ∧ a + s ≤ h1 + f := by
          have : ¬ ¬ (h1 ≤ a + s + f ∧ a + s ≤ h1 + f) := fun y => c1 (k1.mpr y)
          omega
        have d2 : h2 ≤ a + s + f ∧ a + s ≤ h2 + f := by
          have : ¬ ¬ (h2 ≤ a + s + f ∧ a + s ≤ h2 + f) := fun y => c2 (k2.mpr y)
          omega
        rw [if_neg c2]
        by_cases c : (nI a * x5) + (nI s * x6) = x3
        · rw [if_pos c]
          rw [if_pos (hm.mpr ⟨⟨d1, d2⟩, c⟩)] at key
          exact key
        · rw [if_neg c]
          rw [if_neg (fun y => c (hm.mp y).2)] at key
          exact key
theorem bx_o (N : Nat) (hN : 200 ≤ N) {h1 h2 H f : Nat} (eh1 : nI H / 1000 = nI h1) (eh2 : nI H - nI h1 * 1000 = nI h2) (hh1 : h1 ≤ 198) (hh2 : h2 ≤ 198) (hf : f ≤ 9) (e7 : x7.toInt = (max h1 h2 : Nat) - (f : Int)) (e8 : x8.toInt = (min h1 h2 : Nat) + (f : Int)) (τ : am_S) : ∀ d a n1 n2 w, a + d = 100 → d < n1 → d < n2 → ∃ v, f11_box_L116 N n1 x3 x5 x6 x7 x8 (nI w) (nI a) σ = some (v, σ) ∧ f12_box_L85 N n2 (nI H) (nI f) x3 x5 x6 (nI w) (nI a) τ = some (v, τ) := by
  intro d
  induction d with
  | zero =>
    intro a n1 n2 w ha hn1 hn2
    obtain ⟨n1, rfl⟩ : ∃ m, n1 = m + 1 := ⟨n1 - 1, by omega⟩
    obtain ⟨n2, rfl⟩ : ∃ m, n2 = m + 1 := ⟨n2 - 1, by omega⟩
    have : a = 100 := by omega
    subst this
    unfold f11_box_L116 f12_box_L85
    rw [if_pos (show (99 : Int32) < nI 100 by decide), if_pos (show (100 : Int32) ≤ nI 100 by decide)]
    exact ⟨_, rfl, rfl⟩
  | succ d ih =>
    intro a n1 n2 w ha hn1 hn2
    obtain ⟨n1, rfl⟩ : ∃ m, n1 = m + 1 := ⟨n1 - 1, by omega⟩
    obtain ⟨n2, rfl⟩ : ∃ m, n2 = m + 1 := ⟨n2 - 1, by omega⟩
    have hmx : (max h1 h2 : Nat) ≤ 198 := by omega
    have hmn : (min h1 h2 : Nat) ≤ 198 := by omega
    have ea : (nI a).toInt = (a : Int) := nI_toInt (by omega)
    have d7 : (x7 - nI a).toInt = (max h1 h2 : Nat) - (f : Int) - a := by rw [fb_subI (by omega) (by omega), e7, ea]
    have d8 : (x8 - nI a).toInt = (min h1 h2 : Nat) + (f : Int) - a := by rw [fb_subI (by omega) (by omega), e8, ea]
    -- the ends of the class's range
    obtain ⟨lo, elo, hlo⟩ : ∃ lo : Nat, (if (0 : Int32) < (x7 - nI a) then (x7 - nI a) else (0 : Int32)) = nI lo ∧ (lo : Int) = max 0 ((max h1 h2 : Nat) - (f : Int) - a) := by
      by_cases c : (0 : Int32) < (x7 - nI a)
      · have c' := q_lt.mp c
        rw [d7, show (0 : Int32).toInt = 0 from rfl] at c'
        obtain ⟨lo, -, e, el⟩ := q_of (x := x7 - nI a) (by rw [d7]; omega)
        refine ⟨lo, by rw [if_pos c]; exact e, ?_⟩
        rw [d7] at el
        omega
      · have c' : ¬ (0 : Int) < (max h1 h2 : Nat) - (f : Int) - a := fun y => c (q_lt.mpr (by rw [d7]; exact y))
        exact ⟨0, by rw [if_neg c]; rfl, by omega⟩
    have hlo2 : lo ≤ 198 := by omega
    have ehi : (if (x8 - nI a) < (99 : Int32) then (x8 - nI a) else (99 : Int32)).toInt = min 99 ((min h1 h2 : Nat) + (f : Int) - a) := by
      by_cases c : (x8 - nI a) < (99 : Int32)
      · have c' := q_lt.mp c
        rw [d8, show (99 : Int32).toInt = 99 from rfl] at c'
        rw [if_pos c, d8]; omega
      · have c' : ¬ (min h1 h2 : Nat) + (f : Int) - a < 99 := fun y => c (q_lt.mpr (by rw [d8]; exact y))
        rw [if_neg c, show (99 : Int32).toInt = 99 from rfl]; omega
    generalize hx11 : (if (x8 - nI a) < (99 : Int32) then (x8 - nI a) else (99 : Int32)) = x11 at ehi
    obtain ⟨e, he⟩ : ∃ e : Nat, e = (x11.toInt + 1).toNat := ⟨_, rfl⟩
    have he100 : e ≤ 100 := by omega
    have hx : ∀ s : Nat, s ≤ 200 → (x11 < nI s ↔ e ≤ s) := fun s hs => by rw [q_lt, nI_toInt (by omega)]; omega
    obtain ⟨M, hM⟩ : ∃ M : Nat → Bool, ∀ b, (M b = true ↔ (lo ≤ b ∧ b < e) ∧ (nI a * x5) + (nI b * x6) = x3) := ⟨fun b => decide ((lo ≤ b ∧ b < e) ∧ (nI a * x5) + (nI b * x6) = x3), fun b => decide_eq_true_iff⟩
    have hMf : ∀ b, ¬ (lo ≤ b ∧ b < e) → M b = false := fun b hb => by
      cases c : M b with
      | false => rfl
      | true => exact absurd ((hM b).mp c).1 hb
    have F100 : bx_F M 100 = bx_F M e := bx_hi (fun b hb => hMf b (by omega)) 100 he100
    have F0 : bx_F M lo = 0 := bx_lo lo (fun b hb => hMf b (by omega))
    unfold f11_box_L116 f12_box_L85
    rw [if_neg (show ¬ (99 : Int32) < nI a from nI_nlt (a := 99) (by omega) (by omega)), if_neg (show ¬ (100 : Int32) ≤ nI a from nI_ge (b := 100) (by omega) (by omega)), hx11, elo]
    have mdl := bx_m (x3 := x3) (x5 := x5) (x6 := x6) (σ := τ) (f12_box_L85 N n2) N (M := M) (a := a) (w := w) (H := H) (f := f) (by omega) eh1 eh2 hh1 hh2 hf 100 0 N (by omega) (by omega) (fun b hb => by
      rw [hM b]
      have key : (lo ≤ b ∧ b < e) ↔ ((h1 ≤ a + b + f ∧ a + b ≤ h1 + f) ∧ (h2 ≤ a + b + f ∧ a + b ≤ h2 + f)) := by omega
      rw [key])
    have cls : f11_box_L146 (f11_box_L116 N n1) N N x3 x5 x6 x7 x8 (nI w) (nI a) x11 (nI lo) σ = f11_box_L116 N n1 x3 x5 x6 x7 x8 (nI (w + bx_F M e)) (nI (a + 1)) σ := by
      by_cases c : lo ≤ e
      · have := bx_c (x3 := x3) (x5 := x5) (x6 := x6) (x7 := x7) (x8 := x8) (σ := σ) (f11_box_L116 N n1) N (M := M) (a := a) (w := w) (x11 := x11) he100 hx (e - lo) lo N (by omega) (by omega) (fun b hb1 hb2 => by
          rw [hM b]
          exact ⟨fun y => y.2, fun y => ⟨⟨hb1, hb2⟩, y⟩⟩)
        rw [F0] at this
        exact this
      · have Fe : bx_F M e = 0 := bx_lo e (fun b hb => hMf b (by omega))
        obtain ⟨N', rfl⟩ : ∃ m, N = m + 1 := ⟨N - 1, by omega⟩
        conv => lhs; unfold f11_box_L146
        rw [if_pos ((hx lo (by omega)).mpr (by omega)), Fe]
        unfold f11_box_J177
        rw [nI_1]; rfl
    rw [show bx_F M 0 = 0 from rfl, F100] at mdl
    rw [cls, show (0 : Int32) = nI 0 from rfl]
    have mdl' : f12_box_L95 (f12_box_L85 N n2) N N (nI H) (nI f) x3 x5 x6 (nI w) (nI a) (nI 0) τ = f12_box_L85 N n2 (nI H) (nI f) x3 x5 x6 (nI (w + bx_F M e)) (nI (a + 1)) τ := mdl
    rw [mdl']
    exact ih (a + 1) n1 n2 (w + bx_F M e) (by omega) (by omega) (by omega)
end BOX
theorem m_box {N : Nat} (hN : 200 ≤ N) (x1 x2 x3 x4 : Int32) : m_OK (fun σ => f11_box N σ x1 x2 x3 x4) (fun σ => f12_box N σ x1 x2 x3 x4) := by
  intro σ h
  have hX := h
  obtain ⟨n, m, tc, A, B, hR⟩ := h
  obtain ⟨hK, hC, hB, hW, hP, hS, hT, hI⟩ := hR
  dsimp only
  obtain ⟨V, hV⟩ := hT.rule
  have bad : ∀ {a : Option (Int32 × am_S)}, a = some (-2, σ) → f12_box N σ x1 x2 x3 x4 = some (-2, σ) → ∃ v σ1 σ2, a = some (v, σ1) ∧ f12_box N σ1 x1 x2 x3 x4 = some (v, σ2) ∧ RX σ2 := fun ea eb => ⟨-2, σ, σ, ea, eb, hX⟩
  by_cases c : x1.toInt < 0
  · have c' : x1 < 0 := q_lt.mpr c
    refine bad ?_ ?_
    · unfold f11_box; rw [if_pos c']
    · unfold f12_box; rw [if_pos c']
  obtain ⟨H, hH, rfl, eH⟩ := q_of (x := x1) (by omega)
  have c' : ¬ nI H < 0 := fun y => c (q_lt.mp y)
  have e1 : nI H / 1000 = nI (H / 1000) := pk_div (d := 1000) hH (by omega) (by omega)
  have e2 : nI H - nI (H / 1000) * 1000 = nI (H % 1000) := by rw [← e1]; exact pk_rem (d := 1000) hH (by omega) (by omega)
  by_cases c1 : 198 < H / 1000
  · have c1' : (198 : Int32) < nI (H / 1000) := nI_lt (a := 198) c1 (by omega)
    refine bad ?_ ?_
    · unfold f11_box; rw [if_neg c', e1, if_pos c1']
    · unfold f12_box; rw [if_neg c', e1, if_pos c1']
  have c1' : ¬ (198 : Int32) < nI (H / 1000) := nI_nlt (a := 198) (by omega) (by omega)
  by_cases c2 : 198 < H % 1000
  · have c2' : (198 : Int32) < nI (H % 1000) := nI_lt (a := 198) c2 (by omega)
    refine bad ?_ ?_
    · unfold f11_box; rw [if_neg c', e1, if_neg c1', e2, if_pos c2']
    · unfold f12_box; rw [if_neg c', e1, if_neg c1', e2, if_pos c2']
  have c2' : ¬ (198 : Int32) < nI (H % 1000) := nI_nlt (a := 198) (by omega) (by omega)
  have hm : ∀ σ2 : am_S, f12_box N σ2 (nI H) x2 x3 x4 = if q_wi x2 0 9 = true then (if q_wi x3 0 99999 = true then (if q_wi x4 0 23 = true then ((f12_priceOf N σ2 (1 : Int32) x4).bind fun (v16, s17) => ((f12_priceOf N s17 (0 : Int32) x4).bind fun (v19, s20) => (f12_box_L85 N N (nI H) x2 x3 v16 v19 (0 : Int32) (0 : Int32) s20))) else some (-2, σ2)) else some (-2, σ2)) else some (-2, σ2) := fun σ2 => by
    unfold f12_box
    rw [if_neg c', e1, if_neg c1', e2, if_neg c2', in_0_9, in_0_99999, q_h2]
    rfl
  have hc : f11_box N σ (nI H) x2 x3 x4 = if q_wi x2 0 9 = true then (if q_wi x3 0 99999 = true then (if q_wi x4 0 23 = true then ((f11_priceOf N σ (1 : Int32) x4).bind fun (v16, s17) => ((f11_priceOf N s17 (0 : Int32) x4).bind fun (v19, s20) => (f11_box_L116 N N x3 v16 v19 ((if nI (H / 1000) < nI (H % 1000) then nI (H % 1000) else nI (H / 1000)) - x2) ((if nI (H % 1000) < nI (H / 1000) then nI (H % 1000) else nI (H / 1000)) + x2) (0 : Int32) (0 : Int32) s20))) else some (-2, σ)) else some (-2, σ)) else some (-2, σ) := by
    unfold f11_box
    rw [if_neg c', e1, if_neg c1', e2, if_neg c2', wt_0_9, wt_0_99999, q_h1]
    rfl
  rw [hc]
  cases hq : q_wi x2 0 9 with
  | false => exact bad rfl (by rw [hm, hq]; rfl)
  | true =>
  rw [if_pos rfl]
  cases hq2 : q_wi x3 0 99999 with
  | false => exact bad rfl (by rw [hm, hq, hq2]; rfl)
  | true =>
  rw [if_pos rfl]
  cases hq3 : q_wi x4 0 23 with
  | false => exact bad rfl (by rw [hm, hq, hq2, hq3]; rfl)
  | true =>
  rw [if_pos rfl]
  have w := q_wiT.mp hq
  obtain ⟨f, hf, rfl, ef⟩ := q_ofb (n := 10) (x := x2) (by omega) (by omega)
  have r099 : (0 : Int32).toInt ≤ (99 : Int32).toInt := by decide
  -- the prices
  have pc : ∀ σ1 : am_S, r_R V σ1 → r_W σ1 → ∀ l : Int32, ∃ σ2, f11_priceOf N σ1 l x4 = some (r_cl (r_v V σ1 1 l 0 x4 0) 0 99, σ2) ∧ q_Ag r_sc σ1 σ2 := fun σ1 hV1 hW1 l => by
    obtain ⟨σ2, r1, g1⟩ := r_by hN hV1 hW1 (k := 1) (by decide) l 0 x4 0
    refine ⟨σ2, ?_, g1⟩
    unfold f11_priceOf
    rw [show (7 : Int32) = nI (6 + 1) from rfl, r1, Option.bind_some]
    dsimp only
    rw [r_cl1 _ _ _ r099]
  have pm : ∀ σ1 : am_S, r_R V σ1 → ∀ l : Int32, ∃ σ2, f12_priceOf N σ1 l x4 = some (r_cl (r_v V σ1 1 l 0 x4 0) 0 99, σ2) ∧ q_Ag r_sc σ1 σ2 := fun σ1 hV1 l => by
    obtain ⟨σ2, r1, g1⟩ := r_rd hN hV1 (k := 1) (by decide) l 0 x4 0
    refine ⟨σ2, ?_, g1⟩
    unfold f12_priceOf
    rw [show f12_read N σ1 (fF σ1 36 4) l 0 x4 0 1 = f12_read N σ1 (fF σ1 36 4) l 0 x4 0 (nI 1) from rfl, r1, Option.bind_some]
    dsimp only
    rw [r_cl2]; rfl
  have wW : ∀ σ1, q_Ag r_sc σ σ1 → r_W σ1 := fun σ1 g => hW.mv g (fun a k hc => by unfold r_Wc at hc; unfold r_sc; omega)
  obtain ⟨σ1, p1, g1⟩ := pc σ hV hW 1
  obtain ⟨σ2, p2, g2⟩ := pc σ1 (hV.fr g1) (wW σ1 g1) 0
  have g12 := g1.tr g2
  obtain ⟨τ1, q1, h1⟩ := pm σ2 (hV.fr g12) 1
  obtain ⟨τ2, q2, h2⟩ := pm τ1 ((hV.fr g12).fr h1) 0
  have x7e : ((if nI (H / 1000) < nI (H % 1000) then nI (H % 1000) else nI (H / 1000)) - nI f).toInt = (max (H / 1000) (H % 1000) : Nat) - (f : Int) := by
    by_cases d : H / 1000 < H % 1000
    · rw [if_pos (nI_lt d (by omega)), pk_sub_toInt (by omega) (by omega)]; omega
    · rw [if_neg (nI_nlt (by omega) (by omega)), pk_sub_toInt (by omega) (by omega)]; omega
  have x8e : ((if nI (H % 1000) < nI (H / 1000) then nI (H % 1000) else nI (H / 1000)) + nI f).toInt = (min (H / 1000) (H % 1000) : Nat) + (f : Int) := by
    by_cases d : H % 1000 < H / 1000
    · rw [if_pos (nI_lt d (by omega)), nI_add, nI_toInt (by omega)]; omega
    · rw [if_neg (nI_nlt (by omega) (by omega)), nI_add, nI_toInt (by omega)]; omega
  obtain ⟨v, l1, l2⟩ := bx_o (x3 := x3) (x5 := r_cl (r_v V σ 1 1 0 x4 0) 0 99) (x6 := r_cl (r_v V σ1 1 0 0 x4 0) 0 99) (σ := σ2) N hN (H := H) (f := f) e1 e2 (by omega) (by omega) (by omega) x7e x8e τ2 100 0 N N 0 (by omega) (by omega) (by omega)
  refine ⟨v, σ2, τ2, ?_, ?_, ((hX.fr g12).fr h1).fr h2⟩
  · rw [p1, Option.bind_some]
    dsimp only
    rw [p2, Option.bind_some]
    exact l1
  · rw [hm, hq, hq2, hq3, if_pos rfl, if_pos rfl, if_pos rfl, q1, Option.bind_some]
    dsimp only
    rw [q2, Option.bind_some]
    dsimp only
    rw [r_v.fr h1, r_v.fr g12, r_v.fr g12]
    rw [r_v.fr g1] at l2
    exact l2
