/-! THE METHODS: fog -/
theorem fg_b (x : Int32) : ∃ b, f11_isABoat x = some b ∧ f12_isBoat x = some b := by
  unfold f11_isABoat f12_isBoat
  rw [wt_0_639, Option.bind_some]
  by_cases c : x.toInt < 0
  · rw [if_pos (show x < 0 from q_lt.mpr c), q_wiF.mpr (by omega)]
    exact ⟨false, rfl, rfl⟩
  · obtain ⟨y, hy, rfl, ey⟩ := q_of (x := x) (by omega)
    have e1 : nI y - nI y / 10 * 10 = nI (y % 10) := pk_rem (d := 10) hy (by omega) (by omega)
    have e2 : nI y / 10 = nI (y / 10) := pk_div (d := 10) hy (by omega) (by omega)
    rw [if_neg (show ¬ nI y < 0 from fun z => c (q_lt.mp z)), e1, e2]
    by_cases c1 : 64 ≤ y / 10
    · rw [if_pos (show (64 : Int32) ≤ nI (y / 10) from nI_le (a := 64) c1 (by omega)), q_wiF.mpr (by omega)]
      exact ⟨false, rfl, rfl⟩
    · rw [if_neg (show ¬ (64 : Int32) ≤ nI (y / 10) from nI_ge (b := 64) (by omega) (by omega)), q_wiT.mpr (by omega), if_pos rfl]
      by_cases c2 : 2 < y % 10
      · rw [if_pos (show (2 : Int32) < nI (y % 10) from nI_lt (a := 2) c2 (by omega)), if_pos (show (3 : Int32) ≤ nI (y % 10) from nI_le (a := 3) c2 (by omega))]
        exact ⟨false, rfl, rfl⟩
      · rw [if_neg (show ¬ (2 : Int32) < nI (y % 10) from nI_nlt (a := 2) (by omega) (by omega)), if_neg (show ¬ (3 : Int32) ≤ nI (y % 10) from nI_ge (b := 3) (by omega) (by omega))]
        exact ⟨true, rfl, rfl⟩
def fg_D (d : Int32) : Int32 := if 0 ≤ d then d else 0 - d
theorem fg_D0 (x y : Int32) : fg_D (x - y) = 0 ↔ x = y := by
  unfold fg_D
  have h1 : x - y = 0 ↔ x = y := by
    constructor
    · intro e
      have := Int32.sub_add_cancel x y
      rw [e, Int32.zero_add] at this
      exact this.symm
    · intro e; rw [e, Int32.sub_self]
  by_cases c : 0 ≤ x - y
  · rw [if_pos c]; exact h1
  · rw [if_neg c, Int32.zero_sub]
    refine Iff.trans ?_ h1
    constructor
    · intro e
      have : - -(x - y) = -0 := congrArg (fun z => -z) e
      rw [Int32.neg_neg] at this
      rw [this]; rfl
    · intro e; rw [e]; rfl
theorem fg_pl (d : Int32) : f12_plain d = some (fg_D d) := by
  unfold f12_plain fg_D
  by_cases c : 0 ≤ d
  · rw [if_pos c, if_pos c]
  · rw [if_neg c, if_neg c, Int32.zero_sub]
def fg_me (me s0 D : Int32) : Int32 := if me = 0 ∧ s0 = 0 ∧ ¬ D = 0 then 0 else 1
theorem fg_me1 (me D : Int32) : fg_me me 1 D = 1 := if_neg (fun y => absurd y.2.1 (by decide))
theorem fg_meN {me : Int32} (h : ¬ me = 0) (s0 D : Int32) : fg_me me s0 D = 1 := if_neg (fun y => h y.1)
theorem fg_meD {D : Int32} (h : D = 0) (me s0 : Int32) : fg_me me s0 D = 1 := if_neg (fun y => y.2.2 h)
theorem fg_me0 {me D : Int32} (h : me = 0) (h2 : ¬ D = 0) : fg_me me 0 D = 0 := if_pos ⟨h, rfl, h2⟩
theorem fg_c (k : Int32 → Int32 → Int32 → Int32 → Int32 → Int32 → Int32 → Int32 → Int32 → Int32 → Int32 → Option Int32) (N : Nat) (x4 x5 x6 x7 x8 x9 x10 x11 x12 x13 x14 s0 : Int32) (h5 : x5 ≠ 0) :
    f11_fog_J160 k N x4 x5 x6 x7 x8 x9 x10 x11 x12 x13 x14 s0 = k x4 x5 x6 (x7 + x8) x8 (x9 + x10) (if x14 - x14 / x5 * x5 = 0 ∧ ¬ x6 < fg_D ((x7 + x8) - (x9 + x10)) then 0 else x10) (if x11 ≤ fg_D ((x7 + x8) - (x9 + x10)) then x11 else fg_D ((x7 + x8) - (x9 + x10))) (if x11 ≤ fg_D ((x7 + x8) - (x9 + x10)) then x12 else x14) (fg_me x13 s0 (fg_D ((x7 + x8) - (x9 + x10)))) (x14 + 1) := by
  unfold f11_fog_J160 fg_me
  rw [show (if 0 ≤ ((x7 + x8) - (x9 + x10)) then ((x7 + x8) - (x9 + x10)) else 0 - ((x7 + x8) - (x9 + x10))) = fg_D ((x7 + x8) - (x9 + x10)) from rfl]
  generalize fg_D ((x7 + x8) - (x9 + x10)) = D
  simp only [if_neg h5]
  by_cases c1 : x13 = 0 <;> by_cases c2 : s0 = 0 <;> by_cases c3 : D = 0 <;> by_cases c4 : x11 ≤ D <;> by_cases c5 : x14 - x14 / x5 * x5 = 0 <;> by_cases c6 : x6 < D <;> simp only [c1, c2, c3, c4, c5, c6, if_true, if_false, not_true_eq_false, not_false_eq_true, and_true, and_false, true_and, false_and, and_self]
  all_goals first | rfl | (subst c3; simp only [c4, c6, if_true, if_false, not_true_eq_false, not_false_eq_true, and_true, and_false, true_and, false_and]) | skip
theorem fg_m (k : Int32 → Int32 → Int32 → Int32 → Int32 → Int32 → Int32 → Int32 → Int32 → Int32 → Option Int32) (N : Nat) (x3 x4 x5 x6 x7 x8 x9 x10 x12 s0 : Int32) (h5 : x3 / 10 ≠ 0) :
    f12_fog_J195 k N x3 x4 x5 x6 x7 x8 x9 x10 x12 s0 = k x3 x4 x5 x6 x7 (if x12 - x12 / (x3 / 10) * (x3 / 10) = 0 ∧ ¬ (x3 - x3 / 10 * 10) < fg_D (x5 - x6) then 0 else x8) (if x9 ≤ fg_D (x5 - x6) then x9 else fg_D (x5 - x6)) (if x9 ≤ fg_D (x5 - x6) then x10 else x12) s0 (x12 + 1) := by
  unfold f12_fog_J195
  rw [fg_pl, Option.bind_some]
  generalize fg_D (x5 - x6) = D
  simp only [if_neg h5]
  by_cases c4 : x9 ≤ D <;> by_cases c5 : x12 - x12 / (x3 / 10) * (x3 / 10) = 0 <;> by_cases c6 : (x3 - x3 / 10 * 10) < D <;> simp only [c4, c5, c6, if_true, if_false, not_true_eq_false, not_false_eq_true, and_true, and_false, true_and, false_and, and_self]
theorem fg_o (x g : Int32) : f11_turnedAbout x g = some (if q_wi (x + g) 0 63 = true then g else -g) ∧ f12_onward x g = some (if q_wi (x + g) 0 63 = true then g else -g) := by
  unfold f11_turnedAbout f12_onward
  rw [wt_0_63, in_0_63, Option.bind_some]
  cases q_wi (x + g) 0 63 with
  | false => exact ⟨rfl, rfl⟩
  | true => exact ⟨rfl, rfl⟩
theorem fg_L (N : Nat) {b : Nat} (hb : 10 ≤ b ∧ b ≤ 99) (x4 : Int32) : ∀ d t n1 n2 (c g o h le lm me : Int32), t + d = 61 → d < n1 → d < n2 → (c = o → me ≠ 0) → ∃ v, f11_fog_L110 N n1 x4 (nI (b / 10)) (nI (b % 10)) c g o h le lm me (nI t) = some v ∧ f12_fog_L102 N n2 (nI b) x4 c o g h le lm me (nI t) = some v := by
  have e1 : nI b / 10 = nI (b / 10) := pk_div (d := 10) (by omega) (by omega) (by omega)
  have e2 : nI b - nI (b / 10) * 10 = nI (b % 10) := by rw [← e1]; exact pk_rem (d := 10) (by omega) (by omega) (by omega)
  have h5 : nI (b / 10) ≠ 0 := nI_ne0 (by omega) (by omega)
  have h5' : nI b / 10 ≠ 0 := by rw [e1]; exact h5
  intro d
  induction d with
  | zero =>
    intro t n1 n2 c g o h le lm me ht hn1 hn2 hm
    obtain ⟨n1, rfl⟩ : ∃ m, n1 = m + 1 := ⟨n1 - 1, by omega⟩
    obtain ⟨n2, rfl⟩ : ∃ m, n2 = m + 1 := ⟨n2 - 1, by omega⟩
    unfold f11_fog_L110 f12_fog_L102
    rw [if_pos (show (60 : Int32) < nI t from nI_lt (a := 60) (by omega) (by omega)), if_pos (show (60 : Int32) < nI t from nI_lt (a := 60) (by omega) (by omega))]
    have key : f11_fog_J247 N x4 le lm me = f12_fog_J250 N x4 le lm me := rfl
    rw [key]
    unfold f12_fog_J250
    by_cases c0 : x4 = 0
    · rw [if_pos c0]; exact ⟨_, rfl, rfl⟩
    · rw [if_neg c0]
      by_cases c1 : x4 = 1
      · rw [if_pos c1]; exact ⟨_, rfl, rfl⟩
      · rw [if_neg c1]
        by_cases c2 : me = 0
        · rw [if_pos c2]; exact ⟨_, rfl, rfl⟩
        · rw [if_neg c2]; exact ⟨_, rfl, rfl⟩
  | succ d ih =>
    intro t n1 n2 c g o h le lm me ht hn1 hn2 hm
    obtain ⟨n1, rfl⟩ : ∃ m, n1 = m + 1 := ⟨n1 - 1, by omega⟩
    obtain ⟨n2, rfl⟩ : ∃ m, n2 = m + 1 := ⟨n2 - 1, by omega⟩
    unfold f11_fog_L110 f12_fog_L102
    rw [if_neg (show ¬ (60 : Int32) < nI t from nI_nlt (a := 60) (by omega) (by omega)), if_neg (show ¬ (60 : Int32) < nI t from nI_nlt (a := 60) (by omega) (by omega)), (fg_o c g).1, (fg_o c g).2, (fg_o o h).1, (fg_o o h).2]
    simp only [Option.bind_some]
    generalize (if q_wi (c + g) 0 63 = true then g else -g) = g'
    generalize (if q_wi (o + h) 0 63 = true then h else -h) = h'
    simp only [fg_c _ N _ _ _ _ _ _ _ _ _ _ _ _ h5, fg_m _ N _ _ _ _ _ _ _ _ _ _ h5', e1, e2, nI_1]
    -- both go on alike, but for the mark, that is the same
    have go : ∀ me' : Int32, ((c + g') = (o + h') → me' ≠ 0) → ∃ v, f11_fog_L110 N n1 x4 (nI (b / 10)) (nI (b % 10)) (c + g') g' (o + h') (if nI t - nI t / nI (b / 10) * nI (b / 10) = 0 ∧ ¬ nI (b % 10) < fg_D ((c + g') - (o + h')) then 0 else h') (if le ≤ fg_D ((c + g') - (o + h')) then le else fg_D ((c + g') - (o + h'))) (if le ≤ fg_D ((c + g') - (o + h')) then lm else nI t) me' (nI (t + 1)) = some v ∧ f12_fog_L102 N n2 (nI b) x4 (c + g') (o + h') g' (if nI t - nI t / nI (b / 10) * nI (b / 10) = 0 ∧ ¬ nI (b % 10) < fg_D ((c + g') - (o + h')) then 0 else h') (if le ≤ fg_D ((c + g') - (o + h')) then le else fg_D ((c + g') - (o + h'))) (if le ≤ fg_D ((c + g') - (o + h')) then lm else nI t) me' (nI (t + 1)) = some v := fun me' hme => ih (t + 1) n1 n2 _ _ _ _ _ _ _ (by omega) (by omega) (by omega) hme
    have hD := fg_D0 (c + g') (o + h')
    have one : (1 : Int32) ≠ 0 := by decide
    have z0 : (0 : Int32) = 0 := rfl
    by_cases cm : me = 0
    · have hco : ¬ c = o := fun e => hm e cm
      simp only [if_pos cm, fg_me1]
      have g1 := go 1 (fun _ => one)
      by_cases cD : c + g' = o + h'
      · simp only [fg_meD (hD.mpr cD), if_pos cD]
        by_cases d3 : g' = 0
        · have d1 : ¬ c + g' = o := fun y => hco (by rw [d3, Int32.add_zero] at y; exact y)
          simp only [if_neg d1, if_pos d3]
          exact g1
        · simp only [if_neg d3]
          by_cases d1 : c + g' = o
          · simp only [if_pos d1]
            by_cases d2 : o + h' = c
            · simp only [if_pos d2]; exact g1
            · simp only [if_neg d2]; exact g1
          · simp only [if_neg d1]; exact g1
      · have g0 := go 0 (fun y => absurd y cD)
        simp only [fg_me0 cm (fun y => cD (hD.mp y)), if_neg cD]
        by_cases d3 : g' = 0
        · have d1 : ¬ c + g' = o := fun y => hco (by rw [d3, Int32.add_zero] at y; exact y)
          simp only [if_neg d1, if_pos d3]
          exact g0
        · simp only [if_neg d3]
          by_cases d1 : c + g' = o
          · simp only [if_pos d1]
            by_cases d2 : o + h' = c
            · simp only [if_pos d2]; exact g1
            · simp only [if_neg d2]; exact g0
          · simp only [if_neg d1]; exact g0
    · simp only [if_neg cm, fg_meN cm]
      have g1 := go 1 (fun _ => one)
      by_cases d1 : c + g' = o
      · simp only [if_pos d1]
        by_cases d2 : o + h' = c
        · simp only [if_pos d2]; exact g1
        · simp only [if_neg d2]; exact g1
      · simp only [if_neg d1]; exact g1
theorem m_fog {N : Nat} (hN : 200 ≤ N) (x1 x2 x3 x4 : Int32) : ∃ v, f11_fog N x1 x2 x3 x4 = some v ∧ f12_fog N x1 x2 x3 x4 = some v := by
  unfold f11_fog f12_fog
  obtain ⟨b1, e1, e1'⟩ := fg_b x1
  obtain ⟨b2, e2, e2'⟩ := fg_b x2
  rw [e1, e1', e2, e2', wt_10_99, in_10_99, wt_0_2, in_0_2]
  simp only [Option.bind_some]
  cases b1 with
  | false => exact ⟨-2, rfl, rfl⟩
  | true =>
  cases b2 with
  | false => exact ⟨-2, rfl, rfl⟩
  | true =>
  cases hq : q_wi x3 10 99 with
  | false => exact ⟨-2, rfl, rfl⟩
  | true =>
  cases q_wi x4 0 2 with
  | false => exact ⟨-2, rfl, rfl⟩
  | true =>
  simp only [if_true]
  have w := q_wiT.mp hq
  obtain ⟨b, hb, rfl, eb⟩ := q_ofb (n := 100) (x := x3) (by omega) (by omega)
  have f1 : nI b / 10 = nI (b / 10) := pk_div (d := 10) (by omega) (by omega) (by omega)
  have f2 : nI b - nI (b / 10) * 10 = nI (b % 10) := by rw [← f1]; exact pk_rem (d := 10) (by omega) (by omega) (by omega)
  have f3 : (if (1 : Int32) < nI (b / 10) then nI (b / 10) else 1) = nI (b / 10) := by
    by_cases c : 1 < b / 10
    · rw [if_pos (show (1 : Int32) < nI (b / 10) from nI_lt (a := 1) c (by omega))]
    · rw [if_neg (show ¬ (1 : Int32) < nI (b / 10) from nI_nlt (a := 1) (by omega) (by omega)), show b / 10 = 1 by omega]; rfl
  rw [f1, f2, f3, fg_pl, Option.bind_some]
  rw [show (if 0 ≤ ((x1 / (10 : Int32)) - (x2 / (10 : Int32))) then ((x1 / (10 : Int32)) - (x2 / (10 : Int32))) else 0 - ((x1 / (10 : Int32)) - (x2 / (10 : Int32)))) = fg_D (x1 / 10 - x2 / 10) from rfl]
  by_cases c : x1 / 10 = x2 / 10
  · rw [if_pos ((fg_D0 _ _).mpr c), if_pos c]
    exact fg_L N (by omega) x4 60 1 N N _ _ _ _ _ _ _ (by omega) (by omega) (by omega) (fun _ => by decide)
  · rw [if_neg (fun y => c ((fg_D0 _ _).mp y)), if_neg c]
    exact fg_L N (by omega) x4 60 1 N N _ _ _ _ _ _ _ (by omega) (by omega) (by omega) (fun y => absurd y c)
