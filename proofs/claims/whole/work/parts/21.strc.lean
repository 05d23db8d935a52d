theorem cs_len {l : Launch} {E : am_E} {a : Nat} {σ : am_S} {v : Int32} (hf : s_len a = some v) : Ctr l E msC YJ0_length_8abf5 5 0 0 [.ref a] σ (some (.int v)) σ := sorry
theorem cs_at {l : Launch} {E : am_E} {a : Nat} {i : Int32} {σ : am_S} {v : Int32} (hf : s_at a i = some v) : Ctr l E msC YJ0_charAt_5068e 6 0 0 [.ref a, .int i] σ (some (.int v)) σ := sorry
theorem cs_ix {l : Launch} {E : am_E} {a : Nat} {i : Int32} {σ : am_S} {v : Int32} (hf : s_ix a i = some v) : Ctr l E msC YJ0_indexOf_0f7a4 7 0 0 [.ref a, .int i] σ (some (.int v)) σ := sorry
theorem am_lkX10_joined {x : Int32} (h1 : ¬ x = 9) (h2 : ¬ x = 10) (h3 : ¬ x = 43) (h4 : ¬ x = 45) (h5 : ¬ x = 60) (h6 : ¬ x = 61) : Op.lookupswitch.offset (#[(9, 59), (10, 73), (43, 109), (45, 113), (60, 87), (61, 98)] : Array (Int × Int)).toList 117 x.toInt = 117 := by
  have key : ∀ c : Int32, ¬ x = c → (x.toInt == c.toInt) = false := fun c h => by
    rw [beq_eq_false_iff_ne]; exact fun e => h (Int32.toInt_inj.mp e)
  sorry
