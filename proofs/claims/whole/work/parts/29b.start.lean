theorem st_room {s : State} {pl : Platform} {r r' : Room} (hf : r.frames ≤ r'.frames) (hl : r.locals ≤ r'.locals) (hc : r.cells ≤ r'.cells) (hs : r.slots ≤ r'.slots) (h : s.hasRoom pl r' = true) : s.hasRoom pl r = true := by
  simp only [State.hasRoom, Bool.and_eq_true, decide_eq_true_eq] at h ⊢
  obtain ⟨⟨⟨⟨h1, h2, h3, h4, h5, h6⟩, h7⟩, h8⟩, h9⟩ := h
  exact ⟨⟨⟨⟨by omega, by omega, by omega, by omega, by omega, h6⟩, by omega⟩, by omega⟩, h9⟩
theorem st_start (HM : ∀ E : am_E, eL E ≤ 3072 → ∃ (N : Nat) (σ1 σ2 σ' : am_S), f11_fin N (st11 ((fun _ _ => 0), (fun _ _ => 0), (fun _ _ => none))) = some σ1 ∧ σ1.1 = msC ∧ am_zr σ1.2 36 ∧ f12_fin N (st12 σ1.2) = some σ2 ∧ am_kp msM σ2.1 ∧ fL_law_L18 E N N 0 σ2 = some (true, σ'))
    {p : Program} {e : Env} {s : State} {m : MethodId} {below : List Frame} {meth : Method} {c : Code} (l : Launch) {b L : Nat} {xs : Nat → Int32} (hL : L ≤ 3072) (hx : p.tables.exec = Jvm.exec) (hb : c.code = code) (hr : meth.sig.returnType = ret) (hml : c.maxLocals = 4) (hown : s.vm.findClass "StandingUpLaw" = some m.cls) (hts : ∀ w ∈ lw_tbl, w.before #[Value.ref b] s = true) (hX : va_X b L xs s s.heap) (hbl : b < s.heap.size) (hlocks : meth.locks = false) (hgv : (Jvm.Cond.and given_1 narrow_1).before #[Value.ref b] s = true) :
    W p l e room_1 s m #[Value.ref b] below meth c s.heap [] 0 0 (fun t => ∃ o, t.status = .running ∧ Ended t below o ∧ o = .returned (some (.int 1)) ∧ Framed s o t [] 600000 7302250) (entryFrame m ([Value.ref b] : List Value).toArray 4) := by
  obtain ⟨E, hB, hX0, hH, hLE, hxs, hK⟩ := st_K hts hX hbl hgv
  obtain ⟨N, σ1, σ2, σ', h1, e1, z1, h2, hm, h3⟩ := HM E (by omega)
  have C : am_C E YL_law p s m #[Value.ref b] meth c := ⟨hx, hb, hr.trans rfl, hml, hown, fun w hw => hts w (List.mem_filter.mp hw).1, hlocks, fun h => absurd h (by decide), hK⟩
  have hz0 : am_zr (((fun _ _ => 0), (fun _ _ => 0), (fun _ _ => none)) : am_D) 8 := fun _ _ _ => ⟨rfl, rfl, rfl⟩
  have z := z_start (l := l) (E := E) (σ0 := (List.replicate 8 (.inr (9, 0)), ((fun _ _ => 0), (fun _ _ => 0), (fun _ _ => none)))) (d := 1312) (N := N) (by omega) (by decide) hz0 h1 e1 z1 h2 hm
  have hl := lv_entry ([.ref b]) (n := 4) (Nat.le_of_ble_eq_true rfl)
  rw [lg_entry_eq]
  generalize (lg_sl ([.ref b]) ++ List.replicate (4 - (lg_sl ([.ref b])).length) Slot.unset).toArray = ls at hl ⊢
  have hl : lv_has ls 4 ([(0, .ref 0)].map (am_tq E)) := by
    have e : am_tq E (0, .ref 0) = (0, .ref b) := by
      show (0, Value.ref (am_ad E 0)) = (0, .ref b)
      rw [am_ad_lt (by decide), hX0]
    rw [List.map_cons, e]
    exact hl
  have hW : am_W E (List.replicate 8 (.inr (9, 0)), ((fun _ _ => 0), (fun _ _ => 0), (fun _ _ => none))) s.heap := by
    refine ⟨Nat.le_of_ble_eq_true rfl, ?_, ?_, ?_, ?_⟩
    · rw [hB]; rfl
    · intro k m hk h
      have := (List.getElem?_eq_some_iff.mp h).1
      rw [List.length_replicate] at this
      omega
    · intro q _; rw [hH]
    · intro k m hk h
      have h' : (List.replicate 8 (.inr (9, 0)) : List am_M)[k]? = some m := h
      rw [List.getElem?_replicate, if_pos hk] at h'
      exact (Option.some.inj h').symm
  have w := z (true, σ') (some (.int 1)) σ' h3 ⟨rfl, rfl⟩ p e s m #[Value.ref b] below meth c s.heap [] ls C ⟨hW, va_S.rf, fun k m h => by simp at h, am_kp.rf _⟩ hl
  intro T hT X
  obtain ⟨t, a1, o, b1, b2, ⟨b3, -⟩, Lc, ⟨g1, g2, g3⟩, g4⟩ := w T hT { X with room := st_room (r' := room_1) (Nat.le_of_ble_eq_true rfl) (Nat.le_of_ble_eq_true rfl) (Nat.le_of_ble_eq_true rfl) (Nat.le_of_ble_eq_true rfl) X.room }
  refine ⟨t, a1, o, b1, b2, b3, g1, g2, ?_⟩
  exact g3.weaken (fun y hy hlt => absurd hlt (Nat.not_lt.mpr (by have := g4 y hy; rw [← hB]; exact this))) (Nat.le_refl _) (Nat.le_refl _)
