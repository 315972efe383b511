theorem start_ok (mo : Mo) (h0 : Mo_now mo = fun _ => 0) (hl : Mo_lined mo = 0) (hu : Mo_undos mo = 0) (hk : Mo_isKept mo = fun _ => 0) : ∃ zI mI n1 n2, fX1_startAnew (0, 20, 100, (fun _ => 0), (fun _ => 0), (fun _ => 0)) 2 = some zI ∧ fX6_beginLetters mo 2 = some mI ∧ wrI (Mo_now mI) 63 61 20 = some n1 ∧ wrI n1 63 62 100 = some n2 ∧ RelX EvOK zI (1, 0, (fun _ _ => 0), (fun _ => 0), (fun _ => 0), (fun _ => 0), (fun _ => 0)) (0, (fun _ => 0)) (0, (fun _ => 0)) (0, 0, (fun _ => zI)) ((fun _ => zI), (fun _ => 0)) (Mo_set_now mI n2) := by
  obtain ⟨zI, e1, e2⟩ := c_startAnew (z := (0, 20, 100, (fun _ => 0), (fun _ => 0), (fun _ => 0))) (a := a00) rfl rfl 2
  obtain ⟨w, f1, f2⟩ := r_beginLetters mo (a := fun _ => 0) (fun k hk => by rw [h0]; rfl) 2
  refine ⟨zI, Mo_set_now mo w, upd w 61 (nI 20), upd (upd w 61 (nI 20)) 62 (nI 100), e1, f1, wrI_n (f := w) (k := 61) (x := nI 20) (by omega) (by omega), wrI_n (f := upd w 61 (nI 20)) (k := 62) (x := nI 100) (by omega) (by omega), newA a00 2, 0, fun _ => 0, 0, fun _ _ => 0, fun _ _ => 0, fun _ => false, a00_valid, e2, ?_, ⟨by omega, rfl, hl, fun k hk => by omega⟩, fun k hk => by omega, ⟨by omega, rfl, hu, ⟨0, by omega, rfl, fun j hj => by omega⟩, fun j hj => by omega⟩, fun i hi => ⟨rfl, ?_, fun q => by cases q⟩, Or.inl rfl⟩
  · have h1 := (f2.up 61 20).up 62 100
    refine h1.ext fun k hk => ?_
    unfold upN newA a00
    by_cases k62 : k = 62
    · subst k62; rfl
    · by_cases k61 : k = 61
      · subst k61; rfl
      · by_cases k60 : k = 60
        · subst k60; rfl
        · simp only [if_neg k62, if_neg k61, if_neg k60]
  · show Mo_isKept mo i = _
    rw [hk]
    rfl
