/-! the class solves its rows -/
theorem op_absR {a : Nat → Nat} (hV : Valid a) {k : Nat} (h1 : a 60 ≤ k) (h2 : k < 3) : opS (wt a) k := by
  have z : ∀ j, j < 3 → wt a k j = 0 := fun j hj => by
    unfold wt
    rw [hV.2.2.2.2.2.2 k j h2 hj (Or.inl h1)]
    rfl
  unfold opS
  rw [if_pos h2]
  unfold ro
  rw [z 0 (by omega), z 1 (by omega), z 2 (by omega)]
  rfl
theorem op_absL {a : Nat → Nat} (hV : Valid a) {j : Nat} (h1 : a 60 ≤ j) (h2 : j < 3) : opS (wt a) (3 + j) := by
  have hN := hV.1
  have z : ∀ i j, i < 3 → j < 3 → a 60 ≤ j → wt a i j = 0 := fun i j hi hj h => by
    unfold wt
    rw [hV.2.2.2.2.2.2 i j hi hj (Or.inr h)]
    rfl
  have e : j = 1 ∨ j = 2 := by omega
  rcases e with rfl | rfl
  · refine (op4_i _).mpr ⟨?_, Or.inl ?_⟩
    · unfold jn
      rw [z 0 1 (by omega) (by omega) h1, z 1 1 (by omega) (by omega) h1, z 2 1 (by omega) (by omega) h1]
      omega
    · unfold jn
      rw [z 0 1 (by omega) (by omega) h1, z 1 1 (by omega) (by omega) h1, z 2 1 (by omega) (by omega) h1]
      omega
  · exact op5_i _
theorem EL_nx {a : Nat → Nat} (hV : Valid a) {c : Nat} (hc : c < 2 * a 60) : EL (wt a) (tw a) (io (a 60) c + 1) = EL (wt a) (tw a) (io (a 60) (c + 1)) := by
  have hN := hV.1
  unfold io
  by_cases h1 : c + 1 < a 60
  · rw [if_pos (by omega), if_pos h1]
  · by_cases h2 : c < a 60
    · rw [if_pos h2, if_neg h1, show c + 1 - a 60 = 0 by omega, show c + 1 = a 60 by omega]
      have cs : a 60 = 1 ∨ a 60 = 2 ∨ a 60 = 3 := by omega
      rcases cs with q | q | q
      · rw [q]
        exact ((EL_op (op_absR hV (k := 2) (by omega) (by omega))).trans (EL_op (op_absR hV (k := 1) (by omega) (by omega)))).symm
      · rw [q]
        exact (EL_op (op_absR hV (k := 2) (by omega) (by omega))).symm
      · rw [q]
    · rw [if_neg h2, if_neg h1, show 3 + (c - a 60) + 1 = 3 + (c + 1 - a 60) by omega]
theorem EL_end {a : Nat → Nat} (hV : Valid a) : EL (wt a) (tw a) (io (a 60) (2 * a 60)) = EL (wt a) (tw a) 6 := by
  have hN := hV.1
  unfold io
  rw [if_neg (by omega)]
  have cs : a 60 = 1 ∨ a 60 = 2 ∨ a 60 = 3 := by omega
  rcases cs with q | q | q
  · rw [q]
    exact ((EL_op (op_absL hV (j := 2) (by omega) (by omega))).trans (EL_op (op_absL hV (j := 1) (by omega) (by omega)))).symm
  · rw [q]
    exact (EL_op (op_absL hV (j := 2) (by omega) (by omega))).symm
  · rw [q]
noncomputable def opZ (w : Nat → Nat → Int) (k : Nat) : Int32 := @ite _ (opS w k) (Classical.propDecidable _) 1 0
noncomputable def spS (w t : Nat → Nat → Int) (k : Nat) : Int64 := @ite _ (opS w k) (Classical.propDecidable _) 0 ((EL w t 6).1 k 6)
theorem opZ_y {w : Nat → Nat → Int} {k : Nat} (h : opS w k) : opZ w k = 1 := if_pos h
theorem opZ_n {w : Nat → Nat → Int} {k : Nat} (h : ¬ opS w k) : opZ w k = 0 := if_neg h
theorem spS_y {w t : Nat → Nat → Int} {k : Nat} (h : opS w k) : spS w t k = 0 := if_pos h
theorem spS_n {w t : Nat → Nat → Int} {k : Nat} (h : ¬ opS w k) : spS w t k = (EL w t 6).1 k 6 := if_neg h
theorem Pv_all {w t : Nat → Nat → Int} (h : HW w t) {k : Nat} (hk : k < 6) : Pv w t k := by
  have h3 := EL_3 h
  have h6 := EL_6 h
  have e : k = 0 ∨ k = 1 ∨ k = 2 ∨ k = 3 ∨ k = 4 ∨ k = 5 := by omega
  rcases e with rfl | rfl | rfl | rfl | rfl | rfl
  · exact h3.2.1
  · exact h3.2.2.1
  · exact h3.2.2.2
  · exact h6.1
  · exact h6.2.1
  · exact h6.2.2.1
theorem io_lt {n c : Nat} (hn : n ≤ 3) (hc : c < 2 * n) : io n c < 6 := by
  unfold io
  split <;> omega
theorem io_inj {n c d : Nat} (hn : n ≤ 3) (h : c ≠ d) : io n c ≠ io n d := by
  unfold io
  split <;> split <;> omega
theorem jo_n {n d : Nat} (h : d < 6) : jo n d = io n d := if_neg (by omega)
theorem c_solve1 {z : Fo} {a : Nat → Nat} (hV : Valid a) (hC : CF z a) (ev : Ev) (hM : ∀ c d, c < 2 * a 60 → (d < 2 * a 60 ∨ d = 6) → Ev_rows ev c d = Int64.ofInt (aM (wt a) (tw a) (io (a 60) c) (jo (a 60) d))) : ∃ r, lp (gX0_solveRows_7 z) 1000 (0, Ev_set_below ev 1) = some r ∧ ∃ M O, r.2 = Ev_set_opn (Ev_set_rows (Ev_set_below ev (EL (wt a) (tw a) 6).2) M) O ∧ (∀ c d, c < 2 * a 60 → (d < 2 * a 60 ∨ d = 6) → M c d = (EL (wt a) (tw a) 6).1 (io (a 60) c) (jo (a 60) d)) ∧ ∀ c, c < 2 * a 60 → O c = opZ (wt a) (io (a 60) c) := by
  have hN := hV.1
  have hH := HW_N hV
  have i0 : io (a 60) 0 = 0 := if_pos (by omega)
  refine lp_J (σ := Int32 × Ev) (ρ := Int32 × Ev) (fun c s => ∃ M O, s = (nI c, Ev_set_opn (Ev_set_rows (Ev_set_below ev (EL (wt a) (tw a) (io (a 60) c)).2) M) O) ∧ (∀ c' d, c' < 2 * a 60 → (d < 2 * a 60 ∨ d = 6) → M c' d = (EL (wt a) (tw a) (io (a 60) c)).1 (io (a 60) c') (jo (a 60) d)) ∧ ∀ c', c' < c → O c' = opZ (wt a) (io (a 60) c')) (2 * a 60) _ (by omega) ⟨Ev_rows ev, Ev_opn ev, ?_, fun c' d hc' hd => ?_, fun c' h => by omega⟩ ?_ ?_
  · rw [i0]
    rfl
  · rw [i0]
    exact hM c' d hc' hd
  · rintro c s hc ⟨M, O, rfl, h1, h2⟩
    have hk := io_lt hN.2 hc
    have pv := Pv_all hH hk
    have hd := h1 c c hc (Or.inl hc)
    rw [jo_n (by omega)] at hd
    have nx := EL_nx hV hc
    by_cases o : opS (wt a) (io (a 60) c)
    · have hz := pv.1 o
      rw [← hd] at hz
      have e1 := EL_op (t := tw a) o
      rw [nx] at e1
      refine ⟨(nI (c + 1), Ev_set_opn (Ev_set_rows (Ev_set_below ev (EL (wt a) (tw a) (io (a 60) (c + 1))).2) M) (upd O c 1)), ⟨M, upd O c 1, rfl, ?_, fun c' hc' => ?_⟩, fun rec => ?_⟩
      · rw [e1]
        exact h1
      · unfold upd
        by_cases q : c' = c
        · rw [if_pos q, q, opZ_y o]
        · rw [if_neg q]; exact h2 c' (by omega)
      · rw [e1]
        show ((fX0_spaces _ z).bind fun v1 => if v1 ≤ nI c then _ else (rdX 6 (nI c)).bind fun v4 => (rdJ (M v4) 7 (nI c)).bind fun v5 => (wrZ O 6 (nI c) (if (0 : Int64) < v5 then (0 : Int32) else 1)).bind fun v7 => (rdI v7 6 (nI c)).bind fun v8 => (if v8 = (0 : Int32) then _ else some (Ev_set_opn (Ev_set_rows (Ev_set_below ev (EL (wt a) (tw a) (io (a 60) c)).2) M) v7)).bind fun v9 => rec (nI c + 1, v9)) = _
        rw [c_spaces hC, Option.bind_some, if_neg (nI_ge (a := c) (b := 2 * a 60) (by omega) (by omega)), rdX_n (by omega) (by omega), Option.bind_some, rdJ_n (by omega) (by omega), Option.bind_some, if_neg hz, wrZ_n (by omega) (by omega) (Or.inr rfl), Option.bind_some, rdI_n (by omega) (by omega), Option.bind_some, if_neg (by unfold upd; rw [if_pos rfl]; decide), Option.bind_some, nI_1]
    · have hz := (pv.2.1 o).1
      rw [← hd] at hz
      have hb := pv.2.2.1
      have e1 := EL_no (t := tw a) o
      rw [nx] at e1
      obtain ⟨M2, f1, f2, f3⟩ := c_clear hV hC (Ev_set_opn (Ev_set_rows (Ev_set_below ev (EL (wt a) (tw a) (io (a 60) c)).2) M) (upd O c 0)) hc hb
      refine ⟨(nI (c + 1), Ev_set_opn (Ev_set_rows (Ev_set_below ev (EL (wt a) (tw a) (io (a 60) (c + 1))).2) M2) (upd O c 0)), ⟨M2, upd O c 0, rfl, fun c' d hc' hd' => ?_, fun c' hc' => ?_⟩, fun rec => ?_⟩
      · rw [e1]
        by_cases q : c' = c
        · subst q
          rw [f3 d]
          exact (h1 c' d hc' hd').trans (elS_s (b := (EL (wt a) (tw a) (io (a 60) c')).2)).symm
        · rw [f2 c' d hc' q (by omega)]
          refine Eq.trans ?_ (elS_n (io_inj hN.2 q)).symm
          show (M c c * M c' d - M c' c * M c d) / (EL (wt a) (tw a) (io (a 60) c)).2 = _
          rw [hd, h1 c' d hc' hd', h1 c' c hc' (Or.inl hc), h1 c d hc hd', jo_n (d := c) (by omega)]
      · unfold upd
        by_cases q : c' = c
        · rw [if_pos q, q, opZ_n o]
        · rw [if_neg q]; exact h2 c' (by omega)
      · show ((fX0_spaces _ z).bind fun v1 => if v1 ≤ nI c then _ else (rdX 6 (nI c)).bind fun v4 => (rdJ (M v4) 7 (nI c)).bind fun v5 => (wrZ O 6 (nI c) (if (0 : Int64) < v5 then (0 : Int32) else 1)).bind fun v7 => (rdI v7 6 (nI c)).bind fun v8 => (if v8 = (0 : Int32) then (fX0_clearColumn (Ev_set_opn (Ev_set_rows (Ev_set_below ev (EL (wt a) (tw a) (io (a 60) c)).2) M) v7) z (nI c)).bind fun v11 => (rdX 6 (nI c)).bind fun v13 => (rdJ (Ev_rows v11 v13) 7 (nI c)).bind fun v14 => some (Ev_set_below v11 v14) else _).bind fun v9 => rec (nI c + 1, v9)) = _
        rw [c_spaces hC, Option.bind_some, if_neg (nI_ge (a := c) (b := 2 * a 60) (by omega) (by omega)), rdX_n (by omega) (by omega), Option.bind_some, rdJ_n (by omega) (by omega), Option.bind_some, if_pos hz, wrZ_n (by omega) (by omega) (Or.inl rfl), Option.bind_some, rdI_n (by omega) (by omega), Option.bind_some, if_pos (by unfold upd; rw [if_pos rfl]), f1, Option.bind_some, Option.bind_some, rdJ_n (by omega) (by omega), Option.bind_some, Option.bind_some, nI_1, e1]
        show rec (nI (c + 1), Ev_set_below _ (M2 c c)) = _
        rw [f3 c, show Ev_rows (Ev_set_opn (Ev_set_rows (Ev_set_below ev (EL (wt a) (tw a) (io (a 60) c)).2) M) (upd O c 0)) c c = M c c from rfl, hd]
  · rintro s ⟨M, O, rfl, h1, h2⟩
    rw [EL_end hV] at h1 ⊢
    refine ⟨(nI (2 * a 60), Ev_set_opn (Ev_set_rows (Ev_set_below ev (EL (wt a) (tw a) 6).2) M) O), ⟨M, O, rfl, h1, h2⟩, fun rec => ?_⟩
    show ((fX0_spaces _ z).bind fun v1 => if v1 ≤ nI (2 * a 60) then _ else _) = _
    rw [c_spaces hC, Option.bind_some, if_pos (Int32.le_refl _)]
theorem c_solveRows {z : Fo} {a : Nat → Nat} (hV : Valid a) (hC : CF z a) (ev : Ev) (hM : ∀ c d, c < 2 * a 60 → (d < 2 * a 60 ∨ d = 6) → Ev_rows ev c d = Int64.ofInt (aM (wt a) (tw a) (io (a 60) c) (jo (a 60) d))) : ∃ M O E, fX0_solveRows ev z = some (Ev_set_eight (Ev_set_opn (Ev_set_rows (Ev_set_below ev (EL (wt a) (tw a) 6).2) M) O) E) ∧ (∀ c, c < 2 * a 60 → O c = opZ (wt a) (io (a 60) c)) ∧ ∀ c, c < 2 * a 60 → E c = spS (wt a) (tw a) (io (a 60) c) := by
  have hN := hV.1
  obtain ⟨r, e1, M, O, e2, e3, e4⟩ := c_solve1 hV hC ev hM
  have main : ∃ s, lp (gX0_solveRows_73 z) 1000 (0, Ev_set_opn (Ev_set_rows (Ev_set_below ev (EL (wt a) (tw a) 6).2) M) O) = some s ∧ ∃ E, s.2 = Ev_set_eight (Ev_set_opn (Ev_set_rows (Ev_set_below ev (EL (wt a) (tw a) 6).2) M) O) E ∧ ∀ c, c < 2 * a 60 → E c = spS (wt a) (tw a) (io (a 60) c) := by
    refine lp_J (σ := Int32 × Ev) (ρ := Int32 × Ev) (fun c s => ∃ E, s = (nI c, Ev_set_eight (Ev_set_opn (Ev_set_rows (Ev_set_below ev (EL (wt a) (tw a) 6).2) M) O) E) ∧ ∀ c', c' < c → E c' = spS (wt a) (tw a) (io (a 60) c')) (2 * a 60) _ (by omega) ⟨Ev_eight ev, rfl, fun c' h => by omega⟩ ?_ ?_
    · rintro c s hc ⟨E, rfl, h1⟩
      refine ⟨(nI (c + 1), Ev_set_eight (Ev_set_opn (Ev_set_rows (Ev_set_below ev (EL (wt a) (tw a) 6).2) M) O) (vp_updL E c (spS (wt a) (tw a) (io (a 60) c)))), ⟨vp_updL E c (spS (wt a) (tw a) (io (a 60) c)), rfl, fun c' hc' => ?_⟩, fun rec => ?_⟩
      · unfold vp_updL
        by_cases q : c' = c
        · rw [if_pos q, q]
        · rw [if_neg q]; exact h1 c' (by omega)
      · show ((fX0_spaces _ z).bind fun v1 => if v1 ≤ nI c then _ else (rdI O 6 (nI c)).bind fun v3 => (if v3 = (0 : Int32) then (rdX 6 (nI c)).bind fun v7 => (rdJ (M v7) 7 6).bind fun v8 => some v8 else some 0).bind fun v4 => (wrJ E 6 (nI c) v4).bind fun v9 => rec (nI c + 1, Ev_set_eight (Ev_set_opn (Ev_set_rows (Ev_set_below ev (EL (wt a) (tw a) 6).2) M) O) v9)) = _
        rw [c_spaces hC, Option.bind_some, if_neg (nI_ge (a := c) (b := 2 * a 60) (by omega) (by omega)), rdI_n (by omega) (by omega), Option.bind_some, e4 c hc, show (6 : Int32) = nI 6 from rfl]
        by_cases o : opS (wt a) (io (a 60) c)
        · rw [if_neg (by rw [opZ_y o]; decide), Option.bind_some, wrJ_n (by omega) (by omega), Option.bind_some, nI_1, spS_y o]
        · rw [if_pos (opZ_n o), rdX_n (by omega) (by omega), Option.bind_some, rdJ_n (by omega) (by omega), Option.bind_some, Option.bind_some, wrJ_n (by omega) (by omega), Option.bind_some, nI_1, spS_n o, e3 c 6 hc (Or.inr rfl)]
          rfl
    · rintro s ⟨E, rfl, h1⟩
      refine ⟨(nI (2 * a 60), Ev_set_eight (Ev_set_opn (Ev_set_rows (Ev_set_below ev (EL (wt a) (tw a) 6).2) M) O) E), ⟨E, rfl, h1⟩, fun rec => ?_⟩
      show ((fX0_spaces _ z).bind fun v1 => if v1 ≤ nI (2 * a 60) then _ else _) = _
      rw [c_spaces hC, Option.bind_some, if_pos (Int32.le_refl _)]
  obtain ⟨s, f1, E, f2, f3⟩ := main
  refine ⟨M, O, E, ?_, e4, f3⟩
  unfold fX0_solveRows
  rw [e1, Option.bind_some, e2, f1, Option.bind_some, f2]
