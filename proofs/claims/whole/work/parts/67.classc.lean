/-! the class clears a column; it solves its rows -/
theorem dvJ_n {x y : Int64} (h : ¬ y = 0) : dvJ x y = some (x / y) := if_neg h
theorem c_clear1 (z : Fo) (ev : Ev) (M : Nat → Nat → Int64) (p b x : Int64) {c i : Nat} (hc : c < 6) (hi : i < 6) (hn : i ≠ c) (hb : ¬ b = 0) : ∃ r, lp (gX0_clearColumn_51 z (nI c) p b (nI i) x) 1000 (0, Ev_set_rows ev M) = some r ∧ ∃ M', r.2 = Ev_set_rows ev M' ∧ (∀ d, d < 7 → M' i d = (p * M i d - x * M c d) / b) ∧ ∀ c' d, c' ≠ i → M' c' d = M c' d := by
  refine lp_J (σ := Int32 × Ev) (ρ := Int32 × Ev) (fun d s => ∃ M', s = (nI d, Ev_set_rows ev M') ∧ (∀ d', d' < d → M' i d' = (p * M i d' - x * M c d') / b) ∧ (∀ d', d ≤ d' → M' i d' = M i d') ∧ ∀ c' d', c' ≠ i → M' c' d' = M c' d') 7 _ (by omega) ⟨M, rfl, fun d' h => by omega, fun _ _ => rfl, fun _ _ _ => rfl⟩ ?_ ?_
  · rintro d s hd ⟨M', rfl, h1, h3, h2⟩
    refine ⟨(nI (d + 1), Ev_set_rows ev (up2 M' i (vp_updL (M' i) d ((p * M i d - x * M c d) / b)))), ⟨up2 M' i (vp_updL (M' i) d ((p * M i d - x * M c d) / b)), rfl, fun d' hd' => ?_, fun d' hd' => ?_, fun c' d' hn => ?_⟩, fun rec => ?_⟩
    · show (if i = i then vp_updL (M' i) d ((p * M i d - x * M c d) / b) else M' i) d' = _
      rw [if_pos rfl]
      unfold vp_updL
      by_cases q : d' = d
      · rw [if_pos q, q]
      · rw [if_neg q]; exact h1 d' (by omega)
    · show (if i = i then vp_updL (M' i) d ((p * M i d - x * M c d) / b) else M' i) d' = _
      rw [if_pos rfl]
      unfold vp_updL
      rw [if_neg (by omega)]
      exact h3 d' (by omega)
    · show (if c' = i then vp_updL (M' i) d ((p * M i d - x * M c d) / b) else M' c') d' = _
      rw [if_neg hn]
      exact h2 c' d' hn
    · show (if nI 6 < nI d then _ else (rdX 6 (nI i)).bind fun v3 => (rdX 6 (nI i)).bind fun v5 => (rdJ (M' v5) 7 (nI d)).bind fun v6 => (rdX 6 (nI c)).bind fun v8 => (rdJ (M' v8) 7 (nI d)).bind fun v9 => (dvJ (p * v6 - x * v9) b).bind fun v10 => (wrJ (M' v3) 7 (nI d) v10).bind fun v11 => rec (nI d + 1, Ev_set_rows ev (up2 M' v3 v11))) = _
      rw [if_neg (not_lt (by omega) (by omega) (by omega)), rdX_n hi (by omega), Option.bind_some, Option.bind_some, rdJ_n (by omega) (by omega), Option.bind_some, rdX_n hc (by omega), Option.bind_some, rdJ_n (by omega) (by omega), Option.bind_some, dvJ_n hb, Option.bind_some, wrJ_n (by omega) (by omega), Option.bind_some, nI_1, h3 d (by omega), h2 c d (by omega)]
  · rintro s ⟨M', rfl, h1, h3, h2⟩
    refine ⟨(nI 7, Ev_set_rows ev M'), ⟨M', rfl, h1, h2⟩, fun rec => ?_⟩
    show (if nI 6 < nI 7 then _ else _) = _
    rw [if_pos (lt_lt (by omega) (by omega) (by omega))]
theorem c_spaces {z : Fo} {a : Nat → Nat} (hC : CF z a) (ev : Ev) : fX0_spaces ev z = some (nI (2 * a 60)) := by
  show some ((2 : Int32) * Fo_many z) = _
  rw [hC.1, show (2 : Int32) = nI 2 from rfl, nI_mul]
theorem c_clear {z : Fo} {a : Nat → Nat} (hV : Valid a) (hC : CF z a) (ev : Ev) {c : Nat} (hc : c < 2 * a 60) (hb : 0 < Ev_below ev) : ∃ M', fX0_clearColumn ev z (nI c) = some (Ev_set_rows ev M') ∧ (∀ i d, i < 2 * a 60 → i ≠ c → d < 7 → M' i d = (Ev_rows ev c c * Ev_rows ev i d - Ev_rows ev i c * Ev_rows ev c d) / Ev_below ev) ∧ ∀ d, M' c d = Ev_rows ev c d := by
  have hN := hV.1
  have hb1 : ¬ Ev_below ev < 1 := by
    rw [Int64.lt_iff_toInt_lt] at hb ⊢
    have h0 : (0 : Int64).toInt = 0 := rfl
    have h1 : (1 : Int64).toInt = 1 := rfl
    omega
  have hb0 : ¬ Ev_below ev = 0 := fun q => by
    rw [q] at hb
    exact absurd hb (by decide)
  have main : ∃ r, lp (gX0_clearColumn_22 z (nI c) (Ev_rows ev c c) (Ev_below ev)) 1000 (0, ev) = some r ∧ ∃ M', r.2 = Ev_set_rows ev M' ∧ (∀ i d, i < 2 * a 60 → i ≠ c → d < 7 → M' i d = (Ev_rows ev c c * Ev_rows ev i d - Ev_rows ev i c * Ev_rows ev c d) / Ev_below ev) ∧ ∀ d, M' c d = Ev_rows ev c d := by
    refine lp_J (σ := Int32 × Ev) (ρ := Int32 × Ev) (fun i s => ∃ M', s = (nI i, Ev_set_rows ev M') ∧ (∀ i' d, i' < i → i' ≠ c → d < 7 → M' i' d = (Ev_rows ev c c * Ev_rows ev i' d - Ev_rows ev i' c * Ev_rows ev c d) / Ev_below ev) ∧ (∀ i' d, i ≤ i' → M' i' d = Ev_rows ev i' d) ∧ ∀ d, M' c d = Ev_rows ev c d) (2 * a 60) _ (by omega) ⟨Ev_rows ev, rfl, fun i' _ h => by omega, fun _ _ _ => rfl, fun _ => rfl⟩ ?_ ?_
    · rintro i s hi ⟨M', rfl, h1, h2, h3⟩
      by_cases hic : i = c
      · refine ⟨(nI (i + 1), Ev_set_rows ev M'), ⟨M', rfl, fun i' d hi' hn hd => h1 i' d (by omega) hn hd, fun i' d hi' => h2 i' d (by omega), h3⟩, fun rec => ?_⟩
        show ((fX0_spaces (Ev_set_rows ev M') z).bind fun v1 => if v1 ≤ nI i then _ else ((if nI i = nI c then some (Ev_set_rows ev M') else _)).bind fun v3 => rec (nI i + 1, v3)) = _
        rw [c_spaces hC, Option.bind_some, if_neg (nI_ge (a := i) (b := 2 * a 60) (by omega) (by omega)), if_pos (by rw [hic]), Option.bind_some, nI_1]
      · obtain ⟨r, e1, M2, e2, e3, e4⟩ := c_clear1 z ev M' (Ev_rows ev c c) (Ev_below ev) (Ev_rows ev i c) (c := c) (i := i) (by omega) (by omega) hic hb0
        refine ⟨(nI (i + 1), Ev_set_rows ev M2), ⟨M2, rfl, fun i' d hi' hn hd => ?_, fun i' d hi' => ?_, fun d => ?_⟩, fun rec => ?_⟩
        · by_cases q : i' = i
          · subst q
            rw [e3 d hd, h2 i' d (by omega), h3 d]
          · rw [e4 i' d q]
            exact h1 i' d (by omega) hn hd
        · rw [e4 i' d (by omega)]
          exact h2 i' d (by omega)
        · rw [e4 c d (by omega)]
          exact h3 d
        · show ((fX0_spaces (Ev_set_rows ev M') z).bind fun v1 => if v1 ≤ nI i then _ else ((if nI i = nI c then some (Ev_set_rows ev M') else (rdX 6 (nI i)).bind fun v6 => (rdJ (M' v6) 7 (nI c)).bind fun v7 => (lp (gX0_clearColumn_51 z (nI c) (Ev_rows ev c c) (Ev_below ev) (nI i) v7) 1000 (0, Ev_set_rows ev M')).bind fun v8 => some v8.2)).bind fun v3 => rec (nI i + 1, v3)) = _
          rw [c_spaces hC, Option.bind_some, if_neg (nI_ge (a := i) (b := 2 * a 60) (by omega) (by omega)), if_neg (by rw [nI_eq_iff (by omega) (by omega)]; exact hic), rdX_n (by omega) (by omega), Option.bind_some, rdJ_n (by omega) (by omega), Option.bind_some, h2 i c (by omega), e1, Option.bind_some, e2, Option.bind_some, nI_1]
    · rintro s ⟨M', rfl, h1, h2, h3⟩
      refine ⟨(nI (2 * a 60), Ev_set_rows ev M'), ⟨M', rfl, h1, h3⟩, fun rec => ?_⟩
      show ((fX0_spaces (Ev_set_rows ev M') z).bind fun v1 => if v1 ≤ nI (2 * a 60) then _ else _) = _
      rw [c_spaces hC, Option.bind_some, if_pos (Int32.le_refl _)]
  obtain ⟨r, e1, M', e2, e3⟩ := main
  refine ⟨M', ?_, e3⟩
  unfold fX0_clearColumn
  rw [rdX_n (by omega) (by omega), Option.bind_some, rdJ_n (by omega) (by omega), Option.bind_some, if_neg hb1, e1, Option.bind_some, e2]
