/-! ===== the reference's lots ===== -/
theorem r_lots1 (mo : Mo) {a : Nat → Nat} {X : Nat} {y : Int32} (hV : Valid a) (hX : X < 2147483647) (hF : RF (Mo_now mo) a) : ∃ w, lp (gX6_drift_25 y) 1000 (lN X, 0, mo) = some (lN (dS a X (16 * a 60)).2, nI (16 * a 60), Mo_set_now mo w) ∧ RF w (dS a X (16 * a 60)).1 := by
  have hN := hV.1
  obtain ⟨r, h1, w, h2, h3⟩ := lp_J (g := gX6_drift_25 y) (s := (lN X, (0 : Int32), mo)) (fun k u => ∃ w, u = (lN (dS a X k).2, nI k, Mo_set_now mo w) ∧ RF w (dS a X k).1) (16 * a 60) (fun r => ∃ w, r = (lN (dS a X (16 * a 60)).2, nI (16 * a 60), Mo_set_now mo w) ∧ RF w (dS a X (16 * a 60)).1) (by omega) ⟨Mo_now mo, rfl, hF⟩ (by
    rintro k u hk ⟨w, rfl, hw⟩
    refine ⟨(lN (lotN (dS a X k).2), nI (k + 1), Mo_set_now mo (upd w k (nI (lotN (dS a X k).2 % 31)))), ⟨_, rfl, hw.up _ _⟩, fun rec => ?_⟩
    show (rdI w 63 (nI 60)).bind (fun v1 => (if nI 16 * v1 ≤ nI k then _ else (wrI w 63 (nI k) (Int64.toInt32 ((lN (dS a X k).2 * 16807 - lN (dS a X k).2 * 16807 / 2147483647 * 2147483647) - (lN (dS a X k).2 * 16807 - lN (dS a X k).2 * 16807 / 2147483647 * 2147483647) / 31 * 31))).bind fun v3 => rec (lN (dS a X k).2 * 16807 - lN (dS a X k).2 * 16807 / 2147483647 * 2147483647, nI k + 1, Mo_set_now mo v3))) = _
    rw [rdI_n (by omega) (by omega), Option.bind_some, hw 60 (by omega), dS_hi (by omega) (by omega), nI_mul, if_neg (nI_ge (a := k) (b := 16 * a 60) (by omega) (by omega)), lot_n (dS_lt hX), mod31 (lotN_lt _), wrI_n (by omega) (by omega), Option.bind_some, nI_1]) (by
    rintro u ⟨w, rfl, hw⟩
    refine ⟨_, ⟨w, rfl, hw⟩, fun rec => ?_⟩
    show (rdI w 63 (nI 60)).bind (fun v1 => (if nI 16 * v1 ≤ nI (16 * a 60) then some (lN (dS a X (16 * a 60)).2, nI (16 * a 60), Mo_set_now mo w) else _)) = _
    rw [rdI_n (by omega) (by omega), Option.bind_some, hw 60 (by omega), dS_hi (by omega) (by omega), nI_mul, if_pos (nI_le (Nat.le_refl _) (by omega))])
  exact ⟨w, by rw [h1, h2], h3⟩
theorem dW_bare {a : Nat → Nat} {X N : Nat} (hN : 1 ≤ N ∧ N ≤ 3) {k i j : Nat} (hk : k ≤ N * N) (hi : i < 3) (hj : j < 3) : bareN (dW a X N k).1 i j = bareN a i j := bareN_ext (fun q hq => dW_out hN (by omega) hk) (dW_out hN (by omega) hk) hi hj
theorem r_lw2 (mo : Mo) {a : Nat → Nat} {X i c0 : Nat} {y : Int32} (hV : Valid a) (hX : X < 2147483647) (hi : i < a 60) (hF : RF (Mo_now mo) (dW a X (a 60) (a 60 * i)).1) : ∃ w, lp (gX6_drift_90 y (nI i)) 1000 (lN (dW a X (a 60) (a 60 * i)).2, nI c0, 0, mo) = some (lN (dW a X (a 60) (a 60 * (i + 1))).2, nI (c0 + smN (fun j => bareN a i j) (a 60)), nI (a 60), Mo_set_now mo w) ∧ RF w (dW a X (a 60) (a 60 * (i + 1))).1 := by
  have hN := hV.1
  have hmul : a 60 * (i + 1) = a 60 * i + a 60 := Nat.mul_succ _ _
  have hle : a 60 * (i + 1) ≤ a 60 * a 60 := Nat.mul_le_mul_left _ (by omega)
  rw [hmul] at hle ⊢
  obtain ⟨r, h1, w, h2, h3⟩ := lp_J (g := gX6_drift_90 y (nI i)) (s := (lN (dW a X (a 60) (a 60 * i)).2, nI c0, (0 : Int32), mo)) (fun j u => ∃ w, u = (lN (dW a X (a 60) (a 60 * i + j)).2, nI (c0 + smN (fun j => bareN a i j) j), nI j, Mo_set_now mo w) ∧ RF w (dW a X (a 60) (a 60 * i + j)).1) (a 60) (fun r => ∃ w, r = (lN (dW a X (a 60) (a 60 * i + a 60)).2, nI (c0 + smN (fun j => bareN a i j) (a 60)), nI (a 60), Mo_set_now mo w) ∧ RF w (dW a X (a 60) (a 60 * i + a 60)).1) (by omega) ⟨Mo_now mo, rfl, hF⟩ (by
    rintro j u hj ⟨w, rfl, hw⟩
    have e := dW_out (a := a) (X := X) (q := 60) hN (by omega) (k := a 60 * i + j) (by omega)
    obtain ⟨d1, d2⟩ := divmod (N := a 60) (i := i) (j := j) hj
    have hw' : RF (upd w (51 + (3 * i + j)) (nI (lotN (dW a X (a 60) (a 60 * i + j)).2 % 5))) (dW a X (a 60) (a 60 * i + (j + 1))).1 := by
      show RF _ (upN _ (51 + (3 * ((a 60 * i + j) / a 60) + (a 60 * i + j) % a 60)) _)
      rw [d1, d2]
      exact hw.up _ _
    have hv' := dW_valid hV (X := X) (k := a 60 * i + (j + 1)) (by omega)
    have hb := r_bare (mo := Mo_set_now mo (upd w (51 + (3 * i + j)) (nI (lotN (dW a X (a 60) (a 60 * i + j)).2 % 5)))) hv' hw' (i := i) (j := j) (by omega) (by omega)
    rw [dW_bare hN (by omega) (by omega) (by omega)] at hb
    refine ⟨(lN (lotN (dW a X (a 60) (a 60 * i + j)).2), nI (c0 + smN (fun j => bareN a i j) (j + 1)), nI (j + 1), Mo_set_now mo (upd w (51 + (3 * i + j)) (nI (lotN (dW a X (a 60) (a 60 * i + j)).2 % 5)))), ⟨_, rfl, hw'⟩, fun rec => ?_⟩
    show (rdI w 63 (nI 60)).bind (fun v1 => (if v1 ≤ nI j then _ else (wrI w 63 ((nI 51 + nI 3 * nI i) + nI j) (Int64.toInt32 ((lN (dW a X (a 60) (a 60 * i + j)).2 * 16807 - lN (dW a X (a 60) (a 60 * i + j)).2 * 16807 / 2147483647 * 2147483647) - (lN (dW a X (a 60) (a 60 * i + j)).2 * 16807 - lN (dW a X (a 60) (a 60 * i + j)).2 * 16807 / 2147483647 * 2147483647) / 5 * 5))).bind fun v3 => (fX6_bare (Mo_set_now mo v3) (nI i) (nI j)).bind fun v4 => rec (lN (dW a X (a 60) (a 60 * i + j)).2 * 16807 - lN (dW a X (a 60) (a 60 * i + j)).2 * 16807 / 2147483647 * 2147483647, nI (c0 + smN (fun j => bareN a i j) j) + v4, nI j + 1, Mo_set_now mo v3))) = _
    rw [rdI_n (by omega) (by omega), Option.bind_some, hw 60 (by omega), e, if_neg (nI_ge (a := j) (b := a 60) (by omega) (by omega)), lot_n (dW_lt hX), mod5 (lotN_lt _), nI_mul, nI_add, nI_add, show 51 + 3 * i + j = 51 + (3 * i + j) by omega, wrI_n (by omega) (by omega), Option.bind_some, hb, Option.bind_some, nI_add, nI_1, Nat.add_assoc c0]
    rfl) (by
    rintro u ⟨w, rfl, hw⟩
    have e := dW_out (a := a) (X := X) (q := 60) hN (by omega) (k := a 60 * i + a 60) (by omega)
    refine ⟨_, ⟨w, rfl, hw⟩, fun rec => ?_⟩
    show (rdI w 63 (nI 60)).bind (fun v1 => (if v1 ≤ nI (a 60) then some (lN (dW a X (a 60) (a 60 * i + a 60)).2, nI (c0 + smN (fun j => bareN a i j) (a 60)), nI (a 60), Mo_set_now mo w) else _)) = _
    rw [rdI_n (by omega) (by omega), Option.bind_some, hw 60 (by omega), e, if_pos (nI_le (Nat.le_refl _) (by omega))])
  exact ⟨w, by rw [h1, h2], h3⟩
theorem r_lw1 (mo : Mo) {a : Nat → Nat} {X : Nat} {y : Int32} (hV : Valid a) (hX : X < 2147483647) (hF : RF (Mo_now mo) a) : ∃ (x : Int64) (w : Nat → Int32), lp (gX6_drift_75 y) 1000 (lN X, 0, 0, mo) = some (x, nI (smN (fun i => smN (fun j => bareN a i j) (a 60)) (a 60)), nI (a 60), Mo_set_now mo w) ∧ RF w (dW a X (a 60) (a 60 * a 60)).1 := by
  have hN := hV.1
  obtain ⟨r, h1, w, h2, h3⟩ := lp_J (g := gX6_drift_75 y) (s := (lN X, (0 : Int32), (0 : Int32), mo)) (fun i u => ∃ w, u = (lN (dW a X (a 60) (a 60 * i)).2, nI (smN (fun i => smN (fun j => bareN a i j) (a 60)) i), nI i, Mo_set_now mo w) ∧ RF w (dW a X (a 60) (a 60 * i)).1) (a 60) (fun r => ∃ w, r = (lN (dW a X (a 60) (a 60 * a 60)).2, nI (smN (fun i => smN (fun j => bareN a i j) (a 60)) (a 60)), nI (a 60), Mo_set_now mo w) ∧ RF w (dW a X (a 60) (a 60 * a 60)).1) (by omega) ⟨Mo_now mo, rfl, hF⟩ (by
    rintro i u hi ⟨w, rfl, hw⟩
    have hle : a 60 * i ≤ a 60 * a 60 := Nat.mul_le_mul_left _ (by omega)
    have e := dW_out (a := a) (X := X) (q := 60) hN (by omega) (k := a 60 * i) hle
    obtain ⟨w2, f1, f2⟩ := r_lw2 (Mo_set_now mo w) (y := y) (c0 := smN (fun i => smN (fun j => bareN a i j) (a 60)) i) hV hX hi hw
    refine ⟨(lN (dW a X (a 60) (a 60 * (i + 1))).2, nI (smN (fun i => smN (fun j => bareN a i j) (a 60)) (i + 1)), nI (i + 1), Mo_set_now mo w2), ⟨_, rfl, f2⟩, fun rec => ?_⟩
    show (rdI w 63 (nI 60)).bind (fun v1 => (if v1 ≤ nI i then _ else (lp (gX6_drift_90 y (nI i)) 1000 (lN (dW a X (a 60) (a 60 * i)).2, nI (smN (fun i => smN (fun j => bareN a i j) (a 60)) i), 0, Mo_set_now mo w)).bind fun v3 => rec (v3.1, v3.2.1, nI i + 1, v3.2.2.2))) = _
    rw [rdI_n (by omega) (by omega), Option.bind_some, hw 60 (by omega), e, if_neg (nI_ge (a := i) (b := a 60) (by omega) (by omega)), f1, Option.bind_some, nI_1]
    rfl) (by
    rintro u ⟨w, rfl, hw⟩
    have e := dW_out (a := a) (X := X) (q := 60) hN (by omega) (k := a 60 * a 60) (Nat.le_refl _)
    refine ⟨_, ⟨w, rfl, hw⟩, fun rec => ?_⟩
    show (rdI w 63 (nI 60)).bind (fun v1 => (if v1 ≤ nI (a 60) then some (lN (dW a X (a 60) (a 60 * a 60)).2, nI (smN (fun i => smN (fun j => bareN a i j) (a 60)) (a 60)), nI (a 60), Mo_set_now mo w) else _)) = _
    rw [rdI_n (by omega) (by omega), Option.bind_some, hw 60 (by omega), e, if_pos (nI_le (Nat.le_refl _) (by omega))])
  exact ⟨_, w, by rw [h1, h2], h3⟩
theorem driftA_valid {a : Nat → Nat} (hV : Valid a) (s : Nat) : Valid (driftA a s) ∧ driftA a s 60 = a 60 ∧ ∀ i j, i < 3 → j < 3 → bareN (driftA a s) i j = bareN (dS a s (16 * a 60)).1 i j := by
  have hN := hV.1
  have h1 := dS_valid hV (X := s) (k := 16 * a 60) (by omega)
  have h60 : (dS a s (16 * a 60)).1 60 = a 60 := dS_hi (by omega) (by omega)
  have h2 := dW_valid h1 (X := (dS a s (16 * a 60)).2) (k := a 60 * a 60) (by rw [h60]; exact Nat.le_refl _)
  rw [h60] at h2
  refine ⟨h2, ?_, fun i j hi hj => dW_bare hN (Nat.le_refl _) hi hj⟩
  exact (dW_out hN (by omega) (Nat.le_refl _)).trans h60
theorem sim_drift (X : Ev → (Nat → Nat) → Prop) : Sim_drift (RelX X) := by
  intro z ev li te pa im mo x1 hR
  have hR0 := hR
  obtain ⟨a, n, l, m, u, g, b, hV, hC, hF, hL, hLl, hU, hI, hE⟩ := hR
  have hN := hV.1
  by_cases c1 : W01 x1 (nI 1) (nI 999999) = 0
  · refine ⟨-1000000002, z, ev, pa, mo, ?_, ?_, hR0⟩
    · unfold fX5_drift
      rw [c_in (l := 1) (h := 999999) 1 999999 rfl rfl, Option.bind_some, if_pos c1]
    · unfold fX6_drift
      rw [r_in (l := 1) (h := 999999) 1 999999 rfl rfl, Option.bind_some, if_pos c1]
  obtain ⟨s, hs1, hs, rfl⟩ := W01_yes (by omega) c1 (by omega)
  obtain ⟨ev1, pa1, Q, m1, u1, e1, e2, e3, e4⟩ := change_ok (ev := ev) li te im hV hC hF hU
  obtain ⟨z', f1, f2⟩ := c_drawLots (s := s) hV (by omega) hC
  obtain ⟨v1, v2, v3⟩ := driftA_valid hV s
  have hsum : smN (fun i => smN (fun j => bareN (driftA a s) i j) (a 60)) (a 60) = smN (fun i => smN (fun j => bareN (dS a s (16 * a 60)).1 i j) (a 60)) (a 60) := smN_ext fun i hi => smN_ext fun j hj => v3 i j (by omega) (by omega)
  have f3 := c_bareOfAll v1 f2
  rw [v2, hsum] at f3
  obtain ⟨w1, g1, g2⟩ := r_lots1 (Mo_set_undos (Mo_set_past mo Q) (nI m1)) (a := a) (y := nI s) (X := s) hV (by omega) hF
  have h60 : (dS a s (16 * a 60)).1 60 = a 60 := dS_hi (by omega) (by omega)
  obtain ⟨xx, w2, g3, g4⟩ := r_lw1 (Mo_set_now (Mo_set_undos (Mo_set_past mo Q) (nI m1)) w1) (y := nI s) (X := (dS a s (16 * a 60)).2) (dS_valid hV (X := s) (k := 16 * a 60) (by omega)) (dS_lt (by omega)) g2
  rw [h60] at g3 g4
  refine ⟨nI (smN (fun i => smN (fun j => bareN (dS a s (16 * a 60)).1 i j) (a 60)) (a 60)), z', ev1, pa1, Mo_set_now (Mo_set_undos (Mo_set_past mo Q) (nI m1)) w2, ?_, ?_, driftA a s, n, l, m1, u1, g, b, v1, f2, g4, hL, fun k hk => by rw [v2]; exact hLl k hk, e4, hI, Or.inl e3⟩
  · unfold fX5_drift
    rw [c_in (l := 1) (h := 999999) 1 999999 rfl rfl, Option.bind_some, if_neg c1, e1, Option.bind_some, f1, Option.bind_some, f3, Option.bind_some]
  · unfold fX6_drift
    rw [r_in (l := 1) (h := 999999) 1 999999 rfl rfl, Option.bind_some, if_neg c1, e2, Option.bind_some, nI_l (by omega), g1, Option.bind_some, g3, Option.bind_some]
