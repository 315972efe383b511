/-! ===== LAYER 2: the end of the elimination ===== -/
theorem rdiv {r x K : Int} (hr : 1 ≤ r) (h1 : -(r * K) ≤ r * x) (h2 : r * x ≤ r * K) : -K ≤ x ∧ x ≤ K := by
  refine ⟨Int.le_of_mul_le_mul_left (a := r) (by rw [Int.mul_neg]; exact h1) (by omega), Int.le_of_mul_le_mul_left h2 (by omega)⟩
theorem go_r {w t : Nat → Nat → Int} (h : HW w t) {i : Nat} (hi : i < 3) : -(500 * ro w i) ≤ go w t i ∧ go w t i ≤ 500 * ro w i := by
  have one : ∀ j, j < 3 → -(w i j * 500) ≤ w i j * t i j ∧ w i j * t i j ≤ w i j * 500 := fun j hj => by
    have := h i j hi hj
    exact mb ⟨by omega, by omega⟩ ⟨by omega, by omega⟩
  have h0 := one 0 (by omega)
  have h1 := one 1 (by omega)
  have h2 := one 2 (by omega)
  unfold go ro
  omega
theorem right_b {w t : Nat → Nat → Int} (h : HW w t) {i : Nat} (hi : i < 3) {x A B1 B2 : Int} (e : rh w i * x = A * go w t i - w i 0 * B1 - w i 1 * B2) (hA : 0 ≤ A ∧ A ≤ 82944) (h1 : -102000000 ≤ B1 ∧ B1 ≤ 102000000) (h2 : -102000000 ≤ B2 ∧ B2 ≤ 102000000) : -150000000 ≤ x ∧ x ≤ 150000000 := by
  have hg := go_r h hi
  have hr := rh_b h hi
  have hro := ro_b h hi
  have hle : ro w i ≤ rh w i := by
    unfold rh
    split <;> omega
  have a1 := mb (x := A) (y := go w t i) (X := 82944) (Y := 500 * ro w i) ⟨by omega, by omega⟩ hg
  have w0 := (h i 0 hi (by omega)).1
  have w1 := (h i 1 hi (by omega)).1
  have w2 := (h i 2 hi (by omega)).1
  have a2 := mb (x := w i 0) (y := B1) (X := w i 0) (Y := 102000000) ⟨by omega, by omega⟩ h1
  have a3 := mb (x := w i 1) (y := B2) (X := w i 1) (Y := 102000000) ⟨by omega, by omega⟩ h2
  have er : ro w i = w i 0 + w i 1 + w i 2 := rfl
  refine rdiv (r := rh w i) (by omega) ?_ ?_ <;> rw [e] <;> omega
theorem jI_np {x : Int} (h : x = 0) : ¬ 0 < Int64.ofInt x := by
  subst h
  decide
theorem op3_i (w : Nat → Nat → Int) : opS w 3 ↔ jn w 0 1 = 0 ∧ jn w 0 2 = 0 := Iff.rfl
theorem op4_i (w : Nat → Nat → Int) : opS w 4 ↔ jn w 1 2 = 0 ∧ (jn w 0 1 = 0 ∨ jn w 0 2 = 0) := Iff.rfl
theorem op5_i (w : Nat → Nat → Int) : opS w 5 := trivial
def Fin6 (w t : Nat → Nat → Int) : Prop := ∃ (B : Int) (e : Nat → Int), 0 < B ∧ B ≤ 82944 ∧ (EL w t 6).2 = Int64.ofInt B ∧ ∀ k, k < 6 → ¬ opS w k → (EL w t 6).1 k 6 = Int64.ofInt (e k) ∧ -150000000 ≤ e k ∧ e k ≤ 150000000
theorem jn_z {w t : Nat → Nat → Int} (h : HW w t) {j k : Nat} (hj : j < 3) (hk : k < 3) (z : jn w j k = 0) : ∀ i, i < 3 → w i j * w i k = 0 := by
  have w0 := ww_b h (i := 0) (by omega) hj hk
  have w1 := ww_b h (i := 1) (by omega) hj hk
  have w2 := ww_b h (i := 2) (by omega) hj hk
  unfold jn at z
  intro i hi
  have e : i = 0 ∨ i = 1 ∨ i = 2 := by omega
  rcases e with rfl | rfl | rfl <;> omega
theorem cancel {r x y : Int} (hr : 1 ≤ r) (e : r * x = r * y) : x = y := Int.eq_of_mul_eq_mul_left (by omega) e
theorem fin_D (a b T f x y g u v : Int) (r0 : T * f + a * y = (a + b) * x) : T * ((a + b) * g - u * f) - ((a + b) * v + u * a) * y = (a + b) * (T * g - u * x - v * y) := by grind
theorem EL_6 {w t : Nat → Nat → Int} (h : HW w t) : Pv w t 3 ∧ Pv w t 4 ∧ Pv w t 5 ∧ Fin6 w t := by
  obtain ⟨⟨b3, rl, rg, ⟨m33, m34, m35⟩, ⟨m43, m44, m45⟩, ⟨m53, m54, m55⟩, m36, m46, m56⟩, -⟩ := EL_3 h
  have qa := q3_b h (j := 0) (k := 1) (by omega) (by omega)
  have qb := q3_b h (j := 0) (k := 2) (by omega) (by omega)
  have qc := q3_b h (j := 1) (k := 2) (by omega) (by omega)
  have fa := fl_b h (j := 0) (k := 1) (by omega) (by omega)
  have fb := fl_b h (j := 0) (k := 2) (by omega) (by omega)
  have fc := fl_b h (j := 1) (k := 2) (by omega) (by omega)
  have hP := PW_b h
  have hT := TT_b h
  have pt := pT h
  have hb3 : 0 < (EL w t 3).2 ∧ (EL w t 3).2 ≤ 82944 := by rw [b3]; exact jI_pos (by omega) (by omega)
  have E6 : EL w t 6 = EL w t 5 := EL_op (op5_i w)
  have c6 : ∀ k, k < 6 → k < 3 ∨ k = 3 ∨ k = 4 ∨ k = 5 := fun k hk => by omega
  by_cases o3 : opS w 3
  · have E4 : EL w t 4 = EL w t 3 := EL_op o3
    have j3 := (op3_i w).mp o3
    have za : q3 w 0 1 = 0 := by omega
    have zb : q3 w 0 2 = 0 := by omega
    have P3 : Pv w t 3 := ⟨fun _ => by rw [m33]; exact jI_np (by omega), fun n => absurd o3 n, hb3⟩
    by_cases o4 : opS w 4
    · have E5 : EL w t 5 = EL w t 4 := EL_op o4
      have j4 := (op4_i w).mp o4
      have zc : q3 w 1 2 = 0 := by omega
      refine ⟨P3, ⟨fun _ => by rw [E4, m44]; exact jI_np (by omega), fun n => absurd o4 n, by rw [E4]; exact hb3⟩, ⟨fun _ => by rw [E5, E4, m55]; exact jI_np (by omega), fun n => absurd (op5_i w) n, by rw [E5, E4]; exact hb3⟩, PW w, fun k => pw w k * go w t k, by omega, by omega, by rw [E6, E5, E4]; exact b3, fun k hk hn => ?_⟩
      rcases c6 k hk with hk3 | rfl | rfl | rfl
      · have := pw_b h k
        have hg := go_b h hk3
        have := mb (x := pw w k) (y := go w t k) (X := 144) (Y := 6000) ⟨by omega, by omega⟩ ⟨by omega, by omega⟩
        refine ⟨by rw [E6, E5, E4]; exact rg k hk3, ?_, ?_⟩ <;> dsimp only <;> omega
      · exact absurd o3 hn
      · exact absurd o4 hn
      · exact absurd (op5_i w) hn
    · have E5 := EL_no (t := t) o4
      rw [E4] at E5
      have hc : 0 < q3 w 1 2 := by
        have : ¬ (jn w 1 2 = 0 ∧ (jn w 0 1 = 0 ∨ jn w 0 2 = 0)) := fun q => o4 ((op4_i w).mpr q)
        omega
      have p44 : (EL w t 3).1 4 4 = Int64.ofInt (q3 w 1 2) := by rw [m44, za, Int.zero_add]
      have hpv : 0 < (EL w t 3).1 4 4 ∧ (EL w t 3).1 4 4 ≤ 82944 := by rw [p44]; exact jI_pos hc (by omega)
      obtain ⟨R, hR⟩ := exK h (jn_z h (by omega) (by omega) j3.1) (jn_z h (by omega) (by omega) j3.2)
      have n55 : (EL w t 5).1 5 5 = Int64.ofInt 0 := by
        rw [E5]
        show elS _ _ 4 5 5 = _
        rw [elS_n (by omega)]
        exact el_div p44 m55 m54 m45 b3 (by rw [zb]; grind) ⟨by omega, by omega⟩ ⟨by omega, by omega⟩
      refine ⟨P3, ⟨fun o => absurd o o4, fun _ => by rw [E4]; exact hpv, by rw [E4]; exact hb3⟩, ⟨fun _ => by rw [n55]; decide, fun n => absurd (op5_i w) n, by rw [E5]; exact hpv⟩, q3 w 1 2, fun k => if k < 3 then R k else fl w t 1 2 - fl w t 0 1, hc, by omega, by rw [E6, E5]; exact p44, fun k hk hn => ?_⟩
      rcases c6 k hk with hk3 | rfl | rfl | rfl
      · have hb := right_b h hk3 (x := R k) (A := q3 w 1 2) (B1 := 0) (B2 := fl w t 1 2 - fl w t 0 1) (by rw [hR k hk3]; omega) (by omega) (by omega) (by omega)
        dsimp only
        rw [if_pos hk3, E6, E5]
        refine ⟨?_, hb⟩
        show elS _ _ 4 k 6 = _
        rw [elS_n (by omega)]
        refine el_div p44 (rg k hk3) (rl k 1 hk3 (by omega)) m46 b3 ?_ ⟨by omega, by omega⟩ ⟨by omega, by omega⟩
        have e1 := pw_r w hk3
        have e2 := hR k hk3
        rw [e1]
        generalize q3 w 1 2 = c at *
        generalize fl w t 1 2 - fl w t 0 1 = f at *
        grind
      · exact absurd o3 hn
      · dsimp only
        rw [if_neg (by omega), E6, E5]
        refine ⟨?_, by omega, by omega⟩
        exact (elS_s (b := (EL w t 3).2)).trans m46
      · exact absurd (op5_i w) hn
  · have E4 := EL_no (t := t) o3
    have hab : 0 < q3 w 0 1 + q3 w 0 2 := by
      have : ¬ (jn w 0 1 = 0 ∧ jn w 0 2 = 0) := fun q => o3 ((op3_i w).mpr q)
      omega
    have hpv3 : 0 < (EL w t 3).1 3 3 ∧ (EL w t 3).1 3 3 ≤ 82944 := by rw [m33]; exact jI_pos hab (by omega)
    have P3 : Pv w t 3 := ⟨fun o => absurd o o3, fun _ => hpv3, hb3⟩
    have hPb : 0 < PW w ∧ PW w ≤ 2000000 := ⟨by omega, by omega⟩
    have he := ee_b h
    have pe1 := pE1 h
    have pe0 := pE0 h
    obtain ⟨R, hR⟩ := exR h
    obtain ⟨G, hG⟩ := exG h
    obtain ⟨D, hD⟩ := exD h
    have b4 : (EL w t 4).2 = Int64.ofInt (q3 w 0 1 + q3 w 0 2) := by rw [E4]; exact m33
    have hb4 : 0 < (EL w t 4).2 ∧ (EL w t 4).2 ≤ 82944 := by rw [b4]; exact jI_pos hab (by omega)
    have n34 : (EL w t 4).1 3 4 = Int64.ofInt (-q3 w 0 1) := by
      rw [E4]
      exact (elS_s (b := (EL w t 3).2)).trans m34
    have n36 : (EL w t 4).1 3 6 = Int64.ofInt (fl w t 0 1 + fl w t 0 2) := by
      rw [E4]
      exact (elS_s (b := (EL w t 3).2)).trans m36
    have n44 : (EL w t 4).1 4 4 = Int64.ofInt (TT w) := by
      rw [E4]
      exact (elS_n (by omega)).trans (el_div m33 m44 m43 m34 b3 (by grind) hPb ⟨by omega, by omega⟩)
    have n45 : (EL w t 4).1 4 5 = Int64.ofInt (-TT w) := by
      rw [E4]
      exact (elS_n (by omega)).trans (el_div m33 m45 m43 m35 b3 (by grind) hPb ⟨by omega, by omega⟩)
    have n54 : (EL w t 4).1 5 4 = Int64.ofInt (-TT w) := by
      rw [E4]
      exact (elS_n (by omega)).trans (el_div m33 m54 m53 m34 b3 (by grind) hPb ⟨by omega, by omega⟩)
    have n55 : (EL w t 4).1 5 5 = Int64.ofInt (TT w) := by
      rw [E4]
      exact (elS_n (by omega)).trans (el_div m33 m55 m53 m35 b3 (by grind) hPb ⟨by omega, by omega⟩)
    have n46 : (EL w t 4).1 4 6 = Int64.ofInt (ee1 w t) := by
      rw [E4]
      exact (elS_n (by omega)).trans (el_div m33 m46 m43 m36 b3 (by rw [← pe1]; grind) hPb ⟨by omega, by omega⟩)
    have Gb : ∀ k, k < 3 → -150000000 ≤ G k ∧ G k ≤ 150000000 := fun k hk3 => right_b h hk3 (x := G k) (A := q3 w 0 1 + q3 w 0 2) (B1 := fl w t 0 1 + fl w t 0 2) (B2 := 0) (by rw [hG k hk3]; omega) (by omega) (by omega) (by omega)
    have nk6 : ∀ k, k < 3 → (EL w t 4).1 k 6 = Int64.ofInt (G k) := fun k hk3 => by
      have e1 := pw_r w hk3
      have e2 := hG k hk3
      have e3 := Gb k hk3
      rw [E4]
      refine (elS_n (by omega)).trans (el_div m33 (rg k hk3) (rl k 0 hk3 (by omega)) m36 b3 ?_ hPb ⟨by omega, by omega⟩)
      rw [e1]
      generalize q3 w 0 1 + q3 w 0 2 = c at *
      generalize fl w t 0 1 + fl w t 0 2 = f at *
      grind
    have nk4 : ∀ k, k < 3 → (EL w t 4).1 k 4 = Int64.ofInt (R k) := fun k hk3 => by
      have e1 := pw_r w hk3
      have e2 := hR k hk3
      have e3 : -100000000 ≤ R k ∧ R k ≤ 100000000 := by
        have hr := rh_b h hk3
        have w0 := (h k 0 hk3 (by omega)).1
        have w1 := (h k 1 hk3 (by omega)).1
        have a1 := mb (x := q3 w 0 1 + q3 w 0 2) (y := w k 1) (X := 20000) (Y := 4) ⟨by omega, by omega⟩ ⟨by omega, by omega⟩
        have a2 := mb (x := w k 0) (y := q3 w 0 1) (X := 4) (Y := 20000) ⟨by omega, by omega⟩ ⟨by omega, by omega⟩
        refine rdiv (r := rh w k) (by omega) ?_ ?_ <;> rw [e2] <;> omega
      rw [E4]
      refine (elS_n (by omega)).trans (el_div m33 (rl k 1 hk3 (by omega)) (rl k 0 hk3 (by omega)) m34 b3 ?_ hPb ⟨by omega, by omega⟩)
      rw [e1]
      grind
    by_cases o4 : opS w 4
    · have E5 : EL w t 5 = EL w t 4 := EL_op o4
      have j4 := (op4_i w).mp o4
      have zc : q3 w 1 2 = 0 := by omega
      have zT : TT w = 0 := by
        have e : PW w * TT w = PW w * 0 := by
          rw [← pt, zc]
          rcases j4.2 with q | q
          · rw [show q3 w 0 1 = 0 by omega]
            omega
          · rw [show q3 w 0 2 = 0 by omega]
            omega
        exact cancel (by omega) e
      refine ⟨P3, ⟨fun _ => by rw [n44]; exact jI_np zT, fun n => absurd o4 n, hb4⟩, ⟨fun _ => by rw [E5, n55]; exact jI_np zT, fun n => absurd (op5_i w) n, by rw [E5]; exact hb4⟩, q3 w 0 1 + q3 w 0 2, fun k => if k < 3 then G k else fl w t 0 1 + fl w t 0 2, hab, by omega, by rw [E6, E5]; exact b4, fun k hk hn => ?_⟩
      rcases c6 k hk with hk3 | rfl | rfl | rfl
      · dsimp only
        rw [if_pos hk3, E6, E5]
        exact ⟨nk6 k hk3, Gb k hk3⟩
      · dsimp only
        rw [if_neg (by omega), E6, E5]
        exact ⟨n36, by omega, by omega⟩
      · exact absurd o4 hn
      · exact absurd (op5_i w) hn
    · have E5 := EL_no (t := t) o4
      have hT0 : 0 < TT w := by
        have j4 : ¬ (jn w 1 2 = 0 ∧ (jn w 0 1 = 0 ∨ jn w 0 2 = 0)) := fun q => o4 ((op4_i w).mpr q)
        have k1 := Int.mul_nonneg (show 0 ≤ q3 w 0 1 by omega) (show 0 ≤ q3 w 0 2 by omega)
        have k2 := Int.mul_nonneg (show 0 ≤ q3 w 0 1 by omega) (show 0 ≤ q3 w 1 2 by omega)
        have k3 := Int.mul_nonneg (show 0 ≤ q3 w 0 2 by omega) (show 0 ≤ q3 w 1 2 by omega)
        have k4 : 0 < q3 w 0 1 * q3 w 0 2 + q3 w 0 1 * q3 w 1 2 + q3 w 0 2 * q3 w 1 2 := by
          by_cases zc : jn w 1 2 = 0
          · have := Int.mul_pos (show 0 < q3 w 0 1 by omega) (show 0 < q3 w 0 2 by omega)
            omega
          · have := Int.mul_pos hab (show 0 < q3 w 1 2 by omega)
            rw [Int.add_mul] at this
            omega
        rw [pt] at k4
        apply Int.not_le.mp
        intro q
        have z : TT w = 0 := by omega
        rw [z] at k4
        omega
      have hpv4 : 0 < (EL w t 4).1 4 4 ∧ (EL w t 4).1 4 4 ≤ 82944 := by rw [n44]; exact jI_pos hT0 hT.2
      have n55' : (EL w t 5).1 5 5 = Int64.ofInt 0 := by
        rw [E5]
        exact (elS_n (by omega)).trans (el_div n44 n55 n54 n45 b4 (by grind) ⟨hab, by omega⟩ ⟨by omega, by omega⟩)
      have r0 : TT w * (fl w t 0 1 + fl w t 0 2) + q3 w 0 1 * ee1 w t = (q3 w 0 1 + q3 w 0 2) * ee0 w t := by
        refine cancel (r := PW w) (by omega) ?_
        generalize q3 w 0 1 = a at *
        generalize q3 w 0 2 = b at *
        generalize q3 w 1 2 = c at *
        generalize fl w t 0 1 = f at *
        generalize fl w t 0 2 = g at *
        generalize fl w t 1 2 = k at *
        grind
      have Db : ∀ k, k < 3 → -150000000 ≤ D k ∧ D k ≤ 150000000 := fun k hk3 => right_b h hk3 (x := D k) (hD k hk3) hT he.1 he.2
      refine ⟨P3, ⟨fun o => absurd o o4, fun _ => hpv4, hb4⟩, ⟨fun _ => by rw [n55']; decide, fun n => absurd (op5_i w) n, by rw [E5]; exact hpv4⟩, TT w, fun k => if k < 3 then D k else if k = 3 then ee0 w t else ee1 w t, hT0, hT.2, by rw [E6, E5]; exact n44, fun k hk hn => ?_⟩
      rcases c6 k hk with hk3 | rfl | rfl | rfl
      · have e3 := Db k hk3
        dsimp only
        rw [if_pos hk3, E6, E5]
        refine ⟨?_, e3⟩
        refine (elS_n (by omega)).trans (el_div n44 (nk6 k hk3) (nk4 k hk3) n46 b4 ?_ ⟨hab, by omega⟩ ⟨by omega, by omega⟩)
        have e2 := hR k hk3
        have e4 := hG k hk3
        have e5 := hD k hk3
        have hr := rh_b h hk3
        refine cancel (r := rh w k) (by omega) ?_
        have s1 : rh w k * (TT w * G k - R k * ee1 w t) = TT w * (rh w k * G k) - (rh w k * R k) * ee1 w t := by
          rw [Int.mul_sub, Int.mul_left_comm, Int.mul_assoc]
        rw [s1, Int.mul_left_comm (rh w k), e2, e4, e5]
        exact fin_D _ _ _ _ _ _ _ _ _ r0
      · dsimp only
        rw [if_neg (by omega), if_pos rfl, E6, E5]
        refine ⟨?_, by omega, by omega⟩
        exact (elS_n (by omega)).trans (el_div n44 n36 n34 n46 b4 (by rw [← r0]; grind) ⟨hab, by omega⟩ ⟨by omega, by omega⟩)
      · dsimp only
        rw [if_neg (by omega), if_neg (by omega), E6, E5]
        refine ⟨?_, by omega, by omega⟩
        exact (elS_s (b := (EL w t 4).2)).trans n46
      · exact absurd (op5_i w) hn
