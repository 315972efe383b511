/-! ===== LAYER 2: fractions in lowest terms ===== -/
theorem jI_lN {n : Nat} (h : n < 9223372036854775808) : Int64.ofInt (n : Int) = lN n := by
  apply Int64.toInt_inj.mp
  rw [pk_lT (by omega), jI_toInt (by omega) (by omega)]
def gE (x y : Nat) : Nat → Nat × Nat
  | 0 => (x, y)
  | k + 1 => ((gE x y k).2, (gE x y k).1 % (gE x y k).2)
theorem gE_2 (x y : Nat) : ∀ k, gE x y (k + 2) = gE (x % y) (y % (x % y)) k
  | 0 => rfl
  | k + 1 => by
    show ((gE x y (k + 2)).2, (gE x y (k + 2)).1 % (gE x y (k + 2)).2) = _
    rw [gE_2 x y k]
    rfl
theorem gE_end : ∀ (L x y : Nat), y < 2 ^ L → ∃ e, e ≤ 2 * L ∧ (gE x y e).2 = 0
  | 0, x, y, h => ⟨0, by omega, by show y = 0; omega⟩
  | L + 1, x, y, h => by
    by_cases h0 : y = 0
    · exact ⟨0, by omega, h0⟩
    · by_cases h1 : x % y = 0
      · exact ⟨1, by omega, h1⟩
      · have h2 : x % y < y := Nat.mod_lt _ (by omega)
        have h3 : y % (x % y) < x % y := Nat.mod_lt _ (by omega)
        have h4 := Nat.div_add_mod y (x % y)
        have h5 : 1 ≤ y / (x % y) := Nat.div_pos (by omega) (by omega)
        have h6 := Nat.mul_le_mul_left (x % y) h5
        have h7 : y % (x % y) < 2 ^ L := by
          have : 2 ^ (L + 1) = 2 * 2 ^ L := by rw [Nat.pow_succ]; omega
          omega
        obtain ⟨e, he, hz⟩ := gE_end L (x % y) (y % (x % y)) h7
        exact ⟨e + 2, by omega, by rw [gE_2]; exact hz⟩
theorem gE_b {x y e : Nat} (he : ∀ j, j < e → ¬ (gE x y j).2 = 0) : ∀ k, k ≤ e → (gE x y k).2 ≤ y ∧ (gE x y k).1 ≤ x + y
  | 0, _ => by
    show y ≤ y ∧ x ≤ x + y
    omega
  | k + 1, h => by
    have ih := gE_b he k (by omega)
    have h1 := he k (by omega)
    have h2 : (gE x y k).1 % (gE x y k).2 < (gE x y k).2 := Nat.mod_lt _ (by omega)
    show (gE x y k).1 % (gE x y k).2 ≤ y ∧ (gE x y k).2 ≤ x + y
    omega
theorem absJ {X : Int} (hX : sJ X) : (if (0 : Int64) ≤ Int64.ofInt X then Int64.ofInt X else -Int64.ofInt X) = lN X.natAbs ∧ (if (0 : Int64) < Int64.ofInt X then Int64.ofInt X else -Int64.ofInt X) = lN X.natAbs := by
  have e : X = (X.natAbs : Int) ∨ X = -(X.natAbs : Int) := Int.natAbs_eq X
  have hx := hX
  obtain ⟨h1, h2⟩ := hX
  have en : -Int64.ofInt X = Int64.ofInt (-X) := (Int64.ofInt_neg X).symm
  rw [en]
  have k1 : 0 ≤ X → Int64.ofInt X = lN X.natAbs := fun h => by
    rw [← jI_lN (by omega)]
    congr 1
    omega
  have k2 : X ≤ 0 → Int64.ofInt (-X) = lN X.natAbs := fun h => by
    rw [← jI_lN (by omega)]
    congr 1
    omega
  refine ⟨?_, ?_⟩
  · by_cases h : 0 ≤ X
    · rw [if_pos (show (0 : Int64) ≤ Int64.ofInt X from (jI_le sJ_0 hx).mpr h), k1 h]
    · rw [if_neg (show ¬ (0 : Int64) ≤ Int64.ofInt X from fun q => h ((jI_le sJ_0 hx).mp q)), k2 (by omega)]
  · by_cases h : 0 < X
    · rw [if_pos (show (0 : Int64) < Int64.ofInt X from (jI_lt sJ_0 hx).mpr h), k1 (by omega)]
    · rw [if_neg (show ¬ (0 : Int64) < Int64.ofInt X from fun q => h ((jI_lt sJ_0 hx).mp q)), k2 (by omega)]
theorem div_ok {X Y : Int} (hX : sJ X) (hY : 0 < Y) (hY2 : Y < 17179869184) : ∃ D : Nat, 0 < D ∧ D < 17179869184 ∧ fX5_commonDivisor (Int64.ofInt X) (Int64.ofInt Y) = some (lN D) ∧ fX6_divisor (Int64.ofInt X) (Int64.ofInt Y) = some (lN D) := by
  obtain ⟨x1, x2⟩ := hX
  have hYJ : sJ Y := ⟨by omega, by omega⟩
  have hyn : Y.natAbs < 17179869184 := by omega
  have hxn : X.natAbs ≤ 4500000000000000000 := by omega
  obtain ⟨e0, he0, hz0⟩ := gE_end 34 X.natAbs Y.natAbs (by omega)
  obtain ⟨e, hz, hmin⟩ := pk_least (fun k => (gE X.natAbs Y.natAbs k).2 = 0) ⟨e0, hz0⟩
  have he : e ≤ 68 := by
    by_cases q : e0 < e
    · exact absurd hz0 (hmin e0 q)
    · omega
  have he1 : 1 ≤ e := by
    by_cases q : e = 0
    · subst q
      have : Y.natAbs = 0 := hz
      omega
    · omega
  have hb := fun k (hk : k ≤ e) => gE_b (x := X.natAbs) (y := Y.natAbs) hmin k hk
  obtain ⟨e', rfl⟩ : ∃ e', e = e' + 1 := ⟨e - 1, by omega⟩
  have hd : ¬ (gE X.natAbs Y.natAbs e').2 = 0 := hmin e' (by omega)
  have hd2 := (hb e' (by omega)).1
  have hrem : ∀ k, k < e' + 1 → lN (gE X.natAbs Y.natAbs k).1 - lN (gE X.natAbs Y.natAbs k).1 / lN (gE X.natAbs Y.natAbs k).2 * lN (gE X.natAbs Y.natAbs k).2 = lN (gE X.natAbs Y.natAbs (k + 1)).2 := fun k hk => by
    have h1 := hb k (by omega)
    have h2 := hmin k hk
    exact pk_lRem (by omega) (by omega) (by omega)
  have hne : ∀ k, k < e' + 1 → ¬ lN (gE X.natAbs Y.natAbs k).2 = 0 := fun k hk => by
    have h1 := hb k (by omega)
    have h2 := hmin k hk
    rw [show (0 : Int64) = lN 0 from rfl, pk_lEQ (by omega) (by omega)]
    exact h2
  refine ⟨(gE X.natAbs Y.natAbs e').2, by omega, by omega, ?_, ?_⟩
  · have h : lp (gX5_commonDivisor_15 (Int64.ofInt X) (Int64.ofInt Y)) 1000 (lN X.natAbs, lN Y.natAbs, 0) = some (lN (gE X.natAbs Y.natAbs (e' + 1)).1, lN (gE X.natAbs Y.natAbs (e' + 1)).2, nI (e' + 1)) := by
      refine lp_k (fun k => (lN (gE X.natAbs Y.natAbs k).1, lN (gE X.natAbs Y.natAbs k).2, nI k)) (e' + 1) (by omega) ?_ ?_
      · intro k hk rec
        have h1 := hb k (by omega)
        have h2 := hmin k hk
        show (if nI 100 ≤ nI k then _ else if lN (gE X.natAbs Y.natAbs k).2 ≤ lN 0 then _ else (rmJ (lN (gE X.natAbs Y.natAbs k).1) (lN (gE X.natAbs Y.natAbs k).2)).bind fun v3 => rec (lN (gE X.natAbs Y.natAbs k).2, v3, nI k + 1)) = _
        rw [if_neg (nI_ge (by omega) (by omega)), if_neg (by rw [pk_lLE (by omega) (by omega)]; omega)]
        unfold rmJ
        rw [if_neg (hne k hk), Option.bind_some, hrem k hk, nI_1]
        rfl
      · intro rec
        show (if nI 100 ≤ nI (e' + 1) then _ else if lN (gE X.natAbs Y.natAbs (e' + 1)).2 ≤ lN 0 then _ else _) = _
        rw [if_neg (nI_ge (by omega) (by omega)), if_pos (by rw [hz, pk_lLE (by omega) (by omega)]; exact Nat.le_refl 0)]
    unfold fX5_commonDivisor
    rw [(absJ ⟨x1, x2⟩).2, (absJ hYJ).2, h, Option.bind_some]
    show some (if lN (gE X.natAbs Y.natAbs e').2 < lN 1 then (1 : Int64) else lN (gE X.natAbs Y.natAbs e').2) = _
    rw [if_neg (by rw [pk_lLT (by omega) (by omega)]; omega)]
  · have h : lp (gX6_divisor_17 (Int64.ofInt X) (Int64.ofInt Y)) 1000 (lN X.natAbs, lN Y.natAbs) = some (lN (gE X.natAbs Y.natAbs (e' + 1)).1, lN (gE X.natAbs Y.natAbs (e' + 1)).2) := by
      refine lp_k (fun k => (lN (gE X.natAbs Y.natAbs k).1, lN (gE X.natAbs Y.natAbs k).2)) (e' + 1) (by omega) ?_ ?_
      · intro k hk rec
        show (if lN (gE X.natAbs Y.natAbs k).2 = 0 then _ else (rmJ (lN (gE X.natAbs Y.natAbs k).1) (lN (gE X.natAbs Y.natAbs k).2)).bind fun v3 => rec (lN (gE X.natAbs Y.natAbs k).2, v3)) = _
        rw [if_neg (hne k hk)]
        unfold rmJ
        rw [if_neg (hne k hk), Option.bind_some, hrem k hk]
        rfl
      · intro rec
        show (if lN (gE X.natAbs Y.natAbs (e' + 1)).2 = 0 then _ else _) = _
        rw [if_pos (by rw [hz]; rfl)]
    have ey : Int64.ofInt Y = lN Y.natAbs := by
      rw [← jI_lN (by omega)]
      congr 1
      omega
    unfold fX6_divisor
    rw [← ey] at h
    rw [(absJ ⟨x1, x2⟩).1, h, Option.bind_some]
    rfl
theorem frac {X Y : Int} (hX : sJ X) (hY : 0 < Y) (hY2 : Y < 17179869184) : ∃ P Q : Int, sJ P ∧ sJ Q ∧ fX5_aboveOf (Int64.ofInt X) (Int64.ofInt Y) = some (Int64.ofInt P) ∧ fX6_above (Int64.ofInt X) (Int64.ofInt Y) = some (Int64.ofInt P) ∧ fX5_belowOf (Int64.ofInt X) (Int64.ofInt Y) = some (Int64.ofInt Q) ∧ fX6_below (Int64.ofInt X) (Int64.ofInt Y) = some (Int64.ofInt Q) := by
  obtain ⟨D, d1, d2, d3, d4⟩ := div_ok hX hY hY2
  have hYJ : sJ Y := ⟨by omega, by omega⟩
  have hDJ : sJ (D : Int) := ⟨by omega, by omega⟩
  have hne : ¬ Int64.ofInt (D : Int) = 0 := jI_ne0 hDJ (by omega)
  have hD : ∀ Z : Int, sJ Z → sJ (Z.tdiv (D : Int)) := fun Z hZ => by
    have h2 : (Z.tdiv (D : Int)).natAbs ≤ Z.natAbs := by rw [Int.natAbs_tdiv]; exact Nat.div_le_self _ _
    obtain ⟨z1, z2⟩ := hZ
    exact ⟨by omega, by omega⟩
  rw [← jI_lN (by omega)] at d3 d4
  refine ⟨X.tdiv D, Y.tdiv D, hD X hX, hD Y hYJ, ?_, ?_, ?_, ?_⟩
  · unfold fX5_aboveOf
    rw [d3, Option.bind_some, dvJ_n hne, Option.bind_some, jI_tdiv hX hDJ]
  · unfold fX6_above
    rw [d4, Option.bind_some, dvJ_n hne, Option.bind_some, jI_tdiv hX hDJ]
  · unfold fX5_belowOf
    rw [d3, Option.bind_some, dvJ_n hne, Option.bind_some, jI_tdiv hYJ hDJ]
  · unfold fX6_below
    rw [d4, Option.bind_some, dvJ_n hne, Option.bind_some, jI_tdiv hYJ hDJ]
