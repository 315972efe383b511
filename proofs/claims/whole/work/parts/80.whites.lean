/-! ===== LAYER 2: whites, what is left over ===== -/
def sx (l s : Nat) : Nat := if s = 1 then l else 3 + l
def cx (n l s : Nat) : Nat := if s = 1 then l else n + l
theorem cx_lt {n l s : Nat} (h : l < n) : cx n l s < 2 * n := by
  unfold cx
  split <;> omega
theorem io_cx {n l s : Nat} (h : l < n) : io n (cx n l s) = sx l s := by
  unfold cx sx io
  by_cases e : s = 1
  · rw [if_pos e, if_pos h, if_pos e]
  · rw [if_neg e, if_neg (by omega), if_neg e]; omega
theorem c_number {z : Fo} {a : Nat → Nat} (hC : CF z a) (ev : Ev) {l s : Nat} (hs : s < 2) : fX0_numberOf ev z (nI l) (nI s) = some (nI (cx (a 60) l s)) := by
  unfold fX0_numberOf cx
  rw [hC.1, nI_add, show (1 : Int32) = nI 1 from rfl]
  by_cases e : s = 1
  · rw [if_pos (by rw [e]), if_pos e]
  · rw [if_neg (by rw [nI_eq (by omega) (by omega)]; exact e), if_neg e]
theorem c_spaceAbove {z : Fo} {a : Nat → Nat} (hV : Valid a) (hC : CF z a) {ev : Ev} (hE : EvOK ev a) {l s : Nat} (hl : l < a 60) (hs : s < 2) : fX0_spaceAbove ev z (nI l) (nI s) = some (Int64.ofInt (sI a (sx l s))) := by
  have hN := hV.1
  have hc := cx_lt (s := s) hl
  unfold fX0_spaceAbove
  rw [c_number hC ev hs, Option.bind_some, rdJ_n (by omega) (by omega), Option.bind_some, (hE.2 _ hc).2.1, io_cx hl, ((NS hV).2.2.2 _ (by unfold sx; split <;> omega)).1]
theorem c_below {a : Nat → Nat} (hV : Valid a) {ev : Ev} (hE : EvOK ev a) : Ev_below ev = Int64.ofInt (bI a) := hE.1.trans (NS hV).2.2.1
theorem c_spaceBelow {a : Nat → Nat} (hV : Valid a) {ev : Ev} (hE : EvOK ev a) (z : Fo) : fX0_spaceBelow ev z = some (Int64.ofInt (8 * bI a)) := by
  unfold fX0_spaceBelow
  rw [c_below hV hE, show (8 : Int64) = Int64.ofInt 8 from rfl, jI_mul]
theorem r_whole {mo : Mo} {a : Nat → Nat} (hV : Valid a) (hS : Sol mo a) : Mo_whole mo = Int64.ofInt (bI a) := hS.1.trans (NS hV).2.2.1
theorem r_sp {mo : Mo} {a : Nat → Nat} (hV : Valid a) (hS : Sol mo a) {k : Nat} (hk : k < 6) : Mo_spaces mo k = Int64.ofInt (sI a k) := (hS.2 k hk).2.trans ((NS hV).2.2.2 k hk).1
noncomputable def wI (a : Nat → Nat) (i j : Nat) : Int := sI a i + sI a (3 + j) + (bareN a i j : Int) * bI a
noncomputable def oI (a : Nat → Nat) (i j : Nat) : Int := wI a i j - (a 62 : Int) * bI a
theorem wI_b {a : Nat → Nat} (hV : Valid a) {i j : Nat} (hi : i < 3) (hj : j < 3) : (-400000000 ≤ wI a i j ∧ wI a i j ≤ 400000000) ∧ -341472000 ≤ oI a i j ∧ oI a i j ≤ 341472000 := by
  obtain ⟨h1, h2, _, h4⟩ := NS hV
  have h5 := (h4 i (by omega)).2
  have h6 := (h4 (3 + j) (by omega)).2
  have h7 := bareN_le a hV.2.1.2 i j
  have h8 := (HW_N hV i j hi hj).2
  have m1 := mb (x := (bareN a i j : Int)) (y := bI a) (X := 480) (Y := 82944) ⟨by omega, by omega⟩ ⟨by omega, by omega⟩
  have m2 := mb (x := tw a i j) (y := bI a) (X := 500) (Y := 82944) ⟨by omega, by omega⟩ ⟨by omega, by omega⟩
  have e : oI a i j = sI a i + sI a (3 + j) - tw a i j * bI a := by
    unfold oI wI tw
    grind
  rw [e]
  unfold wI
  omega
theorem c_whiteAbove {z : Fo} {a : Nat → Nat} (hV : Valid a) (hC : CF z a) {ev : Ev} (hE : EvOK ev a) {i j : Nat} (hi : i < a 60) (hj : j < a 60) : fX0_whiteAbove ev z (nI i) (nI j) = some (Int64.ofInt (wI a i j)) := by
  have hN := hV.1
  have h7 := bareN_le a hV.2.1.2 i j
  unfold fX0_whiteAbove
  rw [show (1 : Int32) = nI 1 from rfl, show (0 : Int32) = nI 0 from rfl, c_spaceAbove hV hC hE hi (by omega), Option.bind_some, c_spaceAbove hV hC hE hj (by omega), Option.bind_some, c_bareOf hV hC (by omega) (by omega), Option.bind_some, c_below hV hE, wide_nI (by omega), jI_mul, jI_add, jI_add]
  rfl
theorem c_over {z : Fo} {a : Nat → Nat} (hV : Valid a) (hC : CF z a) {ev : Ev} (hE : EvOK ev a) {i j : Nat} (hi : i < a 60) (hj : j < a 60) : fX0_leftOverAbove ev z (nI i) (nI j) = some (Int64.ofInt (oI a i j)) := by
  have h62 := hV.2.2.1
  unfold fX0_leftOverAbove
  rw [c_whiteAbove hV hC hE hi hj, Option.bind_some, hC.2.2.1, c_below hV hE, wide_nI (by omega), jI_mul, jI_sub]
  rfl
theorem r_whiteOf {mo : Mo} {a : Nat → Nat} (hV : Valid a) (hF : RF (Mo_now mo) a) (hS : Sol mo a) {i j : Nat} (hi : i < 3) (hj : j < 3) : fX6_whiteOf mo (nI i) (nI j) = some (Int64.ofInt (wI a i j)) := by
  have h7 := bareN_le a hV.2.1.2 i j
  unfold fX6_whiteOf
  rw [r_bare hV hF hi hj, Option.bind_some, rdJ_n (by omega) (by omega), Option.bind_some, show (3 : Int32) = nI 3 from rfl, nI_add, rdJ_n (by omega) (by omega), Option.bind_some, r_whole hV hS, r_sp hV hS (by omega), r_sp hV hS (by omega), wide_nI (by omega), jI_mul, jI_add, jI_add]
  unfold wI
  congr 2
  omega
theorem r_over {mo : Mo} {a : Nat → Nat} (hV : Valid a) (hF : RF (Mo_now mo) a) (hS : Sol mo a) {i j : Nat} (hi : i < 3) (hj : j < 3) : fX6_overOf mo (nI i) (nI j) = some (Int64.ofInt (oI a i j)) := by
  have h62 := hV.2.2.1
  unfold fX6_overOf
  rw [r_whiteOf hV hF hS hi hj, Option.bind_some, show (62 : Int32) = nI 62 from rfl, rdI_n (by omega) (by omega), Option.bind_some, hF 62 (by omega), r_whole hV hS, wide_nI (by omega), jI_mul, jI_sub]
  rfl
/-! squares -/
noncomputable def sqI (a : Nat → Nat) (i j : Nat) : Int := wt a i j * oI a i j * oI a i j
theorem sq_b {a : Nat → Nat} (hV : Valid a) {i j : Nat} (hi : i < 3) (hj : j < 3) : 0 ≤ sqI a i j ∧ sqI a i j ≤ 466412507136000000 := by
  have h1 := (wI_b hV hi hj).2
  have h2 := (HW_N hV i j hi hj).1
  have m1 := mb (x := oI a i j) (y := oI a i j) (X := 341472000) (Y := 341472000) ⟨by omega, by omega⟩ ⟨by omega, by omega⟩
  have m2 := mb (x := wt a i j) (y := oI a i j * oI a i j) (X := 4) (Y := 341472000 * 341472000) ⟨by omega, by omega⟩ ⟨by omega, by omega⟩
  have p : 0 ≤ oI a i j * oI a i j := by
    rcases Int.le_total 0 (oI a i j) with q | q
    · exact Int.mul_nonneg q q
    · have := Int.mul_nonneg (show 0 ≤ -oI a i j by omega) (show 0 ≤ -oI a i j by omega)
      rw [Int.neg_mul_neg] at this
      exact this
  have p2 := Int.mul_nonneg h2.1 p
  unfold sqI
  rw [Int.mul_assoc]
  omega
noncomputable def sq2 (a : Nat → Nat) : Int := siN (fun i => siN (fun j => sqI a i j) (a 60)) (a 60)
theorem c_weightO2 {z : Fo} {a : Nat → Nat} (hC : CF z a) {i j : Nat} (hi : i < 3) (hj : j < 3) : fX1_weightOf z (nI i) (nI j) = some (nI (a (51 + (3 * i + j)))) := by
  unfold fX1_weightOf
  rw [show (3 : Int32) = nI 3 from rfl, nI_mul, nI_add, rdI_n (by omega) (by omega), Option.bind_some, hC.2.2.2.2.2 _ (by omega), show i * 3 + j = 3 * i + j from by omega]
theorem c_squares {z : Fo} {a : Nat → Nat} (hV : Valid a) (hC : CF z a) {ev : Ev} (hE : EvOK ev a) : fX0_squaresAbove ev z = some (Int64.ofInt (sq2 a)) := by
  have hN := hV.1
  have h1 : ∀ i S, i < a 60 → lp (gX0_squaresAbove_18 ev z (nI i)) 1000 (Int64.ofInt S, 0) = some (Int64.ofInt (S + siN (fun j => sqI a i j) (a 60)), nI (a 60)) := fun i S hi => by
    have e0 : (Int64.ofInt S, (0 : Int32)) = (Int64.ofInt (S + siN (fun j => sqI a i j) 0), nI 0) := by
      show _ = (Int64.ofInt (S + 0), _)
      rw [Int.add_zero]
      rfl
    rw [e0]
    refine lp_k (fun j => (Int64.ofInt (S + siN (fun j => sqI a i j) j), nI j)) (a 60) (by omega) ?_ ?_
    · intro j hj rec
      have hw := hV.wt (k := 3 * i + j) (by omega)
      show (if Fo_many z ≤ nI j then _ else (fX0_leftOverAbove ev z (nI i) (nI j)).bind fun v2 => (fX1_weightOf z (nI i) (nI j)).bind fun v3 => rec (Int64.ofInt (S + siN (fun j => sqI a i j) j) + Int32.toInt64 v3 * v2 * v2, nI j + 1)) = rec (Int64.ofInt (S + (siN (fun j => sqI a i j) j + sqI a i j)), _)
      rw [hC.1, if_neg (nI_ge hj (by omega)), c_over hV hC hE hi hj, Option.bind_some, c_weightO2 hC (by omega) (by omega), Option.bind_some, wide_nI (by omega), jI_mul, jI_mul, jI_add, nI_1]
      show rec (Int64.ofInt (S + siN (fun j => sqI a i j) j + sqI a i j), _) = _
      rw [Int.add_assoc]
    · intro rec
      show (if Fo_many z ≤ nI (a 60) then _ else _) = _
      rw [hC.1, if_pos (Int32.le_refl _)]
  have h2 : lp (gX0_squaresAbove_4 ev z) 1000 (0, 0) = some (Int64.ofInt (sq2 a), nI (a 60)) := by
    refine lp_k (fun i => (Int64.ofInt (siN (fun i => siN (fun j => sqI a i j) (a 60)) i), nI i)) (a 60) (by omega) ?_ ?_
    · intro i hi rec
      show (if Fo_many z ≤ nI i then _ else (lp (gX0_squaresAbove_18 ev z (nI i)) 1000 (Int64.ofInt (siN (fun i => siN (fun j => sqI a i j) (a 60)) i), 0)).bind fun v2 => rec (v2.1, nI i + 1)) = _
      rw [hC.1, if_neg (nI_ge hi (by omega)), h1 i _ hi, Option.bind_some, nI_1]
      rfl
    · intro rec
      show (if Fo_many z ≤ nI (a 60) then _ else _) = _
      rw [hC.1, if_pos (Int32.le_refl _)]
      rfl
  unfold fX0_squaresAbove
  rw [h2, Option.bind_some]
theorem sq_abs {a : Nat → Nat} (hV : Valid a) {i j : Nat} (hi : i < 3) (hj : j < 3) (h : a 60 ≤ i ∨ a 60 ≤ j) : sqI a i j = 0 := by
  unfold sqI wt
  rw [hV.2.2.2.2.2.2 i j hi hj h]
  show 0 * _ * _ = (0 : Int)
  rw [Int.zero_mul, Int.zero_mul]
theorem sq_flat {a : Nat → Nat} (hV : Valid a) : siN (fun q => sqI a (q / 3) (q % 3)) 9 = sq2 a := by
  have hN := hV.1
  show 0 + sqI a 0 0 + sqI a 0 1 + sqI a 0 2 + sqI a 1 0 + sqI a 1 1 + sqI a 1 2 + sqI a 2 0 + sqI a 2 1 + sqI a 2 2 = sq2 a
  unfold sq2
  have z := fun i j hi hj h => sq_abs hV (i := i) (j := j) hi hj h
  have e : a 60 = 1 ∨ a 60 = 2 ∨ a 60 = 3 := by omega
  rcases e with e | e | e
  · rw [e] at z ⊢
    have z1 := z 0 1 (by omega) (by omega) (by omega)
    have z2 := z 0 2 (by omega) (by omega) (by omega)
    have z3 := z 1 0 (by omega) (by omega) (by omega)
    have z4 := z 1 1 (by omega) (by omega) (by omega)
    have z5 := z 1 2 (by omega) (by omega) (by omega)
    have z6 := z 2 0 (by omega) (by omega) (by omega)
    have z7 := z 2 1 (by omega) (by omega) (by omega)
    have z8 := z 2 2 (by omega) (by omega) (by omega)
    show _ = 0 + (0 + sqI a 0 0)
    omega
  · rw [e] at z ⊢
    have z2 := z 0 2 (by omega) (by omega) (by omega)
    have z5 := z 1 2 (by omega) (by omega) (by omega)
    have z6 := z 2 0 (by omega) (by omega) (by omega)
    have z7 := z 2 1 (by omega) (by omega) (by omega)
    have z8 := z 2 2 (by omega) (by omega) (by omega)
    show _ = 0 + (0 + sqI a 0 0 + sqI a 0 1) + (0 + sqI a 1 0 + sqI a 1 1)
    omega
  · rw [e]
    show _ = 0 + (0 + sqI a 0 0 + sqI a 0 1 + sqI a 0 2) + (0 + sqI a 1 0 + sqI a 1 1 + sqI a 1 2) + (0 + sqI a 2 0 + sqI a 2 1 + sqI a 2 2)
    omega
theorem sq2_b {a : Nat → Nat} (hV : Valid a) : sJ (sq2 a) := by
  have h := siN_b (f := fun q => sqI a (q / 3) (q % 3)) (x := 0) (y := 466412507136000000) (n := 9) (fun q hq => sq_b hV (by omega) (by omega))
  rw [sq_flat hV] at h
  exact ⟨by omega, by omega⟩
theorem r_flat {mo : Mo} {a : Nat → Nat} (hV : Valid a) (hF : RF (Mo_now mo) a) {q : Nat} (hq : q < 9) : fX6_joins mo (nI q / nI 3) (nI 3 + (nI q - nI q / nI 3 * nI 3)) = some (nI (a (51 + (3 * (q / 3) + q % 3)))) := by
  rw [pk_rem (by omega) (by omega) (by omega), pk_div (by omega) (by omega) (by omega), nI_add, r_joins hV hF (by omega) (by omega)]
theorem r_squares {mo : Mo} {a : Nat → Nat} (hV : Valid a) (hF : RF (Mo_now mo) a) (hS : Sol mo a) : fX6_squares mo = some (Int64.ofInt (sq2 a)) := by
  have h : lp (gX6_squares_4 mo) 1000 (0, 0) = some (Int64.ofInt (siN (fun q => sqI a (q / 3) (q % 3)) 9), nI 9) := by
    refine lp_k (fun q => (Int64.ofInt (siN (fun q => sqI a (q / 3) (q % 3)) q), nI q)) 9 (by omega) ?_ ?_
    · intro q hq rec
      have hw := hV.wt (k := 3 * (q / 3) + q % 3) (by omega)
      show (if nI 9 ≤ nI q then _ else (fX6_joins mo (nI q / nI 3) (nI 3 + (nI q - nI q / nI 3 * nI 3))).bind fun v2 => (if v2 ≤ nI 0 then some (0 : Int64) else (fX6_overOf mo (nI q / nI 3) (nI q - nI q / nI 3 * nI 3)).bind fun v5 => some v5).bind fun v3 => rec (Int64.ofInt (siN (fun q => sqI a (q / 3) (q % 3)) q) + Int32.toInt64 v2 * v3 * v3, nI q + 1)) = rec (Int64.ofInt (siN (fun q => sqI a (q / 3) (q % 3)) q + sqI a (q / 3) (q % 3)), _)
      rw [if_neg (nI_ge hq (by omega)), r_flat hV hF hq, Option.bind_some, pk_rem (by omega) (by omega) (by omega), pk_div (by omega) (by omega) (by omega), r_over hV hF hS (by omega) (by omega), Option.bind_some, nI_1, wide_nI (by omega)]
      by_cases e : a (51 + (3 * (q / 3) + q % 3)) = 0
      · rw [if_pos (nI_le (by omega) (by omega)), Option.bind_some, show (0 : Int64) = Int64.ofInt 0 from rfl, jI_mul, jI_mul, jI_add]
        have : sqI a (q / 3) (q % 3) = 0 := by
          unfold sqI wt
          rw [e]
          show 0 * _ * _ = (0 : Int)
          rw [Int.zero_mul, Int.zero_mul]
        rw [this, Int.mul_zero]
      · rw [if_neg (nI_ge (by omega) (by omega)), Option.bind_some, jI_mul, jI_mul, jI_add]
        rfl
    · intro rec
      exact if_pos (Int32.le_refl _)
  unfold fX6_squares
  rw [h, Option.bind_some, sq_flat hV]
