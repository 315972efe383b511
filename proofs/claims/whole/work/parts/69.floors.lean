/-! ===== LAYER 2: 64-bit numbers as whole numbers: order, floors ===== -/
def sJ (x : Int) : Prop := -4500000000000000000 ≤ x ∧ x ≤ 4500000000000000000
theorem jI_T {x : Int} (h : sJ x) : (Int64.ofInt x).toInt = x := jI_toInt (by have := h.1; omega) (by have := h.2; omega)
theorem jI_le {x y : Int} (hx : sJ x) (hy : sJ y) : Int64.ofInt x ≤ Int64.ofInt y ↔ x ≤ y := by
  rw [Int64.le_iff_toInt_le, jI_T hx, jI_T hy]
theorem jI_lt {x y : Int} (hx : sJ x) (hy : sJ y) : Int64.ofInt x < Int64.ofInt y ↔ x < y := by
  rw [Int64.lt_iff_toInt_lt, jI_T hx, jI_T hy]
theorem jI_eq {x y : Int} (hx : sJ x) (hy : sJ y) : Int64.ofInt x = Int64.ofInt y ↔ x = y := by
  rw [← Int64.toInt_inj, jI_T hx, jI_T hy]
theorem sJ_0 : sJ 0 := ⟨by omega, by omega⟩
theorem jI_ne0 {y : Int} (hy : sJ y) (h : 0 < y) : ¬ Int64.ofInt y = 0 := by
  rw [jI_0, jI_eq hy sJ_0]; omega
theorem msb_neg (x : Int64) : x.toBitVec.msb = decide (x.toInt < 0) := by
  rw [BitVec.msb_eq_toInt]
  rfl
theorem xor_pos {x y : Int64} (hy : 0 ≤ y.toInt) : 0 ≤ x ^^^ y ↔ 0 ≤ x.toInt := by
  have e : (x ^^^ y).toBitVec.msb = x.toBitVec.msb := by
    rw [Int64.toBitVec_xor, BitVec.msb_xor, msb_neg y, decide_eq_false (by omega), Bool.xor_false]
  rw [msb_neg, msb_neg] at e
  rw [Int64.le_iff_toInt_le, show (0 : Int64).toInt = 0 from rfl]
  have e2 : (x ^^^ y).toInt < 0 ↔ x.toInt < 0 := by
    have := congrArg (· = true) e
    simpa using this
  omega
theorem jI_tdiv {x y : Int} (hx : sJ x) (hy : sJ y) : Int64.ofInt x / Int64.ofInt y = Int64.ofInt (x.tdiv y) := by
  apply Int64.toInt_inj.mp
  rw [Int64.toInt_div, jI_T hx, jI_T hy, Int64.toInt_ofInt]
theorem td_b {x y : Int} (h : 0 < y) : x.tdiv y = x / y + (if 0 ≤ x ∨ y ∣ x then 0 else 1) := by
  rw [Int.tdiv_eq_ediv, Int.sign_eq_one_of_pos h]
def sK (x : Int) : Prop := -1000000000000000000 ≤ x ∧ x ≤ 1000000000000000000
theorem sK.J {x : Int} (h : sK x) : sJ x := ⟨by have := h.1; omega, by have := h.2; omega⟩
theorem fd_eq {x y : Int} : x / y * y + x % y = x := by rw [Int.mul_comm]; exact Int.mul_ediv_add_emod x y
theorem td_m {x y : Int} (h : 0 < y) : x.tdiv y * y = x - x % y + (if 0 ≤ x ∨ y ∣ x then 0 else y) := by
  have h1 := fd_eq (x := x) (y := y)
  rw [td_b h]
  split
  · rw [Int.add_zero]; omega
  · rw [Int.add_mul, Int.one_mul]; omega
theorem md_0 {x y : Int} : x % y = 0 ↔ y ∣ x := Int.dvd_iff_emod_eq_zero.symm
theorem c_floorDiv {x y : Int} (hx : sK x) (hy : sK y) (h : 0 < y) : fJ9_floorDiv_f86c9 (Int64.ofInt x) (Int64.ofInt y) = some (Int64.ofInt (x / y)) := by
  have h2 := Int.emod_nonneg x (show y ≠ 0 by omega)
  have h3 := Int.emod_lt_of_pos x h
  have hm := td_m (x := x) h
  have hd := td_b (x := x) h
  obtain ⟨x1, x2⟩ := hx
  obtain ⟨y1, y2⟩ := hy
  have hxJ : sJ x := ⟨by omega, by omega⟩
  have hyJ : sJ y := ⟨by omega, by omega⟩
  unfold fJ9_floorDiv_f86c9
  rw [dvJ_n (jI_ne0 hyJ h), Option.bind_some, jI_tdiv hxJ hyJ]
  by_cases h0 : 0 ≤ x
  · rw [if_pos ((xor_pos (by rw [jI_T hyJ]; omega)).mpr (by rw [jI_T hxJ]; exact h0)), hd, if_pos (Or.inl h0), Int.add_zero]
  · rw [if_neg (fun q => h0 (by rw [xor_pos (by rw [jI_T hyJ]; omega), jI_T hxJ] at q; exact q)), jI_mul]
    by_cases h4 : y ∣ x
    · rw [if_pos (by rw [hm, if_pos (Or.inr h4), md_0.mpr h4]; congr 1; omega), hd, if_pos (Or.inr h4), Int.add_zero]
    · have h5 : ¬ x % y = 0 := fun q => h4 (md_0.mp q)
      have hn : ¬ (0 ≤ x ∨ y ∣ x) := fun q => q.elim h0 h4
      rw [if_neg hn] at hm hd
      rw [if_neg (by rw [hm, jI_eq ⟨by omega, by omega⟩ hxJ]; omega), show (1 : Int64) = Int64.ofInt 1 from rfl, jI_sub, hd]
      congr 2
      omega
theorem c_floorMod {x y : Int} (hx : sK x) (hy : sK y) (h : 0 < y) : fJ9_floorMod_f86c9 (Int64.ofInt x) (Int64.ofInt y) = some (Int64.ofInt (x % y)) := by
  have h2 := Int.emod_nonneg x (show y ≠ 0 by omega)
  have h3 := Int.emod_lt_of_pos x h
  have hm := td_m (x := x) h
  obtain ⟨x1, x2⟩ := hx
  obtain ⟨y1, y2⟩ := hy
  have hxJ : sJ x := ⟨by omega, by omega⟩
  have hyJ : sJ y := ⟨by omega, by omega⟩
  unfold fJ9_floorMod_f86c9 rmJ
  rw [if_neg (jI_ne0 hyJ h), Option.bind_some, jI_tdiv hxJ hyJ, jI_mul, jI_sub]
  by_cases h0 : 0 ≤ x
  · rw [if_pos ((xor_pos (by rw [jI_T hyJ]; omega)).mpr (by rw [jI_T hxJ]; exact h0)), hm, if_pos (Or.inl h0)]
    congr 2
    omega
  · rw [if_neg (fun q => h0 (by rw [xor_pos (by rw [jI_T hyJ]; omega), jI_T hxJ] at q; exact q)), jI_0]
    by_cases h4 : y ∣ x
    · have h5 := md_0.mpr h4
      rw [if_pos (by rw [hm, if_pos (Or.inr h4), h5]; congr 1; omega), hm, if_pos (Or.inr h4)]
      congr 2
      omega
    · have h5 : ¬ x % y = 0 := fun q => h4 (md_0.mp q)
      have hn : ¬ (0 ≤ x ∨ y ∣ x) := fun q => q.elim h0 h4
      rw [if_neg hn] at hm
      rw [if_neg (by rw [hm, jI_eq ⟨by omega, by omega⟩ sJ_0]; omega), jI_add, hm]
      congr 2
      omega
theorem r_floor {x y : Int} (hx : sK x) (hy : sK y) (h : 0 < y) : fX6_floor (Int64.ofInt x) (Int64.ofInt y) = some (Int64.ofInt (x / y)) := by
  have h2 := Int.emod_nonneg x (show y ≠ 0 by omega)
  have h3 := Int.emod_lt_of_pos x h
  have hm := td_m (x := x) h
  have hd := td_b (x := x) h
  obtain ⟨x1, x2⟩ := hx
  obtain ⟨y1, y2⟩ := hy
  have hxJ : sJ x := ⟨by omega, by omega⟩
  have hyJ : sJ y := ⟨by omega, by omega⟩
  unfold fX6_floor
  rw [dvJ_n (jI_ne0 hyJ h), Option.bind_some, jI_tdiv hxJ hyJ, jI_mul]
  by_cases h4 : 0 ≤ x ∨ y ∣ x
  · rw [if_pos h4] at hm hd
    rw [hm, if_pos ((jI_le ⟨by omega, by omega⟩ hxJ).mpr (by omega)), hd, Int.add_zero]
  · rw [if_neg h4] at hm hd
    rw [hm, if_neg (by rw [jI_le ⟨by omega, by omega⟩ hxJ]; omega), show (1 : Int64) = Int64.ofInt 1 from rfl, jI_sub, hd]
    congr 2
    omega
