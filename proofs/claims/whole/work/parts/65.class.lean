/-! ===== LAYER 2: the class follows the elimination ===== -/
def wt (a : Nat → Nat) (i j : Nat) : Int := (a (51 + (3 * i + j)) : Nat)
def tw (a : Nat → Nat) (i j : Nat) : Int := ((a 62 : Nat) : Int) - ((bareN a i j : Nat) : Int)
theorem HW_N {a : Nat → Nat} (hV : Valid a) : HW (wt a) (tw a) := by
  intro i j hi hj
  have h1 := hV.2.2.2.2.2.1 (3 * i + j) (by omega)
  have h2 := bareN_le a hV.2.1.2 i j
  have h3 := hV.2.2.1
  unfold wt tw
  omega
theorem nI_ofI (n : Nat) : nI n = Int32.ofInt (n : Int) := by
  rw [Int32.ofInt_eq_ofNat]
  rfl
theorem i32_toInt {x : Int} (h1 : -2147483648 ≤ x) (h2 : x < 2147483648) : (Int32.ofInt x).toInt = x := Int32.toInt_ofInt_of_le (by simpa using h1) (by simpa using h2)
theorem wide_ofI {x : Int} (h1 : -2147483648 ≤ x) (h2 : x < 2147483648) : (Int32.ofInt x).toInt64 = Int64.ofInt x := by
  apply Int64.toInt_inj.mp
  rw [Int32.toInt_toInt64, i32_toInt h1 h2, jI_toInt (by omega) (by omega)]
theorem wide_nI {n : Nat} (h : n < 2147483648) : (nI n).toInt64 = Int64.ofInt (n : Int) := by
  rw [nI_ofI]
  exact wide_ofI (by omega) (by omega)
theorem nI_subI (x y : Nat) : nI x - nI y = Int32.ofInt ((x : Int) - (y : Int)) := by
  rw [nI_ofI, nI_ofI, Int32.ofInt_sub]
/-- what a pair adds to the rows -/
def kP (n : Nat) (W G : Int64) (i j c d : Nat) : Int64 := if c = i ∨ c = n + j then (if d = i ∨ d = n + j then W else if d = 6 then G else 0) else 0
theorem c_addPair {z : Fo} {a : Nat → Nat} (hV : Valid a) (hC : CF z a) (ev : Ev) {i j : Nat} (hi : i < a 60) (hj : j < a 60) : fX0_addPair ev z (nI i) (nI j) = some (Ev_set_rows ev (fun c d => Ev_rows ev c d + kP (a 60) (Int64.ofInt (wt a i j)) (Int64.ofInt (wt a i j * tw a i j)) i j c d)) := by
  have hN := hV.1
  have hw := hV.2.2.2.2.2.1 (3 * i + j) (by omega)
  have hb := bareN_le a hV.2.1.2 i j
  have h62 := hV.2.2.1
  have e1 : fX0_numberOf ev z (nI i) 1 = some (nI i) := rfl
  have e2 : fX0_numberOf ev z (nI j) 0 = some (nI (a 60 + j)) := by
    show some (Fo_many z + nI j) = _
    rw [hC.1, nI_add]
  have e3 : (nI (a 62) - nI (bareN a i j)).toInt64 = Int64.ofInt (tw a i j) := by
    rw [nI_subI]
    exact wide_ofI (by omega) (by omega)
  have e4 : (nI (a (51 + (3 * i + j)))).toInt64 = Int64.ofInt (wt a i j) := wide_nI (by omega)
  unfold fX0_addPair
  rw [c_weightOf z (by omega) (by omega), Option.bind_some, c_bareOf hV hC (by omega) (by omega), Option.bind_some, e1, Option.bind_some, e2, Option.bind_some, hC.2.2.2.2.2 _ (by omega), hC.2.2.1, e3, e4, jI_mul]
  rw [show (6 : Int32) = nI 6 from rfl]
  rw [rdX_n (by omega) (by omega)]
  simp only [Option.bind_some]
  rw [rdJ_n (by omega) (by omega)]
  simp only [Option.bind_some]
  rw [wrJ_n (by omega) (by omega)]
  simp only [Option.bind_some]
  rw [rdJ_n (by omega) (by omega)]
  simp only [Option.bind_some]
  rw [wrJ_n (by omega) (by omega)]
  simp only [Option.bind_some]
  rw [rdJ_n (by omega) (by omega)]
  simp only [Option.bind_some]
  rw [wrJ_n (by omega) (by omega)]
  simp only [Option.bind_some]
  rw [rdX_n (by omega) (by omega)]
  simp only [Option.bind_some]
  rw [rdJ_n (by omega) (by omega)]
  simp only [Option.bind_some]
  rw [wrJ_n (by omega) (by omega)]
  simp only [Option.bind_some]
  rw [rdJ_n (by omega) (by omega)]
  simp only [Option.bind_some]
  rw [wrJ_n (by omega) (by omega)]
  simp only [Option.bind_some]
  rw [rdJ_n (by omega) (by omega)]
  simp only [Option.bind_some]
  rw [wrJ_n (by omega) (by omega)]
  simp only [Option.bind_some]
  refine congrArg (fun M => some (Ev_set_rows ev M)) ?_
  funext c d
  unfold kP
  generalize Ev_rows ev = M
  generalize Int64.ofInt (wt a i j) = W
  generalize Int64.ofInt (wt a i j * tw a i j) = G
  have q1 : ¬ i = a 60 + j := by omega
  have q2 : ¬ a 60 + j = i := by omega
  have q3 : ¬ (6 : Nat) = i := by omega
  have q4 : ¬ (6 : Nat) = a 60 + j := by omega
  have q5 : ¬ i = 6 := by omega
  have q6 : ¬ a 60 + j = 6 := by omega
  by_cases h1 : c = i
  · subst h1
    by_cases h2 : d = c
    · subst h2
      simp [up2, vp_updL, q1, q2, q3, q4, q5, q6]
    · by_cases h3 : d = a 60 + j
      · subst h3
        simp [up2, vp_updL, q1, q2, q3, q4, q5, q6]
      · by_cases h4 : d = 6
        · subst h4
          simp [up2, vp_updL, q1, q2, q3, q4, q5, q6]
        · simp [up2, vp_updL, q1, q2, q3, q4, q5, q6, h2, h3, h4]
  · by_cases h5 : c = a 60 + j
    · subst h5
      by_cases h2 : d = i
      · subst h2
        simp [up2, vp_updL, q1, q2, q3, q4, q5, q6]
      · by_cases h3 : d = a 60 + j
        · subst h3
          simp [up2, vp_updL, q1, q2, q3, q4, q5, q6]
        · by_cases h4 : d = 6
          · subst h4
            simp [up2, vp_updL, q1, q2, q3, q4, q5, q6]
          · simp [up2, vp_updL, q1, q2, q3, q4, q5, q6, h2, h3, h4]
    · simp [up2, h1, h5]
