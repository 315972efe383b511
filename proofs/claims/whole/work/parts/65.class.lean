/-! ===== LAYER 2: the class follows the elimination ===== -/
def wt (a : Nat → Nat) (i j : Nat) : Int := (a (51 + (3 * i + j)) : Nat)
def tw (a : Nat → Nat) (i j : Nat) : Int := ((a 62 : Nat) : Int) - ((bareN a i j : Nat) : Int)
theorem HW_N {a : Nat → Nat} (hV : Valid a) : HW (wt a) (tw a) := by
  intro i j hi hj
  have h1 := hV.2.2.2.2.2.1 (3 * i + j) (by omega)
  have h2 := bareN_le a hV.2.1.2 i j
  have h3 := hV.2.2.1
  unfold wt tw
  omega
theorem nI_ofI (n : Nat) : nI n = Int32.ofInt (n : Int) := by
  rw [Int32.ofInt_eq_ofNat]
  rfl
theorem i32_toInt {x : Int} (h1 : -2147483648 ≤ x) (h2 : x < 2147483648) : (Int32.ofInt x).toInt = x := Int32.toInt_ofInt_of_le (by simpa using h1) (by simpa using h2)
theorem wide_ofI {x : Int} (h1 : -2147483648 ≤ x) (h2 : x < 2147483648) : (Int32.ofInt x).toInt64 = Int64.ofInt x := by
  apply Int64.toInt_inj.mp
  rw [Int32.toInt_toInt64, i32_toInt h1 h2, jI_toInt (by omega) (by omega)]
theorem wide_nI {n : Nat} (h : n < 2147483648) : (nI n).toInt64 = Int64.ofInt (n : Int) := by
  rw [nI_ofI]
  exact wide_ofI (by omega) (by omega)
theorem nI_subI (x y : Nat) : nI x - nI y = Int32.ofInt ((x : Int) - (y : Int)) := by
  rw [nI_ofI, nI_ofI, Int32.ofInt_sub]
/-- what a pair adds to the rows -/
def kP (n : Nat) (W G : Int64) (i j c d : Nat) : Int64 := if c = i ∨ c = n + j then (if d = i ∨ d = n + j then W else if d = 6 then G else 0) else 0
theorem c_addPair {z : Fo} {a : Nat → Nat} (hV : Valid a) (hC : CF z a) (ev : Ev) {i j : Nat} (hi : i < a 60) (hj : j < a 60) : fX0_addPair ev z (nI i) (nI j) = some (Ev_set_rows ev (fun c d => Ev_rows ev c d + kP (a 60) (Int64.ofInt (wt a i j)) (Int64.ofInt (wt a i j * tw a i j)) i j c d)) := by
  have hN := hV.1
  have hw := hV.2.2.2.2.2.1 (3 * i + j) (by omega)
  have hb := bareN_le a hV.2.1.2 i j
  have h62 := hV.2.2.1
  have e1 : fX0_numberOf ev z (nI i) 1 = some (nI i) := rfl
  have e2 : fX0_numberOf ev z (nI j) 0 = some (nI (a 60 + j)) := by
    show some (Fo_many z + nI j) = _
    rw [hC.1, nI_add]
  have e3 : (nI (a 62) - nI (bareN a i j)).toInt64 = Int64.ofInt (tw a i j) := by
    rw [nI_subI]
    exact wide_ofI (by omega) (by omega)
  have e4 : (nI (a (51 + (3 * i + j)))).toInt64 = Int64.ofInt (wt a i j) := wide_nI (by omega)
  unfold fX0_addPair
  rw [c_weightOf z (by omega) (by omega), Option.bind_some, c_bareOf hV hC (by omega) (by omega), Option.bind_some, e1, Option.bind_some, e2, Option.bind_some, hC.2.2.2.2.2 _ (by omega), hC.2.2.1, e3, e4, jI_mul]
  rw [show (6 : Int32) = nI 6 from rfl]
  rw [rdX_n (by omega) (by omega)]
  simp only [Option.bind_some]
  rw [rdJ_n (by omega) (by omega)]
  simp only [Option.bind_some]
  rw [wrJ_n (by omega) (by omega)]
  simp only [Option.bind_some]
  rw [rdJ_n (by omega) (by omega)]
  simp only [Option.bind_some]
  rw [wrJ_n (by omega) (by omega)]
  simp only [Option.bind_some]
  rw [rdJ_n (by omega) (by omega)]
  simp only [Option.bind_some]
  rw [wrJ_n (by omega) (by omega)]
  simp only [Option.bind_some]
  rw [rdX_n (by omega) (by omega)]
  simp only [Option.bind_some]
  rw [rdJ_n (by omega) (by omega)]
  simp only [Option.bind_some]
  rw [wrJ_n (by omega) (by omega)]
  simp only [Option.bind_some]
  rw [rdJ_n (by omega) (by omega)]
  simp only [Option.bind_some]
  rw [wrJ_n (by omega) (by omega)]
  simp only [Option.bind_some]
  rw [rdJ_n (by omega) (by omega)]
  simp only [Option.bind_some]
  rw [wrJ_n (by omega) (by omega)]
  simp only [Option.bind_some]
  refine congrArg (fun M => some (Ev_set_rows ev M)) ?_
  funext c d
  unfold kP
  generalize Ev_rows ev = M
  generalize Int64.ofInt (wt a i j) = W
  generalize Int64.ofInt (wt a i j * tw a i j) = G
  have q1 : ¬ i = a 60 + j := by omega
  have q2 : ¬ a 60 + j = i := by omega
  have q3 : ¬ (6 : Nat) = i := by omega
  have q4 : ¬ (6 : Nat) = a 60 + j := by omega
  have q5 : ¬ i = 6 := by omega
  have q6 : ¬ a 60 + j = 6 := by omega
  by_cases h1 : c = i
  · subst h1
    by_cases h2 : d = c
    · subst h2
      simp [up2, vp_updL, q1, q2, q3, q4, q5, q6]
    · by_cases h3 : d = a 60 + j
      · subst h3
        simp [up2, vp_updL, q1, q2, q3, q4, q5, q6]
      · by_cases h4 : d = 6
        · subst h4
          simp [up2, vp_updL, q1, q2, q3, q4, q5, q6]
        · simp [up2, vp_updL, q1, q2, q3, q4, q5, q6, h2, h3, h4]
  · by_cases h5 : c = a 60 + j
    · subst h5
      by_cases h2 : d = i
      · subst h2
        simp [up2, vp_updL, q1, q2, q3, q4, q5, q6]
      · by_cases h3 : d = a 60 + j
        · subst h3
          simp [up2, vp_updL, q1, q2, q3, q4, q5, q6]
        · by_cases h4 : d = 6
          · subst h4
            simp [up2, vp_updL, q1, q2, q3, q4, q5, q6]
          · simp [up2, vp_updL, q1, q2, q3, q4, q5, q6, h2, h3, h4]
    · simp [up2, h1, h5]
theorem lt_lt {a b : Nat} (ha : a < 2147483648) (hb : b < 2147483648) (h : a < b) : nI a < nI b := (nI_ltI ha hb).mpr h
theorem not_lt {a b : Nat} (ha : a < 2147483648) (hb : b < 2147483648) (h : b ≤ a) : ¬ nI a < nI b := fun q => by
  have := (nI_ltI ha hb).mp q
  omega
theorem c_zero1 (z : Fo) (ev : Ev) {c : Nat} (hc : c < 6) (M : Nat → Nat → Int64) : ∃ r, lp (gX0_writeRows_10 z (nI c)) 1000 (0, Ev_set_rows ev M) = some r ∧ ∃ M', r.2 = Ev_set_rows ev M' ∧ (∀ d, d < 7 → M' c d = 0) ∧ ∀ c' d, c' ≠ c → M' c' d = M c' d := by
  refine lp_J (σ := Int32 × Ev) (ρ := Int32 × Ev) (fun d s => ∃ M', s = (nI d, Ev_set_rows ev M') ∧ (∀ d', d' < d → M' c d' = 0) ∧ ∀ c' d', c' ≠ c → M' c' d' = M c' d') 7 _ (by omega) ⟨M, rfl, fun d' h => by omega, fun _ _ _ => rfl⟩ ?_ ?_
  · rintro d s hd ⟨M', rfl, h1, h2⟩
    refine ⟨(nI (d + 1), Ev_set_rows ev (up2 M' c (vp_updL (M' c) d 0))), ⟨up2 M' c (vp_updL (M' c) d 0), rfl, fun d' hd' => ?_, fun c' d' hn => ?_⟩, fun rec => ?_⟩
    · show (if c = c then vp_updL (M' c) d 0 else M' c) d' = 0
      rw [if_pos rfl]
      unfold vp_updL
      by_cases q : d' = d
      · rw [if_pos q]
      · rw [if_neg q]; exact h1 d' (by omega)
    · show (if c' = c then vp_updL (M' c) d 0 else M' c') d' = _
      rw [if_neg hn]
      exact h2 c' d' hn
    · show (if nI 6 < nI d then _ else (rdX 6 (nI c)).bind fun v3 => (wrJ (M' v3) 7 (nI d) (0 : Int64)).bind fun v4 => rec (nI d + 1, Ev_set_rows ev (up2 M' v3 v4))) = _
      rw [if_neg (not_lt (by omega) (by omega) (by omega)), rdX_n hc (by omega), Option.bind_some, wrJ_n (by omega) (by omega), Option.bind_some, nI_1]
  · rintro s ⟨M', rfl, h1, h2⟩
    refine ⟨(nI 7, Ev_set_rows ev M'), ⟨M', rfl, h1, h2⟩, fun rec => ?_⟩
    show (if nI 6 < nI 7 then _ else _) = _
    rw [if_pos (lt_lt (by omega) (by omega) (by omega))]
theorem c_zero (z : Fo) (ev : Ev) : ∃ r, lp (gX0_writeRows_2 z) 1000 (0, ev) = some r ∧ ∃ M', r.2 = Ev_set_rows ev M' ∧ ∀ c d, c < 6 → d < 7 → M' c d = 0 := by
  refine lp_J (σ := Int32 × Ev) (ρ := Int32 × Ev) (fun c s => ∃ M', s = (nI c, Ev_set_rows ev M') ∧ ∀ c' d, c' < c → d < 7 → M' c' d = 0) 6 _ (by omega) ⟨Ev_rows ev, rfl, fun c' _ h => by omega⟩ ?_ ?_
  · rintro c s hc ⟨M', rfl, h1⟩
    obtain ⟨r, e1, M2, e2, e3, e4⟩ := c_zero1 z ev hc M'
    refine ⟨(nI (c + 1), Ev_set_rows ev M2), ⟨M2, rfl, fun c' d hc' hd => ?_⟩, fun rec => ?_⟩
    · by_cases q : c' = c
      · rw [q]; exact e3 d hd
      · rw [e4 c' d q]; exact h1 c' d (by omega) hd
    · show (if nI 6 ≤ nI c then _ else (lp (gX0_writeRows_10 z (nI c)) 1000 (0, Ev_set_rows ev M')).bind fun v2 => rec (nI c + 1, v2.2)) = _
      rw [if_neg (nI_ge (a := c) (b := 6) (by omega) (by omega)), e1, Option.bind_some, e2, nI_1]
  · rintro s ⟨M', rfl, h1⟩
    refine ⟨(nI 6, Ev_set_rows ev M'), ⟨M', rfl, h1⟩, fun rec => ?_⟩
    show (if nI 6 ≤ nI 6 then _ else _) = _
    rw [if_pos (Int32.le_refl _)]
def smJ (f : Nat → Int64) : Nat → Int64
  | 0 => 0
  | n + 1 => smJ f n + f n
def kN (a : Nat → Nat) (i j c d : Nat) : Int64 := kP (a 60) (Int64.ofInt (wt a i j)) (Int64.ofInt (wt a i j * tw a i j)) i j c d
theorem c_pairs1 {z : Fo} {a : Nat → Nat} (hV : Valid a) (hC : CF z a) (ev : Ev) (M : Nat → Nat → Int64) {i : Nat} (hi : i < a 60) : lp (gX0_writeRows_52 z (nI i)) 1000 (0, Ev_set_rows ev M) = some (nI (a 60), Ev_set_rows ev (fun c d => M c d + smJ (fun j => kN a i j c d) (a 60))) := by
  have hN := hV.1
  have e0 : Ev_set_rows ev M = Ev_set_rows ev (fun c d => M c d + smJ (fun j => kN a i j c d) 0) := by
    refine congrArg (fun M => Ev_set_rows ev M) ?_
    funext c d
    exact (Int64.add_zero _).symm
  rw [e0]
  refine lp_k (fun j => (nI j, Ev_set_rows ev (fun c d => M c d + smJ (fun j => kN a i j c d) j))) (a 60) (by omega) ?_ ?_
  · intro j hj rec
    show (if Fo_many z ≤ nI j then _ else (fX0_addPair (Ev_set_rows ev (fun c d => M c d + smJ (fun j => kN a i j c d) j)) z (nI i) (nI j)).bind fun v2 => rec (nI j + 1, v2)) = _
    rw [hC.1, if_neg (nI_ge (a := j) (b := a 60) (by omega) (by omega)), c_addPair hV hC _ hi hj, Option.bind_some, nI_1]
    refine congrArg (fun M => rec (nI (j + 1), Ev_set_rows ev M)) ?_
    funext c d
    exact Int64.add_assoc _ _ _
  · intro rec
    show (if Fo_many z ≤ nI (a 60) then _ else _) = _
    rw [hC.1, if_pos (Int32.le_refl _)]
theorem c_pairs {z : Fo} {a : Nat → Nat} (hV : Valid a) (hC : CF z a) (ev : Ev) (M : Nat → Nat → Int64) : lp (gX0_writeRows_39 z) 1000 (0, Ev_set_rows ev M) = some (nI (a 60), Ev_set_rows ev (fun c d => M c d + smJ (fun i => smJ (fun j => kN a i j c d) (a 60)) (a 60))) := by
  have hN := hV.1
  have e0 : Ev_set_rows ev M = Ev_set_rows ev (fun c d => M c d + smJ (fun i => smJ (fun j => kN a i j c d) (a 60)) 0) := by
    refine congrArg (fun M => Ev_set_rows ev M) ?_
    funext c d
    exact (Int64.add_zero _).symm
  rw [e0]
  refine lp_k (fun i => (nI i, Ev_set_rows ev (fun c d => M c d + smJ (fun i => smJ (fun j => kN a i j c d) (a 60)) i))) (a 60) (by omega) ?_ ?_
  · intro i hi rec
    show (if Fo_many z ≤ nI i then _ else (lp (gX0_writeRows_52 z (nI i)) 1000 (0, Ev_set_rows ev (fun c d => M c d + smJ (fun i => smJ (fun j => kN a i j c d) (a 60)) i))).bind fun v2 => rec (nI i + 1, v2.2)) = _
    rw [hC.1, if_neg (nI_ge (a := i) (b := a 60) (by omega) (by omega)), c_pairs1 hV hC _ _ hi, Option.bind_some, nI_1]
    refine congrArg (fun M => rec (nI (i + 1), Ev_set_rows ev M)) ?_
    funext c d
    exact Int64.add_assoc _ _ _
  · intro rec
    show (if Fo_many z ≤ nI (a 60) then _ else _) = _
    rw [hC.1, if_pos (Int32.le_refl _)]
