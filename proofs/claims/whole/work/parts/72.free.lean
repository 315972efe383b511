/-! ===== LAYER 2: which spaces stay free, in the reference ===== -/
def alD (g : List Nat) (k : Nat) : Nat → Bool
  | 0 => decide (2 < k)
  | i + 1 => alD g k i && decide (g.getD (k + 1 + i) 0 ≠ g.getD k 0)
def bZ (b : Bool) : Int32 := if b = true then 1 else 0
theorem bZ_0 {b : Bool} : bZ b = 0 ↔ b = false := by cases b <;> decide
theorem r_free1 {mo : Mo} {g : List Nat} (hg : ∀ k, g.getD k 0 < 6) (hG : ∀ k, k < 6 → Mo_grp mo k = nI (g.getD k 0)) {k : Nat} (hk : k < 6) : lp (gX6_layOpen_27 mo (nI k)) 1000 ((if nI k ≤ nI 2 then (0 : Int32) else 1), nI (k + 1)) = some (bZ (alD g k (5 - k)), nI 6) := by
  have e0 : ((if nI k ≤ nI 2 then (0 : Int32) else 1), nI (k + 1)) = (bZ (alD g k 0), nI (k + 1 + 0)) := by
    show _ = (bZ (decide (2 < k)), _)
    by_cases h : 2 < k
    · rw [if_neg (nI_ge h (by omega)), decide_eq_true h]; rfl
    · rw [if_pos (nI_le (by omega) (by omega)), decide_eq_false h]; rfl
  rw [e0]
  refine lp_k (fun i => (bZ (alD g k i), nI (k + 1 + i))) (5 - k) (by omega) ?_ ?_
  · intro i hi rec
    have b1 := hg (k + 1 + i)
    have b2 := hg k
    show (if nI 6 ≤ nI (k + 1 + i) then _ else (if bZ (alD g k i) = (0 : Int32) then some (0 : Int32) else (rdI (Mo_grp mo) 6 (nI (k + 1 + i))).bind fun v4 => (rdI (Mo_grp mo) 6 (nI k)).bind fun v5 => if v4 = v5 then some (0 : Int32) else some 1).bind fun v2 => rec (v2, nI (k + 1 + i) + 1)) = rec (bZ (alD g k i && decide (g.getD (k + 1 + i) 0 ≠ g.getD k 0)), nI (k + 1 + i + 1))
    rw [if_neg (nI_ge (by omega) (by omega)), nI_1, rdI_n (by omega) (by omega), Option.bind_some, rdI_n (by omega) (by omega), Option.bind_some, hG _ (by omega), hG _ hk]
    by_cases h0 : alD g k i = true
    · rw [if_neg (by rw [bZ_0, h0]; decide), h0, Bool.true_and]
      by_cases h1 : g.getD (k + 1 + i) 0 = g.getD k 0
      · rw [h1, if_pos rfl, Option.bind_some, decide_eq_false (by simp)]; rfl
      · rw [if_neg (by rw [nI_eq (by omega) (by omega)]; exact h1), Option.bind_some, decide_eq_true h1]; rfl
    · rw [Bool.not_eq_true] at h0
      rw [if_pos (bZ_0.mpr h0), Option.bind_some, h0, Bool.false_and]; rfl
  · intro rec
    show (if nI 6 ≤ nI (k + 1 + (5 - k)) then some (bZ (alD g k (5 - k)), nI (k + 1 + (5 - k))) else _) = _
    rw [show k + 1 + (5 - k) = 6 from by omega, if_pos (Int32.le_refl _)]
def opF (a : Nat → Nat) (k : Nat) : Int32 := if jdI (smN (wk a k) 3) = 0 then 1 else if bZ (alD (gS (pB a) 54) k (5 - k)) = 0 then 0 else 1
theorem opF_01 (a : Nat → Nat) (k : Nat) : opF a k = 0 ∨ opF a k = 1 := by
  unfold opF
  split
  · exact Or.inr rfl
  · split
    · exact Or.inl rfl
    · exact Or.inr rfl
theorem r_layOpen1 {mo : Mo} {a : Nat → Nat} (hV : Valid a) (hF : RF (Mo_now mo) a) : ∃ G O, fX6_layOpen mo = some (Mo_set_isOpn (Mo_set_grp mo G) O) ∧ ∀ k, k < 6 → O k = opF a k := by
  obtain ⟨G, e1, e2⟩ := r_layGroups hV hF
  have h : ∃ s, lp gX6_layOpen_6 1000 (0, Mo_set_grp mo G) = some s ∧ ∃ O, s.2 = Mo_set_isOpn (Mo_set_grp mo G) O ∧ ∀ k, k < 6 → O k = opF a k := by
    refine lp_J (σ := Int32 × Mo) (ρ := Int32 × Mo) (fun i s => ∃ O, s = (nI i, Mo_set_isOpn (Mo_set_grp mo G) O) ∧ ∀ k, k < i → O k = opF a k) 6 _ (by omega) ⟨Mo_isOpn mo, rfl, fun k hk => by omega⟩ ?_ ?_
    · rintro i s hi ⟨O, rfl, h⟩
      refine ⟨(nI (i + 1), Mo_set_isOpn (Mo_set_grp mo G) (upd O i (opF a i))), ⟨upd O i (opF a i), rfl, fun k hk => ?_⟩, fun rec => ?_⟩
      · unfold upd
        by_cases q : k = i
        · rw [if_pos q, q]
        · rw [if_neg q]; exact h k (by omega)
      · show (if nI 6 ≤ nI i then _ else (lp (gX6_layOpen_27 (Mo_set_isOpn (Mo_set_grp mo G) O) (nI i)) 1000 ((if nI i ≤ nI 2 then (0 : Int32) else 1), nI i + 1)).bind fun v3 => (fX6_isJoined (Mo_set_isOpn (Mo_set_grp mo G) O) (nI i)).bind fun v4 => (wrZ O 6 (nI i) (if v4 = (0 : Int32) then (1 : Int32) else (if v3.1 = (0 : Int32) then (0 : Int32) else 1))).bind fun v7 => rec (nI i + 1, Mo_set_isOpn (Mo_set_grp mo G) v7)) = _
        rw [if_neg (nI_ge hi (by omega)), nI_1, r_free1 (g := gS (pB a) 54) (gS_ok (pB a) 54).2 e2 hi, Option.bind_some, r_isJoined (mo := Mo_set_isOpn (Mo_set_grp mo G) O) hV hF hi, Option.bind_some]
        show (wrZ O 6 (nI i) (opF a i)).bind _ = _
        rw [wrZ_n hi (by omega) (opF_01 a i), Option.bind_some]
    · rintro s ⟨O, rfl, h⟩
      exact ⟨(nI 6, Mo_set_isOpn (Mo_set_grp mo G) O), ⟨O, rfl, h⟩, fun rec => if_pos (Int32.le_refl _)⟩
  obtain ⟨s, f1, O, f2, f3⟩ := h
  refine ⟨G, O, ?_, f3⟩
  unfold fX6_layOpen
  rw [e1, Option.bind_some, f1, Option.bind_some, f2]
theorem mul_z {x y : Nat} : ((x : Int) * (y : Int) = 0) ↔ (decide (0 < x) && decide (0 < y)) = false := by
  rw [Int.mul_eq_zero, Bool.and_eq_false_iff, decide_eq_false_iff_not, decide_eq_false_iff_not]
  omega
theorem jn_shr (a : Nat → Nat) (j k : Nat) : jn (wt a) j k = 0 ↔ shr (pB a) j k = false := by
  have n0 : (0 : Int) ≤ wt a 0 j * wt a 0 k := Int.mul_nonneg (Int.natCast_nonneg _) (Int.natCast_nonneg _)
  have n1 : (0 : Int) ≤ wt a 1 j * wt a 1 k := Int.mul_nonneg (Int.natCast_nonneg _) (Int.natCast_nonneg _)
  have n2 : (0 : Int) ≤ wt a 2 j * wt a 2 k := Int.mul_nonneg (Int.natCast_nonneg _) (Int.natCast_nonneg _)
  have e0 : wt a 0 j * wt a 0 k = 0 ↔ (pB a j && pB a k) = false := by
    have := mul_z (x := a (51 + (3 * 0 + j))) (y := a (51 + (3 * 0 + k)))
    rw [show 3 * 0 + j = j from by omega, show 3 * 0 + k = k from by omega] at this
    unfold wt pB
    rw [show 3 * 0 + j = j from by omega, show 3 * 0 + k = k from by omega]
    exact this
  have e1 : wt a 1 j * wt a 1 k = 0 ↔ (pB a (3 + j) && pB a (3 + k)) = false := mul_z
  have e2 : wt a 2 j * wt a 2 k = 0 ↔ (pB a (6 + j) && pB a (6 + k)) = false := mul_z
  unfold shr jn
  rw [Bool.or_eq_false_iff, Bool.or_eq_false_iff, ← e0, ← e1, ← e2]
  omega
theorem clm_wk (a : Nat → Nat) {j : Nat} (hj : j < 3) : jdI (smN (wk a (3 + j)) 3) = 0 ↔ clm (pB a) j = false := by
  have e0 : wk a (3 + j) 0 = a (51 + j) := by unfold wk; rw [if_pos (by omega)]; congr 1; omega
  have e1 : wk a (3 + j) 1 = a (51 + (3 + j)) := by unfold wk; rw [if_pos (by omega)]; congr 1; omega
  have e2 : wk a (3 + j) 2 = a (51 + (6 + j)) := by unfold wk; rw [if_pos (by omega)]; congr 1; omega
  have e : smN (wk a (3 + j)) 3 = 0 ↔ clm (pB a) j = false := by
    show 0 + wk a (3 + j) 0 + wk a (3 + j) 1 + wk a (3 + j) 2 = 0 ↔ _
    rw [e0, e1, e2]
    unfold clm pB
    rw [Bool.or_eq_false_iff, Bool.or_eq_false_iff, decide_eq_false_iff_not, decide_eq_false_iff_not, decide_eq_false_iff_not]
    omega
  rw [← e]
  unfold jdI
  by_cases q : smN (wk a (3 + j)) 3 = 0
  · rw [if_pos q]; exact ⟨fun _ => q, fun _ => rfl⟩
  · rw [if_neg q]; exact ⟨fun h => absurd h (by decide), fun h => absurd h q⟩
theorem ne_dec (x y : Nat) : decide (x ≠ y) = (x != y) := by
  by_cases h : x = y <;> simp [h]
theorem opF_b {a : Nat → Nat} {k : Nat} {c : Bool} (h : jdI (smN (wk a k) 3) = 0 ↔ c = false) : opF a k = bZ ((!c) || alD (gS (pB a) 54) k (5 - k)) := by
  unfold opF
  cases c with
  | false => rw [if_pos (h.mpr rfl)]; rfl
  | true =>
    rw [if_neg (fun q => absurd (h.mp q) (by decide))]
    cases alD (gS (pB a) 54) k (5 - k) <;> rfl
theorem opZ_b {w : Nat → Nat → Int} {k : Nat} {c : Bool} (h : opS w k ↔ c = true) : bZ c = opZ w k := by
  cases c with
  | false => rw [opZ_n (fun q => absurd (h.mp q) (by decide))]; rfl
  | true => rw [opZ_y (h.mpr rfl)]; rfl
theorem opF_opZ {a : Nat → Nat} {k : Nat} (hk : k < 6) : opF a k = opZ (wt a) k := by
  have hc := chk_p (pB a)
  unfold chk at hc
  rw [Bool.and_eq_true, beq_iff_eq, beq_iff_eq] at hc
  obtain ⟨c3, c4⟩ := hc
  have e01 := jn_shr a 0 1
  have e02 := jn_shr a 0 2
  have e12 := jn_shr a 1 2
  have hcase : k < 3 ∨ k = 3 ∨ k = 4 ∨ k = 5 := by omega
  rcases hcase with h | rfl | rfl | rfl
  · have ea : alD (gS (pB a) 54) k (5 - k) = false := by
      have : ∀ i, alD (gS (pB a) 54) k i = false := fun i => by
        induction i with
        | zero => exact decide_eq_false (by omega)
        | succ i ih => show (alD (gS (pB a) 54) k i && _) = false; rw [ih]; rfl
      exact this _
    have er : ro (wt a) k = ((smN (wk a k) 3 : Nat) : Int) := by
      show _ = ((0 + wk a k 0 + wk a k 1 + wk a k 2 : Nat) : Int)
      unfold wk ro wt
      rw [if_neg (by omega), if_neg (by omega), if_neg (by omega)]
      omega
    unfold opF
    rw [ea]
    by_cases q : smN (wk a k) 3 = 0
    · rw [if_pos (by unfold jdI; rw [if_pos q]), opZ_y (by unfold opS; rw [if_pos h, er, q]; rfl)]
    · rw [if_neg (by unfold jdI; rw [if_neg q]; decide), if_pos (by decide), opZ_n (by unfold opS; rw [if_pos h, er]; omega)]
  · have hj := clm_wk a (j := 0) (by omega)
    have ea : alD (gS (pB a) 54) 3 (5 - 3) = (((gS (pB a) 54).getD 4 0 != (gS (pB a) 54).getD 3 0) && ((gS (pB a) 54).getD 5 0 != (gS (pB a) 54).getD 3 0)) := by
      rw [← ne_dec, ← ne_dec]
      rfl
    rw [opF_b hj, ea, c3]
    have eo : opS (wt a) 3 ↔ (!shr (pB a) 0 1 && !shr (pB a) 0 2) = true := by
      show (jn (wt a) 0 1 = 0 ∧ jn (wt a) 0 2 = 0) ↔ _
      rw [e01, e02, Bool.and_eq_true, Bool.not_eq_true', Bool.not_eq_true']
    exact opZ_b eo
  · have hj := clm_wk a (j := 1) (by omega)
    have ea : alD (gS (pB a) 54) 4 (5 - 4) = ((gS (pB a) 54).getD 5 0 != (gS (pB a) 54).getD 4 0) := by
      rw [← ne_dec]
      show (decide (2 < 4) && _) = _
      rw [decide_eq_true (by omega), Bool.true_and]
    rw [opF_b hj, ea, c4]
    have eo : opS (wt a) 4 ↔ (!shr (pB a) 1 2 && (!shr (pB a) 0 1 || !shr (pB a) 0 2)) = true := by
      show (jn (wt a) 1 2 = 0 ∧ (jn (wt a) 0 1 = 0 ∨ jn (wt a) 0 2 = 0)) ↔ _
      rw [e12, e01, e02, Bool.and_eq_true, Bool.or_eq_true, Bool.not_eq_true', Bool.not_eq_true', Bool.not_eq_true']
    exact opZ_b eo
  · have ea : alD (gS (pB a) 54) 5 (5 - 5) = true := rfl
    rw [opZ_y (by unfold opS; rw [if_neg (by omega), if_neg (by omega), if_neg (by omega)]; trivial)]
    unfold opF
    rw [ea]
    split <;> rfl
theorem r_layOpen {mo : Mo} {a : Nat → Nat} (hV : Valid a) (hF : RF (Mo_now mo) a) : ∃ G O, fX6_layOpen mo = some (Mo_set_isOpn (Mo_set_grp mo G) O) ∧ ∀ k, k < 6 → O k = opZ (wt a) k := by
  obtain ⟨G, O, h1, h2⟩ := r_layOpen1 hV hF
  exact ⟨G, O, h1, fun k hk => (h2 k hk).trans (opF_opZ hk)⟩
