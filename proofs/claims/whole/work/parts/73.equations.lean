/-! ===== LAYER 2: the reference lays its equations ===== -/
def UL (w : Nat → Nat → Int) (k n : Nat) (u : Nat → Nat) : Prop := n ≤ k ∧ (∀ p, p < n → u p < k ∧ ¬ opS w (u p)) ∧ (∀ p q, p < q → q < n → u p < u q) ∧ ∀ k', k' < k → ¬ opS w k' → ∃ p, p < n ∧ u p = k'
theorem r_unk {o : Mo} {w : Nat → Nat → Int} (hO : ∀ k, k < 6 → Mo_isOpn o k = opZ w k) : ∃ (s : Int32 × Int32 × Mo), lp gX6_layEquations_4 1000 (0, 0, o) = some s ∧ ∃ n u U, s.1 = nI n ∧ s.2.2 = Mo_set_unk o U ∧ UL w 6 n u ∧ ∀ p, p < n → U p = nI (u p) := by
  refine lp_J (σ := Int32 × Int32 × Mo) (ρ := Int32 × Int32 × Mo) (fun k s => ∃ n u U, s = (nI n, nI k, Mo_set_unk o U) ∧ UL w k n u ∧ ∀ p, p < n → U p = nI (u p)) 6 _ (by omega) ⟨0, id, Mo_unk o, rfl, ⟨by omega, fun p hp => by omega, fun p q h1 h2 => by omega, fun k' hk => by omega⟩, fun p hp => by omega⟩ ?_ ?_
  · rintro k s hk ⟨n, u, U, rfl, ⟨h1, h2, h3, h4⟩, h5⟩
    by_cases ho : opS w k
    · refine ⟨(nI n, nI (k + 1), Mo_set_unk o U), ⟨n, u, U, rfl, ⟨by omega, fun p hp => ⟨by have := (h2 p hp).1; omega, (h2 p hp).2⟩, h3, fun k' hk' hn => ?_⟩, h5⟩, fun rec => ?_⟩
      · by_cases e : k' = k
        · rw [e] at hn; exact absurd ho hn
        · exact h4 k' (by omega) hn
      · show (if nI 6 ≤ nI k then _ else (rdI (Mo_isOpn o) 6 (nI k)).bind fun v2 => (if v2 = (0 : Int32) then _ else some (nI n, Mo_set_unk o U)).bind fun v3 => rec (v3.1, nI k + 1, v3.2)) = _
        rw [if_neg (nI_ge hk (by omega)), rdI_n hk (by omega), Option.bind_some, hO k hk, opZ_y ho, if_neg (by decide), Option.bind_some, nI_1]
    · refine ⟨(nI (n + 1), nI (k + 1), Mo_set_unk o (upd U n (nI k))), ⟨n + 1, fun p => if p = n then k else u p, upd U n (nI k), rfl, ⟨by omega, fun p hp => ?_, fun p q hp hq => ?_, fun k' hk' hn => ?_⟩, fun p hp => ?_⟩, fun rec => ?_⟩
      · show (if p = n then k else u p) < k + 1 ∧ ¬ opS w (if p = n then k else u p)
        by_cases e : p = n
        · rw [if_pos e]; exact ⟨by omega, ho⟩
        · rw [if_neg e]; exact ⟨by have := (h2 p (by omega)).1; omega, (h2 p (by omega)).2⟩
      · show (if p = n then k else u p) < (if q = n then k else u q)
        rw [if_neg (by omega)]
        by_cases e : q = n
        · rw [if_pos e]; exact (h2 p (by omega)).1
        · rw [if_neg e]; exact h3 p q hp (by omega)
      · by_cases e : k' = k
        · exact ⟨n, by omega, by rw [e]; exact if_pos rfl⟩
        · obtain ⟨p, hp, e2⟩ := h4 k' (by omega) hn
          exact ⟨p, by omega, by show (if p = n then k else u p) = k'; rw [if_neg (by omega), e2]⟩
      · show upd U n (nI k) p = nI (if p = n then k else u p)
        unfold upd
        by_cases e : p = n
        · rw [if_pos e, if_pos e]
        · rw [if_neg e, if_neg e]; exact h5 p (by omega)
      · show (if nI 6 ≤ nI k then _ else (rdI (Mo_isOpn o) 6 (nI k)).bind fun v2 => (if v2 = (0 : Int32) then (wrI U 6 (nI n) (nI k)).bind fun v5 => some (nI n + 1, Mo_set_unk o v5) else some (nI n, Mo_set_unk o U)).bind fun v3 => rec (v3.1, nI k + 1, v3.2)) = _
        rw [if_neg (nI_ge hk (by omega)), rdI_n hk (by omega), Option.bind_some, hO k hk, opZ_n ho, if_pos rfl, wrI_n (by omega) (by omega), Option.bind_some, Option.bind_some, nI_1, nI_1]
  · rintro s ⟨n, u, U, rfl, h1, h2⟩
    exact ⟨(nI n, nI 6, Mo_set_unk o U), ⟨n, u, U, rfl, rfl, h1, h2⟩, fun rec => if_pos (Int32.le_refl _)⟩
theorem wk_sum {a : Nat → Nat} {k : Nat} (hk : k < 6) : ((smN (wk a k) 3 : Nat) : Int) = aM (wt a) (tw a) k k := by
  show ((0 + wk a k 0 + wk a k 1 + wk a k 2 : Nat) : Int) = _
  unfold wk aM
  by_cases h : 3 ≤ k
  · rw [if_pos h, if_pos h, if_pos h, if_neg (by omega), if_neg (by omega), if_neg (by omega), if_pos rfl]
    unfold co wt
    omega
  · rw [if_neg h, if_neg h, if_neg h, if_pos (by omega), if_neg (by omega), if_pos (by omega), if_pos rfl]
    unfold ro wt
    omega
theorem smN_wk {a : Nat → Nat} (hV : Valid a) {k : Nat} (hk : k < 6) : smN (wk a k) 3 ≤ 12 := by
  have h0 := wk_le hV hk (m := 0) (by omega)
  have h1 := wk_le hV hk (m := 1) (by omega)
  have h2 := wk_le hV hk (m := 2) (by omega)
  show 0 + wk a k 0 + wk a k 1 + wk a k 2 ≤ 12
  omega
theorem r_cell {mo : Mo} {a : Nat → Nat} (hV : Valid a) (hF : RF (Mo_now mo) a) {i j : Nat} (hi : i < 6) (hj : j < 6) : (if nI i = nI j then (fX6_sumOfWeights mo (nI i)).bind fun v15 => some (Int32.toInt64 v15)
    else (if nI 3 ≤ nI i then (if nI i ≤ nI 2 then some (0 : Int64) else (if nI 3 ≤ nI j then some (0 : Int64) else (fX6_joins mo (nI j) (nI i)).bind fun v9 => some (Int32.toInt64 v9)))
    else (if nI j ≤ nI 2 then (if nI i ≤ nI 2 then some (0 : Int64) else (if nI 3 ≤ nI j then some (0 : Int64) else (fX6_joins mo (nI j) (nI i)).bind fun v13 => some (Int32.toInt64 v13)))
    else (fX6_joins mo (nI i) (nI j)).bind fun v14 => some (Int32.toInt64 v14)))) = some (Int64.ofInt (aM (wt a) (tw a) i j)) := by
  by_cases e : i = j
  · subst e
    have h12 := smN_wk hV hi
    rw [if_pos rfl, r_sumOfWeights hV hF hi, Option.bind_some, wide_nI (by omega), wk_sum hi]
  · rw [if_neg (by rw [nI_eq (by omega) (by omega)]; exact e)]
    by_cases h : 3 ≤ i
    · rw [if_pos (nI_le h (by omega)), if_neg (nI_ge (by omega) (by omega))]
      obtain ⟨i', rfl⟩ : ∃ i', i = 3 + i' := ⟨i - 3, by omega⟩
      by_cases h2 : 3 ≤ j
      · rw [if_pos (nI_le h2 (by omega))]
        unfold aM
        rw [if_neg (by omega), if_neg (by omega), if_neg (by omega), if_neg e]
        rfl
      · have h4 := hV.wt (k := 3 * j + i') (by omega)
        rw [if_neg (nI_ge (by omega) (by omega)), r_joins hV hF (by omega) (by omega), Option.bind_some, wide_nI (by omega)]
        unfold aM
        rw [if_neg (by omega), if_neg (by omega), if_pos (by omega), Nat.add_sub_cancel_left]
        rfl
    · rw [if_neg (nI_ge (by omega) (by omega))]
      by_cases h2 : 3 ≤ j
      · obtain ⟨j', rfl⟩ : ∃ j', j = 3 + j' := ⟨j - 3, by omega⟩
        have h4 := hV.wt (k := 3 * i + j') (by omega)
        rw [if_neg (nI_ge (by omega) (by omega)), r_joins hV hF (by omega) (by omega), Option.bind_some, wide_nI (by omega)]
        unfold aM
        rw [if_pos (by omega), if_neg (by omega), if_neg (by omega), Nat.add_sub_cancel_left]
        rfl
      · rw [if_pos (nI_le (by omega) (by omega)), if_pos (nI_le (by omega) (by omega))]
        unfold aM
        rw [if_pos (by omega), if_neg (by omega), if_pos (by omega), if_neg e]
        rfl
def siN (f : Nat → Int) : Nat → Int
  | 0 => 0
  | n + 1 => siN f n + f n
def wS (a : Nat → Nat) (k m : Nat) : Int := if 3 ≤ k then wt a m (k - 3) * tw a m (k - 3) else wt a k m * tw a k m
theorem r_wanted1 {mo : Mo} {a : Nat → Nat} (hV : Valid a) (hF : RF (Mo_now mo) a) {i j : Nat} (hi : i < 3) (hj : j < 3) : (if nI (a (51 + (3 * i + j))) ≤ nI 0 then some (0 : Int64) else (rdI (Mo_now mo) 63 (nI 62)).bind fun v7 => (fX6_bare mo (nI i) (nI (3 + j) - nI 3)).bind fun v8 => some (Int32.toInt64 (nI (a (51 + (3 * i + j))) * (v7 - v8)))) = some (Int64.ofInt (wt a i j * tw a i j)) := by
  have h4 := hV.wt (k := 3 * i + j) (by omega)
  have hH := HW_N hV i j hi hj
  have hb := wt_b hH.1 hH.2
  by_cases h : a (51 + (3 * i + j)) = 0
  · rw [if_pos (nI_le (by omega) (by omega))]
    unfold wt
    rw [h]
    show _ = some (Int64.ofInt (0 * _))
    rw [Int.zero_mul]
    rfl
  · rw [if_neg (nI_ge (by omega) (by omega)), rdI_n (by omega) (by omega), Option.bind_some, pk_sub (by omega), Nat.add_sub_cancel_left, r_bare hV hF hi hj, Option.bind_some, hF 62 (by omega), nI_subI, nI_ofI (a (51 + (3 * i + j))), ← Int32.ofInt_mul]
    show some (Int32.toInt64 (Int32.ofInt (wt a i j * tw a i j))) = _
    rw [wide_ofI (by omega) (by omega)]
theorem r_wanted {mo : Mo} {a : Nat → Nat} (hV : Valid a) (hF : RF (Mo_now mo) a) {k : Nat} (hk : k < 6) : fX6_wantedOf mo (nI k) = some (Int64.ofInt (aM (wt a) (tw a) k 6)) := by
  have h : lp (gX6_wantedOf_5 mo (nI k)) 1000 (0, 0) = some (Int64.ofInt (siN (wS a k) 3), nI 3) := by
    refine lp_k (fun i => (Int64.ofInt (siN (wS a k) i), nI i)) 3 (by omega) ?_ ?_
    · intro m hm rec
      show (if nI 3 ≤ nI m then _ else (fX6_joins mo (if nI 3 ≤ nI k then nI m else nI k) (if nI 3 ≤ nI k then nI k else nI 3 + nI m)).bind fun v4 => (if v4 ≤ nI 0 then some (0 : Int64) else (rdI (Mo_now mo) 63 (nI 62)).bind fun v7 => (fX6_bare mo (if nI 3 ≤ nI k then nI m else nI k) ((if nI 3 ≤ nI k then nI k else nI 3 + nI m) - nI 3)).bind fun v8 => some (Int32.toInt64 (v4 * (v7 - v8)))).bind fun v5 => rec (Int64.ofInt (siN (wS a k) m) + v5, nI m + 1)) = rec (Int64.ofInt (siN (wS a k) m + wS a k m), _)
      rw [if_neg (nI_ge hm (by omega)), nI_1]
      unfold wS
      by_cases h3 : 3 ≤ k
      · obtain ⟨j, rfl⟩ : ∃ j, k = 3 + j := ⟨k - 3, by omega⟩
        rw [if_pos (nI_le h3 (by omega)), if_pos (nI_le h3 (by omega)), if_pos h3, r_joins hV hF hm (by omega), Option.bind_some, r_wanted1 hV hF hm (by omega), Option.bind_some, jI_add, Nat.add_sub_cancel_left]
      · rw [if_neg (nI_ge (by omega) (by omega)), if_neg (nI_ge (by omega) (by omega)), if_neg h3, nI_add, r_joins hV hF (by omega) hm, Option.bind_some, r_wanted1 hV hF (by omega) hm, Option.bind_some, jI_add]
    · intro rec
      exact if_pos (Int32.le_refl _)
  unfold fX6_wantedOf
  rw [h, Option.bind_some]
  show some (Int64.ofInt (0 + wS a k 0 + wS a k 1 + wS a k 2)) = _
  unfold wS aM
  by_cases h3 : 3 ≤ k
  · rw [if_pos h3, if_pos h3, if_pos h3, if_neg (by omega), if_pos rfl, Int.zero_add]
    rfl
  · rw [if_neg h3, if_neg h3, if_neg h3, if_pos (by omega), if_pos rfl, Int.zero_add]
    rfl
theorem r_eq1 {o : Mo} {a : Nat → Nat} (hV : Valid a) (hF : RF (Mo_now o) a) {n p : Nat} {u : Nat → Nat} (hn : n ≤ 6) (hp : p < n) (hu : ∀ p, p < n → u p < 6) (hU : ∀ p, p < n → Mo_unk o p = nI (u p)) (C : Nat → Int64) : ∃ (s : Int32 × Mo), lp (gX6_layEquations_44 (nI n) (nI p)) 1000 (0, Mo_set_cells o C) = some s ∧ ∃ C', s.2 = Mo_set_cells o C' ∧ (∀ q, q < n → C' (7 * p + q) = Int64.ofInt (aM (wt a) (tw a) (u p) (u q))) ∧ ∀ x, x < 7 * p → C' x = C x := by
  refine lp_J (σ := Int32 × Mo) (ρ := Int32 × Mo) (fun q s => ∃ C', s = (nI q, Mo_set_cells o C') ∧ (∀ q', q' < q → C' (7 * p + q') = Int64.ofInt (aM (wt a) (tw a) (u p) (u q'))) ∧ ∀ x, x < 7 * p → C' x = C x) n _ (by omega) ⟨C, rfl, fun q hq => by omega, fun x hx => rfl⟩ ?_ ?_
  · rintro q s hq ⟨C', rfl, h1, h2⟩
    refine ⟨(nI (q + 1), Mo_set_cells o (vp_updL C' (7 * p + q) (Int64.ofInt (aM (wt a) (tw a) (u p) (u q))))), ⟨vp_updL C' (7 * p + q) (Int64.ofInt (aM (wt a) (tw a) (u p) (u q))), rfl, fun q' hq' => ?_, fun x hx => ?_⟩, fun rec => ?_⟩
    · unfold vp_updL
      by_cases e : q' = q
      · rw [if_pos (by omega), e]
      · rw [if_neg (by omega)]; exact h1 q' (by omega)
    · unfold vp_updL
      rw [if_neg (by omega)]; exact h2 x hx
    · have hc := r_cell (mo := Mo_set_cells o C') hV hF (hu p hp) (hu q hq)
      show (if nI n ≤ nI q then _ else (rdI (Mo_unk o) 6 (nI p)).bind fun v2 => (rdI (Mo_unk o) 6 (nI q)).bind fun v3 => (if v2 = v3 then (fX6_sumOfWeights (Mo_set_cells o C') v2).bind fun v15 => some (Int32.toInt64 v15)
          else (if nI 3 ≤ v2 then (if v2 ≤ nI 2 then some (0 : Int64) else (if nI 3 ≤ v3 then some (0 : Int64) else (fX6_joins (Mo_set_cells o C') v3 v2).bind fun v9 => some (Int32.toInt64 v9)))
          else (if v3 ≤ nI 2 then (if v2 ≤ nI 2 then some (0 : Int64) else (if nI 3 ≤ v3 then some (0 : Int64) else (fX6_joins (Mo_set_cells o C') v3 v2).bind fun v13 => some (Int32.toInt64 v13)))
          else (fX6_joins (Mo_set_cells o C') v2 v3).bind fun v14 => some (Int32.toInt64 v14)))).bind fun v4 => (wrJ C' 42 (nI 7 * nI p + nI q) v4).bind fun v16 => rec (nI q + 1, Mo_set_cells o v16)) = _
      rw [if_neg (nI_ge hq (by omega)), rdI_n (by omega) (by omega), Option.bind_some, rdI_n (by omega) (by omega), Option.bind_some, hU p hp, hU q hq, hc, Option.bind_some, nI_mul, nI_add, wrJ_n (by omega) (by omega), Option.bind_some, nI_1]
  · rintro s ⟨C', rfl, h⟩
    exact ⟨(nI n, Mo_set_cells o C'), ⟨C', rfl, h⟩, fun rec => if_pos (Int32.le_refl _)⟩
theorem r_eq2 {o : Mo} {a : Nat → Nat} (hV : Valid a) (hF : RF (Mo_now o) a) {n : Nat} {u : Nat → Nat} (hn : n ≤ 6) (hu : ∀ p, p < n → u p < 6) (hU : ∀ p, p < n → Mo_unk o p = nI (u p)) : ∃ (s : Int32 × Mo), lp (gX6_layEquations_37 (nI n)) 1000 (0, o) = some s ∧ ∃ C', s.2 = Mo_set_cells o C' ∧ ∀ p, p < n → (∀ q, q < n → C' (7 * p + q) = Int64.ofInt (aM (wt a) (tw a) (u p) (u q))) ∧ C' (7 * p + 6) = Int64.ofInt (aM (wt a) (tw a) (u p) 6) := by
  refine lp_J (σ := Int32 × Mo) (ρ := Int32 × Mo) (fun p s => ∃ C', s = (nI p, Mo_set_cells o C') ∧ ∀ p', p' < p → (∀ q, q < n → C' (7 * p' + q) = Int64.ofInt (aM (wt a) (tw a) (u p') (u q))) ∧ C' (7 * p' + 6) = Int64.ofInt (aM (wt a) (tw a) (u p') 6)) n _ (by omega) ⟨Mo_cells o, rfl, fun p hp => by omega⟩ ?_ ?_
  · rintro p s hp ⟨C, rfl, h⟩
    obtain ⟨s', f1, C', f2, f3, f4⟩ := r_eq1 hV hF hn hp hu hU C
    refine ⟨(nI (p + 1), Mo_set_cells o (vp_updL C' (7 * p + 6) (Int64.ofInt (aM (wt a) (tw a) (u p) 6)))), ⟨vp_updL C' (7 * p + 6) (Int64.ofInt (aM (wt a) (tw a) (u p) 6)), rfl, fun p' hp' => ?_⟩, fun rec => ?_⟩
    · by_cases e : p' = p
      · subst e
        refine ⟨fun q hq => ?_, pk_uLs⟩
        rw [pk_uLn (by omega)]; exact f3 q hq
      · refine ⟨fun q hq => ?_, ?_⟩
        · rw [pk_uLn (by omega), f4 _ (by omega)]; exact (h p' (by omega)).1 q hq
        · rw [pk_uLn (by omega), f4 _ (by omega)]; exact (h p' (by omega)).2
    · show (if nI n ≤ nI p then _ else (lp (gX6_layEquations_44 (nI n) (nI p)) 1000 (0, Mo_set_cells o C)).bind fun v2 => (rdI (Mo_unk v2.2) 6 (nI p)).bind fun v3 => (fX6_wantedOf v2.2 v3).bind fun v4 => (wrJ (Mo_cells v2.2) 42 (nI 7 * nI p + nI 6) v4).bind fun v5 => rec (nI p + 1, Mo_set_cells v2.2 v5)) = _
      rw [if_neg (nI_ge hp (by omega)), f1, Option.bind_some, f2, rdI_n (by omega) (by omega), Option.bind_some]
      show (fX6_wantedOf (Mo_set_cells o C') (Mo_unk o p)).bind (fun v4 => (wrJ C' 42 (nI 7 * nI p + nI 6) v4).bind fun v5 => rec (nI p + 1, Mo_set_cells o v5)) = _
      rw [hU p hp, r_wanted (mo := Mo_set_cells o C') hV hF (hu p hp), Option.bind_some, nI_mul, nI_add, wrJ_n (by omega) (by omega), Option.bind_some, nI_1]
  · rintro s ⟨C', rfl, h⟩
    exact ⟨(nI n, Mo_set_cells o C'), ⟨C', rfl, h⟩, fun rec => if_pos (Int32.le_refl _)⟩
theorem r_layEquations {o : Mo} {a : Nat → Nat} (hV : Valid a) (hF : RF (Mo_now o) a) (hO : ∀ k, k < 6 → Mo_isOpn o k = opZ (wt a) k) : ∃ n u U C, fX6_layEquations o = some (nI n, Mo_set_cells (Mo_set_unk o U) C) ∧ UL (wt a) 6 n u ∧ (∀ p, p < n → U p = nI (u p)) ∧ ∀ p, p < n → (∀ q, q < n → C (7 * p + q) = Int64.ofInt (aM (wt a) (tw a) (u p) (u q))) ∧ C (7 * p + 6) = Int64.ofInt (aM (wt a) (tw a) (u p) 6) := by
  obtain ⟨s, e1, n, u, U, e2, e3, e4, e5⟩ := r_unk hO
  obtain ⟨s2, f1, C, f2, f3⟩ := r_eq2 (o := Mo_set_unk o U) hV hF e4.1 (fun p hp => (e4.2.1 p hp).1) e5
  refine ⟨n, u, U, C, ?_, e4, e5, f3⟩
  unfold fX6_layEquations
  rw [e1, Option.bind_some, e3, e2, f1, Option.bind_some, f2]
