/-! ===== LAYER 2: the reference lays its groups ===== -/
def thr (a : Nat → Nat) (k : Nat) : Int32 := if k % 3 < a 60 then 1 else 0
theorem r_isThere {mo : Mo} {a : Nat → Nat} (hV : Valid a) (hF : RF (Mo_now mo) a) {k : Nat} (hk : k < 6) : fX6_isThere mo (nI k) = some (thr a k) := by
  have hN := hV.1
  unfold fX6_isThere
  rw [show (60 : Int32) = nI 60 from rfl, rdI_n (by omega) (by omega), Option.bind_some, hF 60 (by omega), show (3 : Int32) = nI 3 from rfl, pk_rem (by omega) (by omega) (by omega)]
  unfold thr
  by_cases h : k % 3 < a 60
  · rw [if_neg (nI_ge h (by omega)), if_pos h]; exact ckZ_01 (Or.inr rfl)
  · rw [if_pos (nI_le (by omega) (by omega)), if_neg h]; exact ckZ_01 (Or.inl rfl)
theorem r_joins {mo : Mo} {a : Nat → Nat} (hV : Valid a) (hF : RF (Mo_now mo) a) {i j : Nat} (hi : i < 3) (hj : j < 3) : fX6_joins mo (nI i) (nI (3 + j)) = some (nI (a (51 + (3 * i + j)))) := by
  have hw := hV.2.2.2.2.2.2 i j hi hj
  unfold fX6_joins
  rw [r_isThere hV hF (by omega), Option.bind_some]
  unfold thr
  by_cases h1 : i % 3 < a 60
  · rw [if_pos h1, if_neg (by decide), r_isThere hV hF (by omega), Option.bind_some]
    unfold thr
    by_cases h2 : (3 + j) % 3 < a 60
    · rw [if_pos h2, if_neg (by decide), show (3 : Int32) = nI 3 from rfl, pk_sub (by omega), Nat.add_sub_cancel_left, r_weightOf mo hi hj, Option.bind_some, Option.bind_some, hF _ (by omega)]
    · rw [if_neg h2, if_pos rfl, Option.bind_some, hw (by omega)]; rfl
  · rw [if_neg h1, if_pos rfl, Option.bind_some, hw (Or.inl (by omega))]; rfl
/-- the weights of a space, one behind the other -/
def wk (a : Nat → Nat) (k m : Nat) : Nat := if 3 ≤ k then a (51 + (3 * m + (k - 3))) else a (51 + (3 * k + m))
theorem wk_le {a : Nat → Nat} (hV : Valid a) {k m : Nat} (hk : k < 6) (hm : m < 3) : wk a k m ≤ 4 := by
  unfold wk
  split
  · exact hV.wt (by omega)
  · exact hV.wt (by omega)
theorem r_jw {mo : Mo} {a : Nat → Nat} (hV : Valid a) (hF : RF (Mo_now mo) a) {k m : Nat} (hk : k < 6) (hm : m < 3) : (if nI 3 ≤ nI k then (fX6_joins mo (nI m) (nI k)).bind fun v => some v else (fX6_joins mo (nI k) (nI 3 + nI m)).bind fun v => some v) = some (nI (wk a k m)) := by
  unfold wk
  by_cases h : 3 ≤ k
  · rw [if_pos (nI_le h (by omega)), if_pos h]
    obtain ⟨j, rfl⟩ : ∃ j, k = 3 + j := ⟨k - 3, by omega⟩
    rw [r_joins hV hF hm (by omega), Option.bind_some, Nat.add_sub_cancel_left]
  · rw [if_neg (nI_ge (by omega) (by omega)), if_neg h, nI_add, r_joins hV hF (by omega) hm, Option.bind_some]
theorem r_sumOfWeights {mo : Mo} {a : Nat → Nat} (hV : Valid a) (hF : RF (Mo_now mo) a) {k : Nat} (hk : k < 6) : fX6_sumOfWeights mo (nI k) = some (nI (smN (wk a k) 3)) := by
  have h : lp (gX6_sumOfWeights_4 mo (nI k)) 1000 (0, 0) = some (nI (smN (wk a k) 3), nI 3) := by
    refine lp_k (fun i => (nI (smN (wk a k) i), nI i)) 3 (by omega) ?_ ?_
    · intro i hi rec
      show (if nI 3 ≤ nI i then _ else (if nI 3 ≤ nI k then (fX6_joins mo (nI i) (nI k)).bind fun v => some v else (fX6_joins mo (nI k) (nI 3 + nI i)).bind fun v => some v).bind fun v2 => rec (nI (smN (wk a k) i) + v2, nI i + 1)) = _
      rw [if_neg (nI_ge hi (by omega)), r_jw hV hF hk hi, Option.bind_some, nI_add, nI_1]
      rfl
    · intro rec
      exact if_pos (Int32.le_refl _)
  unfold fX6_sumOfWeights
  rw [h]
  rfl
def jdI (n : Nat) : Int32 := if n = 0 then 0 else 1
theorem r_isJoined {mo : Mo} {a : Nat → Nat} (hV : Valid a) (hF : RF (Mo_now mo) a) {k : Nat} (hk : k < 6) : fX6_isJoined mo (nI k) = some (jdI (smN (wk a k) 3)) := by
  have h : lp (gX6_isJoined_4 mo (nI k)) 1000 (0, 0) = some (jdI (smN (wk a k) 3), nI 3) := by
    refine lp_k (fun i => (jdI (smN (wk a k) i), nI i)) 3 (by omega) ?_ ?_
    · intro i hi rec
      have h4 := wk_le hV hk hi
      show (if nI 3 ≤ nI i then _ else ((if jdI (smN (wk a k) i) = (0 : Int32) then (if nI 3 ≤ nI k then (fX6_joins mo (nI i) (nI k)).bind fun v => some v else (fX6_joins mo (nI k) (nI 3 + nI i)).bind fun v => some v).bind fun v4 => (if v4 ≤ nI 0 then some (0 : Int32) else some (1 : Int32)) else some (1 : Int32))).bind fun v2 => rec (v2, nI i + 1)) = rec (jdI (smN (wk a k) i + wk a k i), _)
      rw [if_neg (nI_ge hi (by omega)), nI_1]
      unfold jdI
      by_cases h0 : smN (wk a k) i = 0
      · rw [if_pos h0, if_pos rfl, r_jw hV hF hk hi, Option.bind_some]
        by_cases h1 : wk a k i = 0
        · rw [if_pos (nI_le (by omega) (by omega)), Option.bind_some, if_pos (by omega)]
        · rw [if_neg (nI_ge (by omega) (by omega)), Option.bind_some, if_neg (by omega)]
      · rw [if_neg h0, if_neg (by decide), Option.bind_some, if_neg (by omega)]
    · intro rec
      exact if_pos (Int32.le_refl _)
  unfold fX6_isJoined
  rw [h]
  refine ckZ_01 ?_
  unfold jdI
  split
  · exact Or.inl rfl
  · exact Or.inr rfl
def pB (a : Nat → Nat) (q : Nat) : Bool := decide (0 < a (51 + q))
theorem gS_ok (p : Nat → Bool) : ∀ n, (gS p n).length = 6 ∧ ∀ k, (gS p n).getD k 0 < 6
  | 0 => ⟨rfl, fun k => by
      by_cases h : k < 6
      · have e : k = 0 ∨ k = 1 ∨ k = 2 ∨ k = 3 ∨ k = 4 ∨ k = 5 := by omega
        rcases e with rfl | rfl | rfl | rfl | rfl | rfl <;> (show [0, 1, 2, 3, 4, 5].getD _ 0 < 6; decide)
      · rw [List.getD_eq_getElem?_getD, List.getElem?_eq_none (by show 6 ≤ k; omega)]; decide⟩
  | n + 1 => by
    obtain ⟨h1, h2⟩ := gS_ok p n
    show (gStep p (gS p n) (n % 9)).length = 6 ∧ ∀ k, (gStep p (gS p n) (n % 9)).getD k 0 < 6
    unfold gStep
    split
    · refine ⟨by rw [List.length_set, List.length_set, h1], fun k => ?_⟩
      have h3 := h2 (n % 9 / 3)
      have h4 := h2 k
      rw [List.getD_eq_getElem?_getD, List.getElem?_set, List.getElem?_set]
      rw [List.getD_eq_getElem?_getD] at h4
      split
      · split
        · show min _ _ < 6
          omega
        · decide
      · split
        · split
          · show min _ _ < 6
            omega
          · decide
        · exact h4
    · exact ⟨h1, h2⟩
theorem gStep_at {p : Nat → Bool} {g : List Nat} (hg : g.length = 6) {q : Nat} (hq : q < 9) {k : Nat} (hk : k < 6) : (gStep p g q).getD k 0 = if p q = true then (if k = 3 + q % 3 ∨ k = q / 3 then min (g.getD (q / 3) 0) (g.getD (3 + q % 3) 0) else g.getD k 0) else g.getD k 0 := by
  unfold gStep
  split
  · rw [List.getD_eq_getElem?_getD, List.getElem?_set, List.getElem?_set, List.length_set, hg]
    by_cases h1 : k = 3 + q % 3
    · rw [if_pos h1.symm, if_pos (by omega), if_pos (Or.inl h1)]; rfl
    · rw [if_neg (fun q => h1 q.symm)]
      by_cases h2 : k = q / 3
      · rw [if_pos h2.symm, if_pos (by omega), if_pos (Or.inr h2)]; rfl
      · rw [if_neg (fun q => h2 q.symm), if_neg (by omega), List.getD_eq_getElem?_getD]
  · rfl
theorem r_grp1 {mo : Mo} {a : Nat → Nat} (hV : Valid a) (hF : RF (Mo_now mo) a) {r : Nat} {x : Int32} {G : Nat → Int32} (hG : ∀ k, k < 6 → G k = nI ((gS (pB a) (9 * r)).getD k 0)) : ∃ s, lp (gX6_layGroups_31 x) 1000 (0, Mo_set_grp mo G) = some s ∧ ∃ G', s.2 = Mo_set_grp mo G' ∧ ∀ k, k < 6 → G' k = nI ((gS (pB a) (9 * (r + 1))).getD k 0) := by
  refine lp_J (σ := Int32 × Mo) (ρ := Int32 × Mo) (fun q s => ∃ G', s = (nI q, Mo_set_grp mo G') ∧ ∀ k, k < 6 → G' k = nI ((gS (pB a) (9 * r + q)).getD k 0)) 9 _ (by omega) ⟨G, rfl, hG⟩ ?_ ?_
  · rintro q s hq ⟨G', rfl, h⟩
    obtain ⟨g1, g2⟩ := gS_ok (pB a) (9 * r + q)
    have hF' : RF (Mo_now (Mo_set_grp mo G')) a := hF
    have hj := r_joins hV hF' (i := q / 3) (j := q % 3) (by omega) (by omega)
    have b1 := g2 (q / 3)
    have b2 := g2 (3 + q % 3)
    have hw : a (51 + (3 * (q / 3) + q % 3)) = a (51 + q) := by congr 2; omega
    have h4 := hV.wt (k := q) hq
    rw [hw] at hj
    have hstep : ∀ k, k < 6 → (gS (pB a) (9 * r + (q + 1))).getD k 0 = (gStep (pB a) (gS (pB a) (9 * r + q)) q).getD k 0 := fun k hk => by
      show (gStep (pB a) (gS (pB a) (9 * r + q)) ((9 * r + q) % 9)).getD k 0 = _
      rw [show (9 * r + q) % 9 = q from by omega]
    let m : Int32 := if (if nI (a (51 + q)) ≤ nI 0 then (0 : Int32) else 1) = 0 then G' (q / 3) else nI (min ((gS (pB a) (9 * r + q)).getD (q / 3) 0) ((gS (pB a) (9 * r + q)).getD (3 + q % 3) 0))
    let m2 : Int32 := if (if nI (a (51 + q)) ≤ nI 0 then (0 : Int32) else 1) = 0 then upd G' (q / 3) m (3 + q % 3) else nI (min ((gS (pB a) (9 * r + q)).getD (q / 3) 0) ((gS (pB a) (9 * r + q)).getD (3 + q % 3) 0))
    refine ⟨(nI (q + 1), Mo_set_grp mo (upd (upd G' (q / 3) m) (3 + q % 3) m2)), ⟨upd (upd G' (q / 3) m) (3 + q % 3) m2, rfl, fun k hk => ?_⟩, fun rec => ?_⟩
    · rw [hstep k hk, gStep_at g1 hq hk]
      unfold upd
      by_cases hp : 0 < a (51 + q)
      · have e1 : m = nI (min ((gS (pB a) (9 * r + q)).getD (q / 3) 0) ((gS (pB a) (9 * r + q)).getD (3 + q % 3) 0)) := by
          show (if (if nI (a (51 + q)) ≤ nI 0 then (0 : Int32) else 1) = 0 then _ else _) = _
          rw [if_neg (nI_ge hp (by omega)), if_neg (by decide)]
        have e2 : m2 = nI (min ((gS (pB a) (9 * r + q)).getD (q / 3) 0) ((gS (pB a) (9 * r + q)).getD (3 + q % 3) 0)) := by
          show (if (if nI (a (51 + q)) ≤ nI 0 then (0 : Int32) else 1) = 0 then _ else _) = _
          rw [if_neg (nI_ge hp (by omega)), if_neg (by decide)]
        rw [if_pos (show pB a q = true from decide_eq_true hp), e1, e2]
        by_cases h1 : k = 3 + q % 3
        · rw [if_pos h1, if_pos (Or.inl h1)]
        · by_cases h2 : k = q / 3
          · rw [if_neg h1, if_pos h2, if_pos (Or.inr h2)]
          · rw [if_neg h1, if_neg h2, if_neg (by omega), h k hk]
      · have e1 : m = G' (q / 3) := by
          show (if (if nI (a (51 + q)) ≤ nI 0 then (0 : Int32) else 1) = 0 then _ else _) = _
          rw [if_pos (nI_le (by omega) (by omega)), if_pos rfl]
        have e2 : m2 = G' (3 + q % 3) := by
          show (if (if nI (a (51 + q)) ≤ nI 0 then (0 : Int32) else 1) = 0 then _ else _) = _
          rw [if_pos (nI_le (by omega) (by omega)), if_pos rfl, pk_un (by omega)]
        rw [if_neg (show ¬ pB a q = true from by unfold pB; rw [decide_eq_true_eq]; exact hp), e1, e2]
        by_cases h1 : k = 3 + q % 3
        · rw [if_pos h1, ← h1, h k hk]
        · by_cases h2 : k = q / 3
          · rw [if_neg h1, if_pos h2, ← h2, h k hk]
          · rw [if_neg h1, if_neg h2, h k hk]
    · show (if nI 9 ≤ nI q then _ else (rdI G' 6 (nI q / nI 3)).bind fun v2 => (rdI G' 6 (nI 3 + (nI q - nI q / nI 3 * nI 3))).bind fun v3 => ((if v3 ≤ v2 then (rdI G' 6 (nI 3 + (nI q - nI q / nI 3 * nI 3))).bind fun v6 => some v6 else (rdI G' 6 (nI q / nI 3)).bind fun v7 => some v7)).bind fun v4 => (fX6_joins (Mo_set_grp mo G') (nI q / nI 3) (nI 3 + (nI q - nI q / nI 3 * nI 3))).bind fun v8 => ((if (if v8 ≤ nI 0 then (0 : Int32) else (1 : Int32)) = 0 then (rdI G' 6 (nI q / nI 3)).bind fun v12 => some v12 else some v4)).bind fun v10 => (wrI G' 6 (nI q / nI 3) v10).bind fun v13 => ((if (if v8 ≤ nI 0 then (0 : Int32) else (1 : Int32)) = 0 then (rdI v13 6 (nI 3 + (nI q - nI q / nI 3 * nI 3))).bind fun v16 => some v16 else some v4)).bind fun v14 => (wrI v13 6 (nI 3 + (nI q - nI q / nI 3 * nI 3)) v14).bind fun v17 => rec (nI q + 1, Mo_set_grp mo v17)) = _
      have ev4 : (if G' (3 + q % 3) ≤ G' (q / 3) then some (G' (3 + q % 3)) else some (G' (q / 3))) = some (nI (min ((gS (pB a) (9 * r + q)).getD (q / 3) 0) ((gS (pB a) (9 * r + q)).getD (3 + q % 3) 0))) := by
        rw [h _ (by omega), h _ (by omega)]
        by_cases hh : (gS (pB a) (9 * r + q)).getD (3 + q % 3) 0 ≤ (gS (pB a) (9 * r + q)).getD (q / 3) 0
        · rw [if_pos (nI_le hh (by omega)), Nat.min_eq_right hh]
        · rw [if_neg (nI_ge (by omega) (by omega)), Nat.min_eq_left (by omega)]
      rw [if_neg (nI_ge hq (by omega)), pk_rem (by omega) (by omega) (by omega), pk_div (by omega) (by omega) (by omega), nI_add, rdI_n (by omega) (by omega), Option.bind_some, rdI_n (by omega) (by omega), Option.bind_some, Option.bind_some, Option.bind_some, ev4, Option.bind_some, hj, Option.bind_some]
      have e10 : (if (if nI (a (51 + q)) ≤ nI 0 then (0 : Int32) else 1) = 0 then some (G' (q / 3)) else some (nI (min ((gS (pB a) (9 * r + q)).getD (q / 3) 0) ((gS (pB a) (9 * r + q)).getD (3 + q % 3) 0)))) = some m := by
        show _ = some (if (if nI (a (51 + q)) ≤ nI 0 then (0 : Int32) else 1) = 0 then _ else _)
        split <;> rfl
      rw [e10, Option.bind_some, wrI_n (by omega) (by omega), Option.bind_some, rdI_n (by omega) (by omega), Option.bind_some]
      have e14 : (if (if nI (a (51 + q)) ≤ nI 0 then (0 : Int32) else 1) = 0 then some (upd G' (q / 3) m (3 + q % 3)) else some (nI (min ((gS (pB a) (9 * r + q)).getD (q / 3) 0) ((gS (pB a) (9 * r + q)).getD (3 + q % 3) 0)))) = some m2 := by
        show _ = some (if (if nI (a (51 + q)) ≤ nI 0 then (0 : Int32) else 1) = 0 then _ else _)
        split <;> rfl
      rw [e14, Option.bind_some, wrI_n (by omega) (by omega), Option.bind_some, nI_1]
  · rintro s ⟨G', rfl, h⟩
    exact ⟨(nI 9, Mo_set_grp mo G'), ⟨G', rfl, h⟩, fun rec => if_pos (Int32.le_refl _)⟩
theorem r_layGroups {mo : Mo} {a : Nat → Nat} (hV : Valid a) (hF : RF (Mo_now mo) a) : ∃ G, fX6_layGroups mo = some (Mo_set_grp mo G) ∧ ∀ k, k < 6 → G k = nI ((gS (pB a) 54).getD k 0) := by
  have h1 : ∃ s, lp gX6_layGroups_2 1000 (0, mo) = some s ∧ ∃ G, s.2 = Mo_set_grp mo G ∧ ∀ k, k < 6 → G k = nI k := by
    refine lp_J (σ := Int32 × Mo) (ρ := Int32 × Mo) (fun i s => ∃ G, s = (nI i, Mo_set_grp mo G) ∧ ∀ k, k < i → G k = nI k) 6 _ (by omega) ⟨Mo_grp mo, rfl, fun k hk => by omega⟩ ?_ ?_
    · rintro i s hi ⟨G, rfl, h⟩
      refine ⟨(nI (i + 1), Mo_set_grp mo (upd G i (nI i))), ⟨upd G i (nI i), rfl, fun k hk => ?_⟩, fun rec => ?_⟩
      · unfold upd
        by_cases q : k = i
        · rw [if_pos q, q]
        · rw [if_neg q]; exact h k (by omega)
      · show (if nI 6 ≤ nI i then _ else (wrI G 6 (nI i) (nI i)).bind fun v2 => rec (nI i + 1, Mo_set_grp mo v2)) = _
        rw [if_neg (nI_ge hi (by omega)), wrI_n (by omega) (by omega), Option.bind_some, nI_1]
    · rintro s ⟨G, rfl, h⟩
      exact ⟨(nI 6, Mo_set_grp mo G), ⟨G, rfl, h⟩, fun rec => if_pos (Int32.le_refl _)⟩
  obtain ⟨s, e1, G, e2, e3⟩ := h1
  have h2 : ∃ s, lp gX6_layGroups_23 1000 (0, Mo_set_grp mo G) = some s ∧ ∃ G, s.2 = Mo_set_grp mo G ∧ ∀ k, k < 6 → G k = nI ((gS (pB a) 54).getD k 0) := by
    refine lp_J (σ := Int32 × Mo) (ρ := Int32 × Mo) (fun r s => ∃ G, s = (nI r, Mo_set_grp mo G) ∧ ∀ k, k < 6 → G k = nI ((gS (pB a) (9 * r)).getD k 0)) 6 _ (by omega) ⟨G, rfl, fun k hk => ?_⟩ ?_ ?_
    · rw [e3 k hk]
      have e : k = 0 ∨ k = 1 ∨ k = 2 ∨ k = 3 ∨ k = 4 ∨ k = 5 := by omega
      rcases e with rfl | rfl | rfl | rfl | rfl | rfl <;> rfl
    · rintro r s hr ⟨G, rfl, h⟩
      obtain ⟨s', f1, G', f2, f3⟩ := r_grp1 hV hF (x := nI r) h
      refine ⟨(nI (r + 1), Mo_set_grp mo G'), ⟨G', rfl, f3⟩, fun rec => ?_⟩
      show (if nI 6 ≤ nI r then _ else (lp (gX6_layGroups_31 (nI r)) 1000 (0, Mo_set_grp mo G)).bind fun v2 => rec (nI r + 1, v2.2)) = _
      rw [if_neg (nI_ge hr (by omega)), f1, Option.bind_some, f2, nI_1]
    · rintro s ⟨G, rfl, h⟩
      exact ⟨(nI 6, Mo_set_grp mo G), ⟨G, rfl, h⟩, fun rec => if_pos (Int32.le_refl _)⟩
  obtain ⟨s2, f1, G', f2, f3⟩ := h2
  refine ⟨G', ?_, f3⟩
  unfold fX6_layGroups
  rw [e1, Option.bind_some, e2, f1, Option.bind_some, f2]
