/-! ===== LAYER 2: the worst pair, pairs with weight, free spaces, lines ===== -/
noncomputable def wsP (a : Nat → Nat) (i j : Nat) (s : Int32 × Int) : Int32 × Int := if a (51 + (3 * i + j)) = 0 then s else if ((oI a i j).natAbs : Int) ≤ s.2 then s else (nI (10 * i + j), ((oI a i j).natAbs : Int))
noncomputable def ws1 (a : Nat → Nat) (i : Nat) (s : Int32 × Int) : Nat → Int32 × Int
  | 0 => s
  | j + 1 => wsP a i j (ws1 a i s j)
noncomputable def ws2 (a : Nat → Nat) : Nat → Int32 × Int
  | 0 => (-1, -1)
  | i + 1 => ws1 a i (ws2 a i) (a 60)
noncomputable def wsF (a : Nat → Nat) : Nat → Int32 × Int
  | 0 => (-1, -1)
  | q + 1 => wsP a (q / 3) (q % 3) (wsF a q)
def wsB (s : Int32 × Int) : Prop := -1 ≤ s.2 ∧ s.2 ≤ 341472000
theorem wsP_b {a : Nat → Nat} (hV : Valid a) {i j : Nat} (hi : i < 3) (hj : j < 3) {s : Int32 × Int} (h : wsB s) : wsB (wsP a i j s) := by
  have h1 := (wI_b hV hi hj).2
  unfold wsP
  split
  · exact h
  · split
    · exact h
    · exact ⟨by show (-1 : Int) ≤ ((oI a i j).natAbs : Int); omega, by show ((oI a i j).natAbs : Int) ≤ 341472000; omega⟩
theorem ws1_b {a : Nat → Nat} (hV : Valid a) {i : Nat} (hi : i < 3) {s : Int32 × Int} (h : wsB s) : ∀ {j : Nat}, j ≤ 3 → wsB (ws1 a i s j)
  | 0, _ => h
  | j + 1, hj => wsP_b hV hi (by omega) (ws1_b hV hi h (j := j) (by omega))
theorem ws2_b {a : Nat → Nat} (hV : Valid a) : ∀ {i : Nat}, i ≤ 3 → wsB (ws2 a i)
  | 0, _ => ⟨by show (-1 : Int) ≤ -1; omega, by show (-1 : Int) ≤ 341472000; omega⟩
  | i + 1, hi => ws1_b hV (by omega) (ws2_b hV (i := i) (by omega)) hV.1.2
theorem wsF_b {a : Nat → Nat} (hV : Valid a) : ∀ {q : Nat}, q ≤ 9 → wsB (wsF a q)
  | 0, _ => ⟨by show (-1 : Int) ≤ -1; omega, by show (-1 : Int) ≤ 341472000; omega⟩
  | q + 1, hq => wsP_b hV (by omega) (by omega) (wsF_b hV (q := q) (by omega))
theorem wsP_abs {a : Nat → Nat} (hV : Valid a) {i j : Nat} (hi : i < 3) (hj : j < 3) (h : a 60 ≤ i ∨ a 60 ≤ j) (s : Int32 × Int) : wsP a i j s = s := if_pos (hV.2.2.2.2.2.2 i j hi hj h)
theorem ws_flat {a : Nat → Nat} (hV : Valid a) : wsF a 9 = ws2 a (a 60) := by
  have hN := hV.1
  have z := fun i j hi hj h s => wsP_abs hV (i := i) (j := j) hi hj h s
  show wsP a 2 2 (wsP a 2 1 (wsP a 2 0 (wsP a 1 2 (wsP a 1 1 (wsP a 1 0 (wsP a 0 2 (wsP a 0 1 (wsP a 0 0 (-1, -1))))))))) = _
  have e : a 60 = 1 ∨ a 60 = 2 ∨ a 60 = 3 := by omega
  rcases e with e | e | e
  · rw [z 2 2 (by omega) (by omega) (by omega), z 2 1 (by omega) (by omega) (by omega), z 2 0 (by omega) (by omega) (by omega), z 1 2 (by omega) (by omega) (by omega), z 1 1 (by omega) (by omega) (by omega), z 1 0 (by omega) (by omega) (by omega), z 0 2 (by omega) (by omega) (by omega), z 0 1 (by omega) (by omega) (by omega), e]
    show _ = ws1 a 0 (-1, -1) (a 60)
    rw [e]
    rfl
  · rw [z 2 2 (by omega) (by omega) (by omega), z 2 1 (by omega) (by omega) (by omega), z 2 0 (by omega) (by omega) (by omega), z 1 2 (by omega) (by omega) (by omega), z 0 2 (by omega) (by omega) (by omega), e]
    show _ = ws1 a 1 (ws1 a 0 (-1, -1) (a 60)) (a 60)
    rw [e]
    rfl
  · rw [e]
    show _ = ws1 a 2 (ws1 a 1 (ws1 a 0 (-1, -1) (a 60)) (a 60)) (a 60)
    rw [e]
    rfl
theorem oJ {a : Nat → Nat} (hV : Valid a) {i j : Nat} (hi : i < 3) (hj : j < 3) : sJ (oI a i j) := by
  have h1 := (wI_b hV hi hj).2
  exact ⟨by omega, by omega⟩
theorem absO {a : Nat → Nat} (hV : Valid a) {i j : Nat} (hi : i < 3) (hj : j < 3) : (if (0 : Int64) < Int64.ofInt (oI a i j) then Int64.ofInt (oI a i j) else -Int64.ofInt (oI a i j)) = Int64.ofInt ((oI a i j).natAbs : Int) ∧ (if (0 : Int64) ≤ Int64.ofInt (oI a i j) then Int64.ofInt (oI a i j) else -Int64.ofInt (oI a i j)) = Int64.ofInt ((oI a i j).natAbs : Int) := by
  have h1 := (wI_b hV hi hj).2
  obtain ⟨h2, h3⟩ := absJ (oJ hV hi hj)
  rw [h2, h3, jI_lN (by omega)]
  exact ⟨rfl, rfl⟩
theorem c_worst {z : Fo} {a : Nat → Nat} (hV : Valid a) (hC : CF z a) {ev : Ev} (hE : EvOK ev a) : fX0_worst ev z = some (ws2 a (a 60)).1 := by
  have hN := hV.1
  have h1 : ∀ i s, i < a 60 → wsB s → lp (gX0_worst_24 ev z (nI i)) 1000 (s.1, Int64.ofInt s.2, 0) = some ((ws1 a i s (a 60)).1, Int64.ofInt (ws1 a i s (a 60)).2, nI (a 60)) := fun i s hi hs => by
    refine lp_k (fun j => ((ws1 a i s j).1, Int64.ofInt (ws1 a i s j).2, nI j)) (a 60) (by omega) ?_ ?_
    · intro j hj rec
      have hw := hV.wt (k := 3 * i + j) (by omega)
      have hb := ws1_b hV (show i < 3 by omega) hs (j := j) (by omega)
      have hb1 := hb.1
      have hb2 := hb.2
      have ho := (wI_b hV (show i < 3 by omega) (show j < 3 by omega)).2
      show (if Fo_many z ≤ nI j then _ else (fX0_leftOverAbove ev z (nI i) (nI j)).bind fun v2 => (fX1_weightOf z (nI i) (nI j)).bind fun v3 => (if v3 ≤ nI 0 then some ((ws1 a i s j).1, Int64.ofInt (ws1 a i s j).2) else (if (if (0 : Int64) < v2 then v2 else -v2) ≤ Int64.ofInt (ws1 a i s j).2 then some ((ws1 a i s j).1, Int64.ofInt (ws1 a i s j).2) else some (nI 10 * nI i + nI j, (if (0 : Int64) < v2 then v2 else -v2)))).bind fun v4 => rec (v4.1, v4.2, nI j + 1)) = rec ((wsP a i j (ws1 a i s j)).1, Int64.ofInt (wsP a i j (ws1 a i s j)).2, nI (j + 1))
      rw [hC.1, if_neg (nI_ge hj (by omega)), c_over hV hC hE hi hj, Option.bind_some, c_weightO2 hC (by omega) (by omega), Option.bind_some, nI_1, (absO hV (by omega) (by omega)).1, nI_mul, nI_add]
      unfold wsP
      by_cases e : a (51 + (3 * i + j)) = 0
      · rw [if_pos (nI_le (by omega) (by omega)), if_pos e, Option.bind_some]
      · rw [if_neg (nI_ge (by omega) (by omega)), if_neg e]
        by_cases e2 : ((oI a i j).natAbs : Int) ≤ (ws1 a i s j).2
        · rw [if_pos ((jI_le (sJ_of (by omega) (by omega)) (sJ_of (by omega) (by omega))).mpr e2), if_pos e2, Option.bind_some]
        · rw [if_neg (fun q => e2 ((jI_le (sJ_of (by omega) (by omega)) (sJ_of (by omega) (by omega))).mp q)), if_neg e2, Option.bind_some]
    · intro rec
      show (if Fo_many z ≤ nI (a 60) then _ else _) = _
      rw [hC.1, if_pos (Int32.le_refl _)]
  have h2 : lp (gX0_worst_9 ev z) 1000 (-1, -1, 0) = some ((ws2 a (a 60)).1, Int64.ofInt (ws2 a (a 60)).2, nI (a 60)) := by
    refine lp_k (fun i => ((ws2 a i).1, Int64.ofInt (ws2 a i).2, nI i)) (a 60) (by omega) ?_ ?_
    · intro i hi rec
      show (if Fo_many z ≤ nI i then _ else (lp (gX0_worst_24 ev z (nI i)) 1000 ((ws2 a i).1, Int64.ofInt (ws2 a i).2, 0)).bind fun v2 => rec (v2.1, v2.2.1, nI i + 1)) = _
      rw [hC.1, if_neg (nI_ge hi (by omega)), h1 i (ws2 a i) hi (ws2_b hV (by omega)), Option.bind_some, nI_1]
      rfl
    · intro rec
      show (if Fo_many z ≤ nI (a 60) then _ else _) = _
      rw [hC.1, if_pos (Int32.le_refl _)]
  unfold fX0_worst
  rw [h2, Option.bind_some]
theorem r_worst {mo : Mo} {a : Nat → Nat} (hV : Valid a) (hF : RF (Mo_now mo) a) (hS : Sol mo a) : fX6_worst mo = some (ws2 a (a 60)).1 := by
  have h : lp (gX6_worst_9 mo) 1000 (-1, -1, 0) = some ((wsF a 9).1, Int64.ofInt (wsF a 9).2, nI 9) := by
    refine lp_k (fun q => ((wsF a q).1, Int64.ofInt (wsF a q).2, nI q)) 9 (by omega) ?_ ?_
    · intro q hq rec
      have hw := hV.wt (k := 3 * (q / 3) + q % 3) (by omega)
      have hb := wsF_b hV (q := q) (by omega)
      have hb1 := hb.1
      have hb2 := hb.2
      have ho := (wI_b hV (show q / 3 < 3 by omega) (show q % 3 < 3 by omega)).2
      show (if nI 9 ≤ nI q then _ else (fX6_joins mo (nI q / nI 3) (nI 3 + (nI q - nI q / nI 3 * nI 3))).bind fun v2 => (if (if v2 ≤ nI 0 then (0 : Int32) else (1 : Int32)) = (0 : Int32) then some (-1 : Int64) else (fX6_overOf mo (nI q / nI 3) (nI q - nI q / nI 3 * nI 3)).bind fun v6 => some v6).bind fun v4 =>
        rec ((if (if (if v2 ≤ nI 0 then (0 : Int32) else (1 : Int32)) = (0 : Int32) then v4 else (if (0 : Int64) ≤ v4 then v4 else (-v4))) ≤ Int64.ofInt (wsF a q).2 then (wsF a q).1 else ((nI 10 * (nI q / nI 3)) + (nI q - nI q / nI 3 * nI 3))), (if (if (if v2 ≤ nI 0 then (0 : Int32) else (1 : Int32)) = (0 : Int32) then v4 else (if (0 : Int64) ≤ v4 then v4 else (-v4))) ≤ Int64.ofInt (wsF a q).2 then Int64.ofInt (wsF a q).2 else (if (if v2 ≤ nI 0 then (0 : Int32) else (1 : Int32)) = (0 : Int32) then v4 else (if (0 : Int64) ≤ v4 then v4 else (-v4)))), nI q + 1)) = rec ((wsP a (q / 3) (q % 3) (wsF a q)).1, Int64.ofInt (wsP a (q / 3) (q % 3) (wsF a q)).2, nI (q + 1))
      rw [if_neg (nI_ge hq (by omega)), r_flat hV hF hq, Option.bind_some, pk_rem (by omega) (by omega) (by omega), pk_div (by omega) (by omega) (by omega), r_over hV hF hS (by omega) (by omega), Option.bind_some, nI_1, nI_mul, nI_add]
      unfold wsP
      by_cases e : a (51 + (3 * (q / 3) + q % 3)) = 0
      · rw [if_pos (show nI (a (51 + (3 * (q / 3) + q % 3))) ≤ nI 0 from nI_le (by omega) (by omega)), if_pos e, if_pos rfl, Option.bind_some, if_pos rfl, show (-1 : Int64) = Int64.ofInt (-1) from rfl, if_pos ((jI_le (sJ_of (by omega) (by omega)) (sJ_of (by omega) (by omega))).mpr hb1), if_pos ((jI_le (sJ_of (by omega) (by omega)) (sJ_of (by omega) (by omega))).mpr hb1)]
      · rw [if_neg (show ¬ nI (a (51 + (3 * (q / 3) + q % 3))) ≤ nI 0 from nI_ge (by omega) (by omega)), if_neg e, if_neg (show ¬ (1 : Int32) = 0 by decide), Option.bind_some, if_neg (show ¬ (1 : Int32) = 0 by decide), (absO hV (by omega) (by omega)).2]
        by_cases e2 : ((oI a (q / 3) (q % 3)).natAbs : Int) ≤ (wsF a q).2
        · rw [if_pos ((jI_le (sJ_of (by omega) (by omega)) (sJ_of (by omega) (by omega))).mpr e2), if_pos e2, if_pos ((jI_le (sJ_of (by omega) (by omega)) (sJ_of (by omega) (by omega))).mpr e2)]
        · rw [if_neg (fun p => e2 ((jI_le (sJ_of (by omega) (by omega)) (sJ_of (by omega) (by omega))).mp p)), if_neg e2, if_neg (fun p => e2 ((jI_le (sJ_of (by omega) (by omega)) (sJ_of (by omega) (by omega))).mp p))]
    · intro rec
      exact if_pos (Int32.le_refl _)
  unfold fX6_worst
  rw [h, Option.bind_some, ws_flat hV]
/-! pairs with weight -/
theorem c_pairs13 {z : Fo} {a : Nat → Nat} (hV : Valid a) (hC : CF z a) : fX1_pairsWithWeight z = some (nI (smN (fun q => if a (51 + q) = 0 then 0 else 1) 9)) := by
  have h : lp (gX1_pairsWithWeight_4 z) 1000 (0, 0) = some (nI (smN (fun q => if a (51 + q) = 0 then 0 else 1) 9), nI 9) := by
    refine lp_k (fun q => (nI (smN (fun q => if a (51 + q) = 0 then 0 else 1) q), nI q)) 9 (by omega) ?_ ?_
    · intro q hq rec
      have hw := hV.wt hq
      show (if nI 9 ≤ nI q then _ else (rdI (Fo_weights z) 9 (nI q)).bind fun v2 => rec (nI (smN (fun q => if a (51 + q) = 0 then 0 else 1) q) + (if v2 ≤ nI 0 then (0 : Int32) else 1), nI q + 1)) = rec (nI (smN (fun q => if a (51 + q) = 0 then 0 else 1) q + (if a (51 + q) = 0 then 0 else 1)), _)
      rw [if_neg (nI_ge hq (by omega)), rdI_n hq (by omega), Option.bind_some, hC.2.2.2.2.2 q hq, nI_1]
      by_cases e : a (51 + q) = 0
      · rw [if_pos (nI_le (by omega) (by omega)), if_pos e, show (0 : Int32) = nI 0 from rfl, nI_add]
      · rw [if_neg (nI_ge (by omega) (by omega)), if_neg e, show (1 : Int32) = nI 1 from rfl, nI_add]
    · intro rec
      exact if_pos (Int32.le_refl _)
  unfold fX1_pairsWithWeight
  rw [h, Option.bind_some]
theorem r_weighted {mo : Mo} {a : Nat → Nat} (hV : Valid a) (hF : RF (Mo_now mo) a) : fX6_weighted mo = some (nI (smN (fun q => if a (51 + q) = 0 then 0 else 1) 9)) := by
  have h : lp (gX6_weighted_4 mo) 1000 (0, 0) = some (nI (smN (fun q => if a (51 + q) = 0 then 0 else 1) 9), nI 9) := by
    refine lp_k (fun q => (nI (smN (fun q => if a (51 + q) = 0 then 0 else 1) q), nI q)) 9 (by omega) ?_ ?_
    · intro q hq rec
      have hw := hV.wt hq
      show (if nI 9 ≤ nI q then _ else (fX6_joins mo (nI q / nI 3) (nI 3 + (nI q - nI q / nI 3 * nI 3))).bind fun v2 => rec (nI (smN (fun q => if a (51 + q) = 0 then 0 else 1) q) + (if v2 ≤ nI 0 then (0 : Int32) else 1), nI q + 1)) = rec (nI (smN (fun q => if a (51 + q) = 0 then 0 else 1) q + (if a (51 + q) = 0 then 0 else 1)), _)
      rw [if_neg (nI_ge hq (by omega)), r_flat hV hF hq, Option.bind_some, show 3 * (q / 3) + q % 3 = q from by omega, nI_1]
      by_cases e : a (51 + q) = 0
      · rw [if_pos (nI_le (by omega) (by omega)), if_pos e, show (0 : Int32) = nI 0 from rfl, nI_add]
      · rw [if_neg (nI_ge (by omega) (by omega)), if_neg e, show (1 : Int32) = nI 1 from rfl, nI_add]
    · intro rec
      exact if_pos (Int32.le_refl _)
  unfold fX6_weighted
  rw [h, Option.bind_some]
/-! free spaces -/
noncomputable def oN (a : Nat → Nat) (k : Nat) : Nat := if opZ (wt a) k = 0 then 0 else 1
theorem sum_ioN {f : Nat → Nat} {n : Nat} (hn : 1 ≤ n ∧ n ≤ 3) : smN (fun k => if k % 3 < n then f k else 0) 6 = smN (fun c => f (io n c)) (2 * n) := by
  have e : n = 1 ∨ n = 2 ∨ n = 3 := by omega
  rcases e with rfl | rfl | rfl
  · show 0 + f 0 + 0 + 0 + f 3 + 0 + 0 = 0 + f 0 + f 3
    omega
  · show 0 + f 0 + f 1 + 0 + f 3 + f 4 + 0 = 0 + f 0 + f 1 + f 3 + f 4
    omega
  · rfl
theorem c_openSpaces {z : Fo} {a : Nat → Nat} (hV : Valid a) (hC : CF z a) {ev : Ev} (hE : EvOK ev a) : fX0_openSpaces ev z = some (nI (smN (fun c => oN a (io (a 60) c)) (2 * a 60))) := by
  have hN := hV.1
  have h : lp (gX0_openSpaces_4 ev z) 1000 (0, 0) = some (nI (smN (fun c => oN a (io (a 60) c)) (2 * a 60)), nI (2 * a 60)) := by
    refine lp_k (fun c => (nI (smN (fun c => oN a (io (a 60) c)) c), nI c)) (2 * a 60) (by omega) ?_ ?_
    · intro c hc rec
      show ((fX0_spaces ev z).bind fun v1 => if v1 ≤ nI c then _ else (rdI (Ev_opn ev) 6 (nI c)).bind fun v3 => rec (nI (smN (fun c => oN a (io (a 60) c)) c) + (if v3 = (0 : Int32) then (0 : Int32) else 1), nI c + 1)) = rec (nI (smN (fun c => oN a (io (a 60) c)) c + oN a (io (a 60) c)), _)
      rw [c_spaces hC, Option.bind_some, if_neg (nI_ge hc (by omega)), rdI_n (by omega) (by omega), Option.bind_some, (hE.2 c hc).1, nI_1]
      unfold oN
      by_cases e : opZ (wt a) (io (a 60) c) = 0
      · rw [if_pos e, if_pos e, show (0 : Int32) = nI 0 from rfl, nI_add]
      · rw [if_neg e, if_neg e, show (1 : Int32) = nI 1 from rfl, nI_add]
    · intro rec
      show ((fX0_spaces ev z).bind fun v1 => if v1 ≤ nI (2 * a 60) then _ else _) = _
      rw [c_spaces hC, Option.bind_some, if_pos (Int32.le_refl _)]
  unfold fX0_openSpaces
  rw [h, Option.bind_some]
theorem r_openOnes {mo : Mo} {a : Nat → Nat} (hV : Valid a) (hF : RF (Mo_now mo) a) (hS : Sol mo a) : fX6_openOnes mo = some (nI (smN (fun c => oN a (io (a 60) c)) (2 * a 60))) := by
  have h : lp (gX6_openOnes_4 mo) 1000 (0, 0) = some (nI (smN (fun k => if k % 3 < a 60 then oN a k else 0) 6), nI 6) := by
    refine lp_k (fun k => (nI (smN (fun k => if k % 3 < a 60 then oN a k else 0) k), nI k)) 6 (by omega) ?_ ?_
    · intro k hk rec
      show (if nI 6 ≤ nI k then _ else (fX6_isThere mo (nI k)).bind fun v2 => (if v2 = (0 : Int32) then some (0 : Int32) else (rdI (Mo_isOpn mo) 6 (nI k)).bind fun v5 => (if v5 = (0 : Int32) then some (0 : Int32) else some 1)).bind fun v3 => rec (nI (smN (fun k => if k % 3 < a 60 then oN a k else 0) k) + v3, nI k + 1)) = rec (nI (smN (fun k => if k % 3 < a 60 then oN a k else 0) k + (if k % 3 < a 60 then oN a k else 0)), _)
      rw [if_neg (nI_ge hk (by omega)), r_isThere hV hF hk, Option.bind_some, nI_1, rdI_n hk (by omega), Option.bind_some, (hS.2 k hk).1]
      unfold thr oN
      by_cases e : k % 3 < a 60
      · rw [if_pos e, if_neg (by decide), if_pos e]
        by_cases e2 : opZ (wt a) k = 0
        · rw [if_pos e2, if_pos e2, Option.bind_some, show (0 : Int32) = nI 0 from rfl, nI_add]
        · rw [if_neg e2, if_neg e2, Option.bind_some, show (1 : Int32) = nI 1 from rfl, nI_add]
      · rw [if_neg e, if_pos rfl, if_neg e, Option.bind_some, show (0 : Int32) = nI 0 from rfl, nI_add]
    · intro rec
      exact if_pos (Int32.le_refl _)
  unfold fX6_openOnes
  rw [h, Option.bind_some, sum_ioN hV.1]
