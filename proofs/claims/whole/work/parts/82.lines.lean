/-! ===== LAYER 2: lines: how wide, where thin ===== -/
theorem nI_m1 {n : Nat} (h : 1 ≤ n) : nI n - 1 = nI (n - 1) := by
  obtain ⟨m, rfl⟩ : ∃ m, n = m + 1 := ⟨n - 1, by omega⟩
  exact nI_pred m
noncomputable def wdI (a : Nat → Nat) (l : Nat → Nat) (n p : Nat) : Int := (a (48 + l p) : Int) * (8 * bI a) + (if p = 0 then 0 else sI a (3 + l p)) + (if n ≤ p + 1 then 0 else sI a (l p))
theorem wd_b {a : Nat → Nat} (hV : Valid a) {l : Nat → Nat} {n p : Nat} (hl : l p < 3) : -400000000 ≤ wdI a l n p ∧ wdI a l n p ≤ 400000000 := by
  obtain ⟨h1, h2, _, h4⟩ := NS hV
  have h5 := (h4 (l p) (by omega)).2
  have h6 := (h4 (3 + l p) (by omega)).2
  have h7 := hV.2.2.2.2.1 (l p) hl
  have m1 := mb (x := (a (48 + l p) : Int)) (y := 8 * bI a) (X := 50) (Y := 663552) ⟨by omega, by omega⟩ ⟨by omega, by omega⟩
  unfold wdI
  split <;> split <;> omega
theorem wd2_b {a : Nat → Nat} (hV : Valid a) {l : Nat → Nat} {n : Nat} (hn : n ≤ 16) (hl : ∀ k, k < n → l k < a 60) : sJ (siN (wdI a l n) n) := by
  have hN := hV.1
  have h := siN_b (f := wdI a l n) (x := -400000000) (y := 400000000) (n := n) (fun p hp => wd_b hV (by have := hl p hp; omega))
  exact ⟨by omega, by omega⟩
theorem c_wide {z : Fo} {a : Nat → Nat} (hV : Valid a) (hC : CF z a) {ev : Ev} (hE : EvOK ev a) {li : Li} {mo : Mo} {n : Nat} {l : Nat → Nat} (hL : LR li mo n l) (hl : ∀ k, k < n → l k < a 60) (te : Te) : fX2_wideAbove li te ev z = some (Int64.ofInt (siN (wdI a l n) n)) := by
  have hN := hV.1
  obtain ⟨l1, l2, l3, l4⟩ := hL
  have h : lp (gX2_wideAbove_4 li te ev z) 1000 (0, 0) = some (Int64.ofInt (siN (wdI a l n) n), nI n) := by
    refine lp_k (fun p => (Int64.ofInt (siN (wdI a l n) p), nI p)) n (by omega) ?_ ?_
    · intro p hp rec
      have hlp := hl p hp
      have h7 := hV.2.2.2.2.1 (l p) (by omega)
      show (if Li_many li ≤ nI p then _ else (rdI (Li_places li) 16 (nI p)).bind fun v2 => (rdI (Fo_bodies z) 3 v2).bind fun v3 => (fX0_spaceBelow ev z).bind fun v4 => (if nI p ≤ nI 0 then some (0 : Int64) else (rdI (Li_places li) 16 (nI p)).bind fun v7 => (fX0_spaceAbove ev z v7 (nI 0)).bind fun v8 => some v8).bind fun v5 => (if (Li_many li - 1) ≤ nI p then some (0 : Int64) else (rdI (Li_places li) 16 (nI p)).bind fun v11 => (fX0_spaceAbove ev z v11 (nI 1)).bind fun v12 => some v12).bind fun v9 => rec (Int64.ofInt (siN (wdI a l n) p) + Int32.toInt64 v3 * v4 + v5 + v9, nI p + 1)) = rec (Int64.ofInt (siN (wdI a l n) p + wdI a l n p), _)
      rw [l2, if_neg (nI_ge hp (by omega)), rdI_n (by omega) (by omega), Option.bind_some, (l4 p hp).1, rdI_n (by omega) (by omega), Option.bind_some, c_spaceBelow hV hE, Option.bind_some, hC.2.2.2.1 _ (by omega), Option.bind_some, c_spaceAbove hV hC hE hlp (by omega), Option.bind_some, Option.bind_some, c_spaceAbove hV hC hE hlp (by omega), Option.bind_some, nI_m1 (by omega), wide_nI (by omega), jI_mul, jI_add, nI_1]
      have e5 : (if nI p ≤ nI 0 then some (0 : Int64) else some (Int64.ofInt (sI a (sx (l p) 0)))) = some (Int64.ofInt (if p = 0 then 0 else sI a (3 + l p))) := by
        by_cases e : p = 0
        · rw [if_pos (nI_le (by omega) (by omega)), if_pos e]; rfl
        · rw [if_neg (nI_ge (by omega) (by omega)), if_neg e]; rfl
      have e9 : (if nI (n - 1) ≤ nI p then some (0 : Int64) else some (Int64.ofInt (sI a (sx (l p) 1)))) = some (Int64.ofInt (if n ≤ p + 1 then 0 else sI a (l p))) := by
        by_cases e : n ≤ p + 1
        · rw [if_pos (nI_le (by omega) (by omega)), if_pos e]; rfl
        · rw [if_neg (nI_ge (by omega) (by omega)), if_neg e]; rfl
      rw [e5, Option.bind_some, e9, Option.bind_some, jI_add, jI_add]
      congr 3
      unfold wdI
      omega
    · intro rec
      show (if Li_many li ≤ nI n then _ else _) = _
      rw [l2, if_pos (Int32.le_refl _)]
  unfold fX2_wideAbove
  rw [h, Option.bind_some]
theorem r_wide {a : Nat → Nat} (hV : Valid a) {li : Li} {mo : Mo} (hF : RF (Mo_now mo) a) (hS : Sol mo a) {n : Nat} {l : Nat → Nat} (hL : LR li mo n l) (hl : ∀ k, k < n → l k < a 60) : fX6_wide mo = some (Int64.ofInt (siN (wdI a l n) n)) := by
  have hN := hV.1
  obtain ⟨l1, l2, l3, l4⟩ := hL
  have h : lp (gX6_wide_4 mo) 1000 (0, 0) = some (Int64.ofInt (siN (wdI a l n) n), nI n) := by
    refine lp_k (fun p => (Int64.ofInt (siN (wdI a l n) p), nI p)) n (by omega) ?_ ?_
    · intro p hp rec
      have hlp := hl p hp
      have h7 := hV.2.2.2.2.1 (l p) (by omega)
      show (if Mo_lined mo ≤ nI p then _ else (rdI (Mo_line mo) 16 (nI p)).bind fun v2 => (rdI (Mo_now mo) 63 (nI 48 + v2)).bind fun v3 => (if nI p ≤ nI 0 then some (0 : Int64) else (rdJ (Mo_spaces mo) 6 (nI 3 + v2)).bind fun v6 => some v6).bind fun v4 => (if Mo_lined mo ≤ nI p + 1 then some (0 : Int64) else (rdJ (Mo_spaces mo) 6 v2).bind fun v9 => some v9).bind fun v7 => rec (Int64.ofInt (siN (wdI a l n) p) + 8 * Mo_whole mo * Int32.toInt64 v3 + v4 + v7, nI p + 1)) = rec (Int64.ofInt (siN (wdI a l n) p + wdI a l n p), _)
      rw [l3, if_neg (nI_ge hp (by omega)), rdI_n (by omega) (by omega), Option.bind_some, (l4 p hp).2, nI_add, rdI_n (by omega) (by omega), Option.bind_some, hF _ (by omega), nI_add, rdJ_n (by omega) (by omega), Option.bind_some, rdJ_n (by omega) (by omega), Option.bind_some, r_sp hV hS (by omega), r_sp hV hS (by omega), r_8b hV hS.1, wide_nI (by omega), jI_mul, jI_add, nI_1]
      have e5 : (if nI p ≤ nI 0 then some (0 : Int64) else some (Int64.ofInt (sI a (3 + l p)))) = some (Int64.ofInt (if p = 0 then 0 else sI a (3 + l p))) := by
        by_cases e : p = 0
        · rw [if_pos (nI_le (by omega) (by omega)), if_pos e]; rfl
        · rw [if_neg (nI_ge (by omega) (by omega)), if_neg e]
      have e9 : (if nI n ≤ nI (p + 1) then some (0 : Int64) else some (Int64.ofInt (sI a (l p)))) = some (Int64.ofInt (if n ≤ p + 1 then 0 else sI a (l p))) := by
        by_cases e : n ≤ p + 1
        · rw [if_pos (nI_le (by omega) (by omega)), if_pos e]; rfl
        · rw [if_neg (nI_ge (by omega) (by omega)), if_neg e]
      rw [e5, Option.bind_some, e9, Option.bind_some, jI_add, jI_add]
      congr 3
      unfold wdI
      rw [Int.mul_comm (8 * bI a)]
      omega
    · intro rec
      show (if Mo_lined mo ≤ nI n then _ else _) = _
      rw [l3, if_pos (Int32.le_refl _)]
  unfold fX6_wide
  rw [h, Option.bind_some]
/-! where thin -/
noncomputable def thI (a : Nat → Nat) (l : Nat → Nat) (p : Nat) : Int := -wI a (l p) (l (p + 1))
noncomputable def tB (a : Nat → Nat) (l : Nat → Nat) (p : Nat) : Int32 := if p = 0 then -1 else nI (bst (thI a l) (p - 1))
noncomputable def tV (a : Nat → Nat) (l : Nat → Nat) (p : Nat) : Int64 := if p = 0 then 0 else Int64.ofInt (-thI a l (bst (thI a l) (p - 1)))
theorem th_step {a : Nat → Nat} (hV : Valid a) {l : Nat → Nat} {n p : Nat} (hl : ∀ k, k < n → l k < a 60) (hp : 1 ≤ p) (hp2 : p + 1 < n) : (Int64.ofInt (-thI a l (bst (thI a l) (p - 1))) ≤ Int64.ofInt (wI a (l p) (l (p + 1))) ↔ thI a l p ≤ thI a l (bst (thI a l) (p - 1))) ∧ bst (thI a l) (p + 1 - 1) = (if thI a l p ≤ thI a l (bst (thI a l) (p - 1)) then bst (thI a l) (p - 1) else p) ∧ bst (thI a l) (p - 1) < p := by
  have hN := hV.1
  have hb := (bst_spec (thI a l) (p - 1)).1
  have b1 := (wI_b hV (i := l p) (j := l (p + 1)) (by have := hl p (by omega); omega) (by have := hl (p + 1) (by omega); omega)).1
  have b2 := (wI_b hV (i := l (bst (thI a l) (p - 1))) (j := l (bst (thI a l) (p - 1) + 1)) (by have := hl (bst (thI a l) (p - 1)) (by omega); omega) (by have := hl (bst (thI a l) (p - 1) + 1) (by omega); omega)).1
  obtain ⟨m, rfl⟩ : ∃ m, p = m + 1 := ⟨p - 1, by omega⟩
  have e1 : thI a l (m + 1) = -wI a (l (m + 1)) (l (m + 1 + 1)) := rfl
  have e2 : thI a l (bst (thI a l) (m + 1 - 1)) = -wI a (l (bst (thI a l) (m + 1 - 1))) (l (bst (thI a l) (m + 1 - 1) + 1)) := rfl
  refine ⟨?_, rfl, by omega⟩
  rw [e2, jI_le (sJ_of (by omega) (by omega)) (sJ_of (by omega) (by omega)), e1]
  omega
theorem c_thin {z : Fo} {a : Nat → Nat} (hV : Valid a) (hC : CF z a) {ev : Ev} (hE : EvOK ev a) {li : Li} {mo : Mo} {n : Nat} {l : Nat → Nat} (hL : LR li mo n l) (hl : ∀ k, k < n → l k < a 60) (te : Te) : fX2_thin li te ev z = some (tB a l (n - 1)) := by
  have hN := hV.1
  obtain ⟨l1, l2, l3, l4⟩ := hL
  have h : lp (gX2_thin_7 li te ev z) 1000 (-1, 0, 0) = some (tB a l (n - 1), tV a l (n - 1), nI (n - 1)) := by
    refine lp_k (fun p => (tB a l p, tV a l p, nI p)) (n - 1) (by omega) ?_ ?_
    · intro p hp rec
      show (if (Li_many li - 1) ≤ nI p then _ else (rdI (Li_places li) 16 (nI p)).bind fun v2 => (rdI (Li_places li) 16 (nI p + 1)).bind fun v3 => (fX0_whiteAbove ev z v2 v3).bind fun v4 => (if tB a l p = (-1 : Int32) then some (nI p, v4) else (if tV a l p ≤ v4 then some (tB a l p, tV a l p) else some (nI p, v4))).bind fun v5 => rec (v5.1, v5.2, nI p + 1)) = _
      rw [l2, nI_m1 (by omega), if_neg (nI_ge hp (by omega)), rdI_n (by omega) (by omega), Option.bind_some, nI_1, rdI_n (by omega) (by omega), Option.bind_some, (l4 p (by omega)).1, (l4 (p + 1) (by omega)).1, c_whiteAbove hV hC hE (hl p (by omega)) (hl (p + 1) (by omega)), Option.bind_some]
      by_cases e : p = 0
      · subst e
        rw [if_pos (show tB a l 0 = -1 from rfl), Option.bind_some]
        show rec (nI 0, Int64.ofInt (wI a (l 0) (l 1)), nI 1) = rec (nI 0, Int64.ofInt (- -wI a (l 0) (l 1)), nI 1)
        rw [Int.neg_neg]
      · obtain ⟨s1, s2, s3⟩ := th_step hV hl (show 1 ≤ p by omega) (show p + 1 < n by omega)
        have t1 : tB a l p = nI (bst (thI a l) (p - 1)) := if_neg e
        have t2 : tV a l p = Int64.ofInt (-thI a l (bst (thI a l) (p - 1))) := if_neg e
        have t3 : tB a l (p + 1) = nI (bst (thI a l) (p + 1 - 1)) := if_neg (by omega)
        have t4 : tV a l (p + 1) = Int64.ofInt (-thI a l (bst (thI a l) (p + 1 - 1))) := if_neg (by omega)
        have hne : ¬ nI (bst (thI a l) (p - 1)) = -1 := fun q => by
          have h0 := nI_pos (n := bst (thI a l) (p - 1)) (by omega)
          rw [q] at h0
          exact h0 (by decide)
        rw [t3, t4, s2, t1, t2, if_neg hne]
        by_cases q : thI a l p ≤ thI a l (bst (thI a l) (p - 1))
        · rw [if_pos (s1.mpr q), if_pos q, Option.bind_some]
        · rw [if_neg (fun k => q (s1.mp k)), if_neg q, Option.bind_some]
          show rec (nI p, Int64.ofInt (wI a (l p) (l (p + 1))), nI (p + 1)) = rec (nI p, Int64.ofInt (- -wI a (l p) (l (p + 1))), nI (p + 1))
          rw [Int.neg_neg]
    · intro rec
      show (if (Li_many li - 1) ≤ nI (n - 1) then _ else _) = _
      rw [l2]
      by_cases e : n = 0
      · subst e
        rw [if_pos (by decide)]
      · rw [nI_m1 (by omega), if_pos (Int32.le_refl _)]
  unfold fX2_thin
  rw [h, Option.bind_some]
theorem r_thin {a : Nat → Nat} (hV : Valid a) {li : Li} {mo : Mo} (hF : RF (Mo_now mo) a) (hS : Sol mo a) {n : Nat} {l : Nat → Nat} (hL : LR li mo n l) (hl : ∀ k, k < n → l k < a 60) : fX6_thin mo = some (tB a l (n - 1)) := by
  have hN := hV.1
  obtain ⟨l1, l2, l3, l4⟩ := hL
  have h : lp (gX6_thin_4 mo) 1000 (-1, 0) = some (tB a l (n - 1), nI (n - 1)) := by
    refine lp_k (fun p => (tB a l p, nI p)) (n - 1) (by omega) ?_ ?_
    · intro p hp rec
      show (if Mo_lined mo ≤ nI p + 1 then _ else (if tB a l p < (0 : Int32) then some (1 : Int32) else (rdI (Mo_line mo) 16 (nI p)).bind fun v4 => (rdI (Mo_line mo) 16 (nI p + 1)).bind fun v5 => (fX6_whiteOf mo v4 v5).bind fun v6 => (rdI (Mo_line mo) 16 (tB a l p)).bind fun v7 => (rdI (Mo_line mo) 16 (tB a l p + 1)).bind fun v8 => (fX6_whiteOf mo v7 v8).bind fun v9 => (if v9 ≤ v6 then some (0 : Int32) else some 1)).bind fun v2 => rec ((if v2 = (0 : Int32) then tB a l p else nI p), nI p + 1)) = _
      rw [l3, nI_1, if_neg (nI_ge (by omega) (by omega))]
      by_cases e : p = 0
      · subst e
        rw [if_pos (show tB a l 0 < 0 from by show (-1 : Int32) < 0; decide), Option.bind_some, if_neg (by decide)]
        rfl
      · obtain ⟨s1, s2, s3⟩ := th_step hV hl (show 1 ≤ p by omega) (show p + 1 < n by omega)
        have t1 : tB a l p = nI (bst (thI a l) (p - 1)) := if_neg e
        have t3 : tB a l (p + 1) = nI (bst (thI a l) (p + 1 - 1)) := if_neg (by omega)
        have hw : Int64.ofInt (wI a (l (bst (thI a l) (p - 1))) (l (bst (thI a l) (p - 1) + 1))) = Int64.ofInt (-thI a l (bst (thI a l) (p - 1))) := by
          show _ = Int64.ofInt (- -_)
          rw [Int.neg_neg]
        have hx1 := hl p (by omega)
        have hx2 := hl (p + 1) (by omega)
        have hx3 := hl (bst (thI a l) (p - 1)) (by omega)
        have hx4 := hl (bst (thI a l) (p - 1) + 1) (by omega)
        rw [t3, s2, t1, if_neg (nI_pos (by omega)), rdI_n (by omega) (by omega), Option.bind_some, rdI_n (by omega) (by omega), Option.bind_some, (l4 p (by omega)).2, (l4 (p + 1) (by omega)).2, r_whiteOf hV hF hS (by omega) (by omega), Option.bind_some, rdI_n (by omega) (by omega), Option.bind_some, nI_1, rdI_n (by omega) (by omega), Option.bind_some, (l4 _ (by omega)).2, (l4 (bst (thI a l) (p - 1) + 1) (by omega)).2, r_whiteOf hV hF hS (by omega) (by omega), Option.bind_some, hw]
        by_cases q : thI a l p ≤ thI a l (bst (thI a l) (p - 1))
        · rw [if_pos (s1.mpr q), if_pos q, Option.bind_some, if_pos rfl]
        · rw [if_neg (fun k => q (s1.mp k)), if_neg q, Option.bind_some, if_neg (by decide)]
    · intro rec
      show (if Mo_lined mo ≤ nI (n - 1) + 1 then _ else _) = _
      rw [l3, nI_1, if_pos (nI_le (by omega) (by omega))]
  unfold fX6_thin
  rw [h, Option.bind_some]
