/-! ===== LAYER 2: the line told as a text ===== -/
def sgI (o : Int) : Int32 := if o = 0 then 61 else if o < 0 then 45 else 43
/-- the signs of the line: letters at the even places, between them how the white stands -/
noncomputable def sqT (a : Nat → Nat) (l : Nat → Nat) (k : Nat) : Int32 := if k % 2 = 0 then nI (97 + l (k / 2)) else sgI (oI a (l (k / 2)) (l (k / 2 + 1)))
theorem sqT_e (a : Nat → Nat) (l : Nat → Nat) (i : Nat) : sqT a l (2 * i) = nI (97 + l i) := by
  unfold sqT
  rw [if_pos (by omega), show 2 * i / 2 = i from by omega]
theorem sqT_o (a : Nat → Nat) (l : Nat → Nat) (i : Nat) : sqT a l (2 * i + 1) = sgI (oI a (l i) (l (i + 1))) := by
  unfold sqT
  rw [if_neg (by omega), show (2 * i + 1) / 2 = i from by omega]
theorem upd_ext {S : Nat → Int32} {q : Nat → Int32} {m : Nat} (h : ∀ k, k < m → S k = q k) : ∀ k, k < m + 1 → upd S m (q m) k = q k := fun k hk => by
  unfold upd
  by_cases e : k = m
  · rw [if_pos e, e]
  · rw [if_neg e]; exact h k (by omega)
theorem c_sign {z : Fo} {a : Nat → Nat} (hV : Valid a) (hC : CF z a) {ev : Ev} (hE : EvOK ev a) {i j : Nat} (hi : i < a 60) (hj : j < a 60) (li : Li) (te : Te) : fX2_signBetween li te ev z (nI i) (nI j) = some (sgI (oI a i j)) := by
  have hN := hV.1
  have hO := oJ hV (show i < 3 by omega) (show j < 3 by omega)
  unfold fX2_signBetween sgI
  rw [c_over hV hC hE hi hj, Option.bind_some, show (0 : Int64) = Int64.ofInt 0 from rfl]
  by_cases e : oI a i j = 0
  · rw [if_pos (by rw [e]), if_pos e]
  · rw [if_neg (by rw [jI_eq hO sJ_0]; exact e), if_neg e]
    by_cases e2 : oI a i j < 0
    · rw [if_pos ((jI_le hO sJ_0).mpr (by omega)), if_pos e2]
    · rw [if_neg (by rw [jI_le hO sJ_0]; omega), if_neg e2]
theorem r_sign {o : Int} (hO : sJ o) : (if Int64.ofInt o ≤ (0 : Int64) then (if (0 : Int64) ≤ Int64.ofInt o then (61 : Int32) else (45 : Int32)) else (43 : Int32)) = sgI o := by
  unfold sgI
  rw [show (0 : Int64) = Int64.ofInt 0 from rfl]
  by_cases e : o = 0
  · rw [e, if_pos (Int64.le_refl _), if_pos (Int64.le_refl _), if_pos rfl]
  · rw [if_neg e]
    by_cases e2 : o < 0
    · rw [if_pos ((jI_le hO sJ_0).mpr (by omega)), if_neg (by rw [jI_le sJ_0 hO]; omega), if_pos e2]
    · rw [if_neg (by rw [jI_le hO sJ_0]; omega), if_neg e2]
theorem c_line {z : Fo} {a : Nat → Nat} (hV : Valid a) (hC : CF z a) {ev : Ev} (hE : EvOK ev a) {li : Li} {mo : Mo} {n : Nat} {l : Nat → Nat} (hL : LR li mo n l) (hl : ∀ k, k < n → l k < a 60) (te : Te) : ∃ (s : Int32 × Te), lp (gX2_written_9 li ev z) 1000 (0, Te_set_many te 0) = some s ∧ Te_many s.2 = nI (2 * n - 1) ∧ ∀ k, k < 2 * n - 1 → Te_signs s.2 k = sqT a l k := by
  have hN := hV.1
  obtain ⟨l1, l2, l3, l4⟩ := hL
  refine lp_J (σ := Int32 × Te) (ρ := Int32 × Te) (fun i s => ∃ S, s = (nI i, nI (2 * i - 1), S) ∧ ∀ k, k < 2 * i - 1 → S k = sqT a l k) n _ (by omega) ⟨Te_signs te, rfl, fun k hk => by omega⟩ ?_ ?_
  · rintro i s hi ⟨S, rfl, h⟩
    have hli := hl i hi
    by_cases e : i = 0
    · subst e
      refine ⟨(nI 1, nI (2 * 1 - 1), upd S 0 (sqT a l 0)), ⟨upd S 0 (sqT a l 0), rfl, upd_ext h⟩, fun rec => ?_⟩
      show (if Li_many li ≤ nI 0 then _ else (if nI 0 ≤ nI 0 then some ((nI 0, S) : Te) else _).bind fun v2 => (rdI (Li_places li) 16 (nI 0)).bind fun v8 => (fX4_addSign v2 (nI 97 + v8)).bind fun v9 => rec (nI 0 + 1, v9)) = _
      rw [l2, if_neg (nI_ge hi (by omega)), if_pos (Int32.le_refl _), Option.bind_some, rdI_n (by omega) (by omega), Option.bind_some, (l4 0 hi).1, nI_add, c_addSign (te := ((nI 0, S) : Te)) (s := 0) rfl (by omega), Option.bind_some, ← sqT_e a l 0, nI_1]
    · obtain ⟨m, rfl⟩ : ∃ m, i = m + 1 := ⟨i - 1, by omega⟩
      have hlm := hl m (by omega)
      refine ⟨(nI (m + 1 + 1), nI (2 * (m + 1 + 1) - 1), upd (upd S (2 * m + 1) (sqT a l (2 * m + 1))) (2 * (m + 1)) (sqT a l (2 * (m + 1)))), ⟨upd (upd S (2 * m + 1) (sqT a l (2 * m + 1))) (2 * (m + 1)) (sqT a l (2 * (m + 1))), rfl, ?_⟩, fun rec => ?_⟩
      · have h1 := upd_ext (m := 2 * m + 1) (S := S) (q := sqT a l) (fun k hk => h k (by omega))
        have h2 := upd_ext (m := 2 * (m + 1)) (S := upd S (2 * m + 1) (sqT a l (2 * m + 1))) (q := sqT a l) (fun k hk => h1 k (by omega))
        exact fun k hk => h2 k (by omega)
      · show (if Li_many li ≤ nI (m + 1) then _ else (if nI (m + 1) ≤ nI 0 then _ else (rdI (Li_places li) 16 (nI (m + 1) - 1)).bind fun v4 => (rdI (Li_places li) 16 (nI (m + 1))).bind fun v5 => (fX2_signBetween li ((nI (2 * (m + 1) - 1), S) : Te) ev z v4 v5).bind fun v6 => (fX4_addSign ((nI (2 * (m + 1) - 1), S) : Te) v6).bind fun v7 => some v7).bind fun v2 => (rdI (Li_places li) 16 (nI (m + 1))).bind fun v8 => (fX4_addSign v2 (nI 97 + v8)).bind fun v9 => rec (nI (m + 1) + 1, v9)) = _
        rw [l2, if_neg (nI_ge hi (by omega)), if_neg (nI_ge (by omega) (by omega)), nI_pred, rdI_n (by omega) (by omega), Option.bind_some, rdI_n (by omega) (by omega), Option.bind_some, (l4 m (by omega)).1, (l4 (m + 1) hi).1, c_sign hV hC hE hlm hli, Option.bind_some, c_addSign (te := ((nI (2 * (m + 1) - 1), S) : Te)) (s := 2 * m + 1) (by show nI (2 * (m + 1) - 1) = nI (2 * m + 1); congr 1) (by omega), Option.bind_some, Option.bind_some, Option.bind_some, nI_add, c_addSign (te := ((nI (2 * m + 1 + 1), upd (Te_signs ((nI (2 * (m + 1) - 1), S) : Te)) (2 * m + 1) (sgI (oI a (l m) (l (m + 1))))) : Te)) (s := 2 * (m + 1)) (by show nI (2 * m + 1 + 1) = nI (2 * (m + 1)); congr 1) (by omega), Option.bind_some, ← sqT_o a l m, ← sqT_e a l (m + 1), nI_1]
        rfl
  · rintro s ⟨S, rfl, h⟩
    refine ⟨(nI n, nI (2 * n - 1), S), ⟨rfl, h⟩, fun rec => ?_⟩
    show (if Li_many li ≤ nI n then _ else _) = _
    rw [l2, if_pos (Int32.le_refl _)]
theorem r_line {a : Nat → Nat} (hV : Valid a) {li : Li} {mo : Mo} (hF : RF (Mo_now mo) a) (hS : Sol mo a) {n : Nat} {l : Nat → Nat} (hL : LR li mo n l) (hl : ∀ k, k < n → l k < a 60) : ∃ (s : Int32 × Mo), lp gX6_writeLine_11 1000 (0, Mo_set_signed mo 0) = some s ∧ KP mo s.2 ∧ Mo_signed s.2 = nI (2 * n - 1) ∧ ∀ k, k < 2 * n - 1 → Mo_signs s.2 k = sqT a l k := by
  have hN := hV.1
  obtain ⟨l1, l2, l3, l4⟩ := hL
  refine lp_J (σ := Int32 × Mo) (ρ := Int32 × Mo) (fun i s => ∃ S, s = (nI i, Mo_set_signed (Mo_set_signs mo S) (nI (min (2 * i) (2 * n - 1)))) ∧ ∀ k, k < min (2 * i) (2 * n - 1) → S k = sqT a l k) n _ (by omega) ⟨Mo_signs mo, ?_, fun k hk => by omega⟩ ?_ ?_
  · rw [show min (2 * 0) (2 * n - 1) = 0 from by omega]
    rfl
  · rintro i s hi ⟨S, rfl, h⟩
    have hli := hl i hi
    rw [show min (2 * i) (2 * n - 1) = 2 * i from by omega] at h ⊢
    have h1 := upd_ext h
    have hw1 := r_write (mo := Mo_set_signed (Mo_set_signs mo S) (nI (2 * i))) (s := 2 * i) rfl (by omega) (sqT a l (2 * i))
    by_cases e : n ≤ i + 1
    · refine ⟨(nI (i + 1), Mo_set_signed (Mo_set_signs mo (upd S (2 * i) (sqT a l (2 * i)))) (nI (min (2 * (i + 1)) (2 * n - 1)))), ⟨upd S (2 * i) (sqT a l (2 * i)), rfl, fun k hk => h1 k (by omega)⟩, fun rec => ?_⟩
      show (if Mo_lined mo ≤ nI i then _ else (rdI (Mo_line mo) 16 (nI i)).bind fun v2 => (fX6_write (Mo_set_signed (Mo_set_signs mo S) (nI (2 * i))) (nI 97 + v2)).bind fun v3 => (if Mo_lined v3 ≤ nI i + 1 then some v3 else _).bind fun v4 => rec (nI i + 1, v4)) = _
      rw [l3, if_neg (nI_ge hi (by omega)), rdI_n (by omega) (by omega), Option.bind_some, (l4 i hi).2, nI_add, ← sqT_e a l i, hw1, Option.bind_some]
      show (if Mo_lined mo ≤ nI i + 1 then some (Mo_set_signed (Mo_set_signs mo (upd S (2 * i) (sqT a l (2 * i)))) (nI (2 * i + 1))) else _).bind _ = _
      rw [l3, nI_1, if_pos (nI_le e (by omega)), Option.bind_some, show min (2 * (i + 1)) (2 * n - 1) = 2 * i + 1 from by omega]
    · have hli2 := hl (i + 1) (by omega)
      have h2 := upd_ext h1
      have hw2 := r_write (mo := Mo_set_signed (Mo_set_signs mo (upd S (2 * i) (sqT a l (2 * i)))) (nI (2 * i + 1))) (s := 2 * i + 1) rfl (by omega) (sqT a l (2 * i + 1))
      have hO := oJ hV (show l i < 3 by omega) (show l (i + 1) < 3 by omega)
      refine ⟨(nI (i + 1), Mo_set_signed (Mo_set_signs mo (upd (upd S (2 * i) (sqT a l (2 * i))) (2 * i + 1) (sqT a l (2 * i + 1)))) (nI (min (2 * (i + 1)) (2 * n - 1)))), ⟨upd (upd S (2 * i) (sqT a l (2 * i))) (2 * i + 1) (sqT a l (2 * i + 1)), rfl, fun k hk => h2 k (by omega)⟩, fun rec => ?_⟩
      show (if Mo_lined mo ≤ nI i then _ else (rdI (Mo_line mo) 16 (nI i)).bind fun v2 => (fX6_write (Mo_set_signed (Mo_set_signs mo S) (nI (2 * i))) (nI 97 + v2)).bind fun v3 => (if Mo_lined v3 ≤ nI i + 1 then some v3 else (rdI (Mo_line v3) 16 (nI i)).bind fun v6 => (rdI (Mo_line v3) 16 (nI i + 1)).bind fun v7 => (fX6_overOf v3 v6 v7).bind fun v8 => (fX6_write v3 (if v8 ≤ (0 : Int64) then (if (0 : Int64) ≤ v8 then (61 : Int32) else (45 : Int32)) else (43 : Int32))).bind fun v11 => some v11).bind fun v4 => rec (nI i + 1, v4)) = _
      rw [l3, if_neg (nI_ge hi (by omega)), rdI_n (by omega) (by omega), Option.bind_some, (l4 i hi).2, nI_add, ← sqT_e a l i, hw1, Option.bind_some]
      show (if Mo_lined mo ≤ nI i + 1 then _ else (rdI (Mo_line mo) 16 (nI i)).bind fun v6 => (rdI (Mo_line mo) 16 (nI i + 1)).bind fun v7 => (fX6_overOf (Mo_set_signed (Mo_set_signs mo (upd S (2 * i) (sqT a l (2 * i)))) (nI (2 * i + 1))) v6 v7).bind fun v8 => (fX6_write (Mo_set_signed (Mo_set_signs mo (upd S (2 * i) (sqT a l (2 * i)))) (nI (2 * i + 1))) (if v8 ≤ (0 : Int64) then (if (0 : Int64) ≤ v8 then (61 : Int32) else (45 : Int32)) else (43 : Int32))).bind fun v11 => some v11).bind _ = _
      rw [l3, nI_1, if_neg (nI_ge (by omega) (by omega)), rdI_n (by omega) (by omega), Option.bind_some, rdI_n (by omega) (by omega), Option.bind_some, (l4 i hi).2, (l4 (i + 1) (by omega)).2, r_over (mo := Mo_set_signed (Mo_set_signs mo (upd S (2 * i) (sqT a l (2 * i)))) (nI (2 * i + 1))) hV hF hS (by omega) (by omega), Option.bind_some, r_sign hO, ← sqT_o a l i, hw2, Option.bind_some, Option.bind_some, show min (2 * (i + 1)) (2 * n - 1) = 2 * i + 1 + 1 from by omega]
  · rintro s ⟨S, rfl, h⟩
    refine ⟨(nI n, Mo_set_signed (Mo_set_signs mo S) (nI (min (2 * n) (2 * n - 1)))), ⟨⟨_, _, rfl⟩, ?_, fun k hk => h k (by omega)⟩, fun rec => ?_⟩
    · show nI (min (2 * n) (2 * n - 1)) = _
      rw [show min (2 * n) (2 * n - 1) = 2 * n - 1 from by omega]
    · show (if Mo_lined mo ≤ nI n then _ else _) = _
      rw [l3, if_pos (Int32.le_refl _)]
theorem LR.same {li : Li} {mo mo' : Mo} {n : Nat} {l : Nat → Nat} (h : LR li mo n l) (hs : Same mo mo') : LR li mo' n l := by
  obtain ⟨h1, h2, h3, h4⟩ := h
  refine ⟨h1, h2, hs.2.1.trans h3, fun k hk => ⟨(h4 k hk).1, ?_⟩⟩
  rw [hs.2.2.1]
  exact (h4 k hk).2
theorem RF.same {mo mo' : Mo} {a : Nat → Nat} (h : RF (Mo_now mo) a) (hs : Same mo mo') : RF (Mo_now mo') a := by
  rw [hs.1]
  exact h
theorem text_ok {z : Fo} {a : Nat → Nat} (hV : Valid a) (hC : CF z a) {ev : Ev} (hE : EvOK ev a) {li : Li} {mo : Mo} (hF : RF (Mo_now mo) a) {n : Nat} {l : Nat → Nat} (hL : LR li mo n l) (hl : ∀ k, k < n → l k < a 60) (te : Te) : ∃ te' mo' s, fX2_written li te ev z = some te' ∧ fX6_writeLine mo = some mo' ∧ Same mo mo' ∧ Sol mo' a ∧ TR te' mo' s ∧ s ≤ 80 := by
  obtain ⟨mo1, e1, e2, e3⟩ := r_solve hV hF
  have hF1 := hF.same e2
  have hL1 := hL.same e2
  have hn := hL.1
  obtain ⟨hb, hb2, _, _⟩ := NS hV
  obtain ⟨s1, f1, f2, f3⟩ := c_line hV hC hE hL hl te
  obtain ⟨s2, g1, g2, g3, g4⟩ := r_line hV hF1 e3 hL1 hl
  have t0 : TR s1.2 s2.2 (2 * n - 1) := ⟨f2, g3, fun k hk => (f3 k hk).trans (g4 k hk).symm⟩
  obtain ⟨te3, mo3, h1, h2, h3, h4⟩ := tr_add t0 (by omega) 58
  have k3 := g2.trans h4
  obtain ⟨P, Q, p1, p2, p3, p4, p5, p6⟩ := frac (wd2_b hV hn hl) (Y := 8 * bI a) (by omega) (by omega)
  obtain ⟨te4, mo4, s4, i1, i2, i3, i4, i5⟩ := tr_number p1 h3 (by omega)
  obtain ⟨te5, mo5, j1, j2, j3, j4⟩ := tr_add i3 (by omega) 47
  obtain ⟨te6, mo6, s6, q1, q2, q3, q4, q5⟩ := tr_number p2 j3 (by omega)
  have k5 := k3.trans (i5.trans j4)
  have k6 := k5.trans q5
  refine ⟨te6, mo6, s6, ?_, ?_, e2.trans k6.same, k6.sol e3, q3, by omega⟩
  · unfold fX2_written fX4_makeEmpty
    rw [Option.bind_some, f1, Option.bind_some, c_wide hV hC hE hL hl, Option.bind_some, h1, Option.bind_some, c_spaceBelow hV hE, Option.bind_some, p3, Option.bind_some, i1, Option.bind_some, j1, Option.bind_some, Option.bind_some, p5, Option.bind_some, q1, Option.bind_some]
  · unfold fX6_writeLine
    have w3 := r_wide hV (hF1.same k3.same) (k3.sol e3) (hL1.same k3.same) hl
    have w5 := r_wide hV (hF1.same k5.same) (k5.sol e3) (hL1.same k5.same) hl
    rw [e1, Option.bind_some, g1, Option.bind_some, h2, Option.bind_some, w3, Option.bind_some, r_8b hV (k3.sol e3).1, p4, Option.bind_some, i2, Option.bind_some, j2, Option.bind_some, w5, Option.bind_some, r_8b hV (k5.sol e3).1, p6, Option.bind_some, q2, Option.bind_some]
