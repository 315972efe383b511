/-! ===== weight, bound, letters, set, wipe, place, back ===== -/
theorem c_hasPair {z : Fo} {a : Nat → Nat} (hV : Valid a) (hC : CF z a) (x y : Int32) : fX1_hasPair z x y = some (if W01 x (nI 0) (nI (a 60 - 1)) = 0 then 0 else if W01 y (nI 0) (nI (a 60 - 1)) = 0 then 0 else 1) := by
  unfold fX1_hasPair
  rw [c_hasLetter hV hC, Option.bind_some]
  by_cases c1 : W01 x (nI 0) (nI (a 60 - 1)) = 0
  · rw [if_pos c1, if_pos c1]; rfl
  · rw [if_neg c1, if_neg c1, c_hasLetter hV hC, Option.bind_some]
    by_cases c2 : W01 y (nI 0) (nI (a 60 - 1)) = 0
    · rw [if_pos c2, if_pos c2]; rfl
    · rw [if_neg c2, if_neg c2]; rfl
theorem sim_weight (X : Ev → (Nat → Nat) → Prop) : Sim_weight (RelX X) := by
  intro z ev li te pa im mo x1 x2 x3 hR
  have hR0 := hR
  obtain ⟨a, n, l, m, u, g, b, hV, hC, hF, hL, hLl, hU, hI, hE⟩ := hR
  have hN := hV.1
  by_cases c1 : W01 x1 (nI 0) (nI (a 60 - 1)) = 0
  · refine ⟨-1000000001, z, ev, pa, mo, ?_, ?_, hR0⟩
    · unfold fX5_weight
      rw [c_hasPair hV hC, if_pos c1, Option.bind_some, if_pos rfl]
    · unfold fX6_weight
      rw [r_isLetter hV hF, Option.bind_some, if_pos c1]
  by_cases c2 : W01 x2 (nI 0) (nI (a 60 - 1)) = 0
  · refine ⟨-1000000001, z, ev, pa, mo, ?_, ?_, hR0⟩
    · unfold fX5_weight
      rw [c_hasPair hV hC, if_neg c1, if_pos c2, Option.bind_some, if_pos rfl]
    · unfold fX6_weight
      rw [r_isLetter hV hF, Option.bind_some, if_neg c1, r_isLetter hV hF, Option.bind_some, if_pos c2]
  by_cases c3 : W01 x3 (nI 0) (nI 4) = 0
  · refine ⟨-1000000002, z, ev, pa, mo, ?_, ?_, hR0⟩
    · unfold fX5_weight
      rw [c_hasPair hV hC, if_neg c1, if_neg c2, Option.bind_some, if_neg (by decide), c_in (l := 0) (h := 4) 0 4 rfl rfl, Option.bind_some, if_pos c3]
    · unfold fX6_weight
      rw [r_isLetter hV hF, Option.bind_some, if_neg c1, r_isLetter hV hF, Option.bind_some, if_neg c2, r_in (l := 0) (h := 4) 0 4 rfl rfl, Option.bind_some, if_pos c3, Option.bind_some]
  obtain ⟨i, -, hi, rfl⟩ := W01_yes (by omega) c1 (by omega)
  obtain ⟨j, -, hj, rfl⟩ := W01_yes (by omega) c2 (by omega)
  obtain ⟨v, -, hv, rfl⟩ := W01_yes (by omega) c3 (by omega)
  obtain ⟨ev1, pa1, Q, m1, u1, e1, e2, e3, e4⟩ := change_ok (ev := ev) li te im hV hC hF hU
  refine ⟨nI (a (51 + (3 * i + j))), Fo_set_weights z (upd (Fo_weights z) (3 * i + j) (nI v)), ev1, pa1, Mo_set_now (Mo_set_undos (Mo_set_past mo Q) (nI m1)) (upd (Mo_now mo) (51 + (3 * i + j)) (nI v)), ?_, ?_, upN a (51 + (3 * i + j)) v, n, l, m1, u1, g, b, hV.weight (by omega) (by omega) hv, hC.weight (by omega), hF.up _ _, hL, fun k hk => by rw [upN_n (by omega)]; exact hLl k hk, e4, hI, Or.inl e3⟩
  · unfold fX5_weight
    rw [c_hasPair hV hC, if_neg c1, if_neg c2, Option.bind_some, if_neg (by decide), c_in (l := 0) (h := 4) 0 4 rfl rfl, Option.bind_some, if_neg c3, e1, Option.bind_some, c_weightOf z (by omega) (by omega), Option.bind_some, c_putWeight z _ (by omega) (by omega), Option.bind_some, hC.2.2.2.2.2 _ (by omega)]
  · unfold fX6_weight
    rw [r_isLetter hV hF, Option.bind_some, if_neg c1, r_isLetter hV hF, Option.bind_some, if_neg c2, r_in (l := 0) (h := 4) 0 4 rfl rfl, Option.bind_some, if_neg c3, show (51 : Int32) = nI 51 from rfl, show (3 : Int32) = nI 3 from rfl, nI_mul, nI_add, nI_add, show 51 + 3 * i + j = 51 + (3 * i + j) by omega, r_become e2 rfl (by omega), Option.bind_some, Option.bind_some, ← hF _ (by omega)]
theorem W01_lit (x : Int32) (h : W01 x (nI 0) (nI 1) = 0) : ¬ x = 0 ∧ ¬ x = 1 := by
  refine ⟨fun q => ?_, fun q => ?_⟩
  · subst q; exact absurd h (by decide)
  · subst q; exact absurd h (by decide)
theorem sim_bound (X : Ev → (Nat → Nat) → Prop) : Sim_bound (RelX X) := by
  intro z ev li te pa im mo x1 x2 hR
  have hR0 := hR
  obtain ⟨a, n, l, m, u, g, b, hV, hC, hF, hL, hLl, hU, hI, hE⟩ := hR
  have hN := hV.1
  by_cases c1 : W01 x1 (nI 0) (nI 1) = 0
  · obtain ⟨k0, k1⟩ := W01_lit x1 c1
    refine ⟨-1000000002, z, ev, pa, mo, ?_, ?_, hR0⟩
    · unfold fX5_bound
      rw [if_neg k0, if_neg k1]
    · unfold fX6_bound
      rw [r_in (l := 0) (h := 1) 0 1 rfl rfl, Option.bind_some, if_pos c1]
  obtain ⟨ev1, pa1, Q, m1, u1, e1, e2, e3, e4⟩ := change_ok (ev := ev) li te im hV hC hF hU
  obtain ⟨i, -, hi, rfl⟩ := W01_yes (by omega) c1 (by omega)
  rcases (show i = 0 ∨ i = 1 by omega) with rfl | rfl
  · by_cases c2 : W01 x2 (nI 1) (nI 60) = 0
    · refine ⟨-1000000002, z, ev, pa, mo, ?_, ?_, hR0⟩
      · unfold fX5_bound
        rw [if_pos (by decide), c_in (l := 1) (h := 60) 1 60 rfl rfl, Option.bind_some, if_pos c2, if_neg (by decide)]
      · unfold fX6_bound
        rw [r_in (l := 0) (h := 1) 0 1 rfl rfl, Option.bind_some, if_neg c1, if_pos (by decide), if_pos (by decide), r_in (l := 1) (h := 60) 1 60 rfl rfl, Option.bind_some, if_pos c2]
    obtain ⟨v, hv1, hv, rfl⟩ := W01_yes (by omega) c2 (by omega)
    refine ⟨nI (a 61), Fo_set_depth z (nI v), ev1, pa1, Mo_set_now (Mo_set_undos (Mo_set_past mo Q) (nI m1)) (upd (Mo_now mo) 61 (nI v)), ?_, ?_, upN a 61 v, n, l, m1, u1, g, b, hV.depth ⟨hv1, hv⟩, hC.depth v, hF.up _ _, hL, fun k hk => by rw [upN_n (by omega)]; exact hLl k hk, e4, hI, Or.inl e3⟩
    · unfold fX5_bound
      rw [if_pos (by decide), c_in (l := 1) (h := 60) 1 60 rfl rfl, Option.bind_some, if_neg c2, e1, Option.bind_some, hC.2.1]
    · unfold fX6_bound
      rw [r_in (l := 0) (h := 1) 0 1 rfl rfl, Option.bind_some, if_neg c1, if_pos (by decide), if_pos (by decide), r_in (l := 1) (h := 60) 1 60 rfl rfl, Option.bind_some, if_neg c2, if_pos (by decide), show (61 : Int32) = nI 61 from rfl, r_become e2 rfl (by omega), Option.bind_some, ← hF _ (by omega)]
  · by_cases c2 : W01 x2 (nI 0) (nI 500) = 0
    · refine ⟨-1000000002, z, ev, pa, mo, ?_, ?_, hR0⟩
      · unfold fX5_bound
        rw [if_neg (by decide), if_pos (by decide), c_in (l := 0) (h := 500) 0 500 rfl rfl, Option.bind_some, if_pos c2]
      · unfold fX6_bound
        rw [r_in (l := 0) (h := 1) 0 1 rfl rfl, Option.bind_some, if_neg c1, if_neg (by decide), if_neg (by decide), r_in (l := 0) (h := 500) 0 500 rfl rfl, Option.bind_some, if_pos c2]
    obtain ⟨v, hv1, hv, rfl⟩ := W01_yes (by omega) c2 (by omega)
    refine ⟨nI (a 62), Fo_set_wanted z (nI v), ev1, pa1, Mo_set_now (Mo_set_undos (Mo_set_past mo Q) (nI m1)) (upd (Mo_now mo) 62 (nI v)), ?_, ?_, upN a 62 v, n, l, m1, u1, g, b, hV.wanted hv, hC.wanted v, hF.up _ _, hL, fun k hk => by rw [upN_n (by omega)]; exact hLl k hk, e4, hI, Or.inl e3⟩
    · unfold fX5_bound
      rw [if_neg (by decide), if_pos (by decide), c_in (l := 0) (h := 500) 0 500 rfl rfl, Option.bind_some, if_neg c2, e1, Option.bind_some, hC.2.2.1]
    · unfold fX6_bound
      rw [r_in (l := 0) (h := 1) 0 1 rfl rfl, Option.bind_some, if_neg c1, if_neg (by decide), if_neg (by decide), r_in (l := 0) (h := 500) 0 500 rfl rfl, Option.bind_some, if_neg c2, if_neg (by decide), show (62 : Int32) = nI 62 from rfl, r_become e2 rfl (by omega), Option.bind_some, ← hF _ (by omega)]
/-- all anew, N letters -/
def newA (a : Nat → Nat) (N : Nat) : Nat → Nat := fun k => if k = 60 then N else if 60 < k then a k else if 48 ≤ k ∧ k ≤ 50 then 10 else 0
theorem newA_valid {a : Nat → Nat} (h : Valid a) {N : Nat} (hN : 1 ≤ N ∧ N ≤ 3) : Valid (newA a N) := by
  refine ⟨hN, h.2.1, h.2.2.1, fun k hk => ?_, fun k hk => ?_, fun k hk => ?_, fun i j hi hj hh => ?_⟩
  · unfold newA
    rw [if_neg (by omega), if_neg (by omega), if_neg (by omega)]
    omega
  · unfold newA
    rw [if_neg (by omega), if_neg (by omega), if_pos (by omega)]
    omega
  · unfold newA
    rw [if_neg (by omega), if_neg (by omega), if_neg (by omega)]
    omega
  · unfold newA
    rw [if_neg (by omega), if_neg (by omega), if_neg (by omega)]
theorem fill_step {α : Type} (f : Nat → α) (g : Nat → α) (i : Nat) (upd' : (Nat → α) → Nat → α → Nat → α) (hu : ∀ F k x q, upd' F k x q = if q = k then x else F q) : upd' (fun q => if q < i then f q else g q) i (f i) = fun q => if q < i + 1 then f q else g q := by
  funext q
  rw [hu]
  by_cases h1 : q = i
  · rw [if_pos h1, if_pos (by omega), h1]
  · rw [if_neg h1]
    by_cases h2 : q < i
    · rw [if_pos h2, if_pos (by omega)]
    · rw [if_neg h2, if_neg (by omega)]
theorem fill_i (f g : Nat → Int32) (i : Nat) : upd (fun q => if q < i then f q else g q) i (f i) = fun q => if q < i + 1 then f q else g q := fill_step f g i upd (fun _ _ _ _ => rfl)
theorem fill_0 {α : Type} (f g : Nat → α) : (fun q => if q < 0 then f q else g q) = g := funext fun q => if_neg (by omega)
theorem c_anew1 (z : Fo) (x : Int32) : lp (gX1_startAnew_7 x) 1000 (0, z) = some (nI 3, Fo_set_bodies z (fun q => if q < 3 then 10 else Fo_bodies z q)) := by
  have h0 : ((0 : Int32), z) = (nI 0, Fo_set_bodies z (fun q => if q < 0 then 10 else Fo_bodies z q)) := by rw [fill_0 (fun _ => 10)]; rfl
  rw [h0]
  refine lp_k (fun i => (nI i, Fo_set_bodies z (fun q => if q < i then 10 else Fo_bodies z q))) 3 (by omega) ?_ ?_
  · intro i hi rec
    show (if nI 3 ≤ nI i then _ else (wrI (fun q => if q < i then 10 else Fo_bodies z q) 3 (nI i) 10).bind fun v2 => rec (nI i + 1, Fo_set_bodies z v2)) = _
    rw [if_neg (nI_ge (a := i) (b := 3) (by omega) (by omega)), wrI_n (by omega) (by omega), Option.bind_some, nI_1, fill_i (fun _ => 10)]
  · intro rec
    show (if (3 : Int32) ≤ nI 3 then some (nI 3, Fo_set_bodies z _) else _) = _
    rw [if_pos (by decide)]
theorem c_anew2 (z : Fo) (x : Int32) : lp (gX1_startAnew_32 x) 1000 (0, z) = some (nI 48, Fo_set_backs z (fun q => if q < 48 then 0 else Fo_backs z q)) := by
  have h0 : ((0 : Int32), z) = (nI 0, Fo_set_backs z (fun q => if q < 0 then 0 else Fo_backs z q)) := by rw [fill_0 (fun _ => 0)]; rfl
  rw [h0]
  refine lp_k (fun i => (nI i, Fo_set_backs z (fun q => if q < i then 0 else Fo_backs z q))) 48 (by omega) ?_ ?_
  · intro i hi rec
    show (if nI 48 ≤ nI i then _ else (wrI (fun q => if q < i then 0 else Fo_backs z q) 48 (nI i) 0).bind fun v2 => rec (nI i + 1, Fo_set_backs z v2)) = _
    rw [if_neg (nI_ge (a := i) (b := 48) (by omega) (by omega)), wrI_n (by omega) (by omega), Option.bind_some, nI_1, fill_i (fun _ => 0)]
  · intro rec
    show (if (48 : Int32) ≤ nI 48 then some (nI 48, Fo_set_backs z _) else _) = _
    rw [if_pos (by decide)]
theorem c_anew3 (z : Fo) (x : Int32) : lp (gX1_startAnew_56 x) 1000 (0, z) = some (nI 9, Fo_set_weights z (fun q => if q < 9 then 0 else Fo_weights z q)) := by
  have h0 : ((0 : Int32), z) = (nI 0, Fo_set_weights z (fun q => if q < 0 then 0 else Fo_weights z q)) := by rw [fill_0 (fun _ => 0)]; rfl
  rw [h0]
  refine lp_k (fun i => (nI i, Fo_set_weights z (fun q => if q < i then 0 else Fo_weights z q))) 9 (by omega) ?_ ?_
  · intro i hi rec
    show (if nI 9 ≤ nI i then _ else (wrI (fun q => if q < i then 0 else Fo_weights z q) 9 (nI i) 0).bind fun v2 => rec (nI i + 1, Fo_set_weights z v2)) = _
    rw [if_neg (nI_ge (a := i) (b := 9) (by omega) (by omega)), wrI_n (by omega) (by omega), Option.bind_some, nI_1, fill_i (fun _ => 0)]
  · intro rec
    show (if (9 : Int32) ≤ nI 9 then some (nI 9, Fo_set_weights z _) else _) = _
    rw [if_pos (by decide)]
theorem c_startAnew {z : Fo} {a : Nat → Nat} (h2 : Fo_depth z = nI (a 61)) (h3 : Fo_wanted z = nI (a 62)) (N : Nat) : ∃ z', fX1_startAnew z (nI N) = some z' ∧ CF z' (newA a N) := by
  refine ⟨Fo_set_weights (Fo_set_backs (Fo_set_bodies (Fo_set_many z (nI N)) (fun q => if q < 3 then 10 else Fo_bodies z q)) (fun q => if q < 48 then 0 else Fo_backs z q)) (fun q => if q < 9 then 0 else Fo_weights z q), ?_, rfl, h2, h3, fun k hk => ?_, fun k hk => ?_, fun k hk => ?_⟩
  · unfold fX1_startAnew
    rw [c_anew1, Option.bind_some, c_anew2, Option.bind_some, c_anew3, Option.bind_some]
  · show (if k < 3 then (10 : Int32) else _) = _
    unfold newA
    rw [if_pos hk, if_neg (by omega), if_neg (by omega), if_pos (by omega)]
    rfl
  · show (if k < 48 then (0 : Int32) else _) = _
    unfold newA
    rw [if_pos hk, if_neg (by omega), if_neg (by omega), if_neg (by omega)]
    rfl
  · show (if k < 9 then (0 : Int32) else _) = _
    unfold newA
    rw [if_pos hk, if_neg (by omega), if_neg (by omega), if_neg (by omega)]
    rfl
theorem r_begin1 (o : Mo) (x : Int32) : lp (gX6_beginLetters_2 x) 1000 (0, o) = some (nI 60, Mo_set_now o (fun q => if q < 60 then (if 48 ≤ q ∧ q ≤ 50 then 10 else 0) else Mo_now o q)) := by
  have h0 : ((0 : Int32), o) = (nI 0, Mo_set_now o (fun q => if q < 0 then (if 48 ≤ q ∧ q ≤ 50 then 10 else 0) else Mo_now o q)) := by rw [fill_0 (fun q => if 48 ≤ q ∧ q ≤ 50 then 10 else 0)]; rfl
  rw [h0]
  refine lp_k (fun i => (nI i, Mo_set_now o (fun q => if q < i then (if 48 ≤ q ∧ q ≤ 50 then 10 else 0) else Mo_now o q))) 60 (by omega) ?_ ?_
  · intro i hi rec
    show (if nI 60 ≤ nI i then _ else (fX6_in (Int32.toInt64 (nI i)) 48 50).bind fun v2 => (wrI (fun q => if q < i then (if 48 ≤ q ∧ q ≤ 50 then 10 else 0) else Mo_now o q) 63 (nI i) (if v2 = 0 then 0 else 10)).bind fun v4 => rec (nI i + 1, Mo_set_now o v4)) = _
    rw [if_neg (nI_ge (a := i) (b := 60) (by omega) (by omega)), r_in (l := 48) (h := 50) 48 50 rfl rfl, Option.bind_some]
    have e : (if W01 (nI i) (nI 48) (nI 50) = 0 then (0 : Int32) else 10) = (if 48 ≤ i ∧ i ≤ 50 then 10 else 0) := by
      by_cases h : 48 ≤ i ∧ i ≤ 50
      · rw [W01_in (by omega) h.1 h.2, if_neg (by decide), if_pos h]
      · rw [if_neg h]
        by_cases c : W01 (nI i) (nI 48) (nI 50) = 0
        · rw [if_pos c]
        · obtain ⟨j, h1, h2, h3⟩ := W01_yes (by omega) c (by omega)
          have := (nI_eq (by omega) (by omega)).mp h3
          omega
    rw [e, wrI_n (by omega) (by omega), Option.bind_some, nI_1, fill_i (fun q => if 48 ≤ q ∧ q ≤ 50 then 10 else 0)]
  · intro rec
    show (if (60 : Int32) ≤ nI 60 then some (nI 60, Mo_set_now o _) else _) = _
    rw [if_pos (by decide)]
theorem r_beginLetters (o : Mo) {a : Nat → Nat} (hF : RF (Mo_now o) a) (N : Nat) : ∃ w, fX6_beginLetters o (nI N) = some (Mo_set_now o w) ∧ RF w (newA a N) := by
  refine ⟨upd (fun q => if q < 60 then (if 48 ≤ q ∧ q ≤ 50 then 10 else 0) else Mo_now o q) 60 (nI N), ?_, fun k hk => ?_⟩
  · unfold fX6_beginLetters
    rw [r_begin1, Option.bind_some, show (60 : Int32) = nI 60 from rfl, wrI_n (by omega) (by omega), Option.bind_some]
  · unfold upd newA
    by_cases h : k = 60
    · rw [if_pos h, if_pos h]
    · rw [if_neg h, if_neg h]
      dsimp only
      by_cases h1 : k < 60
      · rw [if_pos h1, if_neg (show ¬ 60 < k by omega)]
        by_cases h2 : 48 ≤ k ∧ k ≤ 50
        · rw [if_pos h2, if_pos h2]; rfl
        · rw [if_neg h2, if_neg h2]; rfl
      · rw [if_neg h1, if_pos (show 60 < k by omega)]
        exact hF k hk
theorem sim_letters (X : Ev → (Nat → Nat) → Prop) : Sim_letters (RelX X) := by
  intro z ev li te pa im mo x1 hR
  have hR0 := hR
  obtain ⟨a, n, l, m, u, g, b, hV, hC, hF, hL, hLl, hU, hI, hE⟩ := hR
  by_cases c1 : W01 x1 (nI 1) (nI 3) = 0
  · refine ⟨-1000000002, z, ev, li, pa, mo, ?_, ?_, hR0⟩
    · unfold fX5_letters
      rw [c_in (l := 1) (h := 3) 1 3 rfl rfl, Option.bind_some, if_pos c1]
    · unfold fX6_letters
      rw [r_in (l := 1) (h := 3) 1 3 rfl rfl, Option.bind_some, if_pos c1]
  obtain ⟨N, hN1, hN3, rfl⟩ := W01_yes (by omega) c1 (by omega)
  obtain ⟨ev1, pa1, Q, m1, u1, e1, e2, e3, e4⟩ := change_ok (ev := ev) li te im hV hC hF hU
  obtain ⟨z', f1, f2⟩ := c_startAnew hC.2.1 hC.2.2.1 N
  obtain ⟨w, g1, g2⟩ := r_beginLetters (Mo_set_undos (Mo_set_past mo Q) (nI m1)) (a := a) hF N
  refine ⟨nI (a 60), z', ev1, Li_set_many li 0, pa1, Mo_set_lined (Mo_set_now (Mo_set_undos (Mo_set_past mo Q) (nI m1)) w) 0, ?_, ?_, newA a N, 0, l, m1, u1, g, b, newA_valid hV ⟨hN1, hN3⟩, f2, g2, ⟨by omega, rfl, rfl, fun k hk => by omega⟩, fun k hk => by omega, e4, hI, Or.inl e3⟩
  · unfold fX5_letters fX2_makeEmpty
    rw [c_in (l := 1) (h := 3) 1 3 rfl rfl, Option.bind_some, if_neg c1, e1, Option.bind_some, f1, Option.bind_some, Option.bind_some, hC.1]
  · unfold fX6_letters
    rw [r_in (l := 1) (h := 3) 1 3 rfl rfl, Option.bind_some, if_neg c1, e2, Option.bind_some, show (60 : Int32) = nI 60 from rfl, rdI_n (by omega) (by omega), Option.bind_some, g1, Option.bind_some, ← hF 60 (by omega)]
theorem sim_wipe (X : Ev → (Nat → Nat) → Prop) : Sim_wipe (RelX X) := by
  intro z ev li te pa im mo hR
  obtain ⟨a, n, l, m, u, g, b, hV, hC, hF, hL, hLl, hU, hI, hE⟩ := hR
  refine ⟨nI n, Li_set_many li 0, Mo_set_lined mo 0, ?_, ?_, a, 0, l, m, u, g, b, hV, hC, hF, ⟨by omega, rfl, rfl, fun k hk => by omega⟩, fun k hk => by omega, hU, hI, hE⟩
  · unfold fX5_wipe fX2_makeEmpty
    rw [Option.bind_some, hL.2.1]
  · unfold fX6_wipe
    rw [hL.2.2.1]
theorem sim_set (X : Ev → (Nat → Nat) → Prop) : Sim_set (RelX X) := by
  intro z ev li te pa im mo x1 hR
  have hR0 := hR
  obtain ⟨a, n, l, m, u, g, b, hV, hC, hF, hL, hLl, hU, hI, hE⟩ := hR
  have hN := hV.1
  obtain ⟨hn, hl1, hl2, hl3⟩ := hL
  by_cases c1 : W01 x1 (nI 0) (nI (a 60 - 1)) = 0
  · refine ⟨-1000000001, li, mo, ?_, ?_, hR0⟩
    · unfold fX5_set
      rw [c_hasLetter hV hC, Option.bind_some, if_pos c1]
    · unfold fX6_set
      rw [r_isLetter hV hF, Option.bind_some, if_pos c1]
  obtain ⟨i, -, hi, rfl⟩ := W01_yes (by omega) c1 (by omega)
  by_cases c2 : n = 16
  · refine ⟨-1000000004, li, mo, ?_, ?_, hR0⟩
    · unfold fX5_set
      rw [c_hasLetter hV hC, Option.bind_some, if_neg c1, hl1, c2, if_neg (by decide)]
    · unfold fX6_set
      rw [r_isLetter hV hF, Option.bind_some, if_neg c1, hl2, c2, if_pos (by decide)]
  · have h16 : nI n < (16 : Int32) := (nI_ltI (a := n) (b := 16) (by omega) (by omega)).mpr (by omega)
    have h16' : ¬ (16 : Int32) ≤ nI n := nI_ge (a := n) (b := 16) (by omega) (by omega)
    have hne : ¬ nI n = (16 : Int32) := fun q => c2 ((nI_eq (a := n) (b := 16) (by omega) (by omega)).mp q)
    refine ⟨nI (n + 1), Li_set_many (Li_set_places li (upd (Li_places li) n (nI i))) (nI (n + 1)), Mo_set_lined (Mo_set_line mo (upd (Mo_line mo) n (nI i))) (nI (n + 1)), ?_, ?_, a, n + 1, upN l n i, m, u, g, b, hV, hC, hF, ⟨by omega, rfl, rfl, fun k hk => ?_⟩, fun k hk => ?_, hU, hI, hE⟩
    · unfold fX5_set fX2_add
      rw [c_hasLetter hV hC, Option.bind_some, if_neg c1, hl1, if_pos h16, if_neg h16', wrI_n (by omega) (by omega), Option.bind_some, Option.bind_some, Option.bind_some, nI_1]
    · unfold fX6_set
      rw [r_isLetter hV hF, Option.bind_some, if_neg c1, hl2, if_neg hne, wrI_n (by omega) (by omega), Option.bind_some, nI_1]
    · show upd (Li_places li) n (nI i) k = _ ∧ upd (Mo_line mo) n (nI i) k = _
      unfold upd upN
      by_cases h : k = n
      · rw [if_pos h, if_pos h, if_pos h]; exact ⟨rfl, rfl⟩
      · rw [if_neg h, if_neg h, if_neg h]; exact hl3 k (by omega)
    · unfold upN
      by_cases h : k = n
      · rw [if_pos h]; omega
      · rw [if_neg h]; exact hLl k (by omega)
theorem sim_back (X : Ev → (Nat → Nat) → Prop) : Sim_back (RelX X) := by
  intro z ev li te pa im mo x1 x2 x3 hR
  have hR0 := hR
  obtain ⟨a, n, l, m, u, g, b, hV, hC, hF, hL, hLl, hU, hI, hE⟩ := hR
  have hN := hV.1
  by_cases c1 : W01 x1 (nI 0) (nI (a 60 - 1)) = 0
  · refine ⟨-1000000001, ?_, ?_, hR0⟩
    · unfold fX5_back
      rw [c_hasLetter hV hC, Option.bind_some, if_pos c1]
    · unfold fX6_back
      rw [r_isLetter hV hF, Option.bind_some, if_pos c1]
  by_cases c2 : W01 x3 (nI 0) (nI 7) = 0
  · refine ⟨-1000000001, ?_, ?_, hR0⟩
    · unfold fX5_back
      rw [c_hasLetter hV hC, Option.bind_some, if_neg c1, c_isHeight, Option.bind_some, if_pos c2]
    · unfold fX6_back
      rw [r_isLetter hV hF, Option.bind_some, if_neg c1, r_isHeight, Option.bind_some, if_pos c2]
  by_cases c3 : W01 x2 (nI 0) (nI 1) = 0
  · refine ⟨-1000000002, ?_, ?_, hR0⟩
    · unfold fX5_back
      rw [c_hasLetter hV hC, Option.bind_some, if_neg c1, c_isHeight, Option.bind_some, if_neg c2, c_isSide, Option.bind_some, if_pos c3]
    · unfold fX6_back
      rw [r_isLetter hV hF, Option.bind_some, if_neg c1, r_isHeight, Option.bind_some, if_neg c2, r_isSide, Option.bind_some, if_pos c3, Option.bind_some]
  obtain ⟨i, -, hi, rfl⟩ := W01_yes (by omega) c1 (by omega)
  obtain ⟨h, -, hh, rfl⟩ := W01_yes (by omega) c2 (by omega)
  obtain ⟨s, -, hs, rfl⟩ := W01_yes (by omega) c3 (by omega)
  refine ⟨nI (a (16 * i + 8 * s + h)), ?_, ?_, hR0⟩
  · unfold fX5_back
    rw [c_hasLetter hV hC, Option.bind_some, if_neg c1, c_isHeight, Option.bind_some, if_neg c2, c_isSide, Option.bind_some, if_neg c3, c_backOf z (by omega) (by omega) (by omega), Option.bind_some, hC.2.2.2.2.1 _ (by omega)]
  · unfold fX6_back
    rw [r_isLetter hV hF, Option.bind_some, if_neg c1, r_isHeight, Option.bind_some, if_neg c2, r_isSide, Option.bind_some, if_neg c3, r_at, Option.bind_some, rdI_n (by omega) (by omega), Option.bind_some, Option.bind_some, ← hF _ (by omega)]
