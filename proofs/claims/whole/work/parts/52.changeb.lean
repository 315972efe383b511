theorem mo_pu (o : Mo) (A : Nat → Int32) (x : Int32) (B : Nat → Int32) (y : Int32) : Mo_set_undos (Mo_set_past (Mo_set_undos (Mo_set_past o A) x) B) y = Mo_set_undos (Mo_set_past o B) y := rfl
theorem r_tail (o : Mo) {t : Nat} (ht : t < 8) (hu : Mo_undos o = nI t) : ((lp gX6_remember_52 1000 ((0 : Int32), o)).bind fun v4 => some (Mo_set_undos v4.2 (Mo_undos v4.2 + (1 : Int32)))) = some (Mo_set_undos (Mo_set_past o (fun q => if 63 * t ≤ q ∧ q < 63 * t + 63 then Mo_now o (q - 63 * t) else Mo_past o q)) (nI (t + 1))) := by
  rw [r_store o ht hu, Option.bind_some]
  have e : Mo_undos o + 1 = nI (t + 1) := by rw [hu, nI_1]
  exact congrArg (fun x => some (Mo_set_undos (Mo_set_past o (fun q => if 63 * t ≤ q ∧ q < 63 * t + 63 then Mo_now o (q - 63 * t) else Mo_past o q)) x)) e
theorem r_remember {mo : Mo} {m : Nat} {u : Nat → Nat → Nat} {a : Nat → Nat} (hm : m ≤ 8) (h1 : Mo_undos mo = nI m) (hV : Valid a) (hF : RF (Mo_now mo) a) (hu : ∀ j, j < m → Valid (u j) ∧ ∀ k, k < 63 → Mo_past mo (63 * j + k) = nI (u j k)) :
    ∃ P, fX6_remember mo = some (Mo_set_undos (Mo_set_past mo P) (nI (min (m + 1) 8))) ∧ ∀ j, j < min (m + 1) 8 → Valid (pushU m u a j) ∧ ∀ k, k < 63 → P (63 * j + k) = nI (pushU m u a j k) := by
  by_cases h : m = 8
  · subst h
    refine ⟨fun q => if 63 * 7 ≤ q ∧ q < 63 * 7 + 63 then Mo_now mo (q - 63 * 7) else (if q < 441 then Mo_past mo (q + 63) else Mo_past mo q), ?_, ?_⟩
    · unfold fX6_remember
      rw [h1, if_pos (show nI 8 = (8 : Int32) from rfl), r_shift, Option.bind_some, Option.bind_some]
      have e7 : Mo_undos mo - 1 = nI 7 := by rw [h1]; rfl
      refine (r_tail _ (t := 7) (by omega) e7).trans ?_
      exact congrArg some (mo_pu mo _ _ _ _)
    · intro j hj
      unfold pushU
      rw [if_pos rfl]
      by_cases h7 : j = 7
      · subst h7
        rw [if_pos rfl]
        refine ⟨hV, fun k hk => ?_⟩
        show (if 63 * 7 ≤ 63 * 7 + k ∧ 63 * 7 + k < 63 * 7 + 63 then Mo_now mo (63 * 7 + k - 63 * 7) else _) = _
        rw [if_pos (by omega), Nat.add_sub_cancel_left]
        exact hF k hk
      · rw [if_neg h7]
        refine ⟨(hu (j + 1) (by omega)).1, fun k hk => ?_⟩
        show (if 63 * 7 ≤ 63 * j + k ∧ 63 * j + k < 63 * 7 + 63 then _ else (if 63 * j + k < 441 then Mo_past mo (63 * j + k + 63) else _)) = _
        rw [if_neg (by omega), if_pos (by omega), ← (hu (j + 1) (by omega)).2 k hk]
        congr 1
        omega
  · refine ⟨fun q => if 63 * m ≤ q ∧ q < 63 * m + 63 then Mo_now mo (q - 63 * m) else Mo_past mo q, ?_, ?_⟩
    · unfold fX6_remember
      rw [h1, if_neg (show ¬ nI m = (8 : Int32) from fun q => h ((nI_eq (by omega) (by omega)).mp (show nI m = nI 8 from q))), Option.bind_some]
      refine (r_tail _ (t := m) (by omega) h1).trans ?_
      rw [show min (m + 1) 8 = m + 1 by omega]
    · intro j hj
      unfold pushU
      rw [if_neg h]
      by_cases hjm : j = m
      · subst hjm
        rw [if_pos rfl]
        refine ⟨hV, fun k hk => ?_⟩
        show (if 63 * j ≤ 63 * j + k ∧ 63 * j + k < 63 * j + 63 then Mo_now mo (63 * j + k - 63 * j) else _) = _
        rw [if_pos (by omega), Nat.add_sub_cancel_left]
        exact hF k hk
      · rw [if_neg hjm]
        refine ⟨(hu j (by omega)).1, fun k hk => ?_⟩
        show (if 63 * m ≤ 63 * j + k ∧ 63 * j + k < 63 * m + 63 then _ else Mo_past mo (63 * j + k)) = _
        rw [if_neg (by omega)]
        exact (hu j (by omega)).2 k hk
/-- ahead of a change, on both sides -/
theorem change_ok {z : Fo} {ev : Ev} (li : Li) (te : Te) {pa : Pa} (im : Im) {mo : Mo} {a : Nat → Nat} {m : Nat} {u : Nat → Nat → Nat} (hV : Valid a) (hC : CF z a) (hF : RF (Mo_now mo) a) (hU : UR pa mo m u) :
    ∃ ev1 pa1 P m1 u1, fX5_beginChange z ev li te pa im = some (ev1, pa1) ∧ fX6_remember mo = some (Mo_set_undos (Mo_set_past mo P) (nI m1)) ∧ Ev_found ev1 = 0 ∧ UR pa1 (Mo_set_undos (Mo_set_past mo P) (nI m1)) m1 u1 := by
  obtain ⟨hm, h1, h2, h3, h4⟩ := hU
  obtain ⟨pa', e1, e2, e3⟩ := c_remember hC hm h1 h3
  obtain ⟨P, e4, e5⟩ := r_remember hm h2 hV hF h4
  refine ⟨Ev_set_found (Ev_set_below ev (Ev_below (Ev_set_found ev 0))) (Ev_found (Ev_set_found ev 0)), pa', P, min (m + 1) 8, pushU m u a, ?_, e4, ?_, by omega, e2, rfl, e3, e5⟩
  · unfold fX5_beginChange fX0_forget
    rw [e1, Option.bind_some, Option.bind_some]
  · rfl
