/-! ===== letters, side, body, bound, weight ===== -/
theorem Valid.back {a : Nat → Nat} (h : Valid a) {p v : Nat} (hp : p < 48) (hv : v ≤ 30) : Valid (upN a p v) := by
  obtain ⟨h1, h2, h3, h4, h5, h6, h7⟩ := h
  refine ⟨by rw [upN_n (by omega)]; exact h1, by rw [upN_n (by omega)]; exact h2, by rw [upN_n (by omega)]; exact h3, fun k hk => ?_, fun k hk => by rw [upN_n (by omega)]; exact h5 k hk, fun k hk => by rw [upN_n (by omega)]; exact h6 k hk, fun i j hi hj hh => ?_⟩
  · unfold upN
    split
    · exact hv
    · exact h4 k hk
  · rw [upN_n (by omega)] at hh ⊢
    exact h7 i j hi hj hh
theorem Valid.body {a : Nat → Nat} (h : Valid a) {p v : Nat} (hp : p < 3) (hv : 1 ≤ v ∧ v ≤ 50) : Valid (upN a (48 + p) v) := by
  obtain ⟨h1, h2, h3, h4, h5, h6, h7⟩ := h
  refine ⟨by rw [upN_n (by omega)]; exact h1, by rw [upN_n (by omega)]; exact h2, by rw [upN_n (by omega)]; exact h3, fun k hk => by rw [upN_n (by omega)]; exact h4 k hk, fun k hk => ?_, fun k hk => by rw [upN_n (by omega)]; exact h6 k hk, fun i j hi hj hh => ?_⟩
  · unfold upN
    split
    · exact hv
    · exact h5 k hk
  · rw [upN_n (by omega)] at hh ⊢
    exact h7 i j hi hj hh
theorem Valid.weight {a : Nat → Nat} (h : Valid a) {i0 j0 v : Nat} (hi0 : i0 < a 60) (hj0 : j0 < a 60) (hv : v ≤ 4) : Valid (upN a (51 + (3 * i0 + j0)) v) := by
  obtain ⟨h1, h2, h3, h4, h5, h6, h7⟩ := h
  refine ⟨by rw [upN_n (by omega)]; exact h1, by rw [upN_n (by omega)]; exact h2, by rw [upN_n (by omega)]; exact h3, fun k hk => by rw [upN_n (by omega)]; exact h4 k hk, fun k hk => by rw [upN_n (by omega)]; exact h5 k hk, fun k hk => ?_, fun i j hi hj hh => ?_⟩
  · unfold upN
    split
    · exact hv
    · exact h6 k hk
  · rw [upN_n (by omega)] at hh
    rw [upN_n (by omega)]
    exact h7 i j hi hj hh
theorem Valid.depth {a : Nat → Nat} (h : Valid a) {v : Nat} (hv : 1 ≤ v ∧ v ≤ 60) : Valid (upN a 61 v) := by
  obtain ⟨h1, h2, h3, h4, h5, h6, h7⟩ := h
  refine ⟨by rw [upN_n (by omega)]; exact h1, by rw [upN_s]; exact hv, by rw [upN_n (by omega)]; exact h3, fun k hk => by rw [upN_n (by omega)]; exact h4 k hk, fun k hk => by rw [upN_n (by omega)]; exact h5 k hk, fun k hk => by rw [upN_n (by omega)]; exact h6 k hk, fun i j hi hj hh => ?_⟩
  rw [upN_n (by omega)] at hh ⊢
  exact h7 i j hi hj hh
theorem Valid.wanted {a : Nat → Nat} (h : Valid a) {v : Nat} (hv : v ≤ 500) : Valid (upN a 62 v) := by
  obtain ⟨h1, h2, h3, h4, h5, h6, h7⟩ := h
  refine ⟨by rw [upN_n (by omega)]; exact h1, by rw [upN_n (by omega)]; exact h2, by rw [upN_s]; exact hv, fun k hk => by rw [upN_n (by omega)]; exact h4 k hk, fun k hk => by rw [upN_n (by omega)]; exact h5 k hk, fun k hk => by rw [upN_n (by omega)]; exact h6 k hk, fun i j hi hj hh => ?_⟩
  rw [upN_n (by omega)] at hh ⊢
  exact h7 i j hi hj hh
theorem c_place {l s h : Nat} : fX1_placeOfBack (nI l) (nI s) (nI h) = some (nI (16 * l + 8 * s + h)) := by
  unfold fX1_placeOfBack
  rw [show (2 : Int32) = nI 2 from rfl, show (8 : Int32) = nI 8 from rfl, nI_mul, nI_add, nI_mul, nI_add, show (l * 2 + s) * 8 + h = 16 * l + 8 * s + h by omega]
theorem c_backOf (z : Fo) {l s h : Nat} (hl : l < 3) (hs : s < 2) (hh : h < 8) : fX1_backOf z (nI l) (nI s) (nI h) = some (Fo_backs z (16 * l + 8 * s + h)) := by
  unfold fX1_backOf
  rw [c_place, Option.bind_some, rdI_n (by omega) (by omega), Option.bind_some]
theorem c_putBack (z : Fo) {l s h : Nat} (x : Int32) (hl : l < 3) (hs : s < 2) (hh : h < 8) : fX1_putBack z (nI l) (nI s) (nI h) x = some (Fo_set_backs z (upd (Fo_backs z) (16 * l + 8 * s + h) x)) := by
  unfold fX1_putBack
  rw [c_place, Option.bind_some, wrI_n (by omega) (by omega), Option.bind_some]
theorem r_at {l s h : Nat} : fX6_at (nI l) (nI s) (nI h) = some (nI (16 * l + 8 * s + h)) := by
  unfold fX6_at
  rw [show (16 : Int32) = nI 16 from rfl, show (8 : Int32) = nI 8 from rfl, nI_mul, nI_mul, nI_add, nI_add]
theorem c_weightOf (z : Fo) {i j : Nat} (hi : i < 3) (hj : j < 3) : fX1_weightOf z (nI i) (nI j) = some (Fo_weights z (3 * i + j)) := by
  unfold fX1_weightOf
  rw [show (3 : Int32) = nI 3 from rfl, nI_mul, nI_add, rdI_n (by omega) (by omega), Option.bind_some, Nat.mul_comm]
theorem c_putWeight (z : Fo) {i j : Nat} (x : Int32) (hi : i < 3) (hj : j < 3) : fX1_putWeight z (nI i) (nI j) x = some (Fo_set_weights z (upd (Fo_weights z) (3 * i + j) x)) := by
  unfold fX1_putWeight
  rw [show (3 : Int32) = nI 3 from rfl, nI_mul, nI_add, wrI_n (by omega) (by omega), Option.bind_some, Nat.mul_comm]
/-- a place of the reference's row becomes v -/
theorem r_become {mo mo1 : Mo} {w : Nat → Int32} (h : fX6_remember mo = some mo1) (hw : Mo_now mo1 = w) {p : Nat} (hp : p < 63) (x : Int32) : fX6_become mo (nI p) x = some (w p, Mo_set_now mo1 (upd w p x)) := by
  subst hw
  unfold fX6_become
  rw [h, Option.bind_some, rdI_n hp (by omega), Option.bind_some, wrI_n hp (by omega), Option.bind_some]
theorem sim_side (X : Ev → (Nat → Nat) → Prop) : Sim_side (RelX X) := by
  intro z ev li te pa im mo x1 x2 x3 x4 hR
  have hR0 := hR
  obtain ⟨a, n, l, m, u, g, b, hV, hC, hF, hL, hLl, hU, hI, hE⟩ := hR
  have hN := hV.1
  by_cases c1 : W01 x1 (nI 0) (nI (a 60 - 1)) = 0
  · refine ⟨-1000000001, z, ev, pa, mo, ?_, ?_, hR0⟩
    · unfold fX5_side
      rw [c_hasLetter hV hC, Option.bind_some, if_pos c1]
    · unfold fX6_side
      rw [r_isLetter hV hF, Option.bind_some, if_pos c1]
  by_cases c2 : W01 x3 (nI 0) (nI 7) = 0
  · refine ⟨-1000000001, z, ev, pa, mo, ?_, ?_, hR0⟩
    · unfold fX5_side
      rw [c_hasLetter hV hC, Option.bind_some, if_neg c1, c_isHeight, Option.bind_some, if_pos c2]
    · unfold fX6_side
      rw [r_isLetter hV hF, Option.bind_some, if_neg c1, r_isHeight, Option.bind_some, if_pos c2]
  by_cases c3 : W01 x2 (nI 0) (nI 1) = 0
  · refine ⟨-1000000002, z, ev, pa, mo, ?_, ?_, hR0⟩
    · unfold fX5_side
      rw [c_hasLetter hV hC, Option.bind_some, if_neg c1, c_isHeight, Option.bind_some, if_neg c2, c_isSide, Option.bind_some, if_pos c3]
    · unfold fX6_side
      rw [r_isLetter hV hF, Option.bind_some, if_neg c1, r_isHeight, Option.bind_some, if_neg c2, r_isSide, Option.bind_some, if_pos c3, Option.bind_some]
  by_cases c4 : W01 x4 (nI 0) (nI 30) = 0
  · refine ⟨-1000000002, z, ev, pa, mo, ?_, ?_, hR0⟩
    · unfold fX5_side
      rw [c_hasLetter hV hC, Option.bind_some, if_neg c1, c_isHeight, Option.bind_some, if_neg c2, c_isSide, Option.bind_some, if_neg c3, c_in (l := 0) (h := 30) 0 30 rfl rfl, Option.bind_some, if_pos c4]
    · unfold fX6_side
      rw [r_isLetter hV hF, Option.bind_some, if_neg c1, r_isHeight, Option.bind_some, if_neg c2, r_isSide, Option.bind_some, if_neg c3, r_in (l := 0) (h := 30) 0 30 rfl rfl, Option.bind_some, if_pos c4, Option.bind_some]
  obtain ⟨i, -, hi, rfl⟩ := W01_yes (by omega) c1 (by omega)
  obtain ⟨h, -, hh, rfl⟩ := W01_yes (by omega) c2 (by omega)
  obtain ⟨s, -, hs, rfl⟩ := W01_yes (by omega) c3 (by omega)
  obtain ⟨v, -, hv, rfl⟩ := W01_yes (by omega) c4 (by omega)
  obtain ⟨ev1, pa1, Q, m1, u1, e1, e2, e3, e4⟩ := change_ok (ev := ev) li te im hV hC hF hU
  have hp : 16 * i + 8 * s + h < 48 := by omega
  refine ⟨nI (a (16 * i + 8 * s + h)), Fo_set_backs z (upd (Fo_backs z) (16 * i + 8 * s + h) (nI v)), ev1, pa1, Mo_set_now (Mo_set_undos (Mo_set_past mo Q) (nI m1)) (upd (Mo_now mo) (16 * i + 8 * s + h) (nI v)), ?_, ?_, upN a (16 * i + 8 * s + h) v, n, l, m1, u1, g, b, hV.back hp hv, hC.back hp, hF.up _ _, hL, fun k hk => by rw [upN_n (by omega)]; exact hLl k hk, e4, hI, Or.inl e3⟩
  · unfold fX5_side
    rw [c_hasLetter hV hC, Option.bind_some, if_neg c1, c_isHeight, Option.bind_some, if_neg c2, c_isSide, Option.bind_some, if_neg c3, c_in (l := 0) (h := 30) 0 30 rfl rfl, Option.bind_some, if_neg c4, e1, Option.bind_some, c_backOf z (by omega) (by omega) (by omega), Option.bind_some, c_putBack z _ (by omega) (by omega) (by omega), Option.bind_some, hC.2.2.2.2.1 _ hp]
  · unfold fX6_side
    rw [r_isLetter hV hF, Option.bind_some, if_neg c1, r_isHeight, Option.bind_some, if_neg c2, r_isSide, Option.bind_some, if_neg c3, r_in (l := 0) (h := 30) 0 30 rfl rfl, Option.bind_some, if_neg c4, r_at, Option.bind_some, r_become e2 rfl (by omega), Option.bind_some, Option.bind_some, ← hF _ (by omega)]
theorem sim_body (X : Ev → (Nat → Nat) → Prop) : Sim_body (RelX X) := by
  intro z ev li te pa im mo x1 x2 hR
  have hR0 := hR
  obtain ⟨a, n, l, m, u, g, b, hV, hC, hF, hL, hLl, hU, hI, hE⟩ := hR
  have hN := hV.1
  by_cases c1 : W01 x1 (nI 0) (nI (a 60 - 1)) = 0
  · refine ⟨-1000000001, z, ev, pa, mo, ?_, ?_, hR0⟩
    · unfold fX5_body
      rw [c_hasLetter hV hC, Option.bind_some, if_pos c1]
    · unfold fX6_body
      rw [r_isLetter hV hF, Option.bind_some, if_pos c1]
  by_cases c2 : W01 x2 (nI 1) (nI 50) = 0
  · refine ⟨-1000000002, z, ev, pa, mo, ?_, ?_, hR0⟩
    · unfold fX5_body
      rw [c_hasLetter hV hC, Option.bind_some, if_neg c1, c_in (l := 1) (h := 50) 1 50 rfl rfl, Option.bind_some, if_pos c2]
    · unfold fX6_body
      rw [r_isLetter hV hF, Option.bind_some, if_neg c1, r_in (l := 1) (h := 50) 1 50 rfl rfl, Option.bind_some, if_pos c2, Option.bind_some]
  obtain ⟨i, -, hi, rfl⟩ := W01_yes (by omega) c1 (by omega)
  obtain ⟨v, hv1, hv, rfl⟩ := W01_yes (by omega) c2 (by omega)
  obtain ⟨ev1, pa1, Q, m1, u1, e1, e2, e3, e4⟩ := change_ok (ev := ev) li te im hV hC hF hU
  refine ⟨nI (a (48 + i)), Fo_set_bodies z (upd (Fo_bodies z) i (nI v)), ev1, pa1, Mo_set_now (Mo_set_undos (Mo_set_past mo Q) (nI m1)) (upd (Mo_now mo) (48 + i) (nI v)), ?_, ?_, upN a (48 + i) v, n, l, m1, u1, g, b, hV.body (by omega) ⟨hv1, hv⟩, hC.body (by omega), hF.up _ _, hL, fun k hk => by rw [upN_n (by omega)]; exact hLl k hk, e4, hI, Or.inl e3⟩
  · unfold fX5_body
    rw [c_hasLetter hV hC, Option.bind_some, if_neg c1, c_in (l := 1) (h := 50) 1 50 rfl rfl, Option.bind_some, if_neg c2, e1, Option.bind_some, rdI_n (by omega) (by omega), Option.bind_some, wrI_n (by omega) (by omega), Option.bind_some, hC.2.2.2.1 _ (by omega)]
  · unfold fX6_body
    rw [r_isLetter hV hF, Option.bind_some, if_neg c1, r_in (l := 1) (h := 50) 1 50 rfl rfl, Option.bind_some, if_neg c2, show (48 : Int32) = nI 48 from rfl, nI_add, r_become e2 rfl (by omega), Option.bind_some, Option.bind_some, ← hF _ (by omega)]
