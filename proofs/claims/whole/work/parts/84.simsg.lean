/-! ===== LAYER 2: told, space, pair, white, sign ===== -/
theorem rel_same {z : Fo} {ev' : Ev} {li : Li} {pa : Pa} {im : Im} {mo mo' : Mo} {a : Nat → Nat} {n : Nat} {l : Nat → Nat} {m : Nat} {u : Nat → Nat → Nat} {g : Nat → Nat → Nat} {b : Nat → Bool} (hV : Valid a) (hC : CF z a) (hF : RF (Mo_now mo) a) (hL : LR li mo n l) (hl : ∀ k, k < n → l k < a 60) (hU : UR pa mo m u) (hI : IR im mo g b) (hs : Same mo mo') (hE : ER EvOK ev' a) (te' : Te) : RelX EvOK z ev' li te' pa im mo' := by
  refine ⟨a, n, l, m, u, g, b, hV, hC, hF.same hs, hL.same hs, hl, ?_, ?_, hE⟩
  · obtain ⟨s1, s2, s3, s4, s5, s6, s7⟩ := hs
    obtain ⟨u1, u2, u3, u4, u5⟩ := hU
    exact ⟨u1, u2, s4.trans u3, u4, fun j hj => ⟨(u5 j hj).1, fun k hk => by rw [s5]; exact (u5 j hj).2 k hk⟩⟩
  · obtain ⟨s1, s2, s3, s4, s5, s6, s7⟩ := hs
    intro i hi
    obtain ⟨i1, i2, i3⟩ := hI i hi
    refine ⟨i1, by rw [s7]; exact i2, fun h => ⟨(i3 h).1, (i3 h).2.1, fun k hk => by rw [s6]; exact (i3 h).2.2 k hk⟩⟩
theorem wJ {a : Nat → Nat} (hV : Valid a) {i j : Nat} (hi : i < 3) (hj : j < 3) : sJ (wI a i j) := by
  have h1 := (wI_b hV hi hj).1
  exact ⟨by omega, by omega⟩
theorem sJs {a : Nat → Nat} (hV : Valid a) {k : Nat} (hk : k < 6) : sJ (sI a k) := by
  have h1 := ((NS hV).2.2.2 k hk).2
  exact ⟨by omega, by omega⟩
theorem b2_b {a : Nat → Nat} (hV : Valid a) : 0 < bI a * bI a ∧ bI a * bI a < 17179869184 := by
  obtain ⟨h1, h2, _, _⟩ := NS hV
  have m1 := mb (x := bI a) (y := bI a) (X := 82944) (Y := 82944) ⟨by omega, by omega⟩ ⟨by omega, by omega⟩
  exact ⟨Int.mul_pos h1 h1, by omega⟩
theorem sim_told : Sim_told (RelX EvOK) := by
  rintro z ev li te pa im mo x ⟨a, n, l, m, u, g, b, hV, hC, hF, hL, hl, hU, hI, hE⟩
  obtain ⟨ev1, c1, c2, c3⟩ := c_find hV hC hE
  obtain ⟨mo1, r1, r2, r3⟩ := r_solve hV hF
  obtain ⟨te2, mo2, s, t1, t2, t3, t4, t5, t6⟩ := text_ok hV hC c3 (hF.same r2) (hL.same r2) hl te
  have hs := r2.trans t3
  have hF2 := hF.same hs
  have hL2 := hL.same hs
  have hb := (NS hV).1
  have hb2 := (NS hV).2.1
  have rel : ∀ te', RelX EvOK z ev1 li te' pa im mo2 := fun te' => rel_same hV hC hF hL hl hU hI hs (Or.inr ⟨c2, c3⟩) te'
  obtain ⟨P, Q, _, _, p3, p4, p5, p6⟩ := frac (sq2_b hV) (b2_b hV).1 (b2_b hV).2
  obtain ⟨P2, Q2, _, _, q3, q4, q5, q6⟩ := frac (wd2_b hV hL.1 hl) (Y := 8 * bI a) (by omega) (by omega)
  have hbb : Mo_whole mo2 * Mo_whole mo2 = Int64.ofInt (bI a * bI a) := by rw [r_whole hV t4, jI_mul]
  have hbc : fX0_squaresBelow ev1 z = some (Int64.ofInt (bI a * bI a)) := by
    unfold fX0_squaresBelow
    rw [c_below hV c3, jI_mul]
  unfold fX5_told fX6_told
  rw [c1, Option.bind_some, r1, Option.bind_some, t2, Option.bind_some]
  by_cases x0 : x = 0
  · rw [if_pos x0, if_pos x0, show (60 : Int32) = nI 60 from rfl, rdI_n (by omega) (by omega), Option.bind_some, hF2 60 (by omega), hC.1]
    exact ⟨_, ev1, te, mo2, rfl, rfl, rel te⟩
  rw [if_neg x0, if_neg x0]
  by_cases x1 : x = 1
  · rw [if_pos x1, if_pos x1, show (61 : Int32) = nI 61 from rfl, rdI_n (by omega) (by omega), Option.bind_some, hF2 61 (by omega), hC.2.1]
    exact ⟨_, ev1, te, mo2, rfl, rfl, rel te⟩
  rw [if_neg x1, if_neg x1]
  by_cases x2 : x = 2
  · rw [if_pos x2, if_pos x2, show (62 : Int32) = nI 62 from rfl, rdI_n (by omega) (by omega), Option.bind_some, hF2 62 (by omega), hC.2.2.1]
    exact ⟨_, ev1, te, mo2, rfl, rfl, rel te⟩
  rw [if_neg x2, if_neg x2]
  by_cases x3 : x = 3
  · rw [if_pos x3, if_pos x3, c_pairs13 hV hC, Option.bind_some, r_weighted hV hF2, Option.bind_some]
    exact ⟨_, ev1, te, mo2, rfl, rfl, rel te⟩
  rw [if_neg x3, if_neg x3]
  by_cases x4 : x = 4
  · rw [if_pos x4, if_pos x4, c_worst hV hC c3, Option.bind_some, r_worst hV hF2 t4, Option.bind_some]
    exact ⟨_, ev1, te, mo2, rfl, rfl, rel te⟩
  rw [if_neg x4, if_neg x4]
  by_cases x5 : x = 5
  · rw [if_pos x5, if_pos x5, c_squares hV hC c3, Option.bind_some, r_squares hV hF2 t4, Option.bind_some, hbc, Option.bind_some, hbb, p3, Option.bind_some, p4, Option.bind_some]
    exact ⟨_, ev1, te, mo2, rfl, rfl, rel te⟩
  rw [if_neg x5, if_neg x5]
  by_cases x6 : x = 6
  · rw [if_pos x6, if_pos x6, c_squares hV hC c3, Option.bind_some, r_squares hV hF2 t4, Option.bind_some, hbc, Option.bind_some, hbb, p5, Option.bind_some, p6, Option.bind_some]
    exact ⟨_, ev1, te, mo2, rfl, rfl, rel te⟩
  rw [if_neg x6, if_neg x6]
  by_cases x7 : x = 7
  · rw [if_pos x7, if_pos x7, c_openSpaces hV hC c3, Option.bind_some, r_openOnes hV hF2 t4, Option.bind_some]
    exact ⟨_, ev1, te, mo2, rfl, rfl, rel te⟩
  rw [if_neg x7, if_neg x7]
  by_cases x8 : x = 8
  · rw [if_pos x8, if_pos x8, hL.2.1, hL2.2.2.1]
    exact ⟨_, ev1, te, mo2, rfl, rfl, rel te⟩
  rw [if_neg x8, if_neg x8]
  by_cases x9 : x = 9
  · rw [if_pos x9, if_pos x9, c_wide hV hC c3 hL hl, Option.bind_some, r_wide hV hF2 t4 hL2 hl, Option.bind_some, c_spaceBelow hV c3, Option.bind_some, r_8b hV t4.1, q3, Option.bind_some, q4, Option.bind_some]
    exact ⟨_, ev1, te, mo2, rfl, rfl, rel te⟩
  rw [if_neg x9, if_neg x9]
  by_cases x10 : x = 10
  · rw [if_pos x10, if_pos x10, c_wide hV hC c3 hL hl, Option.bind_some, r_wide hV hF2 t4 hL2 hl, Option.bind_some, c_spaceBelow hV c3, Option.bind_some, r_8b hV t4.1, q5, Option.bind_some, q6, Option.bind_some]
    exact ⟨_, ev1, te, mo2, rfl, rfl, rel te⟩
  rw [if_neg x10, if_neg x10]
  by_cases x11 : x = 11
  · rw [if_pos x11, if_pos x11, c_thin hV hC c3 hL hl, Option.bind_some, r_thin hV hF2 t4 hL2 hl, Option.bind_some]
    exact ⟨_, ev1, te, mo2, rfl, rfl, rel te⟩
  rw [if_neg x11, if_neg x11]
  by_cases x12 : x = 12
  · rw [if_pos x12, if_pos x12, t1, Option.bind_some, t5.1, t5.2.1]
    exact ⟨_, ev1, te2, mo2, rfl, rfl, rel te2⟩
  rw [if_neg x12, if_neg x12]
  by_cases x13 : x = 13
  · rw [if_pos x13, if_pos x13, hU.2.1, hs.2.2.2.1, hU.2.2.1]
    exact ⟨_, ev1, te, mo2, rfl, rfl, rel te⟩
  rw [if_neg x13, if_neg x13]
  exact ⟨_, ev1, te, mo2, rfl, rfl, rel te⟩
theorem sim_sign : Sim_sign (RelX EvOK) := by
  rintro z ev li te pa im mo x ⟨a, n, l, m, u, g, b, hV, hC, hF, hL, hl, hU, hI, hE⟩
  unfold fX5_sign fX6_sign
  by_cases h0 : (0 : Int32) ≤ x
  · obtain ⟨ev1, c1, c2, c3⟩ := c_find hV hC hE
    obtain ⟨te2, mo2, s, t1, t2, t3, t4, t5, t6⟩ := text_ok hV hC c3 hF hL hl te
    have rel : RelX EvOK z ev1 li te2 pa im mo2 := rel_same hV hC hF hL hl hU hI t3 (Or.inr ⟨c2, c3⟩) te2
    rw [if_pos h0, if_pos h0, c1, Option.bind_some, t1, Option.bind_some, t2, Option.bind_some]
    obtain ⟨k, hk, rfl⟩ := nI_of (x := x) (fun q => by
      rw [Int32.le_iff_toInt_le] at h0
      rw [Int32.lt_iff_toInt_lt] at q
      omega)
    unfold fX4_signAt
    rw [t5.1, t5.2.1]
    by_cases hks : k < s
    · have hw : fX5_within (nI k) 0 (nI s - 1) = some 1 := by
        rw [nI_m1 (by omega), show (0 : Int32) = nI 0 from rfl, c_in 0 (s - 1) rfl rfl, W01_in (by omega) (by omega) (by omega)]
      rw [hw, Option.bind_some, if_neg (by decide), if_neg (nI_ge hks (by omega)), rdI_n (by omega) (by omega), Option.bind_some, Option.bind_some, Option.bind_some, rdI_n (by omega) (by omega), Option.bind_some, Option.bind_some, t5.2.2 k hks]
      exact ⟨_, ev1, te2, mo2, rfl, rfl, rel⟩
    · have hw : fX5_within (nI k) 0 (nI s - 1) = some 0 := by
        rw [within_W]
        unfold W01
        rw [if_neg (nI_pos hk)]
        by_cases e : s = 0
        · subst e
          rw [if_pos (by
            rw [Int32.lt_iff_toInt_lt, nI_toInt hk]
            show (-1 : Int) < _
            omega)]
        · rw [nI_m1 (by omega), if_pos (nI_lt (by omega) hk)]
      rw [hw, Option.bind_some, if_pos rfl, if_pos (nI_le (by omega) hk), Option.bind_some, Option.bind_some, Option.bind_some]
      exact ⟨_, ev1, te2, mo2, rfl, rfl, rel⟩
  · rw [if_neg h0, if_neg h0]
    exact ⟨_, ev, te, mo, rfl, rfl, ⟨a, n, l, m, u, g, b, hV, hC, hF, hL, hl, hU, hI, hE⟩⟩
theorem c_pairN {z : Fo} {a : Nat → Nat} (hV : Valid a) (hC : CF z a) (x y : Int32) : fX1_hasPair z x y = some (if W01 x (nI 0) (nI (a 60 - 1)) = 0 then 0 else if W01 y (nI 0) (nI (a 60 - 1)) = 0 then 0 else 1) := by
  unfold fX1_hasPair
  rw [c_hasLetter hV hC, Option.bind_some, c_hasLetter hV hC, Option.bind_some]
  by_cases e1 : W01 x (nI 0) (nI (a 60 - 1)) = 0
  · rw [if_pos e1, if_pos e1, Option.bind_some]; exact ckZ_01 (Or.inl rfl)
  · rw [if_neg e1, if_neg e1]
    by_cases e2 : W01 y (nI 0) (nI (a 60 - 1)) = 0
    · rw [if_pos e2, if_pos e2, Option.bind_some]; exact ckZ_01 (Or.inl rfl)
    · rw [if_neg e2, if_neg e2, Option.bind_some]; exact ckZ_01 (Or.inr rfl)
theorem sim_pair : Sim_pair (RelX EvOK) := by
  rintro z ev li te pa im mo x y q ⟨a, n, l, m, u, g, b, hV, hC, hF, hL, hl, hU, hI, hE⟩
  have hN := hV.1
  have rel0 : RelX EvOK z ev li te pa im mo := ⟨a, n, l, m, u, g, b, hV, hC, hF, hL, hl, hU, hI, hE⟩
  unfold fX5_pair fX6_pair
  rw [c_pairN hV hC, Option.bind_some, r_isLetter hV hF, Option.bind_some]
  by_cases e1 : W01 x (nI 0) (nI (a 60 - 1)) = 0
  · rw [if_pos e1, if_pos rfl, if_pos e1]
    exact ⟨_, ev, mo, rfl, rfl, rel0⟩
  rw [if_neg e1, if_neg e1, r_isLetter hV hF, Option.bind_some]
  by_cases e2 : W01 y (nI 0) (nI (a 60 - 1)) = 0
  · rw [if_pos e2, if_pos rfl, if_pos e2]
    exact ⟨_, ev, mo, rfl, rfl, rel0⟩
  rw [if_neg e2, if_neg e2, if_neg (show ¬ (1 : Int32) = 0 by decide)]
  obtain ⟨i, _, hi, rfl⟩ := W01_yes (by omega) e1 (by omega)
  obtain ⟨j, _, hj, rfl⟩ := W01_yes (by omega) e2 (by omega)
  have hi' : i < a 60 := by omega
  have hj' : j < a 60 := by omega
  obtain ⟨ev1, c1, c2, c3⟩ := c_find hV hC hE
  obtain ⟨mo1, r1, r2, r3⟩ := r_solve hV hF
  have hF1 := hF.same r2
  have hb := (NS hV).1
  have hb2 := (NS hV).2.1
  have rel : RelX EvOK z ev1 li te pa im mo1 := rel_same hV hC hF hL hl hU hI r2 (Or.inr ⟨c2, c3⟩) te
  have hwb : fX0_whiteBelow ev1 z = some (Int64.ofInt (bI a)) := by
    unfold fX0_whiteBelow
    rw [c_below hV c3]
  obtain ⟨P, Q, _, _, p3, p4, p5, p6⟩ := frac (wJ hV (show i < 3 by omega) (show j < 3 by omega)) hb (by omega)
  obtain ⟨P2, Q2, _, _, q3, q4, q5, q6⟩ := frac (oJ hV (show i < 3 by omega) (show j < 3 by omega)) hb (by omega)
  rw [c1, Option.bind_some, r1, Option.bind_some]
  by_cases x0 : q = 0
  · rw [if_pos x0, if_pos x0, c_weightO2 hC (by omega) (by omega), Option.bind_some, r_weightOf mo1 (by omega) (by omega), Option.bind_some, hF1 _ (by omega)]
    exact ⟨_, ev1, mo1, rfl, rfl, rel⟩
  rw [if_neg x0, if_neg x0]
  by_cases x1 : q = 1
  · rw [if_pos x1, if_pos x1, c_bareOf hV hC (by omega) (by omega), Option.bind_some, r_bare hV hF1 (by omega) (by omega), Option.bind_some]
    exact ⟨_, ev1, mo1, rfl, rfl, rel⟩
  rw [if_neg x1, if_neg x1]
  by_cases x2 : q = 2
  · rw [if_pos x2, if_pos x2, c_whiteAbove hV hC c3 hi' hj', Option.bind_some, hwb, Option.bind_some, p3, Option.bind_some, r_whiteOf hV hF1 r3 (by omega) (by omega), Option.bind_some, r_whole hV r3, p4, Option.bind_some]
    exact ⟨_, ev1, mo1, rfl, rfl, rel⟩
  rw [if_neg x2, if_neg x2]
  by_cases x3 : q = 3
  · rw [if_pos x3, if_pos x3, c_whiteAbove hV hC c3 hi' hj', Option.bind_some, hwb, Option.bind_some, p5, Option.bind_some, r_whiteOf hV hF1 r3 (by omega) (by omega), Option.bind_some, r_whole hV r3, p6, Option.bind_some]
    exact ⟨_, ev1, mo1, rfl, rfl, rel⟩
  rw [if_neg x3, if_neg x3]
  by_cases x4 : q = 4
  · rw [if_pos x4, if_pos x4, c_over hV hC c3 hi' hj', Option.bind_some, hwb, Option.bind_some, q3, Option.bind_some, r_over hV hF1 r3 (by omega) (by omega), Option.bind_some, r_whole hV r3, q4, Option.bind_some]
    exact ⟨_, ev1, mo1, rfl, rfl, rel⟩
  rw [if_neg x4, if_neg x4]
  by_cases x5 : q = 5
  · rw [if_pos x5, if_pos x5, c_over hV hC c3 hi' hj', Option.bind_some, hwb, Option.bind_some, q5, Option.bind_some, r_over hV hF1 r3 (by omega) (by omega), Option.bind_some, r_whole hV r3, q6, Option.bind_some]
    exact ⟨_, ev1, mo1, rfl, rfl, rel⟩
  rw [if_neg x5, if_neg x5]
  exact ⟨_, ev1, mo1, rfl, rfl, rel⟩
theorem c_wholeSpace {z : Fo} {a : Nat → Nat} (hV : Valid a) (hC : CF z a) {ev : Ev} (hE : EvOK ev a) {l s : Nat} (hl : l < a 60) (hs : s < 2) : fX0_wholeSpace ev z (nI l) (nI s) = some (whS a (cx (a 60) l s)) := by
  have hN := hV.1
  have hc := cx_lt (s := s) hl
  unfold fX0_wholeSpace
  rw [c_number hC ev hs, Option.bind_some, rdJ_n (by omega) (by omega), Option.bind_some, (hE.2 _ hc).2.2]
theorem c_isOpen {z : Fo} {a : Nat → Nat} (hV : Valid a) (hC : CF z a) {ev : Ev} (hE : EvOK ev a) {l s : Nat} (hl : l < a 60) (hs : s < 2) : fX0_isOpen ev z (nI l) (nI s) = some (opZ (wt a) (sx l s)) := by
  have hN := hV.1
  have hc := cx_lt (s := s) hl
  unfold fX0_isOpen
  rw [c_number hC ev hs, Option.bind_some, rdI_n (by omega) (by omega), Option.bind_some, (hE.2 _ hc).1, io_cx hl]
  refine ckZ_01 ?_
  by_cases o : opS (wt a) (sx l s)
  · exact Or.inr (opZ_y o)
  · exact Or.inl (opZ_n o)
theorem sx_lt {l s : Nat} (h : l < 3) : sx l s < 6 := by
  unfold sx
  split <;> omega
theorem r_sx {l s : Nat} (hs : s < 2) : (if nI s = (0 : Int32) then nI 3 + nI l else nI l) = nI (sx l s) := by
  unfold sx
  by_cases e : s = 1
  · rw [if_neg (by rw [e]; decide), if_pos e]
  · rw [if_pos (by rw [show s = 0 from by omega]; rfl), if_neg e, nI_add]
theorem sim_space : Sim_space (RelX EvOK) := by
  rintro z ev li te pa im mo x y q ⟨a, n, l, m, u, g, b, hV, hC, hF, hL, hl, hU, hI, hE⟩
  have hN := hV.1
  have rel0 : RelX EvOK z ev li te pa im mo := ⟨a, n, l, m, u, g, b, hV, hC, hF, hL, hl, hU, hI, hE⟩
  unfold fX5_space fX6_space
  rw [c_hasLetter hV hC, Option.bind_some, r_isLetter hV hF, Option.bind_some]
  by_cases e1 : W01 x (nI 0) (nI (a 60 - 1)) = 0
  · rw [if_pos e1, if_pos e1]
    exact ⟨_, ev, mo, rfl, rfl, rel0⟩
  rw [if_neg e1, if_neg e1, c_isSide, Option.bind_some, r_isSide, Option.bind_some]
  by_cases e2 : W01 y (nI 0) (nI 1) = 0
  · rw [if_pos e2, if_pos e2]
    exact ⟨_, ev, mo, rfl, rfl, rel0⟩
  rw [if_neg e2, if_neg e2, show fX6_in (Int32.toInt64 q) (0 : Int64) (3 : Int64) = _ from r_in 0 3 rfl rfl, Option.bind_some]
  obtain ⟨i, _, hi, rfl⟩ := W01_yes (by omega) e1 (by omega)
  obtain ⟨s, _, hs, rfl⟩ := W01_yes (by omega) e2 (by omega)
  have hi' : i < a 60 := by omega
  have hs' : s < 2 := by omega
  obtain ⟨ev1, c1, c2, c3⟩ := c_find hV hC hE
  have hsx := sx_lt (s := s) (show i < 3 by omega)
  rw [c1, Option.bind_some]
  by_cases e3 : W01 q (nI 0) (nI 3) = 0
  · have hq : ∀ k, k ≤ 3 → ¬ q = nI k := fun k hk h => by
      rw [h, W01_in (by omega) (by omega) hk] at e3
      exact absurd e3 (by decide)
    rw [if_pos e3, if_neg (show ¬ q = (0 : Int32) from hq 0 (by omega)), if_neg (show ¬ q = (1 : Int32) from hq 1 (by omega)), if_neg (show ¬ q = (2 : Int32) from hq 2 (by omega)), if_neg (show ¬ q = (3 : Int32) from hq 3 (by omega))]
    exact ⟨_, ev1, mo, rfl, rfl, rel_same hV hC hF hL hl hU hI (Same.rfl' mo) (Or.inr ⟨c2, c3⟩) te⟩
  obtain ⟨mo1, r1, r2, r3⟩ := r_solve hV hF
  have hF1 := hF.same r2
  obtain ⟨mo2, t1, t2, t3, t4⟩ := r_layWholes hV hF1 r3
  have hb := (NS hV).1
  have hb2 := (NS hV).2.1
  have rel : RelX EvOK z ev1 li te pa im mo2 := rel_same hV hC hF hL hl hU hI (r2.trans t2) (Or.inr ⟨c2, c3⟩) te
  obtain ⟨P, Q, _, _, p3, p4, p5, p6⟩ := frac (sJs hV hsx) (Y := 8 * bI a) (by omega) (by omega)
  rw [if_neg e3, r1, Option.bind_some, t1, Option.bind_some, show (3 : Int32) = nI 3 from rfl, r_sx hs']
  by_cases x0 : q = 0
  · rw [if_pos x0, if_pos x0, c_spaceAbove hV hC c3 hi' hs', Option.bind_some, c_spaceBelow hV c3, Option.bind_some, p3, Option.bind_some, rdJ_n hsx (by omega), Option.bind_some, r_sp hV t3 hsx, r_8b hV t3.1, p4, Option.bind_some]
    exact ⟨_, ev1, mo2, rfl, rfl, rel⟩
  rw [if_neg x0, if_neg x0]
  by_cases x1 : q = 1
  · rw [if_pos x1, if_pos x1, c_spaceAbove hV hC c3 hi' hs', Option.bind_some, c_spaceBelow hV c3, Option.bind_some, p5, Option.bind_some, rdJ_n hsx (by omega), Option.bind_some, r_sp hV t3 hsx, r_8b hV t3.1, p6, Option.bind_some]
    exact ⟨_, ev1, mo2, rfl, rfl, rel⟩
  rw [if_neg x1, if_neg x1]
  by_cases x2 : q = 2
  · rw [if_pos x2, if_pos x2, c_isOpen hV hC c3 hi' hs', Option.bind_some, rdI_n hsx (by omega), Option.bind_some, (t3.2 _ hsx).1]
    exact ⟨_, ev1, mo2, rfl, rfl, rel⟩
  rw [if_neg x2, if_neg x2]
  have x3 : q = nI 3 := by
    obtain ⟨k, _, hk, rfl⟩ := W01_yes (by omega) e3 (by omega)
    have n0 : k ≠ 0 := fun h => x0 (by rw [h]; rfl)
    have n1 : k ≠ 1 := fun h => x1 (by rw [h]; rfl)
    have n2 : k ≠ 2 := fun h => x2 (by rw [h]; rfl)
    rw [show k = 3 from by omega]
  have hw := t4 (cx (a 60) i s) (cx_lt hi')
  rw [io_cx hi'] at hw
  rw [if_pos x3, c_wholeSpace hV hC c3 hi' hs', Option.bind_some, rdJ_n hsx (by omega), Option.bind_some, hw]
  exact ⟨_, ev1, mo2, rfl, rfl, rel⟩
theorem sim_white : Sim_white (RelX EvOK) := by
  rintro z ev li te pa im mo x y ⟨a, n, l, m, u, g, b, hV, hC, hF, hL, hl, hU, hI, hE⟩
  have hN := hV.1
  have rel0 : RelX EvOK z ev li te pa im mo := ⟨a, n, l, m, u, g, b, hV, hC, hF, hL, hl, hU, hI, hE⟩
  unfold fX5_white fX6_white
  rw [c_pairN hV hC, Option.bind_some, r_isLetter hV hF, Option.bind_some]
  by_cases e1 : W01 x (nI 0) (nI (a 60 - 1)) = 0
  · rw [if_pos e1, if_pos rfl, if_pos e1]
    exact ⟨_, ev, mo, rfl, rfl, rel0⟩
  rw [if_neg e1, if_neg e1, r_isLetter hV hF, Option.bind_some]
  by_cases e2 : W01 y (nI 0) (nI (a 60 - 1)) = 0
  · rw [if_pos e2, if_pos rfl, if_pos e2]
    exact ⟨_, ev, mo, rfl, rfl, rel0⟩
  rw [if_neg e2, if_neg e2, if_neg (show ¬ (1 : Int32) = 0 by decide)]
  obtain ⟨i, _, hi, rfl⟩ := W01_yes (by omega) e1 (by omega)
  obtain ⟨j, _, hj, rfl⟩ := W01_yes (by omega) e2 (by omega)
  have hi' : i < a 60 := by omega
  have hj' : j < a 60 := by omega
  obtain ⟨ev1, c1, c2, c3⟩ := c_find hV hC hE
  obtain ⟨mo1, r1, r2, r3⟩ := r_solve hV hF
  have hF1 := hF.same r2
  obtain ⟨mo2, t1, t2, t3, t4⟩ := r_layWholes hV hF1 r3
  have hF2 := hF1.same t2
  have rel : RelX EvOK z ev1 li te pa im mo2 := rel_same hV hC hF hL hl hU hI (r2.trans t2) (Or.inr ⟨c2, c3⟩) te
  have w1 := t4 (cx (a 60) i 1) (cx_lt hi')
  have w2 := t4 (cx (a 60) j 0) (cx_lt hj')
  rw [io_cx hi'] at w1
  rw [io_cx hj'] at w2
  have w1' : Mo_wholes mo2 i = whS a (cx (a 60) i 1) := w1
  have w2' : Mo_wholes mo2 (3 + j) = whS a (cx (a 60) j 0) := w2
  rw [c1, Option.bind_some, r1, Option.bind_some, t1, Option.bind_some, show (1 : Int32) = nI 1 from rfl, show (0 : Int32) = nI 0 from rfl, c_wholeSpace hV hC c3 hi' (by omega), Option.bind_some, c_wholeSpace hV hC c3 hj' (by omega), Option.bind_some, c_bareOf hV hC (by omega) (by omega), Option.bind_some, r_bare hV hF2 (by omega) (by omega), Option.bind_some, rdJ_n (by omega) (by omega), Option.bind_some, show (3 : Int32) = nI 3 from rfl, nI_add, rdJ_n (by omega) (by omega), Option.bind_some, w1', w2', Int64.toInt32_add, Int32.toInt32_toInt64]
  exact ⟨_, ev1, mo2, rfl, rfl, rel⟩
