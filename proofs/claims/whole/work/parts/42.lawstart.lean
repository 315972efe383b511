set_option maxHeartbeats 4000000 in
set_option maxRecDepth 100000 in
theorem law_start {p : Program} {e : Env} {s : State} {m : MethodId} {below : List Frame} {meth : Method} {c : Code} (l : Launch) {b L : Nat} {xs : Nat → Int32} (hL : L ≤ 2560) (C0 : lw_At p s m meth c b L xs) (Rel : Fo → Ev → Li → Te → Pa → Im → Mo → Prop) (hsim : AllSim Rel) {zI : Fo} (hz : fX1_startAnew (0, 20, 100, (fun _ => 0), (fun _ => 0), (fun _ => 0)) 2 = some zI) {mI : Mo} (hm : fX6_beginLetters mo00 2 = some mI) {n1 n2 : Nat → Int32} (hn1 : wrI (Mo_now mI) 63 61 20 = some n1) (hn2 : wrI n1 63 62 100 = some n2) (hRel : Rel zI (1, 0, (fun _ _ => 0), (fun _ => 0), (fun _ => 0), (fun _ => 0), (fun _ => 0)) (0, (fun _ => 0)) (0, (fun _ => 0)) (0, 0, (fun _ => zI)) ((fun _ => zI), (fun _ => 0)) (Mo_set_now mI n2)) : W p l e room_1 s m #[Value.ref b] below meth c s.heap [] 0 0 (lw_Z below #[Value.ref b] s) (entryFrame m ([Value.ref b] : List Value).toArray 4) := by
  obtain ⟨hx, hb, hr, hml, hown, hts0, hX, hbl, hlocks, hgv⟩ := id C0
  have hts := fun w h => hts0 w (wsL_law_in w h)
  have S : CallFix p m c cL_law 4 s #[Value.ref b] wsL_law RL := ⟨hx, hb, hml, hown, hts⟩
  have hA : ∀ q : Nat, s.heap.size ≤ q → (fun q : Nat => s.heap.size ≤ q) q := fun _ h => h
  obtain ⟨c0, iS0, hKn0⟩ := u_known (C := RX0) (T := TX0) (N := 8) (n := 8) hts0 inX0 (hts0 (.instantiable RX0 8) (ix_X0))
  obtain ⟨c1, iS1, hKn1⟩ := u_known (C := RX1) (T := TX1) (N := 6) (n := 6) hts0 inX1 (hts0 (.instantiable RX1 6) (ix_X1))
  obtain ⟨c2, iS2, hKn2⟩ := u_known (C := RX2) (T := TX2) (N := 5) (n := 5) hts0 inX2 (hts0 (.instantiable RX2 5) (ix_X2))
  obtain ⟨c3, iS3, hKn3⟩ := u_known (C := RX3) (T := TX3) (N := 3) (n := 3) hts0 inX3 (hts0 (.instantiable RX3 3) (ix_X3))
  obtain ⟨c4, iS4, hKn4⟩ := u_known (C := RX4) (T := TX4) (N := 2) (n := 2) hts0 inX4 (hts0 (.instantiable RX4 2) (ix_X4))
  obtain ⟨c5, iS5, hKn5⟩ := u_known (C := RX5) (T := TX5) (N := 6) (n := 6) hts0 inX5 (hts0 (.instantiable RX5 6) (ix_X5))
  obtain ⟨c6, iS6, hKn6⟩ := u_known (C := RX6) (T := TX6) (N := 17) (n := 17) hts0 inX6 (hts0 (.instantiable RX6 17) (ix_X6))
  obtain ⟨dC, dI, hKc⟩ : ∃ (dC : Nat → ClassId) (dI : Nat → Nat → Nat), ∀ (k : Nat) (q : vw_C), vwCl[k]? = some q → u_Kn s q.1 q.2.1 q.2.2 (dC k) (dI k) := by
    refine ⟨fun k => [c0, c1, c2, c3, c4, c5, c6].getD k c0, fun k => [iS0, iS1, iS2, iS3, iS4, iS5, iS6].getD k iS0, ?_⟩
    intro k q hq
    match k, hq with
    | 0, hq => cases hq; exact hKn0
    | 1, hq => cases hq; exact hKn1
    | 2, hq => cases hq; exact hKn2
    | 3, hq => cases hq; exact hKn3
    | 4, hq => cases hq; exact hKn4
    | 5, hq => cases hq; exact hKn5
    | 6, hq => cases hq; exact hKn6
    | k + 7, hq => simp [vwCl] at hq
  obtain ⟨cI, kI, oI, fI, gI, hI⟩ := Cond.arrayClass_spec (hts0 (.arrayClass .int) ix_I)
  obtain ⟨cJ, kJ, oJ, fJ, gJ, hJ⟩ := Cond.arrayClass_spec (hts0 (.arrayClass .long) ix_J)
  obtain ⟨cZ, kZ, oZ, fZ, gZ, hZ⟩ := Cond.arrayClass_spec (hts0 (.arrayClass .boolean) ix_Z)
  obtain ⟨oF, cF, kF, f1F, -, gF, hF, fF⟩ := Cond.arrayOver_spec (hts0 (.arrayOver (.object RX1)) ix_F)
  obtain ⟨oR, cR, kR, f1R, gR, hR, fR⟩ := va_AOA.found (va_AOA.of (hts0 (.arrayOver (.array .long)) ix_R))
  have hK : xK ((dC, dI), cI, cJ, cZ, cF, cR) s := by
    refine ⟨⟨hKc, ?_⟩, va_Nw.of rfl (hts0 _ ix_n1), va_Nw.of rfl (hts0 _ ix_n2), va_Nw.of rfl (hts0 _ ix_n3), va_Nw.of rfl (hts0 _ ix_n4), va_Nw.of rfl (hts0 _ ix_n5)⟩
    intro k q hq
    match k, hq with
    | 0, hq => cases hq; exact ⟨fun n z => ⟨fun k h => (by cases h), kI, gI, oI, hI⟩, fI⟩
    | 1, hq => cases hq; exact ⟨fun n z => ⟨fun k h => (by cases h), kJ, gJ, oJ, hJ⟩, fJ⟩
    | 2, hq => cases hq; exact ⟨fun n z => ⟨fun k h => (by cases h), kZ, gZ, oZ, hZ⟩, fZ⟩
    | 3, hq => cases hq; exact ⟨fun n z => ⟨fun k h => (by cases h), kF, gF, oF, hF⟩, kF, oF, gF, hF, f1F, fF⟩
    | 4, hq => cases hq; exact ⟨fun n z => ⟨fun k h => (by cases h), kR, gR, oR, hR⟩, fR⟩
    | k + 5, hq => simp at hq
  generalize ((dC, dI), cI, cJ, cZ, cF, cR) = E at hK
  have hN0 : xN E s := ⟨hK, va_AO.of (hts0 _ ix_F), va_AOA.of (hts0 _ ix_R)⟩
  have hS : va_S (fun q : Nat => s.heap.size ≤ q) s.heap s.heap [] := va_S.rf
  have hP : va_P (xD E) vwCl [] s.heap := x_nil
  have hD : va_D (fun q : Nat => s.heap.size ≤ q) [] := ⟨fun i j p q h => by simp at h, fun k q h => by simp at h⟩
  have hl := lv_entry ([.ref b]) (n := 4) (Nat.le_of_ble_eq_true rfl)
  rw [lg_entry_eq]
  generalize (lg_sl ([.ref b]) ++ List.replicate (4 - (lg_sl ([.ref b])).length) Slot.unset).toArray = ls at hl ⊢
  have hl : lv_has ls 4 [(0, .ref b)] := hl
  refine x_newO hx hb hts inlX5 tyX5_ok hown ix_clX5 ix_inX5 ix_itX5 hK hP hD hS hA (ci := 5) rfl [.null, .null, .null, .null, .null, .null] (fun j hj => by rcases (show j = 0 ∨ j = 1 ∨ j = 2 ∨ j = 3 ∨ j = 4 ∨ j = 5 by omega) with rfl | rfl | rfl | rfl | rfl | rfl <;> rfl) (Nat.le_of_ble_eq_true rfl) (Nat.le_of_ble_eq_true rfl) dL_law_0 (fun qx H hP hD hS => ?_)
  have hP : va_P (xD E) vwCl [(qx, .inr (5, [.null, .null, .null, .null, .null, .null]))] H := hP
  have hD : va_D (fun q : Nat => s.heap.size ≤ q) [(qx, .inr (5, [.null, .null, .null, .null, .null, .null]))] := hD
  refine lv_dup hx hb dL_law_3 rfl ?_
  refine x_nI (As := []) (rest := [.ref qx]) (wr := []) S hN0 (kX5_init l E qx _ hz) (cwI 0 hts gL_law_X5_init rfl rfl rfl (hts _ ix_itX5) (hts _ ix_mlX5) (hts _ ix_imX5) rfl (by decide +kernel) ⟨Nat.le_of_ble_eq_true rfl, Nat.le_of_ble_eq_true rfl⟩) hP hD hS hA [0] [] rfl rfl rfl rfl (by decide) rfl hl.1 (Nat.le_of_ble_eq_true rfl) dL_law_4 rfl ⟨Nat.le_of_ble_eq_true rfl, Nat.le_of_ble_eq_true rfl⟩ (fun sx H locs hP hD hS => ?_)
  have hP : va_P (xD E) vwCl (wW E (adr (qx :: sx.1)) sx.2.1 sx.2.2.1 sx.2.2.2.1 sx.2.2.2.2.1 sx.2.2.2.2.2.1 sx.2.2.2.2.2.2.1 sx.2.2.2.2.2.2.2 zI (1, 0, (fun _ _ => 0), (fun _ => 0), (fun _ => 0), (fun _ => 0), (fun _ => 0)) (0, (fun _ => 0)) (0, (fun _ => 0)) (0, 0, (fun _ => zI)) ((fun _ => zI), (fun _ => 0))) H := hP
  have hD : va_D (fun q : Nat => s.heap.size ≤ q) (wW E (adr (qx :: sx.1)) sx.2.1 sx.2.2.1 sx.2.2.2.1 sx.2.2.2.2.1 sx.2.2.2.2.2.1 sx.2.2.2.2.2.2.1 sx.2.2.2.2.2.2.2 zI (1, 0, (fun _ _ => 0), (fun _ => 0), (fun _ => 0), (fun _ => 0), (fun _ => 0)) (0, (fun _ => 0)) (0, (fun _ => 0)) (0, 0, (fun _ => zI)) ((fun _ => zI), (fun _ => 0))) := hD
  refine lv_astore_n (lv' := [(1, .ref qx), (0, .ref b)]) hx hb dL_law_7 rfl hl (by decide) rfl (fun ls hl => ?_)
  refine x_newO hx hb hts inlX6 tyX6_ok hown ix_clX6 ix_inX6 ix_itX6 hK hP hD hS hA (ci := 6) rfl [.null, .int 0, .null, .null, .null, .long 0, .null, .null, .null, .null, .null, .null, .int 0, .int 0, .null, .null, .null] (fun j hj => by rcases (show j = 0 ∨ j = 1 ∨ j = 2 ∨ j = 3 ∨ j = 4 ∨ j = 5 ∨ j = 6 ∨ j = 7 ∨ j = 8 ∨ j = 9 ∨ j = 10 ∨ j = 11 ∨ j = 12 ∨ j = 13 ∨ j = 14 ∨ j = 15 ∨ j = 16 by omega) with rfl | rfl | rfl | rfl | rfl | rfl | rfl | rfl | rfl | rfl | rfl | rfl | rfl | rfl | rfl | rfl | rfl <;> rfl) (Nat.le_of_ble_eq_true rfl) (Nat.le_of_ble_eq_true rfl) dL_law_8 (fun qm H hP hD hS => ?_)
  have hP : va_P (xD E) vwCl (wW E (adr (qx :: sx.1)) sx.2.1 sx.2.2.1 sx.2.2.2.1 sx.2.2.2.2.1 sx.2.2.2.2.2.1 sx.2.2.2.2.2.2.1 sx.2.2.2.2.2.2.2 zI (1, 0, (fun _ _ => 0), (fun _ => 0), (fun _ => 0), (fun _ => 0), (fun _ => 0)) (0, (fun _ => 0)) (0, (fun _ => 0)) (0, 0, (fun _ => zI)) ((fun _ => zI), (fun _ => 0)) ++ [(qm, .inr (6, [.null, .int 0, .null, .null, .null, .long 0, .null, .null, .null, .null, .null, .null, .int 0, .int 0, .null, .null, .null]))]) H := hP
  have hD : va_D (fun q : Nat => s.heap.size ≤ q) (wW E (adr (qx :: sx.1)) sx.2.1 sx.2.2.1 sx.2.2.2.1 sx.2.2.2.2.1 sx.2.2.2.2.2.1 sx.2.2.2.2.2.2.1 sx.2.2.2.2.2.2.2 zI (1, 0, (fun _ _ => 0), (fun _ => 0), (fun _ => 0), (fun _ => 0), (fun _ => 0)) (0, (fun _ => 0)) (0, (fun _ => 0)) (0, 0, (fun _ => zI)) ((fun _ => zI), (fun _ => 0)) ++ [(qm, .inr (6, [.null, .int 0, .null, .null, .null, .long 0, .null, .null, .null, .null, .null, .null, .int 0, .int 0, .null, .null, .null]))]) := hD
  refine lv_dup hx hb dL_law_11 rfl ?_
  refine x_nI (As := []) (rest := [.ref qm]) (wr := wW E (adr (qx :: sx.1)) sx.2.1 sx.2.2.1 sx.2.2.2.1 sx.2.2.2.2.1 sx.2.2.2.2.2.1 sx.2.2.2.2.2.2.1 sx.2.2.2.2.2.2.2 zI (1, 0, (fun _ _ => 0), (fun _ => 0), (fun _ => 0), (fun _ => 0), (fun _ => 0)) (0, (fun _ => 0)) (0, (fun _ => 0)) (0, 0, (fun _ => zI)) ((fun _ => zI), (fun _ => 0))) S hN0 (kX6_init l E qm _ hm hn1 hn2) (cwI 0 hts gL_law_X6_init rfl rfl rfl (hts _ ix_itX6) (hts _ ix_mlX6) (hts _ ix_imX6) rfl (by decide +kernel) ⟨Nat.le_of_ble_eq_true rfl, Nat.le_of_ble_eq_true rfl⟩) hP hD hS hA [65] [0, 1, 2, 3, 4, 5, 6, 7, 8, 9, 10, 11, 12, 13, 14, 15, 16, 17, 18, 19, 20, 21, 22, 23, 24, 25, 26, 27, 28, 29, 30, 31, 32, 33, 34, 35, 36, 37, 38, 39, 40, 41, 42, 43, 44, 45, 46, 47, 48, 49, 50, 51, 52, 53, 54, 55, 56, 57, 58, 59, 60, 61, 62, 63, 64] rfl rfl rfl rfl (by decide) rfl hl.1 (Nat.le_of_ble_eq_true rfl) dL_law_12 rfl ⟨Nat.le_of_ble_eq_true rfl, Nat.le_of_ble_eq_true rfl⟩ (fun sm H locs hP hD hS => ?_)
  have hP : va_P (xD E) vwCl (wW E (adr (qx :: sx.1)) sx.2.1 sx.2.2.1 sx.2.2.2.1 sx.2.2.2.2.1 sx.2.2.2.2.2.1 sx.2.2.2.2.2.2.1 sx.2.2.2.2.2.2.2 zI (1, 0, (fun _ _ => 0), (fun _ => 0), (fun _ => 0), (fun _ => 0), (fun _ => 0)) (0, (fun _ => 0)) (0, (fun _ => 0)) (0, 0, (fun _ => zI)) ((fun _ => zI), (fun _ => 0)) ++ wM E (adr (qm :: sm)) (Mo_set_now mI n2)) H := hP
  have hD : va_D (fun q : Nat => s.heap.size ≤ q) (wW E (adr (qx :: sx.1)) sx.2.1 sx.2.2.1 sx.2.2.2.1 sx.2.2.2.2.1 sx.2.2.2.2.2.1 sx.2.2.2.2.2.2.1 sx.2.2.2.2.2.2.2 zI (1, 0, (fun _ _ => 0), (fun _ => 0), (fun _ => 0), (fun _ => 0), (fun _ => 0)) (0, (fun _ => 0)) (0, (fun _ => 0)) (0, 0, (fun _ => zI)) ((fun _ => zI), (fun _ => 0)) ++ wM E (adr (qm :: sm)) (Mo_set_now mI n2)) := hD
  refine lv_astore_n (lv' := [(2, .ref qm), (1, .ref qx), (0, .ref b)]) hx hb dL_law_15 rfl hl (by decide) rfl (fun ls hl => ?_)
  refine lv_iconst (v := 0) hx hb dL_law_16 (by decide) ?_
  refine lv_istore_n (lv' := [(3, .int 0), (2, .ref qm), (1, .ref qx), (0, .ref b)]) hx hb dL_law_17 rfl hl (by decide) rfl (fun ls hl => ?_)
  refine W.widen (k := 600000) (n := 7302250) (Nat.le_of_ble_eq_true rfl) (Nat.le_of_ble_eq_true rfl) ?_
  exact law_loop (tq := adr (qx :: sx.1)) (uq := adr (qm :: sm)) hL C0 hK Rel hsim (L + 1) 0 (Nat.zero_le L) (by omega) _ _ _ _ _ _ _ H locs hRel hP hD hS ls (lv_sub hl [3, 2, 1, 0] rfl)
