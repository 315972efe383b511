theorem x_room5 {i L : Nat} (hL : L ≤ 2560) (hi : i ≤ 3000) (h : ¬ nI L - 5 < nI i) : i + 5 ≤ L := by
  have e1 : (nI L).toInt = (L : Int) := nI_toInt (by omega)
  have e2 : (nI i).toInt = (i : Int) := nI_toInt (by omega)
  have e3 : (nI L - 5).toInt = (L : Int) - 5 := by
    rw [show (5 : Int32) = nI 5 from rfl]
    exact pk_sub_toInt (by omega) (by omega)
  have h2 : ¬ (nI L - 5).toInt < (nI i).toInt := fun q => h (Int32.lt_iff_toInt_lt.mpr q)
  omega
set_option maxHeartbeats 4000000 in
set_option maxRecDepth 100000 in
theorem law_loop {p : Program} {l : Launch} {e : Env} {s : State} {m : MethodId} {below : List Frame} {meth : Method} {c : Code} {b L : Nat} {xs : Nat → Int32} (hL : L ≤ 2560) (C0 : lw_At p s m meth c b L xs) {E : xG} (hK : xK E s) {tq : Nat → Nat} {f : Nat → Nat} {q : Nat → Nat} {g : Nat → Nat} {h : Nat → Nat} {pq : Nat → Nat} {rq : Nat → Nat → Nat} {bq : Nat → Nat → Nat} {uq : Nat → Nat} (Rel : Fo → Ev → Li → Te → Pa → Im → Mo → Prop) (hsim : AllSim Rel) : ∀ (n i : Nat), i ≤ L → L + 1 ≤ i + n → ∀ (z : Fo) (ev : Ev) (li : Li) (te : Te) (pa : Pa) (im : Im) (mo : Mo) (H : Heap) (locs : List Loc), Rel z ev li te pa im mo → va_P (xD E) vwCl (wW E tq f q g h pq rq bq z ev li te pa im ++ wM E uq mo) H → va_D (fun q : Nat => s.heap.size ≤ q) (wW E tq f q g h pq rq bq z ev li te pa im ++ wM E uq mo) → va_S (fun q : Nat => s.heap.size ≤ q) s.heap H locs → ∀ (ls : Array Slot), lv_has ls 4 [(0, .ref b), (1, .ref (tq 0)), (2, .ref (uq 0)), (3, .int (nI i))] → W p l e room_1 s m #[Value.ref b] below meth c H locs 600000 7302250 (lw_Z below #[Value.ref b] s) (F0 m 18 ls []) := by
  obtain ⟨s_letters, s_side, s_body, s_bound, s_weight, s_mirror, s_turn, s_copy, s_drift, s_undo, s_told, s_letter, s_back, s_space, s_pair, s_white, s_set, s_wipe, s_place, s_sign, s_keep, s_goBack⟩ := hsim
  obtain ⟨hx, hb, hr, hml, hown, hts, hX, hbl, hlocks, hgv⟩ := id C0
  have hbA : ¬ (fun q : Nat => s.heap.size ≤ q) b := Nat.not_le.mpr hbl
  intro n
  induction n with
  | zero =>
    intro i h1 h2
    exact absurd h2 (by omega)
  | succ n ih =>
    intro i hiL hin z ev li te pa im mo H locs hRel hP hD hS ls hl
    refine lv_iload_n hx hb dL_law_18 rfl (lv_at hl 3 rfl) ?_
    refine lv_aload_n hx hb dL_law_19 rfl (lv_at hl 0 rfl) ?_
    refine va_slen hx hb hX hbl hbA hS dL_law_20 ?_
    refine lv_iconst (v := 5) hx hb dL_law_21 (by decide) ?_
    refine lv_isub hx hb dL_law_22 ?_
    refine lv_icmp_gt (tgt := 781) hx hb dL_law_23 (by decide) (fun c1 => ?_) (fun c1 => ?_)
    · refine lv_iconst (v := 1) hx hb dL_law_781 (by decide) ?_
      refine va_forget (fun q hq => hS.2.2 q hq) ?_
      exact lw_ret hx hb hr hlocks dL_law_782
    · have hi : i + 5 ≤ L := x_room5 hL (by omega) c1
      have kx : (∀ (z' : Fo) (ev' : Ev) (li' : Li) (te' : Te) (pa' : Pa) (im' : Im) (mo' : Mo) (H : Heap) (locs : List Loc), Rel z' ev' li' te' pa' im' mo' → va_P (xD E) vwCl (wW E tq f q g h pq rq bq z' ev' li' te' pa' im' ++ wM E uq mo') H → va_D (fun q : Nat => s.heap.size ≤ q) (wW E tq f q g h pq rq bq z' ev' li' te' pa' im' ++ wM E uq mo') → va_S (fun q : Nat => s.heap.size ≤ q) s.heap H locs → W p l e room_1 s m #[Value.ref b] below meth c H locs 600000 7302250 (lw_Z below #[Value.ref b] s) (F0 m 775 ls [])) := by
        intro z' ev' li' te' pa' im' mo' H locs hRel hP hD hS
        refine lv_iinc (v := nI (i + 5)) (lv' := [(3, .int (nI (i + 5))), (0, .ref b), (1, .ref (tq 0)), (2, .ref (uq 0))]) hx hb dL_law_775 hl (k := 3) rfl (by rw [show Int32.ofInt 5 = nI 5 from rfl, nI_add]) (by decide) rfl (fun ls hl => ?_)
        refine lv_goto (tgt := 18) hx hb dL_law_778 (by decide) ?_
        exact ih (i + 5) hi (by omega) z' ev' li' te' pa' im' mo' H locs hRel hP hD hS ls (lv_sub hl [1, 2, 3, 0] rfl)
      refine lv_aload_n hx hb dL_law_26 rfl (lv_at hl 0 rfl) ?_
      refine lv_iload_n hx hb dL_law_27 rfl (lv_at hl 3 rfl) ?_
      refine va_sld hx hb hX hbl hbA hS (vp_in_nI (by omega) (by omega)) dL_law_28 ?_
      refine lv_bipush (v := 31) hx hb dL_law_29 (by decide) ?_
      refine lv_iand hx hb dL_law_31 ?_
      refine lv_topi (fun v hv => ?_)
      by_cases c10 : v = 0
      · refine lv_tableIn (tgt := 136) hx hb dL_law_32 (by rw [c10]; decide) (by rw [c10]; decide) (by rw [c10]; rfl) (by decide) ?_
        exact law_case_letters hL C0 hK Rel s_letters hi hl hRel hP hD hS kx
      by_cases c11 : v = 1
      · refine lv_tableIn (tgt := 159) hx hb dL_law_32 (by rw [c11]; decide) (by rw [c11]; decide) (by rw [c11]; rfl) (by decide) ?_
        exact law_case_side hL C0 hK Rel s_side hi hl hRel hP hD hS kx
      by_cases c12 : v = 2
      · refine lv_tableIn (tgt := 212) hx hb dL_law_32 (by rw [c12]; decide) (by rw [c12]; decide) (by rw [c12]; rfl) (by decide) ?_
        exact law_case_body hL C0 hK Rel s_body hi hl hRel hP hD hS kx
      by_cases c13 : v = 3
      · refine lv_tableIn (tgt := 245) hx hb dL_law_32 (by rw [c13]; decide) (by rw [c13]; decide) (by rw [c13]; rfl) (by decide) ?_
        exact law_case_bound hL C0 hK Rel s_bound hi hl hRel hP hD hS kx
      by_cases c14 : v = 4
      · refine lv_tableIn (tgt := 278) hx hb dL_law_32 (by rw [c14]; decide) (by rw [c14]; decide) (by rw [c14]; rfl) (by decide) ?_
        exact law_case_weight hL C0 hK Rel s_weight hi hl hRel hP hD hS kx
      by_cases c15 : v = 5
      · refine lv_tableIn (tgt := 321) hx hb dL_law_32 (by rw [c15]; decide) (by rw [c15]; decide) (by rw [c15]; rfl) (by decide) ?_
        exact law_case_mirror hL C0 hK Rel s_mirror hi hl hRel hP hD hS kx
      by_cases c16 : v = 6
      · refine lv_tableIn (tgt := 344) hx hb dL_law_32 (by rw [c16]; decide) (by rw [c16]; decide) (by rw [c16]; rfl) (by decide) ?_
        exact law_case_turn hL C0 hK Rel s_turn hi hl hRel hP hD hS kx
      by_cases c17 : v = 7
      · refine lv_tableIn (tgt := 357) hx hb dL_law_32 (by rw [c17]; decide) (by rw [c17]; decide) (by rw [c17]; rfl) (by decide) ?_
        exact law_case_copy hL C0 hK Rel s_copy hi hl hRel hP hD hS kx
      by_cases c18 : v = 8
      · refine lv_tableIn (tgt := 390) hx hb dL_law_32 (by rw [c18]; decide) (by rw [c18]; decide) (by rw [c18]; rfl) (by decide) ?_
        exact law_case_drift hL C0 hK Rel s_drift hi hl hRel hP hD hS kx
      by_cases c19 : v = 9
      · refine lv_tableIn (tgt := 413) hx hb dL_law_32 (by rw [c19]; decide) (by rw [c19]; decide) (by rw [c19]; rfl) (by decide) ?_
        exact law_case_undo hL C0 hK Rel s_undo hi hl hRel hP hD hS kx
      by_cases c20 : v = 10
      · refine lv_tableIn (tgt := 426) hx hb dL_law_32 (by rw [c20]; decide) (by rw [c20]; decide) (by rw [c20]; rfl) (by decide) ?_
        exact law_case_told hL C0 hK Rel s_told hi hl hRel hP hD hS kx
      by_cases c21 : v = 11
      · refine lv_tableIn (tgt := 450) hx hb dL_law_32 (by rw [c21]; decide) (by rw [c21]; decide) (by rw [c21]; rfl) (by decide) ?_
        exact law_case_letter hL C0 hK Rel s_letter hi hl hRel hP hD hS kx
      by_cases c22 : v = 12
      · refine lv_tableIn (tgt := 483) hx hb dL_law_32 (by rw [c22]; decide) (by rw [c22]; decide) (by rw [c22]; rfl) (by decide) ?_
        exact law_case_back hL C0 hK Rel s_back hi hl hRel hP hD hS kx
      by_cases c23 : v = 13
      · refine lv_tableIn (tgt := 526) hx hb dL_law_32 (by rw [c23]; decide) (by rw [c23]; decide) (by rw [c23]; rfl) (by decide) ?_
        exact law_case_space hL C0 hK Rel s_space hi hl hRel hP hD hS kx
      by_cases c24 : v = 14
      · refine lv_tableIn (tgt := 570) hx hb dL_law_32 (by rw [c24]; decide) (by rw [c24]; decide) (by rw [c24]; rfl) (by decide) ?_
        exact law_case_pair hL C0 hK Rel s_pair hi hl hRel hP hD hS kx
      by_cases c25 : v = 15
      · refine lv_tableIn (tgt := 614) hx hb dL_law_32 (by rw [c25]; decide) (by rw [c25]; decide) (by rw [c25]; rfl) (by decide) ?_
        exact law_case_white hL C0 hK Rel s_white hi hl hRel hP hD hS kx
      by_cases c26 : v = 16
      · refine lv_tableIn (tgt := 647) hx hb dL_law_32 (by rw [c26]; decide) (by rw [c26]; decide) (by rw [c26]; rfl) (by decide) ?_
        exact law_case_set hL C0 hK Rel s_set hi hl hRel hP hD hS kx
      by_cases c27 : v = 17
      · refine lv_tableIn (tgt := 670) hx hb dL_law_32 (by rw [c27]; decide) (by rw [c27]; decide) (by rw [c27]; rfl) (by decide) ?_
        exact law_case_wipe hL C0 hK Rel s_wipe hi hl hRel hP hD hS kx
      by_cases c28 : v = 18
      · refine lv_tableIn (tgt := 683) hx hb dL_law_32 (by rw [c28]; decide) (by rw [c28]; decide) (by rw [c28]; rfl) (by decide) ?_
        exact law_case_place hL C0 hK Rel s_place hi hl hRel hP hD hS kx
      by_cases c29 : v = 19
      · refine lv_tableIn (tgt := 706) hx hb dL_law_32 (by rw [c29]; decide) (by rw [c29]; decide) (by rw [c29]; rfl) (by decide) ?_
        exact law_case_sign hL C0 hK Rel s_sign hi hl hRel hP hD hS kx
      by_cases c30 : v = 20
      · refine lv_tableIn (tgt := 729) hx hb dL_law_32 (by rw [c30]; decide) (by rw [c30]; decide) (by rw [c30]; rfl) (by decide) ?_
        exact law_case_keep hL C0 hK Rel s_keep hi hl hRel hP hD hS kx
      by_cases c31 : v = 21
      · refine lv_tableIn (tgt := 752) hx hb dL_law_32 (by rw [c31]; decide) (by rw [c31]; decide) (by rw [c31]; rfl) (by decide) ?_
        exact law_case_goBack hL C0 hK Rel s_goBack hi hl hRel hP hD hS kx
      refine lv_tableOut (tgt := 775) hx hb dL_law_32 (x_tab21 c10 c11 c12 c13 c14 c15 c16 c17 c18 c19 c20 c21 c22 c23 c24 c25 c26 c27 c28 c29 c30 c31) (by decide) ?_
      exact kx z ev li te pa im mo H locs hRel hP hD hS
