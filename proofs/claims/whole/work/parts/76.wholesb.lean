/-! ===== LAYER 2: the class makes its spaces whole ===== -/
theorem sK_of {x : Int} (h1 : -1000000000000 ≤ x) (h2 : x ≤ 1000000000000) : sK x := ⟨by omega, by omega⟩
theorem sJ_of {x : Int} (h1 : -1000000000000 ≤ x) (h2 : x ≤ 1000000000000) : sJ x := ⟨by omega, by omega⟩
theorem c_whole1 {z : Fo} {a : Nat → Nat} (hV : Valid a) (hC : CF z a) {ev : Ev} (hE : ∀ c, c < 2 * a 60 → Ev_eight ev c = Int64.ofInt (sI a (io (a 60) c))) : ∃ (s : Int64 × Int64 × Int32 × Ev), lp (gX0_makeWhole_21 z (Int64.ofInt (8 * bI a))) 1000 (0, 0, 0, ev) = some s ∧ ∃ W R, s.1 = Int64.ofInt (s2I a) ∧ s.2.1 = Int64.ofInt (siN (flI a) (2 * a 60)) ∧ s.2.2.2 = Ev_set_rest (Ev_set_whole ev W) R ∧ (∀ c, c < 2 * a 60 → W c = Int64.ofInt (flI a c)) ∧ ∀ c, c < 2 * a 60 → R c = Int64.ofInt (rsI a c) := by
  have hN := hV.1
  obtain ⟨hb, hb2, _, hs⟩ := NS hV
  refine lp_J (σ := Int64 × Int64 × Int32 × Ev) (ρ := Int64 × Int64 × Int32 × Ev) (fun c s => ∃ W R, s = (Int64.ofInt (siN (fun c => sI a (io (a 60) c)) c), Int64.ofInt (siN (flI a) c), nI c, Ev_set_rest (Ev_set_whole ev W) R) ∧ (∀ c', c' < c → W c' = Int64.ofInt (flI a c')) ∧ ∀ c', c' < c → R c' = Int64.ofInt (rsI a c')) (2 * a 60) _ (by omega) ⟨Ev_whole ev, Ev_rest ev, rfl, fun c h => by omega, fun c h => by omega⟩ ?_ ?_
  · rintro c s hc ⟨W, R, rfl, h1, h2⟩
    have hsc := (hs (io (a 60) c) (io_lt hN.2 hc)).2
    have hd := c_floorDiv (x := sI a (io (a 60) c)) (y := 8 * bI a) (sK_of (by omega) (by omega)) (sK_of (by omega) (by omega)) (by omega)
    have hm := c_floorMod (x := sI a (io (a 60) c)) (y := 8 * bI a) (sK_of (by omega) (by omega)) (sK_of (by omega) (by omega)) (by omega)
    refine ⟨(Int64.ofInt (siN (fun c => sI a (io (a 60) c)) (c + 1)), Int64.ofInt (siN (flI a) (c + 1)), nI (c + 1), Ev_set_rest (Ev_set_whole ev (vp_updL W c (Int64.ofInt (flI a c)))) (vp_updL R c (Int64.ofInt (rsI a c)))), ⟨vp_updL W c (Int64.ofInt (flI a c)), vp_updL R c (Int64.ofInt (rsI a c)), rfl, fun c' hc' => ?_, fun c' hc' => ?_⟩, fun rec => ?_⟩
    · by_cases e : c' = c
      · rw [e]; exact pk_uLs
      · rw [pk_uLn e]; exact h1 c' (by omega)
    · by_cases e : c' = c
      · rw [e]; exact pk_uLs
      · rw [pk_uLn e]; exact h2 c' (by omega)
    · show ((fX0_spaces _ z).bind fun v1 => if v1 ≤ nI c then _ else (rdJ (Ev_eight ev) 6 (nI c)).bind fun v3 => (fJ9_floorDiv_f86c9 v3 (Int64.ofInt (8 * bI a))).bind fun v4 => (wrJ W 6 (nI c) v4).bind fun v5 => (rdJ (Ev_eight ev) 6 (nI c)).bind fun v6 => (fJ9_floorMod_f86c9 v6 (Int64.ofInt (8 * bI a))).bind fun v7 => (wrJ R 6 (nI c) v7).bind fun v8 => (rdJ (Ev_eight ev) 6 (nI c)).bind fun v9 => (rdJ v5 6 (nI c)).bind fun v10 => rec (Int64.ofInt (siN (fun c => sI a (io (a 60) c)) c) + v9, Int64.ofInt (siN (flI a) c) + v10, nI c + 1, Ev_set_rest (Ev_set_whole ev v5) v8)) = rec (Int64.ofInt (siN (fun c => sI a (io (a 60) c)) c + sI a (io (a 60) c)), Int64.ofInt (siN (flI a) c + flI a c), nI (c + 1), Ev_set_rest (Ev_set_whole ev (vp_updL W c (Int64.ofInt (flI a c)))) (vp_updL R c (Int64.ofInt (rsI a c))))
      rw [c_spaces hC, Option.bind_some, if_neg (nI_ge hc (by omega)), rdJ_n (by omega) (by omega), hE c hc, Option.bind_some, hd, Option.bind_some, wrJ_n (by omega) (by omega), Option.bind_some, Option.bind_some, hm, Option.bind_some, wrJ_n (by omega) (by omega), Option.bind_some, Option.bind_some, rdJ_n (by omega) (by omega), Option.bind_some, pk_uLs, jI_add, jI_add, nI_1]
      rfl
  · rintro s ⟨W, R, rfl, h1, h2⟩
    refine ⟨(Int64.ofInt (siN (fun c => sI a (io (a 60) c)) (2 * a 60)), Int64.ofInt (siN (flI a) (2 * a 60)), nI (2 * a 60), Ev_set_rest (Ev_set_whole ev W) R), ⟨W, R, rfl, rfl, rfl, h1, h2⟩, fun rec => ?_⟩
    show ((fX0_spaces _ z).bind fun v1 => if v1 ≤ nI (2 * a 60) then _ else _) = _
    rw [c_spaces hC, Option.bind_some, if_pos (Int32.le_refl _)]
theorem c_first {z : Fo} {a : Nat → Nat} (hV : Valid a) (hC : CF z a) {ev : Ev} {r : Nat → Int} (hb : ∀ c, c < 2 * a 60 → -1 ≤ r c ∧ r c ≤ 1000000000000) (hR : ∀ c, c < 2 * a 60 → Ev_rest ev c = Int64.ofInt (r c)) : fX0_firstOfGreatestRest ev z = some (nI (bst r (2 * a 60 - 1))) := by
  have hN := hV.1
  have h : lp (gX0_firstOfGreatestRest_4 ev z) 1000 (nI (bst r 0), nI (0 + 1)) = some (nI (bst r (2 * a 60 - 1)), nI (2 * a 60)) := by
    refine lp_k (fun i => (nI (bst r i), nI (i + 1))) (2 * a 60 - 1) (by omega) ?_ ?_
    · intro i hi rec
      have hbs := (bst_spec r i).1
      have b1 := hb (i + 1) (by omega)
      have b2 := hb (bst r i) (by omega)
      show ((fX0_spaces ev z).bind fun v1 => if v1 ≤ nI (i + 1) then _ else (rdJ (Ev_rest ev) 6 (nI (i + 1))).bind fun v3 => (rdJ (Ev_rest ev) 6 (nI (bst r i))).bind fun v4 => (if v3 ≤ v4 then some (nI (bst r i)) else some (nI (i + 1))).bind fun v5 => rec (v5, nI (i + 1) + 1)) = rec (nI (if r (i + 1) ≤ r (bst r i) then bst r i else i + 1), nI (i + 1 + 1))
      rw [c_spaces hC, Option.bind_some, if_neg (nI_ge (by omega) (by omega)), rdJ_n (by omega) (by omega), Option.bind_some, rdJ_n (by omega) (by omega), Option.bind_some, hR _ (by omega), hR _ (by omega), nI_1]
      by_cases e : r (i + 1) ≤ r (bst r i)
      · rw [if_pos ((jI_le (sJ_of (by omega) (by omega)) (sJ_of (by omega) (by omega))).mpr e), if_pos e, Option.bind_some]
      · rw [if_neg (fun q => e ((jI_le (sJ_of (by omega) (by omega)) (sJ_of (by omega) (by omega))).mp q)), if_neg e, Option.bind_some]
    · intro rec
      show ((fX0_spaces ev z).bind fun v1 => if v1 ≤ nI (2 * a 60 - 1 + 1) then some (nI (bst r (2 * a 60 - 1)), nI (2 * a 60 - 1 + 1)) else _) = _
      rw [c_spaces hC, Option.bind_some, show 2 * a 60 - 1 + 1 = 2 * a 60 from by omega, if_pos (Int32.le_refl _)]
  unfold fX0_firstOfGreatestRest
  have e : ((0 : Int32), (1 : Int32)) = (nI (bst r 0), nI (0 + 1)) := rfl
  rw [e, h, Option.bind_some]
theorem mk_b {a : Nat → Nat} (hV : Valid a) (pk : Nat → Bool) (c : Nat) : -1 ≤ mkI a pk c ∧ mkI a pk c ≤ 1000000000000 := by
  have h1 := rs_b hV c
  have h2 := (NS hV).2.1
  unfold mkI
  split <;> omega
theorem c_whole2 {z : Fo} {a : Nat → Nat} (hV : Valid a) (hC : CF z a) (ev : Ev) {x y w : Int64} {W R : Nat → Int64} (hW : ∀ c, c < 2 * a 60 → W c = Int64.ofInt (flI a c)) (hR : ∀ c, c < 2 * a 60 → R c = Int64.ofInt (rsI a c)) : ∃ (s : Int32 × Ev), lp (gX0_makeWhole_117 z x y w (Int64.ofInt (lfI a))) 1000 (0, Ev_set_rest (Ev_set_whole ev W) R) = some s ∧ ∃ W' R', s.2 = Ev_set_rest (Ev_set_whole ev W') R' ∧ ∀ c, c < 2 * a 60 → W' c = whS a c := by
  have hN := hV.1
  have hl := lf_b hV
  refine lp_J (σ := Int32 × Ev) (ρ := Int32 × Ev) (fun i s => ∃ W' R', s = (nI i, Ev_set_rest (Ev_set_whole ev W') R') ∧ (∀ c, c < 2 * a 60 → W' c = Int64.ofInt (flI a c + (if pkS a i c = true then 1 else 0))) ∧ ∀ c, c < 2 * a 60 → R' c = Int64.ofInt (mkI a (pkS a i) c)) (lfI a).toNat _ (by omega) ⟨W, R, rfl, fun c hc => ?_, fun c hc => hR c hc⟩ ?_ ?_
  · rw [hW c hc]
    show _ = Int64.ofInt (flI a c + 0)
    rw [Int.add_zero]
  · rintro i s hi ⟨W1, R1, rfl, h1, h2⟩
    have hi2 : i < 2 * a 60 := by omega
    obtain ⟨n1, n2, _⟩ := nxt_spec hV hi2
    have hf := c_first (ev := Ev_set_rest (Ev_set_whole ev W1) R1) hV hC (fun c _ => mk_b hV (pkS a i) c) h2
    have hf2 : fX0_firstOfGreatestRest (Ev_set_rest (Ev_set_whole ev W1) R1) z = some (nI (nxt a i)) := hf
    refine ⟨(nI (i + 1), Ev_set_rest (Ev_set_whole ev (vp_updL W1 (nxt a i) (W1 (nxt a i) + 1))) (vp_updL R1 (nxt a i) (-1))), ⟨vp_updL W1 (nxt a i) (W1 (nxt a i) + 1), vp_updL R1 (nxt a i) (-1), rfl, fun c hc => ?_, fun c hc => ?_⟩, fun rec => ?_⟩
    · show _ = Int64.ofInt (flI a c + (if (if c = nxt a i then true else pkS a i c) = true then 1 else 0))
      by_cases e : c = nxt a i
      · rw [e, pk_uLs, if_pos rfl, if_pos rfl, h1 _ n1, n2, if_neg (by decide), show (1 : Int64) = Int64.ofInt 1 from rfl, jI_add, Int.add_zero]
      · rw [pk_uLn e, if_neg e, h1 c hc]
    · show _ = Int64.ofInt (if (if c = nxt a i then true else pkS a i c) = true then -1 else rsI a c)
      by_cases e : c = nxt a i
      · rw [e, pk_uLs, if_pos rfl, if_pos rfl]; rfl
      · rw [pk_uLn e, if_neg e, h2 c hc]; rfl
    · show ((fX0_spaces _ z).bind fun v1 => if v1 ≤ nI i then _ else if Int64.ofInt (lfI a) ≤ Int32.toInt64 (nI i) then _ else (fX0_firstOfGreatestRest (Ev_set_rest (Ev_set_whole ev W1) R1) z).bind fun v4 => (rdJ W1 6 v4).bind fun v5 => (wrJ W1 6 v4 (v5 + 1)).bind fun v6 => (wrJ R1 6 v4 (-1)).bind fun v7 => rec (nI i + 1, Ev_set_rest (Ev_set_whole ev v6) v7)) = _
      rw [c_spaces hC, Option.bind_some, if_neg (nI_ge hi2 (by omega)), wide_nI (by omega), if_neg (by rw [jI_le (sJ_of (by omega) (by omega)) (sJ_of (by omega) (by omega))]; omega), hf2, Option.bind_some, rdJ_n (by omega) (by omega), Option.bind_some, wrJ_n (by omega) (by omega), Option.bind_some, wrJ_n (by omega) (by omega), Option.bind_some, nI_1]
  · rintro s ⟨W1, R1, rfl, h1, h2⟩
    refine ⟨(nI (lfI a).toNat, Ev_set_rest (Ev_set_whole ev W1) R1), ⟨W1, R1, rfl, h1⟩, fun rec => ?_⟩
    show ((fX0_spaces _ z).bind fun v1 => if v1 ≤ nI (lfI a).toNat then _ else if Int64.ofInt (lfI a) ≤ Int32.toInt64 (nI (lfI a).toNat) then _ else _) = _
    rw [c_spaces hC, Option.bind_some]
    by_cases e : 2 * a 60 ≤ (lfI a).toNat
    · rw [if_pos (nI_le e (by omega))]
    · rw [if_neg (nI_ge (by omega) (by omega)), wide_nI (by omega), if_pos ((jI_le (sJ_of (by omega) (by omega)) (sJ_of (by omega) (by omega))).mpr (by omega))]
theorem s2_b {a : Nat → Nat} (hV : Valid a) : -900000000 ≤ s2I a ∧ s2I a ≤ 900000000 := by
  have hN := hV.1
  have h := siN_b (f := fun c => sI a (io (a 60) c)) (x := -150000000) (y := 150000000) (n := 2 * a 60) (fun c hc => ((NS hV).2.2.2 _ (io_lt hN.2 hc)).2)
  unfold s2I
  omega
theorem c_makeWhole {z : Fo} {a : Nat → Nat} (hV : Valid a) (hC : CF z a) {ev : Ev} (hb : Ev_below ev = (EL (wt a) (tw a) 6).2) (hE : ∀ c, c < 2 * a 60 → Ev_eight ev c = spS (wt a) (tw a) (io (a 60) c)) : ∃ W R, fX0_makeWhole ev z = some (Ev_set_rest (Ev_set_whole ev W) R) ∧ ∀ c, c < 2 * a 60 → W c = whS a c := by
  have hN := hV.1
  obtain ⟨b1, b2, b3, hs⟩ := NS hV
  have hs2 := s2_b hV
  have h8 : (8 : Int64) * Ev_below ev = Int64.ofInt (8 * bI a) := by
    rw [hb, b3, show (8 : Int64) = Int64.ofInt 8 from rfl, jI_mul]
  have hx : (if (8 : Int64) * Ev_below ev < (1 : Int64) then (1 : Int64) else (8 : Int64) * Ev_below ev) = Int64.ofInt (8 * bI a) := by
    rw [h8, show (1 : Int64) = Int64.ofInt 1 from rfl, if_neg (by rw [jI_lt (sJ_of (by omega) (by omega)) (sJ_of (by omega) (by omega))]; omega)]
  obtain ⟨s, e1, W, R, e2, e3, e4, e5, e6⟩ := c_whole1 hV hC (ev := ev) (fun c hc => (hE c hc).trans (hs _ (io_lt hN.2 hc)).1)
  have hfd := c_floorDiv (x := 2 * s2I a + 8 * bI a) (y := 2 * (8 * bI a)) (sK_of (by omega) (by omega)) (sK_of (by omega) (by omega)) (by omega)
  obtain ⟨s', f1, W', R', f2, f3⟩ := c_whole2 hV hC ev (x := Int64.ofInt (8 * bI a)) (y := s.1) (w := s.2.1) e5 e6
  refine ⟨W', R', ?_, f3⟩
  unfold fX0_makeWhole
  rw [hx, e1, Option.bind_some, show (2 : Int64) = Int64.ofInt 2 from rfl]
  rw [e2, e3] at f1 ⊢
  rw [jI_mul, jI_add, jI_mul, hfd, Option.bind_some, jI_sub, e4]
  rw [show (2 * s2I a + 8 * bI a) / (2 * (8 * bI a)) - siN (flI a) (2 * a 60) = lfI a from rfl, f1, Option.bind_some, f2]
def EvOK (ev : Ev) (a : Nat → Nat) : Prop := Ev_below ev = (EL (wt a) (tw a) 6).2 ∧ ∀ c, c < 2 * a 60 → Ev_opn ev c = opZ (wt a) (io (a 60) c) ∧ Ev_eight ev c = spS (wt a) (tw a) (io (a 60) c) ∧ Ev_whole ev c = whS a c
theorem c_find {z : Fo} {a : Nat → Nat} (hV : Valid a) (hC : CF z a) {ev : Ev} (hE : ER EvOK ev a) : ∃ ev', fX0_find ev z = some ev' ∧ Ev_found ev' = 1 ∧ EvOK ev' a := by
  unfold fX0_find
  rcases hE with h | ⟨h1, h2⟩
  · obtain ⟨M, e1, e2⟩ := c_writeRows hV hC ev
    obtain ⟨M2, O, E, f1, f2, f3⟩ := c_solveRows hV hC (Ev_set_rows ev M) e2
    obtain ⟨W, R, g1, g2⟩ := c_makeWhole hV hC (ev := Ev_set_eight (Ev_set_opn (Ev_set_rows (Ev_set_below (Ev_set_rows ev M) (EL (wt a) (tw a) 6).2) M2) O) E) rfl f3
    rw [if_pos h, e1, Option.bind_some, f1, Option.bind_some, g1, Option.bind_some]
    exact ⟨_, rfl, rfl, rfl, fun c hc => ⟨f2 c hc, f3 c hc, g2 c hc⟩⟩
  · rw [if_neg (by rw [h1]; decide)]
    exact ⟨ev, rfl, h1, h2⟩
