/-! ===== turn, copy ===== -/
def wsI (a : Nat → Nat) (i : Nat) : Nat → Nat → Nat
  | 0 => a
  | b + 1 => swA (wsI a i b) (51 + (3 * i + b)) (51 + (3 * b + i))
def trn (a : Nat → Nat) : Nat → Nat → Nat
  | 0 => a
  | i + 1 => wsI (mirI (trn a i) i 8) i i
theorem wsI_60 {a : Nat → Nat} {i : Nat} (hi : i < 3) : ∀ {b : Nat}, b ≤ i → wsI a i b 60 = a 60
  | 0, _ => rfl
  | b + 1, hb => by
    show swA (wsI a i b) _ _ 60 = _
    unfold swA
    rw [upN_n (by omega), upN_n (by omega)]
    exact wsI_60 hi (by omega)
theorem trn_60 {a : Nat → Nat} : ∀ {i : Nat}, i ≤ 3 → trn a i 60 = a 60
  | 0, _ => rfl
  | i + 1, hi => by
    show wsI (mirI (trn a i) i 8) i i 60 = _
    rw [wsI_60 (by omega) (by omega), mirI_out (by omega) (by omega), trn_60 (by omega)]
theorem Valid.wt {a : Nat → Nat} (h : Valid a) {k : Nat} (hk : k < 9) : a (51 + k) ≤ 4 := h.2.2.2.2.2.1 k hk
theorem wsI_valid {a : Nat → Nat} (h : Valid a) {i : Nat} (hi : i < a 60) : ∀ {b : Nat}, b ≤ i → Valid (wsI a i b)
  | 0, _ => h
  | b + 1, hb => by
    have h1 := wsI_valid h hi (b := b) (by omega)
    have hN := h.1
    have e : wsI a i b 60 = a 60 := wsI_60 (by omega) (by omega)
    have h2 := h1.weight (i0 := i) (j0 := b) (v := wsI a i b (51 + (3 * b + i))) (by omega) (by omega) (h1.wt (by omega))
    exact h2.weight (i0 := b) (j0 := i) (v := wsI a i b (51 + (3 * i + b))) (by rw [upN_n (by omega)]; omega) (by rw [upN_n (by omega)]; omega) (h1.wt (by omega))
theorem trn_valid {a : Nat → Nat} (h : Valid a) : ∀ {i : Nat}, i ≤ a 60 → Valid (trn a i)
  | 0, _ => h
  | i + 1, hi => by
    have hN := h.1
    have h1 := trn_valid h (i := i) (by omega)
    have h2 := mirI_valid h1 (l := i) (by omega) (i := 8) (by omega)
    exact wsI_valid h2 (by rw [mirI_out (by omega) (by omega), trn_60 (by omega)]; omega) (by omega)
theorem c_turn1 {z : Fo} {a : Nat → Nat} (hC : CF z a) {i : Nat} (hi : i < 3) : ∃ r, lp (gX1_turnRound_17 (nI i)) 1000 (0, z) = some r ∧ CF r.2 (wsI a i i) := by
  refine lp_J (σ := Int32 × Fo) (ρ := Int32 × Fo) (fun b u => u.1 = nI b ∧ CF u.2 (wsI a i b)) i (fun r => CF r.2 (wsI a i i)) (by omega) ⟨rfl, hC⟩ ?_ ?_
  · rintro b ⟨i1, z1⟩ hb ⟨rfl, hz⟩
    refine ⟨(nI (b + 1), Fo_set_weights (Fo_set_weights z1 (upd (Fo_weights z1) (3 * i + b) (nI (wsI a i b (51 + (3 * b + i)))))) (upd (upd (Fo_weights z1) (3 * i + b) (nI (wsI a i b (51 + (3 * b + i))))) (3 * b + i) (nI (wsI a i b (51 + (3 * i + b)))))), ⟨rfl, ?_⟩, fun rec => ?_⟩
    · exact (hz.weight (p := 3 * i + b) (by omega)).weight (p := 3 * b + i) (by omega)
    · show (if nI i ≤ nI b then _ else (fX1_weightOf z1 (nI i) (nI b)).bind fun v2 => (fX1_weightOf z1 (nI b) (nI i)).bind fun v3 => (fX1_putWeight z1 (nI i) (nI b) v3).bind fun v4 => (fX1_putWeight v4 (nI b) (nI i) v2).bind fun v5 => rec (nI b + 1, v5)) = _
      rw [if_neg (nI_ge (a := b) (b := i) (by omega) (by omega)), c_weightOf z1 (by omega) (by omega), Option.bind_some, c_weightOf z1 (by omega) (by omega), Option.bind_some, c_putWeight z1 _ (by omega) (by omega), Option.bind_some, c_putWeight _ _ (by omega) (by omega), Option.bind_some, hz.2.2.2.2.2 _ (by omega), hz.2.2.2.2.2 _ (by omega), nI_1]
  · rintro ⟨i1, z1⟩ ⟨rfl, hz⟩
    exact ⟨(nI i, z1), hz, fun rec => if_pos (nI_le (Nat.le_refl i) (by omega))⟩
theorem c_turnRound {z : Fo} {a : Nat → Nat} (hV : Valid a) (hC : CF z a) : ∃ z', fX1_turnRound z = some z' ∧ CF z' (trn a (a 60)) := by
  have hN := hV.1
  obtain ⟨r, h1, h2⟩ := lp_J (g := gX1_turnRound_2) (s := ((0 : Int32), z)) (fun i u => u.1 = nI i ∧ CF u.2 (trn a i)) (a 60) (fun r => CF r.2 (trn a (a 60))) (by omega) ⟨rfl, hC⟩ (by
    rintro i ⟨i1, z1⟩ hi ⟨rfl, hz⟩
    obtain ⟨z2, f1, f2⟩ := c_swap hz (l := i) (by omega)
    obtain ⟨r3, f3, f4⟩ := c_turn1 f2 (i := i) (by omega)
    refine ⟨(nI (i + 1), r3.2), ⟨rfl, f4⟩, fun rec => ?_⟩
    show (if Fo_many z1 ≤ nI i then _ else (fX1_swapSides z1 (nI i)).bind fun v2 => (lp (gX1_turnRound_17 (nI i)) 1000 (0, v2)).bind fun v3 => rec (nI i + 1, v3.2)) = _
    rw [hz.1, trn_60 (by omega), if_neg (nI_ge (a := i) (b := a 60) (by omega) (by omega)), f1, Option.bind_some, f3, Option.bind_some, nI_1]) (by
    rintro ⟨i1, z1⟩ ⟨rfl, hz⟩
    refine ⟨(nI (a 60), z1), hz, fun rec => if_pos ?_⟩
    show Fo_many z1 ≤ nI (a 60)
    rw [hz.1, trn_60 (by omega)]
    exact nI_le (Nat.le_refl _) (by omega))
  refine ⟨r.2, ?_, h2⟩
  unfold fX1_turnRound
  rw [h1, Option.bind_some]
theorem r_weightOf (mo : Mo) {i j : Nat} (hi : i < 3) (hj : j < 3) : fX6_weightOf mo (nI i) (nI j) = some (Mo_now mo (51 + (3 * i + j))) := by
  unfold fX6_weightOf
  rw [show (51 : Int32) = nI 51 from rfl, show (3 : Int32) = nI 3 from rfl, nI_mul, nI_add, nI_add, rdI_n (by omega) (by omega), Option.bind_some, Nat.add_assoc]
theorem r_turn1 (mo : Mo) {a : Nat → Nat} (hF : RF (Mo_now mo) a) {i : Nat} (hi : i < 3) : ∃ w, lp (gX6_turn_24 (nI i)) 1000 (0, mo) = some (nI i, Mo_set_now mo w) ∧ RF w (wsI a i i) := by
  obtain ⟨r, h1, w, h2, h3⟩ := lp_J (g := gX6_turn_24 (nI i)) (s := ((0 : Int32), mo)) (fun b u => ∃ w, u = (nI b, Mo_set_now mo w) ∧ RF w (wsI a i b)) i (fun r => ∃ w, r = (nI i, Mo_set_now mo w) ∧ RF w (wsI a i i)) (by omega) ⟨Mo_now mo, rfl, hF⟩ (by
    rintro b u hb ⟨w, rfl, hw⟩
    refine ⟨(nI (b + 1), Mo_set_now mo (upd (upd w (51 + (3 * i + b)) (nI (wsI a i b (51 + (3 * b + i))))) (51 + (3 * b + i)) (nI (wsI a i b (51 + (3 * i + b)))))), ⟨_, rfl, (hw.up _ _).up _ _⟩, fun rec => ?_⟩
    show (if nI i ≤ nI b then _ else (fX6_weightOf (Mo_set_now mo w) (nI i) (nI b)).bind fun v2 => (fX6_weightOf (Mo_set_now mo w) (nI b) (nI i)).bind fun v3 => (wrI w 63 ((nI 51 + nI 3 * nI i) + nI b) v3).bind fun v4 => (wrI v4 63 ((nI 51 + nI 3 * nI b) + nI i) v2).bind fun v5 => rec (nI b + 1, Mo_set_now mo v5)) = _
    rw [if_neg (nI_ge (a := b) (b := i) (by omega) (by omega)), r_weightOf _ (by omega) (by omega), Option.bind_some, r_weightOf _ (by omega) (by omega), Option.bind_some, nI_mul, nI_add, nI_add, wrI_n (by omega) (by omega), Option.bind_some, nI_mul, nI_add, nI_add, wrI_n (by omega) (by omega), Option.bind_some, nI_1, Nat.add_assoc, Nat.add_assoc]
    show rec (nI (b + 1), Mo_set_now mo (upd (upd w _ (w (51 + (3 * b + i)))) _ (w (51 + (3 * i + b))))) = _
    rw [hw _ (by omega), hw _ (by omega)]) (by
    rintro u ⟨w, rfl, hw⟩
    exact ⟨_, ⟨w, rfl, hw⟩, fun rec => if_pos (nI_le (Nat.le_refl i) (by omega))⟩)
  exact ⟨w, by rw [h1, h2], h3⟩
theorem r_turn2 (mo : Mo) {a : Nat → Nat} (hV : Valid a) (hF : RF (Mo_now mo) a) : ∃ w, lp gX6_turn_6 1000 (0, mo) = some (nI (a 60), Mo_set_now mo w) ∧ RF w (trn a (a 60)) := by
  have hN := hV.1
  obtain ⟨r, h1, w, h2, h3⟩ := lp_J (g := gX6_turn_6) (s := ((0 : Int32), mo)) (fun i u => ∃ w, u = (nI i, Mo_set_now mo w) ∧ RF w (trn a i)) (a 60) (fun r => ∃ w, r = (nI (a 60), Mo_set_now mo w) ∧ RF w (trn a (a 60))) (by omega) ⟨Mo_now mo, rfl, hF⟩ (by
    rintro i u hi ⟨w, rfl, hw⟩
    obtain ⟨w2, f1, f2⟩ := r_mirrorNow (Mo_set_now mo w) (a := trn a i) hw (l := i) (by omega)
    obtain ⟨w3, f3, f4⟩ := r_turn1 (Mo_set_now (Mo_set_now mo w) w2) f2 (i := i) (by omega)
    refine ⟨(nI (i + 1), Mo_set_now mo w3), ⟨_, rfl, f4⟩, fun rec => ?_⟩
    show (rdI w 63 (nI 60)).bind (fun v1 => (if v1 ≤ nI i then _ else (fX6_mirrorNow (Mo_set_now mo w) (nI i)).bind fun v3 => (lp (gX6_turn_24 (nI i)) 1000 (0, v3)).bind fun v4 => rec (nI i + 1, v4.2))) = _
    rw [rdI_n (by omega) (by omega), Option.bind_some, hw 60 (by omega), trn_60 (by omega), if_neg (nI_ge (a := i) (b := a 60) (by omega) (by omega)), f1, Option.bind_some, f3, Option.bind_some, nI_1]) (by
    rintro u ⟨w, rfl, hw⟩
    refine ⟨_, ⟨w, rfl, hw⟩, fun rec => ?_⟩
    show (rdI w 63 (nI 60)).bind (fun v1 => (if v1 ≤ nI (a 60) then some (nI (a 60), Mo_set_now mo w) else _)) = _
    rw [rdI_n (by omega) (by omega), Option.bind_some, hw 60 (by omega), trn_60 (by omega), if_pos (nI_le (Nat.le_refl _) (by omega))])
  exact ⟨w, by rw [h1, h2], h3⟩
theorem sim_turn (X : Ev → (Nat → Nat) → Prop) : Sim_turn (RelX X) := by
  intro z ev li te pa im mo hR
  obtain ⟨a, n, l, m, u, g, b, hV, hC, hF, hL, hLl, hU, hI, hE⟩ := hR
  have hN := hV.1
  obtain ⟨ev1, pa1, Q, m1, u1, e1, e2, e3, e4⟩ := change_ok (ev := ev) li te im hV hC hF hU
  obtain ⟨z', f1, f2⟩ := c_turnRound hV hC
  obtain ⟨w, g1, g2⟩ := r_turn2 (Mo_set_undos (Mo_set_past mo Q) (nI m1)) (a := a) hV hF
  have h60 : trn a (a 60) 60 = a 60 := trn_60 (by omega)
  refine ⟨nI (a 60), z', ev1, pa1, Mo_set_now (Mo_set_undos (Mo_set_past mo Q) (nI m1)) w, ?_, ?_, trn a (a 60), n, l, m1, u1, g, b, trn_valid hV (Nat.le_refl _), f2, g2, hL, fun k hk => by rw [h60]; exact hLl k hk, e4, hI, Or.inl e3⟩
  · unfold fX5_turn
    rw [e1, Option.bind_some, f1, Option.bind_some, f2.1, h60]
  · unfold fX6_turn
    rw [e2, Option.bind_some, g1, Option.bind_some, show (60 : Int32) = nI 60 from rfl, rdI_n (by omega) (by omega), Option.bind_some]
    show some (w 60, _) = _
    rw [g2 60 (by omega), h60]
/-! copy -/
def cpI (a : Nat → Nat) (l o : Nat) : Nat → Nat → Nat
  | 0 => a
  | k + 1 => upN (cpI a l o k) (16 * l + k) (cpI a l o k (16 * o + k))
def cnI (a : Nat → Nat) (l o : Nat) : Nat → Nat
  | 0 => 0
  | k + 1 => cnI a l o k + (if cpI a l o k (16 * l + k) = cpI a l o k (16 * o + k) then 0 else 1)
theorem cpI_60 {a : Nat → Nat} {l o : Nat} (hl : l < 3) : ∀ {k : Nat}, k ≤ 16 → cpI a l o k 60 = a 60
  | 0, _ => rfl
  | k + 1, hk => by
    show upN _ _ _ 60 = _
    rw [upN_n (by omega)]
    exact cpI_60 hl (by omega)
theorem cpI_valid {a : Nat → Nat} (h : Valid a) {l o : Nat} (hl : l < 3) (ho : o < 3) : ∀ {k : Nat}, k ≤ 16 → Valid (cpI a l o k)
  | 0, _ => h
  | k + 1, hk => (cpI_valid h hl ho (k := k) (by omega)).back (by omega) ((cpI_valid h hl ho (k := k) (by omega)).bk (by omega))
theorem nI_if {x y : Nat} (hx : x < 1000) (hy : y < 1000) : (if nI x = nI y then (0 : Int32) else 1) = nI (if x = y then 0 else 1) := by
  by_cases h : x = y
  · rw [if_pos h, if_pos (by rw [h])]; rfl
  · rw [if_neg h, if_neg (fun q => h ((nI_eq (by omega) (by omega)).mp q))]; rfl
theorem c_copy1 {z : Fo} {a : Nat → Nat} (hV : Valid a) {l o s c0 : Nat} (hl : l < 3) (ho : o < 3) (hs : s < 2) (hC : CF z (cpI a l o (8 * s))) : ∃ r, lp (gX1_takeLetter_45 (nI l) (nI o) (nI s)) 1000 (nI (c0 + cnI a l o (8 * s)), 0, z) = some r ∧ r.1 = nI (c0 + cnI a l o (8 * (s + 1))) ∧ CF r.2.2 (cpI a l o (8 * (s + 1))) := by
  refine lp_J (σ := Int32 × Int32 × Fo) (ρ := Int32 × Int32 × Fo) (fun i u => u.1 = nI (c0 + cnI a l o (8 * s + i)) ∧ u.2.1 = nI i ∧ CF u.2.2 (cpI a l o (8 * s + i))) 8 (fun r => r.1 = nI (c0 + cnI a l o (8 * (s + 1))) ∧ CF r.2.2 (cpI a l o (8 * (s + 1)))) (by omega) ⟨rfl, rfl, hC⟩ ?_ ?_
  · rintro i ⟨c1, i1, z1⟩ hi ⟨h1, h2, hz⟩
    have h1 : c1 = _ := h1
    have h2 : i1 = _ := h2
    subst h1; subst h2
    have hv := cpI_valid hV hl ho (k := 8 * s + i) (by omega)
    have b1 := hv.bk (k := 16 * l + (8 * s + i)) (by omega)
    have b2 := hv.bk (k := 16 * o + (8 * s + i)) (by omega)
    refine ⟨(nI (c0 + cnI a l o (8 * s + (i + 1))), nI (i + 1), Fo_set_backs z1 (upd (Fo_backs z1) (16 * l + (8 * s + i)) (nI (cpI a l o (8 * s + i) (16 * o + (8 * s + i)))))), ⟨rfl, rfl, ?_⟩, fun rec => ?_⟩
    · exact hz.back (by omega)
    · show (if nI 8 ≤ nI i then _ else (fX1_backOf z1 (nI o) (nI s) (nI i)).bind fun v2 => (fX1_backOf z1 (nI l) (nI s) (nI i)).bind fun v3 => (fX1_putBack z1 (nI l) (nI s) (nI i) v2).bind fun v5 => rec (nI (c0 + cnI a l o (8 * s + i)) + (if v3 = v2 then 0 else 1), nI i + 1, v5)) = _
      rw [if_neg (nI_ge (a := i) (b := 8) (by omega) (by omega)), c_backOf z1 ho hs hi, Option.bind_some, c_backOf z1 hl hs hi, Option.bind_some, c_putBack z1 _ hl hs hi, Option.bind_some, hz.2.2.2.2.1 _ (by omega), hz.2.2.2.2.1 _ (by omega), nI_1, Nat.add_assoc (16 * l), Nat.add_assoc (16 * o), nI_if (by omega) (by omega), nI_add, Nat.add_assoc c0]
      rfl
  · rintro ⟨c1, i1, z1⟩ ⟨h1, h2, hz⟩
    have h1 : c1 = _ := h1
    have h2 : i1 = _ := h2
    subst h1; subst h2
    refine ⟨(_, nI 8, z1), ⟨?_, ?_⟩, fun rec => if_pos (show (8 : Int32) ≤ nI 8 by decide)⟩
    · show nI _ = nI _
      rw [show 8 * (s + 1) = 8 * s + 8 by omega]
    · show CF z1 _
      rw [show 8 * (s + 1) = 8 * s + 8 by omega]
      exact hz
theorem c_takeLetter {z : Fo} {a : Nat → Nat} (hV : Valid a) (hC : CF z a) {l o : Nat} (hl : l < 3) (ho : o < 3) : ∃ z', fX1_takeLetter z (nI l) (nI o) = some (nI ((if a (48 + l) = a (48 + o) then 0 else 1) + cnI (upN a (48 + l) (a (48 + o))) l o 16), z') ∧ CF z' (cpI (upN a (48 + l) (a (48 + o))) l o 16) := by
  have hb1 := hV.2.2.2.2.1 l hl
  have hb2 := hV.2.2.2.2.1 o ho
  have hV1 : Valid (upN a (48 + l) (a (48 + o))) := hV.body hl hb2
  have hC1 : CF (Fo_set_bodies z (upd (Fo_bodies z) l (nI (a (48 + o))))) (upN a (48 + l) (a (48 + o))) := hC.body hl
  obtain ⟨r, h1, h2, h3⟩ := lp_J (g := gX1_takeLetter_36 (nI l) (nI o)) (s := (nI (if a (48 + l) = a (48 + o) then 0 else 1), (0 : Int32), Fo_set_bodies z (upd (Fo_bodies z) l (nI (a (48 + o)))))) (fun s u => u.1 = nI ((if a (48 + l) = a (48 + o) then 0 else 1) + cnI (upN a (48 + l) (a (48 + o))) l o (8 * s)) ∧ u.2.1 = nI s ∧ CF u.2.2 (cpI (upN a (48 + l) (a (48 + o))) l o (8 * s))) 2 (fun r => r.1 = nI ((if a (48 + l) = a (48 + o) then 0 else 1) + cnI (upN a (48 + l) (a (48 + o))) l o 16) ∧ CF r.2.2 (cpI (upN a (48 + l) (a (48 + o))) l o 16)) (by omega) ⟨rfl, rfl, hC1⟩ (by
    rintro s ⟨c1, i1, z1⟩ hs ⟨q1, q2, hz⟩
    have q1 : c1 = _ := q1
    have q2 : i1 = _ := q2
    subst q1; subst q2
    obtain ⟨r, f1, f2, f3⟩ := c_copy1 hV1 (c0 := (if a (48 + l) = a (48 + o) then 0 else 1)) hl ho hs hz
    refine ⟨(r.1, nI (s + 1), r.2.2), ⟨f2, rfl, f3⟩, fun rec => ?_⟩
    show (if nI 2 ≤ nI s then _ else (lp (gX1_takeLetter_45 (nI l) (nI o) (nI s)) 1000 (_, 0, z1)).bind fun v2 => rec (v2.1, nI s + 1, v2.2.2)) = _
    rw [if_neg (nI_ge (a := s) (b := 2) (by omega) (by omega)), f1, Option.bind_some, nI_1]) (by
    rintro ⟨c1, i1, z1⟩ ⟨q1, q2, hz⟩
    have q1 : c1 = _ := q1
    have q2 : i1 = _ := q2
    subst q1; subst q2
    exact ⟨(_, nI 2, z1), ⟨rfl, hz⟩, fun rec => if_pos (show (2 : Int32) ≤ nI 2 by decide)⟩)
  refine ⟨r.2.2, ?_, h3⟩
  unfold fX1_takeLetter
  rw [rdI_n hl (by omega), Option.bind_some, rdI_n ho (by omega), Option.bind_some, Option.bind_some, wrI_n hl (by omega), Option.bind_some, hC.2.2.2.1 l hl, hC.2.2.2.1 o ho, nI_if (by omega) (by omega), h1, Option.bind_some, h2]
theorem r_copy1 (mo : Mo) {a : Nat → Nat} (hV : Valid a) {l o c0 : Nat} (hl : l < 3) (ho : o < 3) (hF : RF (Mo_now mo) a) : ∃ w, lp (gX6_copy_76 (nI l) (nI o)) 1000 (nI c0, 0, mo) = some (nI (c0 + cnI a l o 16), nI 16, Mo_set_now mo w) ∧ RF w (cpI a l o 16) := by
  obtain ⟨r, h1, w, h2, h3⟩ := lp_J (g := gX6_copy_76 (nI l) (nI o)) (s := (nI c0, (0 : Int32), mo)) (fun i u => ∃ w, u = (nI (c0 + cnI a l o i), nI i, Mo_set_now mo w) ∧ RF w (cpI a l o i)) 16 (fun r => ∃ w, r = (nI (c0 + cnI a l o 16), nI 16, Mo_set_now mo w) ∧ RF w (cpI a l o 16)) (by omega) ⟨Mo_now mo, rfl, hF⟩ (by
    rintro i u hi ⟨w, rfl, hw⟩
    have hv := cpI_valid hV hl ho (k := i) (by omega)
    have b1 := hv.bk (k := 16 * l + i) (by omega)
    have b2 := hv.bk (k := 16 * o + i) (by omega)
    refine ⟨(nI (c0 + cnI a l o (i + 1)), nI (i + 1), Mo_set_now mo (upd w (16 * l + i) (nI (cpI a l o i (16 * o + i))))), ⟨_, rfl, hw.up _ _⟩, fun rec => ?_⟩
    show (if nI 16 ≤ nI i then _ else (rdI w 63 (nI 16 * nI l + nI i)).bind fun v2 => (rdI w 63 (nI 16 * nI o + nI i)).bind fun v3 => (rdI w 63 (nI 16 * nI o + nI i)).bind fun v5 => (wrI w 63 (nI 16 * nI l + nI i) v5).bind fun v6 => rec (nI (c0 + cnI a l o i) + (if v2 = v3 then 0 else 1), nI i + 1, Mo_set_now mo v6)) = _
    rw [if_neg (nI_ge (a := i) (b := 16) (by omega) (by omega)), nI_mul, nI_add, nI_mul, nI_add, rdI_n (by omega) (by omega), Option.bind_some, rdI_n (by omega) (by omega), Option.bind_some, Option.bind_some, wrI_n (by omega) (by omega), Option.bind_some, hw _ (by omega), hw _ (by omega), nI_1, nI_if (by omega) (by omega), nI_add, Nat.add_assoc c0]
    rfl) (by
    rintro u ⟨w, rfl, hw⟩
    exact ⟨_, ⟨w, rfl, hw⟩, fun rec => if_pos (show (16 : Int32) ≤ nI 16 by decide)⟩)
  exact ⟨w, by rw [h1, h2], h3⟩
theorem sim_copy (X : Ev → (Nat → Nat) → Prop) : Sim_copy (RelX X) := by
  intro z ev li te pa im mo x1 x2 hR
  have hR0 := hR
  obtain ⟨a, n, l, m, u, g, b, hV, hC, hF, hL, hLl, hU, hI, hE⟩ := hR
  have hN := hV.1
  by_cases c1 : W01 x1 (nI 0) (nI (a 60 - 1)) = 0
  · refine ⟨-1000000001, z, ev, pa, mo, ?_, ?_, hR0⟩
    · unfold fX5_copy
      rw [c_hasPair hV hC, if_pos c1, Option.bind_some, if_pos rfl]
    · unfold fX6_copy
      rw [r_isLetter hV hF, Option.bind_some, if_pos c1]
  by_cases c2 : W01 x2 (nI 0) (nI (a 60 - 1)) = 0
  · refine ⟨-1000000001, z, ev, pa, mo, ?_, ?_, hR0⟩
    · unfold fX5_copy
      rw [c_hasPair hV hC, if_neg c1, if_pos c2, Option.bind_some, if_pos rfl]
    · unfold fX6_copy
      rw [r_isLetter hV hF, Option.bind_some, if_neg c1, r_isLetter hV hF, Option.bind_some, if_pos c2]
  by_cases c3 : x1 = x2
  · refine ⟨-1000000001, z, ev, pa, mo, ?_, ?_, hR0⟩
    · unfold fX5_copy
      rw [c_hasPair hV hC, if_neg c1, if_neg c2, Option.bind_some, if_neg (by decide), if_pos c3]
    · unfold fX6_copy
      rw [r_isLetter hV hF, Option.bind_some, if_neg c1, r_isLetter hV hF, Option.bind_some, if_neg c2, if_pos c3]
  obtain ⟨i, -, hi, rfl⟩ := W01_yes (by omega) c1 (by omega)
  obtain ⟨j, -, hj, rfl⟩ := W01_yes (by omega) c2 (by omega)
  obtain ⟨ev1, pa1, Q, m1, u1, e1, e2, e3, e4⟩ := change_ok (ev := ev) li te im hV hC hF hU
  have hb1 := hV.2.2.2.2.1 i (by omega)
  have hb2 := hV.2.2.2.2.1 j (by omega)
  obtain ⟨z', f1, f2⟩ := c_takeLetter hV hC (l := i) (o := j) (by omega) (by omega)
  have hV1 : Valid (upN a (48 + i) (a (48 + j))) := hV.body (by omega) hb2
  obtain ⟨w, g1, g2⟩ := r_copy1 (Mo_set_now (Mo_set_undos (Mo_set_past mo Q) (nI m1)) (upd (Mo_now mo) (48 + i) (nI (a (48 + j))))) (c0 := (if a (48 + i) = a (48 + j) then 0 else 1)) hV1 (l := i) (o := j) (by omega) (by omega) (hF.up _ _)
  have h60 : cpI (upN a (48 + i) (a (48 + j))) i j 16 60 = a 60 := by rw [cpI_60 (by omega) (by omega), upN_n (by omega)]
  refine ⟨nI ((if a (48 + i) = a (48 + j) then 0 else 1) + cnI (upN a (48 + i) (a (48 + j))) i j 16), z', ev1, pa1, Mo_set_now (Mo_set_undos (Mo_set_past mo Q) (nI m1)) w, ?_, ?_, cpI (upN a (48 + i) (a (48 + j))) i j 16, n, l, m1, u1, g, b, cpI_valid hV1 (by omega) (by omega) (by omega), f2, g2, hL, fun k hk => by rw [h60]; exact hLl k hk, e4, hI, Or.inl e3⟩
  · unfold fX5_copy
    rw [c_hasPair hV hC, if_neg c1, if_neg c2, Option.bind_some, if_neg (by decide), if_neg c3, e1, Option.bind_some, f1, Option.bind_some]
  · unfold fX6_copy
    rw [r_isLetter hV hF, Option.bind_some, if_neg c1, r_isLetter hV hF, Option.bind_some, if_neg c2, if_neg c3, e2, Option.bind_some, show (48 : Int32) = nI 48 from rfl, nI_add, nI_add, rdI_n (by omega) (by omega), Option.bind_some, rdI_n (by omega) (by omega), Option.bind_some, Option.bind_some, wrI_n (by omega) (by omega), Option.bind_some]
    show (lp (gX6_copy_76 (nI i) (nI j)) 1000 ((if Mo_now mo (48 + i) = Mo_now mo (48 + j) then 0 else 1), 0, Mo_set_now (Mo_set_undos (Mo_set_past mo Q) (nI m1)) (upd (Mo_now mo) (48 + i) (Mo_now mo (48 + j))))).bind _ = _
    rw [hF _ (by omega), hF _ (by omega), nI_if (by omega) (by omega), g1, Option.bind_some]
