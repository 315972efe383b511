/-! ===== mirror, turn, copy ===== -/
def swA (a : Nat → Nat) (p q : Nat) : Nat → Nat := upN (upN a p (a q)) q (a p)
def mirI (a : Nat → Nat) (l : Nat) : Nat → Nat → Nat
  | 0 => a
  | h + 1 => swA (mirI a l h) (16 * l + 8 * 0 + h) (16 * l + 8 * 1 + h)
theorem mirI_out {a : Nat → Nat} {l k : Nat} (hk : k < 16 * l ∨ 16 * l + 16 ≤ k) : ∀ {i : Nat}, i ≤ 8 → mirI a l i k = a k
  | 0, _ => rfl
  | i + 1, hi => by
    show swA (mirI a l i) _ _ k = a k
    unfold swA
    rw [upN_n (by omega), upN_n (by omega)]
    exact mirI_out hk (by omega)
theorem mirI_in {a : Nat → Nat} {l : Nat} : ∀ {i : Nat}, i ≤ 8 → ∀ h, h < 8 → mirI a l i (16 * l + 8 * 0 + h) = (if h < i then a (16 * l + 8 * 1 + h) else a (16 * l + 8 * 0 + h)) ∧ mirI a l i (16 * l + 8 * 1 + h) = (if h < i then a (16 * l + 8 * 0 + h) else a (16 * l + 8 * 1 + h))
  | 0, _, h, hh => by rw [if_neg (by omega), if_neg (by omega)]; exact ⟨rfl, rfl⟩
  | i + 1, hi, h, hh => by
    obtain ⟨e1, e2⟩ := mirI_in (i := i) (by omega) h hh
    obtain ⟨f1, f2⟩ := mirI_in (a := a) (l := l) (i := i) (by omega) i (by omega)
    rw [if_neg (by omega)] at f1 f2
    show swA (mirI a l i) _ _ _ = _ ∧ swA (mirI a l i) _ _ _ = _
    unfold swA
    by_cases e : h = i
    · subst e
      rw [if_pos (by omega), if_pos (by omega), upN_n (by omega), upN_s, upN_s]
      exact ⟨f2, f1⟩
    · rw [upN_n (by omega), upN_n (by omega), upN_n (by omega), upN_n (by omega), e1, e2]
      by_cases e3 : h < i
      · rw [if_pos e3, if_pos e3, if_pos (by omega), if_pos (by omega)]; exact ⟨rfl, rfl⟩
      · rw [if_neg e3, if_neg e3, if_neg (by omega), if_neg (by omega)]; exact ⟨rfl, rfl⟩
theorem swA_valid {a : Nat → Nat} (h : Valid a) {p q : Nat} (hp : p < 48) (hq : q < 48) : Valid (swA a p q) := (h.back hp (h.bk hq)).back hq (h.bk hp)
theorem mirI_valid {a : Nat → Nat} (h : Valid a) {l : Nat} (hl : l < 3) : ∀ {i : Nat}, i ≤ 8 → Valid (mirI a l i)
  | 0, _ => h
  | i + 1, hi => swA_valid (mirI_valid h hl (by omega)) (by omega) (by omega)
theorem c_swap {z : Fo} {a : Nat → Nat} (hC : CF z a) {l : Nat} (hl : l < 3) : ∃ z', fX1_swapSides z (nI l) = some z' ∧ CF z' (mirI a l 8) := by
  obtain ⟨r, h1, h2⟩ := lp_J (g := gX1_swapSides_2 (nI l)) (s := ((0 : Int32), z)) (fun i u => u.1 = nI i ∧ CF u.2 (mirI a l i)) 8 (fun r => CF r.2 (mirI a l 8)) (by omega) ⟨rfl, hC⟩ (by
    rintro i ⟨i1, z1⟩ hi ⟨rfl, hz⟩
    refine ⟨(nI (i + 1), Fo_set_backs (Fo_set_backs z1 (upd (Fo_backs z1) (16 * l + 8 * 0 + i) (nI (mirI a l i (16 * l + 8 * 1 + i))))) (upd (upd (Fo_backs z1) (16 * l + 8 * 0 + i) (nI (mirI a l i (16 * l + 8 * 1 + i)))) (16 * l + 8 * 1 + i) (nI (mirI a l i (16 * l + 8 * 0 + i))))), ⟨rfl, ?_⟩, fun rec => ?_⟩
    · exact (hz.back (p := 16 * l + 8 * 0 + i) (by omega)).back (p := 16 * l + 8 * 1 + i) (by omega)
    · show (if nI 8 ≤ nI i then _ else (fX1_backOf z1 (nI l) (nI 0) (nI i)).bind fun v2 => (fX1_backOf z1 (nI l) (nI 1) (nI i)).bind fun v3 => (fX1_putBack z1 (nI l) (nI 0) (nI i) v3).bind fun v4 => (fX1_putBack v4 (nI l) (nI 1) (nI i) v2).bind fun v5 => rec (nI i + 1, v5)) = _
      rw [if_neg (nI_ge (a := i) (b := 8) (by omega) (by omega)), c_backOf z1 hl (by omega) hi, Option.bind_some, c_backOf z1 hl (by omega) hi, Option.bind_some, c_putBack z1 _ hl (by omega) hi, Option.bind_some, c_putBack _ _ hl (by omega) hi, Option.bind_some, hz.2.2.2.2.1 _ (by omega), hz.2.2.2.2.1 _ (by omega), nI_1]) (by
    rintro ⟨i1, z1⟩ ⟨rfl, hz⟩
    exact ⟨(nI 8, z1), hz, fun rec => if_pos (show (8 : Int32) ≤ nI 8 by decide)⟩)
  refine ⟨r.2, ?_, h2⟩
  unfold fX1_swapSides
  rw [h1, Option.bind_some]
theorem r_mirrorNow (mo : Mo) {a : Nat → Nat} (hF : RF (Mo_now mo) a) {l : Nat} (hl : l < 3) : ∃ w, fX6_mirrorNow mo (nI l) = some (Mo_set_now mo w) ∧ RF w (mirI a l 8) := by
  obtain ⟨r, h1, w, h2, h3⟩ := lp_J (g := gX6_mirrorNow_2 (nI l)) (s := ((0 : Int32), mo)) (fun i u => ∃ w, u = (nI i, Mo_set_now mo w) ∧ RF w (mirI a l i)) 8 (fun r => ∃ w, r = (nI 8, Mo_set_now mo w) ∧ RF w (mirI a l 8)) (by omega) ⟨Mo_now mo, rfl, hF⟩ (by
    rintro i u hi ⟨w, rfl, hw⟩
    refine ⟨(nI (i + 1), Mo_set_now mo (upd (upd w (16 * l + 8 * 0 + i) (nI (mirI a l i (16 * l + 8 * 1 + i)))) (16 * l + 8 * 1 + i) (nI (mirI a l i (16 * l + 8 * 0 + i))))), ⟨_, rfl, (hw.up _ _).up _ _⟩, fun rec => ?_⟩
    show (if nI 8 ≤ nI i then _ else (fX6_at (nI l) (nI 0) (nI i)).bind fun v2 => (rdI w 63 v2).bind fun v3 => (fX6_at (nI l) (nI 0) (nI i)).bind fun v4 => (fX6_at (nI l) (nI 1) (nI i)).bind fun v5 => (rdI w 63 v5).bind fun v6 => (wrI w 63 v4 v6).bind fun v7 => (fX6_at (nI l) (nI 1) (nI i)).bind fun v8 => (wrI v7 63 v8 v3).bind fun v9 => rec (nI i + 1, Mo_set_now mo v9)) = _
    rw [if_neg (nI_ge (a := i) (b := 8) (by omega) (by omega)), r_at, Option.bind_some, rdI_n (by omega) (by omega), Option.bind_some, Option.bind_some, r_at, Option.bind_some, rdI_n (by omega) (by omega), Option.bind_some, wrI_n (by omega) (by omega), Option.bind_some, Option.bind_some, wrI_n (by omega) (by omega), Option.bind_some, hw _ (by omega), hw _ (by omega), nI_1]) (by
    rintro u ⟨w, rfl, hw⟩
    exact ⟨_, ⟨w, rfl, hw⟩, fun rec => if_pos (show (8 : Int32) ≤ nI 8 by decide)⟩)
  refine ⟨w, ?_, h3⟩
  unfold fX6_mirrorNow
  rw [h1, Option.bind_some, h2]
theorem alkB_mir {a : Nat → Nat} {l : Nat} : alkB (mirI a l 8) l 8 = alkB a l 8 := by
  have key : ∀ h, h < 8 → (mirI a l 8 (16 * l + h) = mirI a l 8 (16 * l + 8 + h) ↔ a (16 * l + h) = a (16 * l + 8 + h)) := by
    intro h hh
    obtain ⟨e1, e2⟩ := mirI_in (a := a) (l := l) (i := 8) (by omega) h hh
    rw [if_pos hh, show 16 * l + 8 * 0 + h = 16 * l + h by omega, show 16 * l + 8 * 1 + h = 16 * l + 8 + h by omega] at e1 e2
    rw [e1, e2]
    exact ⟨fun q => q.symm, fun q => q.symm⟩
  by_cases c : alkB a l 8 = true
  · rw [c]
    exact alkB_of fun h hh => (key h hh).mpr (alkB_all c h hh)
  · rw [show alkB a l 8 = false from Bool.eq_false_iff.mpr c]
    refine Bool.eq_false_iff.mpr fun q => c (alkB_of fun h hh => (key h hh).mp (alkB_all q h hh))
theorem sim_mirror (X : Ev → (Nat → Nat) → Prop) : Sim_mirror (RelX X) := by
  intro z ev li te pa im mo x1 hR
  have hR0 := hR
  obtain ⟨a, n, l, m, u, g, b, hV, hC, hF, hL, hLl, hU, hI, hE⟩ := hR
  have hN := hV.1
  by_cases c1 : W01 x1 (nI 0) (nI (a 60 - 1)) = 0
  · refine ⟨-1000000001, z, ev, pa, mo, ?_, ?_, hR0⟩
    · unfold fX5_mirror
      rw [c_hasLetter hV hC, Option.bind_some, if_pos c1]
    · unfold fX6_mirror
      rw [r_isLetter hV hF, Option.bind_some, if_pos c1]
  obtain ⟨i, -, hi, rfl⟩ := W01_yes (by omega) c1 (by omega)
  obtain ⟨ev1, pa1, Q, m1, u1, e1, e2, e3, e4⟩ := change_ok (ev := ev) li te im hV hC hF hU
  obtain ⟨z', f1, f2⟩ := c_swap hC (l := i) (by omega)
  obtain ⟨w, g1, g2⟩ := r_mirrorNow (Mo_set_undos (Mo_set_past mo Q) (nI m1)) (a := a) hF (l := i) (by omega)
  have hV' := mirI_valid hV (l := i) (by omega) (i := 8) (by omega)
  have h60 : mirI a i 8 60 = a 60 := mirI_out (by omega) (by omega)
  refine ⟨(if (if alkB a i 8 = true then (1 : Int32) else 0) = 0 then 1 else 0), z', ev1, pa1, Mo_set_now (Mo_set_undos (Mo_set_past mo Q) (nI m1)) w, ?_, ?_, mirI a i 8, n, l, m1, u1, g, b, hV', f2, g2, hL, fun k hk => by rw [h60]; exact hLl k hk, e4, hI, Or.inl e3⟩
  · unfold fX5_mirror
    rw [c_hasLetter hV hC, Option.bind_some, if_neg c1, e1, Option.bind_some, c_likeSides hV hC (by omega), Option.bind_some, f1, Option.bind_some]
  · unfold fX6_mirror
    rw [r_isLetter hV hF, Option.bind_some, if_neg c1, e2, Option.bind_some, g1, Option.bind_some, r_isAlike hV' g2 (by omega), Option.bind_some, alkB_mir]
