/-! ===== LAYER 2: the reference solves ===== -/
theorem EL_skip {w t : Nat → Nat → Int} {k : Nat} : ∀ {d : Nat}, (∀ j, k ≤ j → j < k + d → opS w j) → EL w t (k + d) = EL w t k
  | 0, _ => rfl
  | d + 1, h => by
    rw [show k + (d + 1) = (k + d) + 1 from rfl, EL_op (h (k + d) (by omega) (by omega)), EL_skip (fun j h1 h2 => h j h1 (by omega))]
theorem EL_skip2 {w t : Nat → Nat → Int} {k k' : Nat} (hk : k ≤ k') (h : ∀ j, k ≤ j → j < k' → opS w j) : EL w t k' = EL w t k := by
  obtain ⟨d, rfl⟩ : ∃ d, k' = k + d := ⟨k' - k, by omega⟩
  exact EL_skip h
def eU (n : Nat) (u : Nat → Nat) (p : Nat) : Nat := if p < n then u p else 6
theorem UL_mono {w : Nat → Nat → Int} {n : Nat} {u : Nat → Nat} (h : UL w 6 n u) {p q : Nat} (hp : p < n) (hq : q < n) : (p < q → u p < u q) ∧ (u p < u q → p < q) ∧ (u p = u q → p = q) := by
  have h1 := h.2.2.1 p q
  have h2 := h.2.2.1 q p
  have e : p < q ∨ p = q ∨ q < p := by omega
  rcases e with e | e | e
  · have := h1 e hq; omega
  · subst e; omega
  · have := h2 e hp; omega
theorem EL_first {w t : Nat → Nat → Int} {n : Nat} {u : Nat → Nat} (h : UL w 6 n u) : EL w t (eU n u 0) = EL w t 0 := by
  unfold eU
  refine EL_skip2 (by omega) fun j h1 h2 => Classical.byContradiction fun hn => ?_
  have hj : j < 6 := by
    by_cases q : 0 < n
    · rw [if_pos q] at h2; have := (h.2.1 0 q).1; omega
    · rw [if_neg q] at h2; omega
  obtain ⟨p, hp, e⟩ := h.2.2.2 j hj hn
  rw [if_pos (show 0 < n by omega)] at h2
  have := (UL_mono h (show 0 < n by omega) hp).1
  by_cases q : p = 0
  · subst q; omega
  · have := this (by omega); omega
theorem EL_next {w t : Nat → Nat → Int} {n : Nat} {u : Nat → Nat} (h : UL w 6 n u) {p : Nat} (hp : p < n) : EL w t (eU n u (p + 1)) = EL w t (u p + 1) := by
  have h6 := (h.2.1 p hp).1
  unfold eU
  refine EL_skip2 ?_ fun j h1 h2 => Classical.byContradiction fun hn => ?_
  · by_cases q : p + 1 < n
    · rw [if_pos q]; have := h.2.2.1 p (p + 1) (by omega) q; omega
    · rw [if_neg q]; omega
  · have hj : j < 6 := by
      by_cases q : p + 1 < n
      · rw [if_pos q] at h2; have := (h.2.1 (p + 1) q).1; omega
      · rw [if_neg q] at h2; omega
    obtain ⟨q, hq, e⟩ := h.2.2.2 j hj hn
    have h3 := (UL_mono h hp hq).2.1 (by omega)
    rw [if_pos (show p + 1 < n by omega)] at h2
    by_cases e2 : q = p + 1
    · subst e2; omega
    · have := h.2.2.1 (p + 1) q (by omega) hq; omega
theorem r_sv1 (o : Mo) {n p i : Nat} (hn : n ≤ 6) (hp : p < n) (hi : i < n) (hne : i ≠ p) (b x5 x8 : Int64) (hb : ¬ b = 0) (C : Nat → Int64) : ∃ (s : Int32 × Mo), lp (gX6_solve_59 (nI n) b (nI p) x5 (nI i) x8) 1000 (0, Mo_set_cells o C) = some s ∧ ∃ C', s.2 = Mo_set_cells o C' ∧ (∀ j, j < 7 → C' (7 * i + j) = (C (7 * i + j) * x5 - x8 * C (7 * p + j)) / b) ∧ ∀ x, (x < 7 * i ∨ 7 * i + 7 ≤ x) → C' x = C x := by
  refine lp_J (σ := Int32 × Mo) (ρ := Int32 × Mo) (fun j s => ∃ C', s = (nI j, Mo_set_cells o C') ∧ (∀ j', j' < j → C' (7 * i + j') = (C (7 * i + j') * x5 - x8 * C (7 * p + j')) / b) ∧ ∀ x, (x < 7 * i ∨ 7 * i + j ≤ x) → C' x = C x) 7 _ (by omega) ⟨C, rfl, fun j hj => by omega, fun x hx => rfl⟩ ?_ ?_
  · rintro j s hj ⟨C', rfl, h1, h2⟩
    refine ⟨(nI (j + 1), Mo_set_cells o (vp_updL C' (7 * i + j) ((C (7 * i + j) * x5 - x8 * C (7 * p + j)) / b))), ⟨vp_updL C' (7 * i + j) ((C (7 * i + j) * x5 - x8 * C (7 * p + j)) / b), rfl, fun j' hj' => ?_, fun x hx => ?_⟩, fun rec => ?_⟩
    · by_cases e : j' = j
      · rw [e]; exact pk_uLs
      · rw [pk_uLn (by omega)]; exact h1 j' (by omega)
    · rw [pk_uLn (by omega)]; exact h2 x (by omega)
    · show (if nI 7 ≤ nI j then _ else if nI i = nI p then _ else (rdJ C' 42 (nI 7 * nI i + nI j)).bind fun v3 => (rdJ C' 42 (nI 7 * nI p + nI j)).bind fun v4 => (dvJ (v3 * x5 - x8 * v4) b).bind fun v5 => (wrJ C' 42 (nI 7 * nI i + nI j) v5).bind fun v6 => rec (nI j + 1, Mo_set_cells o v6)) = _
      rw [if_neg (nI_ge hj (by omega)), if_neg (by rw [nI_eq (by omega) (by omega)]; exact hne), nI_mul, nI_add, nI_mul, nI_add, rdJ_n (by omega) (by omega), Option.bind_some, rdJ_n (by omega) (by omega), Option.bind_some, dvJ_n hb, Option.bind_some, wrJ_n (by omega) (by omega), Option.bind_some, nI_1, h2 (7 * i + j) (by omega), h2 (7 * p + j) (by omega)]
  · rintro s ⟨C', rfl, h1, h2⟩
    exact ⟨(nI 7, Mo_set_cells o C'), ⟨C', rfl, h1, h2⟩, fun rec => if_pos (Int32.le_refl _)⟩
theorem r_sv2 (o : Mo) {n p : Nat} (hn : n ≤ 6) (hp : p < n) (b x5 : Int64) (hb : ¬ b = 0) (C : Nat → Int64) : ∃ (s : Int32 × Mo), lp (gX6_solve_35 (nI n) b (nI p) x5) 1000 (0, Mo_set_cells o C) = some s ∧ ∃ C', s.2 = Mo_set_cells o C' ∧ (∀ i j, i < n → i ≠ p → j < 7 → C' (7 * i + j) = (C (7 * i + j) * x5 - C (7 * i + p) * C (7 * p + j)) / b) ∧ ∀ j, j < 7 → C' (7 * p + j) = C (7 * p + j) := by
  refine lp_J (σ := Int32 × Mo) (ρ := Int32 × Mo) (fun i s => ∃ C', s = (nI i, Mo_set_cells o C') ∧ (∀ i' j, i' < i → i' ≠ p → j < 7 → C' (7 * i' + j) = (C (7 * i' + j) * x5 - C (7 * i' + p) * C (7 * p + j)) / b) ∧ (∀ j, j < 7 → C' (7 * p + j) = C (7 * p + j)) ∧ ∀ x, 7 * i ≤ x → C' x = C x) n _ (by omega) ⟨C, rfl, fun i j hi => by omega, fun j hj => rfl, fun x hx => rfl⟩ ?_ ?_
  · rintro i s hi ⟨C1, rfl, h1, h2, h3⟩
    by_cases e : i = p
    · subst e
      refine ⟨(nI (i + 1), Mo_set_cells o C1), ⟨C1, rfl, fun i' j h4 h5 h6 => h1 i' j (by omega) h5 h6, h2, fun x hx => h3 x (by omega)⟩, fun rec => ?_⟩
      show (if nI n ≤ nI i then _ else (rdJ C1 42 (nI 7 * nI i + nI i)).bind fun v2 => (lp (gX6_solve_59 (nI n) b (nI i) x5 (nI i) v2) 1000 (0, Mo_set_cells o C1)).bind fun v3 => rec (nI i + 1, v3.2)) = _
      rw [if_neg (nI_ge hi (by omega)), nI_mul, nI_add, rdJ_n (by omega) (by omega), Option.bind_some]
      have hq : lp (gX6_solve_59 (nI n) b (nI i) x5 (nI i) (C1 (7 * i + i))) 1000 (0, Mo_set_cells o C1) = some (nI 0, Mo_set_cells o C1) := by
        refine lp_k (fun j => (nI j, Mo_set_cells o C1)) 0 (by omega) (fun j hj => by omega) fun rec => ?_
        show (if nI 7 ≤ nI 0 then _ else if nI i = nI i then _ else _) = _
        rw [if_neg (nI_ge (by omega) (by omega)), if_pos rfl]
      rw [hq, Option.bind_some, nI_1]
    · obtain ⟨s', f1, C2, f2, f3, f4⟩ := r_sv1 o hn hp hi e b x5 (C1 (7 * i + p)) hb C1
      refine ⟨(nI (i + 1), Mo_set_cells o C2), ⟨C2, rfl, fun i' j h4 h5 h6 => ?_, fun j hj => ?_, fun x hx => ?_⟩, fun rec => ?_⟩
      · by_cases e2 : i' = i
        · subst e2
          rw [f3 j h6, h3 _ (by omega), h3 _ (by omega), h2 j h6]
        · rw [f4 _ (by omega)]; exact h1 i' j (by omega) h5 h6
      · rw [f4 _ (by omega)]; exact h2 j hj
      · rw [f4 _ (by omega)]; exact h3 x (by omega)
      · show (if nI n ≤ nI i then _ else (rdJ C1 42 (nI 7 * nI i + nI p)).bind fun v2 => (lp (gX6_solve_59 (nI n) b (nI p) x5 (nI i) v2) 1000 (0, Mo_set_cells o C1)).bind fun v3 => rec (nI i + 1, v3.2)) = _
        rw [if_neg (nI_ge hi (by omega)), nI_mul, nI_add, rdJ_n (by omega) (by omega), Option.bind_some, f1, Option.bind_some, f2, nI_1]
  · rintro s ⟨C', rfl, h1, h2, h3⟩
    exact ⟨(nI n, Mo_set_cells o C'), ⟨C', rfl, h1, h2⟩, fun rec => if_pos (Int32.le_refl _)⟩
theorem r_sv3 (o : Mo) {w t : Nat → Nat → Int} (hW : HW w t) {n : Nat} {u : Nat → Nat} (hU : UL w 6 n u) (C : Nat → Int64) (hC : ∀ p, p < n → (∀ q, q < n → C (7 * p + q) = Int64.ofInt (aM w t (u p) (u q))) ∧ C (7 * p + 6) = Int64.ofInt (aM w t (u p) 6)) : ∃ (s : Int64 × Int32 × Mo), lp (gX6_solve_14 (nI n)) 1000 (1, 0, Mo_set_cells o C) = some s ∧ ∃ C', s.1 = (EL w t 6).2 ∧ s.2.2 = Mo_set_cells o C' ∧ ∀ p, p < n → C' (7 * p + 6) = (EL w t 6).1 (u p) 6 := by
  have hn := hU.1
  refine lp_J (σ := Int64 × Int32 × Mo) (ρ := Int64 × Int32 × Mo) (fun p s => ∃ C', s = ((EL w t (eU n u p)).2, nI p, Mo_set_cells o C') ∧ ∀ i, i < n → (∀ j, j < n → C' (7 * i + j) = (EL w t (eU n u p)).1 (u i) (u j)) ∧ C' (7 * i + 6) = (EL w t (eU n u p)).1 (u i) 6) n _ (by omega) ⟨C, ?_, ?_⟩ ?_ ?_
  · rw [EL_first hU]; rfl
  · rw [EL_first hU]; exact hC
  · rintro p s hp ⟨C1, rfl, h⟩
    have hup := hU.2.1 p hp
    have he : eU n u p = u p := if_pos hp
    rw [he] at h ⊢
    have hpv := (Pv_all hW hup.1).2.2.1
    have hb : ¬ (EL w t (u p)).2 = 0 := fun q => by rw [q] at hpv; exact absurd hpv (by decide)
    obtain ⟨s', f1, C2, f2, f3, f4⟩ := r_sv2 o hn hp (EL w t (u p)).2 (C1 (7 * p + p)) hb C1
    have hnx : EL w t (eU n u (p + 1)) = (elS (EL w t (u p)).1 (EL w t (u p)).2 (u p), (EL w t (u p)).1 (u p) (u p)) := by
      rw [EL_next hU hp, EL_no hup.2]
    refine ⟨((EL w t (eU n u (p + 1))).2, nI (p + 1), Mo_set_cells o C2), ⟨C2, rfl, fun i hi => ?_⟩, fun rec => ?_⟩
    · rw [hnx]
      by_cases e : i = p
      · subst e
        refine ⟨fun j hj => ?_, ?_⟩
        · rw [f4 j (by omega), (h i hi).1 j hj]; exact elS_s.symm
        · rw [f4 6 (by omega), (h i hi).2]; exact elS_s.symm
      · have hne : u i ≠ u p := fun q => e ((UL_mono hU hi hp).2.2 q)
        refine ⟨fun j hj => ?_, ?_⟩
        · rw [f3 i j hi e (by omega), (h i hi).1 j hj, (h i hi).1 p hp, (h p hp).1 j hj, (h p hp).1 p hp, Int64.mul_comm ((EL w t (u p)).1 (u i) (u j))]
          exact (elS_n hne).symm
        · rw [f3 i 6 hi e (by omega), (h i hi).2, (h i hi).1 p hp, (h p hp).2, (h p hp).1 p hp, Int64.mul_comm ((EL w t (u p)).1 (u i) 6)]
          exact (elS_n hne).symm
    · show (if nI n ≤ nI p then _ else (rdJ C1 42 (nI 8 * nI p)).bind fun v2 => (lp (gX6_solve_35 (nI n) (EL w t (u p)).2 (nI p) v2) 1000 (0, Mo_set_cells o C1)).bind fun v3 => rec (v2, nI p + 1, v3.2)) = _
      rw [if_neg (nI_ge hp (by omega)), nI_mul, rdJ_n (by omega) (by omega), Option.bind_some, show 8 * p = 7 * p + p from by omega, f1, Option.bind_some, f2, nI_1, hnx, (h p hp).1 p hp]
  · rintro s ⟨C', rfl, h⟩
    have he : eU n u n = 6 := if_neg (by omega)
    rw [he] at h ⊢
    exact ⟨((EL w t 6).2, nI n, Mo_set_cells o C'), ⟨C', rfl, rfl, fun p hp => (h p hp).2⟩, fun rec => if_pos (Int32.le_refl _)⟩
def Same (mo mo' : Mo) : Prop := Mo_now mo' = Mo_now mo ∧ Mo_lined mo' = Mo_lined mo ∧ Mo_line mo' = Mo_line mo ∧ Mo_undos mo' = Mo_undos mo ∧ Mo_past mo' = Mo_past mo ∧ Mo_images mo' = Mo_images mo ∧ Mo_isKept mo' = Mo_isKept mo
theorem Same.rfl' (mo : Mo) : Same mo mo := ⟨rfl, rfl, rfl, rfl, rfl, rfl, rfl⟩
theorem Same.trans {x y z : Mo} (h : Same x y) (k : Same y z) : Same x z := by
  obtain ⟨a1, a2, a3, a4, a5, a6, a7⟩ := h
  obtain ⟨b1, b2, b3, b4, b5, b6, b7⟩ := k
  exact ⟨b1.trans a1, b2.trans a2, b3.trans a3, b4.trans a4, b5.trans a5, b6.trans a6, b7.trans a7⟩
def Sol (mo : Mo) (a : Nat → Nat) : Prop := Mo_whole mo = (EL (wt a) (tw a) 6).2 ∧ ∀ k, k < 6 → Mo_isOpn mo k = opZ (wt a) k ∧ Mo_spaces mo k = spS (wt a) (tw a) k
theorem r_zero (o : Mo) (x : Int32) (b : Int64) : ∃ (s : Int32 × Mo), lp (gX6_solve_150 x b) 1000 (0, o) = some s ∧ ∃ S, s.2 = Mo_set_spaces o S ∧ ∀ k, k < 6 → S k = 0 := by
  refine lp_J (σ := Int32 × Mo) (ρ := Int32 × Mo) (fun i s => ∃ S, s = (nI i, Mo_set_spaces o S) ∧ ∀ k, k < i → S k = 0) 6 _ (by omega) ⟨Mo_spaces o, rfl, fun k hk => by omega⟩ ?_ ?_
  · rintro i s hi ⟨S, rfl, h⟩
    refine ⟨(nI (i + 1), Mo_set_spaces o (vp_updL S i 0)), ⟨vp_updL S i 0, rfl, fun k hk => ?_⟩, fun rec => ?_⟩
    · by_cases e : k = i
      · rw [e]; exact pk_uLs
      · rw [pk_uLn e]; exact h k (by omega)
    · show (if nI 6 ≤ nI i then _ else (wrJ S 6 (nI i) 0).bind fun v2 => rec (nI i + 1, Mo_set_spaces o v2)) = _
      rw [if_neg (nI_ge hi (by omega)), wrJ_n hi (by omega), Option.bind_some, nI_1]
  · rintro s ⟨S, rfl, h⟩
    exact ⟨(nI 6, Mo_set_spaces o S), ⟨S, rfl, h⟩, fun rec => if_pos (Int32.le_refl _)⟩
theorem r_put {o : Mo} {w t : Nat → Nat → Int} {n : Nat} {u : Nat → Nat} (hU : UL w 6 n u) (b : Int64) (hu : ∀ p, p < n → Mo_unk o p = nI (u p)) (hC : ∀ p, p < n → Mo_cells o (7 * p + 6) = (EL w t 6).1 (u p) 6) (hz : ∀ k, k < 6 → Mo_spaces o k = 0) : ∃ (s : Int32 × Mo), lp (gX6_solve_174 (nI n) b) 1000 (0, o) = some s ∧ ∃ S, s.2 = Mo_set_spaces o S ∧ ∀ k, k < 6 → S k = spS w t k := by
  have hn := hU.1
  refine lp_J (σ := Int32 × Mo) (ρ := Int32 × Mo) (fun p s => ∃ S, s = (nI p, Mo_set_spaces o S) ∧ (∀ p', p' < p → S (u p') = (EL w t 6).1 (u p') 6) ∧ ∀ k, k < 6 → opS w k → S k = 0) n _ (by omega) ⟨Mo_spaces o, rfl, fun k hk => by omega, fun k hk _ => hz k hk⟩ ?_ ?_
  · rintro p s hp ⟨S, rfl, h1, h2⟩
    have hup := hU.2.1 p hp
    refine ⟨(nI (p + 1), Mo_set_spaces o (vp_updL S (u p) ((EL w t 6).1 (u p) 6))), ⟨vp_updL S (u p) ((EL w t 6).1 (u p) 6), rfl, fun p' hp' => ?_, fun k hk ho => ?_⟩, fun rec => ?_⟩
    · by_cases e : p' = p
      · rw [e]; exact pk_uLs
      · rw [pk_uLn (fun q => e ((UL_mono hU (by omega) hp).2.2 q))]; exact h1 p' (by omega)
    · rw [pk_uLn (show k ≠ u p from fun q => hup.2 (by rw [← q]; exact ho))]; exact h2 k hk ho
    · show (if nI n ≤ nI p then _ else (rdI (Mo_unk o) 6 (nI p)).bind fun v2 => (rdJ (Mo_cells o) 42 (nI 7 * nI p + nI 6)).bind fun v3 => (wrJ S 6 v2 v3).bind fun v4 => rec (nI p + 1, Mo_set_spaces o v4)) = _
      rw [if_neg (nI_ge hp (by omega)), rdI_n (by omega) (by omega), Option.bind_some, nI_mul, nI_add, rdJ_n (by omega) (by omega), Option.bind_some, hu p hp, hC p hp, wrJ_n hup.1 (by omega), Option.bind_some, nI_1]
  · rintro s ⟨S, rfl, h1, h2⟩
    refine ⟨(nI n, Mo_set_spaces o S), ⟨S, rfl, fun k hk => ?_⟩, fun rec => if_pos (Int32.le_refl _)⟩
    by_cases ho : opS w k
    · rw [spS_y ho, h2 k hk ho]
    · obtain ⟨p, hp, e⟩ := hU.2.2.2 k hk ho
      rw [spS_n ho, ← e, h1 p hp]
theorem r_solve {mo : Mo} {a : Nat → Nat} (hV : Valid a) (hF : RF (Mo_now mo) a) : ∃ mo', fX6_solve mo = some mo' ∧ Same mo mo' ∧ Sol mo' a := by
  obtain ⟨G, O, e1, e2⟩ := r_layOpen hV hF
  obtain ⟨n, u, U, C, f1, f2, f3, f4⟩ := r_layEquations (o := Mo_set_isOpn (Mo_set_grp mo G) O) hV hF e2
  obtain ⟨s, g1, C', g2, g3, g4⟩ := r_sv3 (Mo_set_unk (Mo_set_isOpn (Mo_set_grp mo G) O) U) (HW_N hV) f2 C f4
  obtain ⟨s2, h1, S, h2, h3⟩ := r_zero (Mo_set_whole (Mo_set_cells (Mo_set_unk (Mo_set_isOpn (Mo_set_grp mo G) O) U) C') (EL (wt a) (tw a) 6).2) (nI n) (EL (wt a) (tw a) 6).2
  obtain ⟨s3, k1, S', k2, k3⟩ := r_put (o := Mo_set_spaces (Mo_set_whole (Mo_set_cells (Mo_set_unk (Mo_set_isOpn (Mo_set_grp mo G) O) U) C') (EL (wt a) (tw a) 6).2) S) (t := tw a) f2 (EL (wt a) (tw a) 6).2 f3 g4 h3
  refine ⟨s3.2, ?_, ?_, ?_⟩
  · unfold fX6_solve
    rw [e1, Option.bind_some, f1, Option.bind_some, g1, Option.bind_some, g2, g3, h1, Option.bind_some, h2, k1, Option.bind_some]
  · rw [k2]
    exact ⟨rfl, rfl, rfl, rfl, rfl, rfl, rfl⟩
  · rw [k2]
    exact ⟨rfl, fun k hk => ⟨e2 k hk, k3 k hk⟩⟩
