/-! ===== bare, lots ===== -/
def bareN (a : Nat → Nat) (i j : Nat) : Nat := smN (fun h => min (a 61) (a (16 * i + 8 * 1 + h) + a (16 * j + 8 * 0 + h))) 8
theorem smN_le {f : Nat → Nat} {c : Nat} (h : ∀ k, f k ≤ c) : ∀ n, smN f n ≤ c * n
  | 0 => Nat.zero_le _
  | n + 1 => by
    have h1 := smN_le h n
    have h2 := h n
    show smN f n + f n ≤ c * (n + 1)
    rw [Nat.mul_add]
    omega
theorem smN_ext {f g : Nat → Nat} : ∀ {n : Nat}, (∀ k, k < n → f k = g k) → smN f n = smN g n
  | 0, _ => rfl
  | n + 1, h => by
    show smN f n + f n = smN g n + g n
    rw [smN_ext (fun k hk => h k (by omega)), h n (by omega)]
theorem bareN_le (a : Nat → Nat) (h : a 61 ≤ 60) (i j : Nat) : bareN a i j ≤ 480 := by
  have := smN_le (f := fun h => min (a 61) (a (16 * i + 8 * 1 + h) + a (16 * j + 8 * 0 + h))) (c := 60) (fun k => by show min _ _ ≤ _; omega) 8
  unfold bareN
  omega
theorem bareN_ext {a a' : Nat → Nat} (h : ∀ k, k < 48 → a' k = a k) (h1 : a' 61 = a 61) {i j : Nat} (hi : i < 3) (hj : j < 3) : bareN a' i j = bareN a i j := by
  unfold bareN
  refine smN_ext fun k hk => ?_
  show min (a' 61) (a' _ + a' _) = min (a 61) (a _ + a _)
  rw [h1, h _ (by omega), h _ (by omega)]
theorem minI1 {x y : Nat} (hx : x < 1000) (hy : y < 1000) : (if nI y < nI x then nI y else nI x) = nI (min x y) := by
  by_cases h : y < x
  · rw [if_pos ((nI_ltI (by omega) (by omega)).mpr h), show min x y = y by omega]
  · rw [if_neg (fun q => h ((nI_ltI (by omega) (by omega)).mp q)), show min x y = x by omega]
theorem c_bareOf {z : Fo} {a : Nat → Nat} (hV : Valid a) (hC : CF z a) {i j : Nat} (hi : i < 3) (hj : j < 3) : fX1_bareOf z (nI i) (nI j) = some (nI (bareN a i j)) := by
  have h : lp (gX1_bareOf_21 z (nI i) (nI j) (nI (16 * i + 8 * 1 + 0)) (nI (16 * j + 8 * 0 + 0))) 1000 (0, 0) = some (nI (bareN a i j), nI 8) := by
    refine lp_k (fun k => (nI (smN (fun h => min (a 61) (a (16 * i + 8 * 1 + h) + a (16 * j + 8 * 0 + h))) k), nI k)) 8 (by omega) ?_ ?_
    · intro k hk rec
      show (if nI 8 ≤ nI k then _ else (rdI (Fo_backs z) 48 (nI (16 * i + 8 * 1 + 0) + nI k)).bind fun v2 => (rdI (Fo_backs z) 48 (nI (16 * j + 8 * 0 + 0) + nI k)).bind fun v3 => rec (nI (smN (fun h => min (a 61) (a (16 * i + 8 * 1 + h) + a (16 * j + 8 * 0 + h))) k) + (if v2 + v3 < Fo_depth z then v2 + v3 else Fo_depth z), nI k + 1)) = _
      have b1 := hV.bk (k := 16 * i + 8 * 1 + k) (by omega)
      have b2 := hV.bk (k := 16 * j + 8 * 0 + k) (by omega)
      have b3 := hV.2.1
      rw [if_neg (nI_ge (a := k) (b := 8) (by omega) (by omega)), nI_add, nI_add, rdI_n (by omega) (by omega), Option.bind_some, rdI_n (by omega) (by omega), Option.bind_some, hC.2.2.2.2.1 _ (by omega), hC.2.2.2.2.1 _ (by omega), hC.2.1, nI_add, show 16 * i + 8 * 1 + 0 + k = 16 * i + 8 * 1 + k by omega, show 16 * j + 8 * 0 + 0 + k = 16 * j + 8 * 0 + k by omega, minI1 (by omega) (by omega), nI_add, nI_1]
      rfl
    · intro rec
      show (if (8 : Int32) ≤ nI 8 then some (nI _, nI 8) else _) = _
      rw [if_pos (by decide)]
      rfl
  unfold fX1_bareOf
  rw [show (1 : Int32) = nI 1 from rfl, show (0 : Int32) = nI 0 from rfl, c_place, Option.bind_some, c_place, Option.bind_some]
  show (lp _ 1000 ((0 : Int32), (0 : Int32))).bind _ = _
  rw [h, Option.bind_some]
theorem r_bare {mo : Mo} {a : Nat → Nat} (hV : Valid a) (hF : RF (Mo_now mo) a) {i j : Nat} (hi : i < 3) (hj : j < 3) : fX6_bare mo (nI i) (nI j) = some (nI (bareN a i j)) := by
  have h : lp (gX6_bare_5 mo (nI i) (nI j)) 1000 (0, 0) = some (nI (bareN a i j), nI 8) := by
    refine lp_k (fun k => (nI (smN (fun h => min (a 61) (a (16 * i + 8 * 1 + h) + a (16 * j + 8 * 0 + h))) k), nI k)) 8 (by omega) ?_ ?_
    · intro k hk rec
      show (if nI 8 ≤ nI k then _ else (fX6_at (nI i) (nI 1) (nI k)).bind fun v2 => (rdI (Mo_now mo) 63 v2).bind fun v3 => (fX6_at (nI j) (nI 0) (nI k)).bind fun v4 => (rdI (Mo_now mo) 63 v4).bind fun v5 => (rdI (Mo_now mo) 63 (nI 61)).bind fun v6 => ((if v6 ≤ v3 + v5 then (rdI (Mo_now mo) 63 (nI 61)).bind fun v9 => some v9 else some (v3 + v5))).bind fun v7 => rec (nI (smN (fun h => min (a 61) (a (16 * i + 8 * 1 + h) + a (16 * j + 8 * 0 + h))) k) + v7, nI k + 1)) = _
      have b1 := hV.bk (k := 16 * i + 8 * 1 + k) (by omega)
      have b2 := hV.bk (k := 16 * j + 8 * 0 + k) (by omega)
      have b3 := hV.2.1
      have e : (if nI (a 61) ≤ nI (a (16 * i + 8 * 1 + k) + a (16 * j + 8 * 0 + k)) then some (nI (a 61)) else some (nI (a (16 * i + 8 * 1 + k) + a (16 * j + 8 * 0 + k)))) = some (nI (min (a 61) (a (16 * i + 8 * 1 + k) + a (16 * j + 8 * 0 + k)))) := by
        by_cases h : a 61 ≤ a (16 * i + 8 * 1 + k) + a (16 * j + 8 * 0 + k)
        · rw [if_pos (nI_le h (by omega)), Nat.min_eq_left h]
        · rw [if_neg (nI_ge (by omega) (by omega)), Nat.min_eq_right (by omega)]
      rw [if_neg (nI_ge (a := k) (b := 8) (by omega) (by omega)), r_at, Option.bind_some, rdI_n (by omega) (by omega), Option.bind_some, r_at, Option.bind_some, rdI_n (by omega) (by omega), Option.bind_some, rdI_n (by omega) (by omega), Option.bind_some, Option.bind_some, hF _ (by omega), hF _ (by omega), hF _ (by omega), nI_add, e, Option.bind_some, nI_add, nI_1]
      rfl
    · intro rec
      show (if (8 : Int32) ≤ nI 8 then some (nI _, nI 8) else _) = _
      rw [if_pos (by decide)]
      rfl
  unfold fX6_bare
  rw [h, Option.bind_some]
theorem c_bareOfAll {z : Fo} {a : Nat → Nat} (hV : Valid a) (hC : CF z a) : fX1_bareOfAll z = some (nI (smN (fun i => smN (fun j => bareN a i j) (a 60)) (a 60))) := by
  have hN := hV.1
  have inner : ∀ (i c0 : Nat), i < 3 → lp (gX1_bareOfAll_14 z (nI i)) 1000 (nI c0, 0) = some (nI (c0 + smN (fun j => bareN a i j) (a 60)), nI (a 60)) := by
    intro i c0 hi
    refine lp_k (fun k => (nI (c0 + smN (fun j => bareN a i j) k), nI k)) (a 60) (by omega) ?_ ?_
    · intro k hk rec
      show (if Fo_many z ≤ nI k then _ else (fX1_bareOf z (nI i) (nI k)).bind fun v2 => rec (nI (c0 + smN (fun j => bareN a i j) k) + v2, nI k + 1)) = _
      rw [hC.1, if_neg (nI_ge (a := k) (b := a 60) (by omega) (by omega)), c_bareOf hV hC hi (by omega), Option.bind_some, nI_add, nI_1, Nat.add_assoc]
      rfl
    · intro rec
      show (if Fo_many z ≤ nI (a 60) then some (nI _, nI (a 60)) else _) = _
      rw [hC.1, if_pos (nI_le (Nat.le_refl _) (by omega))]
  have h : lp (gX1_bareOfAll_4 z) 1000 (0, 0) = some (nI (smN (fun i => smN (fun j => bareN a i j) (a 60)) (a 60)), nI (a 60)) := by
    refine lp_k (fun k => (nI (smN (fun i => smN (fun j => bareN a i j) (a 60)) k), nI k)) (a 60) (by omega) ?_ ?_
    · intro k hk rec
      show (if Fo_many z ≤ nI k then _ else (lp (gX1_bareOfAll_14 z (nI k)) 1000 (nI (smN (fun i => smN (fun j => bareN a i j) (a 60)) k), 0)).bind fun v2 => rec (v2.1, nI k + 1)) = _
      rw [hC.1, if_neg (nI_ge (a := k) (b := a 60) (by omega) (by omega)), inner k _ (by omega), Option.bind_some, nI_1]
      rfl
    · intro rec
      show (if Fo_many z ≤ nI (a 60) then some (nI _, nI (a 60)) else _) = _
      rw [hC.1, if_pos (nI_le (Nat.le_refl _) (by omega))]
  unfold fX1_bareOfAll
  rw [h, Option.bind_some]
def lotN (X : Nat) : Nat := X * 16807 % 2147483647
theorem lotN_lt (X : Nat) : lotN X < 2147483647 := Nat.mod_lt _ (by omega)
theorem lot_n {X : Nat} (h : X < 2147483647) : lN X * 16807 - lN X * 16807 / 2147483647 * 2147483647 = lN (lotN X) := by
  rw [show (16807 : Int64) = lN 16807 from rfl, show (2147483647 : Int64) = lN 2147483647 from rfl, lN_mul, pk_lRem (by omega) (by omega) (by omega)]
  rfl
theorem mod31 {v : Nat} (h : v < 2147483647) : Int64.toInt32 (lN v - lN v / 31 * 31) = nI (v % 31) := by
  rw [show (31 : Int64) = lN 31 from rfl, pk_lRem (by omega) (by omega) (by omega), lN_i]
theorem mod5 {v : Nat} (h : v < 2147483647) : Int64.toInt32 (lN v - lN v / 5 * 5) = nI (v % 5) := by
  rw [show (5 : Int64) = lN 5 from rfl, pk_lRem (by omega) (by omega) (by omega), lN_i]
theorem c_nextLot {X : Nat} (h : X < 2147483647) : fX1_nextLot (lN X) = some (lN (lotN X)) := by
  unfold fX1_nextLot
  rw [lot_n h]
/-- sides by lots, one after the other -/
def dS (a : Nat → Nat) (X : Nat) : Nat → (Nat → Nat) × Nat
  | 0 => (a, X)
  | k + 1 => (upN (dS a X k).1 k (lotN (dS a X k).2 % 31), lotN (dS a X k).2)
theorem dS_lt {a : Nat → Nat} {X : Nat} (hX : X < 2147483647) : ∀ {k : Nat}, (dS a X k).2 < 2147483647
  | 0 => hX
  | _ + 1 => lotN_lt _
theorem dS_hi {a : Nat → Nat} {X q : Nat} (hq : 48 ≤ q) : ∀ {k : Nat}, k ≤ 48 → (dS a X k).1 q = a q
  | 0, _ => rfl
  | k + 1, hk => by
    show upN _ k _ q = _
    rw [upN_n (by omega)]
    exact dS_hi hq (by omega)
theorem dS_valid {a : Nat → Nat} (h : Valid a) {X : Nat} : ∀ {k : Nat}, k ≤ 48 → Valid (dS a X k).1
  | 0, _ => h
  | k + 1, hk => (dS_valid h (k := k) (by omega)).back (by omega) (by have := Nat.mod_lt (lotN (dS a X k).2) (show 0 < 31 by omega); omega)
theorem c_lots3 {z : Fo} {a : Nat → Nat} {X l s : Nat} {y : Int32} (hX : X < 2147483647) (hl : l < 3) (hs : s < 2) (hC : CF z (dS a X (16 * l + 8 * s)).1) : ∃ r, lp (gX1_drawLots_27 y (nI l) (nI s)) 1000 (lN (dS a X (16 * l + 8 * s)).2, 0, z) = some r ∧ r.1 = lN (dS a X (16 * l + 8 * s + 8)).2 ∧ CF r.2.2 (dS a X (16 * l + 8 * s + 8)).1 := by
  refine lp_J (σ := Int64 × Int32 × Fo) (ρ := Int64 × Int32 × Fo) (fun i u => u.1 = lN (dS a X (16 * l + 8 * s + i)).2 ∧ u.2.1 = nI i ∧ CF u.2.2 (dS a X (16 * l + 8 * s + i)).1) 8 (fun r => r.1 = lN (dS a X (16 * l + 8 * s + 8)).2 ∧ CF r.2.2 (dS a X (16 * l + 8 * s + 8)).1) (by omega) ⟨rfl, rfl, hC⟩ ?_ ?_
  · rintro i ⟨c1, i1, z1⟩ hi ⟨h1, h2, hz⟩
    have h1 : c1 = _ := h1
    have h2 : i1 = _ := h2
    subst h1; subst h2
    refine ⟨(lN (lotN (dS a X (16 * l + 8 * s + i)).2), nI (i + 1), Fo_set_backs z1 (upd (Fo_backs z1) (16 * l + 8 * s + i) (nI (lotN (dS a X (16 * l + 8 * s + i)).2 % 31)))), ⟨rfl, rfl, hz.back (by omega)⟩, fun rec => ?_⟩
    show (if nI 8 ≤ nI i then _ else (fX1_nextLot (lN (dS a X (16 * l + 8 * s + i)).2)).bind fun v2 => (fX1_putBack z1 (nI l) (nI s) (nI i) (Int64.toInt32 (v2 - v2 / 31 * 31))).bind fun v3 => rec (v2, nI i + 1, v3)) = _
    rw [if_neg (nI_ge (a := i) (b := 8) (by omega) (by omega)), c_nextLot (dS_lt hX), Option.bind_some, mod31 (lotN_lt _), c_putBack z1 _ hl hs hi, Option.bind_some, nI_1]
  · rintro ⟨c1, i1, z1⟩ ⟨h1, h2, hz⟩
    have h1 : c1 = _ := h1
    have h2 : i1 = _ := h2
    subst h1; subst h2
    exact ⟨(_, nI 8, z1), ⟨rfl, hz⟩, fun rec => if_pos (show (8 : Int32) ≤ nI 8 by decide)⟩
theorem c_lots2 {z : Fo} {a : Nat → Nat} {X l : Nat} {y : Int32} (hX : X < 2147483647) (hl : l < 3) (hC : CF z (dS a X (16 * l)).1) : ∃ r, lp (gX1_drawLots_18 y (nI l)) 1000 (lN (dS a X (16 * l)).2, 0, z) = some r ∧ r.1 = lN (dS a X (16 * (l + 1))).2 ∧ CF r.2.2 (dS a X (16 * (l + 1))).1 := by
  refine lp_J (σ := Int64 × Int32 × Fo) (ρ := Int64 × Int32 × Fo) (fun s u => u.1 = lN (dS a X (16 * l + 8 * s)).2 ∧ u.2.1 = nI s ∧ CF u.2.2 (dS a X (16 * l + 8 * s)).1) 2 (fun r => r.1 = lN (dS a X (16 * (l + 1))).2 ∧ CF r.2.2 (dS a X (16 * (l + 1))).1) (by omega) ⟨rfl, rfl, hC⟩ ?_ ?_
  · rintro s ⟨c1, i1, z1⟩ hs ⟨h1, h2, hz⟩
    have h1 : c1 = _ := h1
    have h2 : i1 = _ := h2
    subst h1; subst h2
    obtain ⟨r, f1, f2, f3⟩ := c_lots3 (y := y) hX hl hs hz
    refine ⟨(r.1, nI (s + 1), r.2.2), ⟨by rw [show 16 * l + 8 * (s + 1) = 16 * l + 8 * s + 8 by omega]; exact f2, rfl, by rw [show 16 * l + 8 * (s + 1) = 16 * l + 8 * s + 8 by omega]; exact f3⟩, fun rec => ?_⟩
    show (if nI 2 ≤ nI s then _ else (lp (gX1_drawLots_27 y (nI l) (nI s)) 1000 (_, 0, z1)).bind fun v2 => rec (v2.1, nI s + 1, v2.2.2)) = _
    rw [if_neg (nI_ge (a := s) (b := 2) (by omega) (by omega)), f1, Option.bind_some, nI_1]
  · rintro ⟨c1, i1, z1⟩ ⟨h1, h2, hz⟩
    have h1 : c1 = _ := h1
    have h2 : i1 = _ := h2
    subst h1; subst h2
    rw [show 16 * l + 8 * 2 = 16 * (l + 1) by omega] at hz
    exact ⟨(_, nI 2, z1), ⟨rfl, hz⟩, fun rec => if_pos (show (2 : Int32) ≤ nI 2 by decide)⟩
theorem c_lots1 {z : Fo} {a : Nat → Nat} {X : Nat} {y : Int32} (hV : Valid a) (hX : X < 2147483647) (hC : CF z a) : ∃ r, lp (gX1_drawLots_6 y) 1000 (lN X, 0, z) = some r ∧ r.1 = lN (dS a X (16 * a 60)).2 ∧ CF r.2.2 (dS a X (16 * a 60)).1 := by
  have hN := hV.1
  refine lp_J (σ := Int64 × Int32 × Fo) (ρ := Int64 × Int32 × Fo) (fun l u => u.1 = lN (dS a X (16 * l)).2 ∧ u.2.1 = nI l ∧ CF u.2.2 (dS a X (16 * l)).1) (a 60) (fun r => r.1 = lN (dS a X (16 * a 60)).2 ∧ CF r.2.2 (dS a X (16 * a 60)).1) (by omega) ⟨rfl, rfl, hC⟩ ?_ ?_
  · rintro l ⟨c1, i1, z1⟩ hl ⟨h1, h2, hz⟩
    have h1 : c1 = _ := h1
    have h2 : i1 = _ := h2
    subst h1; subst h2
    obtain ⟨r, f1, f2, f3⟩ := c_lots2 (y := y) hX (show l < 3 by omega) hz
    refine ⟨(r.1, nI (l + 1), r.2.2), ⟨f2, rfl, f3⟩, fun rec => ?_⟩
    show (if Fo_many z1 ≤ nI l then _ else (lp (gX1_drawLots_18 y (nI l)) 1000 (_, 0, z1)).bind fun v2 => rec (v2.1, nI l + 1, v2.2.2)) = _
    rw [hz.1, dS_hi (by omega) (by omega), if_neg (nI_ge (a := l) (b := a 60) (by omega) (by omega)), f1, Option.bind_some, nI_1]
  · rintro ⟨c1, i1, z1⟩ ⟨h1, h2, hz⟩
    have h1 : c1 = _ := h1
    have h2 : i1 = _ := h2
    subst h1; subst h2
    refine ⟨(_, nI (a 60), z1), ⟨rfl, hz⟩, fun rec => if_pos ?_⟩
    show Fo_many z1 ≤ nI (a 60)
    rw [hz.1, dS_hi (by omega) (by omega)]
    exact nI_le (Nat.le_refl _) (by omega)
/-- weights by lots -/
def dW (a : Nat → Nat) (X N : Nat) : Nat → (Nat → Nat) × Nat
  | 0 => (a, X)
  | k + 1 => (upN (dW a X N k).1 (51 + (3 * (k / N) + k % N)) (lotN (dW a X N k).2 % 5), lotN (dW a X N k).2)
theorem dW_lt {a : Nat → Nat} {X N : Nat} (hX : X < 2147483647) : ∀ {k : Nat}, (dW a X N k).2 < 2147483647
  | 0 => hX
  | _ + 1 => lotN_lt _
theorem dW_out {a : Nat → Nat} {X N q : Nat} (hN : 1 ≤ N ∧ N ≤ 3) (hq : q < 51 ∨ 60 ≤ q) : ∀ {k : Nat}, k ≤ N * N → (dW a X N k).1 q = a q
  | 0, _ => rfl
  | k + 1, hk => by
    show upN _ _ _ q = _
    have h1 : k % N < N := Nat.mod_lt _ (by omega)
    have h2 : k / N < N := Nat.div_lt_of_lt_mul (by omega)
    rw [upN_n (by omega)]
    exact dW_out hN hq (by omega)
theorem dW_valid {a : Nat → Nat} (h : Valid a) {X : Nat} : ∀ {k : Nat}, k ≤ a 60 * a 60 → Valid (dW a X (a 60) k).1
  | 0, _ => h
  | k + 1, hk => by
    have h1 : k % a 60 < a 60 := Nat.mod_lt _ (by have := h.1; omega)
    have h2 : k / a 60 < a 60 := Nat.div_lt_of_lt_mul (by omega)
    have e := dW_out (a := a) (X := X) (q := 60) h.1 (by omega) (k := k) (by omega)
    exact (dW_valid h (k := k) (by omega)).weight (by omega) (by omega) (by have := Nat.mod_lt (lotN (dW a X (a 60) k).2) (show 0 < 5 by omega); omega)
theorem divmod {N i j : Nat} (h : j < N) : (N * i + j) / N = i ∧ (N * i + j) % N = j := by
  have hN : 0 < N := by omega
  rw [Nat.mul_add_div hN, Nat.div_eq_of_lt h, Nat.mul_add_mod, Nat.mod_eq_of_lt h]
  exact ⟨by omega, rfl⟩
theorem c_lw2 {z : Fo} {a : Nat → Nat} {X i : Nat} {y : Int32} (hV : Valid a) (hX : X < 2147483647) (hi : i < a 60) (hC : CF z (dW a X (a 60) (a 60 * i)).1) : ∃ r, lp (gX1_drawLots_88 y (nI i)) 1000 (lN (dW a X (a 60) (a 60 * i)).2, 0, z) = some r ∧ r.1 = lN (dW a X (a 60) (a 60 * (i + 1))).2 ∧ CF r.2.2 (dW a X (a 60) (a 60 * (i + 1))).1 := by
  have hN := hV.1
  have hmul : a 60 * (i + 1) = a 60 * i + a 60 := Nat.mul_succ _ _
  have hle : a 60 * (i + 1) ≤ a 60 * a 60 := Nat.mul_le_mul_left _ (by omega)
  rw [hmul] at hle ⊢
  refine lp_J (σ := Int64 × Int32 × Fo) (ρ := Int64 × Int32 × Fo) (fun j u => u.1 = lN (dW a X (a 60) (a 60 * i + j)).2 ∧ u.2.1 = nI j ∧ CF u.2.2 (dW a X (a 60) (a 60 * i + j)).1) (a 60) (fun r => r.1 = lN (dW a X (a 60) (a 60 * i + a 60)).2 ∧ CF r.2.2 (dW a X (a 60) (a 60 * i + a 60)).1) (by omega) ⟨rfl, rfl, hC⟩ ?_ ?_
  · rintro j ⟨c1, i1, z1⟩ hj ⟨h1, h2, hz⟩
    have h1 : c1 = _ := h1
    have h2 : i1 = _ := h2
    subst h1; subst h2
    have e := dW_out (a := a) (X := X) (q := 60) hN (by omega) (k := a 60 * i + j) (by omega)
    obtain ⟨d1, d2⟩ := divmod (N := a 60) (i := i) (j := j) hj
    refine ⟨(lN (lotN (dW a X (a 60) (a 60 * i + j)).2), nI (j + 1), Fo_set_weights z1 (upd (Fo_weights z1) (3 * i + j) (nI (lotN (dW a X (a 60) (a 60 * i + j)).2 % 5)))), ⟨rfl, rfl, ?_⟩, fun rec => ?_⟩
    · show CF _ (upN _ (51 + (3 * ((a 60 * i + j) / a 60) + (a 60 * i + j) % a 60)) _)
      rw [d1, d2]
      exact hz.weight (by omega)
    · show (if Fo_many z1 ≤ nI j then _ else (fX1_nextLot (lN (dW a X (a 60) (a 60 * i + j)).2)).bind fun v2 => (fX1_putWeight z1 (nI i) (nI j) (Int64.toInt32 (v2 - v2 / 5 * 5))).bind fun v3 => rec (v2, nI j + 1, v3)) = _
      rw [hz.1, e, if_neg (nI_ge (a := j) (b := a 60) (by omega) (by omega)), c_nextLot (dW_lt hX), Option.bind_some, mod5 (lotN_lt _), c_putWeight z1 _ (by omega) (by omega), Option.bind_some, nI_1]
  · rintro ⟨c1, i1, z1⟩ ⟨h1, h2, hz⟩
    have h1 : c1 = _ := h1
    have h2 : i1 = _ := h2
    subst h1; subst h2
    have e := dW_out (a := a) (X := X) (q := 60) hN (by omega) (k := a 60 * i + a 60) (by omega)
    refine ⟨(_, nI (a 60), z1), ⟨rfl, hz⟩, fun rec => if_pos ?_⟩
    show Fo_many z1 ≤ nI (a 60)
    rw [hz.1, e]
    exact nI_le (Nat.le_refl _) (by omega)
theorem c_lw1 {z : Fo} {a : Nat → Nat} {X : Nat} {y : Int32} (hV : Valid a) (hX : X < 2147483647) (hC : CF z a) : ∃ r, lp (gX1_drawLots_76 y) 1000 (lN X, 0, z) = some r ∧ CF r.2.2 (dW a X (a 60) (a 60 * a 60)).1 := by
  have hN := hV.1
  refine lp_J (σ := Int64 × Int32 × Fo) (ρ := Int64 × Int32 × Fo) (fun i u => u.1 = lN (dW a X (a 60) (a 60 * i)).2 ∧ u.2.1 = nI i ∧ CF u.2.2 (dW a X (a 60) (a 60 * i)).1) (a 60) (fun r => CF r.2.2 (dW a X (a 60) (a 60 * a 60)).1) (by omega) ⟨rfl, rfl, hC⟩ ?_ ?_
  · rintro i ⟨c1, i1, z1⟩ hi ⟨h1, h2, hz⟩
    have h1 : c1 = _ := h1
    have h2 : i1 = _ := h2
    subst h1; subst h2
    have hle : a 60 * i ≤ a 60 * a 60 := Nat.mul_le_mul_left _ (by omega)
    have e := dW_out (a := a) (X := X) (q := 60) hN (by omega) (k := a 60 * i) hle
    obtain ⟨r, f1, f2, f3⟩ := c_lw2 (y := y) hV hX hi hz
    refine ⟨(r.1, nI (i + 1), r.2.2), ⟨f2, rfl, f3⟩, fun rec => ?_⟩
    show (if Fo_many z1 ≤ nI i then _ else (lp (gX1_drawLots_88 y (nI i)) 1000 (_, 0, z1)).bind fun v2 => rec (v2.1, nI i + 1, v2.2.2)) = _
    rw [hz.1, e, if_neg (nI_ge (a := i) (b := a 60) (by omega) (by omega)), f1, Option.bind_some, nI_1]
  · rintro ⟨c1, i1, z1⟩ ⟨h1, h2, hz⟩
    have h1 : c1 = _ := h1
    have h2 : i1 = _ := h2
    subst h1; subst h2
    have e := dW_out (a := a) (X := X) (q := 60) hN (by omega) (k := a 60 * a 60) (Nat.le_refl _)
    refine ⟨(_, nI (a 60), z1), hz, fun rec => if_pos ?_⟩
    show Fo_many z1 ≤ nI (a 60)
    rw [hz.1, e]
    exact nI_le (Nat.le_refl _) (by omega)
def driftA (a : Nat → Nat) (s : Nat) : Nat → Nat := (dW (dS a s (16 * a 60)).1 (dS a s (16 * a 60)).2 (a 60) (a 60 * a 60)).1
theorem c_drawLots {z : Fo} {a : Nat → Nat} {s : Nat} (hV : Valid a) (hs : s < 2147483647) (hC : CF z a) : ∃ z', fX1_drawLots z (nI s) = some z' ∧ CF z' (driftA a s) := by
  have hN := hV.1
  obtain ⟨r, h1, h2, h3⟩ := c_lots1 (y := nI s) hV hs hC
  have h60 : (dS a s (16 * a 60)).1 60 = a 60 := dS_hi (by omega) (by omega)
  obtain ⟨r2, h4, h5⟩ := c_lw1 (y := nI s) (X := (dS a s (16 * a 60)).2) (dS_valid hV (X := s) (k := 16 * a 60) (by omega)) (dS_lt hs) h3
  rw [h60] at h5
  refine ⟨r2.2.2, ?_, h5⟩
  unfold fX1_drawLots
  rw [nI_l (by omega), h1, Option.bind_some, h2, h4, Option.bind_some]
