/-! ===== LAYER 2: the bounds of the elimination; its end ===== -/
theorem nb {x y X Y : Int} (hx : 0 ≤ x ∧ x ≤ X) (hy : 0 ≤ y ∧ y ≤ Y) : 0 ≤ x * y ∧ x * y ≤ X * Y := ⟨Int.mul_nonneg hx.1 hy.1, (mb (x := x) (y := y) (X := X) (Y := Y) ⟨by omega, hx.2⟩ ⟨by omega, hy.2⟩).2⟩
theorem pw_b {w t : Nat → Nat → Int} (h : HW w t) (i : Nat) : 1 ≤ pw w i ∧ pw w i ≤ 144 := by
  have h0 := rh_b h (i := 0) (by omega)
  have h1 := rh_b h (i := 1) (by omega)
  have h2 := rh_b h (i := 2) (by omega)
  have k1 := Int.mul_pos (show 0 < rh w 1 by omega) (show 0 < rh w 2 by omega)
  have k2 := Int.mul_pos (show 0 < rh w 0 by omega) (show 0 < rh w 2 by omega)
  have k3 := Int.mul_pos (show 0 < rh w 0 by omega) (show 0 < rh w 1 by omega)
  have m1 := (nb (x := rh w 1) (y := rh w 2) (X := 12) (Y := 12) (by omega) (by omega)).2
  have m2 := (nb (x := rh w 0) (y := rh w 2) (X := 12) (Y := 12) (by omega) (by omega)).2
  have m3 := (nb (x := rh w 0) (y := rh w 1) (X := 12) (Y := 12) (by omega) (by omega)).2
  unfold pw
  split
  · omega
  · split <;> omega
theorem PW_b {w t : Nat → Nat → Int} (h : HW w t) : 1 ≤ PW w ∧ PW w ≤ 1728 := by
  have h0 := pw_b h 2
  have h2 := rh_b h (i := 2) (by omega)
  have e : PW w = pw w 2 * rh w 2 := rfl
  have k1 := Int.mul_pos (show 0 < pw w 2 by omega) (show 0 < rh w 2 by omega)
  have m1 := (nb (x := pw w 2) (y := rh w 2) (X := 144) (Y := 12) (by omega) (by omega)).2
  rw [e]
  omega
theorem pw_r (w : Nat → Nat → Int) {i : Nat} (hi : i < 3) : PW w = pw w i * rh w i := by
  have e : i = 0 ∨ i = 1 ∨ i = 2 := by omega
  unfold PW
  rcases e with rfl | rfl | rfl <;> simp only [pw] <;> grind
theorem ww_b {w t : Nat → Nat → Int} (h : HW w t) {i j k : Nat} (hi : i < 3) (hj : j < 3) (hk : k < 3) : 0 ≤ w i j * w i k ∧ w i j * w i k ≤ 16 := nb (X := 4) (Y := 4) (h i j hi hj).1 (h i k hi hk).1
theorem q3_b {w t : Nat → Nat → Int} (h : HW w t) {j k : Nat} (hj : j < 3) (hk : k < 3) : jn w j k ≤ q3 w j k ∧ q3 w j k ≤ 144 * jn w j k ∧ 0 ≤ jn w j k ∧ jn w j k ≤ 48 := by
  have p0 := pw_b h 0
  have p1 := pw_b h 1
  have p2 := pw_b h 2
  have w0 := ww_b h (i := 0) (by omega) hj hk
  have w1 := ww_b h (i := 1) (by omega) hj hk
  have w2 := ww_b h (i := 2) (by omega) hj hk
  have lo : ∀ {p x : Int}, 1 ≤ p → p ≤ 144 → 0 ≤ x → x ≤ p * x ∧ p * x ≤ 144 * x := fun {p x} a b c => by
    have h1 := Int.mul_nonneg (show 0 ≤ p - 1 by omega) c
    have h2 := Int.mul_nonneg (show 0 ≤ 144 - p by omega) c
    rw [Int.sub_mul] at h1 h2
    omega
  have a0 := lo p0.1 p0.2 w0.1
  have a1 := lo p1.1 p1.2 w1.1
  have a2 := lo p2.1 p2.2 w2.1
  unfold jn q3
  omega
theorem tt_b {w t : Nat → Nat → Int} (h : HW w t) {i j k : Nat} (hi : i < 3) (hj : j < 3) (hk : k < 3) : -1000 ≤ t i j - t i k ∧ t i j - t i k ≤ 1000 := by
  have h1 := (h i j hi hj).2
  have h2 := (h i k hi hk).2
  omega
theorem fl_b {w t : Nat → Nat → Int} (h : HW w t) {j k : Nat} (hj : j < 3) (hk : k < 3) : -6912000 ≤ fl w t j k ∧ fl w t j k ≤ 6912000 := by
  have one : ∀ i, i < 3 → -2304000 ≤ pw w i * (w i j * w i k * (t i j - t i k)) ∧ pw w i * (w i j * w i k * (t i j - t i k)) ≤ 2304000 := fun i hi => by
    have p0 := pw_b h i
    have w0 := ww_b h hi hj hk
    have h1 := mb (x := w i j * w i k) (y := t i j - t i k) (X := 16) (Y := 1000) ⟨by omega, by omega⟩ (tt_b h hi hj hk)
    have h2 := mb (x := pw w i) (y := w i j * w i k * (t i j - t i k)) (X := 144) (Y := 16000) ⟨by omega, by omega⟩ ⟨by omega, by omega⟩
    omega
  have h0 := one 0 (by omega)
  have h1 := one 1 (by omega)
  have h2 := one 2 (by omega)
  unfold fl
  omega
theorem www_b {w t : Nat → Nat → Int} (h : HW w t) {i : Nat} (hi : i < 3) : 0 ≤ w i 0 * w i 1 * w i 2 ∧ w i 0 * w i 1 * w i 2 ≤ 64 := nb (X := 16) (Y := 4) (ww_b h hi (by omega) (by omega)) (h i 2 hi (by omega)).1
theorem w4_b {w t : Nat → Nat → Int} (h : HW w t) {i k a b c d : Nat} (hi : i < 3) (hk : k < 3) (ha : a < 3) (hb : b < 3) (hc : c < 3) (hd : d < 3) : 0 ≤ w i a * w i b * (w k c * w k d) ∧ w i a * w i b * (w k c * w k d) ≤ 256 := nb (X := 16) (Y := 16) (ww_b h hi ha hb) (ww_b h hk hc hd)
theorem yT_b {w t : Nat → Nat → Int} (h : HW w t) {i k : Nat} (hi : i < 3) (hk : k < 3) : 0 ≤ yT w i k ∧ yT w i k ≤ 1536 := by
  have h1 := w4_b h (a := 0) (b := 1) (c := 0) (d := 2) hi hk (by omega) (by omega) (by omega) (by omega)
  have h2 := w4_b h (a := 0) (b := 1) (c := 0) (d := 2) hk hi (by omega) (by omega) (by omega) (by omega)
  have h3 := w4_b h (a := 0) (b := 1) (c := 1) (d := 2) hi hk (by omega) (by omega) (by omega) (by omega)
  have h4 := w4_b h (a := 0) (b := 1) (c := 1) (d := 2) hk hi (by omega) (by omega) (by omega) (by omega)
  have h5 := w4_b h (a := 0) (b := 2) (c := 1) (d := 2) hi hk (by omega) (by omega) (by omega) (by omega)
  have h6 := w4_b h (a := 0) (b := 2) (c := 1) (d := 2) hk hi (by omega) (by omega) (by omega) (by omega)
  unfold yT
  omega
theorem TT_b {w t : Nat → Nat → Int} (h : HW w t) : 0 ≤ TT w ∧ TT w ≤ 82944 := by
  have p : ∀ i, i < 3 → 0 ≤ pw w i * (w i 0 * w i 1 * w i 2) ∧ pw w i * (w i 0 * w i 1 * w i 2) ≤ 144 * 64 := fun i hi => nb ⟨by have := pw_b h i; omega, (pw_b h i).2⟩ (www_b h hi)
  have q : ∀ m i k, m < 3 → i < 3 → k < 3 → 0 ≤ rh w m * yT w i k ∧ rh w m * yT w i k ≤ 12 * 1536 := fun m i k hm hi hk => nb ⟨by have := rh_b h hm; omega, (rh_b h hm).2⟩ (yT_b h hi hk)
  have p0 := p 0 (by omega)
  have p1 := p 1 (by omega)
  have p2 := p 2 (by omega)
  have q0 := q 2 0 1 (by omega) (by omega) (by omega)
  have q1 := q 1 0 2 (by omega) (by omega) (by omega)
  have q2 := q 0 1 2 (by omega) (by omega) (by omega)
  unfold TT
  omega
theorem w4t_b {w t : Nat → Nat → Int} (h : HW w t) {i k a b c d e f : Nat} (hi : i < 3) (hk : k < 3) (ha : a < 3) (hb : b < 3) (hc : c < 3) (hd : d < 3) (he : e < 3) (hf : f < 3) : -256000 ≤ w i a * w i b * (w k c * w k d) * (t k e - t k f) ∧ w i a * w i b * (w k c * w k d) * (t k e - t k f) ≤ 256000 := by
  have h1 := w4_b h hi hk ha hb hc hd
  exact mb (X := 256) (Y := 1000) ⟨by omega, by omega⟩ (tt_b h hk he hf)
theorem y0_b {w t : Nat → Nat → Int} (h : HW w t) {i k : Nat} (hi : i < 3) (hk : k < 3) : -1024000 ≤ y0 w t i k ∧ y0 w t i k ≤ 1024000 := by
  have h1 := w4t_b h (a := 1) (b := 2) (c := 0) (d := 1) (e := 0) (f := 1) hi hk (by omega) (by omega) (by omega) (by omega) (by omega) (by omega)
  have h2 := w4t_b h (a := 0) (b := 1) (c := 0) (d := 2) (e := 0) (f := 2) hi hk (by omega) (by omega) (by omega) (by omega) (by omega) (by omega)
  have h3 := w4t_b h (a := 1) (b := 2) (c := 0) (d := 2) (e := 0) (f := 2) hi hk (by omega) (by omega) (by omega) (by omega) (by omega) (by omega)
  have h4 := w4t_b h (a := 0) (b := 1) (c := 1) (d := 2) (e := 1) (f := 2) hi hk (by omega) (by omega) (by omega) (by omega) (by omega) (by omega)
  unfold y0
  rw [Int.add_mul, Int.add_mul]
  omega
theorem y1_b {w t : Nat → Nat → Int} (h : HW w t) {i k : Nat} (hi : i < 3) (hk : k < 3) : -1024000 ≤ y1 w t i k ∧ y1 w t i k ≤ 1024000 := by
  have h1 := w4t_b h (a := 0) (b := 2) (c := 0) (d := 1) (e := 0) (f := 1) hi hk (by omega) (by omega) (by omega) (by omega) (by omega) (by omega)
  have h2 := w4t_b h (a := 0) (b := 1) (c := 1) (d := 2) (e := 1) (f := 2) hi hk (by omega) (by omega) (by omega) (by omega) (by omega) (by omega)
  have h3 := w4t_b h (a := 0) (b := 2) (c := 1) (d := 2) (e := 1) (f := 2) hi hk (by omega) (by omega) (by omega) (by omega) (by omega) (by omega)
  have h4 := w4t_b h (a := 0) (b := 1) (c := 0) (d := 2) (e := 0) (f := 2) hi hk (by omega) (by omega) (by omega) (by omega) (by omega) (by omega)
  unfold y1
  rw [Int.add_mul, Int.add_mul]
  omega
theorem ee_b {w t : Nat → Nat → Int} (h : HW w t) : (-102000000 ≤ ee0 w t ∧ ee0 w t ≤ 102000000) ∧ -102000000 ≤ ee1 w t ∧ ee1 w t ≤ 102000000 := by
  have p : ∀ i j k, i < 3 → j < 3 → k < 3 → -9216000 ≤ pw w i * (w i 0 * w i 1 * w i 2 * (t i j - t i k)) ∧ pw w i * (w i 0 * w i 1 * w i 2 * (t i j - t i k)) ≤ 9216000 := fun i j k hi hj hk => by
    have h0 := pw_b h i
    have h1 := www_b h hi
    have h2 := mb (x := w i 0 * w i 1 * w i 2) (y := t i j - t i k) (X := 64) (Y := 1000) ⟨by omega, by omega⟩ (tt_b h hi hj hk)
    exact mb (X := 144) (Y := 64000) ⟨by omega, by omega⟩ ⟨by omega, by omega⟩
  have q : ∀ m, m < 3 → ∀ x y : Int, -1024000 ≤ x ∧ x ≤ 1024000 → -1024000 ≤ y ∧ y ≤ 1024000 → -24576000 ≤ rh w m * (x + y) ∧ rh w m * (x + y) ≤ 24576000 := fun m hm x y hx hy => by
    have h0 := rh_b h hm
    exact mb (X := 12) (Y := 2048000) ⟨by omega, by omega⟩ ⟨by omega, by omega⟩
  constructor
  · have p0 := p 0 0 2 (by omega) (by omega) (by omega)
    have p1 := p 1 0 2 (by omega) (by omega) (by omega)
    have p2 := p 2 0 2 (by omega) (by omega) (by omega)
    have q0 := q 2 (by omega) _ _ (y0_b h (i := 0) (k := 1) (by omega) (by omega)) (y0_b h (i := 1) (k := 0) (by omega) (by omega))
    have q1 := q 1 (by omega) _ _ (y0_b h (i := 0) (k := 2) (by omega) (by omega)) (y0_b h (i := 2) (k := 0) (by omega) (by omega))
    have q2 := q 0 (by omega) _ _ (y0_b h (i := 1) (k := 2) (by omega) (by omega)) (y0_b h (i := 2) (k := 1) (by omega) (by omega))
    unfold ee0
    omega
  · have p0 := p 0 1 2 (by omega) (by omega) (by omega)
    have p1 := p 1 1 2 (by omega) (by omega) (by omega)
    have p2 := p 2 1 2 (by omega) (by omega) (by omega)
    have q0 := q 2 (by omega) _ _ (y1_b h (i := 0) (k := 1) (by omega) (by omega)) (y1_b h (i := 1) (k := 0) (by omega) (by omega))
    have q1 := q 1 (by omega) _ _ (y1_b h (i := 0) (k := 2) (by omega) (by omega)) (y1_b h (i := 2) (k := 0) (by omega) (by omega))
    have q2 := q 0 (by omega) _ _ (y1_b h (i := 1) (k := 2) (by omega) (by omega)) (y1_b h (i := 2) (k := 1) (by omega) (by omega))
    unfold ee1
    omega
