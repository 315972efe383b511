/-! ===== LAYER 2: the elimination, in whole numbers ===== -/
def ro (w : Nat → Nat → Int) (i : Nat) : Int := w i 0 + w i 1 + w i 2
def rh (w : Nat → Nat → Int) (i : Nat) : Int := if ro w i = 0 then 1 else ro w i
def go (w t : Nat → Nat → Int) (i : Nat) : Int := w i 0 * t i 0 + w i 1 * t i 1 + w i 2 * t i 2
def co (w : Nat → Nat → Int) (j : Nat) : Int := w 0 j + w 1 j + w 2 j
def dg (w t : Nat → Nat → Int) (j : Nat) : Int := w 0 j * t 0 j + w 1 j * t 1 j + w 2 j * t 2 j
def jn (w : Nat → Nat → Int) (j k : Nat) : Int := w 0 j * w 0 k + w 1 j * w 1 k + w 2 j * w 2 k
/-- the equations: rights 0..2, lefts 3..5, the goals in column 6 -/
def aM (w t : Nat → Nat → Int) (i j : Nat) : Int :=
  if i < 3 then (if j = 6 then go w t i else if j < 3 then (if i = j then ro w i else 0) else w i (j - 3))
  else (if j = 6 then dg w t (i - 3) else if j < 3 then w j (i - 3) else if i = j then co w (i - 3) else 0)
def opS (w : Nat → Nat → Int) (k : Nat) : Prop :=
  if k < 3 then ro w k = 0 else if k = 3 then jn w 0 1 = 0 ∧ jn w 0 2 = 0 else if k = 4 then jn w 1 2 = 0 ∧ (jn w 0 1 = 0 ∨ jn w 0 2 = 0) else True
def elS (M : Nat → Nat → Int64) (b : Int64) (k : Nat) : Nat → Nat → Int64 := fun i j => if i = k then M i j else (M k k * M i j - M i k * M k j) / b
noncomputable def EL (w t : Nat → Nat → Int) : Nat → (Nat → Nat → Int64) × Int64
  | 0 => (fun i j => Int64.ofInt (aM w t i j), 1)
  | k + 1 => @ite _ (opS w k) (Classical.propDecidable _) (EL w t k) (elS (EL w t k).1 (EL w t k).2 k, (EL w t k).1 k k)
theorem EL_op {w t : Nat → Nat → Int} {k : Nat} (h : opS w k) : EL w t (k + 1) = EL w t k := if_pos h
theorem EL_no {w t : Nat → Nat → Int} {k : Nat} (h : ¬ opS w k) : EL w t (k + 1) = (elS (EL w t k).1 (EL w t k).2 k, (EL w t k).1 k k) := if_neg h
/-! the 64-bit numbers as whole numbers -/
theorem jI_toInt {x : Int} (h1 : -9223372036854775808 ≤ x) (h2 : x < 9223372036854775808) : (Int64.ofInt x).toInt = x := Int64.toInt_ofInt_of_le (by simpa using h1) (by simpa using h2)
theorem jI_div {P x : Int} (hP : 0 < P) (h1 : -4611686018427387904 ≤ P * x) (h2 : P * x ≤ 4611686018427387904) (hP2 : P ≤ 4611686018427387904) : Int64.ofInt (P * x) / Int64.ofInt P = Int64.ofInt x := by
  have e1 : (Int64.ofInt (P * x)).toInt = P * x := jI_toInt (by omega) (by omega)
  have e2 : (Int64.ofInt P).toInt = P := jI_toInt (by omega) (by omega)
  apply Int64.toInt_inj.mp
  rw [Int64.toInt_div, e1, e2, Int.mul_tdiv_cancel_left _ (by omega), Int64.toInt_ofInt]
theorem jI_mul (x y : Int) : Int64.ofInt x * Int64.ofInt y = Int64.ofInt (x * y) := (Int64.ofInt_mul x y).symm
theorem jI_sub (x y : Int) : Int64.ofInt x - Int64.ofInt y = Int64.ofInt (x - y) := (Int64.ofInt_sub x y).symm
theorem jI_add (x y : Int) : Int64.ofInt x + Int64.ofInt y = Int64.ofInt (x + y) := (Int64.ofInt_add x y).symm

/-! the stage behind k right spaces -/
def HW (w t : Nat → Nat → Int) : Prop := ∀ i j, i < 3 → j < 3 → (0 ≤ w i j ∧ w i j ≤ 4) ∧ -500 ≤ t i j ∧ t i j ≤ 500
def St (w t : Nat → Nat → Int) (k : Nat) (M : Nat → Nat → Int64) (b : Int64) (P : Int) (q : Nat → Int) (L : Nat → Nat → Int) (H : Nat → Int) : Prop :=
  b = Int64.ofInt P ∧ (∀ i, i < 3 → k ≤ i → M i i = Int64.ofInt (P * ro w i)) ∧ (∀ i j, i < 3 → j < 3 → k ≤ j → i ≠ j → M i j = Int64.ofInt 0) ∧
  (∀ i j, i < 3 → j < 3 → M i (3 + j) = Int64.ofInt (q i * w i j)) ∧ (∀ i, i < 3 → M i 6 = Int64.ofInt (q i * go w t i)) ∧
  (∀ i j, i < 3 → j < 3 → k ≤ i → M (3 + j) i = Int64.ofInt (P * w i j)) ∧ (∀ i j, i < 3 → j < 3 → M (3 + i) (3 + j) = Int64.ofInt (L i j)) ∧ (∀ i, i < 3 → M (3 + i) 6 = Int64.ofInt (H i))
def Sb (k : Nat) (P : Int) (q : Nat → Int) (L : Nat → Nat → Int) (H : Nat → Int) (X Y Z : Int) : Prop :=
  (0 < P ∧ P ≤ X) ∧ (∀ i, i < 3 → 0 ≤ q i ∧ q i ≤ X) ∧ (∀ i, i < 3 → k ≤ i → q i = P) ∧ (∀ i j, i < 3 → j < 3 → -Y ≤ L i j ∧ L i j ≤ Y) ∧ (∀ i, i < 3 → -Z ≤ H i ∧ H i ≤ Z)
theorem mb {x y X Y : Int} (hx : -X ≤ x ∧ x ≤ X) (hy : -Y ≤ y ∧ y ≤ Y) : -(X * Y) ≤ x * y ∧ x * y ≤ X * Y := by
  have h1 := Int.mul_nonneg (show 0 ≤ X - x by omega) (show 0 ≤ Y - y by omega)
  have h2 := Int.mul_nonneg (show 0 ≤ X + x by omega) (show 0 ≤ Y + y by omega)
  have h3 := Int.mul_nonneg (show 0 ≤ X - x by omega) (show 0 ≤ Y + y by omega)
  have h4 := Int.mul_nonneg (show 0 ≤ X + x by omega) (show 0 ≤ Y - y by omega)
  have e1 : (X - x) * (Y - y) + (X + x) * (Y + y) = 2 * (X * Y) + 2 * (x * y) := by grind
  have e2 : (X - x) * (Y + y) + (X + x) * (Y - y) = 2 * (X * Y) - 2 * (x * y) := by grind
  omega
theorem ro_b {w t : Nat → Nat → Int} (h : HW w t) {i : Nat} (hi : i < 3) : 0 ≤ ro w i ∧ ro w i ≤ 12 := by
  have h0 := (h i 0 hi (by omega)).1
  have h1 := (h i 1 hi (by omega)).1
  have h2 := (h i 2 hi (by omega)).1
  unfold ro
  omega
theorem rh_b {w t : Nat → Nat → Int} (h : HW w t) {i : Nat} (hi : i < 3) : 1 ≤ rh w i ∧ rh w i ≤ 12 := by
  have h0 := ro_b h hi
  unfold rh
  split <;> omega
theorem wt_b {x y : Int} (h1 : 0 ≤ x ∧ x ≤ 4) (h2 : -500 ≤ y ∧ y ≤ 500) : -2000 ≤ x * y ∧ x * y ≤ 2000 := by
  have e : x = 0 ∨ x = 1 ∨ x = 2 ∨ x = 3 ∨ x = 4 := by omega
  rcases e with rfl | rfl | rfl | rfl | rfl <;> omega
theorem go_b {w t : Nat → Nat → Int} (h : HW w t) {i : Nat} (hi : i < 3) : -6000 ≤ go w t i ∧ go w t i ≤ 6000 := by
  have h0 := wt_b (h i 0 hi (by omega)).1 (h i 0 hi (by omega)).2
  have h1 := wt_b (h i 1 hi (by omega)).1 (h i 1 hi (by omega)).2
  have h2 := wt_b (h i 2 hi (by omega)).1 (h i 2 hi (by omega)).2
  unfold go
  omega
theorem dg_b {w t : Nat → Nat → Int} (h : HW w t) {j : Nat} (hj : j < 3) : -6000 ≤ dg w t j ∧ dg w t j ≤ 6000 := by
  have h0 := wt_b (h 0 j (by omega) hj).1 (h 0 j (by omega) hj).2
  have h1 := wt_b (h 1 j (by omega) hj).1 (h 1 j (by omega) hj).2
  have h2 := wt_b (h 2 j (by omega) hj).1 (h 2 j (by omega) hj).2
  unfold dg
  omega
theorem co_b {w t : Nat → Nat → Int} (h : HW w t) {j : Nat} (hj : j < 3) : 0 ≤ co w j ∧ co w j ≤ 12 := by
  have h0 := (h 0 j (by omega) hj).1
  have h1 := (h 1 j (by omega) hj).1
  have h2 := (h 2 j (by omega) hj).1
  unfold co
  omega
theorem St_0 {w t : Nat → Nat → Int} (h : HW w t) : St w t 0 (EL w t 0).1 (EL w t 0).2 1 (fun _ => 1) (fun i j => if i = j then co w i else 0) (fun i => dg w t i) ∧ Sb 0 1 (fun _ => 1) (fun i j => if i = j then co w i else 0) (fun i => dg w t i) 1 12 6000 := by
  refine ⟨⟨rfl, fun i hi _ => ?_, fun i j hi hj _ hn => ?_, fun i j hi hj => ?_, fun i hi => ?_, fun i j hi hj _ => ?_, fun i j hi hj => ?_, fun i hi => ?_⟩, ⟨by omega, by omega⟩, fun i _ => ⟨by show (0 : Int) ≤ 1; omega, by show (1 : Int) ≤ 1; omega⟩, fun i _ _ => rfl, fun i j hi hj => ?_, fun i hi => ?_⟩
  · show Int64.ofInt (aM w t i i) = _
    unfold aM
    rw [if_pos hi, if_neg (by omega), if_pos hi, if_pos rfl, Int.one_mul]
  · show Int64.ofInt (aM w t i j) = _
    unfold aM
    rw [if_pos hi, if_neg (by omega), if_pos hj, if_neg hn]
  · show Int64.ofInt (aM w t i (3 + j)) = _
    unfold aM
    rw [if_pos hi, if_neg (by omega), if_neg (by omega), Int.one_mul, Nat.add_sub_cancel_left]
  · show Int64.ofInt (aM w t i 6) = _
    unfold aM
    rw [if_pos hi, if_pos rfl, Int.one_mul]
  · show Int64.ofInt (aM w t (3 + j) i) = _
    unfold aM
    rw [if_neg (by omega), if_neg (by omega), if_pos hi, Int.one_mul, Nat.add_sub_cancel_left]
  · show Int64.ofInt (aM w t (3 + i) (3 + j)) = _
    unfold aM
    rw [if_neg (by omega), if_neg (by omega), if_neg (by omega), Nat.add_sub_cancel_left]
    by_cases hij : i = j
    · dsimp only
      rw [if_pos (by omega), if_pos hij]
    · dsimp only
      rw [if_neg (by omega), if_neg hij]
  · show Int64.ofInt (aM w t (3 + i) 6) = _
    unfold aM
    rw [if_neg (by omega), if_pos rfl, Nat.add_sub_cancel_left]
  · have := co_b h hi
    show -12 ≤ (if i = j then co w i else 0) ∧ (if i = j then co w i else 0) ≤ 12
    split <;> omega
  · have := dg_b h hi
    show -6000 ≤ dg w t i ∧ dg w t i ≤ 6000
    omega

theorem wz {w t : Nat → Nat → Int} (h : HW w t) {i j : Nat} (hi : i < 3) (hj : j < 3) (hz : ro w i = 0) : w i j = 0 := by
  have h0 := (h i 0 hi (by omega)).1
  have h1 := (h i 1 hi (by omega)).1
  have h2 := (h i 2 hi (by omega)).1
  unfold ro at hz
  have e : j = 0 ∨ j = 1 ∨ j = 2 := by omega
  rcases e with rfl | rfl | rfl <;> omega
theorem gz {w t : Nat → Nat → Int} (h : HW w t) {i : Nat} (hi : i < 3) (hz : ro w i = 0) : go w t i = 0 := by
  unfold go
  rw [wz h hi (by omega) hz, wz h hi (by omega) hz, wz h hi (by omega) hz]
  omega
theorem Sb_s {w t : Nat → Nat → Int} (h : HW w t) {k : Nat} (hk : k < 3) {P : Int} {q : Nat → Int} {L : Nat → Nat → Int} {H : Nat → Int} {X Y Z : Int} (B : Sb k P q L H X Y Z) : Sb (k + 1) (P * rh w k) (fun i => if i = k then P else q i * rh w k) (fun i j => rh w k * L i j - P * (w k i * w k j)) (fun i => rh w k * H i - P * (w k i * go w t k)) (12 * X) (12 * Y + 16 * X) (12 * Z + 24000 * X) := by
  obtain ⟨b1, b2, b3, b4, b5⟩ := B
  have hr := rh_b h hk
  have hg := go_b h hk
  refine ⟨⟨Int.mul_pos b1.1 (by omega), ?_⟩, fun i hi => ?_, fun i hi hki => ?_, fun i j hi hj => ?_, fun i hi => ?_⟩
  · have := mb (x := P) (y := rh w k) (X := X) (Y := 12) ⟨by omega, by omega⟩ ⟨by omega, by omega⟩
    omega
  · show 0 ≤ (if i = k then P else q i * rh w k) ∧ (if i = k then P else q i * rh w k) ≤ 12 * X
    have h1 := b2 i hi
    have h2 := mb (x := q i) (y := rh w k) (X := X) (Y := 12) ⟨by omega, by omega⟩ ⟨by omega, by omega⟩
    have h3 := Int.mul_nonneg h1.1 (show 0 ≤ rh w k by omega)
    split <;> omega
  · show (if i = k then P else q i * rh w k) = _
    rw [if_neg (by omega), b3 i hi (by omega)]
  · show -(12 * Y + 16 * X) ≤ rh w k * L i j - P * (w k i * w k j) ∧ rh w k * L i j - P * (w k i * w k j) ≤ 12 * Y + 16 * X
    have h1 := mb (x := rh w k) (y := L i j) (X := 12) (Y := Y) ⟨by omega, by omega⟩ (b4 i j hi hj)
    have w1 := (h k i hk hi).1
    have w2 := (h k j hk hj).1
    have h2 := mb (x := w k i) (y := w k j) (X := 4) (Y := 4) ⟨by omega, by omega⟩ ⟨by omega, by omega⟩
    have h3 := mb (x := P) (y := w k i * w k j) (X := X) (Y := 16) ⟨by omega, by omega⟩ ⟨by omega, by omega⟩
    omega
  · show -(12 * Z + 24000 * X) ≤ rh w k * H i - P * (w k i * go w t k) ∧ rh w k * H i - P * (w k i * go w t k) ≤ 12 * Z + 24000 * X
    have h1 := mb (x := rh w k) (y := H i) (X := 12) (Y := Z) ⟨by omega, by omega⟩ (b5 i hi)
    have w1 := (h k i hk hi).1
    have h2 := mb (x := w k i) (y := go w t k) (X := 4) (Y := 6000) ⟨by omega, by omega⟩ ⟨by omega, by omega⟩
    have h3 := mb (x := P) (y := w k i * go w t k) (X := X) (Y := 24000) ⟨by omega, by omega⟩ ⟨by omega, by omega⟩
    omega
theorem St_op {w t : Nat → Nat → Int} (h : HW w t) {k : Nat} (hk : k < 3) {M : Nat → Nat → Int64} {b : Int64} {P : Int} {q : Nat → Int} {L : Nat → Nat → Int} {H : Nat → Int} {X Y Z : Int} (S : St w t k M b P q L H) (B : Sb k P q L H X Y Z) (ho : ro w k = 0) : M k k = 0 ∧ St w t (k + 1) M b (P * rh w k) (fun i => if i = k then P else q i * rh w k) (fun i j => rh w k * L i j - P * (w k i * w k j)) (fun i => rh w k * H i - P * (w k i * go w t k)) := by
  obtain ⟨s1, s2, s3, s4, s5, s6, s7, s8⟩ := S
  have er : rh w k = 1 := if_pos ho
  have eg := gz h hk ho
  have hq : ∀ i, i < 3 → (if i = k then P else q i * rh w k) = q i := fun i hi => by
    rw [er, Int.mul_one]
    by_cases hik : i = k
    · rw [if_pos hik, hik, B.2.2.1 k hk (by omega)]
    · rw [if_neg hik]
  refine ⟨?_, ?_, fun i hi hki => ?_, fun i j hi hj hkj hn => s3 i j hi hj (by omega) hn, fun i j hi hj => ?_, fun i hi => ?_, fun i j hi hj hki => ?_, fun i j hi hj => ?_, fun i hi => ?_⟩
  · rw [s2 k hk (by omega), ho, Int.mul_zero]
    rfl
  · rw [er, Int.mul_one]
    exact s1
  · rw [er, Int.mul_one]
    exact s2 i hi (by omega)
  · show _ = Int64.ofInt ((if i = k then P else q i * rh w k) * w i j)
    rw [hq i hi]
    exact s4 i j hi hj
  · show _ = Int64.ofInt ((if i = k then P else q i * rh w k) * go w t i)
    rw [hq i hi]
    exact s5 i hi
  · rw [er, Int.mul_one]
    exact s6 i j hi hj (by omega)
  · show _ = Int64.ofInt (rh w k * L i j - P * (w k i * w k j))
    rw [er, wz h hk hi ho, Int.one_mul, Int.zero_mul, Int.mul_zero, Int.sub_zero]
    exact s7 i j hi hj
  · show _ = Int64.ofInt (rh w k * H i - P * (w k i * go w t k))
    rw [er, eg, Int.one_mul, Int.mul_zero, Int.mul_zero, Int.sub_zero]
    exact s8 i hi
theorem el_div {x y z u b : Int64} {p X Y Z P R : Int} (hu : u = Int64.ofInt p) (hx : x = Int64.ofInt X) (hy : y = Int64.ofInt Y) (hz : z = Int64.ofInt Z) (hb : b = Int64.ofInt P) (e : p * X - Y * Z = P * R) (hP : 0 < P ∧ P ≤ 2000000) (hR : -1000000000000 ≤ R ∧ R ≤ 1000000000000) : (u * x - y * z) / b = Int64.ofInt R := by
  have h1 := mb (x := P) (y := R) (X := 2000000) (Y := 1000000000000) ⟨by omega, by omega⟩ ⟨by omega, by omega⟩
  rw [hu, hx, hy, hz, hb, jI_mul, jI_mul, jI_sub, e]
  exact jI_div hP.1 (by omega) (by omega) (by omega)
theorem elS_s {M : Nat → Nat → Int64} {b : Int64} {k j : Nat} : elS M b k k j = M k j := if_pos rfl
theorem elS_n {M : Nat → Nat → Int64} {b : Int64} {k i j : Nat} (h : i ≠ k) : elS M b k i j = (M k k * M i j - M i k * M k j) / b := if_neg h
theorem St_no {w t : Nat → Nat → Int} (h : HW w t) {k : Nat} (hk : k < 3) {M : Nat → Nat → Int64} {b : Int64} {P : Int} {q : Nat → Int} {L : Nat → Nat → Int} {H : Nat → Int} {X Y Z : Int} (S : St w t k M b P q L H) (B : Sb k P q L H X Y Z) (hX : X ≤ 144 ∧ Y ≤ 3000 ∧ Z ≤ 2000000) (ho : ¬ ro w k = 0) : M k k = Int64.ofInt (P * rh w k) ∧ St w t (k + 1) (elS M b k) (M k k) (P * rh w k) (fun i => if i = k then P else q i * rh w k) (fun i j => rh w k * L i j - P * (w k i * w k j)) (fun i => rh w k * H i - P * (w k i * go w t k)) := by
  have B2 := Sb_s (t := t) h hk B
  obtain ⟨s1, s2, s3, s4, s5, s6, s7, s8⟩ := S
  obtain ⟨b1, b2, b3, b4, b5⟩ := B
  obtain ⟨c1, c2, c3, c4, c5⟩ := B2
  have er : rh w k = ro w k := if_neg ho
  have hkk : M k k = Int64.ofInt (P * rh w k) := by rw [er]; exact s2 k hk (by omega)
  have qk : q k = P := b3 k hk (by omega)
  have hr := rh_b h hk
  have hP : 0 < P ∧ P ≤ 2000000 := ⟨b1.1, by omega⟩
  refine ⟨hkk, hkk, fun i hi hki => ?_, fun i j hi hj hkj hn => ?_, fun i j hi hj => ?_, fun i hi => ?_, fun i j hi hj hki => ?_, fun i j hi hj => ?_, fun i hi => ?_⟩
  · rw [elS_n (by omega)]
    refine el_div hkk (s2 i hi (by omega)) (s3 i k hi hk (by omega) (by omega)) (s3 k i hk hi (by omega) (by omega)) s1 (by grind) hP ?_
    have hr2 := ro_b h hi
    have := mb (x := P * rh w k) (y := ro w i) (X := 12 * X) (Y := 12) ⟨by omega, by omega⟩ ⟨by omega, by omega⟩
    omega
  · by_cases hik : i = k
    · subst hik
      rw [elS_s]
      exact s3 i j hi hj (by omega) hn
    · rw [elS_n hik]
      exact el_div hkk (s3 i j hi hj (by omega) hn) (s3 i k hi hk (by omega) hik) (s3 k j hk hj (by omega) (by omega)) s1 (by grind) hP ⟨by omega, by omega⟩
  · by_cases hik : i = k
    · subst hik
      rw [elS_s]
      show _ = Int64.ofInt ((if i = i then P else q i * rh w i) * w i j)
      rw [if_pos rfl, ← qk]
      exact s4 i j hi hj
    · rw [elS_n hik]
      show _ = Int64.ofInt ((if i = k then P else q i * rh w k) * w i j)
      rw [if_neg hik]
      refine el_div hkk (s4 i j hi hj) (s3 i k hi hk (by omega) hik) (s4 k j hk hj) s1 (by grind) hP ?_
      have h1 := c2 i hi
      dsimp only at h1
      rw [if_neg hik] at h1
      have hw := (h i j hi hj).1
      have := mb (x := q i * rh w k) (y := w i j) (X := 12 * X) (Y := 4) ⟨by omega, by omega⟩ ⟨by omega, by omega⟩
      omega
  · by_cases hik : i = k
    · subst hik
      rw [elS_s]
      show _ = Int64.ofInt ((if i = i then P else q i * rh w i) * go w t i)
      rw [if_pos rfl, ← qk]
      exact s5 i hi
    · rw [elS_n hik]
      show _ = Int64.ofInt ((if i = k then P else q i * rh w k) * go w t i)
      rw [if_neg hik]
      refine el_div hkk (s5 i hi) (s3 i k hi hk (by omega) hik) (s5 k hk) s1 (by grind) hP ?_
      have h1 := c2 i hi
      dsimp only at h1
      rw [if_neg hik] at h1
      have hg := go_b h hi
      have := mb (x := q i * rh w k) (y := go w t i) (X := 12 * X) (Y := 6000) ⟨by omega, by omega⟩ ⟨by omega, by omega⟩
      omega
  · rw [elS_n (by omega)]
    refine el_div hkk (s6 i j hi hj (by omega)) (s6 k j hk hj (by omega)) (s3 k i hk hi (by omega) (by omega)) s1 (by grind) hP ?_
    have hw := (h i j hi hj).1
    have := mb (x := P * rh w k) (y := w i j) (X := 12 * X) (Y := 4) ⟨by omega, by omega⟩ ⟨by omega, by omega⟩
    omega
  · rw [elS_n (by omega)]
    show _ = Int64.ofInt (rh w k * L i j - P * (w k i * w k j))
    have h1 := c4 i j hi hj
    dsimp only at h1
    refine el_div hkk (s7 i j hi hj) (s6 k i hk hi (by omega)) (s4 k j hk hj) s1 ?_ hP ⟨by omega, by omega⟩
    rw [qk]
    grind
  · rw [elS_n (by omega)]
    show _ = Int64.ofInt (rh w k * H i - P * (w k i * go w t k))
    have h1 := c5 i hi
    dsimp only at h1
    refine el_div hkk (s8 i hi) (s6 k i hk hi (by omega)) (s5 k hk) s1 ?_ hP ⟨by omega, by omega⟩
    rw [qk]
    grind
theorem rhw {w t : Nat → Nat → Int} (h : HW w t) {i j : Nat} (hi : i < 3) (hj : j < 3) : rh w i * w i j = (w i 0 + w i 1 + w i 2) * w i j := by
  unfold rh
  split
  · rename_i hz
    rw [wz h hi hj hz, Int.mul_zero, Int.mul_zero]
  · rfl
def pw (w : Nat → Nat → Int) (i : Nat) : Int := if i = 0 then rh w 1 * rh w 2 else if i = 1 then rh w 0 * rh w 2 else rh w 0 * rh w 1
def PW (w : Nat → Nat → Int) : Int := rh w 0 * rh w 1 * rh w 2
def q3 (w : Nat → Nat → Int) (j k : Nat) : Int := pw w 0 * (w 0 j * w 0 k) + pw w 1 * (w 1 j * w 1 k) + pw w 2 * (w 2 j * w 2 k)
def fl (w t : Nat → Nat → Int) (j k : Nat) : Int := pw w 0 * (w 0 j * w 0 k * (t 0 j - t 0 k)) + pw w 1 * (w 1 j * w 1 k * (t 1 j - t 1 k)) + pw w 2 * (w 2 j * w 2 k * (t 2 j - t 2 k))
theorem EL_St {w t : Nat → Nat → Int} (h : HW w t) {k : Nat} (hk : k < 3) {P : Int} {q : Nat → Int} {L : Nat → Nat → Int} {H : Nat → Int} {X Y Z : Int} (S : St w t k (EL w t k).1 (EL w t k).2 P q L H) (B : Sb k P q L H X Y Z) (hX : X ≤ 144 ∧ Y ≤ 3000 ∧ Z ≤ 2000000) : St w t (k + 1) (EL w t (k + 1)).1 (EL w t (k + 1)).2 (P * rh w k) (fun i => if i = k then P else q i * rh w k) (fun i j => rh w k * L i j - P * (w k i * w k j)) (fun i => rh w k * H i - P * (w k i * go w t k)) ∧ (opS w k → (EL w t k).1 k k = 0) ∧ (¬ opS w k → (EL w t k).1 k k = Int64.ofInt (P * rh w k)) := by
  have ho : opS w k ↔ ro w k = 0 := by
    unfold opS
    rw [if_pos hk]
  by_cases o : ro w k = 0
  · have := St_op h hk S B o
    rw [EL_op (ho.mpr o)]
    exact ⟨this.2, fun _ => this.1, fun q => absurd (ho.mpr o) q⟩
  · have := St_no h hk S B hX o
    rw [EL_no (fun q => o (ho.mp q))]
    exact ⟨this.2, fun q => absurd (ho.mp q) o, fun _ => this.1⟩
/-- the stage behind the right spaces -/
def St3 (w t : Nat → Nat → Int) (M : Nat → Nat → Int64) (b : Int64) : Prop :=
  b = Int64.ofInt (PW w) ∧ (∀ i j, i < 3 → j < 3 → M i (3 + j) = Int64.ofInt (pw w i * w i j)) ∧ (∀ i, i < 3 → M i 6 = Int64.ofInt (pw w i * go w t i)) ∧
  (M 3 3 = Int64.ofInt (q3 w 0 1 + q3 w 0 2) ∧ M 3 4 = Int64.ofInt (-q3 w 0 1) ∧ M 3 5 = Int64.ofInt (-q3 w 0 2)) ∧
  (M 4 3 = Int64.ofInt (-q3 w 0 1) ∧ M 4 4 = Int64.ofInt (q3 w 0 1 + q3 w 1 2) ∧ M 4 5 = Int64.ofInt (-q3 w 1 2)) ∧
  (M 5 3 = Int64.ofInt (-q3 w 0 2) ∧ M 5 4 = Int64.ofInt (-q3 w 1 2) ∧ M 5 5 = Int64.ofInt (q3 w 0 2 + q3 w 1 2)) ∧
  M 3 6 = Int64.ofInt (fl w t 0 1 + fl w t 0 2) ∧ M 4 6 = Int64.ofInt (fl w t 1 2 - fl w t 0 1) ∧ M 5 6 = Int64.ofInt (- fl w t 0 2 - fl w t 1 2)
def Pv (w t : Nat → Nat → Int) (k : Nat) : Prop := (opS w k → ¬ 0 < (EL w t k).1 k k) ∧ (¬ opS w k → 0 < (EL w t k).1 k k ∧ (EL w t k).1 k k ≤ 82944) ∧ 0 < (EL w t k).2 ∧ (EL w t k).2 ≤ 82944
theorem jI_pos {x : Int} (h1 : 0 < x) (h2 : x ≤ 82944) : 0 < Int64.ofInt x ∧ Int64.ofInt x ≤ 82944 := by
  rw [Int64.lt_iff_toInt_lt, Int64.le_iff_toInt_le, jI_toInt (by omega) (by omega)]
  exact ⟨h1, h2⟩
theorem EL_3 {w t : Nat → Nat → Int} (h : HW w t) : St3 w t (EL w t 3).1 (EL w t 3).2 ∧ Pv w t 0 ∧ Pv w t 1 ∧ Pv w t 2 := by
  obtain ⟨S0, B0⟩ := St_0 h
  obtain ⟨S1, o1, n1⟩ := EL_St h (by omega) S0 B0 (by omega)
  have B1 := Sb_s (t := t) h (by omega) B0
  obtain ⟨S2, o2, n2⟩ := EL_St h (by omega) S1 B1 (by omega)
  have B2 := Sb_s (t := t) h (by omega) B1
  obtain ⟨S3, o3, n3⟩ := EL_St h (by omega) S2 B2 (by omega)
  have B3 := Sb_s (t := t) h (by omega) B2
  have pv : ∀ {k : Nat} {P R X : Int} {q L H Y Z q' L' H' Y' Z'}, St w t k (EL w t k).1 (EL w t k).2 P q L H → Sb k P q L H X Y Z → Sb (k + 1) R q' L' H' (12 * X) Y' Z' → X ≤ 144 → (opS w k → (EL w t k).1 k k = 0) → (¬ opS w k → (EL w t k).1 k k = Int64.ofInt R) → Pv w t k := by
    intro k P R X q L H Y Z q' L' H' Y' Z' S B B' hX ho hn
    refine ⟨fun o => by rw [ho o]; decide, fun n => ?_, ?_⟩
    · rw [hn n]
      exact jI_pos B'.1.1 (by have := B'.1.2; omega)
    · rw [S.1]
      exact jI_pos B.1.1 (by have := B.1.2; omega)
  refine ⟨?_, pv S0 B0 B1 (by omega) o1 n1, pv S1 B1 B2 (by omega) o2 n2, pv S2 B2 B3 (by omega) o3 n3⟩
  obtain ⟨s1, s2, s3, s4, s5, s6, s7, s8⟩ := S3
  have r00 := rhw h (i := 0) (j := 0) (by omega) (by omega)
  have r01 := rhw h (i := 0) (j := 1) (by omega) (by omega)
  have r02 := rhw h (i := 0) (j := 2) (by omega) (by omega)
  have r10 := rhw h (i := 1) (j := 0) (by omega) (by omega)
  have r11 := rhw h (i := 1) (j := 1) (by omega) (by omega)
  have r12 := rhw h (i := 1) (j := 2) (by omega) (by omega)
  have r20 := rhw h (i := 2) (j := 0) (by omega) (by omega)
  have r21 := rhw h (i := 2) (j := 1) (by omega) (by omega)
  have r22 := rhw h (i := 2) (j := 2) (by omega) (by omega)
  have c3 : ∀ i, i < 3 → i = 0 ∨ i = 1 ∨ i = 2 := fun i hi => by omega
  refine ⟨?_, fun i j hi hj => ?_, fun i hi => ?_, ⟨(s7 0 0 (by omega) (by omega)).trans ?_, (s7 0 1 (by omega) (by omega)).trans ?_, (s7 0 2 (by omega) (by omega)).trans ?_⟩, ⟨(s7 1 0 (by omega) (by omega)).trans ?_, (s7 1 1 (by omega) (by omega)).trans ?_, (s7 1 2 (by omega) (by omega)).trans ?_⟩, ⟨(s7 2 0 (by omega) (by omega)).trans ?_, (s7 2 1 (by omega) (by omega)).trans ?_, (s7 2 2 (by omega) (by omega)).trans ?_⟩, (s8 0 (by omega)).trans ?_, (s8 1 (by omega)).trans ?_, (s8 2 (by omega)).trans ?_⟩
  · rw [s1]
    unfold PW
    rw [Int.one_mul]
  · rw [s4 i j hi hj]
    rcases c3 i hi with rfl | rfl | rfl <;> simp [pw]
  · rw [s5 i hi]
    rcases c3 i hi with rfl | rfl | rfl <;> simp [pw]
  all_goals
    refine congrArg Int64.ofInt ?_
    simp only [q3, fl, pw, co, dg, go]
    grind
