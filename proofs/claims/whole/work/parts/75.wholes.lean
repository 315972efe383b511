/-! ===== LAYER 2: whole spaces: the numbers and the picks ===== -/
noncomputable def bI (a : Nat → Nat) : Int := (EL (wt a) (tw a) 6).2.toInt
noncomputable def sI (a : Nat → Nat) (k : Nat) : Int := (spS (wt a) (tw a) k).toInt
theorem NS {a : Nat → Nat} (hV : Valid a) : 0 < bI a ∧ bI a ≤ 82944 ∧ (EL (wt a) (tw a) 6).2 = Int64.ofInt (bI a) ∧ ∀ k, k < 6 → spS (wt a) (tw a) k = Int64.ofInt (sI a k) ∧ -150000000 ≤ sI a k ∧ sI a k ≤ 150000000 := by
  obtain ⟨_, _, _, B, e, h1, h2, h3, h4⟩ := EL_6 (HW_N hV)
  have eb : bI a = B := by
    unfold bI
    rw [h3]
    exact jI_toInt (by omega) (by omega)
  rw [eb]
  refine ⟨h1, h2, h3, fun k hk => ?_⟩
  by_cases ho : opS (wt a) k
  · have es : sI a k = 0 := by
      unfold sI
      rw [spS_y ho]
      rfl
    rw [es, spS_y ho]
    exact ⟨rfl, by omega, by omega⟩
  · obtain ⟨g1, g2, g3⟩ := h4 k hk ho
    have es : sI a k = e k := by
      unfold sI
      rw [spS_n ho, g1]
      exact jI_toInt (by omega) (by omega)
    rw [es, spS_n ho]
    exact ⟨g1, g2, g3⟩
noncomputable def flI (a : Nat → Nat) (c : Nat) : Int := sI a (io (a 60) c) / (8 * bI a)
noncomputable def rsI (a : Nat → Nat) (c : Nat) : Int := sI a (io (a 60) c) % (8 * bI a)
noncomputable def s2I (a : Nat → Nat) : Int := siN (fun c => sI a (io (a 60) c)) (2 * a 60)
noncomputable def lfI (a : Nat → Nat) : Int := (2 * s2I a + 8 * bI a) / (2 * (8 * bI a)) - siN (flI a) (2 * a 60)
/-- the first of the greatest among 0 .. m -/
def bst (r : Nat → Int) : Nat → Nat
  | 0 => 0
  | m + 1 => if r (m + 1) ≤ r (bst r m) then bst r m else m + 1
theorem bst_spec (r : Nat → Int) : ∀ m, bst r m ≤ m ∧ ∀ c, c ≤ m → r c ≤ r (bst r m) ∧ (c < bst r m → r c < r (bst r m))
  | 0 => ⟨Nat.le_refl 0, fun c hc => by
      have e : c = 0 := by omega
      subst e
      exact ⟨Int.le_refl _, fun h => absurd h (Nat.lt_irrefl 0)⟩⟩
  | m + 1 => by
    obtain ⟨h1, h2⟩ := bst_spec r m
    rw [show bst r (m + 1) = (if r (m + 1) ≤ r (bst r m) then bst r m else m + 1) from rfl]
    by_cases h : r (m + 1) ≤ r (bst r m)
    · rw [if_pos h]
      refine ⟨by omega, fun c hc => ?_⟩
      by_cases e : c = m + 1
      · subst e
        exact ⟨h, fun q => by omega⟩
      · exact h2 c (by omega)
    · rw [if_neg h]
      refine ⟨by omega, fun c hc => ?_⟩
      by_cases e : c = m + 1
      · subst e
        exact ⟨Int.le_refl _, fun q => by omega⟩
      · have := (h2 c (by omega)).1
        exact ⟨by omega, fun _ => by omega⟩
noncomputable def mkI (a : Nat → Nat) (pk : Nat → Bool) (c : Nat) : Int := if pk c = true then -1 else rsI a c
noncomputable def pkS (a : Nat → Nat) : Nat → Nat → Bool
  | 0, _ => false
  | i + 1, c => if c = bst (mkI a (pkS a i)) (2 * a 60 - 1) then true else pkS a i c
noncomputable def nxt (a : Nat → Nat) (i : Nat) : Nat := bst (mkI a (pkS a i)) (2 * a 60 - 1)
noncomputable def whS (a : Nat → Nat) (c : Nat) : Int64 := Int64.ofInt (flI a c + (if pkS a (lfI a).toNat c = true then 1 else 0))
theorem pk_cnt (a : Nat → Nat) (n : Nat) : ∀ i, smN (fun c => if pkS a i c = true then 1 else 0) n ≤ i
  | 0 => by
    have : ∀ n, smN (fun c => if pkS a 0 c = true then 1 else 0) n = 0 := fun n => by
      induction n with
      | zero => rfl
      | succ n ih => show smN _ n + (if pkS a 0 n = true then 1 else 0) = 0; rw [ih]; rfl
    rw [this]
    exact Nat.le_refl 0
  | i + 1 => by
    have ih := pk_cnt a n i
    have : ∀ n, smN (fun c => if pkS a (i + 1) c = true then 1 else 0) n ≤ smN (fun c => if pkS a i c = true then 1 else 0) n + (if nxt a i < n then 1 else 0) := fun n => by
      induction n with
      | zero => exact Nat.zero_le _
      | succ n ih =>
        show smN _ n + (if (if n = nxt a i then true else pkS a i n) = true then 1 else 0) ≤ smN _ n + (if pkS a i n = true then 1 else 0) + _
        by_cases e : n = nxt a i
        · rw [if_neg (show ¬ nxt a i < n by omega)] at ih
          rw [if_pos e, if_pos rfl, if_pos (show nxt a i < n + 1 by omega)]
          omega
        · rw [if_neg e]
          by_cases e2 : nxt a i < n
          · rw [if_pos e2] at ih
            rw [if_pos (show nxt a i < n + 1 by omega)]
            omega
          · rw [if_neg e2] at ih
            rw [if_neg (show ¬ nxt a i < n + 1 by omega)]
            omega
    have := this n
    have h2 : (if nxt a i < n then 1 else 0) ≤ 1 := by split <;> omega
    omega
theorem pk_full {pk : Nat → Bool} {n : Nat} (h : ∀ c, c < n → pk c = true) : smN (fun c => if pk c = true then 1 else 0) n = n := by
  induction n with
  | zero => rfl
  | succ n ih =>
    show smN _ n + (if pk n = true then 1 else 0) = n + 1
    rw [ih (fun c hc => h c (by omega)), if_pos (h n (by omega))]
theorem pk_some (a : Nat → Nat) {i n : Nat} (h : i < n) : ∃ c, c < n ∧ pkS a i c = false := by
  refine Classical.byContradiction fun hn => ?_
  have h1 : ∀ c, c < n → pkS a i c = true := fun c hc => by
    cases e : pkS a i c with
    | true => rfl
    | false => exact absurd ⟨c, hc, e⟩ hn
  have h2 := pk_cnt a n i
  rw [pk_full h1] at h2
  omega
theorem rs_b {a : Nat → Nat} (hV : Valid a) (c : Nat) : 0 ≤ rsI a c ∧ rsI a c < 8 * bI a := by
  have hb := (NS hV).1
  exact ⟨Int.emod_nonneg _ (by omega), Int.emod_lt_of_pos _ (by omega)⟩
theorem nxt_spec {a : Nat → Nat} (hV : Valid a) {i : Nat} (hi : i < 2 * a 60) : nxt a i < 2 * a 60 ∧ pkS a i (nxt a i) = false ∧ ∀ c, c < 2 * a 60 → pkS a i c = false → rsI a c ≤ rsI a (nxt a i) ∧ (c < nxt a i → rsI a c < rsI a (nxt a i)) := by
  obtain ⟨h1, h2⟩ := bst_spec (mkI a (pkS a i)) (2 * a 60 - 1)
  obtain ⟨c0, hc0, e0⟩ := pk_some a hi
  have m0 : mkI a (pkS a i) c0 = rsI a c0 := by unfold mkI; rw [e0]; rfl
  have hr := rs_b hV c0
  have hn : pkS a i (nxt a i) = false := by
    cases e : pkS a i (nxt a i) with
    | false => rfl
    | true =>
      have m1 : mkI a (pkS a i) (nxt a i) = -1 := by unfold mkI; rw [e]; rfl
      have h3 : mkI a (pkS a i) c0 ≤ mkI a (pkS a i) (nxt a i) := (h2 c0 (by omega)).1
      omega
  have m1 : mkI a (pkS a i) (nxt a i) = rsI a (nxt a i) := by unfold mkI; rw [hn]; rfl
  refine ⟨by show bst _ _ < _; omega, hn, fun c hc e => ?_⟩
  have mc : mkI a (pkS a i) c = rsI a c := by unfold mkI; rw [e]; rfl
  have h3 : mkI a (pkS a i) c ≤ mkI a (pkS a i) (nxt a i) ∧ (c < nxt a i → mkI a (pkS a i) c < mkI a (pkS a i) (nxt a i)) := h2 c (by omega)
  rw [mc, m1] at h3
  exact h3
theorem siN_b {f : Nat → Int} {x y : Int} : ∀ {n : Nat}, (∀ c, c < n → x ≤ f c ∧ f c ≤ y) → (n : Int) * x ≤ siN f n ∧ siN f n ≤ (n : Int) * y
  | 0, _ => by
    show ((0 : Nat) : Int) * x ≤ 0 ∧ (0 : Int) ≤ ((0 : Nat) : Int) * y
    omega
  | n + 1, h => by
    have ih := siN_b (n := n) (fun c hc => h c (by omega))
    have h1 := h n (by omega)
    have e1 : ((n + 1 : Nat) : Int) * x = (n : Int) * x + x := by grind
    have e2 : ((n + 1 : Nat) : Int) * y = (n : Int) * y + y := by grind
    show ((n + 1 : Nat) : Int) * x ≤ siN f n + f n ∧ siN f n + f n ≤ ((n + 1 : Nat) : Int) * y
    omega
theorem siN_lin {f g : Nat → Int} {z : Int} {h : Nat → Int} : ∀ {n : Nat}, (∀ c, c < n → h c = z * f c + g c) → siN h n = z * siN f n + siN g n
  | 0, _ => by
    show (0 : Int) = z * 0 + 0
    omega
  | n + 1, hh => by
    show siN h n + h n = z * (siN f n + f n) + (siN g n + g n)
    rw [siN_lin (n := n) (fun c hc => hh c (by omega)), hh n (by omega)]
    grind
theorem lf_eq {a : Nat → Nat} (hV : Valid a) : lfI a = (2 * siN (rsI a) (2 * a 60) + 8 * bI a) / (2 * (8 * bI a)) := by
  have hb := (NS hV).1
  have h1 : s2I a = (8 * bI a) * siN (flI a) (2 * a 60) + siN (rsI a) (2 * a 60) := siN_lin fun c hc => (Int.mul_ediv_add_emod _ _).symm
  unfold lfI
  rw [h1, show 2 * (8 * bI a * siN (flI a) (2 * a 60) + siN (rsI a) (2 * a 60)) + 8 * bI a = (2 * siN (rsI a) (2 * a 60) + 8 * bI a) + siN (flI a) (2 * a 60) * (2 * (8 * bI a)) from by grind, Int.add_mul_ediv_right _ _ (by omega)]
  omega
theorem lf_b {a : Nat → Nat} (hV : Valid a) : 0 ≤ lfI a ∧ lfI a ≤ 2 * (a 60 : Int) := by
  have hb := (NS hV).1
  have h1 := siN_b (f := rsI a) (x := 0) (y := 8 * bI a) (n := 2 * a 60) (fun c hc => by have := rs_b hV c; omega)
  have hN := hV.1
  rw [lf_eq hV]
  refine ⟨Int.ediv_nonneg (by omega) (by omega), ?_⟩
  have h2 : (2 * siN (rsI a) (2 * a 60) + 8 * bI a) / (2 * (8 * bI a)) < 2 * (a 60 : Int) + 1 := by
    refine Int.ediv_lt_of_lt_mul (by omega) ?_
    have e : (2 * (a 60 : Int) + 1) * (2 * (8 * bI a)) = 2 * (((2 * a 60 : Nat) : Int) * (8 * bI a)) + 2 * (8 * bI a) := by
      rw [show ((2 * a 60 : Nat) : Int) = 2 * (a 60 : Int) from by omega]
      grind
    omega
  omega
theorem fl_b2 {a : Nat → Nat} (hV : Valid a) {c : Nat} (hc : c < 2 * a 60) : -150000000 ≤ flI a c ∧ flI a c ≤ 150000000 := by
  obtain ⟨hb, hb2, _, h⟩ := NS hV
  have hs := (h (io (a 60) c) (io_lt hV.1.2 hc)).2
  unfold flI
  refine ⟨?_, ?_⟩
  · refine (Int.le_ediv_iff_mul_le (by omega)).mpr ?_
    omega
  · have : sI a (io (a 60) c) / (8 * bI a) < 150000001 := by
      refine Int.ediv_lt_of_lt_mul (by omega) ?_
      omega
    omega
