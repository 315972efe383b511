/-! the written rows are the equations -/
def io (n c : Nat) : Nat := if c < n then c else 3 + (c - n)
def jo (n d : Nat) : Nat := if d = 6 then 6 else io n d
theorem jI_0 : (0 : Int64) = Int64.ofInt 0 := rfl
theorem c_sum {a : Nat → Nat} (hV : Valid a) {c d : Nat} (hc : c < 2 * a 60) (hd : d < 2 * a 60 ∨ d = 6) : smJ (fun i => smJ (fun j => kN a i j c d) (a 60)) (a 60) = Int64.ofInt (aM (wt a) (tw a) (io (a 60) c) (jo (a 60) d)) := by
  have hN := hV.1
  have z : ∀ i j, i < 3 → j < 3 → (a 60 ≤ i ∨ a 60 ≤ j) → wt a i j = 0 := fun i j hi hj hh => by
    unfold wt
    rw [hV.2.2.2.2.2.2 i j hi hj hh]
    rfl
  have cs : a 60 = 1 ∨ a 60 = 2 ∨ a 60 = 3 := by omega
  unfold kN
  generalize a 60 = n at *
  rcases cs with rfl | rfl | rfl
  · have z1 := z 0 1 (by omega) (by omega) (by omega)
    have z2 := z 0 2 (by omega) (by omega) (by omega)
    have z3 := z 1 0 (by omega) (by omega) (by omega)
    have z4 := z 1 1 (by omega) (by omega) (by omega)
    have z5 := z 1 2 (by omega) (by omega) (by omega)
    have z6 := z 2 0 (by omega) (by omega) (by omega)
    have z7 := z 2 1 (by omega) (by omega) (by omega)
    have z8 := z 2 2 (by omega) (by omega) (by omega)
    have c1 : c = 0 ∨ c = 1 := by omega
    have d1 : d = 0 ∨ d = 1 ∨ d = 6 := by omega
    rcases c1 with rfl | rfl <;> rcases d1 with rfl | rfl | rfl <;> simp [smJ, kP, io, jo, aM, ro, go, co, dg, z1, z2, z3, z4, z5, z6, z7, z8]
  · have z2 := z 0 2 (by omega) (by omega) (by omega)
    have z5 := z 1 2 (by omega) (by omega) (by omega)
    have z6 := z 2 0 (by omega) (by omega) (by omega)
    have z7 := z 2 1 (by omega) (by omega) (by omega)
    have z8 := z 2 2 (by omega) (by omega) (by omega)
    have c1 : c = 0 ∨ c = 1 ∨ c = 2 ∨ c = 3 := by omega
    have d1 : d = 0 ∨ d = 1 ∨ d = 2 ∨ d = 3 ∨ d = 6 := by omega
    rcases c1 with rfl | rfl | rfl | rfl <;> rcases d1 with rfl | rfl | rfl | rfl | rfl <;> simp [smJ, kP, io, jo, aM, ro, go, co, dg, z2, z5, z6, z7, z8]
  · have c1 : c = 0 ∨ c = 1 ∨ c = 2 ∨ c = 3 ∨ c = 4 ∨ c = 5 := by omega
    have d1 : d = 0 ∨ d = 1 ∨ d = 2 ∨ d = 3 ∨ d = 4 ∨ d = 5 ∨ d = 6 := by omega
    rcases c1 with rfl | rfl | rfl | rfl | rfl | rfl <;> rcases d1 with rfl | rfl | rfl | rfl | rfl | rfl | rfl <;> simp [smJ, kP, io, jo, aM, ro, go, co, dg]
theorem c_writeRows {z : Fo} {a : Nat → Nat} (hV : Valid a) (hC : CF z a) (ev : Ev) : ∃ M, fX0_writeRows ev z = some (Ev_set_rows ev M) ∧ ∀ c d, c < 2 * a 60 → (d < 2 * a 60 ∨ d = 6) → M c d = Int64.ofInt (aM (wt a) (tw a) (io (a 60) c) (jo (a 60) d)) := by
  have hN := hV.1
  obtain ⟨r, e1, M, e2, e3⟩ := c_zero z ev
  refine ⟨fun c d => M c d + smJ (fun i => smJ (fun j => kN a i j c d) (a 60)) (a 60), ?_, fun c d hc hd => ?_⟩
  · unfold fX0_writeRows
    rw [e1, Option.bind_some, e2, c_pairs hV hC, Option.bind_some]
  · dsimp only
    rw [e3 c d (by omega) (by omega), c_sum hV hc hd, Int64.zero_add]
