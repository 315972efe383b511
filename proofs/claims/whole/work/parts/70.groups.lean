/-! ===== LAYER 2: the groups, by pattern ===== -/
def gStep (p : Nat → Bool) (g : List Nat) (q : Nat) : List Nat :=
  if p q = true then (g.set (q / 3) (min (g.getD (q / 3) 0) (g.getD (3 + q % 3) 0))).set (3 + q % 3) (min (g.getD (q / 3) 0) (g.getD (3 + q % 3) 0)) else g
def gS (p : Nat → Bool) : Nat → List Nat
  | 0 => [0, 1, 2, 3, 4, 5]
  | n + 1 => gStep p (gS p n) (n % 9)
def pat (b0 b1 b2 b3 b4 b5 b6 b7 b8 : Bool) (q : Nat) : Bool :=
  match q with
  | 0 => b0 | 1 => b1 | 2 => b2 | 3 => b3 | 4 => b4 | 5 => b5 | 6 => b6 | 7 => b7 | _ => b8
def shr (p : Nat → Bool) (j k : Nat) : Bool := (p j && p k) || (p (3 + j) && p (3 + k)) || (p (6 + j) && p (6 + k))
def clm (p : Nat → Bool) (j : Nat) : Bool := p j || p (3 + j) || p (6 + j)
def chk (p : Nat → Bool) : Bool :=
  (((!clm p 0) || (((gS p 54).getD 4 0 != (gS p 54).getD 3 0) && ((gS p 54).getD 5 0 != (gS p 54).getD 3 0))) == (!shr p 0 1 && !shr p 0 2)) &&
  (((!clm p 1) || ((gS p 54).getD 5 0 != (gS p 54).getD 4 0)) == (!shr p 1 2 && (!shr p 0 1 || !shr p 0 2)))
theorem chk_all : ∀ b0 b1 b2 b3 b4 b5 b6 b7 b8 : Bool, chk (pat b0 b1 b2 b3 b4 b5 b6 b7 b8) = true := by decide +kernel
theorem gS_congr {p p' : Nat → Bool} (h : ∀ q, q < 9 → p q = p' q) : ∀ n, gS p n = gS p' n
  | 0 => rfl
  | n + 1 => by
    show gStep p (gS p n) (n % 9) = gStep p' (gS p' n) (n % 9)
    unfold gStep
    rw [gS_congr h n, h (n % 9) (Nat.mod_lt _ (by omega))]
theorem chk_p (p : Nat → Bool) : chk p = true := by
  have h : ∀ q, q < 9 → p q = pat (p 0) (p 1) (p 2) (p 3) (p 4) (p 5) (p 6) (p 7) (p 8) q := fun q hq => by
    have e : q = 0 ∨ q = 1 ∨ q = 2 ∨ q = 3 ∨ q = 4 ∨ q = 5 ∨ q = 6 ∨ q = 7 ∨ q = 8 := by omega
    rcases e with rfl | rfl | rfl | rfl | rfl | rfl | rfl | rfl | rfl <;> rfl
  rw [← chk_all (p 0) (p 1) (p 2) (p 3) (p 4) (p 5) (p 6) (p 7) (p 8)]
  unfold chk clm shr
  rw [gS_congr h 54]
  rfl
