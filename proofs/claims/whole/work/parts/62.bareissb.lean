/-! ===== LAYER 2: the elimination of the left spaces ===== -/
theorem ba_T (r0 r1 r2 a0 a1 a2 b0 b1 b2 c0 c1 c2 n0 n1 n2 : Int) (h0 : a0*b0 + a0*c0 + b0*c0 = r0*n0) (h1 : a1*b1 + a1*c1 + b1*c1 = r1*n1) (h2 : a2*b2 + a2*c2 + b2*c2 = r2*n2) :
    (r1*r2*a0 + r0*r2*a1 + r0*r1*a2) * (r1*r2*b0 + r0*r2*b1 + r0*r1*b2) + (r1*r2*a0 + r0*r2*a1 + r0*r1*a2) * (r1*r2*c0 + r0*r2*c1 + r0*r1*c2) + (r1*r2*b0 + r0*r2*b1 + r0*r1*b2) * (r1*r2*c0 + r0*r2*c1 + r0*r1*c2)
    = (r0*r1*r2) * (r1*r2*n0 + r0*r2*n1 + r0*r1*n2 + r2*(a0*b1+a1*b0+a0*c1+a1*c0+b0*c1+b1*c0) + r1*(a0*b2+a2*b0+a0*c2+a2*c0+b0*c2+b2*c0) + r0*(a1*b2+a2*b1+a1*c2+a2*c1+b1*c2+b2*c1)) := by
  grind
theorem ba_E (r0 r1 r2 a0 a1 a2 b0 b1 b2 c0 c1 c2 n0 n1 n2 s0 s1 s2 v0 v1 v2 : Int) (h0 : a0*b0 + a0*c0 + b0*c0 = r0*n0) (h1 : a1*b1 + a1*c1 + b1*c1 = r1*n1) (h2 : a2*b2 + a2*c2 + b2*c2 = r2*n2) :
    ((r1*r2*a0 + r0*r2*a1 + r0*r1*a2) + (r1*r2*b0 + r0*r2*b1 + r0*r1*b2)) * ((r1*r2*(c0*v0) + r0*r2*(c1*v1) + r0*r1*(c2*v2)) - (r1*r2*(a0*s0) + r0*r2*(a1*s1) + r0*r1*(a2*s2))) + (r1*r2*a0 + r0*r2*a1 + r0*r1*a2) * ((r1*r2*(a0*s0) + r0*r2*(a1*s1) + r0*r1*(a2*s2)) + (r1*r2*(b0*(s0+v0)) + r0*r2*(b1*(s1+v1)) + r0*r1*(b2*(s2+v2))))
    = (r0*r1*r2) * (r1*r2*(n0*v0) + r0*r2*(n1*v1) + r0*r1*(n2*v2) + r2*((-(b0*a1*s1) + (a0+b0)*c1*v1 + a0*b1*(s1+v1)) + (-(b1*a0*s0) + (a1+b1)*c0*v0 + a1*b0*(s0+v0))) + r1*((-(b0*a2*s2) + (a0+b0)*c2*v2 + a0*b2*(s2+v2)) + (-(b2*a0*s0) + (a2+b2)*c0*v0 + a2*b0*(s0+v0))) + r0*((-(b1*a2*s2) + (a1+b1)*c2*v2 + a1*b2*(s2+v2)) + (-(b2*a1*s1) + (a2+b2)*c1*v1 + a2*b1*(s1+v1)))) := by
  grind
theorem ba_E0 (r0 r1 r2 a0 a1 a2 b0 b1 b2 c0 c1 c2 n0 n1 n2 s0 s1 s2 v0 v1 v2 : Int) (h0 : a0*b0 + a0*c0 + b0*c0 = r0*n0) (h1 : a1*b1 + a1*c1 + b1*c1 = r1*n1) (h2 : a2*b2 + a2*c2 + b2*c2 = r2*n2) :
    (r1*r2*c0 + r0*r2*c1 + r0*r1*c2) * (r1*r2*(a0*s0) + r0*r2*(a1*s1) + r0*r1*(a2*s2)) + ((r1*r2*a0 + r0*r2*a1 + r0*r1*a2) + (r1*r2*c0 + r0*r2*c1 + r0*r1*c2)) * (r1*r2*(b0*(s0+v0)) + r0*r2*(b1*(s1+v1)) + r0*r1*(b2*(s2+v2))) + (r1*r2*a0 + r0*r2*a1 + r0*r1*a2) * (r1*r2*(c0*v0) + r0*r2*(c1*v1) + r0*r1*(c2*v2))
    = (r0*r1*r2) * (r1*r2*(n0*(s0+v0)) + r0*r2*(n1*(s1+v1)) + r0*r1*(n2*(s2+v2)) + r2*((c0*a1*s1 + (a0+c0)*b1*(s1+v1) + a0*c1*v1) + (c1*a0*s0 + (a1+c1)*b0*(s0+v0) + a1*c0*v0)) + r1*((c0*a2*s2 + (a0+c0)*b2*(s2+v2) + a0*c2*v2) + (c2*a0*s0 + (a2+c2)*b0*(s0+v0) + a2*c0*v0)) + r0*((c1*a2*s2 + (a1+c1)*b2*(s2+v2) + a1*c2*v2) + (c2*a1*s1 + (a2+c2)*b1*(s1+v1) + a2*c1*v1))) := by
  grind
theorem ba_D (r0 r1 r2 x y z t0 t1 t2 a1 a2 b1 b2 c1 c2 n1 n2 s1 s2 v1 v2 : Int) (hx : r0*x = (x+y+z)*x) (hy : r0*y = (x+y+z)*y) (hz : r0*z = (x+y+z)*z) :
    (r1*r2*(x*y*z) + r0*r2*n1 + r0*r1*n2 + r2*(x*y*b1+a1*(x*z)+x*y*c1+a1*(y*z)+x*z*c1+b1*(y*z)) + r1*(x*y*b2+a2*(x*z)+x*y*c2+a2*(y*z)+x*z*c2+b2*(y*z)) + r0*(a1*b2+a2*b1+a1*c2+a2*c1+b1*c2+b2*c1)) * (x*t0+y*t1+z*t2)
    - x * (r1*r2*((x*y*z)*(t0-t2)) + r0*r2*(n1*(s1+v1)) + r0*r1*(n2*(s2+v2)) + r2*((y*z*a1*s1 + (x*y+y*z)*b1*(s1+v1) + x*y*c1*v1) + (c1*(x*y)*(t0-t1) + (a1+c1)*(x*z)*(t0-t2) + a1*(y*z)*(t1-t2))) + r1*((y*z*a2*s2 + (x*y+y*z)*b2*(s2+v2) + x*y*c2*v2) + (c2*(x*y)*(t0-t1) + (a2+c2)*(x*z)*(t0-t2) + a2*(y*z)*(t1-t2))) + r0*((c1*a2*s2 + (a1+c1)*b2*(s2+v2) + a1*c2*v2) + (c2*a1*s1 + (a2+c2)*b1*(s1+v1) + a2*c1*v1)))
    - y * (r1*r2*((x*y*z)*(t1-t2)) + r0*r2*(n1*v1) + r0*r1*(n2*v2) + r2*((-(x*z*a1*s1) + (x*y+x*z)*c1*v1 + x*y*b1*(s1+v1)) + (-(b1*(x*y)*(t0-t1)) + (a1+b1)*(y*z)*(t1-t2) + a1*(x*z)*(t0-t2))) + r1*((-(x*z*a2*s2) + (x*y+x*z)*c2*v2 + x*y*b2*(s2+v2)) + (-(b2*(x*y)*(t0-t1)) + (a2+b2)*(y*z)*(t1-t2) + a2*(x*z)*(t0-t2))) + r0*((-(b1*a2*s2) + (a1+b1)*c2*v2 + a1*b2*(s2+v2)) + (-(b2*a1*s1) + (a2+b2)*c1*v1 + a2*b1*(s1+v1))))
    = r0 * (r1*r2*(x*y*z)*t2 + r2*(x*y*(b1*(t0-t2-(s1+v1)) + c1*(t1-t2-v1)) + (x*y*b1+a1*(x*z)+x*y*c1+a1*(y*z)+x*z*c1+b1*(y*z))*t2) + r1*(x*y*(b2*(t0-t2-(s2+v2)) + c2*(t1-t2-v2)) + (x*y*b2+a2*(x*z)+x*y*c2+a2*(y*z)+x*z*c2+b2*(y*z))*t2)
      + (a1*b2+a2*b1+a1*c2+a2*c1+b1*c2+b2*c1)*(x*t0+y*t1+z*t2) - x*((c1*a2*s2 + (a1+c1)*b2*(s2+v2) + a1*c2*v2) + (c2*a1*s1 + (a2+c2)*b1*(s1+v1) + a2*c1*v1)) - y*((-(b1*a2*s2) + (a1+b1)*c2*v2 + a1*b2*(s2+v2)) + (-(b2*a1*s1) + (a2+b2)*c1*v1 + a2*b1*(s1+v1)))
      + r2*n1*(x*t0+y*t1+z*t2-y*v1-x*(s1+v1)) + r1*n2*(x*t0+y*t1+z*t2-y*v2-x*(s2+v2))) := by
  grind
theorem ba_R (r0 r1 r2 x y z a1 a2 b1 b2 : Int) (hx : r0*x = (x+y+z)*x) :
    (r1*r2*(x*y) + r0*r2*a1 + r0*r1*a2 + (r1*r2*(x*z) + r0*r2*b1 + r0*r1*b2)) * y + x * (r1*r2*(x*y) + r0*r2*a1 + r0*r1*a2) = r0 * (r1*r2*(x*y) + (r2*(a1+b1) + r1*(a2+b2))*y + x*(r2*a1+r1*a2)) := by
  grind
theorem ba_G (r0 r1 r2 x y z t0 t1 t2 a1 a2 b1 b2 f1 f2 : Int) (hx : r0*x = (x+y+z)*x) :
    (r1*r2*(x*y) + r0*r2*a1 + r0*r1*a2 + (r1*r2*(x*z) + r0*r2*b1 + r0*r1*b2)) * (x*t0+y*t1+z*t2) - x * (r1*r2*(x*y*(t0-t1) + x*z*(t0-t2)) + r0*r2*f1 + r0*r1*f2) = r0 * (r1*r2*(x*(y*t1+z*t2)) + (r2*(a1+b1) + r1*(a2+b2))*(x*t0+y*t1+z*t2) - x*(r2*f1+r1*f2)) := by
  grind
theorem ba_K (r0 r1 r2 x y z t0 t1 t2 c1 c2 f1 f2 : Int) (hy : r0*y = (x+y+z)*y) (h1 : x*y = 0) (h2 : x*z = 0) :
    (r1*r2*(y*z) + r0*r2*c1 + r0*r1*c2) * (x*t0+y*t1+z*t2) - y * (r1*r2*(y*z*(t1-t2) - x*y*(t0-t1)) + r0*r2*f1 + r0*r1*f2) = r0 * (r1*r2*(y*z*t2) + (r2*c1 + r1*c2)*(x*t0+y*t1+z*t2) - y*(r2*f1+r1*f2)) := by
  grind
def yT (w : Nat → Nat → Int) (i k : Nat) : Int := w i 0 * w i 1 * (w k 0 * w k 2) + w k 0 * w k 1 * (w i 0 * w i 2) + w i 0 * w i 1 * (w k 1 * w k 2) + w k 0 * w k 1 * (w i 1 * w i 2) + w i 0 * w i 2 * (w k 1 * w k 2) + w k 0 * w k 2 * (w i 1 * w i 2)
def TT (w : Nat → Nat → Int) : Int := pw w 0 * (w 0 0 * w 0 1 * w 0 2) + pw w 1 * (w 1 0 * w 1 1 * w 1 2) + pw w 2 * (w 2 0 * w 2 1 * w 2 2) + rh w 2 * yT w 0 1 + rh w 1 * yT w 0 2 + rh w 0 * yT w 1 2
def y0 (w t : Nat → Nat → Int) (i k : Nat) : Int := w i 1 * w i 2 * (w k 0 * w k 1) * (t k 0 - t k 1) + (w i 0 * w i 1 + w i 1 * w i 2) * (w k 0 * w k 2) * (t k 0 - t k 2) + w i 0 * w i 1 * (w k 1 * w k 2) * (t k 1 - t k 2)
def y1 (w t : Nat → Nat → Int) (i k : Nat) : Int := -(w i 0 * w i 2 * (w k 0 * w k 1) * (t k 0 - t k 1)) + (w i 0 * w i 1 + w i 0 * w i 2) * (w k 1 * w k 2) * (t k 1 - t k 2) + w i 0 * w i 1 * (w k 0 * w k 2) * (t k 0 - t k 2)
def ee0 (w t : Nat → Nat → Int) : Int := pw w 0 * (w 0 0 * w 0 1 * w 0 2 * (t 0 0 - t 0 2)) + pw w 1 * (w 1 0 * w 1 1 * w 1 2 * (t 1 0 - t 1 2)) + pw w 2 * (w 2 0 * w 2 1 * w 2 2 * (t 2 0 - t 2 2)) + rh w 2 * (y0 w t 0 1 + y0 w t 1 0) + rh w 1 * (y0 w t 0 2 + y0 w t 2 0) + rh w 0 * (y0 w t 1 2 + y0 w t 2 1)
def ee1 (w t : Nat → Nat → Int) : Int := pw w 0 * (w 0 0 * w 0 1 * w 0 2 * (t 0 1 - t 0 2)) + pw w 1 * (w 1 0 * w 1 1 * w 1 2 * (t 1 1 - t 1 2)) + pw w 2 * (w 2 0 * w 2 1 * w 2 2 * (t 2 1 - t 2 2)) + rh w 2 * (y1 w t 0 1 + y1 w t 1 0) + rh w 1 * (y1 w t 0 2 + y1 w t 2 0) + rh w 0 * (y1 w t 1 2 + y1 w t 2 1)
theorem hS {w t : Nat → Nat → Int} (h : HW w t) {i : Nat} (hi : i < 3) : w i 0 * w i 1 * (w i 0 * w i 2) + w i 0 * w i 1 * (w i 1 * w i 2) + w i 0 * w i 2 * (w i 1 * w i 2) = rh w i * (w i 0 * w i 1 * w i 2) := by
  have h0 := rhw h (i := i) (j := 0) hi (by omega)
  generalize rh w i = r at *
  generalize w i 0 = x at *
  generalize w i 1 = y at *
  generalize w i 2 = z at *
  grind
theorem pT {w t : Nat → Nat → Int} (h : HW w t) : q3 w 0 1 * q3 w 0 2 + q3 w 0 1 * q3 w 1 2 + q3 w 0 2 * q3 w 1 2 = PW w * TT w := by
  have := ba_T (rh w 0) (rh w 1) (rh w 2) (w 0 0 * w 0 1) (w 1 0 * w 1 1) (w 2 0 * w 2 1) (w 0 0 * w 0 2) (w 1 0 * w 1 2) (w 2 0 * w 2 2) (w 0 1 * w 0 2) (w 1 1 * w 1 2) (w 2 1 * w 2 2) (w 0 0 * w 0 1 * w 0 2) (w 1 0 * w 1 1 * w 1 2) (w 2 0 * w 2 1 * w 2 2) (hS h (by omega)) (hS h (by omega)) (hS h (by omega))
  exact this
theorem pE1 {w t : Nat → Nat → Int} (h : HW w t) : (q3 w 0 1 + q3 w 0 2) * (fl w t 1 2 - fl w t 0 1) + q3 w 0 1 * (fl w t 0 1 + fl w t 0 2) = PW w * ee1 w t := by
  have := ba_E (rh w 0) (rh w 1) (rh w 2) (w 0 0 * w 0 1) (w 1 0 * w 1 1) (w 2 0 * w 2 1) (w 0 0 * w 0 2) (w 1 0 * w 1 2) (w 2 0 * w 2 2) (w 0 1 * w 0 2) (w 1 1 * w 1 2) (w 2 1 * w 2 2) (w 0 0 * w 0 1 * w 0 2) (w 1 0 * w 1 1 * w 1 2) (w 2 0 * w 2 1 * w 2 2) (t 0 0 - t 0 1) (t 1 0 - t 1 1) (t 2 0 - t 2 1) (t 0 1 - t 0 2) (t 1 1 - t 1 2) (t 2 1 - t 2 2) (hS h (by omega)) (hS h (by omega)) (hS h (by omega))
  have z0 : t 0 0 - t 0 1 + (t 0 1 - t 0 2) = t 0 0 - t 0 2 := by omega
  have z1 : t 1 0 - t 1 1 + (t 1 1 - t 1 2) = t 1 0 - t 1 2 := by omega
  have z2 : t 2 0 - t 2 1 + (t 2 1 - t 2 2) = t 2 0 - t 2 2 := by omega
  rw [z0, z1, z2] at this
  exact this
theorem pE0 {w t : Nat → Nat → Int} (h : HW w t) : q3 w 1 2 * fl w t 0 1 + (q3 w 0 1 + q3 w 1 2) * fl w t 0 2 + q3 w 0 1 * fl w t 1 2 = PW w * ee0 w t := by
  have := ba_E0 (rh w 0) (rh w 1) (rh w 2) (w 0 0 * w 0 1) (w 1 0 * w 1 1) (w 2 0 * w 2 1) (w 0 0 * w 0 2) (w 1 0 * w 1 2) (w 2 0 * w 2 2) (w 0 1 * w 0 2) (w 1 1 * w 1 2) (w 2 1 * w 2 2) (w 0 0 * w 0 1 * w 0 2) (w 1 0 * w 1 1 * w 1 2) (w 2 0 * w 2 1 * w 2 2) (t 0 0 - t 0 1) (t 1 0 - t 1 1) (t 2 0 - t 2 1) (t 0 1 - t 0 2) (t 1 1 - t 1 2) (t 2 1 - t 2 2) (hS h (by omega)) (hS h (by omega)) (hS h (by omega))
  have z0 : t 0 0 - t 0 1 + (t 0 1 - t 0 2) = t 0 0 - t 0 2 := by omega
  have z1 : t 1 0 - t 1 1 + (t 1 1 - t 1 2) = t 1 0 - t 1 2 := by omega
  have z2 : t 2 0 - t 2 1 + (t 2 1 - t 2 2) = t 2 0 - t 2 2 := by omega
  rw [z0, z1, z2] at this
  exact this
/-! the right rows behind the left spaces -/
theorem all3 {p : Nat → Int → Prop} (h0 : ∃ r, p 0 r) (h1 : ∃ r, p 1 r) (h2 : ∃ r, p 2 r) : ∃ R : Nat → Int, ∀ i, i < 3 → p i (R i) := by
  obtain ⟨r0, h0⟩ := h0
  obtain ⟨r1, h1⟩ := h1
  obtain ⟨r2, h2⟩ := h2
  refine ⟨fun i => if i = 0 then r0 else if i = 1 then r1 else r2, fun i hi => ?_⟩
  have e : i = 0 ∨ i = 1 ∨ i = 2 := by omega
  rcases e with rfl | rfl | rfl
  · exact h0
  · exact h1
  · exact h2
theorem exR {w t : Nat → Nat → Int} (h : HW w t) : ∃ R : Nat → Int, ∀ i, i < 3 → rh w i * R i = (q3 w 0 1 + q3 w 0 2) * w i 1 + w i 0 * q3 w 0 1 := by
  refine all3 (p := fun i r => rh w i * r = (q3 w 0 1 + q3 w 0 2) * w i 1 + w i 0 * q3 w 0 1) ?_ ?_ ?_
  · refine ⟨_, (ba_R (rh w 0) (rh w 1) (rh w 2) (w 0 0) (w 0 1) (w 0 2) (w 1 0 * w 1 1) (w 2 0 * w 2 1) (w 1 0 * w 1 2) (w 2 0 * w 2 2) (rhw h (by omega) (by omega))).symm.trans ?_⟩
    simp only [q3, pw]
    grind
  · refine ⟨_, (ba_R (rh w 1) (rh w 0) (rh w 2) (w 1 0) (w 1 1) (w 1 2) (w 0 0 * w 0 1) (w 2 0 * w 2 1) (w 0 0 * w 0 2) (w 2 0 * w 2 2) (rhw h (by omega) (by omega))).symm.trans ?_⟩
    simp only [q3, pw]
    grind
  · refine ⟨_, (ba_R (rh w 2) (rh w 0) (rh w 1) (w 2 0) (w 2 1) (w 2 2) (w 0 0 * w 0 1) (w 1 0 * w 1 1) (w 0 0 * w 0 2) (w 1 0 * w 1 2) (rhw h (by omega) (by omega))).symm.trans ?_⟩
    simp only [q3, pw]
    grind
theorem exG {w t : Nat → Nat → Int} (h : HW w t) : ∃ R : Nat → Int, ∀ i, i < 3 → rh w i * R i = (q3 w 0 1 + q3 w 0 2) * go w t i - w i 0 * (fl w t 0 1 + fl w t 0 2) := by
  refine all3 (p := fun i r => rh w i * r = (q3 w 0 1 + q3 w 0 2) * go w t i - w i 0 * (fl w t 0 1 + fl w t 0 2)) ?_ ?_ ?_
  · refine ⟨_, (ba_G (rh w 0) (rh w 1) (rh w 2) (w 0 0) (w 0 1) (w 0 2) (t 0 0) (t 0 1) (t 0 2) (w 1 0 * w 1 1) (w 2 0 * w 2 1) (w 1 0 * w 1 2) (w 2 0 * w 2 2) (w 1 0 * w 1 1 * (t 1 0 - t 1 1) + w 1 0 * w 1 2 * (t 1 0 - t 1 2)) (w 2 0 * w 2 1 * (t 2 0 - t 2 1) + w 2 0 * w 2 2 * (t 2 0 - t 2 2)) (rhw h (by omega) (by omega))).symm.trans ?_⟩
    simp only [q3, pw, fl, go]
    grind
  · refine ⟨_, (ba_G (rh w 1) (rh w 0) (rh w 2) (w 1 0) (w 1 1) (w 1 2) (t 1 0) (t 1 1) (t 1 2) (w 0 0 * w 0 1) (w 2 0 * w 2 1) (w 0 0 * w 0 2) (w 2 0 * w 2 2) (w 0 0 * w 0 1 * (t 0 0 - t 0 1) + w 0 0 * w 0 2 * (t 0 0 - t 0 2)) (w 2 0 * w 2 1 * (t 2 0 - t 2 1) + w 2 0 * w 2 2 * (t 2 0 - t 2 2)) (rhw h (by omega) (by omega))).symm.trans ?_⟩
    simp only [q3, pw, fl, go]
    grind
  · refine ⟨_, (ba_G (rh w 2) (rh w 0) (rh w 1) (w 2 0) (w 2 1) (w 2 2) (t 2 0) (t 2 1) (t 2 2) (w 0 0 * w 0 1) (w 1 0 * w 1 1) (w 0 0 * w 0 2) (w 1 0 * w 1 2) (w 0 0 * w 0 1 * (t 0 0 - t 0 1) + w 0 0 * w 0 2 * (t 0 0 - t 0 2)) (w 1 0 * w 1 1 * (t 1 0 - t 1 1) + w 1 0 * w 1 2 * (t 1 0 - t 1 2)) (rhw h (by omega) (by omega))).symm.trans ?_⟩
    simp only [q3, pw, fl, go]
    grind
theorem exK {w t : Nat → Nat → Int} (h : HW w t) (z1 : ∀ i, i < 3 → w i 0 * w i 1 = 0) (z2 : ∀ i, i < 3 → w i 0 * w i 2 = 0) : ∃ R : Nat → Int, ∀ i, i < 3 → rh w i * R i = q3 w 1 2 * go w t i - w i 1 * (fl w t 1 2 - fl w t 0 1) := by
  refine all3 (p := fun i r => rh w i * r = q3 w 1 2 * go w t i - w i 1 * (fl w t 1 2 - fl w t 0 1)) ?_ ?_ ?_
  · refine ⟨_, (ba_K (rh w 0) (rh w 1) (rh w 2) (w 0 0) (w 0 1) (w 0 2) (t 0 0) (t 0 1) (t 0 2) (w 1 1 * w 1 2) (w 2 1 * w 2 2) (w 1 1 * w 1 2 * (t 1 1 - t 1 2) - w 1 0 * w 1 1 * (t 1 0 - t 1 1)) (w 2 1 * w 2 2 * (t 2 1 - t 2 2) - w 2 0 * w 2 1 * (t 2 0 - t 2 1)) (rhw h (by omega) (by omega)) (z1 0 (by omega)) (z2 0 (by omega))).symm.trans ?_⟩
    simp only [q3, pw, fl, go]
    grind
  · refine ⟨_, (ba_K (rh w 1) (rh w 0) (rh w 2) (w 1 0) (w 1 1) (w 1 2) (t 1 0) (t 1 1) (t 1 2) (w 0 1 * w 0 2) (w 2 1 * w 2 2) (w 0 1 * w 0 2 * (t 0 1 - t 0 2) - w 0 0 * w 0 1 * (t 0 0 - t 0 1)) (w 2 1 * w 2 2 * (t 2 1 - t 2 2) - w 2 0 * w 2 1 * (t 2 0 - t 2 1)) (rhw h (by omega) (by omega)) (z1 1 (by omega)) (z2 1 (by omega))).symm.trans ?_⟩
    simp only [q3, pw, fl, go]
    grind
  · refine ⟨_, (ba_K (rh w 2) (rh w 0) (rh w 1) (w 2 0) (w 2 1) (w 2 2) (t 2 0) (t 2 1) (t 2 2) (w 0 1 * w 0 2) (w 1 1 * w 1 2) (w 0 1 * w 0 2 * (t 0 1 - t 0 2) - w 0 0 * w 0 1 * (t 0 0 - t 0 1)) (w 1 1 * w 1 2 * (t 1 1 - t 1 2) - w 1 0 * w 1 1 * (t 1 0 - t 1 1)) (rhw h (by omega) (by omega)) (z1 2 (by omega)) (z2 2 (by omega))).symm.trans ?_⟩
    simp only [q3, pw, fl, go]
    grind
theorem exD {w t : Nat → Nat → Int} (h : HW w t) : ∃ R : Nat → Int, ∀ i, i < 3 → rh w i * R i = TT w * go w t i - w i 0 * ee0 w t - w i 1 * ee1 w t := by
  refine all3 (p := fun i r => rh w i * r = TT w * go w t i - w i 0 * ee0 w t - w i 1 * ee1 w t) ?_ ?_ ?_
  · refine ⟨_, (ba_D (rh w 0) (rh w 1) (rh w 2) (w 0 0) (w 0 1) (w 0 2) (t 0 0) (t 0 1) (t 0 2) (w 1 0 * w 1 1) (w 2 0 * w 2 1) (w 1 0 * w 1 2) (w 2 0 * w 2 2) (w 1 1 * w 1 2) (w 2 1 * w 2 2) (w 1 0 * w 1 1 * w 1 2) (w 2 0 * w 2 1 * w 2 2) (t 1 0 - t 1 1) (t 2 0 - t 2 1) (t 1 1 - t 1 2) (t 2 1 - t 2 2) (rhw h (by omega) (by omega)) (rhw h (by omega) (by omega)) (rhw h (by omega) (by omega))).symm.trans ?_⟩
    simp only [TT, ee0, ee1, yT, y0, y1, pw, go]
    grind
  · refine ⟨_, (ba_D (rh w 1) (rh w 0) (rh w 2) (w 1 0) (w 1 1) (w 1 2) (t 1 0) (t 1 1) (t 1 2) (w 0 0 * w 0 1) (w 2 0 * w 2 1) (w 0 0 * w 0 2) (w 2 0 * w 2 2) (w 0 1 * w 0 2) (w 2 1 * w 2 2) (w 0 0 * w 0 1 * w 0 2) (w 2 0 * w 2 1 * w 2 2) (t 0 0 - t 0 1) (t 2 0 - t 2 1) (t 0 1 - t 0 2) (t 2 1 - t 2 2) (rhw h (by omega) (by omega)) (rhw h (by omega) (by omega)) (rhw h (by omega) (by omega))).symm.trans ?_⟩
    simp only [TT, ee0, ee1, yT, y0, y1, pw, go]
    grind
  · refine ⟨_, (ba_D (rh w 2) (rh w 0) (rh w 1) (w 2 0) (w 2 1) (w 2 2) (t 2 0) (t 2 1) (t 2 2) (w 0 0 * w 0 1) (w 1 0 * w 1 1) (w 0 0 * w 0 2) (w 1 0 * w 1 2) (w 0 1 * w 0 2) (w 1 1 * w 1 2) (w 0 0 * w 0 1 * w 0 2) (w 1 0 * w 1 1 * w 1 2) (t 0 0 - t 0 1) (t 1 0 - t 1 1) (t 0 1 - t 0 2) (t 1 1 - t 1 2) (rhw h (by omega) (by omega)) (rhw h (by omega) (by omega)) (rhw h (by omega) (by omega))).symm.trans ?_⟩
    simp only [TT, ee0, ee1, yT, y0, y1, pw, go]
    grind
