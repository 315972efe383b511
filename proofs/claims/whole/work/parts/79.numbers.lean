/-! ===== LAYER 2: numbers, sign by sign ===== -/
def apS (f : Nat → Int32) (s : Nat) (d : Nat → Int32) (j : Nat) : Nat → Int32 := fun k => if s ≤ k ∧ k < s + j then d (k - s) else f k
theorem apS_0 (f : Nat → Int32) (s : Nat) (d : Nat → Int32) : apS f s d 0 = f := by
  funext k
  exact if_neg (by omega)
theorem apS_s (f : Nat → Int32) (s : Nat) (d : Nat → Int32) (j : Nat) : upd (apS f s d j) (s + j) (d j) = apS f s d (j + 1) := by
  funext k
  unfold upd apS
  by_cases e : k = s + j
  · rw [if_pos e, if_pos (by omega), e, Nat.add_sub_cancel_left]
  · rw [if_neg e]
    by_cases e2 : s ≤ k ∧ k < s + j
    · rw [if_pos e2, if_pos (by omega)]
    · rw [if_neg e2, if_neg (by omega)]
theorem c_addSign {te : Te} {s : Nat} (h : Te_many te = nI s) (hs : s < 96) (x : Int32) : fX4_addSign te x = some (nI (s + 1), upd (Te_signs te) s x) := by
  unfold fX4_addSign
  rw [h, show (96 : Int32) = nI 96 from rfl, if_neg (nI_ge hs (by omega)), wrI_n hs (by omega), Option.bind_some, Option.bind_some, nI_1]
theorem r_write {mo : Mo} {s : Nat} (h : Mo_signed mo = nI s) (hs : s < 80) (x : Int32) : fX6_write mo x = some (Mo_set_signed (Mo_set_signs mo (upd (Mo_signs mo) s x)) (nI (s + 1))) := by
  unfold fX6_write
  rw [h, wrI_n hs (by omega), Option.bind_some, nI_1]
def dgt (n e j : Nat) : Int32 := nI 48 + nI (n / (10 ^ e / 10 ^ j) % 10)
theorem pw_pos {e j : Nat} (h : j ≤ e) : 0 < 10 ^ e / 10 ^ j := by
  rw [Nat.pow_div h (by omega)]
  exact Nat.pow_pos (by omega)
theorem pw_zero {e j : Nat} (h : e < j) : 10 ^ e / 10 ^ j = 0 := Nat.div_eq_of_lt (Nat.pow_lt_pow_right (by omega) h)
theorem pw_s (e j : Nat) : 10 ^ e / 10 ^ j / 10 = 10 ^ e / 10 ^ (j + 1) := by
  rw [Nat.div_div_eq_div_mul, Nat.pow_succ]
theorem pw_le {e j : Nat} (h : e ≤ 18) : 10 ^ e / 10 ^ j ≤ 1000000000000000000 := by
  have h1 := Nat.div_le_self (10 ^ e) (10 ^ j)
  have h2 : 10 ^ e ≤ 10 ^ 18 := Nat.pow_le_pow_right (by omega) h
  omega
theorem dg_step {n e j : Nat} (hn : n < 9223372036854775808) (he : e ≤ 18) (hj : j ≤ e) : dvJ (lN n) (lN (10 ^ e / 10 ^ j)) = some (lN (n / (10 ^ e / 10 ^ j))) ∧ (48 : Int32) + Int64.toInt32 (lN (n / (10 ^ e / 10 ^ j)) - lN (n / (10 ^ e / 10 ^ j)) / 10 * 10) = dgt n e j := by
  have h1 := pw_pos hj
  have h2 := pw_le (j := j) he
  have h3 := Nat.div_le_self n (10 ^ e / 10 ^ j)
  refine ⟨?_, ?_⟩
  · rw [dvJ_n (by rw [show (0 : Int64) = lN 0 from rfl, pk_lEQ (by omega) (by omega)]; omega), pk_lDiv (by omega) h1 (by omega)]
  · rw [show (10 : Int64) = lN 10 from rfl, pk_lRem (by omega) (by omega) (by omega), lN_i]
    rfl
theorem c_digits {te : Te} {s n e : Nat} (x : Int64) (hn : n < 9223372036854775808) (he : e ≤ 18) (h : Te_many te = nI s) (hs : s + 20 ≤ 96) : lp (gX4_addNumber_58 x (lN n)) 1000 (lN (10 ^ e), 0, te) = some (lN 0, nI (e + 1), (nI (s + (e + 1)), apS (Te_signs te) s (dgt n e) (e + 1))) := by
  have e0 : (lN (10 ^ e), (0 : Int32), te) = (lN (10 ^ e / 10 ^ 0), nI 0, ((nI (s + 0), apS (Te_signs te) s (dgt n e) 0) : Te)) := by
    rw [apS_0, show 10 ^ e / 10 ^ 0 = 10 ^ e from by simp, show nI (s + 0) = Te_many te from h.symm]
    rfl
  rw [e0]
  refine lp_k (fun j => (lN (10 ^ e / 10 ^ j), nI j, ((nI (s + j), apS (Te_signs te) s (dgt n e) j) : Te))) (e + 1) (by omega) ?_ ?_
  · intro j hj rec
    obtain ⟨d1, d2⟩ := dg_step hn he (show j ≤ e by omega)
    have h1 := pw_pos (show j ≤ e by omega)
    have h2 := pw_le (j := j) he
    have ha := c_addSign (te := ((nI (s + j), apS (Te_signs te) s (dgt n e) j) : Te)) (s := s + j) rfl (by omega) (dgt n e j)
    show (if nI 19 ≤ nI j then _ else if lN (10 ^ e / 10 ^ j) ≤ lN 0 then _ else (dvJ (lN n) (lN (10 ^ e / 10 ^ j))).bind fun v3 => (fX4_addSign ((nI (s + j), apS (Te_signs te) s (dgt n e) j) : Te) ((48 : Int32) + Int64.toInt32 (v3 - v3 / 10 * 10))).bind fun v4 => rec (lN (10 ^ e / 10 ^ j) / lN 10, nI j + 1, v4)) = _
    rw [if_neg (nI_ge (by omega) (by omega)), if_neg (by rw [pk_lLE (by omega) (by omega)]; omega), d1, Option.bind_some, d2, ha, Option.bind_some, pk_lDiv (by omega) (by omega) (by omega), pw_s, nI_1, apS_s]
    rfl
  · intro rec
    show (if nI 19 ≤ nI (e + 1) then some (lN (10 ^ e / 10 ^ (e + 1)), nI (e + 1), ((nI (s + (e + 1)), apS (Te_signs te) s (dgt n e) (e + 1)) : Te)) else if lN (10 ^ e / 10 ^ (e + 1)) ≤ lN 0 then some (lN (10 ^ e / 10 ^ (e + 1)), nI (e + 1), ((nI (s + (e + 1)), apS (Te_signs te) s (dgt n e) (e + 1)) : Te)) else _) = _
    rw [pw_zero (show e < e + 1 by omega)]
    by_cases q : 19 ≤ e + 1
    · rw [if_pos (nI_le q (by omega))]
    · rw [if_neg (nI_ge (by omega) (by omega)), if_pos ((pk_lLE (by omega) (by omega)).mpr (Nat.le_refl 0))]
theorem r_digits {mo : Mo} {s n e : Nat} (x : Int64) (hn : n < 9223372036854775808) (he : e ≤ 18) (h : Mo_signed mo = nI s) (hs : s + 20 ≤ 80) : lp (gX6_writeNumber_50 x (lN n)) 1000 (lN (10 ^ e), mo) = some (lN 0, Mo_set_signed (Mo_set_signs mo (apS (Mo_signs mo) s (dgt n e) (e + 1))) (nI (s + (e + 1)))) := by
  have e0 : (lN (10 ^ e), mo) = (lN (10 ^ e / 10 ^ 0), Mo_set_signed (Mo_set_signs mo (apS (Mo_signs mo) s (dgt n e) 0)) (nI (s + 0))) := by
    rw [apS_0, show 10 ^ e / 10 ^ 0 = 10 ^ e from by simp, show nI (s + 0) = Mo_signed mo from h.symm]
  rw [e0]
  refine lp_k (fun j => (lN (10 ^ e / 10 ^ j), Mo_set_signed (Mo_set_signs mo (apS (Mo_signs mo) s (dgt n e) j)) (nI (s + j)))) (e + 1) (by omega) ?_ ?_
  · intro j hj rec
    obtain ⟨d1, d2⟩ := dg_step hn he (show j ≤ e by omega)
    have h1 := pw_pos (show j ≤ e by omega)
    have h2 := pw_le (j := j) he
    have ha := r_write (mo := Mo_set_signed (Mo_set_signs mo (apS (Mo_signs mo) s (dgt n e) j)) (nI (s + j))) (s := s + j) rfl (by omega) (dgt n e j)
    show (if lN (10 ^ e / 10 ^ j) ≤ lN 0 then _ else (dvJ (lN n) (lN (10 ^ e / 10 ^ j))).bind fun v3 => (fX6_write (Mo_set_signed (Mo_set_signs mo (apS (Mo_signs mo) s (dgt n e) j)) (nI (s + j))) ((48 : Int32) + Int64.toInt32 (v3 - v3 / 10 * 10))).bind fun v4 => rec (lN (10 ^ e / 10 ^ j) / lN 10, v4)) = _
    rw [if_neg (by rw [pk_lLE (by omega) (by omega)]; omega), d1, Option.bind_some, d2, ha, Option.bind_some, pk_lDiv (by omega) (by omega) (by omega), pw_s]
    show rec (_, Mo_set_signed (Mo_set_signs mo (upd (apS (Mo_signs mo) s (dgt n e) j) (s + j) (dgt n e j))) (nI (s + j + 1))) = _
    rw [apS_s]
    rfl
  · intro rec
    show (if lN (10 ^ e / 10 ^ (e + 1)) ≤ lN 0 then some (lN (10 ^ e / 10 ^ (e + 1)), Mo_set_signed (Mo_set_signs mo (apS (Mo_signs mo) s (dgt n e) (e + 1))) (nI (s + (e + 1)))) else _) = _
    rw [pw_zero (show e < e + 1 by omega), if_pos ((pk_lLE (by omega) (by omega)).mpr (Nat.le_refl 0))]
theorem p10_le {i : Nat} (h : i ≤ 18) : 0 < 10 ^ i ∧ 10 ^ i ≤ 1000000000000000000 := by
  have h1 : 10 ^ i ≤ 10 ^ 18 := Nat.pow_le_pow_right (by omega) h
  exact ⟨Nat.pow_pos (by omega), by omega⟩
theorem len_ex {n : Nat} (hn : n < 9223372036854775808) : ∃ e, e ≤ 18 ∧ n / 10 ^ e ≤ 9 ∧ ∀ i, i < e → ¬ n / 10 ^ i ≤ 9 := by
  have h18 : n / 10 ^ 18 ≤ 9 := by omega
  obtain ⟨e, h1, h2⟩ := pk_least (fun e => n / 10 ^ e ≤ 9) ⟨18, h18⟩
  refine ⟨e, ?_, h1, h2⟩
  by_cases q : 18 < e
  · exact absurd h18 (h2 18 q)
  · omega
theorem p10_step {n i : Nat} (hn : n < 9223372036854775808) (hi : i ≤ 18) : dvJ (lN n) (lN (10 ^ i)) = some (lN (n / 10 ^ i)) ∧ n / 10 ^ i < 9223372036854775808 := by
  have h1 := p10_le hi
  have h3 := Nat.div_le_self n (10 ^ i)
  refine ⟨?_, by omega⟩
  rw [dvJ_n (by rw [show (0 : Int64) = lN 0 from rfl, pk_lEQ (by omega) (by omega)]; omega), pk_lDiv (by omega) h1.1 (by omega)]
theorem c_len {te : Te} {n e : Nat} (x : Int64) (hn : n < 9223372036854775808) (he : e ≤ 18) (h1 : n / 10 ^ e ≤ 9) (h2 : ∀ i, i < e → ¬ n / 10 ^ i ≤ 9) : lp (gX4_addNumber_23 te x (lN n)) 1000 (1, 0) = some (lN (10 ^ e), nI e) := by
  refine lp_k (fun i => (lN (10 ^ i), nI i)) e (by omega) ?_ ?_
  · intro i hi rec
    obtain ⟨d1, d2⟩ := p10_step hn (show i ≤ 18 by omega)
    have := h2 i hi
    show (if nI 18 ≤ nI i then _ else (dvJ (lN n) (lN (10 ^ i))).bind fun v2 => if v2 < lN 10 then _ else rec (lN (10 ^ i) * lN 10, nI i + 1)) = _
    rw [if_neg (nI_ge (by omega) (by omega)), d1, Option.bind_some, if_neg (by rw [pk_lLT (by omega) (by omega)]; omega), lN_mul, nI_1]
    rfl
  · intro rec
    obtain ⟨d1, d2⟩ := p10_step hn he
    show (if nI 18 ≤ nI e then some (lN (10 ^ e), nI e) else (dvJ (lN n) (lN (10 ^ e))).bind fun v2 => if v2 < lN 10 then some (lN (10 ^ e), nI e) else _) = _
    by_cases q : 18 ≤ e
    · rw [if_pos (nI_le q (by omega))]
    · rw [if_neg (nI_ge (by omega) (by omega)), d1, Option.bind_some, if_pos (by rw [pk_lLT (by omega) (by omega)]; omega)]
theorem r_len {mo : Mo} {n e : Nat} (x : Int64) (hn : n < 9223372036854775808) (he : e ≤ 18) (h1 : n / 10 ^ e ≤ 9) (h2 : ∀ i, i < e → ¬ n / 10 ^ i ≤ 9) : lp (gX6_writeNumber_28 mo x (lN n)) 1000 1 = some (lN (10 ^ e)) := by
  refine lp_k (fun i => lN (10 ^ i)) e (by omega) ?_ ?_
  · intro i hi rec
    obtain ⟨d1, d2⟩ := p10_step hn (show i ≤ 18 by omega)
    have := h2 i hi
    show ((dvJ (lN n) (lN (10 ^ i))).bind fun v2 => if v2 ≤ lN 9 then _ else rec (lN (10 ^ i) * lN 10)) = _
    rw [d1, Option.bind_some, if_neg (by rw [pk_lLE (by omega) (by omega)]; omega), lN_mul]
    rfl
  · intro rec
    obtain ⟨d1, d2⟩ := p10_step hn he
    show ((dvJ (lN n) (lN (10 ^ e))).bind fun v2 => if v2 ≤ lN 9 then some (lN (10 ^ e)) else _) = _
    rw [d1, Option.bind_some, if_pos ((pk_lLE (by omega) (by omega)).mpr h1)]
def TR (te : Te) (mo : Mo) (s : Nat) : Prop := Te_many te = nI s ∧ Mo_signed mo = nI s ∧ ∀ k, k < s → Te_signs te k = Mo_signs mo k
def KP (mo mo' : Mo) : Prop := ∃ S n, mo' = Mo_set_signed (Mo_set_signs mo S) n
theorem KP.refl (mo : Mo) : KP mo mo := ⟨Mo_signs mo, Mo_signed mo, rfl⟩
theorem KP.trans {x y z : Mo} (h : KP x y) (k : KP y z) : KP x z := by
  obtain ⟨S, n, rfl⟩ := h
  obtain ⟨S', n', rfl⟩ := k
  exact ⟨S', n', rfl⟩
theorem KP.same {x y : Mo} (h : KP x y) : Same x y := by
  obtain ⟨S, n, rfl⟩ := h
  exact ⟨rfl, rfl, rfl, rfl, rfl, rfl, rfl⟩
theorem KP.sol {x y : Mo} {a : Nat → Nat} (h : KP x y) (hS : Sol x a) : Sol y a := by
  obtain ⟨S, n, rfl⟩ := h
  exact hS
theorem tr_add {te : Te} {mo : Mo} {s : Nat} (h : TR te mo s) (hs : s < 80) (x : Int32) : ∃ te' mo', fX4_addSign te x = some te' ∧ fX6_write mo x = some mo' ∧ TR te' mo' (s + 1) ∧ KP mo mo' := by
  obtain ⟨h1, h2, h3⟩ := h
  refine ⟨_, _, c_addSign h1 (by omega) x, r_write h2 hs x, ⟨rfl, rfl, fun k hk => ?_⟩, ⟨_, _, rfl⟩⟩
  show upd (Te_signs te) s x k = upd (Mo_signs mo) s x k
  unfold upd
  by_cases e : k = s
  · rw [if_pos e, if_pos e]
  · rw [if_neg e, if_neg e]; exact h3 k (by omega)
theorem tr_digits {te : Te} {mo : Mo} {s : Nat} (x : Int64) {n : Nat} (hn : n < 9223372036854775808) (h : TR te mo s) (hs : s + 20 ≤ 80) : ∃ te' mo' s', ((lp (gX4_addNumber_23 te x (lN n)) 1000 ((1 : Int64), (0 : Int32))).bind fun v4 => (lp (gX4_addNumber_58 x (lN n)) 1000 (v4.1, (0 : Int32), te)).bind fun v5 => some v5.2.2) = some te' ∧ ((lp (gX6_writeNumber_28 mo x (lN n)) 1000 (1 : Int64)).bind fun v5 => (lp (gX6_writeNumber_50 x (lN n)) 1000 (v5, mo)).bind fun v6 => some v6.2) = some mo' ∧ TR te' mo' s' ∧ s' ≤ s + 19 ∧ KP mo mo' := by
  obtain ⟨h1, h2, h3⟩ := h
  obtain ⟨e, e1, e2, e3⟩ := len_ex hn
  refine ⟨(nI (s + (e + 1)), apS (Te_signs te) s (dgt n e) (e + 1)), Mo_set_signed (Mo_set_signs mo (apS (Mo_signs mo) s (dgt n e) (e + 1))) (nI (s + (e + 1))), s + (e + 1), ?_, ?_, ⟨rfl, rfl, fun k hk => ?_⟩, by omega, ⟨_, _, rfl⟩⟩
  · rw [c_len x hn e1 e2 e3, Option.bind_some, c_digits x hn e1 h1 (by omega), Option.bind_some]
  · rw [r_len x hn e1 e2 e3, Option.bind_some, r_digits x hn e1 h2 (by omega), Option.bind_some]
  · show apS (Te_signs te) s (dgt n e) (e + 1) k = apS (Mo_signs mo) s (dgt n e) (e + 1) k
    unfold apS
    by_cases q : s ≤ k ∧ k < s + (e + 1)
    · rw [if_pos q, if_pos q]
    · rw [if_neg q, if_neg q]; exact h3 k (by omega)
theorem tr_number {te : Te} {mo : Mo} {s : Nat} {P : Int} (hP : sJ P) (h : TR te mo s) (hs : s + 21 ≤ 80) : ∃ te' mo' s', fX4_addNumber te (Int64.ofInt P) = some te' ∧ fX6_writeNumber mo (Int64.ofInt P) = some mo' ∧ TR te' mo' s' ∧ s' ≤ s + 20 ∧ KP mo mo' := by
  have hn : P.natAbs < 9223372036854775808 := by have := hP.1; have := hP.2; omega
  obtain ⟨a1, a2⟩ := absJ hP
  unfold fX4_addNumber fX6_writeNumber
  rw [a1, a2]
  by_cases q : (0 : Int64) ≤ Int64.ofInt P
  · rw [if_pos q, if_pos q, Option.bind_some, Option.bind_some]
    obtain ⟨te', mo', s', b1, b2, b3, b4, b5⟩ := tr_digits (Int64.ofInt P) hn h (by omega)
    exact ⟨te', mo', s', b1, b2, b3, by omega, b5⟩
  · rw [if_neg q, if_neg q]
    obtain ⟨te1, mo1, c1, c2, c3, c4⟩ := tr_add h (by omega) 45
    rw [c1, c2, Option.bind_some, Option.bind_some, Option.bind_some, Option.bind_some]
    obtain ⟨te', mo', s', b1, b2, b3, b4, b5⟩ := tr_digits (Int64.ofInt P) hn c3 (by omega)
    exact ⟨te', mo', s', b1, b2, b3, by omega, c4.trans b5⟩
