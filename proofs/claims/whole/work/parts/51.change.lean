/-! ===== letters, and what is kept ahead of a change ===== -/
theorem c_hasLetter {z : Fo} {a : Nat → Nat} (hV : Valid a) (hC : CF z a) (x : Int32) : fX1_hasLetter z x = some (W01 x (nI 0) (nI (a 60 - 1))) := by
  unfold fX1_hasLetter
  rw [hC.1, show (1 : Int32) = nI 1 from rfl, pk_sub hV.1.1, within_W]
  exact ckZ_01 (W01_01 _ _ _)
theorem r_isLetter {mo : Mo} {a : Nat → Nat} (hV : Valid a) (hF : RF (Mo_now mo) a) (x : Int32) : fX6_isLetter mo x = some (W01 x (nI 0) (nI (a 60 - 1))) := by
  unfold fX6_isLetter
  rw [show (60 : Int32) = nI 60 from rfl, rdI_n (by omega) (by omega), hF 60 (by omega)]
  show (fX6_in _ _ ((nI (a 60) - nI 1).toInt64)).bind _ = _
  rw [pk_sub hV.1.1, show (0 : Int64) = (nI 0).toInt64 from rfl, in_W]
  exact ckZ_01 (W01_01 _ _ _)
theorem c_isSide (x : Int32) : fX5_isSide x = some (W01 x (nI 0) (nI 1)) := by
  unfold fX5_isSide
  rw [show (0 : Int32) = nI 0 from rfl, show (1 : Int32) = nI 1 from rfl, within_W]
  exact ckZ_01 (W01_01 _ _ _)
theorem c_isHeight (x : Int32) : fX5_isHeight x = some (W01 x (nI 0) (nI 7)) := by
  unfold fX5_isHeight
  rw [show (0 : Int32) = nI 0 from rfl, show (7 : Int32) = nI 7 from rfl, within_W]
  exact ckZ_01 (W01_01 _ _ _)
theorem c_isImage (x : Int32) : fX5_isImage x = some (W01 x (nI 0) (nI 1)) := c_isSide x
theorem r_isSide (x : Int32) : fX6_isSide x = some (W01 x (nI 0) (nI 1)) := by
  unfold fX6_isSide
  rw [show (0 : Int64) = (nI 0).toInt64 from rfl, show (1 : Int64) = (nI 1).toInt64 from rfl, in_W]
  exact ckZ_01 (W01_01 _ _ _)
theorem r_isHeight (x : Int32) : fX6_isHeight x = some (W01 x (nI 0) (nI 7)) := by
  unfold fX6_isHeight
  rw [show (0 : Int64) = (nI 0).toInt64 from rfl, show (7 : Int64) = (nI 7).toInt64 from rfl, in_W]
  exact ckZ_01 (W01_01 _ _ _)
theorem r_in {x : Int32} (lo hi : Nat) {l h : Int64} (hl : l = (nI lo).toInt64) (hh : h = (nI hi).toInt64) : fX6_in x.toInt64 l h = some (W01 x (nI lo) (nI hi)) := by
  rw [hl, hh, in_W]
theorem c_in {x : Int32} (lo hi : Nat) {l h : Int32} (hl : l = nI lo) (hh : h = nI hi) : fX5_within x l h = some (W01 x (nI lo) (nI hi)) := by
  rw [hl, hh, within_W]
/-- takeAll: the one becomes the other -/
theorem take_ok (z : Fo) {y : Fo} {a : Nat → Nat} (h : CF y a) : ∃ z', fX1_takeAll z y = some z' ∧ CF z' a := by
  obtain ⟨h1, h2, h3, h4, h5, h6⟩ := h
  refine ⟨_, rfl, h1, h2, h3, fun k hk => ?_, fun k hk => ?_, fun k hk => ?_⟩
  · show va_cpy (Fo_bodies y) (Fo_bodies z) 0 0 3 k = _
    rw [pk_cpy_in (by omega) (by omega), ← h4 k hk]
    congr 1
    omega
  · show va_cpy (Fo_backs y) (Fo_backs z) 0 0 48 k = _
    rw [pk_cpy_in (by omega) (by omega), ← h5 k hk]
    congr 1
    omega
  · show va_cpy (Fo_weights y) (Fo_weights z) 0 0 9 k = _
    rw [pk_cpy_in (by omega) (by omega), ← h6 k hk]
    congr 1
    omega
theorem rem8 {x : Nat} (h : x < 1000) : nI x - nI x / 8 * 8 = nI (x % 8) := by
  rw [show (8 : Int32) = nI 8 from rfl]
  exact pk_rem (by omega) (by omega) (by omega)
theorem up2_s {α : Type} (M : Nat → α) (v : Nat) (f : α) : up2 M v f v = f := if_pos rfl
theorem up2_n {α : Type} {M : Nat → α} {v j : Nat} {f : α} (h : j ≠ v) : up2 M v f j = M j := if_neg h
/-- the new list of what can be taken back -/
def pushU (m : Nat) (u : Nat → Nat → Nat) (a : Nat → Nat) : Nat → Nat → Nat := fun j => if m = 8 then (if j = 7 then a else u (j + 1)) else if j = m then a else u j
theorem c_remember {pa : Pa} {m : Nat} {u : Nat → Nat → Nat} {z : Fo} {a : Nat → Nat} (hC : CF z a) (hm : m ≤ 8) (h1 : Pa_many pa = nI m) (h2 : ∃ x, x < 8 ∧ Pa_next pa = nI x ∧ ∀ j, j < m → CF (Pa_ring pa ((x + 8 - m + j) % 8)) (u j)) :
    ∃ pa', fX3_remember pa z = some pa' ∧ Pa_many pa' = nI (min (m + 1) 8) ∧ ∃ x, x < 8 ∧ Pa_next pa' = nI x ∧ ∀ j, j < min (m + 1) 8 → CF (Pa_ring pa' ((x + 8 - min (m + 1) 8 + j) % 8)) (pushU m u a j) := by
  obtain ⟨x, hx, hn, hr⟩ := h2
  obtain ⟨z', hz, hz'⟩ := take_ok (Pa_ring pa x) hC
  refine ⟨Pa_set_many (Pa_set_next (Pa_set_ring pa (up2 (Pa_ring pa) x z')) ((nI x + 1) - (nI x + 1) / 8 * 8)) (if (8 : Int32) < nI m + 1 then (8 : Int32) else nI m + 1), ?_, ?_, (x + 1) % 8, Nat.mod_lt _ (by omega), ?_, ?_⟩
  · unfold fX3_remember
    rw [hn, h1, rdX_n hx (by omega), Option.bind_some, hz, Option.bind_some]
  · show (if (8 : Int32) < nI m + 1 then (8 : Int32) else nI m + 1) = _
    rw [show (8 : Int32) = nI 8 from rfl, nI_1]
    by_cases h : m = 8
    · subst h
      rw [if_pos ((nI_ltI (by omega) (by omega)).mpr (by omega))]
      rfl
    · rw [if_neg (fun q => by have := (nI_ltI (by omega) (by omega)).mp q; omega), show min (m + 1) 8 = m + 1 by omega]
  · show (nI x + 1) - (nI x + 1) / 8 * 8 = _
    rw [nI_1, rem8 (by omega)]
  · intro j hj
    show CF (up2 (Pa_ring pa) x z' _) _
    unfold pushU
    by_cases h : m = 8
    · subst h
      rw [if_pos rfl]
      by_cases hj7 : j = 7
      · rw [if_pos hj7, show ((x + 1) % 8 + 8 - min (8 + 1) 8 + j) % 8 = x by omega, up2_s]
        exact hz'
      · rw [if_neg hj7, up2_n (by omega), show ((x + 1) % 8 + 8 - min (8 + 1) 8 + j) % 8 = (x + 8 - 8 + (j + 1)) % 8 by omega]
        exact hr (j + 1) (by omega)
    · rw [if_neg h]
      have hmin : min (m + 1) 8 = m + 1 := by omega
      rw [hmin] at hj ⊢
      by_cases hjm : j = m
      · rw [if_pos hjm, show ((x + 1) % 8 + 8 - (m + 1) + j) % 8 = x by omega, up2_s]
        exact hz'
      · rw [if_neg hjm, up2_n (by omega), show ((x + 1) % 8 + 8 - (m + 1) + j) % 8 = (x + 8 - m + j) % 8 by omega]
        exact hr j (by omega)
/-- the reference: shift, if it is full -/
theorem r_shift (o : Mo) : lp gX6_remember_12 1000 (63, o) = some (nI 504, Mo_set_past o (fun q => if q < 441 then Mo_past o (q + 63) else Mo_past o q)) := by
  have h0 : ((63 : Int32), o) = (nI (63 + 0), Mo_set_past o (fun q => if q < 0 then Mo_past o (q + 63) else Mo_past o q)) := by
    have e : (fun q => if q < 0 then Mo_past o (q + 63) else Mo_past o q) = Mo_past o := funext fun q => if_neg (by omega)
    rw [e]
    rfl
  rw [h0]
  refine lp_k (fun i => (nI (63 + i), Mo_set_past o (fun q => if q < i then Mo_past o (q + 63) else Mo_past o q))) 441 (by omega) ?_ ?_
  · intro i hi rec
    show (if nI 504 ≤ nI (63 + i) then _ else (rdI (fun q => if q < i then Mo_past o (q + 63) else Mo_past o q) 504 (nI (63 + i))).bind fun v2 => (wrI (fun q => if q < i then Mo_past o (q + 63) else Mo_past o q) 504 (nI (63 + i) - nI 63) v2).bind fun v3 => rec (nI (63 + i) + 1, Mo_set_past o v3)) = _
    rw [if_neg (nI_ge (a := 63 + i) (b := 504) (by omega) (by omega)), rdI_n (by omega) (by omega), Option.bind_some, pk_sub (by omega), wrI_n (by omega) (by omega), Option.bind_some, nI_1]
    show rec (nI (63 + (i + 1)), Mo_set_past o _) = rec (nI (63 + (i + 1)), Mo_set_past o _)
    congr 2
    congr 1
    funext q
    unfold upd
    by_cases h1 : q = 63 + i - 63
    · rw [if_pos h1, if_neg (by omega), if_pos (by omega)]
      congr 1
      omega
    · rw [if_neg h1]
      dsimp only
      by_cases h2 : q < i
      · rw [if_pos h2, if_pos (by omega)]
      · rw [if_neg h2, if_neg (by omega)]
  · intro rec
    show (if (504 : Int32) ≤ nI 504 then some (nI 504, Mo_set_past o _) else _) = _
    rw [if_pos (by decide)]
theorem r_store (o : Mo) {t : Nat} (ht : t < 8) (hu : Mo_undos o = nI t) : lp gX6_remember_52 1000 (0, o) = some (nI 63, Mo_set_past o (fun q => if 63 * t ≤ q ∧ q < 63 * t + 63 then Mo_now o (q - 63 * t) else Mo_past o q)) := by
  have h0 : ((0 : Int32), o) = (nI 0, Mo_set_past o (fun q => if 63 * t ≤ q ∧ q < 63 * t + 0 then Mo_now o (q - 63 * t) else Mo_past o q)) := by
    have e : (fun q => if 63 * t ≤ q ∧ q < 63 * t + 0 then Mo_now o (q - 63 * t) else Mo_past o q) = Mo_past o := funext fun q => if_neg (by omega)
    rw [e]
    rfl
  rw [h0]
  refine lp_k (fun i => (nI i, Mo_set_past o (fun q => if 63 * t ≤ q ∧ q < 63 * t + i then Mo_now o (q - 63 * t) else Mo_past o q))) 63 (by omega) ?_ ?_
  · intro i hi rec
    show (if nI 63 ≤ nI i then _ else (rdI (Mo_now o) 63 (nI i)).bind fun v2 => (wrI (fun q => if 63 * t ≤ q ∧ q < 63 * t + i then Mo_now o (q - 63 * t) else Mo_past o q) 504 (nI 63 * Mo_undos o + nI i) v2).bind fun v3 => rec (nI i + 1, Mo_set_past o v3)) = _
    rw [if_neg (nI_ge (a := i) (b := 63) (by omega) (by omega)), rdI_n (by omega) (by omega), Option.bind_some, hu, nI_mul, nI_add, wrI_n (by omega) (by omega), Option.bind_some, nI_1]
    show rec (nI (i + 1), Mo_set_past o _) = rec (nI (i + 1), Mo_set_past o _)
    congr 2
    congr 1
    funext q
    unfold upd
    by_cases h1 : q = 63 * t + i
    · rw [if_pos h1, if_pos (by omega)]
      congr 1
      omega
    · rw [if_neg h1]
      dsimp only
      by_cases h2 : 63 * t ≤ q ∧ q < 63 * t + i
      · rw [if_pos h2, if_pos (by omega)]
      · rw [if_neg h2, if_neg (by omega)]
  · intro rec
    show (if (63 : Int32) ≤ nI 63 then some (nI 63, Mo_set_past o _) else _) = _
    rw [if_pos (by decide)]
