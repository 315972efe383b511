/-! ===== LAYER 2: the pure programs. Numbers, reads, writes, loops ===== -/
theorem lp_run {σ ρ : Type} {g : (σ → Option ρ) → σ → Option ρ} (I : Nat → σ) (e : Nat) {r : ρ} (hs : ∀ i, i < e → ∀ rec, g rec (I i) = rec (I (i + 1))) (hx : ∀ rec, g rec (I e) = some r) : ∀ (n i : Nat), i ≤ e → e - i < n → lp g n (I i) = some r := by
  intro n
  induction n with
  | zero => intro i h1 h2; omega
  | succ n ih =>
    intro i h1 h2
    show g (lp g n) (I i) = some r
    by_cases h : i = e
    · subst h
      exact hx _
    · rw [hs i (by omega)]
      exact ih (i + 1) (by omega) (by omega)
theorem lp_k {σ ρ : Type} {g : (σ → Option ρ) → σ → Option ρ} (I : Nat → σ) (e : Nat) {r : ρ} (he : e < 1000) (hs : ∀ i, i < e → ∀ rec, g rec (I i) = rec (I (i + 1))) (hx : ∀ rec, g rec (I e) = some r) : lp g 1000 (I 0) = some r := lp_run I e hs hx 1000 0 (Nat.zero_le e) (by omega)
theorem ckN {n k : Nat} (h : k < n) (hn : n < 2147483648) : ¬ (nI k < 0 ∨ n ≤ (nI k).toNatClampNeg) := by
  rw [nI_clamp (by omega)]
  rintro (q | q)
  · exact nI_pos (by omega) q
  · omega
theorem rdI_n {f : Nat → Int32} {n k : Nat} (h : k < n) (hn : n < 2147483648) : rdI f n (nI k) = some (f k) := by
  unfold rdI
  rw [if_neg (ckN h hn), nI_clamp (by omega)]
theorem rdJ_n {f : Nat → Int64} {n k : Nat} (h : k < n) (hn : n < 2147483648) : rdJ f n (nI k) = some (f k) := by
  unfold rdJ
  rw [if_neg (ckN h hn), nI_clamp (by omega)]
theorem rdX_n {n k : Nat} (h : k < n) (hn : n < 2147483648) : rdX n (nI k) = some k := by
  unfold rdX
  rw [if_neg (ckN h hn), nI_clamp (by omega)]
theorem wrI_n {f : Nat → Int32} {n k : Nat} {x : Int32} (h : k < n) (hn : n < 2147483648) : wrI f n (nI k) x = some (upd f k x) := by
  unfold wrI
  rw [if_neg (ckN h hn), nI_clamp (by omega)]
theorem wrJ_n {f : Nat → Int64} {n k : Nat} {x : Int64} (h : k < n) (hn : n < 2147483648) : wrJ f n (nI k) x = some (vp_updL f k x) := by
  unfold wrJ
  rw [if_neg (ckN h hn), nI_clamp (by omega)]
theorem wrZ_n {f : Nat → Int32} {n k : Nat} {x : Int32} (h : k < n) (hn : n < 2147483648) (hx : x = 0 ∨ x = 1) : wrZ f n (nI k) x = some (upd f k x) := by
  unfold wrZ
  rw [if_neg (ckN h hn), nI_clamp (by omega)]
  rcases hx with rfl | rfl <;> rfl
theorem nI_mul (a b : Nat) : nI a * nI b = nI (a * b) := pk_mul a b
theorem lit (n : Nat) : (OfNat.ofNat n : Int32) = nI n := rfl
theorem nI_le_iff {a b : Nat} (ha : a < 2147483648) (hb : b < 2147483648) : nI a ≤ nI b ↔ a ≤ b := nI_leI ha hb
theorem nI_lt_iff {a b : Nat} (ha : a < 2147483648) (hb : b < 2147483648) : nI a < nI b ↔ a < b := nI_ltI ha hb
theorem nI_eq_iff {a b : Nat} (ha : a < 2147483648) (hb : b < 2147483648) : nI a = nI b ↔ a = b := nI_eq ha hb
/-- a number within bounds: 1, else 0 -/
def W01 (x lo hi : Int32) : Int32 := if x < lo then 0 else if hi < x then 0 else 1
theorem ckZ_01 {v : Int32} (h : v = 0 ∨ v = 1) : ckZ v = some v := by
  unfold ckZ
  rw [if_pos h]
theorem W01_01 (x lo hi : Int32) : W01 x lo hi = 0 ∨ W01 x lo hi = 1 := by
  unfold W01
  split
  · exact Or.inl rfl
  · split
    · exact Or.inl rfl
    · exact Or.inr rfl
theorem within_W (x lo hi : Int32) : fX5_within x lo hi = some (W01 x lo hi) := ckZ_01 (W01_01 x lo hi)
theorem wide_lt (a b : Int32) : a.toInt64 < b.toInt64 ↔ a < b := by
  rw [Int64.lt_iff_toInt_lt, Int32.lt_iff_toInt_lt, Int32.toInt_toInt64, Int32.toInt_toInt64]
theorem in_W (x lo hi : Int32) : fX6_in x.toInt64 lo.toInt64 hi.toInt64 = some (W01 x lo hi) := by
  have e : (if x.toInt64 < lo.toInt64 then (0 : Int32) else if hi.toInt64 < x.toInt64 then 0 else 1) = W01 x lo hi := by
    unfold W01
    simp only [wide_lt]
  unfold fX6_in
  rw [e]
  exact ckZ_01 (W01_01 x lo hi)
theorem W01_yes {x : Int32} {lo hi : Nat} (hh : hi < 2147483648) (h : ¬ W01 x (nI lo) (nI hi) = 0) (hl : lo ≤ hi) : ∃ j, lo ≤ j ∧ j ≤ hi ∧ x = nI j := by
  unfold W01 at h
  split at h
  · exact absurd rfl h
  · split at h
    · exact absurd rfl h
    · rename_i h1 h2
      have h3 : ¬ x < 0 := fun q => h1 (by
        rw [Int32.lt_iff_toInt_lt] at q ⊢
        rw [nI_toInt (by omega)]
        have : (0 : Int32).toInt = 0 := rfl
        omega)
      obtain ⟨j, hj, rfl⟩ := nI_of h3
      refine ⟨j, ?_, ?_, rfl⟩
      · exact Nat.not_lt.mp fun q => h1 ((nI_ltI hj (by omega)).mpr q)
      · exact Nat.not_lt.mp fun q => h2 ((nI_ltI (by omega) hj).mpr q)
theorem W01_in {j lo hi : Nat} (hh : hi < 2147483648) (h1 : lo ≤ j) (h2 : j ≤ hi) : W01 (nI j) (nI lo) (nI hi) = 1 := by
  unfold W01
  rw [if_neg, if_neg]
  · rw [nI_ltI (by omega) (by omega)]; omega
  · rw [nI_ltI (by omega) (by omega)]; omega
/-! ===== the abstract state: 63 numbers, in the reference's order ===== -/
def Valid (a : Nat → Nat) : Prop := (1 ≤ a 60 ∧ a 60 ≤ 3) ∧ (1 ≤ a 61 ∧ a 61 ≤ 60) ∧ a 62 ≤ 500 ∧ (∀ k, k < 48 → a k ≤ 30) ∧ (∀ k, k < 3 → 1 ≤ a (48 + k) ∧ a (48 + k) ≤ 50) ∧ (∀ k, k < 9 → a (51 + k) ≤ 4) ∧ (∀ i j, i < 3 → j < 3 → (a 60 ≤ i ∨ a 60 ≤ j) → a (51 + (3 * i + j)) = 0)
def CF (z : Fo) (a : Nat → Nat) : Prop := Fo_many z = nI (a 60) ∧ Fo_depth z = nI (a 61) ∧ Fo_wanted z = nI (a 62) ∧ (∀ k, k < 3 → Fo_bodies z k = nI (a (48 + k))) ∧ (∀ k, k < 48 → Fo_backs z k = nI (a k)) ∧ (∀ k, k < 9 → Fo_weights z k = nI (a (51 + k)))
def RF (w : Nat → Int32) (a : Nat → Nat) : Prop := ∀ k, k < 63 → w k = nI (a k)
def upN (a : Nat → Nat) (p v : Nat) : Nat → Nat := fun k => if k = p then v else a k
theorem upN_s (a : Nat → Nat) (p v : Nat) : upN a p v p = v := if_pos rfl
theorem upN_n {a : Nat → Nat} {p v k : Nat} (h : k ≠ p) : upN a p v k = a k := if_neg h
theorem CF.back {z : Fo} {a : Nat → Nat} (h : CF z a) {p v : Nat} (hp : p < 48) : CF (Fo_set_backs z (upd (Fo_backs z) p (nI v))) (upN a p v) := by
  obtain ⟨h1, h2, h3, h4, h5, h6⟩ := h
  refine ⟨?_, ?_, ?_, fun k hk => ?_, fun k hk => ?_, fun k hk => ?_⟩
  · rw [upN_n (by omega)]; exact h1
  · rw [upN_n (by omega)]; exact h2
  · rw [upN_n (by omega)]; exact h3
  · rw [upN_n (by omega)]; exact h4 k hk
  · show upd (Fo_backs z) p (nI v) k = _
    unfold upd upN
    split
    · rfl
    · exact h5 k hk
  · rw [upN_n (by omega)]; exact h6 k hk
theorem CF.body {z : Fo} {a : Nat → Nat} (h : CF z a) {p v : Nat} (hp : p < 3) : CF (Fo_set_bodies z (upd (Fo_bodies z) p (nI v))) (upN a (48 + p) v) := by
  obtain ⟨h1, h2, h3, h4, h5, h6⟩ := h
  refine ⟨?_, ?_, ?_, fun k hk => ?_, fun k hk => ?_, fun k hk => ?_⟩
  · rw [upN_n (by omega)]; exact h1
  · rw [upN_n (by omega)]; exact h2
  · rw [upN_n (by omega)]; exact h3
  · show upd (Fo_bodies z) p (nI v) k = _
    unfold upd upN
    by_cases hk2 : k = p
    · rw [if_pos hk2, if_pos (by omega)]
    · rw [if_neg hk2, if_neg (by omega)]; exact h4 k hk
  · rw [upN_n (by omega)]; exact h5 k hk
  · rw [upN_n (by omega)]; exact h6 k hk
theorem CF.weight {z : Fo} {a : Nat → Nat} (h : CF z a) {p v : Nat} (hp : p < 9) : CF (Fo_set_weights z (upd (Fo_weights z) p (nI v))) (upN a (51 + p) v) := by
  obtain ⟨h1, h2, h3, h4, h5, h6⟩ := h
  refine ⟨?_, ?_, ?_, fun k hk => ?_, fun k hk => ?_, fun k hk => ?_⟩
  · rw [upN_n (by omega)]; exact h1
  · rw [upN_n (by omega)]; exact h2
  · rw [upN_n (by omega)]; exact h3
  · rw [upN_n (by omega)]; exact h4 k hk
  · rw [upN_n (by omega)]; exact h5 k hk
  · show upd (Fo_weights z) p (nI v) k = _
    unfold upd upN
    by_cases hk2 : k = p
    · rw [if_pos hk2, if_pos (by omega)]
    · rw [if_neg hk2, if_neg (by omega)]; exact h6 k hk
theorem CF.depth {z : Fo} {a : Nat → Nat} (h : CF z a) (v : Nat) : CF (Fo_set_depth z (nI v)) (upN a 61 v) := by
  obtain ⟨h1, h2, h3, h4, h5, h6⟩ := h
  refine ⟨?_, rfl, ?_, fun k hk => ?_, fun k hk => ?_, fun k hk => ?_⟩
  · rw [upN_n (by omega)]; exact h1
  · rw [upN_n (by omega)]; exact h3
  · rw [upN_n (by omega)]; exact h4 k hk
  · rw [upN_n (by omega)]; exact h5 k hk
  · rw [upN_n (by omega)]; exact h6 k hk
theorem CF.wanted {z : Fo} {a : Nat → Nat} (h : CF z a) (v : Nat) : CF (Fo_set_wanted z (nI v)) (upN a 62 v) := by
  obtain ⟨h1, h2, h3, h4, h5, h6⟩ := h
  refine ⟨?_, ?_, rfl, fun k hk => ?_, fun k hk => ?_, fun k hk => ?_⟩
  · rw [upN_n (by omega)]; exact h1
  · rw [upN_n (by omega)]; exact h2
  · rw [upN_n (by omega)]; exact h4 k hk
  · rw [upN_n (by omega)]; exact h5 k hk
  · rw [upN_n (by omega)]; exact h6 k hk
theorem RF.up {w : Nat → Int32} {a : Nat → Nat} (h : RF w a) (p v : Nat) : RF (upd w p (nI v)) (upN a p v) := by
  intro k hk
  unfold upd upN
  split
  · rfl
  · exact h k hk
theorem CF.ext {z : Fo} {a a' : Nat → Nat} (h : CF z a) (e : ∀ k, k < 63 → a' k = a k) : CF z a' := by
  obtain ⟨h1, h2, h3, h4, h5, h6⟩ := h
  exact ⟨by rw [e 60 (by omega)]; exact h1, by rw [e 61 (by omega)]; exact h2, by rw [e 62 (by omega)]; exact h3, fun k hk => by rw [e _ (by omega)]; exact h4 k hk, fun k hk => by rw [e _ (by omega)]; exact h5 k hk, fun k hk => by rw [e _ (by omega)]; exact h6 k hk⟩
theorem RF.ext {w : Nat → Int32} {a a' : Nat → Nat} (h : RF w a) (e : ∀ k, k < 63 → a' k = a k) : RF w a' := fun k hk => by rw [e k hk]; exact h k hk
theorem Valid.ext {a a' : Nat → Nat} (h : Valid a) (e : ∀ k, k < 63 → a' k = a k) : Valid a' := by
  obtain ⟨h1, h2, h3, h4, h5, h6, h7⟩ := h
  refine ⟨by rw [e 60 (by omega)]; exact h1, by rw [e 61 (by omega)]; exact h2, by rw [e 62 (by omega)]; exact h3, fun k hk => by rw [e _ (by omega)]; exact h4 k hk, fun k hk => by rw [e _ (by omega)]; exact h5 k hk, fun k hk => by rw [e _ (by omega)]; exact h6 k hk, fun i j hi hj hh => ?_⟩
  rw [e _ (by omega)]
  rw [e 60 (by omega)] at hh
  exact h7 i j hi hj hh
/-! ===== the relation ===== -/
def LR (li : Li) (mo : Mo) (n : Nat) (l : Nat → Nat) : Prop := n ≤ 16 ∧ Li_many li = nI n ∧ Mo_lined mo = nI n ∧ ∀ k, k < n → Li_places li k = nI (l k) ∧ Mo_line mo k = nI (l k)
def UR (pa : Pa) (mo : Mo) (m : Nat) (u : Nat → Nat → Nat) : Prop := m ≤ 8 ∧ Pa_many pa = nI m ∧ Mo_undos mo = nI m ∧ (∃ x, x < 8 ∧ Pa_next pa = nI x ∧ ∀ j, j < m → CF (Pa_ring pa ((x + 8 - m + j) % 8)) (u j)) ∧ ∀ j, j < m → Valid (u j) ∧ ∀ k, k < 63 → Mo_past mo (63 * j + k) = nI (u j k)
def IR (im : Im) (mo : Mo) (g : Nat → Nat → Nat) (b : Nat → Bool) : Prop := ∀ i, i < 2 → Im_kept im i = (if b i = true then 1 else 0) ∧ Mo_isKept mo i = (if b i = true then 1 else 0) ∧ (b i = true → Valid (g i) ∧ CF (Im_imgs im i) (g i) ∧ ∀ k, k < 63 → Mo_images mo (63 * i + k) = nI (g i k))
def ER (X : Ev → (Nat → Nat) → Prop) (ev : Ev) (a : Nat → Nat) : Prop := Ev_found ev = 0 ∨ (Ev_found ev = 1 ∧ X ev a)
def RelX (X : Ev → (Nat → Nat) → Prop) (z : Fo) (ev : Ev) (li : Li) (te : Te) (pa : Pa) (im : Im) (mo : Mo) : Prop := ∃ (a : Nat → Nat) (n : Nat) (l : Nat → Nat) (m : Nat) (u : Nat → Nat → Nat) (g : Nat → Nat → Nat) (b : Nat → Bool), Valid a ∧ CF z a ∧ RF (Mo_now mo) a ∧ LR li mo n l ∧ (∀ k, k < n → l k < a 60) ∧ UR pa mo m u ∧ IR im mo g b ∧ ER X ev a
