/-! ===== loops by an invariant ===== -/
theorem lp_inv {σ ρ : Type} {g : (σ → Option ρ) → σ → Option ρ} (J : Nat → σ → Prop) (e : Nat) (K : ρ → Prop) (hs : ∀ i s, i < e → J i s → ∃ s', J (i + 1) s' ∧ ∀ rec, g rec s = rec s') (hx : ∀ s, J e s → ∃ r, K r ∧ ∀ rec, g rec s = some r) : ∀ (n i : Nat) (s : σ), i ≤ e → e - i < n → J i s → ∃ r, lp g n s = some r ∧ K r := by
  intro n
  induction n with
  | zero => intro i s h1 h2; omega
  | succ n ih =>
    intro i s h1 h2 hJ
    by_cases h : i = e
    · subst h
      obtain ⟨r, hr, hg⟩ := hx s hJ
      exact ⟨r, hg _, hr⟩
    · obtain ⟨s', hJ', hg⟩ := hs i s (by omega) hJ
      obtain ⟨r, h3, h4⟩ := ih (i + 1) s' (by omega) (by omega) hJ'
      exact ⟨r, by show g (lp g n) s = some r; rw [hg]; exact h3, h4⟩
theorem lp_J {σ ρ : Type} {g : (σ → Option ρ) → σ → Option ρ} (J : Nat → σ → Prop) (e : Nat) (K : ρ → Prop) (he : e < 1000) {s : σ} (h0 : J 0 s) (hs : ∀ i s, i < e → J i s → ∃ s', J (i + 1) s' ∧ ∀ rec, g rec s = rec s') (hx : ∀ s, J e s → ∃ r, K r ∧ ∀ rec, g rec s = some r) : ∃ r, lp g 1000 s = some r ∧ K r := lp_inv J e K hs hx 1000 0 s (Nat.zero_le e) (by omega) h0
/-! ===== sides: sums, alike, mirrored ===== -/
def smN (f : Nat → Nat) : Nat → Nat
  | 0 => 0
  | n + 1 => smN f n + f n
def alkB (a : Nat → Nat) (l : Nat) : Nat → Bool
  | 0 => true
  | i + 1 => alkB a l i && decide (a (16 * l + i) = a (16 * l + 8 + i))
theorem Valid.bk {a : Nat → Nat} (h : Valid a) {k : Nat} (hk : k < 48) : a k ≤ 30 := h.2.2.2.1 k hk
theorem c_sumOfSide {z : Fo} {a : Nat → Nat} (hC : CF z a) {l s : Nat} (hl : l < 3) (hs : s < 2) : fX1_sumOfSide z (nI l) (nI s) = some (nI (smN (fun h => a (16 * l + 8 * s + h)) 8)) := by
  have h : lp (gX1_sumOfSide_5 z (nI l) (nI s)) 1000 (0, 0) = some (nI (smN (fun h => a (16 * l + 8 * s + h)) 8), nI 8) := by
    refine lp_k (fun i => (nI (smN (fun h => a (16 * l + 8 * s + h)) i), nI i)) 8 (by omega) ?_ ?_
    · intro i hi rec
      show (if nI 8 ≤ nI i then _ else (fX1_backOf z (nI l) (nI s) (nI i)).bind fun v2 => rec (nI (smN (fun h => a (16 * l + 8 * s + h)) i) + v2, nI i + 1)) = _
      rw [if_neg (nI_ge (a := i) (b := 8) (by omega) (by omega)), c_backOf z hl hs hi, Option.bind_some, hC.2.2.2.2.1 _ (by omega), nI_add, nI_1]
      rfl
    · intro rec
      show (if (8 : Int32) ≤ nI 8 then some (nI _, nI 8) else _) = _
      rw [if_pos (by decide)]
  unfold fX1_sumOfSide
  rw [h, Option.bind_some]
theorem r_sumOf {mo : Mo} {a : Nat → Nat} (hF : RF (Mo_now mo) a) {l s : Nat} (hl : l < 3) (hs : s < 2) : fX6_sumOf mo (nI l) (nI s) = some (nI (smN (fun h => a (16 * l + 8 * s + h)) 8)) := by
  have h : lp (gX6_sumOf_5 mo (nI l) (nI s)) 1000 (0, 0) = some (nI (smN (fun h => a (16 * l + 8 * s + h)) 8), nI 8) := by
    refine lp_k (fun i => (nI (smN (fun h => a (16 * l + 8 * s + h)) i), nI i)) 8 (by omega) ?_ ?_
    · intro i hi rec
      show (if nI 8 ≤ nI i then _ else (fX6_at (nI l) (nI s) (nI i)).bind fun v2 => (rdI (Mo_now mo) 63 v2).bind fun v3 => rec (nI (smN (fun h => a (16 * l + 8 * s + h)) i) + v3, nI i + 1)) = _
      rw [if_neg (nI_ge (a := i) (b := 8) (by omega) (by omega)), r_at, Option.bind_some, rdI_n (by omega) (by omega), Option.bind_some, hF _ (by omega), nI_add, nI_1]
      rfl
    · intro rec
      show (if (8 : Int32) ≤ nI 8 then some (nI _, nI 8) else _) = _
      rw [if_pos (by decide)]
  unfold fX6_sumOf
  rw [h, Option.bind_some]
theorem alkB_all {a : Nat → Nat} {l : Nat} : ∀ {n : Nat}, alkB a l n = true → ∀ h, h < n → a (16 * l + h) = a (16 * l + 8 + h)
  | 0, _, h, hh => by omega
  | n + 1, hb, h, hh => by
    unfold alkB at hb
    rw [Bool.and_eq_true, decide_eq_true_eq] at hb
    by_cases e : h = n
    · subst e; exact hb.2
    · exact alkB_all hb.1 h (by omega)
theorem alkB_no {a : Nat → Nat} {l : Nat} : ∀ {n : Nat}, alkB a l n = false → ∃ h, h < n ∧ alkB a l h = true ∧ ¬ a (16 * l + h) = a (16 * l + 8 + h)
  | 0, hb => by cases hb
  | n + 1, hb => by
    by_cases c : alkB a l n = true
    · refine ⟨n, by omega, c, fun q => ?_⟩
      unfold alkB at hb
      rw [c, decide_eq_true q] at hb
      cases hb
    · obtain ⟨h, h1, h2⟩ := alkB_no (Bool.not_eq_true _ ▸ c)
      exact ⟨h, by omega, h2⟩
theorem alkB_of {a : Nat → Nat} {l : Nat} : ∀ {n : Nat}, (∀ h, h < n → a (16 * l + h) = a (16 * l + 8 + h)) → alkB a l n = true
  | 0, _ => rfl
  | n + 1, hh => by
    unfold alkB
    rw [alkB_of (fun h hl => hh h (by omega)), decide_eq_true (hh n (by omega))]
    rfl
theorem c_likeSides {z : Fo} {a : Nat → Nat} (hV : Valid a) (hC : CF z a) {l : Nat} (hl : l < 3) : fX1_hasLikeSides z (nI l) = some (if alkB a l 8 = true then 1 else 0) := by
  have step : ∀ i, i < 8 → ∀ rec, gX1_hasLikeSides_2 z (nI l) rec (nI i) = (if a (16 * l + i) = a (16 * l + 8 + i) then rec (nI (i + 1)) else some 0) := by
    intro i hi rec
    show (if nI 8 ≤ nI i then _ else (fX1_backOf z (nI l) (nI 0) (nI i)).bind fun v2 => (fX1_backOf z (nI l) (nI 1) (nI i)).bind fun v3 => (if v2 = v3 then rec (nI i + 1) else ckZ 0)) = _
    rw [if_neg (nI_ge (a := i) (b := 8) (by omega) (by omega)), c_backOf z hl (by omega) hi, Option.bind_some, c_backOf z hl (by omega) hi, Option.bind_some, hC.2.2.2.2.1 _ (by omega), hC.2.2.2.2.1 _ (by omega), nI_1, ckZ_01 (Or.inl rfl)]
    have h1 := hV.bk (k := 16 * l + 8 * 0 + i) (by omega)
    have h2 := hV.bk (k := 16 * l + 8 * 1 + i) (by omega)
    by_cases e : a (16 * l + i) = a (16 * l + 8 + i)
    · rw [if_pos e, if_pos (by rw [show 16 * l + 8 * 0 + i = 16 * l + i by omega, e])]
    · rw [if_neg e, if_neg (fun q => e (by have := (nI_eq (by omega) (by omega)).mp q; rw [show 16 * l + 8 * 0 + i = 16 * l + i by omega] at this; exact this))]
  unfold fX1_hasLikeSides
  by_cases c : alkB a l 8 = true
  · rw [if_pos c]
    refine lp_k (fun i => nI i) 8 (by omega) (fun i hi rec => ?_) (fun rec => ?_)
    · rw [step i hi, if_pos (alkB_all c i hi)]
    · show (if (8 : Int32) ≤ nI 8 then ckZ 1 else _) = _
      rw [if_pos (by decide), ckZ_01 (Or.inr rfl)]
  · rw [if_neg c]
    obtain ⟨h, h1, h2, h3⟩ := alkB_no (Bool.not_eq_true _ ▸ c)
    refine lp_k (fun i => nI i) h (by omega) (fun i hi rec => ?_) (fun rec => ?_)
    · rw [step i (by omega), if_pos (alkB_all h2 i hi)]
    · rw [step h h1, if_neg h3]
theorem r_isAlike {mo : Mo} {a : Nat → Nat} (hV : Valid a) (hF : RF (Mo_now mo) a) {l : Nat} (hl : l < 3) : fX6_isAlike mo (nI l) = some (if alkB a l 8 = true then 1 else 0) := by
  have h : lp (gX6_isAlike_4 mo (nI l)) 1000 (1, 0) = some ((if alkB a l 8 = true then 1 else 0), nI 8) := by
    refine lp_k (fun i => ((if alkB a l i = true then 1 else 0), nI i)) 8 (by omega) ?_ ?_
    · intro i hi rec
      show (if nI 8 ≤ nI i then _ else ((if (if alkB a l i = true then (1 : Int32) else 0) = 0 then some (0 : Int32) else (fX6_at (nI l) (nI 0) (nI i)).bind fun v4 => (rdI (Mo_now mo) 63 v4).bind fun v5 => (fX6_at (nI l) (nI 1) (nI i)).bind fun v6 => (rdI (Mo_now mo) 63 v6).bind fun v7 => (if v5 = v7 then some (1 : Int32) else some 0))).bind fun v2 => rec (v2, nI i + 1)) = rec ((if alkB a l (i + 1) = true then 1 else 0), nI (i + 1))
      rw [if_neg (nI_ge (a := i) (b := 8) (by omega) (by omega)), nI_1]
      have h1 := hV.bk (k := 16 * l + 8 * 0 + i) (by omega)
      have h2 := hV.bk (k := 16 * l + 8 * 1 + i) (by omega)
      by_cases c : alkB a l i = true
      · rw [if_pos c, if_neg (by decide), r_at, Option.bind_some, rdI_n (by omega) (by omega), Option.bind_some, r_at, Option.bind_some, rdI_n (by omega) (by omega), Option.bind_some, hF _ (by omega), hF _ (by omega)]
        have e0 : alkB a l (i + 1) = decide (a (16 * l + i) = a (16 * l + 8 + i)) := by
          show (alkB a l i && _) = _
          rw [c, Bool.true_and]
        rw [e0]
        by_cases e : a (16 * l + i) = a (16 * l + 8 + i)
        · rw [if_pos (show nI (a (16 * l + 8 * 0 + i)) = nI (a (16 * l + 8 * 1 + i)) by rw [show 16 * l + 8 * 0 + i = 16 * l + i by omega, e]), Option.bind_some, if_pos (decide_eq_true e)]
        · rw [if_neg (show ¬ nI (a (16 * l + 8 * 0 + i)) = nI (a (16 * l + 8 * 1 + i)) from fun q => e (by have := (nI_eq (by omega) (by omega)).mp q; rw [show 16 * l + 8 * 0 + i = 16 * l + i by omega] at this; exact this)), Option.bind_some, if_neg (by rw [decide_eq_true_eq]; exact e)]
      · have e0 : alkB a l (i + 1) = false := by
          show (alkB a l i && _) = _
          rw [show alkB a l i = false from Bool.eq_false_iff.mpr c, Bool.false_and]
        rw [if_neg c, if_pos rfl, Option.bind_some, e0, if_neg (by decide)]
    · intro rec
      show (if (8 : Int32) ≤ nI 8 then some (_, nI 8) else _) = _
      rw [if_pos (by decide)]
  unfold fX6_isAlike
  rw [h, Option.bind_some]
  apply ckZ_01
  dsimp only
  split
  · exact Or.inr rfl
  · exact Or.inl rfl
theorem sim_letter (X : Ev → (Nat → Nat) → Prop) : Sim_letter (RelX X) := by
  intro z ev li te pa im mo x1 x2 hR
  have hR0 := hR
  obtain ⟨a, n, l, m, u, g, b, hV, hC, hF, hL, hLl, hU, hI, hE⟩ := hR
  have hN := hV.1
  by_cases c1 : W01 x1 (nI 0) (nI (a 60 - 1)) = 0
  · refine ⟨-1000000001, ?_, ?_, hR0⟩
    · unfold fX5_letter
      rw [c_hasLetter hV hC, Option.bind_some, if_pos c1]
    · unfold fX6_letter
      rw [r_isLetter hV hF, Option.bind_some, if_pos c1]
  obtain ⟨i, -, hi, rfl⟩ := W01_yes (by omega) c1 (by omega)
  by_cases d0 : x2 = 0
  · refine ⟨nI (a (48 + i)), ?_, ?_, hR0⟩
    · unfold fX5_letter
      rw [c_hasLetter hV hC, Option.bind_some, if_neg c1, if_pos d0, rdI_n (by omega) (by omega), Option.bind_some, hC.2.2.2.1 _ (by omega)]
    · unfold fX6_letter
      rw [r_isLetter hV hF, Option.bind_some, if_neg c1, if_pos d0, show (48 : Int32) = nI 48 from rfl, nI_add, rdI_n (by omega) (by omega), Option.bind_some, hF _ (by omega)]
  by_cases d1 : x2 = 1
  · refine ⟨(if (if alkB a i 8 = true then (1 : Int32) else 0) = 0 then 0 else 1), ?_, ?_, hR0⟩
    · unfold fX5_letter
      rw [c_hasLetter hV hC, Option.bind_some, if_neg c1, if_neg d0, if_pos d1, c_likeSides hV hC (by omega), Option.bind_some]
    · unfold fX6_letter
      rw [r_isLetter hV hF, Option.bind_some, if_neg c1, if_neg d0, if_pos d1, r_isAlike hV hF (by omega), Option.bind_some]
  by_cases d2 : x2 = 2
  · refine ⟨nI (smN (fun h => a (16 * i + 8 * 0 + h)) 8), ?_, ?_, hR0⟩
    · unfold fX5_letter
      rw [c_hasLetter hV hC, Option.bind_some, if_neg c1, if_neg d0, if_neg d1, if_pos d2, show (0 : Int32) = nI 0 from rfl, c_sumOfSide hC (by omega) (by omega), Option.bind_some]
    · unfold fX6_letter
      rw [r_isLetter hV hF, Option.bind_some, if_neg c1, if_neg d0, if_neg d1, if_pos d2, show (0 : Int32) = nI 0 from rfl, r_sumOf hF (by omega) (by omega), Option.bind_some]
  by_cases d3 : x2 = 3
  · refine ⟨nI (smN (fun h => a (16 * i + 8 * 1 + h)) 8), ?_, ?_, hR0⟩
    · unfold fX5_letter
      rw [c_hasLetter hV hC, Option.bind_some, if_neg c1, if_neg d0, if_neg d1, if_neg d2, if_pos d3, show (1 : Int32) = nI 1 from rfl, c_sumOfSide hC (by omega) (by omega), Option.bind_some]
    · unfold fX6_letter
      rw [r_isLetter hV hF, Option.bind_some, if_neg c1, if_neg d0, if_neg d1, if_neg d2, if_pos d3, show (1 : Int32) = nI 1 from rfl, r_sumOf hF (by omega) (by omega), Option.bind_some]
  · refine ⟨-1000000002, ?_, ?_, hR0⟩
    · unfold fX5_letter
      rw [c_hasLetter hV hC, Option.bind_some, if_neg c1, if_neg d0, if_neg d1, if_neg d2, if_neg d3]
    · unfold fX6_letter
      rw [r_isLetter hV hF, Option.bind_some, if_neg c1, if_neg d0, if_neg d1, if_neg d2, if_neg d3]
