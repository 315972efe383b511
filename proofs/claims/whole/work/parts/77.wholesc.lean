/-! ===== LAYER 2: the reference makes its spaces whole ===== -/
theorem s_abs {a : Nat → Nat} (hV : Valid a) {k : Nat} (hk : k < 6) (h : ¬ k % 3 < a 60) : sI a k = 0 := by
  have ho : opS (wt a) k := by
    by_cases h3 : k < 3
    · exact op_absR hV (by omega) h3
    · obtain ⟨j, rfl⟩ : ∃ j, k = 3 + j := ⟨k - 3, by omega⟩
      exact op_absL hV (by omega) (by omega)
  unfold sI
  rw [spS_y ho]
  rfl
noncomputable def fkI (a : Nat → Nat) (k : Nat) : Int := if k % 3 < a 60 then sI a k / (8 * bI a) else 0
theorem io_pres {n c : Nat} (hn : n ≤ 3) (hc : c < 2 * n) : io n c % 3 < n := by
  unfold io
  split <;> omega
theorem io_lt_iff {n c d : Nat} (hn : n ≤ 3) : io n c < io n d ↔ c < d := by
  unfold io
  split <;> split <;> omega
theorem io_sur {n k : Nat} (hn : n ≤ 3) (hk : k < 6) (h : k % 3 < n) : ∃ c, c < 2 * n ∧ io n c = k := by
  by_cases h3 : k < 3
  · exact ⟨k, by omega, by unfold io; rw [if_pos (by omega)]⟩
  · exact ⟨n + (k - 3), by omega, by unfold io; rw [if_neg (by omega)]; omega⟩
theorem fk_io {a : Nat → Nat} (hV : Valid a) {c : Nat} (hc : c < 2 * a 60) : fkI a (io (a 60) c) = flI a c := by
  unfold fkI flI
  rw [if_pos (io_pres hV.1.2 hc)]
theorem sum_io {f : Nat → Int} {n : Nat} (hn : 1 ≤ n ∧ n ≤ 3) (hz : ∀ k, k < 6 → ¬ k % 3 < n → f k = 0) : siN f 6 = siN (fun c => f (io n c)) (2 * n) := by
  have e : n = 1 ∨ n = 2 ∨ n = 3 := by omega
  rcases e with rfl | rfl | rfl
  · have h1 := hz 1 (by omega) (by omega)
    have h2 := hz 2 (by omega) (by omega)
    have h4 := hz 4 (by omega) (by omega)
    have h5 := hz 5 (by omega) (by omega)
    show 0 + f 0 + f 1 + f 2 + f 3 + f 4 + f 5 = 0 + f 0 + f 3
    omega
  · have h2 := hz 2 (by omega) (by omega)
    have h5 := hz 5 (by omega) (by omega)
    show 0 + f 0 + f 1 + f 2 + f 3 + f 4 + f 5 = 0 + f 0 + f 1 + f 3 + f 4
    omega
  · rfl
theorem siN_ext {f g : Nat → Int} : ∀ {n : Nat}, (∀ c, c < n → f c = g c) → siN f n = siN g n
  | 0, _ => rfl
  | n + 1, h => by
    show siN f n + f n = siN g n + g n
    rw [siN_ext (n := n) (fun c hc => h c (by omega)), h n (by omega)]
theorem sum_s {a : Nat → Nat} (hV : Valid a) : siN (sI a) 6 = s2I a := sum_io hV.1 (fun k hk h => s_abs hV hk h)
theorem sum_f {a : Nat → Nat} (hV : Valid a) : siN (fkI a) 6 = siN (flI a) (2 * a 60) := by
  rw [sum_io hV.1 (fun k hk h => by unfold fkI; rw [if_neg h])]
  exact siN_ext fun c hc => fk_io hV hc
theorem r_8b {o : Mo} {a : Nat → Nat} (hV : Valid a) (hS : Mo_whole o = (EL (wt a) (tw a) 6).2) : (8 : Int64) * Mo_whole o = Int64.ofInt (8 * bI a) := by
  rw [hS, (NS hV).2.2.1, show (8 : Int64) = Int64.ofInt 8 from rfl, jI_mul]
theorem r_whole1 {o : Mo} {a : Nat → Nat} (hV : Valid a) (hF : RF (Mo_now o) a) (hS : Sol o a) : ∃ (s : Int64 × Int64 × Int32 × Mo), lp gX6_layWholes_7 1000 (0, 0, 0, o) = some s ∧ ∃ W K, s.1 = Int64.ofInt (s2I a) ∧ s.2.1 = Int64.ofInt (-siN (flI a) (2 * a 60)) ∧ s.2.2.2 = Mo_set_isMore (Mo_set_wholes o W) K ∧ (∀ k, k < 6 → W k = Int64.ofInt (fkI a k)) ∧ ∀ k, k < 6 → K k = 0 := by
  obtain ⟨hb, hb2, hb3, hs⟩ := NS hV
  have h8 := r_8b hV hS.1
  refine lp_J (σ := Int64 × Int64 × Int32 × Mo) (ρ := Int64 × Int64 × Int32 × Mo) (fun k s => ∃ W K, s = (Int64.ofInt (siN (sI a) k), Int64.ofInt (-siN (fkI a) k), nI k, Mo_set_isMore (Mo_set_wholes o W) K) ∧ (∀ k', k' < k → W k' = Int64.ofInt (fkI a k')) ∧ ∀ k', k' < k → K k' = 0) 6 _ (by omega) ⟨Mo_wholes o, Mo_isMore o, rfl, fun c h => by omega, fun c h => by omega⟩ ?_ ?_
  · rintro k s hk ⟨W, K, rfl, h1, h2⟩
    have hsk := (hs k hk).2
    have hd := r_floor (x := sI a k) (y := 8 * bI a) (sK_of (by omega) (by omega)) (sK_of (by omega) (by omega)) (by omega)
    have hF' : RF (Mo_now (Mo_set_isMore (Mo_set_wholes o W) K)) a := hF
    refine ⟨(Int64.ofInt (siN (sI a) (k + 1)), Int64.ofInt (-siN (fkI a) (k + 1)), nI (k + 1), Mo_set_isMore (Mo_set_wholes o (vp_updL W k (Int64.ofInt (fkI a k)))) (upd K k 0)), ⟨vp_updL W k (Int64.ofInt (fkI a k)), upd K k 0, rfl, fun k' hk' => ?_, fun k' hk' => ?_⟩, fun rec => ?_⟩
    · by_cases e : k' = k
      · rw [e]; exact pk_uLs
      · rw [pk_uLn e]; exact h1 k' (by omega)
    · by_cases e : k' = k
      · rw [e]; exact pk_us
      · rw [pk_un e]; exact h2 k' (by omega)
    · show (if nI 6 ≤ nI k then _ else (fX6_isThere (Mo_set_isMore (Mo_set_wholes o W) K) (nI k)).bind fun v2 => (if v2 = (0 : Int32) then some (0 : Int64) else (rdJ (Mo_spaces o) 6 (nI k)).bind fun v5 => (fX6_floor v5 ((8 : Int64) * Mo_whole o)).bind fun v6 => some v6).bind fun v3 => (wrJ W 6 (nI k) v3).bind fun v7 => (wrZ K 6 (nI k) 0).bind fun v8 => (rdJ (Mo_spaces o) 6 (nI k)).bind fun v9 => (rdJ v7 6 (nI k)).bind fun v10 => rec (Int64.ofInt (siN (sI a) k) + v9, Int64.ofInt (-siN (fkI a) k) - v10, nI k + 1, Mo_set_isMore (Mo_set_wholes o v7) v8)) = rec (Int64.ofInt (siN (sI a) k + sI a k), Int64.ofInt (-(siN (fkI a) k + fkI a k)), nI (k + 1), Mo_set_isMore (Mo_set_wholes o (vp_updL W k (Int64.ofInt (fkI a k)))) (upd K k 0))
      have e3 : (if thr a k = (0 : Int32) then some (0 : Int64) else (some (Int64.ofInt (sI a k))).bind fun v5 => (fX6_floor v5 ((8 : Int64) * Mo_whole o)).bind fun v6 => some v6) = some (Int64.ofInt (fkI a k)) := by
        unfold thr fkI
        by_cases e : k % 3 < a 60
        · rw [if_pos e, if_neg (by decide), if_pos e, Option.bind_some, h8, hd, Option.bind_some]
        · rw [if_neg e, if_pos rfl, if_neg e]; rfl
      rw [if_neg (nI_ge hk (by omega)), r_isThere hV hF' hk, Option.bind_some, rdJ_n hk (by omega), (hS.2 k hk).2, (hs k hk).1, e3, Option.bind_some, wrJ_n hk (by omega), Option.bind_some, wrZ_n hk (by omega) (Or.inl rfl), Option.bind_some, Option.bind_some, rdJ_n hk (by omega), Option.bind_some, pk_uLs, jI_add, jI_sub, nI_1, show -siN (fkI a) k - fkI a k = -(siN (fkI a) k + fkI a k) from by omega]
  · rintro s ⟨W, K, rfl, h1, h2⟩
    rw [sum_s hV, sum_f hV]
    exact ⟨(Int64.ofInt (s2I a), Int64.ofInt (-siN (flI a) (2 * a 60)), nI 6, Mo_set_isMore (Mo_set_wholes o W) K), ⟨W, K, rfl, rfl, rfl, h1, h2⟩, fun rec => if_pos (Int32.le_refl _)⟩
theorem r_restOf {o : Mo} {a : Nat → Nat} (hV : Valid a) (hS : Sol o a) {c : Nat} (hc : c < 2 * a 60) : fX6_restOf o (nI (io (a 60) c)) = some (Int64.ofInt (rsI a c)) := by
  have hk := io_lt hV.1.2 hc
  obtain ⟨hb, hb2, hb3, hs⟩ := NS hV
  have hsk := (hs _ hk).2
  have hd := r_floor (x := sI a (io (a 60) c)) (y := 8 * bI a) (sK_of (by omega) (by omega)) (sK_of (by omega) (by omega)) (by omega)
  unfold fX6_restOf
  rw [rdJ_n hk (by omega), Option.bind_some, Option.bind_some, r_8b hV hS.1, (hS.2 _ hk).2, (hs _ hk).1, hd, Option.bind_some, hS.1, hb3, show (8 : Int64) = Int64.ofInt 8 from rfl, jI_mul, jI_mul, jI_sub]
  unfold rsI
  rw [Int.emod_def]
  congr 3
  grind
theorem r_pick {o : Mo} {a : Nat → Nat} (hV : Valid a) (hF : RF (Mo_now o) a) (hS : Sol o a) {x y : Int64} {i : Nat} (hi : i < 2 * a 60) (hK : ∀ c, c < 2 * a 60 → Mo_isMore o (io (a 60) c) = bZ (pkS a i c)) : ∃ (s : Int32 × Int32), lp (gX6_layWholes_126 o x y) 1000 (-1, 0) = some s ∧ s.1 = nI (io (a 60) (nxt a i)) := by
  have hN := hV.1
  obtain ⟨hb, hb2, hb3, hs⟩ := NS hV
  refine lp_J (σ := Int32 × Int32) (ρ := Int32 × Int32) (fun k s => (s = (-1, nI k) ∧ ∀ c, c < 2 * a 60 → io (a 60) c < k → pkS a i c = true) ∨ (∃ b, b < 2 * a 60 ∧ io (a 60) b < k ∧ s = (nI (io (a 60) b), nI k) ∧ pkS a i b = false ∧ ∀ c, c < 2 * a 60 → io (a 60) c < k → pkS a i c = false → rsI a c ≤ rsI a b ∧ (c < b → rsI a c < rsI a b))) 6 _ (by omega) (Or.inl ⟨rfl, fun c hc h => by omega⟩) ?_ ?_
  · intro k s hk hJ
    by_cases hp : k % 3 < a 60
    · obtain ⟨c0, hc0, e0⟩ := io_sur hN.2 hk hp
      have hin : ∀ c, c < 2 * a 60 → io (a 60) c < k + 1 → c = c0 ∨ io (a 60) c < k := fun c hc h => by
        by_cases e : c = c0
        · exact Or.inl e
        · have := io_inj (n := a 60) hN.2 e
          exact Or.inr (by omega)
      have hmore := hK c0 hc0
      rw [e0] at hmore
      have hpre : ∀ (u : Int32) (rec : Int32 × Int32 → Option (Int32 × Int32)), gX6_layWholes_126 o x y rec (u, nI k) = (((if (if bZ (pkS a i c0) = (0 : Int32) then (1 : Int32) else 0) = (0 : Int32) then some u else (if u < (0 : Int32) then some (nI k) else (fX6_restOf o (nI k)).bind fun v10 => (fX6_restOf o u).bind fun v11 => (if v10 ≤ v11 then some u else some (nI k)))) : Option Int32).bind fun v7 => rec (v7, nI (k + 1))) := fun u rec => by
        show (if nI 6 ≤ nI k then _ else (fX6_isThere o (nI k)).bind fun v2 => ((if v2 = (0 : Int32) then some (0 : Int32) else (rdI (Mo_isMore o) 6 (nI k)).bind fun v5 => (if v5 = (0 : Int32) then some (1 : Int32) else some (0 : Int32)))).bind fun v3 => ((if v3 = (0 : Int32) then some u else (if u < (0 : Int32) then some (nI k) else (fX6_restOf o (nI k)).bind fun v10 => (fX6_restOf o u).bind fun v11 => (if v10 ≤ v11 then some u else some (nI k))))).bind fun v7 => rec (v7, nI k + 1)) = _
        rw [if_neg (nI_ge hk (by omega)), r_isThere hV hF hk, Option.bind_some]
        unfold thr
        rw [if_pos hp, if_neg (by decide), rdI_n hk (by omega), Option.bind_some, hmore, nI_1]
        cases pkS a i c0 <;> rfl
      by_cases hpk : pkS a i c0 = true
      · refine ⟨(s.1, nI (k + 1)), ?_, fun rec => ?_⟩
        · rcases hJ with ⟨rfl, h⟩ | ⟨b, hb', hbb, rfl, hbp, h⟩
          · exact Or.inl ⟨rfl, fun c hc hlt => (hin c hc hlt).elim (fun e => by rw [e]; exact hpk) (h c hc)⟩
          · refine Or.inr ⟨b, hb', by omega, rfl, hbp, fun c hc hlt hcp => ?_⟩
            rcases hin c hc hlt with e | e
            · rw [e, hpk] at hcp; exact absurd hcp (by decide)
            · exact h c hc e hcp
        · have es : s = (s.1, nI k) := by
            rcases hJ with ⟨rfl, h⟩ | ⟨b, hb', hbb, rfl, hbp, h⟩ <;> rfl
          rw [es, hpre, hpk]
          rfl
      · rw [Bool.not_eq_true] at hpk
        rcases hJ with ⟨rfl, h⟩ | ⟨b, hb', hbb, rfl, hbp, h⟩
        · refine ⟨(nI (io (a 60) c0), nI (k + 1)), Or.inr ⟨c0, hc0, by omega, rfl, hpk, fun c hc hlt hcp => ?_⟩, fun rec => ?_⟩
          · rcases hin c hc hlt with e | e
            · rw [e]; exact ⟨Int.le_refl _, fun q => absurd q (Nat.lt_irrefl _)⟩
            · have := h c hc e
              rw [hcp] at this
              exact absurd this (by decide)
          · rw [hpre, hpk, e0]
            rfl
        · have hbk : io (a 60) b < 6 := io_lt hN.2 hb'
          have r1 := rs_b hV c0
          have r2 := rs_b hV b
          have hr1 := r_restOf hV hS hc0
          rw [e0] at hr1
          by_cases hle : rsI a c0 ≤ rsI a b
          · refine ⟨(nI (io (a 60) b), nI (k + 1)), Or.inr ⟨b, hb', by omega, rfl, hbp, fun c hc hlt hcp => ?_⟩, fun rec => ?_⟩
            · rcases hin c hc hlt with e | e
              · rw [e]
                exact ⟨hle, fun q => absurd ((io_lt_iff hN.2).mpr q) (by omega)⟩
              · exact h c hc e hcp
            · rw [hpre, hpk, if_neg (by decide), if_neg (nI_pos (by omega)), hr1, Option.bind_some, r_restOf hV hS hb', Option.bind_some, if_pos ((jI_le (sJ_of (by omega) (by omega)) (sJ_of (by omega) (by omega))).mpr hle), Option.bind_some]
          · refine ⟨(nI (io (a 60) c0), nI (k + 1)), Or.inr ⟨c0, hc0, by omega, rfl, hpk, fun c hc hlt hcp => ?_⟩, fun rec => ?_⟩
            · rcases hin c hc hlt with e | e
              · rw [e]; exact ⟨Int.le_refl _, fun q => absurd q (Nat.lt_irrefl _)⟩
              · have := (h c hc e hcp).1
                exact ⟨by omega, fun _ => by omega⟩
            · rw [hpre, hpk, if_neg (by decide), if_neg (nI_pos (by omega)), hr1, Option.bind_some, r_restOf hV hS hb', Option.bind_some, if_neg (by rw [jI_le (sJ_of (by omega) (by omega)) (sJ_of (by omega) (by omega))]; exact hle), Option.bind_some, e0]
    · have hno : ∀ c, c < 2 * a 60 → io (a 60) c < k + 1 → io (a 60) c < k := fun c hc h => by
        by_cases e : io (a 60) c = k
        · have := io_pres hN.2 hc
          rw [e] at this
          exact absurd this hp
        · omega
      have hpre : ∀ (u : Int32) (rec : Int32 × Int32 → Option (Int32 × Int32)), gX6_layWholes_126 o x y rec (u, nI k) = rec (u, nI (k + 1)) := fun u rec => by
        show (if nI 6 ≤ nI k then _ else (fX6_isThere o (nI k)).bind fun v2 => ((if v2 = (0 : Int32) then some (0 : Int32) else _)).bind fun v3 => ((if v3 = (0 : Int32) then some u else _)).bind fun v7 => rec (v7, nI k + 1)) = _
        rw [if_neg (nI_ge hk (by omega)), r_isThere hV hF hk, Option.bind_some]
        unfold thr
        rw [if_neg hp, if_pos rfl, Option.bind_some, if_pos rfl, Option.bind_some, nI_1]
      rcases hJ with ⟨rfl, h⟩ | ⟨b, hb', hbb, rfl, hbp, h⟩
      · exact ⟨(-1, nI (k + 1)), Or.inl ⟨rfl, fun c hc hlt => h c hc (hno c hc hlt)⟩, fun rec => hpre _ rec⟩
      · exact ⟨(nI (io (a 60) b), nI (k + 1)), Or.inr ⟨b, hb', by omega, rfl, hbp, fun c hc hlt hcp => h c hc (hno c hc hlt) hcp⟩, fun rec => hpre _ rec⟩
  · intro s hJ
    obtain ⟨n1, n2, n3⟩ := nxt_spec hV hi
    rcases hJ with ⟨rfl, h⟩ | ⟨b, hb', hbb, rfl, hbp, h⟩
    · have := h (nxt a i) n1 (io_lt hN.2 n1)
      rw [n2] at this
      exact absurd this (by decide)
    · have q1 := h (nxt a i) n1 (io_lt hN.2 n1) n2
      have q2 := n3 b hb' hbp
      have e : b = nxt a i := by
        by_cases e1 : b < nxt a i
        · have := q2.2 e1; omega
        · by_cases e2 : nxt a i < b
          · have := q1.2 e2; omega
          · omega
      exact ⟨(nI (io (a 60) b), nI 6), by rw [e], fun rec => if_pos (Int32.le_refl _)⟩
theorem r_layWholes {mo : Mo} {a : Nat → Nat} (hV : Valid a) (hF : RF (Mo_now mo) a) (hS : Sol mo a) : ∃ mo', fX6_layWholes mo = some mo' ∧ Same mo mo' ∧ Sol mo' a ∧ ∀ c, c < 2 * a 60 → Mo_wholes mo' (io (a 60) c) = whS a c := by
  have hN := hV.1
  obtain ⟨hb, hb2, hb3, hs⟩ := NS hV
  have hl := lf_b hV
  have hs2 := s2_b hV
  obtain ⟨s, e1, W, K, e2, e3, e4, e5, e6⟩ := r_whole1 hV hF hS
  have hfd := r_floor (x := 2 * s2I a + 8 * bI a) (y := 2 * (8 * bI a)) (sK_of (by omega) (by omega)) (sK_of (by omega) (by omega)) (by omega)
  have main : ∃ (t : Int64 × Int32 × Mo), lp (gX6_layWholes_114 (Int64.ofInt (s2I a))) 1000 (Int64.ofInt (lfI a), s.2.2.1, Mo_set_isMore (Mo_set_wholes mo W) K) = some t ∧ ∃ W' K', t.2.2 = Mo_set_isMore (Mo_set_wholes mo W') K' ∧ ∀ c, c < 2 * a 60 → W' (io (a 60) c) = whS a c := by
    refine lp_J (σ := Int64 × Int32 × Mo) (ρ := Int64 × Int32 × Mo) (fun i t => ∃ x W' K', t = (Int64.ofInt (lfI a - (i : Int)), x, Mo_set_isMore (Mo_set_wholes mo W') K') ∧ (∀ c, c < 2 * a 60 → W' (io (a 60) c) = Int64.ofInt (flI a c + (if pkS a i c = true then 1 else 0))) ∧ ∀ c, c < 2 * a 60 → K' (io (a 60) c) = bZ (pkS a i c)) (lfI a).toNat _ (by omega) ⟨s.2.2.1, W, K, ?_, fun c hc => ?_, fun c hc => ?_⟩ ?_ ?_
    · rw [show lfI a - ((0 : Nat) : Int) = lfI a from by omega]
    · rw [e5 _ (io_lt hN.2 hc), fk_io hV hc]
      show _ = Int64.ofInt (flI a c + 0)
      rw [Int.add_zero]
    · exact e6 _ (io_lt hN.2 hc)
    · rintro i t hi ⟨x, W1, K1, rfl, h1, h2⟩
      have hi2 : i < 2 * a 60 := by omega
      obtain ⟨n1, n2, _⟩ := nxt_spec hV hi2
      have nk := io_lt hN.2 n1
      obtain ⟨q, p1, p2⟩ := r_pick (o := Mo_set_isMore (Mo_set_wholes mo W1) K1) hV hF hS (x := Int64.ofInt (s2I a)) (y := Int64.ofInt (lfI a - (i : Int))) hi2 h2
      refine ⟨(Int64.ofInt (lfI a - ((i + 1 : Nat) : Int)), nI (io (a 60) (nxt a i)), Mo_set_isMore (Mo_set_wholes mo (vp_updL W1 (io (a 60) (nxt a i)) (W1 (io (a 60) (nxt a i)) + 1))) (upd K1 (io (a 60) (nxt a i)) 1)), ⟨nI (io (a 60) (nxt a i)), vp_updL W1 (io (a 60) (nxt a i)) (W1 (io (a 60) (nxt a i)) + 1), upd K1 (io (a 60) (nxt a i)) 1, rfl, fun c hc => ?_, fun c hc => ?_⟩, fun rec => ?_⟩
      · show _ = Int64.ofInt (flI a c + (if (if c = nxt a i then true else pkS a i c) = true then 1 else 0))
        by_cases e : c = nxt a i
        · rw [e, pk_uLs, if_pos rfl, if_pos rfl, h1 _ n1, n2, if_neg (by decide), show (1 : Int64) = Int64.ofInt 1 from rfl, jI_add, Int.add_zero]
        · rw [pk_uLn (io_inj hN.2 e), if_neg e, h1 c hc]
      · show _ = bZ (if c = nxt a i then true else pkS a i c)
        by_cases e : c = nxt a i
        · rw [e, pk_us, if_pos rfl]; rfl
        · rw [pk_un (io_inj hN.2 e), if_neg e, h2 c hc]
      · show (if Int64.ofInt (lfI a - (i : Int)) ≤ (0 : Int64) then _ else (lp (gX6_layWholes_126 (Mo_set_isMore (Mo_set_wholes mo W1) K1) (Int64.ofInt (s2I a)) (Int64.ofInt (lfI a - (i : Int)))) 1000 (-1, 0)).bind fun v2 => (wrZ K1 6 v2.1 1).bind fun v3 => (rdJ W1 6 v2.1).bind fun v4 => (wrJ W1 6 v2.1 (v4 + 1)).bind fun v5 => rec (Int64.ofInt (lfI a - (i : Int)) - 1, v2.1, Mo_set_isMore (Mo_set_wholes mo v5) v3)) = _
        rw [if_neg (by rw [jI_0, jI_le (sJ_of (by omega) (by omega)) sJ_0]; omega), p1, Option.bind_some, p2, wrZ_n nk (by omega) (Or.inr rfl), Option.bind_some, rdJ_n nk (by omega), Option.bind_some, wrJ_n nk (by omega), Option.bind_some, show (1 : Int64) = Int64.ofInt 1 from rfl, jI_sub, show lfI a - (i : Int) - 1 = lfI a - ((i + 1 : Nat) : Int) from by omega]
    · rintro t ⟨x, W1, K1, rfl, h1, h2⟩
      refine ⟨(Int64.ofInt (lfI a - ((lfI a).toNat : Int)), x, Mo_set_isMore (Mo_set_wholes mo W1) K1), ⟨W1, K1, rfl, h1⟩, fun rec => ?_⟩
      show (if Int64.ofInt (lfI a - ((lfI a).toNat : Int)) ≤ (0 : Int64) then _ else _) = _
      rw [if_pos (by rw [jI_0, jI_le (sJ_of (by omega) (by omega)) sJ_0]; omega)]
  obtain ⟨t, g1, W', K', g2, g3⟩ := main
  refine ⟨t.2.2, ?_, ?_, ?_, ?_⟩
  · unfold fX6_layWholes
    have h16 : (16 : Int64) * Mo_whole mo = Int64.ofInt (2 * (8 * bI a)) := by
      rw [hS.1, hb3, show (16 : Int64) = Int64.ofInt 16 from rfl, jI_mul]
      congr 1
      omega
    rw [e1, Option.bind_some, e2, e3, e4]
    show (fX6_floor (2 * Int64.ofInt (s2I a) + 8 * Mo_whole mo) (16 * Mo_whole mo)).bind _ = _
    rw [r_8b hV hS.1, h16, show (2 : Int64) = Int64.ofInt 2 from rfl, jI_mul, jI_add, hfd, Option.bind_some, jI_add, show -siN (flI a) (2 * a 60) + (2 * s2I a + 8 * bI a) / (2 * (8 * bI a)) = lfI a from by unfold lfI; omega, g1, Option.bind_some]
  · rw [g2]
    exact ⟨rfl, rfl, rfl, rfl, rfl, rfl, rfl⟩
  · rw [g2]
    exact hS
  · rw [g2]
    exact g3
