/-! ===== place, keep, goBack, undo, letter ===== -/
theorem sim_place (X : Ev → (Nat → Nat) → Prop) : Sim_place (RelX X) := by
  intro z ev li te pa im mo x1 hR
  have hR0 := hR
  obtain ⟨a, n, l, m, u, g, b, hV, hC, hF, hL, hLl, hU, hI, hE⟩ := hR
  obtain ⟨hn, hl1, hl2, hl3⟩ := hL
  by_cases c1 : (0 : Int32) ≤ x1
  · obtain ⟨j, hj, rfl⟩ := nI_of (x := x1) (fun q => by
      rw [Int32.le_iff_toInt_le] at c1
      rw [Int32.lt_iff_toInt_lt] at q
      omega)
    by_cases c2 : j < n
    · refine ⟨nI (l j), ?_, ?_, hR0⟩
      · unfold fX5_place fX2_letterAt
        rw [if_pos c1, hl1, show (1 : Int32) = nI 1 from rfl, pk_sub (by omega), show (0 : Int32) = nI 0 from rfl, within_W, Option.bind_some, W01_in (by omega) (by omega) (by omega), if_neg (by decide), rdI_n (by omega) (by omega), Option.bind_some, Option.bind_some, Option.bind_some, Option.bind_some, (hl3 j c2).1]
      · unfold fX6_place
        rw [if_pos c1, hl2, if_neg (nI_ge c2 (by omega)), rdI_n (by omega) (by omega), Option.bind_some, Option.bind_some, (hl3 j c2).2]
    · have e : W01 (nI j) 0 (nI n - 1) = 0 := by
        unfold W01
        rw [if_neg (nI_pos hj), if_pos]
        rw [Int32.lt_iff_toInt_lt, nI_toInt hj, show (1 : Int32) = nI 1 from rfl, pk_sub_toInt (by omega) (by omega)]
        omega
      refine ⟨-1, ?_, ?_, hR0⟩
      · unfold fX5_place fX2_letterAt
        rw [if_pos c1, hl1, within_W, Option.bind_some, e, if_pos rfl, Option.bind_some, Option.bind_some, Option.bind_some]
      · unfold fX6_place
        rw [if_pos c1, hl2, if_pos (nI_le (by omega) (by omega)), Option.bind_some]
  · refine ⟨-1000000002, ?_, ?_, hR0⟩
    · unfold fX5_place
      rw [if_neg c1, Option.bind_some]
    · unfold fX6_place
      rw [if_neg c1, Option.bind_some]
theorem r_keep1 (o : Mo) {t : Nat} (ht : t < 2) : lp (gX6_keep_15 (nI t)) 1000 (0, o) = some (nI 63, Mo_set_images o (fun q => if 63 * t ≤ q ∧ q < 63 * t + 63 then Mo_now o (q - 63 * t) else Mo_images o q)) := by
  have h0 : ((0 : Int32), o) = (nI 0, Mo_set_images o (fun q => if 63 * t ≤ q ∧ q < 63 * t + 0 then Mo_now o (q - 63 * t) else Mo_images o q)) := by
    have e : (fun q => if 63 * t ≤ q ∧ q < 63 * t + 0 then Mo_now o (q - 63 * t) else Mo_images o q) = Mo_images o := funext fun q => if_neg (by omega)
    rw [e]
    rfl
  rw [h0]
  refine lp_k (fun i => (nI i, Mo_set_images o (fun q => if 63 * t ≤ q ∧ q < 63 * t + i then Mo_now o (q - 63 * t) else Mo_images o q))) 63 (by omega) ?_ ?_
  · intro i hi rec
    show (if nI 63 ≤ nI i then _ else (rdI (Mo_now o) 63 (nI i)).bind fun v2 => (wrI (fun q => if 63 * t ≤ q ∧ q < 63 * t + i then Mo_now o (q - 63 * t) else Mo_images o q) 126 (nI 63 * nI t + nI i) v2).bind fun v3 => rec (nI i + 1, Mo_set_images o v3)) = _
    rw [if_neg (nI_ge (a := i) (b := 63) (by omega) (by omega)), rdI_n (by omega) (by omega), Option.bind_some, nI_mul, nI_add, wrI_n (by omega) (by omega), Option.bind_some, nI_1]
    show rec (nI (i + 1), Mo_set_images o _) = rec (nI (i + 1), Mo_set_images o _)
    congr 2
    congr 1
    funext q
    unfold upd
    by_cases h1 : q = 63 * t + i
    · rw [if_pos h1, if_pos (by omega)]
      congr 1
      omega
    · rw [if_neg h1]
      dsimp only
      by_cases h2 : 63 * t ≤ q ∧ q < 63 * t + i
      · rw [if_pos h2, if_pos (by omega)]
      · rw [if_neg h2, if_neg (by omega)]
  · intro rec
    show (if (63 : Int32) ≤ nI 63 then some (nI 63, Mo_set_images o _) else _) = _
    rw [if_pos (by decide)]
theorem mo_kk (o : Mo) (A : Nat → Int32) (B : Nat → Int32) (y : Int32) : Mo_now (Mo_set_images o A) = Mo_now o ∧ Mo_isKept (Mo_set_images o A) = Mo_isKept o := ⟨rfl, rfl⟩
theorem sim_keep (X : Ev → (Nat → Nat) → Prop) : Sim_keep (RelX X) := by
  intro z ev li te pa im mo x1 hR
  have hR0 := hR
  obtain ⟨a, n, l, m, u, g, b, hV, hC, hF, hL, hLl, hU, hI, hE⟩ := hR
  by_cases c1 : W01 x1 (nI 0) (nI 1) = 0
  · refine ⟨-1000000001, pa, im, mo, ?_, ?_, hR0⟩
    · unfold fX5_keep
      rw [c_isImage, Option.bind_some, if_pos c1]
    · unfold fX6_keep
      rw [r_in (l := 0) (h := 1) 0 1 rfl rfl, Option.bind_some, if_pos c1]
  obtain ⟨i, -, hi, rfl⟩ := W01_yes (by omega) c1 (by omega)
  obtain ⟨z', f1, f2⟩ := take_ok (Im_imgs im i) hC
  obtain ⟨hm, u1, u2, ⟨x, hx, u3, u4⟩, u5⟩ := hU
  refine ⟨nI (a 60), Pa_set_next (Pa_set_many pa 0) (Pa_next pa), Im_set_kept (Im_set_imgs im (up2 (Im_imgs im) i z')) (upd (Im_kept im) i 1), Mo_set_undos (Mo_set_isKept (Mo_set_images mo (fun q => if 63 * i ≤ q ∧ q < 63 * i + 63 then Mo_now mo (q - 63 * i) else Mo_images mo q)) (upd (Mo_isKept mo) i 1)) 0, ?_, ?_, a, n, l, 0, u, (fun k => if k = i then a else g k), (fun k => if k = i then true else b k), hV, hC, hF, hL, hLl, ⟨by omega, rfl, rfl, ⟨x, hx, u3, fun j hj => by omega⟩, fun j hj => by omega⟩, fun k hk => ?_, hE⟩
  · unfold fX5_keep fX3_forget
    rw [c_isImage, Option.bind_some, if_neg c1, rdX_n (by omega) (by omega), Option.bind_some, f1, Option.bind_some, wrZ_n (by omega) (by omega) (Or.inr rfl), Option.bind_some, Option.bind_some, hC.1]
  · unfold fX6_keep
    rw [r_in (l := 0) (h := 1) 0 1 rfl rfl, Option.bind_some, if_neg c1, r_keep1 _ (by omega), Option.bind_some, wrZ_n (by omega) (by omega) (Or.inr rfl), Option.bind_some, show (60 : Int32) = nI 60 from rfl, rdI_n (by omega) (by omega), Option.bind_some, ← hF 60 (by omega)]
  · by_cases h : k = i
    · subst h
      refine ⟨?_, ?_, fun _ => ⟨?_, ?_, fun q hq => ?_⟩⟩
      · show upd (Im_kept im) k 1 k = (if (if k = k then true else b k) = true then 1 else 0)
        rw [if_pos rfl, if_pos rfl]
        exact if_pos rfl
      · show upd (Mo_isKept mo) k 1 k = (if (if k = k then true else b k) = true then 1 else 0)
        rw [if_pos rfl, if_pos rfl]
        exact if_pos rfl
      · show Valid (if k = k then a else g k)
        rw [if_pos rfl]
        exact hV
      · show CF (up2 (Im_imgs im) k z' k) (if k = k then a else g k)
        rw [if_pos rfl, up2_s]
        exact f2
      · show (if 63 * k ≤ 63 * k + q ∧ 63 * k + q < 63 * k + 63 then Mo_now mo (63 * k + q - 63 * k) else Mo_images mo (63 * k + q)) = nI ((if k = k then a else g k) q)
        rw [if_pos rfl, if_pos (by omega), Nat.add_sub_cancel_left]
        exact hF q hq
    · obtain ⟨k1, k2, k3⟩ := hI k hk
      refine ⟨?_, ?_, fun hb => ?_⟩
      · show upd (Im_kept im) i 1 k = (if (if k = i then true else b k) = true then 1 else 0)
        rw [if_neg h]
        exact (if_neg h).trans k1
      · show upd (Mo_isKept mo) i 1 k = (if (if k = i then true else b k) = true then 1 else 0)
        rw [if_neg h]
        exact (if_neg h).trans k2
      · have hb : (if k = i then true else b k) = true := hb
        rw [if_neg h] at hb
        show Valid (if k = i then a else g k) ∧ CF (up2 (Im_imgs im) i z' k) (if k = i then a else g k) ∧ ∀ q, q < 63 → (if 63 * i ≤ 63 * k + q ∧ 63 * k + q < 63 * i + 63 then Mo_now mo (63 * k + q - 63 * i) else Mo_images mo (63 * k + q)) = nI ((if k = i then a else g k) q)
        rw [if_neg h, up2_n h]
        refine ⟨(k3 hb).1, (k3 hb).2.1, fun q hq => ?_⟩
        rw [if_neg (by omega)]
        exact (k3 hb).2.2 q hq
theorem r_goBack1 (o : Mo) {t : Nat} (ht : t < 2) : lp (gX6_goBack_27 (nI t)) 1000 (0, o) = some (nI 63, Mo_set_now o (fun q => if q < 63 then Mo_images o (63 * t + q) else Mo_now o q)) := by
  have h0 : ((0 : Int32), o) = (nI 0, Mo_set_now o (fun q => if q < 0 then Mo_images o (63 * t + q) else Mo_now o q)) := by rw [fill_0 (fun q => Mo_images o (63 * t + q))]; rfl
  rw [h0]
  refine lp_k (fun i => (nI i, Mo_set_now o (fun q => if q < i then Mo_images o (63 * t + q) else Mo_now o q))) 63 (by omega) ?_ ?_
  · intro i hi rec
    show (if nI 63 ≤ nI i then _ else (rdI (Mo_images o) 126 (nI 63 * nI t + nI i)).bind fun v2 => (wrI (fun q => if q < i then Mo_images o (63 * t + q) else Mo_now o q) 63 (nI i) v2).bind fun v3 => rec (nI i + 1, Mo_set_now o v3)) = _
    rw [if_neg (nI_ge (a := i) (b := 63) (by omega) (by omega)), nI_mul, nI_add, rdI_n (by omega) (by omega), Option.bind_some, wrI_n (by omega) (by omega), Option.bind_some, nI_1, fill_i (fun q => Mo_images o (63 * t + q))]
  · intro rec
    show (if (63 : Int32) ≤ nI 63 then some (nI 63, Mo_set_now o _) else _) = _
    rw [if_pos (by decide)]
theorem sim_goBack (X : Ev → (Nat → Nat) → Prop) : Sim_goBack (RelX X) := by
  intro z ev li te pa im mo x1 hR
  have hR0 := hR
  obtain ⟨a, n, l, m, u, g, b, hV, hC, hF, hL, hLl, hU, hI, hE⟩ := hR
  by_cases c1 : W01 x1 (nI 0) (nI 1) = 0
  · refine ⟨-1000000001, z, ev, li, pa, mo, ?_, ?_, hR0⟩
    · unfold fX5_goBack
      rw [c_isImage, Option.bind_some, if_pos c1]
    · unfold fX6_goBack
      rw [r_in (l := 0) (h := 1) 0 1 rfl rfl, Option.bind_some, if_pos c1]
  obtain ⟨i, -, hi, rfl⟩ := W01_yes (by omega) c1 (by omega)
  obtain ⟨k1, k2, k3⟩ := hI i (by omega)
  by_cases c2 : b i = true
  · rw [if_pos c2] at k1 k2
    obtain ⟨v1, v2, v3⟩ := k3 c2
    obtain ⟨z', f1, f2⟩ := take_ok z v2
    obtain ⟨hm, u1, u2, ⟨x, hx, u3, u4⟩, u5⟩ := hU
    refine ⟨nI (g i 60), z', Ev_set_found (Ev_set_below ev (Ev_below (Ev_set_found ev 0))) (Ev_found (Ev_set_found ev 0)), Li_set_many li 0, Pa_set_next (Pa_set_many pa 0) (Pa_next pa), Mo_set_undos (Mo_set_lined (Mo_set_now mo (fun q => if q < 63 then Mo_images mo (63 * i + q) else Mo_now mo q)) 0) 0, ?_, ?_, g i, 0, l, 0, u, g, b, v1, f2, fun k hk => ?_, ⟨by omega, rfl, rfl, fun k hk => by omega⟩, fun k hk => by omega, ⟨by omega, rfl, rfl, ⟨x, hx, u3, fun j hj => by omega⟩, fun j hj => by omega⟩, hI, Or.inl rfl⟩
    · unfold fX5_goBack fX0_forget fX3_forget fX2_makeEmpty
      rw [c_isImage, Option.bind_some, if_neg c1, rdI_n (by omega) (by omega), Option.bind_some, k1, if_neg (by decide), rdX_n (by omega) (by omega), Option.bind_some, f1, Option.bind_some, Option.bind_some, Option.bind_some, Option.bind_some, f2.1]
    · unfold fX6_goBack
      rw [r_in (l := 0) (h := 1) 0 1 rfl rfl, Option.bind_some, if_neg c1, rdI_n (by omega) (by omega), Option.bind_some, k2, if_neg (by decide), r_goBack1 _ (by omega), Option.bind_some, show (60 : Int32) = nI 60 from rfl, rdI_n (by omega) (by omega), Option.bind_some, ← v3 60 (by omega)]
      rfl
    · show (if k < 63 then Mo_images mo (63 * i + k) else Mo_now mo k) = _
      rw [if_pos hk]
      exact v3 k hk
  · rw [if_neg c2] at k1 k2
    refine ⟨-1000000003, z, ev, li, pa, mo, ?_, ?_, hR0⟩
    · unfold fX5_goBack
      rw [c_isImage, Option.bind_some, if_neg c1, rdI_n (by omega) (by omega), Option.bind_some, k1, if_pos rfl]
    · unfold fX6_goBack
      rw [r_in (l := 0) (h := 1) 0 1 rfl rfl, Option.bind_some, if_neg c1, rdI_n (by omega) (by omega), Option.bind_some, k2, if_pos rfl]
theorem r_undo1 (o : Mo) (y : Int32) {t : Nat} (ht : t < 8) (hu : Mo_undos o = nI t) : lp (gX6_undo_30 y) 1000 (0, o) = some (nI 63, Mo_set_now o (fun q => if q < 63 then Mo_past o (63 * t + q) else Mo_now o q)) := by
  have h0 : ((0 : Int32), o) = (nI 0, Mo_set_now o (fun q => if q < 0 then Mo_past o (63 * t + q) else Mo_now o q)) := by rw [fill_0 (fun q => Mo_past o (63 * t + q))]; rfl
  rw [h0]
  refine lp_k (fun i => (nI i, Mo_set_now o (fun q => if q < i then Mo_past o (63 * t + q) else Mo_now o q))) 63 (by omega) ?_ ?_
  · intro i hi rec
    show (if nI 63 ≤ nI i then _ else (rdI (Mo_past o) 504 (nI 63 * Mo_undos o + nI i)).bind fun v2 => (wrI (fun q => if q < i then Mo_past o (63 * t + q) else Mo_now o q) 63 (nI i) v2).bind fun v3 => rec (nI i + 1, Mo_set_now o v3)) = _
    rw [if_neg (nI_ge (a := i) (b := 63) (by omega) (by omega)), hu, nI_mul, nI_add, rdI_n (by omega) (by omega), Option.bind_some, wrI_n (by omega) (by omega), Option.bind_some, nI_1, fill_i (fun q => Mo_past o (63 * t + q))]
  · intro rec
    show (if (63 : Int32) ≤ nI 63 then some (nI 63, Mo_set_now o _) else _) = _
    rw [if_pos (by decide)]
theorem sim_undo (X : Ev → (Nat → Nat) → Prop) : Sim_undo (RelX X) := by
  intro z ev li te pa im mo hR
  have hR0 := hR
  obtain ⟨a, n, l, m, u, g, b, hV, hC, hF, hL, hLl, hU, hI, hE⟩ := hR
  obtain ⟨hm, u1, u2, ⟨x, hx, u3, u4⟩, u5⟩ := hU
  by_cases c1 : m = 0
  · subst c1
    refine ⟨-1000000003, z, ev, li, pa, mo, ?_, ?_, hR0⟩
    · unfold fX5_undo
      rw [u1, if_pos (by decide)]
    · unfold fX6_undo
      rw [u2, if_pos (by decide)]
  · have hne : ¬ nI m = (0 : Int32) := fun q => c1 ((nI_eq (a := m) (b := 0) (by omega) (by omega)).mp q)
    have hix : (x + 8 - m + (m - 1)) % 8 = (x + 8 - 1) % 8 := by omega
    have hz0 := u4 (m - 1) (by omega)
    rw [hix] at hz0
    obtain ⟨hv0, hp0⟩ := u5 (m - 1) (by omega)
    obtain ⟨z', f1, f2⟩ := take_ok z hz0
    have hgive : fX3_giveBack pa z = some (z', Pa_set_many (Pa_set_next pa (nI ((x + 8 - 1) % 8))) (nI (m - 1))) := by
      unfold fX3_giveBack
      rw [u3, u1, show nI x + 8 - 1 = nI (x + 8 - 1) by rw [show (8 : Int32) = nI 8 from rfl, nI_add, show (1 : Int32) = nI 1 from rfl, pk_sub (by omega)], rem8 (by omega), rdX_n (Nat.mod_lt _ (by omega)) (by omega), Option.bind_some, f1, Option.bind_some, show nI m - 1 = nI (m - 1) by rw [show (1 : Int32) = nI 1 from rfl, pk_sub (by omega)], if_neg (nI_pos (by omega))]
    have hU' : UR (Pa_set_many (Pa_set_next pa (nI ((x + 8 - 1) % 8))) (nI (m - 1))) (Mo_set_undos mo (nI (m - 1))) (m - 1) u := by
      refine ⟨by omega, rfl, rfl, ⟨(x + 8 - 1) % 8, Nat.mod_lt _ (by omega), rfl, fun j hj => ?_⟩, fun j hj => u5 j (by omega)⟩
      show CF (Pa_ring pa _) _
      rw [show ((x + 8 - 1) % 8 + 8 - (m - 1) + j) % 8 = (x + 8 - m + j) % 8 by omega]
      exact u4 j (by omega)
    have hun : nI m - 1 = nI (m - 1) := by rw [show (1 : Int32) = nI 1 from rfl, pk_sub (by omega)]
    have hlp := r_undo1 (Mo_set_undos mo (nI (m - 1))) (nI (a 60)) (t := m - 1) (by omega) rfl
    have hR' : RF (fun q => if q < 63 then Mo_past mo (63 * (m - 1) + q) else Mo_now mo q) (u (m - 1)) := fun k hk => by
      show (if k < 63 then Mo_past mo (63 * (m - 1) + k) else Mo_now mo k) = _
      rw [if_pos hk]
      exact hp0 k hk
    have h60 : Fo_many z' = nI (u (m - 1) 60) := f2.1
    have hv60 := hv0.1
    have ha60 := hV.1
    by_cases c2 : u (m - 1) 60 = a 60
    · refine ⟨nI (m - 1), z', Ev_set_found (Ev_set_below ev (Ev_below (Ev_set_found ev 0))) (Ev_found (Ev_set_found ev 0)), li, Pa_set_many (Pa_set_next pa (nI ((x + 8 - 1) % 8))) (nI (m - 1)), Mo_set_lined (Mo_set_now (Mo_set_undos mo (nI (m - 1))) (fun q => if q < 63 then Mo_past mo (63 * (m - 1) + q) else Mo_now mo q)) (Mo_lined mo), ?_, ?_, u (m - 1), n, l, m - 1, u, g, b, hv0, f2, hR', hL, fun k hk => by rw [c2]; exact hLl k hk, hU', hI, Or.inl rfl⟩
      · unfold fX5_undo fX0_forget fX2_makeEmpty
        rw [u1, if_neg hne, hgive, Option.bind_some, Option.bind_some, h60, hC.1, c2, if_pos rfl, Option.bind_some]
      · unfold fX6_undo
        rw [u2, if_neg hne, show (60 : Int32) = nI 60 from rfl, rdI_n (by omega) (by omega), Option.bind_some, hF 60 (by omega), hun, hlp, Option.bind_some, rdI_n (by omega) (by omega), Option.bind_some]
        have e : (if (60 : Nat) < 63 then Mo_past mo (63 * (m - 1) + 60) else Mo_now mo 60) = nI (a 60) := by rw [if_pos (by omega), hp0 60 (by omega), c2]
        show some (nI (m - 1), Mo_set_lined _ (if (if (60 : Nat) < 63 then Mo_past mo (63 * (m - 1) + 60) else Mo_now mo 60) = nI (a 60) then Mo_lined mo else 0)) = _
        rw [if_pos e]
    · have hne2 : ¬ nI (u (m - 1) 60) = nI (a 60) := fun q => c2 ((nI_eq (by omega) (by omega)).mp q)
      refine ⟨nI (m - 1), z', Ev_set_found (Ev_set_below ev (Ev_below (Ev_set_found ev 0))) (Ev_found (Ev_set_found ev 0)), Li_set_many li 0, Pa_set_many (Pa_set_next pa (nI ((x + 8 - 1) % 8))) (nI (m - 1)), Mo_set_lined (Mo_set_now (Mo_set_undos mo (nI (m - 1))) (fun q => if q < 63 then Mo_past mo (63 * (m - 1) + q) else Mo_now mo q)) 0, ?_, ?_, u (m - 1), 0, l, m - 1, u, g, b, hv0, f2, hR', ⟨by omega, rfl, rfl, fun k hk => by omega⟩, fun k hk => by omega, hU', hI, Or.inl rfl⟩
      · unfold fX5_undo fX0_forget fX2_makeEmpty
        rw [u1, if_neg hne, hgive, Option.bind_some, Option.bind_some, h60, hC.1, if_neg hne2, Option.bind_some, Option.bind_some]
      · unfold fX6_undo
        rw [u2, if_neg hne, show (60 : Int32) = nI 60 from rfl, rdI_n (by omega) (by omega), Option.bind_some, hF 60 (by omega), hun, hlp, Option.bind_some, rdI_n (by omega) (by omega), Option.bind_some]
        have e : ¬ (if (60 : Nat) < 63 then Mo_past mo (63 * (m - 1) + 60) else Mo_now mo 60) = nI (a 60) := by rw [if_pos (by omega), hp0 60 (by omega)]; exact hne2
        show some (nI (m - 1), Mo_set_lined _ (if (if (60 : Nat) < 63 then Mo_past mo (63 * (m - 1) + 60) else Mo_now mo 60) = nI (a 60) then Mo_lined mo else 0)) = _
        rw [if_neg e]
