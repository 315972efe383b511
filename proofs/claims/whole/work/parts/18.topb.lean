
abbrev rmX5_back : Room := { frames := 2, cells := 0, slots := 0, locals := 45 }
theorem mX5_back_0 : Cond.fieldLink RX5 12 "EvenWhite" "fount" "LEvenWhite$Fount;" ∈ wsX5_back := by decide +kernel
theorem mX5_back_1 : Cond.constant RX5 75 (-1000000001) ∈ wsX5_back := by decide +kernel
theorem mX5_back_2 : Cond.constant RX5 53 (-1000000002) ∈ wsX5_back := by decide +kernel
theorem inX5_back_5 : ∀ w ∈ u_ws RX5 TX5 6, w ∈ wsX5_back := by decide +kernel
def fX5_back (z : Fo) (ev : Ev) (li : Li) (te : Te) (pa : Pa) (im : Im) (x1 : Int32) (x2 : Int32) (x3 : Int32) : Option Int32 :=
  (fX1_hasLetter z x1).bind fun v1 =>
  (if v1 = (0 : Int32) then
  some (-1000000001 : Int32)
  else (fX5_isHeight x3).bind fun v3 =>
  (if v3 = (0 : Int32) then
  some (-1000000001 : Int32)
  else (fX5_isSide x2).bind fun v5 =>
  (if v5 = (0 : Int32) then
  some (-1000000002 : Int32)
  else (fX1_backOf z x1 x2 x3).bind fun v7 =>
  some v7)))
set_option maxHeartbeats 4000000 in
set_option maxRecDepth 100000 in
theorem kX5_back (l : Launch) (E : xG) (tq : Nat → Nat) (f : Nat → Nat) (q : Nat → Nat) (g : Nat → Nat) (h : Nat → Nat) (pq : Nat → Nat) (rq : Nat → Nat → Nat) (bq : Nat → Nat → Nat) (z : Fo) (ev : Ev) (li : Li) (te : Te) (pa : Pa) (im : Im) (x1 : Int32) (x2 : Int32) (x3 : Int32) {r : Int32} (hf : fX5_back z ev li te pa im x1 x2 x3 = some r) : xPure l yX5_back wsX5_back rmX5_back E [.ref (tq 0), .int x1, .int x2, .int x3] (wW E tq f q g h pq rq bq z ev li te pa im) (.int r) := by
  refine Met.ofW (cc := cX5_back) (maxL := 4) (ret := (some .int)) (by decide) rfl ?_
  intro p e s m args below meth c s₁ B hml hv
  obtain ⟨rfl, hP, hK⟩ := hv
  have hx := B.exec
  have hb := B.bytes
  have hr := B.returns
  have hts := atoms_spec (ws := wsX5_back) B.pre
  have hown : s.vm.findClass RX5 = some m.cls := findClass_of_methodNamed B.named
  have hlk := B.notSynchronized
  have S : CallFix p m c cX5_back 4 s _ wsX5_back RX5 := ⟨hx, hb, hml, hown, hts⟩
  have hl := lv_entry ([.ref (tq 0), .int x1, .int x2, .int x3]) (n := 4) (Nat.le_of_ble_eq_true rfl)
  rw [lg_entry_eq]
  generalize (lg_sl ([.ref (tq 0), .int x1, .int x2, .int x3]) ++ List.replicate (4 - (lg_sl ([.ref (tq 0), .int x1, .int x2, .int x3])).length) Slot.unset).toArray = ls at hl ⊢
  have hl : lv_has ls 4 [(0, .ref (tq 0)), (1, .int x1), (2, .int x2), (3, .int x3)] := hl
  unfold fX5_back at hf
  refine lv_aload_n hx hb dX5_back_0 rfl (lv_at hl 0 rfl) ?_
  refine x_get hx hb hts inX5_back_5 hown hK hP 0 rfl rfl 0 (by decide) mX5_back_0 rfl dX5_back_1 ?_
  refine lv_iload_n hx hb dX5_back_4 rfl (lv_at hl 1 rfl) ?_
  obtain ⟨v1, h1, hf⟩ := ob hf
  refine x_pV (As := [.int x1]) (rest := []) S hK (kX1_hasLetter l E f z x1 h1) (cwV 1 hts gX5_back_X1_hasLetter rfl rfl rfl (by decide +kernel) ⟨Nat.le_of_ble_eq_true rfl, Nat.le_of_ble_eq_true rfl⟩) (hP.sub [19, 20, 21, 22] rfl) 0 rfl rfl rfl rfl hl.1 (Nat.le_of_ble_eq_true rfl) dX5_back_5 rfl ⟨Nat.zero_le _, Nat.zero_le _⟩ ?_
  refine lv_if_eq (tgt := 18) hx hb dX5_back_8 (by decide) (fun c2 => ?_) (fun c2 => ?_)
  · have hf := (if_pos c2).symm.trans hf
    refine lv_ldc hx hb hown (hts _ mX5_back_1) dX5_back_18 ?_
    obtain rfl := Option.some.inj hf
    exact x_iret hx hb hr hlk (vp_nar_int _) dX5_back_20
  · have hf := (if_neg c2).symm.trans hf
    refine lv_iload_n hx hb dX5_back_11 rfl (lv_at hl 3 rfl) ?_
    obtain ⟨v3, h3, hf⟩ := ob hf
    refine x_pS (As := [.int x3]) (rest := []) S hK (kX5_isHeight l E x3 h3) (va_cwS 1 hts gX5_back_X5_isHeight rfl rfl rfl (by decide +kernel) ⟨Nat.le_of_ble_eq_true rfl, Nat.le_of_ble_eq_true rfl⟩) x_nil rfl hl.1 (Nat.le_of_ble_eq_true rfl) dX5_back_12 rfl ⟨Nat.zero_le _, Nat.zero_le _⟩ ?_
    refine lv_if_ne (tgt := 21) hx hb dX5_back_15 (by decide) (fun c4 => ?_) (fun c4 => ?_)
    · have hf := (if_neg c4).symm.trans hf
      refine lv_iload_n hx hb dX5_back_21 rfl (lv_at hl 2 rfl) ?_
      obtain ⟨v5, h5, hf⟩ := ob hf
      refine x_pS (As := [.int x2]) (rest := []) S hK (kX5_isSide l E x2 h5) (va_cwS 1 hts gX5_back_X5_isSide rfl rfl rfl (by decide +kernel) ⟨Nat.le_of_ble_eq_true rfl, Nat.le_of_ble_eq_true rfl⟩) x_nil rfl hl.1 (Nat.le_of_ble_eq_true rfl) dX5_back_22 rfl ⟨Nat.zero_le _, Nat.zero_le _⟩ ?_
      refine lv_if_ne (tgt := 31) hx hb dX5_back_25 (by decide) (fun c6 => ?_) (fun c6 => ?_)
      · have hf := (if_neg c6).symm.trans hf
        refine lv_aload_n hx hb dX5_back_31 rfl (lv_at hl 0 rfl) ?_
        refine x_get hx hb hts inX5_back_5 hown hK hP 0 rfl rfl 0 (by decide) mX5_back_0 rfl dX5_back_32 ?_
        refine lv_iload_n hx hb dX5_back_35 rfl (lv_at hl 1 rfl) ?_
        refine lv_iload_n hx hb dX5_back_36 rfl (lv_at hl 2 rfl) ?_
        refine lv_iload_n hx hb dX5_back_37 rfl (lv_at hl 3 rfl) ?_
        obtain ⟨v7, h7, hf⟩ := ob hf
        refine x_pV (As := [.int x1, .int x2, .int x3]) (rest := []) S hK (kX1_backOf l E f z x1 x2 x3 h7) (cwV 3 hts gX5_back_X1_backOf rfl rfl rfl (by decide +kernel) ⟨Nat.le_of_ble_eq_true rfl, Nat.le_of_ble_eq_true rfl⟩) (hP.sub [19, 20, 21, 22] rfl) 0 rfl rfl rfl rfl hl.1 (Nat.le_of_ble_eq_true rfl) dX5_back_38 rfl ⟨Nat.zero_le _, Nat.zero_le _⟩ ?_
        obtain rfl := Option.some.inj hf
        exact x_iret hx hb hr hlk (vp_nar_int _) dX5_back_41
      · have hf := (if_pos c6).symm.trans hf
        refine lv_ldc hx hb hown (hts _ mX5_back_2) dX5_back_28 ?_
        obtain rfl := Option.some.inj hf
        exact x_iret hx hb hr hlk (vp_nar_int _) dX5_back_30
    · have hf := (if_pos c4).symm.trans hf
      refine lv_ldc hx hb hown (hts _ mX5_back_1) dX5_back_18 ?_
      obtain rfl := Option.some.inj hf
      exact x_iret hx hb hr hlk (vp_nar_int _) dX5_back_20
abbrev rmX5_space : Room := { frames := 5, cells := 0, slots := 0, locals := 119 }
theorem mX5_space_0 : Cond.fieldLink RX5 12 "EvenWhite" "fount" "LEvenWhite$Fount;" ∈ wsX5_space := by decide +kernel
theorem mX5_space_1 : Cond.fieldLink RX5 21 "EvenWhite" "even" "LEvenWhite$Even;" ∈ wsX5_space := by decide +kernel
theorem mX5_space_2 : Cond.constantLong RX5 180 (-1000000002) ∈ wsX5_space := by decide +kernel
theorem mX5_space_3 : Cond.constantLong RX5 185 (-1000000001) ∈ wsX5_space := by decide +kernel
theorem inX5_space_5 : ∀ w ∈ u_ws RX5 TX5 6, w ∈ wsX5_space := by decide +kernel
def fX5_space (z : Fo) (ev : Ev) (li : Li) (te : Te) (pa : Pa) (im : Im) (x1 : Int32) (x2 : Int32) (x3 : Int32) : Option (Int64 × Ev) :=
  (fX1_hasLetter z x1).bind fun v1 =>
  (if v1 = (0 : Int32) then
  some ((-1000000001 : Int64), ev)
  else (fX5_isSide x2).bind fun v3 =>
  (if v3 = (0 : Int32) then
  some ((-1000000002 : Int64), ev)
  else (fX0_find ev z).bind fun v5 =>
  (if x3 = (0 : Int32) then
  (fX0_spaceAbove v5 z x1 x2).bind fun v10 =>
  (fX0_spaceBelow v5 z).bind fun v11 =>
  (fX5_aboveOf v10 v11).bind fun v12 =>
  some (v12, v5)
  else (if x3 = (1 : Int32) then
  (fX0_spaceAbove v5 z x1 x2).bind fun v13 =>
  (fX0_spaceBelow v5 z).bind fun v14 =>
  (fX5_belowOf v13 v14).bind fun v15 =>
  some (v15, v5)
  else (if x3 = (2 : Int32) then
  (fX0_isOpen v5 z x1 x2).bind fun v16 =>
  some ((if v16 = (0 : Int32) then (0 : Int64) else (1 : Int64)), v5)
  else (if x3 = (3 : Int32) then
  (fX0_wholeSpace v5 z x1 x2).bind fun v18 =>
  some (v18, v5)
  else some ((-1000000002 : Int64), v5)))))))
set_option maxHeartbeats 4000000 in
set_option maxRecDepth 100000 in
theorem kX5_space (l : Launch) (E : xG) (tq : Nat → Nat) (f : Nat → Nat) (q : Nat → Nat) (g : Nat → Nat) (h : Nat → Nat) (pq : Nat → Nat) (rq : Nat → Nat → Nat) (bq : Nat → Nat → Nat) (z : Fo) (ev : Ev) (li : Li) (te : Te) (pa : Pa) (im : Im) (x1 : Int32) (x2 : Int32) (x3 : Int32) {r : (Int64 × Ev)} (hf : fX5_space z ev li te pa im x1 x2 x3 = some r) : xMut l yX5_space wsX5_space rmX5_space E [.ref (tq 0), .int x1, .int x2, .int x3] (wW E tq f q g h pq rq bq z ev li te pa im) (some (.long r.1)) (wW E tq f q g h pq rq bq z r.2 li te pa im) := by
  refine Met.ofW (cc := cX5_space) (maxL := 4) (ret := (some .long)) (by decide) rfl ?_
  intro p e s m args below meth c s₁ B hml hv
  obtain ⟨rfl, hP, hK, hD0⟩ := hv
  have hx := B.exec
  have hb := B.bytes
  have hr := B.returns
  have hts := atoms_spec (ws := wsX5_space) B.pre
  have hown : s.vm.findClass RX5 = some m.cls := findClass_of_methodNamed B.named
  have hlk := B.notSynchronized
  have S : CallFix p m c cX5_space 4 s _ wsX5_space RX5 := ⟨hx, hb, hml, hown, hts⟩
  have hl := lv_entry ([.ref (tq 0), .int x1, .int x2, .int x3]) (n := 4) (Nat.le_of_ble_eq_true rfl)
  rw [lg_entry_eq]
  generalize (lg_sl ([.ref (tq 0), .int x1, .int x2, .int x3]) ++ List.replicate (4 - (lg_sl ([.ref (tq 0), .int x1, .int x2, .int x3])).length) Slot.unset).toArray = ls at hl ⊢
  have hl : lv_has ls 4 [(0, .ref (tq 0)), (1, .int x1), (2, .int x2), (3, .int x3)] := hl
  have hD := xA.self hD0
  have hS : va_S (xA (wW E tq f q g h pq rq bq z ev li te pa im)) s.heap s.heap [] := va_S.rf
  show W p l e rmX5_space s m _ below meth c s.heap [] 0 0 _ _
  generalize hA : xA (wW E tq f q g h pq rq bq z ev li te pa im) = A at hD hS ⊢
  unfold fX5_space at hf
  refine lv_aload_n hx hb dX5_space_0 rfl (lv_at hl 0 rfl) ?_
  refine x_get hx hb hts inX5_space_5 hown hK hP 0 rfl rfl 0 (by decide) mX5_space_0 rfl dX5_space_1 ?_
  refine lv_iload_n hx hb dX5_space_4 rfl (lv_at hl 1 rfl) ?_
  obtain ⟨v1, h1, hf⟩ := ob hf
  refine x_pV (As := [.int x1]) (rest := []) S hK (kX1_hasLetter l E f z x1 h1) (cwV 1 hts gX5_space_X1_hasLetter rfl rfl rfl (by decide +kernel) ⟨Nat.le_of_ble_eq_true rfl, Nat.le_of_ble_eq_true rfl⟩) (hP.sub [19, 20, 21, 22] rfl) 0 rfl rfl rfl rfl hl.1 (Nat.le_of_ble_eq_true rfl) dX5_space_5 rfl ⟨Nat.zero_le _, Nat.zero_le _⟩ ?_
  refine lv_if_ne (tgt := 15) hx hb dX5_space_8 (by decide) (fun c2 => ?_) (fun c2 => ?_)
  · have hf := (if_neg c2).symm.trans hf
    refine lv_iload_n hx hb dX5_space_15 rfl (lv_at hl 2 rfl) ?_
    obtain ⟨v3, h3, hf⟩ := ob hf
    refine x_pS (As := [.int x2]) (rest := []) S hK (kX5_isSide l E x2 h3) (va_cwS 1 hts gX5_space_X5_isSide rfl rfl rfl (by decide +kernel) ⟨Nat.le_of_ble_eq_true rfl, Nat.le_of_ble_eq_true rfl⟩) x_nil rfl hl.1 (Nat.le_of_ble_eq_true rfl) dX5_space_16 rfl ⟨Nat.zero_le _, Nat.zero_le _⟩ ?_
    refine lv_if_ne (tgt := 26) hx hb dX5_space_19 (by decide) (fun c4 => ?_) (fun c4 => ?_)
    · have hf := (if_neg c4).symm.trans hf
      refine lv_aload_n hx hb dX5_space_26 rfl (lv_at hl 0 rfl) ?_
      refine x_get hx hb hts inX5_space_5 hown hK hP 0 rfl rfl 1 (by decide) mX5_space_1 rfl dX5_space_27 ?_
      obtain ⟨v5, h5, hf⟩ := ob hf
      refine x_mR (ws' := wW E tq f q g h pq rq bq z v5 li te pa im) (As := []) (rest := []) S hK (kX0_find l E q f ev z h5) (cwV 0 hts gX5_space_X0_find rfl rfl rfl (by decide +kernel) ⟨Nat.le_of_ble_eq_true rfl, Nat.le_of_ble_eq_true rfl⟩) hP hD hS 7 16 rfl rfl 0 rfl rfl rfl rfl hl.1 (Nat.le_of_ble_eq_true rfl) dX5_space_30 rfl ⟨Nat.zero_le _, Nat.zero_le _⟩ rfl (fun H locs hP hD hS => ?_)
      refine lv_iload_n hx hb dX5_space_33 rfl (lv_at hl 3 rfl) ?_
      by_cases c6 : x3 = (0 : Int32)
      · have hf := (if_pos c6).symm.trans hf
        refine lv_tableIn (tgt := 64) hx hb dX5_space_34 (by rw [c6]; decide) (by rw [c6]; decide) (by rw [c6]; rfl) (by decide) ?_
        refine lv_aload_n hx hb dX5_space_64 rfl (lv_at hl 0 rfl) ?_
        refine x_get hx hb hts inX5_space_5 hown hK hP 0 rfl rfl 1 (by decide) mX5_space_1 rfl dX5_space_65 ?_
        refine lv_iload_n hx hb dX5_space_68 rfl (lv_at hl 1 rfl) ?_
        refine lv_iload_n hx hb dX5_space_69 rfl (lv_at hl 2 rfl) ?_
        obtain ⟨v10, h10, hf⟩ := ob hf
        refine x_pV (As := [.int x1, .int x2]) (rest := []) S hK (kX0_spaceAbove l E q f v5 z x1 x2 h10) (cwV 2 hts gX5_space_X0_spaceAbove rfl rfl rfl (by decide +kernel) ⟨Nat.le_of_ble_eq_true rfl, Nat.le_of_ble_eq_true rfl⟩) (hP.sub [7, 8, 9, 10, 11, 12, 13, 14, 15, 16, 17, 18, 19, 20, 21, 22] rfl) 0 rfl rfl rfl rfl hl.1 (Nat.le_of_ble_eq_true rfl) dX5_space_70 rfl ⟨Nat.zero_le _, Nat.zero_le _⟩ ?_
        refine lv_aload_n hx hb dX5_space_73 rfl (lv_at hl 0 rfl) ?_
        refine x_get hx hb hts inX5_space_5 hown hK hP 0 rfl rfl 1 (by decide) mX5_space_1 rfl dX5_space_74 ?_
        obtain ⟨v11, h11, hf⟩ := ob hf
        refine x_pV (As := []) (rest := [.long v10]) S hK (kX0_spaceBelow l E q f v5 z h11) (cwV 0 hts gX5_space_X0_spaceBelow rfl rfl rfl (by decide +kernel) ⟨Nat.le_of_ble_eq_true rfl, Nat.le_of_ble_eq_true rfl⟩) (hP.sub [7, 8, 9, 10, 11, 12, 13, 14, 15, 16, 17, 18, 19, 20, 21, 22] rfl) 0 rfl rfl rfl rfl hl.1 (Nat.le_of_ble_eq_true rfl) dX5_space_77 rfl ⟨Nat.zero_le _, Nat.zero_le _⟩ ?_
        obtain ⟨v12, h12, hf⟩ := ob hf
        refine x_pS (As := [.long v10, .long v11]) (rest := []) S hK (kX5_aboveOf l E v10 v11 h12) (va_cwS 2 hts gX5_space_X5_aboveOf rfl rfl rfl (by decide +kernel) ⟨Nat.le_of_ble_eq_true rfl, Nat.le_of_ble_eq_true rfl⟩) x_nil rfl hl.1 (Nat.le_of_ble_eq_true rfl) dX5_space_80 rfl ⟨Nat.zero_le _, Nat.zero_le _⟩ ?_
        obtain rfl := Option.some.inj hf
        subst hA
        exact x_lretM hx hb hr hlk hP hS dX5_space_83
      have hf := (if_neg c6).symm.trans hf
      by_cases c7 : x3 = (1 : Int32)
      · have hf := (if_pos c7).symm.trans hf
        refine lv_tableIn (tgt := 84) hx hb dX5_space_34 (by rw [c7]; decide) (by rw [c7]; decide) (by rw [c7]; rfl) (by decide) ?_
        refine lv_aload_n hx hb dX5_space_84 rfl (lv_at hl 0 rfl) ?_
        refine x_get hx hb hts inX5_space_5 hown hK hP 0 rfl rfl 1 (by decide) mX5_space_1 rfl dX5_space_85 ?_
        refine lv_iload_n hx hb dX5_space_88 rfl (lv_at hl 1 rfl) ?_
        refine lv_iload_n hx hb dX5_space_89 rfl (lv_at hl 2 rfl) ?_
        obtain ⟨v13, h13, hf⟩ := ob hf
        refine x_pV (As := [.int x1, .int x2]) (rest := []) S hK (kX0_spaceAbove l E q f v5 z x1 x2 h13) (cwV 2 hts gX5_space_X0_spaceAbove rfl rfl rfl (by decide +kernel) ⟨Nat.le_of_ble_eq_true rfl, Nat.le_of_ble_eq_true rfl⟩) (hP.sub [7, 8, 9, 10, 11, 12, 13, 14, 15, 16, 17, 18, 19, 20, 21, 22] rfl) 0 rfl rfl rfl rfl hl.1 (Nat.le_of_ble_eq_true rfl) dX5_space_90 rfl ⟨Nat.zero_le _, Nat.zero_le _⟩ ?_
        refine lv_aload_n hx hb dX5_space_93 rfl (lv_at hl 0 rfl) ?_
        refine x_get hx hb hts inX5_space_5 hown hK hP 0 rfl rfl 1 (by decide) mX5_space_1 rfl dX5_space_94 ?_
        obtain ⟨v14, h14, hf⟩ := ob hf
        refine x_pV (As := []) (rest := [.long v13]) S hK (kX0_spaceBelow l E q f v5 z h14) (cwV 0 hts gX5_space_X0_spaceBelow rfl rfl rfl (by decide +kernel) ⟨Nat.le_of_ble_eq_true rfl, Nat.le_of_ble_eq_true rfl⟩) (hP.sub [7, 8, 9, 10, 11, 12, 13, 14, 15, 16, 17, 18, 19, 20, 21, 22] rfl) 0 rfl rfl rfl rfl hl.1 (Nat.le_of_ble_eq_true rfl) dX5_space_97 rfl ⟨Nat.zero_le _, Nat.zero_le _⟩ ?_
        obtain ⟨v15, h15, hf⟩ := ob hf
        refine x_pS (As := [.long v13, .long v14]) (rest := []) S hK (kX5_belowOf l E v13 v14 h15) (va_cwS 2 hts gX5_space_X5_belowOf rfl rfl rfl (by decide +kernel) ⟨Nat.le_of_ble_eq_true rfl, Nat.le_of_ble_eq_true rfl⟩) x_nil rfl hl.1 (Nat.le_of_ble_eq_true rfl) dX5_space_100 rfl ⟨Nat.zero_le _, Nat.zero_le _⟩ ?_
        obtain rfl := Option.some.inj hf
        subst hA
        exact x_lretM hx hb hr hlk hP hS dX5_space_103
      have hf := (if_neg c7).symm.trans hf
      by_cases c8 : x3 = (2 : Int32)
      · have hf := (if_pos c8).symm.trans hf
        refine lv_tableIn (tgt := 104) hx hb dX5_space_34 (by rw [c8]; decide) (by rw [c8]; decide) (by rw [c8]; rfl) (by decide) ?_
        refine lv_aload_n hx hb dX5_space_104 rfl (lv_at hl 0 rfl) ?_
        refine x_get hx hb hts inX5_space_5 hown hK hP 0 rfl rfl 1 (by decide) mX5_space_1 rfl dX5_space_105 ?_
        refine lv_iload_n hx hb dX5_space_108 rfl (lv_at hl 1 rfl) ?_
        refine lv_iload_n hx hb dX5_space_109 rfl (lv_at hl 2 rfl) ?_
        obtain ⟨v16, h16, hf⟩ := ob hf
        refine x_pV (As := [.int x1, .int x2]) (rest := []) S hK (kX0_isOpen l E q f v5 z x1 x2 h16) (cwV 2 hts gX5_space_X0_isOpen rfl rfl rfl (by decide +kernel) ⟨Nat.le_of_ble_eq_true rfl, Nat.le_of_ble_eq_true rfl⟩) (hP.sub [7, 8, 9, 10, 11, 12, 13, 14, 15, 16, 17, 18, 19, 20, 21, 22] rfl) 0 rfl rfl rfl rfl hl.1 (Nat.le_of_ble_eq_true rfl) dX5_space_110 rfl ⟨Nat.zero_le _, Nat.zero_le _⟩ ?_
        refine x_cut (pc := 121) (ls := ls) (st := [.long (if v16 = (0 : Int32) then (0 : Int64) else (1 : Int64))]) ?_ (fun hj => ?_)
        · obtain rfl := Option.some.inj hf
          subst hA
          exact x_lretM hx hb hr hlk hP hS dX5_space_121
        · refine lv_if_eq (tgt := 120) hx hb dX5_space_113 (by decide) (fun c17 => ?_) (fun c17 => ?_)
          · refine lv_lconst (v := 0) hx hb dX5_space_120 (by decide) ?_
            exact (by rw [if_pos c17] at hj; exact hj)
          · refine lv_lconst (v := 1) hx hb dX5_space_116 (by decide) ?_
            refine lv_goto (tgt := 121) hx hb dX5_space_117 (by decide) ?_
            exact (by rw [if_neg c17] at hj; exact hj)
      have hf := (if_neg c8).symm.trans hf
      by_cases c9 : x3 = (3 : Int32)
      · have hf := (if_pos c9).symm.trans hf
        refine lv_tableIn (tgt := 122) hx hb dX5_space_34 (by rw [c9]; decide) (by rw [c9]; decide) (by rw [c9]; rfl) (by decide) ?_
        refine lv_aload_n hx hb dX5_space_122 rfl (lv_at hl 0 rfl) ?_
        refine x_get hx hb hts inX5_space_5 hown hK hP 0 rfl rfl 1 (by decide) mX5_space_1 rfl dX5_space_123 ?_
        refine lv_iload_n hx hb dX5_space_126 rfl (lv_at hl 1 rfl) ?_
        refine lv_iload_n hx hb dX5_space_127 rfl (lv_at hl 2 rfl) ?_
        obtain ⟨v18, h18, hf⟩ := ob hf
        refine x_pV (As := [.int x1, .int x2]) (rest := []) S hK (kX0_wholeSpace l E q f v5 z x1 x2 h18) (cwV 2 hts gX5_space_X0_wholeSpace rfl rfl rfl (by decide +kernel) ⟨Nat.le_of_ble_eq_true rfl, Nat.le_of_ble_eq_true rfl⟩) (hP.sub [7, 8, 9, 10, 11, 12, 13, 14, 15, 16, 17, 18, 19, 20, 21, 22] rfl) 0 rfl rfl rfl rfl hl.1 (Nat.le_of_ble_eq_true rfl) dX5_space_128 rfl ⟨Nat.zero_le _, Nat.zero_le _⟩ ?_
        obtain rfl := Option.some.inj hf
        subst hA
        exact x_lretM hx hb hr hlk hP hS dX5_space_131
      have hf := (if_neg c9).symm.trans hf
      refine lv_tableOut (tgt := 132) hx hb dX5_space_34 (x_tab3 c6 c7 c8 c9) (by decide) ?_
      refine lv_ldc2 hx hb hown (hts _ mX5_space_2) dX5_space_132 ?_
      obtain rfl := Option.some.inj hf
      subst hA
      exact x_lretM hx hb hr hlk hP hS dX5_space_135
    · have hf := (if_pos c4).symm.trans hf
      refine lv_ldc2 hx hb hown (hts _ mX5_space_2) dX5_space_22 ?_
      obtain rfl := Option.some.inj hf
      subst hA
      exact x_lretM hx hb hr hlk hP hS dX5_space_25
  · have hf := (if_pos c2).symm.trans hf
    refine lv_ldc2 hx hb hown (hts _ mX5_space_3) dX5_space_11 ?_
    obtain rfl := Option.some.inj hf
    subst hA
    exact x_lretM hx hb hr hlk hP hS dX5_space_14
abbrev rmX5_pair : Room := { frames := 5, cells := 0, slots := 0, locals := 119 }
theorem mX5_pair_0 : Cond.fieldLink RX5 12 "EvenWhite" "fount" "LEvenWhite$Fount;" ∈ wsX5_pair := by decide +kernel
theorem mX5_pair_1 : Cond.fieldLink RX5 21 "EvenWhite" "even" "LEvenWhite$Even;" ∈ wsX5_pair := by decide +kernel
theorem mX5_pair_2 : Cond.constantLong RX5 180 (-1000000002) ∈ wsX5_pair := by decide +kernel
theorem mX5_pair_3 : Cond.constantLong RX5 185 (-1000000001) ∈ wsX5_pair := by decide +kernel
theorem inX5_pair_5 : ∀ w ∈ u_ws RX5 TX5 6, w ∈ wsX5_pair := by decide +kernel
def fX5_pair (z : Fo) (ev : Ev) (li : Li) (te : Te) (pa : Pa) (im : Im) (x1 : Int32) (x2 : Int32) (x3 : Int32) : Option (Int64 × Ev) :=
  (fX1_hasPair z x1 x2).bind fun v1 =>
  (if v1 = (0 : Int32) then
  some ((-1000000001 : Int64), ev)
  else (fX0_find ev z).bind fun v3 =>
  (if x3 = (0 : Int32) then
  (fX1_weightOf z x1 x2).bind fun v10 =>
  some ((Int32.toInt64 v10), v3)
  else (if x3 = (1 : Int32) then
  (fX1_bareOf z x1 x2).bind fun v11 =>
  some ((Int32.toInt64 v11), v3)
  else (if x3 = (2 : Int32) then
  (fX0_whiteAbove v3 z x1 x2).bind fun v12 =>
  (fX0_whiteBelow v3 z).bind fun v13 =>
  (fX5_aboveOf v12 v13).bind fun v14 =>
  some (v14, v3)
  else (if x3 = (3 : Int32) then
  (fX0_whiteAbove v3 z x1 x2).bind fun v15 =>
  (fX0_whiteBelow v3 z).bind fun v16 =>
  (fX5_belowOf v15 v16).bind fun v17 =>
  some (v17, v3)
  else (if x3 = (4 : Int32) then
  (fX0_leftOverAbove v3 z x1 x2).bind fun v18 =>
  (fX0_whiteBelow v3 z).bind fun v19 =>
  (fX5_aboveOf v18 v19).bind fun v20 =>
  some (v20, v3)
  else (if x3 = (5 : Int32) then
  (fX0_leftOverAbove v3 z x1 x2).bind fun v21 =>
  (fX0_whiteBelow v3 z).bind fun v22 =>
  (fX5_belowOf v21 v22).bind fun v23 =>
  some (v23, v3)
  else some ((-1000000002 : Int64), v3))))))))
set_option maxHeartbeats 4000000 in
set_option maxRecDepth 100000 in
theorem kX5_pair (l : Launch) (E : xG) (tq : Nat → Nat) (f : Nat → Nat) (q : Nat → Nat) (g : Nat → Nat) (h : Nat → Nat) (pq : Nat → Nat) (rq : Nat → Nat → Nat) (bq : Nat → Nat → Nat) (z : Fo) (ev : Ev) (li : Li) (te : Te) (pa : Pa) (im : Im) (x1 : Int32) (x2 : Int32) (x3 : Int32) {r : (Int64 × Ev)} (hf : fX5_pair z ev li te pa im x1 x2 x3 = some r) : xMut l yX5_pair wsX5_pair rmX5_pair E [.ref (tq 0), .int x1, .int x2, .int x3] (wW E tq f q g h pq rq bq z ev li te pa im) (some (.long r.1)) (wW E tq f q g h pq rq bq z r.2 li te pa im) := by
  refine Met.ofW (cc := cX5_pair) (maxL := 4) (ret := (some .long)) (by decide) rfl ?_
  intro p e s m args below meth c s₁ B hml hv
  obtain ⟨rfl, hP, hK, hD0⟩ := hv
  have hx := B.exec
  have hb := B.bytes
  have hr := B.returns
  have hts := atoms_spec (ws := wsX5_pair) B.pre
  have hown : s.vm.findClass RX5 = some m.cls := findClass_of_methodNamed B.named
  have hlk := B.notSynchronized
  have S : CallFix p m c cX5_pair 4 s _ wsX5_pair RX5 := ⟨hx, hb, hml, hown, hts⟩
  have hl := lv_entry ([.ref (tq 0), .int x1, .int x2, .int x3]) (n := 4) (Nat.le_of_ble_eq_true rfl)
  rw [lg_entry_eq]
  generalize (lg_sl ([.ref (tq 0), .int x1, .int x2, .int x3]) ++ List.replicate (4 - (lg_sl ([.ref (tq 0), .int x1, .int x2, .int x3])).length) Slot.unset).toArray = ls at hl ⊢
  have hl : lv_has ls 4 [(0, .ref (tq 0)), (1, .int x1), (2, .int x2), (3, .int x3)] := hl
  have hD := xA.self hD0
  have hS : va_S (xA (wW E tq f q g h pq rq bq z ev li te pa im)) s.heap s.heap [] := va_S.rf
  show W p l e rmX5_pair s m _ below meth c s.heap [] 0 0 _ _
  generalize hA : xA (wW E tq f q g h pq rq bq z ev li te pa im) = A at hD hS ⊢
  unfold fX5_pair at hf
  refine lv_aload_n hx hb dX5_pair_0 rfl (lv_at hl 0 rfl) ?_
  refine x_get hx hb hts inX5_pair_5 hown hK hP 0 rfl rfl 0 (by decide) mX5_pair_0 rfl dX5_pair_1 ?_
  refine lv_iload_n hx hb dX5_pair_4 rfl (lv_at hl 1 rfl) ?_
  refine lv_iload_n hx hb dX5_pair_5 rfl (lv_at hl 2 rfl) ?_
  obtain ⟨v1, h1, hf⟩ := ob hf
  refine x_pV (As := [.int x1, .int x2]) (rest := []) S hK (kX1_hasPair l E f z x1 x2 h1) (cwV 2 hts gX5_pair_X1_hasPair rfl rfl rfl (by decide +kernel) ⟨Nat.le_of_ble_eq_true rfl, Nat.le_of_ble_eq_true rfl⟩) (hP.sub [19, 20, 21, 22] rfl) 0 rfl rfl rfl rfl hl.1 (Nat.le_of_ble_eq_true rfl) dX5_pair_6 rfl ⟨Nat.zero_le _, Nat.zero_le _⟩ ?_
  refine lv_if_ne (tgt := 16) hx hb dX5_pair_9 (by decide) (fun c2 => ?_) (fun c2 => ?_)
  · have hf := (if_neg c2).symm.trans hf
    refine lv_aload_n hx hb dX5_pair_16 rfl (lv_at hl 0 rfl) ?_
    refine x_get hx hb hts inX5_pair_5 hown hK hP 0 rfl rfl 1 (by decide) mX5_pair_1 rfl dX5_pair_17 ?_
    obtain ⟨v3, h3, hf⟩ := ob hf
    refine x_mR (ws' := wW E tq f q g h pq rq bq z v3 li te pa im) (As := []) (rest := []) S hK (kX0_find l E q f ev z h3) (cwV 0 hts gX5_pair_X0_find rfl rfl rfl (by decide +kernel) ⟨Nat.le_of_ble_eq_true rfl, Nat.le_of_ble_eq_true rfl⟩) hP hD hS 7 16 rfl rfl 0 rfl rfl rfl rfl hl.1 (Nat.le_of_ble_eq_true rfl) dX5_pair_20 rfl ⟨Nat.zero_le _, Nat.zero_le _⟩ rfl (fun H locs hP hD hS => ?_)
    refine lv_iload_n hx hb dX5_pair_23 rfl (lv_at hl 3 rfl) ?_
    by_cases c4 : x3 = (0 : Int32)
    · have hf := (if_pos c4).symm.trans hf
      refine lv_tableIn (tgt := 64) hx hb dX5_pair_24 (by rw [c4]; decide) (by rw [c4]; decide) (by rw [c4]; rfl) (by decide) ?_
      refine lv_aload_n hx hb dX5_pair_64 rfl (lv_at hl 0 rfl) ?_
      refine x_get hx hb hts inX5_pair_5 hown hK hP 0 rfl rfl 0 (by decide) mX5_pair_0 rfl dX5_pair_65 ?_
      refine lv_iload_n hx hb dX5_pair_68 rfl (lv_at hl 1 rfl) ?_
      refine lv_iload_n hx hb dX5_pair_69 rfl (lv_at hl 2 rfl) ?_
      obtain ⟨v10, h10, hf⟩ := ob hf
      refine x_pV (As := [.int x1, .int x2]) (rest := []) S hK (kX1_weightOf l E f z x1 x2 h10) (cwV 2 hts gX5_pair_X1_weightOf rfl rfl rfl (by decide +kernel) ⟨Nat.le_of_ble_eq_true rfl, Nat.le_of_ble_eq_true rfl⟩) (hP.sub [19, 20, 21, 22] rfl) 0 rfl rfl rfl rfl hl.1 (Nat.le_of_ble_eq_true rfl) dX5_pair_70 rfl ⟨Nat.zero_le _, Nat.zero_le _⟩ ?_
      refine lv_i2l (v := (Int32.toInt64 v10)) hx hb dX5_pair_73 rfl ?_
      obtain rfl := Option.some.inj hf
      subst hA
      exact x_lretM hx hb hr hlk hP hS dX5_pair_74
    have hf := (if_neg c4).symm.trans hf
    by_cases c5 : x3 = (1 : Int32)
    · have hf := (if_pos c5).symm.trans hf
      refine lv_tableIn (tgt := 75) hx hb dX5_pair_24 (by rw [c5]; decide) (by rw [c5]; decide) (by rw [c5]; rfl) (by decide) ?_
      refine lv_aload_n hx hb dX5_pair_75 rfl (lv_at hl 0 rfl) ?_
      refine x_get hx hb hts inX5_pair_5 hown hK hP 0 rfl rfl 0 (by decide) mX5_pair_0 rfl dX5_pair_76 ?_
      refine lv_iload_n hx hb dX5_pair_79 rfl (lv_at hl 1 rfl) ?_
      refine lv_iload_n hx hb dX5_pair_80 rfl (lv_at hl 2 rfl) ?_
      obtain ⟨v11, h11, hf⟩ := ob hf
      refine x_pV (As := [.int x1, .int x2]) (rest := []) S hK (kX1_bareOf l E f z x1 x2 h11) (cwV 2 hts gX5_pair_X1_bareOf rfl rfl rfl (by decide +kernel) ⟨Nat.le_of_ble_eq_true rfl, Nat.le_of_ble_eq_true rfl⟩) (hP.sub [19, 20, 21, 22] rfl) 0 rfl rfl rfl rfl hl.1 (Nat.le_of_ble_eq_true rfl) dX5_pair_81 rfl ⟨Nat.zero_le _, Nat.zero_le _⟩ ?_
      refine lv_i2l (v := (Int32.toInt64 v11)) hx hb dX5_pair_84 rfl ?_
      obtain rfl := Option.some.inj hf
      subst hA
      exact x_lretM hx hb hr hlk hP hS dX5_pair_85
    have hf := (if_neg c5).symm.trans hf
    by_cases c6 : x3 = (2 : Int32)
    · have hf := (if_pos c6).symm.trans hf
      refine lv_tableIn (tgt := 86) hx hb dX5_pair_24 (by rw [c6]; decide) (by rw [c6]; decide) (by rw [c6]; rfl) (by decide) ?_
      refine lv_aload_n hx hb dX5_pair_86 rfl (lv_at hl 0 rfl) ?_
      refine x_get hx hb hts inX5_pair_5 hown hK hP 0 rfl rfl 1 (by decide) mX5_pair_1 rfl dX5_pair_87 ?_
      refine lv_iload_n hx hb dX5_pair_90 rfl (lv_at hl 1 rfl) ?_
      refine lv_iload_n hx hb dX5_pair_91 rfl (lv_at hl 2 rfl) ?_
      obtain ⟨v12, h12, hf⟩ := ob hf
      refine x_pV (As := [.int x1, .int x2]) (rest := []) S hK (kX0_whiteAbove l E q f v3 z x1 x2 h12) (cwV 2 hts gX5_pair_X0_whiteAbove rfl rfl rfl (by decide +kernel) ⟨Nat.le_of_ble_eq_true rfl, Nat.le_of_ble_eq_true rfl⟩) (hP.sub [7, 8, 9, 10, 11, 12, 13, 14, 15, 16, 17, 18, 19, 20, 21, 22] rfl) 0 rfl rfl rfl rfl hl.1 (Nat.le_of_ble_eq_true rfl) dX5_pair_92 rfl ⟨Nat.zero_le _, Nat.zero_le _⟩ ?_
      refine lv_aload_n hx hb dX5_pair_95 rfl (lv_at hl 0 rfl) ?_
      refine x_get hx hb hts inX5_pair_5 hown hK hP 0 rfl rfl 1 (by decide) mX5_pair_1 rfl dX5_pair_96 ?_
      obtain ⟨v13, h13, hf⟩ := ob hf
      refine x_pV (As := []) (rest := [.long v12]) S hK (kX0_whiteBelow l E q f v3 z h13) (cwV 0 hts gX5_pair_X0_whiteBelow rfl rfl rfl (by decide +kernel) ⟨Nat.le_of_ble_eq_true rfl, Nat.le_of_ble_eq_true rfl⟩) (hP.sub [7, 8, 9, 10, 11, 12, 13, 14, 15, 16, 17, 18, 19, 20, 21, 22] rfl) 0 rfl rfl rfl rfl hl.1 (Nat.le_of_ble_eq_true rfl) dX5_pair_99 rfl ⟨Nat.zero_le _, Nat.zero_le _⟩ ?_
      obtain ⟨v14, h14, hf⟩ := ob hf
      refine x_pS (As := [.long v12, .long v13]) (rest := []) S hK (kX5_aboveOf l E v12 v13 h14) (va_cwS 2 hts gX5_pair_X5_aboveOf rfl rfl rfl (by decide +kernel) ⟨Nat.le_of_ble_eq_true rfl, Nat.le_of_ble_eq_true rfl⟩) x_nil rfl hl.1 (Nat.le_of_ble_eq_true rfl) dX5_pair_102 rfl ⟨Nat.zero_le _, Nat.zero_le _⟩ ?_
      obtain rfl := Option.some.inj hf
      subst hA
      exact x_lretM hx hb hr hlk hP hS dX5_pair_105
    have hf := (if_neg c6).symm.trans hf
    by_cases c7 : x3 = (3 : Int32)
    · have hf := (if_pos c7).symm.trans hf
      refine lv_tableIn (tgt := 106) hx hb dX5_pair_24 (by rw [c7]; decide) (by rw [c7]; decide) (by rw [c7]; rfl) (by decide) ?_
      refine lv_aload_n hx hb dX5_pair_106 rfl (lv_at hl 0 rfl) ?_
      refine x_get hx hb hts inX5_pair_5 hown hK hP 0 rfl rfl 1 (by decide) mX5_pair_1 rfl dX5_pair_107 ?_
      refine lv_iload_n hx hb dX5_pair_110 rfl (lv_at hl 1 rfl) ?_
      refine lv_iload_n hx hb dX5_pair_111 rfl (lv_at hl 2 rfl) ?_
      obtain ⟨v15, h15, hf⟩ := ob hf
      refine x_pV (As := [.int x1, .int x2]) (rest := []) S hK (kX0_whiteAbove l E q f v3 z x1 x2 h15) (cwV 2 hts gX5_pair_X0_whiteAbove rfl rfl rfl (by decide +kernel) ⟨Nat.le_of_ble_eq_true rfl, Nat.le_of_ble_eq_true rfl⟩) (hP.sub [7, 8, 9, 10, 11, 12, 13, 14, 15, 16, 17, 18, 19, 20, 21, 22] rfl) 0 rfl rfl rfl rfl hl.1 (Nat.le_of_ble_eq_true rfl) dX5_pair_112 rfl ⟨Nat.zero_le _, Nat.zero_le _⟩ ?_
      refine lv_aload_n hx hb dX5_pair_115 rfl (lv_at hl 0 rfl) ?_
      refine x_get hx hb hts inX5_pair_5 hown hK hP 0 rfl rfl 1 (by decide) mX5_pair_1 rfl dX5_pair_116 ?_
      obtain ⟨v16, h16, hf⟩ := ob hf
      refine x_pV (As := []) (rest := [.long v15]) S hK (kX0_whiteBelow l E q f v3 z h16) (cwV 0 hts gX5_pair_X0_whiteBelow rfl rfl rfl (by decide +kernel) ⟨Nat.le_of_ble_eq_true rfl, Nat.le_of_ble_eq_true rfl⟩) (hP.sub [7, 8, 9, 10, 11, 12, 13, 14, 15, 16, 17, 18, 19, 20, 21, 22] rfl) 0 rfl rfl rfl rfl hl.1 (Nat.le_of_ble_eq_true rfl) dX5_pair_119 rfl ⟨Nat.zero_le _, Nat.zero_le _⟩ ?_
      obtain ⟨v17, h17, hf⟩ := ob hf
      refine x_pS (As := [.long v15, .long v16]) (rest := []) S hK (kX5_belowOf l E v15 v16 h17) (va_cwS 2 hts gX5_pair_X5_belowOf rfl rfl rfl (by decide +kernel) ⟨Nat.le_of_ble_eq_true rfl, Nat.le_of_ble_eq_true rfl⟩) x_nil rfl hl.1 (Nat.le_of_ble_eq_true rfl) dX5_pair_122 rfl ⟨Nat.zero_le _, Nat.zero_le _⟩ ?_
      obtain rfl := Option.some.inj hf
      subst hA
      exact x_lretM hx hb hr hlk hP hS dX5_pair_125
    have hf := (if_neg c7).symm.trans hf
    by_cases c8 : x3 = (4 : Int32)
    · have hf := (if_pos c8).symm.trans hf
      refine lv_tableIn (tgt := 126) hx hb dX5_pair_24 (by rw [c8]; decide) (by rw [c8]; decide) (by rw [c8]; rfl) (by decide) ?_
      refine lv_aload_n hx hb dX5_pair_126 rfl (lv_at hl 0 rfl) ?_
      refine x_get hx hb hts inX5_pair_5 hown hK hP 0 rfl rfl 1 (by decide) mX5_pair_1 rfl dX5_pair_127 ?_
      refine lv_iload_n hx hb dX5_pair_130 rfl (lv_at hl 1 rfl) ?_
      refine lv_iload_n hx hb dX5_pair_131 rfl (lv_at hl 2 rfl) ?_
      obtain ⟨v18, h18, hf⟩ := ob hf
      refine x_pV (As := [.int x1, .int x2]) (rest := []) S hK (kX0_leftOverAbove l E q f v3 z x1 x2 h18) (cwV 2 hts gX5_pair_X0_leftOverAbove rfl rfl rfl (by decide +kernel) ⟨Nat.le_of_ble_eq_true rfl, Nat.le_of_ble_eq_true rfl⟩) (hP.sub [7, 8, 9, 10, 11, 12, 13, 14, 15, 16, 17, 18, 19, 20, 21, 22] rfl) 0 rfl rfl rfl rfl hl.1 (Nat.le_of_ble_eq_true rfl) dX5_pair_132 rfl ⟨Nat.zero_le _, Nat.zero_le _⟩ ?_
      refine lv_aload_n hx hb dX5_pair_135 rfl (lv_at hl 0 rfl) ?_
      refine x_get hx hb hts inX5_pair_5 hown hK hP 0 rfl rfl 1 (by decide) mX5_pair_1 rfl dX5_pair_136 ?_
      obtain ⟨v19, h19, hf⟩ := ob hf
      refine x_pV (As := []) (rest := [.long v18]) S hK (kX0_whiteBelow l E q f v3 z h19) (cwV 0 hts gX5_pair_X0_whiteBelow rfl rfl rfl (by decide +kernel) ⟨Nat.le_of_ble_eq_true rfl, Nat.le_of_ble_eq_true rfl⟩) (hP.sub [7, 8, 9, 10, 11, 12, 13, 14, 15, 16, 17, 18, 19, 20, 21, 22] rfl) 0 rfl rfl rfl rfl hl.1 (Nat.le_of_ble_eq_true rfl) dX5_pair_139 rfl ⟨Nat.zero_le _, Nat.zero_le _⟩ ?_
      obtain ⟨v20, h20, hf⟩ := ob hf
      refine x_pS (As := [.long v18, .long v19]) (rest := []) S hK (kX5_aboveOf l E v18 v19 h20) (va_cwS 2 hts gX5_pair_X5_aboveOf rfl rfl rfl (by decide +kernel) ⟨Nat.le_of_ble_eq_true rfl, Nat.le_of_ble_eq_true rfl⟩) x_nil rfl hl.1 (Nat.le_of_ble_eq_true rfl) dX5_pair_142 rfl ⟨Nat.zero_le _, Nat.zero_le _⟩ ?_
      obtain rfl := Option.some.inj hf
      subst hA
      exact x_lretM hx hb hr hlk hP hS dX5_pair_145
    have hf := (if_neg c8).symm.trans hf
    by_cases c9 : x3 = (5 : Int32)
    · have hf := (if_pos c9).symm.trans hf
      refine lv_tableIn (tgt := 146) hx hb dX5_pair_24 (by rw [c9]; decide) (by rw [c9]; decide) (by rw [c9]; rfl) (by decide) ?_
      refine lv_aload_n hx hb dX5_pair_146 rfl (lv_at hl 0 rfl) ?_
      refine x_get hx hb hts inX5_pair_5 hown hK hP 0 rfl rfl 1 (by decide) mX5_pair_1 rfl dX5_pair_147 ?_
      refine lv_iload_n hx hb dX5_pair_150 rfl (lv_at hl 1 rfl) ?_
      refine lv_iload_n hx hb dX5_pair_151 rfl (lv_at hl 2 rfl) ?_
      obtain ⟨v21, h21, hf⟩ := ob hf
      refine x_pV (As := [.int x1, .int x2]) (rest := []) S hK (kX0_leftOverAbove l E q f v3 z x1 x2 h21) (cwV 2 hts gX5_pair_X0_leftOverAbove rfl rfl rfl (by decide +kernel) ⟨Nat.le_of_ble_eq_true rfl, Nat.le_of_ble_eq_true rfl⟩) (hP.sub [7, 8, 9, 10, 11, 12, 13, 14, 15, 16, 17, 18, 19, 20, 21, 22] rfl) 0 rfl rfl rfl rfl hl.1 (Nat.le_of_ble_eq_true rfl) dX5_pair_152 rfl ⟨Nat.zero_le _, Nat.zero_le _⟩ ?_
      refine lv_aload_n hx hb dX5_pair_155 rfl (lv_at hl 0 rfl) ?_
      refine x_get hx hb hts inX5_pair_5 hown hK hP 0 rfl rfl 1 (by decide) mX5_pair_1 rfl dX5_pair_156 ?_
      obtain ⟨v22, h22, hf⟩ := ob hf
      refine x_pV (As := []) (rest := [.long v21]) S hK (kX0_whiteBelow l E q f v3 z h22) (cwV 0 hts gX5_pair_X0_whiteBelow rfl rfl rfl (by decide +kernel) ⟨Nat.le_of_ble_eq_true rfl, Nat.le_of_ble_eq_true rfl⟩) (hP.sub [7, 8, 9, 10, 11, 12, 13, 14, 15, 16, 17, 18, 19, 20, 21, 22] rfl) 0 rfl rfl rfl rfl hl.1 (Nat.le_of_ble_eq_true rfl) dX5_pair_159 rfl ⟨Nat.zero_le _, Nat.zero_le _⟩ ?_
      obtain ⟨v23, h23, hf⟩ := ob hf
      refine x_pS (As := [.long v21, .long v22]) (rest := []) S hK (kX5_belowOf l E v21 v22 h23) (va_cwS 2 hts gX5_pair_X5_belowOf rfl rfl rfl (by decide +kernel) ⟨Nat.le_of_ble_eq_true rfl, Nat.le_of_ble_eq_true rfl⟩) x_nil rfl hl.1 (Nat.le_of_ble_eq_true rfl) dX5_pair_162 rfl ⟨Nat.zero_le _, Nat.zero_le _⟩ ?_
      obtain rfl := Option.some.inj hf
      subst hA
      exact x_lretM hx hb hr hlk hP hS dX5_pair_165
    have hf := (if_neg c9).symm.trans hf
    refine lv_tableOut (tgt := 166) hx hb dX5_pair_24 (x_tab5 c4 c5 c6 c7 c8 c9) (by decide) ?_
    refine lv_ldc2 hx hb hown (hts _ mX5_pair_2) dX5_pair_166 ?_
    obtain rfl := Option.some.inj hf
    subst hA
    exact x_lretM hx hb hr hlk hP hS dX5_pair_169
  · have hf := (if_pos c2).symm.trans hf
    refine lv_ldc2 hx hb hown (hts _ mX5_pair_3) dX5_pair_12 ?_
    obtain rfl := Option.some.inj hf
    subst hA
    exact x_lretM hx hb hr hlk hP hS dX5_pair_15
abbrev rmX5_white : Room := { frames := 5, cells := 0, slots := 0, locals := 119 }
theorem mX5_white_0 : Cond.fieldLink RX5 12 "EvenWhite" "fount" "LEvenWhite$Fount;" ∈ wsX5_white := by decide +kernel
theorem mX5_white_1 : Cond.fieldLink RX5 21 "EvenWhite" "even" "LEvenWhite$Even;" ∈ wsX5_white := by decide +kernel
theorem mX5_white_2 : Cond.constantLong RX5 209 (8) ∈ wsX5_white := by decide +kernel
theorem mX5_white_3 : Cond.constant RX5 75 (-1000000001) ∈ wsX5_white := by decide +kernel
theorem inX5_white_5 : ∀ w ∈ u_ws RX5 TX5 6, w ∈ wsX5_white := by decide +kernel
def fX5_white (z : Fo) (ev : Ev) (li : Li) (te : Te) (pa : Pa) (im : Im) (x1 : Int32) (x2 : Int32) : Option (Int32 × Ev) :=
  (fX1_hasPair z x1 x2).bind fun v1 =>
  (if v1 = (0 : Int32) then
  some ((-1000000001 : Int32), ev)
  else (fX0_find ev z).bind fun v3 =>
  (fX0_wholeSpace v3 z x1 (1 : Int32)).bind fun v4 =>
  (fX0_wholeSpace v3 z x2 (0 : Int32)).bind fun v5 =>
  (fX1_bareOf z x1 x2).bind fun v6 =>
  some ((Int64.toInt32 ((Int32.toInt64 v6) + ((8 : Int64) * (v4 + v5)))), v3))
set_option maxHeartbeats 4000000 in
set_option maxRecDepth 100000 in
theorem kX5_white (l : Launch) (E : xG) (tq : Nat → Nat) (f : Nat → Nat) (q : Nat → Nat) (g : Nat → Nat) (h : Nat → Nat) (pq : Nat → Nat) (rq : Nat → Nat → Nat) (bq : Nat → Nat → Nat) (z : Fo) (ev : Ev) (li : Li) (te : Te) (pa : Pa) (im : Im) (x1 : Int32) (x2 : Int32) {r : (Int32 × Ev)} (hf : fX5_white z ev li te pa im x1 x2 = some r) : xMut l yX5_white wsX5_white rmX5_white E [.ref (tq 0), .int x1, .int x2] (wW E tq f q g h pq rq bq z ev li te pa im) (some (.int r.1)) (wW E tq f q g h pq rq bq z r.2 li te pa im) := by
  refine Met.ofW (cc := cX5_white) (maxL := 5) (ret := (some .int)) (by decide) rfl ?_
  intro p e s m args below meth c s₁ B hml hv
  obtain ⟨rfl, hP, hK, hD0⟩ := hv
  have hx := B.exec
  have hb := B.bytes
  have hr := B.returns
  have hts := atoms_spec (ws := wsX5_white) B.pre
  have hown : s.vm.findClass RX5 = some m.cls := findClass_of_methodNamed B.named
  have hlk := B.notSynchronized
  have S : CallFix p m c cX5_white 5 s _ wsX5_white RX5 := ⟨hx, hb, hml, hown, hts⟩
  have hl := lv_entry ([.ref (tq 0), .int x1, .int x2]) (n := 5) (Nat.le_of_ble_eq_true rfl)
  rw [lg_entry_eq]
  generalize (lg_sl ([.ref (tq 0), .int x1, .int x2]) ++ List.replicate (5 - (lg_sl ([.ref (tq 0), .int x1, .int x2])).length) Slot.unset).toArray = ls at hl ⊢
  have hl : lv_has ls 5 [(0, .ref (tq 0)), (1, .int x1), (2, .int x2)] := hl
  have hD := xA.self hD0
  have hS : va_S (xA (wW E tq f q g h pq rq bq z ev li te pa im)) s.heap s.heap [] := va_S.rf
  show W p l e rmX5_white s m _ below meth c s.heap [] 0 0 _ _
  generalize hA : xA (wW E tq f q g h pq rq bq z ev li te pa im) = A at hD hS ⊢
  unfold fX5_white at hf
  refine lv_aload_n hx hb dX5_white_0 rfl (lv_at hl 0 rfl) ?_
  refine x_get hx hb hts inX5_white_5 hown hK hP 0 rfl rfl 0 (by decide) mX5_white_0 rfl dX5_white_1 ?_
  refine lv_iload_n hx hb dX5_white_4 rfl (lv_at hl 1 rfl) ?_
  refine lv_iload_n hx hb dX5_white_5 rfl (lv_at hl 2 rfl) ?_
  obtain ⟨v1, h1, hf⟩ := ob hf
  refine x_pV (As := [.int x1, .int x2]) (rest := []) S hK (kX1_hasPair l E f z x1 x2 h1) (cwV 2 hts gX5_white_X1_hasPair rfl rfl rfl (by decide +kernel) ⟨Nat.le_of_ble_eq_true rfl, Nat.le_of_ble_eq_true rfl⟩) (hP.sub [19, 20, 21, 22] rfl) 0 rfl rfl rfl rfl hl.1 (Nat.le_of_ble_eq_true rfl) dX5_white_6 rfl ⟨Nat.zero_le _, Nat.zero_le _⟩ ?_
  refine lv_if_ne (tgt := 15) hx hb dX5_white_9 (by decide) (fun c2 => ?_) (fun c2 => ?_)
  · have hf := (if_neg c2).symm.trans hf
    refine lv_aload_n hx hb dX5_white_15 rfl (lv_at hl 0 rfl) ?_
    refine x_get hx hb hts inX5_white_5 hown hK hP 0 rfl rfl 1 (by decide) mX5_white_1 rfl dX5_white_16 ?_
    obtain ⟨v3, h3, hf⟩ := ob hf
    refine x_mR (ws' := wW E tq f q g h pq rq bq z v3 li te pa im) (As := []) (rest := []) S hK (kX0_find l E q f ev z h3) (cwV 0 hts gX5_white_X0_find rfl rfl rfl (by decide +kernel) ⟨Nat.le_of_ble_eq_true rfl, Nat.le_of_ble_eq_true rfl⟩) hP hD hS 7 16 rfl rfl 0 rfl rfl rfl rfl hl.1 (Nat.le_of_ble_eq_true rfl) dX5_white_19 rfl ⟨Nat.zero_le _, Nat.zero_le _⟩ rfl (fun H locs hP hD hS => ?_)
    refine lv_aload_n hx hb dX5_white_22 rfl (lv_at hl 0 rfl) ?_
    refine x_get hx hb hts inX5_white_5 hown hK hP 0 rfl rfl 1 (by decide) mX5_white_1 rfl dX5_white_23 ?_
    refine lv_iload_n hx hb dX5_white_26 rfl (lv_at hl 1 rfl) ?_
    refine lv_iconst (v := 1) hx hb dX5_white_27 (by decide) ?_
    obtain ⟨v4, h4, hf⟩ := ob hf
    refine x_pV (As := [.int x1, .int (1 : Int32)]) (rest := []) S hK (kX0_wholeSpace l E q f v3 z x1 (1 : Int32) h4) (cwV 2 hts gX5_white_X0_wholeSpace rfl rfl rfl (by decide +kernel) ⟨Nat.le_of_ble_eq_true rfl, Nat.le_of_ble_eq_true rfl⟩) (hP.sub [7, 8, 9, 10, 11, 12, 13, 14, 15, 16, 17, 18, 19, 20, 21, 22] rfl) 0 rfl rfl rfl rfl hl.1 (Nat.le_of_ble_eq_true rfl) dX5_white_28 rfl ⟨Nat.zero_le _, Nat.zero_le _⟩ ?_
    refine lv_aload_n hx hb dX5_white_31 rfl (lv_at hl 0 rfl) ?_
    refine x_get hx hb hts inX5_white_5 hown hK hP 0 rfl rfl 1 (by decide) mX5_white_1 rfl dX5_white_32 ?_
    refine lv_iload_n hx hb dX5_white_35 rfl (lv_at hl 2 rfl) ?_
    refine lv_iconst (v := 0) hx hb dX5_white_36 (by decide) ?_
    obtain ⟨v5, h5, hf⟩ := ob hf
    refine x_pV (As := [.int x2, .int (0 : Int32)]) (rest := [.long v4]) S hK (kX0_wholeSpace l E q f v3 z x2 (0 : Int32) h5) (cwV 2 hts gX5_white_X0_wholeSpace rfl rfl rfl (by decide +kernel) ⟨Nat.le_of_ble_eq_true rfl, Nat.le_of_ble_eq_true rfl⟩) (hP.sub [7, 8, 9, 10, 11, 12, 13, 14, 15, 16, 17, 18, 19, 20, 21, 22] rfl) 0 rfl rfl rfl rfl hl.1 (Nat.le_of_ble_eq_true rfl) dX5_white_37 rfl ⟨Nat.zero_le _, Nat.zero_le _⟩ ?_
    refine lv_ladd hx hb dX5_white_40 ?_
    refine lv_lstore_n (lv' := [(3, .long (v4 + v5)), (0, .ref (tq 0)), (1, .int x1), (2, .int x2)]) hx hb dX5_white_41 rfl hl (by decide) rfl (fun ls hl => ?_)
    refine lv_aload_n hx hb dX5_white_42 rfl (lv_at hl 1 rfl) ?_
    refine x_get hx hb hts inX5_white_5 hown hK hP 0 rfl rfl 0 (by decide) mX5_white_0 rfl dX5_white_43 ?_
    refine lv_iload_n hx hb dX5_white_46 rfl (lv_at hl 2 rfl) ?_
    refine lv_iload_n hx hb dX5_white_47 rfl (lv_at hl 3 rfl) ?_
    obtain ⟨v6, h6, hf⟩ := ob hf
    refine x_pV (As := [.int x1, .int x2]) (rest := []) S hK (kX1_bareOf l E f z x1 x2 h6) (cwV 2 hts gX5_white_X1_bareOf rfl rfl rfl (by decide +kernel) ⟨Nat.le_of_ble_eq_true rfl, Nat.le_of_ble_eq_true rfl⟩) (hP.sub [19, 20, 21, 22] rfl) 0 rfl rfl rfl rfl hl.1 (Nat.le_of_ble_eq_true rfl) dX5_white_48 rfl ⟨Nat.zero_le _, Nat.zero_le _⟩ ?_
    refine lv_i2l (v := (Int32.toInt64 v6)) hx hb dX5_white_51 rfl ?_
    refine lv_ldc2 hx hb hown (hts _ mX5_white_2) dX5_white_52 ?_
    refine lv_lload_n hx hb dX5_white_55 rfl (lv_at hl 0 rfl) ?_
    refine lv_lmul hx hb dX5_white_56 ?_
    refine lv_ladd hx hb dX5_white_57 ?_
    refine lv_l2i (v := (Int64.toInt32 ((Int32.toInt64 v6) + ((8 : Int64) * (v4 + v5))))) hx hb dX5_white_58 rfl ?_
    obtain rfl := Option.some.inj hf
    subst hA
    exact x_iretM hx hb hr hlk (vp_nar_int _) hP hS dX5_white_59
  · have hf := (if_pos c2).symm.trans hf
    refine lv_ldc hx hb hown (hts _ mX5_white_3) dX5_white_12 ?_
    obtain rfl := Option.some.inj hf
    subst hA
    exact x_iretM hx hb hr hlk (vp_nar_int _) hP hS dX5_white_14
abbrev rmX5_set : Room := { frames := 2, cells := 0, slots := 0, locals := 43 }
theorem mX5_set_0 : Cond.fieldLink RX5 12 "EvenWhite" "fount" "LEvenWhite$Fount;" ∈ wsX5_set := by decide +kernel
theorem mX5_set_1 : Cond.fieldLink RX5 37 "EvenWhite" "line" "LEvenWhite$Line;" ∈ wsX5_set := by decide +kernel
theorem mX5_set_2 : Cond.fieldLink RX5 163 "EvenWhite$Line" "many" "I" ∈ wsX5_set := by decide +kernel
theorem mX5_set_3 : Cond.constant RX5 211 (-1000000004) ∈ wsX5_set := by decide +kernel
theorem mX5_set_4 : Cond.constant RX5 75 (-1000000001) ∈ wsX5_set := by decide +kernel
theorem inX5_set_2 : ∀ w ∈ u_ws RX2 TX2 5, w ∈ wsX5_set := by decide +kernel
theorem inX5_set_5 : ∀ w ∈ u_ws RX5 TX5 6, w ∈ wsX5_set := by decide +kernel
def fX5_set (z : Fo) (ev : Ev) (li : Li) (te : Te) (pa : Pa) (im : Im) (x1 : Int32) : Option (Int32 × Li) :=
  (fX1_hasLetter z x1).bind fun v1 =>
  (if v1 = (0 : Int32) then
  some ((-1000000001 : Int32), li)
  else (if (Li_many li) < (16 : Int32) then
  (fX2_add li x1).bind fun v4 =>
  some ((Li_many v4), v4)
  else some ((-1000000004 : Int32), li)))
set_option maxHeartbeats 4000000 in
set_option maxRecDepth 100000 in
theorem kX5_set (l : Launch) (E : xG) (tq : Nat → Nat) (f : Nat → Nat) (q : Nat → Nat) (g : Nat → Nat) (h : Nat → Nat) (pq : Nat → Nat) (rq : Nat → Nat → Nat) (bq : Nat → Nat → Nat) (z : Fo) (ev : Ev) (li : Li) (te : Te) (pa : Pa) (im : Im) (x1 : Int32) {r : (Int32 × Li)} (hf : fX5_set z ev li te pa im x1 = some r) : xMut l yX5_set wsX5_set rmX5_set E [.ref (tq 0), .int x1] (wW E tq f q g h pq rq bq z ev li te pa im) (some (.int r.1)) (wW E tq f q g h pq rq bq z ev r.2 te pa im) := by
  refine Met.ofW (cc := cX5_set) (maxL := 2) (ret := (some .int)) (by decide) rfl ?_
  intro p e s m args below meth c s₁ B hml hv
  obtain ⟨rfl, hP, hK, hD0⟩ := hv
  have hx := B.exec
  have hb := B.bytes
  have hr := B.returns
  have hts := atoms_spec (ws := wsX5_set) B.pre
  have hown : s.vm.findClass RX5 = some m.cls := findClass_of_methodNamed B.named
  have hlk := B.notSynchronized
  have S : CallFix p m c cX5_set 2 s _ wsX5_set RX5 := ⟨hx, hb, hml, hown, hts⟩
  have hl := lv_entry ([.ref (tq 0), .int x1]) (n := 2) (Nat.le_of_ble_eq_true rfl)
  rw [lg_entry_eq]
  generalize (lg_sl ([.ref (tq 0), .int x1]) ++ List.replicate (2 - (lg_sl ([.ref (tq 0), .int x1])).length) Slot.unset).toArray = ls at hl ⊢
  have hl : lv_has ls 2 [(0, .ref (tq 0)), (1, .int x1)] := hl
  have hD := xA.self hD0
  have hS : va_S (xA (wW E tq f q g h pq rq bq z ev li te pa im)) s.heap s.heap [] := va_S.rf
  show W p l e rmX5_set s m _ below meth c s.heap [] 0 0 _ _
  generalize hA : xA (wW E tq f q g h pq rq bq z ev li te pa im) = A at hD hS ⊢
  unfold fX5_set at hf
  refine lv_aload_n hx hb dX5_set_0 rfl (lv_at hl 0 rfl) ?_
  refine x_get hx hb hts inX5_set_5 hown hK hP 0 rfl rfl 0 (by decide) mX5_set_0 rfl dX5_set_1 ?_
  refine lv_iload_n hx hb dX5_set_4 rfl (lv_at hl 1 rfl) ?_
  obtain ⟨v1, h1, hf⟩ := ob hf
  refine x_pV (As := [.int x1]) (rest := []) S hK (kX1_hasLetter l E f z x1 h1) (cwV 1 hts gX5_set_X1_hasLetter rfl rfl rfl (by decide +kernel) ⟨Nat.le_of_ble_eq_true rfl, Nat.le_of_ble_eq_true rfl⟩) (hP.sub [19, 20, 21, 22] rfl) 0 rfl rfl rfl rfl hl.1 (Nat.le_of_ble_eq_true rfl) dX5_set_5 rfl ⟨Nat.zero_le _, Nat.zero_le _⟩ ?_
  refine lv_if_ne (tgt := 14) hx hb dX5_set_8 (by decide) (fun c2 => ?_) (fun c2 => ?_)
  · have hf := (if_neg c2).symm.trans hf
    refine lv_aload_n hx hb dX5_set_14 rfl (lv_at hl 0 rfl) ?_
    refine x_get hx hb hts inX5_set_5 hown hK hP 0 rfl rfl 3 (by decide) mX5_set_1 rfl dX5_set_15 ?_
    refine x_get hx hb hts inX5_set_2 hown hK hP 3 rfl rfl 0 (by decide) mX5_set_2 rfl dX5_set_18 ?_
    refine lv_bipush (v := 16) hx hb dX5_set_21 (by decide) ?_
    refine lv_icmp_lt (tgt := 29) hx hb dX5_set_23 (by decide) (fun c3 => ?_) (fun c3 => ?_)
    · have hf := (if_pos c3).symm.trans hf
      refine lv_aload_n hx hb dX5_set_29 rfl (lv_at hl 0 rfl) ?_
      refine x_get hx hb hts inX5_set_5 hown hK hP 0 rfl rfl 3 (by decide) mX5_set_1 rfl dX5_set_30 ?_
      refine lv_iload_n hx hb dX5_set_33 rfl (lv_at hl 1 rfl) ?_
      obtain ⟨v4, h4, hf⟩ := ob hf
      refine x_mR (ws' := wW E tq f q g h pq rq bq z ev v4 te pa im) (As := [.int x1]) (rest := []) S hK (kX2_add l E g h q f li x1 h4) (cwV 1 hts gX5_set_X2_add rfl rfl rfl (by decide +kernel) ⟨Nat.le_of_ble_eq_true rfl, Nat.le_of_ble_eq_true rfl⟩) hP hD hS 3 2 rfl rfl 0 rfl rfl rfl rfl hl.1 (Nat.le_of_ble_eq_true rfl) dX5_set_34 rfl ⟨Nat.zero_le _, Nat.zero_le _⟩ rfl (fun H locs hP hD hS => ?_)
      refine lv_aload_n hx hb dX5_set_37 rfl (lv_at hl 0 rfl) ?_
      refine x_get hx hb hts inX5_set_5 hown hK hP 0 rfl rfl 3 (by decide) mX5_set_1 rfl dX5_set_38 ?_
      refine x_get hx hb hts inX5_set_2 hown hK hP 3 rfl rfl 0 (by decide) mX5_set_2 rfl dX5_set_41 ?_
      obtain rfl := Option.some.inj hf
      subst hA
      exact x_iretM hx hb hr hlk (vp_nar_int _) hP hS dX5_set_44
    · have hf := (if_neg c3).symm.trans hf
      refine lv_ldc hx hb hown (hts _ mX5_set_3) dX5_set_26 ?_
      obtain rfl := Option.some.inj hf
      subst hA
      exact x_iretM hx hb hr hlk (vp_nar_int _) hP hS dX5_set_28
  · have hf := (if_pos c2).symm.trans hf
    refine lv_ldc hx hb hown (hts _ mX5_set_4) dX5_set_11 ?_
    obtain rfl := Option.some.inj hf
    subst hA
    exact x_iretM hx hb hr hlk (vp_nar_int _) hP hS dX5_set_13
abbrev rmX5_wipe : Room := { frames := 1, cells := 0, slots := 0, locals := 20 }
theorem mX5_wipe_0 : Cond.fieldLink RX5 37 "EvenWhite" "line" "LEvenWhite$Line;" ∈ wsX5_wipe := by decide +kernel
theorem mX5_wipe_1 : Cond.fieldLink RX5 163 "EvenWhite$Line" "many" "I" ∈ wsX5_wipe := by decide +kernel
theorem inX5_wipe_2 : ∀ w ∈ u_ws RX2 TX2 5, w ∈ wsX5_wipe := by decide +kernel
theorem inX5_wipe_5 : ∀ w ∈ u_ws RX5 TX5 6, w ∈ wsX5_wipe := by decide +kernel
def fX5_wipe (z : Fo) (ev : Ev) (li : Li) (te : Te) (pa : Pa) (im : Im) : Option (Int32 × Li) :=
  (fX2_makeEmpty li).bind fun v1 =>
  some ((Li_many li), v1)
set_option maxHeartbeats 4000000 in
set_option maxRecDepth 100000 in
theorem kX5_wipe (l : Launch) (E : xG) (tq : Nat → Nat) (f : Nat → Nat) (q : Nat → Nat) (g : Nat → Nat) (h : Nat → Nat) (pq : Nat → Nat) (rq : Nat → Nat → Nat) (bq : Nat → Nat → Nat) (z : Fo) (ev : Ev) (li : Li) (te : Te) (pa : Pa) (im : Im) {r : (Int32 × Li)} (hf : fX5_wipe z ev li te pa im = some r) : xMut l yX5_wipe wsX5_wipe rmX5_wipe E [.ref (tq 0)] (wW E tq f q g h pq rq bq z ev li te pa im) (some (.int r.1)) (wW E tq f q g h pq rq bq z ev r.2 te pa im) := by
  refine Met.ofW (cc := cX5_wipe) (maxL := 2) (ret := (some .int)) (by decide) rfl ?_
  intro p e s m args below meth c s₁ B hml hv
  obtain ⟨rfl, hP, hK, hD0⟩ := hv
  have hx := B.exec
  have hb := B.bytes
  have hr := B.returns
  have hts := atoms_spec (ws := wsX5_wipe) B.pre
  have hown : s.vm.findClass RX5 = some m.cls := findClass_of_methodNamed B.named
  have hlk := B.notSynchronized
  have S : CallFix p m c cX5_wipe 2 s _ wsX5_wipe RX5 := ⟨hx, hb, hml, hown, hts⟩
  have hl := lv_entry ([.ref (tq 0)]) (n := 2) (Nat.le_of_ble_eq_true rfl)
  rw [lg_entry_eq]
  generalize (lg_sl ([.ref (tq 0)]) ++ List.replicate (2 - (lg_sl ([.ref (tq 0)])).length) Slot.unset).toArray = ls at hl ⊢
  have hl : lv_has ls 2 [(0, .ref (tq 0))] := hl
  have hD := xA.self hD0
  have hS : va_S (xA (wW E tq f q g h pq rq bq z ev li te pa im)) s.heap s.heap [] := va_S.rf
  show W p l e rmX5_wipe s m _ below meth c s.heap [] 0 0 _ _
  generalize hA : xA (wW E tq f q g h pq rq bq z ev li te pa im) = A at hD hS ⊢
  unfold fX5_wipe at hf
  refine lv_aload_n hx hb dX5_wipe_0 rfl (lv_at hl 0 rfl) ?_
  refine x_get hx hb hts inX5_wipe_5 hown hK hP 0 rfl rfl 3 (by decide) mX5_wipe_0 rfl dX5_wipe_1 ?_
  refine x_get hx hb hts inX5_wipe_2 hown hK hP 3 rfl rfl 0 (by decide) mX5_wipe_1 rfl dX5_wipe_4 ?_
  refine lv_istore_n (lv' := [(1, .int (Li_many li)), (0, .ref (tq 0))]) hx hb dX5_wipe_7 rfl hl (by decide) rfl (fun ls hl => ?_)
  refine lv_aload_n hx hb dX5_wipe_8 rfl (lv_at hl 1 rfl) ?_
  refine x_get hx hb hts inX5_wipe_5 hown hK hP 0 rfl rfl 3 (by decide) mX5_wipe_0 rfl dX5_wipe_9 ?_
  obtain ⟨v1, h1, hf⟩ := ob hf
  refine x_mR (ws' := wW E tq f q g h pq rq bq z ev v1 te pa im) (As := []) (rest := []) S hK (kX2_makeEmpty l E g h q f li h1) (cwV 0 hts gX5_wipe_X2_makeEmpty rfl rfl rfl (by decide +kernel) ⟨Nat.le_of_ble_eq_true rfl, Nat.le_of_ble_eq_true rfl⟩) hP hD hS 3 2 rfl rfl 0 rfl rfl rfl rfl hl.1 (Nat.le_of_ble_eq_true rfl) dX5_wipe_12 rfl ⟨Nat.zero_le _, Nat.zero_le _⟩ rfl (fun H locs hP hD hS => ?_)
  refine lv_iload_n hx hb dX5_wipe_15 rfl (lv_at hl 0 rfl) ?_
  obtain rfl := Option.some.inj hf
  subst hA
  exact x_iretM hx hb hr hlk (vp_nar_int _) hP hS dX5_wipe_16
abbrev rmX5_place : Room := { frames := 2, cells := 0, slots := 0, locals := 43 }
theorem mX5_place_0 : Cond.fieldLink RX5 37 "EvenWhite" "line" "LEvenWhite$Line;" ∈ wsX5_place := by decide +kernel
theorem mX5_place_1 : Cond.constant RX5 53 (-1000000002) ∈ wsX5_place := by decide +kernel
theorem inX5_place_5 : ∀ w ∈ u_ws RX5 TX5 6, w ∈ wsX5_place := by decide +kernel
def fX5_place (z : Fo) (ev : Ev) (li : Li) (te : Te) (pa : Pa) (im : Im) (x1 : Int32) : Option Int32 :=
  ((if (0 : Int32) ≤ x1 then
  (fX2_letterAt li x1).bind fun v3 =>
  some v3
  else some (-1000000002 : Int32))).bind fun v1 =>
  some v1
set_option maxHeartbeats 4000000 in
set_option maxRecDepth 100000 in
theorem kX5_place (l : Launch) (E : xG) (tq : Nat → Nat) (f : Nat → Nat) (q : Nat → Nat) (g : Nat → Nat) (h : Nat → Nat) (pq : Nat → Nat) (rq : Nat → Nat → Nat) (bq : Nat → Nat → Nat) (z : Fo) (ev : Ev) (li : Li) (te : Te) (pa : Pa) (im : Im) (x1 : Int32) {r : Int32} (hf : fX5_place z ev li te pa im x1 = some r) : xPure l yX5_place wsX5_place rmX5_place E [.ref (tq 0), .int x1] (wW E tq f q g h pq rq bq z ev li te pa im) (.int r) := by
  refine Met.ofW (cc := cX5_place) (maxL := 2) (ret := (some .int)) (by decide) rfl ?_
  intro p e s m args below meth c s₁ B hml hv
  obtain ⟨rfl, hP, hK⟩ := hv
  have hx := B.exec
  have hb := B.bytes
  have hr := B.returns
  have hts := atoms_spec (ws := wsX5_place) B.pre
  have hown : s.vm.findClass RX5 = some m.cls := findClass_of_methodNamed B.named
  have hlk := B.notSynchronized
  have S : CallFix p m c cX5_place 2 s _ wsX5_place RX5 := ⟨hx, hb, hml, hown, hts⟩
  have hl := lv_entry ([.ref (tq 0), .int x1]) (n := 2) (Nat.le_of_ble_eq_true rfl)
  rw [lg_entry_eq]
  generalize (lg_sl ([.ref (tq 0), .int x1]) ++ List.replicate (2 - (lg_sl ([.ref (tq 0), .int x1])).length) Slot.unset).toArray = ls at hl ⊢
  have hl : lv_has ls 2 [(0, .ref (tq 0)), (1, .int x1)] := hl
  unfold fX5_place at hf
  refine lv_iload_n hx hb dX5_place_0 rfl (lv_at hl 1 rfl) ?_
  obtain ⟨v1, h1, hf⟩ := ob hf
  refine x_cutL (fun ls => lv_has ls 2 [(0, .ref (tq 0)), (1, .int x1)]) (pc := 17) (st := [.int v1]) (fun ls hl => ?_) (fun hj => ?_)
  · obtain rfl := Option.some.inj hf
    exact x_iret hx hb hr hlk (vp_nar_int _) dX5_place_17
  · have hf := h1
    refine lv_if_ge (tgt := 9) hx hb dX5_place_1 (by decide) (fun c2 => ?_) (fun c2 => ?_)
    · have hf := (if_pos c2).symm.trans hf
      refine lv_aload_n hx hb dX5_place_9 rfl (lv_at hl 0 rfl) ?_
      refine x_get hx hb hts inX5_place_5 hown hK hP 0 rfl rfl 3 (by decide) mX5_place_0 rfl dX5_place_10 ?_
      refine lv_iload_n hx hb dX5_place_13 rfl (lv_at hl 1 rfl) ?_
      obtain ⟨v3, h3, hf⟩ := ob hf
      refine x_pV (As := [.int x1]) (rest := []) S hK (kX2_letterAt l E g h q f li x1 h3) (cwV 1 hts gX5_place_X2_letterAt rfl rfl rfl (by decide +kernel) ⟨Nat.le_of_ble_eq_true rfl, Nat.le_of_ble_eq_true rfl⟩) (hP.sub [3, 4] rfl) 0 rfl rfl rfl rfl hl.1 (Nat.le_of_ble_eq_true rfl) dX5_place_14 rfl ⟨Nat.zero_le _, Nat.zero_le _⟩ ?_
      obtain rfl := Option.some.inj hf
      exact hj ls (lv_sub hl [0, 1] rfl)
    · have hf := (if_neg c2).symm.trans hf
      refine lv_ldc hx hb hown (hts _ mX5_place_1) dX5_place_4 ?_
      refine lv_goto (tgt := 17) hx hb dX5_place_6 (by decide) ?_
      obtain rfl := Option.some.inj hf
      exact hj ls (lv_sub hl [0, 1] rfl)
abbrev rmX5_sign : Room := { frames := 6, cells := 0, slots := 0, locals := 139 }
theorem mX5_sign_0 : Cond.fieldLink RX5 21 "EvenWhite" "even" "LEvenWhite$Even;" ∈ wsX5_sign := by decide +kernel
theorem mX5_sign_1 : Cond.fieldLink RX5 37 "EvenWhite" "line" "LEvenWhite$Line;" ∈ wsX5_sign := by decide +kernel
theorem mX5_sign_2 : Cond.constant RX5 53 (-1000000002) ∈ wsX5_sign := by decide +kernel
theorem inX5_sign_5 : ∀ w ∈ u_ws RX5 TX5 6, w ∈ wsX5_sign := by decide +kernel
def fX5_sign (z : Fo) (ev : Ev) (li : Li) (te : Te) (pa : Pa) (im : Im) (x1 : Int32) : Option (Int32 × Ev × Te) :=
  (if (0 : Int32) ≤ x1 then
  (fX0_find ev z).bind fun v2 =>
  (fX2_written li te v2 z).bind fun v3 =>
  (fX4_signAt v3 x1).bind fun v4 =>
  some (v4, v2, v3)
  else some ((-1000000002 : Int32), ev, te))
set_option maxHeartbeats 4000000 in
set_option maxRecDepth 100000 in
theorem kX5_sign (l : Launch) (E : xG) (tq : Nat → Nat) (f : Nat → Nat) (q : Nat → Nat) (g : Nat → Nat) (h : Nat → Nat) (pq : Nat → Nat) (rq : Nat → Nat → Nat) (bq : Nat → Nat → Nat) (z : Fo) (ev : Ev) (li : Li) (te : Te) (pa : Pa) (im : Im) (x1 : Int32) {r : (Int32 × Ev × Te)} (hf : fX5_sign z ev li te pa im x1 = some r) : xMut l yX5_sign wsX5_sign rmX5_sign E [.ref (tq 0), .int x1] (wW E tq f q g h pq rq bq z ev li te pa im) (some (.int r.1)) (wW E tq f q g h pq rq bq z r.2.1 li r.2.2 pa im) := by
  refine Met.ofW (cc := cX5_sign) (maxL := 2) (ret := (some .int)) (by decide) rfl ?_
  intro p e s m args below meth c s₁ B hml hv
  obtain ⟨rfl, hP, hK, hD0⟩ := hv
  have hx := B.exec
  have hb := B.bytes
  have hr := B.returns
  have hts := atoms_spec (ws := wsX5_sign) B.pre
  have hown : s.vm.findClass RX5 = some m.cls := findClass_of_methodNamed B.named
  have hlk := B.notSynchronized
  have S : CallFix p m c cX5_sign 2 s _ wsX5_sign RX5 := ⟨hx, hb, hml, hown, hts⟩
  have hl := lv_entry ([.ref (tq 0), .int x1]) (n := 2) (Nat.le_of_ble_eq_true rfl)
  rw [lg_entry_eq]
  generalize (lg_sl ([.ref (tq 0), .int x1]) ++ List.replicate (2 - (lg_sl ([.ref (tq 0), .int x1])).length) Slot.unset).toArray = ls at hl ⊢
  have hl : lv_has ls 2 [(0, .ref (tq 0)), (1, .int x1)] := hl
  have hD := xA.self hD0
  have hS : va_S (xA (wW E tq f q g h pq rq bq z ev li te pa im)) s.heap s.heap [] := va_S.rf
  show W p l e rmX5_sign s m _ below meth c s.heap [] 0 0 _ _
  generalize hA : xA (wW E tq f q g h pq rq bq z ev li te pa im) = A at hD hS ⊢
  unfold fX5_sign at hf
  refine lv_iload_n hx hb dX5_sign_0 rfl (lv_at hl 1 rfl) ?_
  refine lv_if_ge (tgt := 7) hx hb dX5_sign_1 (by decide) (fun c1 => ?_) (fun c1 => ?_)
  · have hf := (if_pos c1).symm.trans hf
    refine lv_aload_n hx hb dX5_sign_7 rfl (lv_at hl 0 rfl) ?_
    refine x_get hx hb hts inX5_sign_5 hown hK hP 0 rfl rfl 1 (by decide) mX5_sign_0 rfl dX5_sign_8 ?_
    obtain ⟨v2, h2, hf⟩ := ob hf
    refine x_mR (ws' := wW E tq f q g h pq rq bq z v2 li te pa im) (As := []) (rest := []) S hK (kX0_find l E q f ev z h2) (cwV 0 hts gX5_sign_X0_find rfl rfl rfl (by decide +kernel) ⟨Nat.le_of_ble_eq_true rfl, Nat.le_of_ble_eq_true rfl⟩) hP hD hS 7 16 rfl rfl 0 rfl rfl rfl rfl hl.1 (Nat.le_of_ble_eq_true rfl) dX5_sign_11 rfl ⟨Nat.zero_le _, Nat.zero_le _⟩ rfl (fun H locs hP hD hS => ?_)
    refine lv_aload_n hx hb dX5_sign_14 rfl (lv_at hl 0 rfl) ?_
    refine x_get hx hb hts inX5_sign_5 hown hK hP 0 rfl rfl 3 (by decide) mX5_sign_1 rfl dX5_sign_15 ?_
    obtain ⟨v3, h3, hf⟩ := ob hf
    refine x_mR (ws' := wW E tq f q g h pq rq bq z v2 li v3 pa im) (As := []) (rest := []) S hK (kX2_written l E g h q f li te v2 z h3) (cwV 0 hts gX5_sign_X2_written rfl rfl rfl (by decide +kernel) ⟨Nat.le_of_ble_eq_true rfl, Nat.le_of_ble_eq_true rfl⟩) hP hD hS 3 20 rfl rfl 0 rfl rfl rfl rfl hl.1 (Nat.le_of_ble_eq_true rfl) dX5_sign_18 rfl ⟨Nat.zero_le _, Nat.zero_le _⟩ rfl (fun H locs hP hD hS => ?_)
    refine lv_iload_n hx hb dX5_sign_21 rfl (lv_at hl 1 rfl) ?_
    obtain ⟨v4, h4, hf⟩ := ob hf
    refine x_pV (As := [.int x1]) (rest := []) S hK (kX4_signAt l E h v3 x1 h4) (cwV 1 hts gX5_sign_X4_signAt rfl rfl rfl (by decide +kernel) ⟨Nat.le_of_ble_eq_true rfl, Nat.le_of_ble_eq_true rfl⟩) (hP.sub [5, 6] rfl) 0 rfl rfl rfl rfl hl.1 (Nat.le_of_ble_eq_true rfl) dX5_sign_22 rfl ⟨Nat.zero_le _, Nat.zero_le _⟩ ?_
    obtain rfl := Option.some.inj hf
    subst hA
    exact x_iretM hx hb hr hlk (vp_nar_int _) hP hS dX5_sign_25
  · have hf := (if_neg c1).symm.trans hf
    refine lv_ldc hx hb hown (hts _ mX5_sign_2) dX5_sign_4 ?_
    obtain rfl := Option.some.inj hf
    subst hA
    exact x_iretM hx hb hr hlk (vp_nar_int _) hP hS dX5_sign_6
abbrev rmX5_keep : Room := { frames := 2, cells := 0, slots := 0, locals := 81 }
theorem mX5_keep_0 : Cond.fieldLink RX5 41 "EvenWhite" "images" "[LEvenWhite$Fount;" ∈ wsX5_keep := by decide +kernel
theorem mX5_keep_1 : Cond.fieldLink RX5 12 "EvenWhite" "fount" "LEvenWhite$Fount;" ∈ wsX5_keep := by decide +kernel
theorem mX5_keep_2 : Cond.fieldLink RX5 45 "EvenWhite" "kept" "[Z" ∈ wsX5_keep := by decide +kernel
theorem mX5_keep_3 : Cond.fieldLink RX5 28 "EvenWhite" "past" "LEvenWhite$Past;" ∈ wsX5_keep := by decide +kernel
theorem mX5_keep_4 : Cond.fieldLink RX5 57 "EvenWhite$Fount" "many" "I" ∈ wsX5_keep := by decide +kernel
theorem mX5_keep_5 : Cond.constant RX5 75 (-1000000001) ∈ wsX5_keep := by decide +kernel
theorem inX5_keep_1 : ∀ w ∈ u_ws RX1 TX1 6, w ∈ wsX5_keep := by decide +kernel
theorem inX5_keep_5 : ∀ w ∈ u_ws RX5 TX5 6, w ∈ wsX5_keep := by decide +kernel
def fX5_keep (z : Fo) (ev : Ev) (li : Li) (te : Te) (pa : Pa) (im : Im) (x1 : Int32) : Option (Int32 × Pa × Im) :=
  (fX5_isImage x1).bind fun v1 =>
  (if v1 = (0 : Int32) then
  some ((-1000000001 : Int32), pa, im)
  else (rdX 2 x1).bind fun v4 =>
  (fX1_takeAll ((Im_imgs im) v4) z).bind fun v5 =>
  (wrZ (Im_kept im) 2 x1 (1 : Int32)).bind fun v6 =>
  (fX3_forget pa).bind fun v7 =>
  some ((Fo_many z), (Pa_set_next (Pa_set_many pa (Pa_many v7)) (Pa_next v7)), (Im_set_kept (Im_set_imgs im (up2 (Im_imgs im) v4 v5)) v6)))
set_option maxHeartbeats 4000000 in
set_option maxRecDepth 100000 in
theorem kX5_keep (l : Launch) (E : xG) (tq : Nat → Nat) (f : Nat → Nat) (q : Nat → Nat) (g : Nat → Nat) (h : Nat → Nat) (pq : Nat → Nat) (rq : Nat → Nat → Nat) (bq : Nat → Nat → Nat) (z : Fo) (ev : Ev) (li : Li) (te : Te) (pa : Pa) (im : Im) (x1 : Int32) {r : (Int32 × Pa × Im)} (hf : fX5_keep z ev li te pa im x1 = some r) : xMut l yX5_keep wsX5_keep rmX5_keep E [.ref (tq 0), .int x1] (wW E tq f q g h pq rq bq z ev li te pa im) (some (.int r.1)) (wW E tq f q g h pq rq bq z ev li te r.2.1 r.2.2) := by
  refine Met.ofW (cc := cX5_keep) (maxL := 2) (ret := (some .int)) (by decide) rfl ?_
  intro p e s m args below meth c s₁ B hml hv
  obtain ⟨rfl, hP, hK, hD0⟩ := hv
  have hx := B.exec
  have hb := B.bytes
  have hr := B.returns
  have hts := atoms_spec (ws := wsX5_keep) B.pre
  have hown : s.vm.findClass RX5 = some m.cls := findClass_of_methodNamed B.named
  have hlk := B.notSynchronized
  have S : CallFix p m c cX5_keep 2 s _ wsX5_keep RX5 := ⟨hx, hb, hml, hown, hts⟩
  have hl := lv_entry ([.ref (tq 0), .int x1]) (n := 2) (Nat.le_of_ble_eq_true rfl)
  rw [lg_entry_eq]
  generalize (lg_sl ([.ref (tq 0), .int x1]) ++ List.replicate (2 - (lg_sl ([.ref (tq 0), .int x1])).length) Slot.unset).toArray = ls at hl ⊢
  have hl : lv_has ls 2 [(0, .ref (tq 0)), (1, .int x1)] := hl
  have hD := xA.self hD0
  have hS : va_S (xA (wW E tq f q g h pq rq bq z ev li te pa im)) s.heap s.heap [] := va_S.rf
  show W p l e rmX5_keep s m _ below meth c s.heap [] 0 0 _ _
  generalize hA : xA (wW E tq f q g h pq rq bq z ev li te pa im) = A at hD hS ⊢
  unfold fX5_keep at hf
  refine lv_iload_n hx hb dX5_keep_0 rfl (lv_at hl 1 rfl) ?_
  obtain ⟨v1, h1, hf⟩ := ob hf
  refine x_pS (As := [.int x1]) (rest := []) S hK (kX5_isImage l E x1 h1) (va_cwS 1 hts gX5_keep_X5_isImage rfl rfl rfl (by decide +kernel) ⟨Nat.le_of_ble_eq_true rfl, Nat.le_of_ble_eq_true rfl⟩) x_nil rfl hl.1 (Nat.le_of_ble_eq_true rfl) dX5_keep_1 rfl ⟨Nat.zero_le _, Nat.zero_le _⟩ ?_
  refine lv_if_ne (tgt := 10) hx hb dX5_keep_4 (by decide) (fun c2 => ?_) (fun c2 => ?_)
  · have hf := (if_neg c2).symm.trans hf
    refine lv_aload_n hx hb dX5_keep_10 rfl (lv_at hl 0 rfl) ?_
    refine x_get hx hb hts inX5_keep_5 hown hK hP 0 rfl rfl 4 (by decide) mX5_keep_0 rfl dX5_keep_11 ?_
    refine lv_iload_n hx hb dX5_keep_14 rfl (lv_at hl 1 rfl) ?_
    obtain ⟨v4, h4, hf⟩ := ob hf
    refine x_aald hx hb hK hP 1 rfl (fun _ h9 => if_pos h9) h4 dX5_keep_15 (fun hj3 => ?_)
    refine lv_aload_n hx hb dX5_keep_16 rfl (lv_at hl 0 rfl) ?_
    refine x_get hx hb hts inX5_keep_5 hown hK hP 0 rfl rfl 0 (by decide) mX5_keep_1 rfl dX5_keep_17 ?_
    obtain ⟨v5, h5, hf⟩ := ob hf
    refine xW_takeIbq (z := z) (ev := ev) (li := li) (te := te) (pa := pa) (im := im) (rest := []) S hK hj3 (kX1_takeAll l E (bq v4) f ((Im_imgs im) v4) z h5) (cwV 1 hts gX5_keep_X1_takeAll rfl rfl rfl (by decide +kernel) ⟨Nat.le_of_ble_eq_true rfl, Nat.le_of_ble_eq_true rfl⟩) hP hD hS hl.1 (Nat.le_of_ble_eq_true rfl) dX5_keep_20 rfl ⟨Nat.zero_le _, Nat.zero_le _⟩ (fun H locs hP hD hS => ?_)
    have hP : va_P (xD E) vwCl (wW E tq f q g h pq rq bq z ev li te pa (Im_set_imgs im (up2 (Im_imgs im) v4 v5))) H := hP
    have hD : va_D A (wW E tq f q g h pq rq bq z ev li te pa (Im_set_imgs im (up2 (Im_imgs im) v4 v5))) := hD
    refine lv_aload_n hx hb dX5_keep_23 rfl (lv_at hl 0 rfl) ?_
    refine x_get hx hb hts inX5_keep_5 hown hK hP 0 rfl rfl 5 (by decide) mX5_keep_2 rfl dX5_keep_24 ?_
    refine lv_iload_n hx hb dX5_keep_27 rfl (lv_at hl 1 rfl) ?_
    refine lv_iconst (v := 1) hx hb dX5_keep_28 (by decide) ?_
    obtain ⟨v6, h6, hf⟩ := ob hf
    refine x_zast hx hb hK hP hD hS 2 rfl h6 dX5_keep_29 (fun H locs hP hD hS => ?_)
    have hP : va_P (xD E) vwCl (wW E tq f q g h pq rq bq z ev li te pa (Im_set_kept (Im_set_imgs im (up2 (Im_imgs im) v4 v5)) v6)) H := hP
    have hD : va_D A (wW E tq f q g h pq rq bq z ev li te pa (Im_set_kept (Im_set_imgs im (up2 (Im_imgs im) v4 v5)) v6)) := hD
    refine lv_aload_n hx hb dX5_keep_30 rfl (lv_at hl 0 rfl) ?_
    refine x_get hx hb hts inX5_keep_5 hown hK hP 0 rfl rfl 2 (by decide) mX5_keep_3 rfl dX5_keep_31 ?_
    obtain ⟨v7, h7, hf⟩ := ob hf
    refine x_mR (ws' := wW E tq f q g h pq rq bq z ev li te (Pa_set_next (Pa_set_many pa (Pa_many v7)) (Pa_next v7)) (Im_set_kept (Im_set_imgs im (up2 (Im_imgs im) v4 v5)) v6)) (As := []) (rest := []) S hK (kX3_forget l E pq pa h7) (cwV 0 hts gX5_keep_X3_forget rfl rfl rfl (by decide +kernel) ⟨Nat.le_of_ble_eq_true rfl, Nat.le_of_ble_eq_true rfl⟩) hP hD hS 23 1 rfl rfl 0 rfl rfl rfl rfl hl.1 (Nat.le_of_ble_eq_true rfl) dX5_keep_34 rfl ⟨Nat.zero_le _, Nat.zero_le _⟩ rfl (fun H locs hP hD hS => ?_)
    refine lv_aload_n hx hb dX5_keep_37 rfl (lv_at hl 0 rfl) ?_
    refine x_get hx hb hts inX5_keep_5 hown hK hP 0 rfl rfl 0 (by decide) mX5_keep_1 rfl dX5_keep_38 ?_
    refine x_get hx hb hts inX5_keep_1 hown hK hP 19 rfl rfl 0 (by decide) mX5_keep_4 rfl dX5_keep_41 ?_
    obtain rfl := Option.some.inj hf
    subst hA
    exact x_iretM hx hb hr hlk (vp_nar_int _) hP hS dX5_keep_44
  · have hf := (if_pos c2).symm.trans hf
    refine lv_ldc hx hb hown (hts _ mX5_keep_5) dX5_keep_7 ?_
    obtain rfl := Option.some.inj hf
    subst hA
    exact x_iretM hx hb hr hlk (vp_nar_int _) hP hS dX5_keep_9
abbrev rmX5_goBack : Room := { frames := 2, cells := 0, slots := 0, locals := 81 }
theorem mX5_goBack_0 : Cond.fieldLink RX5 45 "EvenWhite" "kept" "[Z" ∈ wsX5_goBack := by decide +kernel
theorem mX5_goBack_1 : Cond.fieldLink RX5 12 "EvenWhite" "fount" "LEvenWhite$Fount;" ∈ wsX5_goBack := by decide +kernel
theorem mX5_goBack_2 : Cond.fieldLink RX5 41 "EvenWhite" "images" "[LEvenWhite$Fount;" ∈ wsX5_goBack := by decide +kernel
theorem mX5_goBack_3 : Cond.fieldLink RX5 21 "EvenWhite" "even" "LEvenWhite$Even;" ∈ wsX5_goBack := by decide +kernel
theorem mX5_goBack_4 : Cond.fieldLink RX5 28 "EvenWhite" "past" "LEvenWhite$Past;" ∈ wsX5_goBack := by decide +kernel
theorem mX5_goBack_5 : Cond.fieldLink RX5 37 "EvenWhite" "line" "LEvenWhite$Line;" ∈ wsX5_goBack := by decide +kernel
theorem mX5_goBack_6 : Cond.fieldLink RX5 57 "EvenWhite$Fount" "many" "I" ∈ wsX5_goBack := by decide +kernel
theorem mX5_goBack_7 : Cond.constant RX5 130 (-1000000003) ∈ wsX5_goBack := by decide +kernel
theorem mX5_goBack_8 : Cond.constant RX5 75 (-1000000001) ∈ wsX5_goBack := by decide +kernel
theorem inX5_goBack_1 : ∀ w ∈ u_ws RX1 TX1 6, w ∈ wsX5_goBack := by decide +kernel
theorem inX5_goBack_5 : ∀ w ∈ u_ws RX5 TX5 6, w ∈ wsX5_goBack := by decide +kernel
def fX5_goBack (z : Fo) (ev : Ev) (li : Li) (te : Te) (pa : Pa) (im : Im) (x1 : Int32) : Option (Int32 × Fo × Ev × Li × Pa) :=
  (fX5_isImage x1).bind fun v1 =>
  (if v1 = (0 : Int32) then
  some ((-1000000001 : Int32), z, ev, li, pa)
  else (rdI (Im_kept im) 2 x1).bind fun v3 =>
  (if v3 = (0 : Int32) then
  some ((-1000000003 : Int32), z, ev, li, pa)
  else (rdX 2 x1).bind fun v6 =>
  (fX1_takeAll z ((Im_imgs im) v6)).bind fun v7 =>
  (fX0_forget ev).bind fun v8 =>
  (fX3_forget pa).bind fun v9 =>
  (fX2_makeEmpty li).bind fun v10 =>
  some ((Fo_many v7), v7, (Ev_set_found (Ev_set_below ev (Ev_below v8)) (Ev_found v8)), v10, (Pa_set_next (Pa_set_many pa (Pa_many v9)) (Pa_next v9)))))
set_option maxHeartbeats 4000000 in
set_option maxRecDepth 100000 in
theorem kX5_goBack (l : Launch) (E : xG) (tq : Nat → Nat) (f : Nat → Nat) (q : Nat → Nat) (g : Nat → Nat) (h : Nat → Nat) (pq : Nat → Nat) (rq : Nat → Nat → Nat) (bq : Nat → Nat → Nat) (z : Fo) (ev : Ev) (li : Li) (te : Te) (pa : Pa) (im : Im) (x1 : Int32) {r : (Int32 × Fo × Ev × Li × Pa)} (hf : fX5_goBack z ev li te pa im x1 = some r) : xMut l yX5_goBack wsX5_goBack rmX5_goBack E [.ref (tq 0), .int x1] (wW E tq f q g h pq rq bq z ev li te pa im) (some (.int r.1)) (wW E tq f q g h pq rq bq r.2.1 r.2.2.1 r.2.2.2.1 te r.2.2.2.2 im) := by
  refine Met.ofW (cc := cX5_goBack) (maxL := 2) (ret := (some .int)) (by decide) rfl ?_
  intro p e s m args below meth c s₁ B hml hv
  obtain ⟨rfl, hP, hK, hD0⟩ := hv
  have hx := B.exec
  have hb := B.bytes
  have hr := B.returns
  have hts := atoms_spec (ws := wsX5_goBack) B.pre
  have hown : s.vm.findClass RX5 = some m.cls := findClass_of_methodNamed B.named
  have hlk := B.notSynchronized
  have S : CallFix p m c cX5_goBack 2 s _ wsX5_goBack RX5 := ⟨hx, hb, hml, hown, hts⟩
  have hl := lv_entry ([.ref (tq 0), .int x1]) (n := 2) (Nat.le_of_ble_eq_true rfl)
  rw [lg_entry_eq]
  generalize (lg_sl ([.ref (tq 0), .int x1]) ++ List.replicate (2 - (lg_sl ([.ref (tq 0), .int x1])).length) Slot.unset).toArray = ls at hl ⊢
  have hl : lv_has ls 2 [(0, .ref (tq 0)), (1, .int x1)] := hl
  have hD := xA.self hD0
  have hS : va_S (xA (wW E tq f q g h pq rq bq z ev li te pa im)) s.heap s.heap [] := va_S.rf
  show W p l e rmX5_goBack s m _ below meth c s.heap [] 0 0 _ _
  generalize hA : xA (wW E tq f q g h pq rq bq z ev li te pa im) = A at hD hS ⊢
  unfold fX5_goBack at hf
  refine lv_iload_n hx hb dX5_goBack_0 rfl (lv_at hl 1 rfl) ?_
  obtain ⟨v1, h1, hf⟩ := ob hf
  refine x_pS (As := [.int x1]) (rest := []) S hK (kX5_isImage l E x1 h1) (va_cwS 1 hts gX5_goBack_X5_isImage rfl rfl rfl (by decide +kernel) ⟨Nat.le_of_ble_eq_true rfl, Nat.le_of_ble_eq_true rfl⟩) x_nil rfl hl.1 (Nat.le_of_ble_eq_true rfl) dX5_goBack_1 rfl ⟨Nat.zero_le _, Nat.zero_le _⟩ ?_
  refine lv_if_ne (tgt := 10) hx hb dX5_goBack_4 (by decide) (fun c2 => ?_) (fun c2 => ?_)
  · have hf := (if_neg c2).symm.trans hf
    refine lv_aload_n hx hb dX5_goBack_10 rfl (lv_at hl 0 rfl) ?_
    refine x_get hx hb hts inX5_goBack_5 hown hK hP 0 rfl rfl 5 (by decide) mX5_goBack_0 rfl dX5_goBack_11 ?_
    refine lv_iload_n hx hb dX5_goBack_14 rfl (lv_at hl 1 rfl) ?_
    obtain ⟨v3, h3, hf⟩ := ob hf
    refine x_zald hx hb hK hP 2 rfl h3 dX5_goBack_15 ?_
    refine lv_if_ne (tgt := 22) hx hb dX5_goBack_16 (by decide) (fun c4 => ?_) (fun c4 => ?_)
    · have hf := (if_neg c4).symm.trans hf
      refine lv_aload_n hx hb dX5_goBack_22 rfl (lv_at hl 0 rfl) ?_
      refine x_get hx hb hts inX5_goBack_5 hown hK hP 0 rfl rfl 0 (by decide) mX5_goBack_1 rfl dX5_goBack_23 ?_
      refine lv_aload_n hx hb dX5_goBack_26 rfl (lv_at hl 0 rfl) ?_
      refine x_get hx hb hts inX5_goBack_5 hown hK hP 0 rfl rfl 4 (by decide) mX5_goBack_2 rfl dX5_goBack_27 ?_
      refine lv_iload_n hx hb dX5_goBack_30 rfl (lv_at hl 1 rfl) ?_
      obtain ⟨v6, h6, hf⟩ := ob hf
      refine x_aald hx hb hK hP 1 rfl (fun _ h9 => if_pos h9) h6 dX5_goBack_31 (fun hj5 => ?_)
      obtain ⟨v7, h7, hf⟩ := ob hf
      refine xW_takeObq (z := z) (ev := ev) (li := li) (te := te) (pa := pa) (im := im) (rest := []) S hK hj5 (kX1_takeAll l E f (bq v6) z ((Im_imgs im) v6) h7) (cwV 1 hts gX5_goBack_X1_takeAll rfl rfl rfl (by decide +kernel) ⟨Nat.le_of_ble_eq_true rfl, Nat.le_of_ble_eq_true rfl⟩) hP hD hS hl.1 (Nat.le_of_ble_eq_true rfl) dX5_goBack_32 rfl ⟨Nat.zero_le _, Nat.zero_le _⟩ (fun H locs hP hD hS => ?_)
      have hP : va_P (xD E) vwCl (wW E tq f q g h pq rq bq v7 ev li te pa im) H := hP
      have hD : va_D A (wW E tq f q g h pq rq bq v7 ev li te pa im) := hD
      refine lv_aload_n hx hb dX5_goBack_35 rfl (lv_at hl 0 rfl) ?_
      refine x_get hx hb hts inX5_goBack_5 hown hK hP 0 rfl rfl 1 (by decide) mX5_goBack_3 rfl dX5_goBack_36 ?_
      obtain ⟨v8, h8, hf⟩ := ob hf
      refine x_mR (ws' := wW E tq f q g h pq rq bq v7 (Ev_set_found (Ev_set_below ev (Ev_below v8)) (Ev_found v8)) li te pa im) (As := []) (rest := []) S hK (kX0_forget l E q f ev h8) (cwV 0 hts gX5_goBack_X0_forget rfl rfl rfl (by decide +kernel) ⟨Nat.le_of_ble_eq_true rfl, Nat.le_of_ble_eq_true rfl⟩) hP hD hS 7 1 rfl rfl 0 rfl rfl rfl rfl hl.1 (Nat.le_of_ble_eq_true rfl) dX5_goBack_39 rfl ⟨Nat.zero_le _, Nat.zero_le _⟩ rfl (fun H locs hP hD hS => ?_)
      refine lv_aload_n hx hb dX5_goBack_42 rfl (lv_at hl 0 rfl) ?_
      refine x_get hx hb hts inX5_goBack_5 hown hK hP 0 rfl rfl 2 (by decide) mX5_goBack_4 rfl dX5_goBack_43 ?_
      obtain ⟨v9, h9, hf⟩ := ob hf
      refine x_mR (ws' := wW E tq f q g h pq rq bq v7 (Ev_set_found (Ev_set_below ev (Ev_below v8)) (Ev_found v8)) li te (Pa_set_next (Pa_set_many pa (Pa_many v9)) (Pa_next v9)) im) (As := []) (rest := []) S hK (kX3_forget l E pq pa h9) (cwV 0 hts gX5_goBack_X3_forget rfl rfl rfl (by decide +kernel) ⟨Nat.le_of_ble_eq_true rfl, Nat.le_of_ble_eq_true rfl⟩) hP hD hS 23 1 rfl rfl 0 rfl rfl rfl rfl hl.1 (Nat.le_of_ble_eq_true rfl) dX5_goBack_46 rfl ⟨Nat.zero_le _, Nat.zero_le _⟩ rfl (fun H locs hP hD hS => ?_)
      refine lv_aload_n hx hb dX5_goBack_49 rfl (lv_at hl 0 rfl) ?_
      refine x_get hx hb hts inX5_goBack_5 hown hK hP 0 rfl rfl 3 (by decide) mX5_goBack_5 rfl dX5_goBack_50 ?_
      obtain ⟨v10, h10, hf⟩ := ob hf
      refine x_mR (ws' := wW E tq f q g h pq rq bq v7 (Ev_set_found (Ev_set_below ev (Ev_below v8)) (Ev_found v8)) v10 te (Pa_set_next (Pa_set_many pa (Pa_many v9)) (Pa_next v9)) im) (As := []) (rest := []) S hK (kX2_makeEmpty l E g h q f li h10) (cwV 0 hts gX5_goBack_X2_makeEmpty rfl rfl rfl (by decide +kernel) ⟨Nat.le_of_ble_eq_true rfl, Nat.le_of_ble_eq_true rfl⟩) hP hD hS 3 2 rfl rfl 0 rfl rfl rfl rfl hl.1 (Nat.le_of_ble_eq_true rfl) dX5_goBack_53 rfl ⟨Nat.zero_le _, Nat.zero_le _⟩ rfl (fun H locs hP hD hS => ?_)
      refine lv_aload_n hx hb dX5_goBack_56 rfl (lv_at hl 0 rfl) ?_
      refine x_get hx hb hts inX5_goBack_5 hown hK hP 0 rfl rfl 0 (by decide) mX5_goBack_1 rfl dX5_goBack_57 ?_
      refine x_get hx hb hts inX5_goBack_1 hown hK hP 19 rfl rfl 0 (by decide) mX5_goBack_6 rfl dX5_goBack_60 ?_
      obtain rfl := Option.some.inj hf
      subst hA
      exact x_iretM hx hb hr hlk (vp_nar_int _) hP hS dX5_goBack_63
    · have hf := (if_pos c4).symm.trans hf
      refine lv_ldc hx hb hown (hts _ mX5_goBack_7) dX5_goBack_19 ?_
      obtain rfl := Option.some.inj hf
      subst hA
      exact x_iretM hx hb hr hlk (vp_nar_int _) hP hS dX5_goBack_21
  · have hf := (if_pos c2).symm.trans hf
    refine lv_ldc hx hb hown (hts _ mX5_goBack_8) dX5_goBack_7 ?_
    obtain rfl := Option.some.inj hf
    subst hA
    exact x_iretM hx hb hr hlk (vp_nar_int _) hP hS dX5_goBack_9
