abbrev rmX5_beginChange : Room := { frames := 3, cells := 0, slots := 0, locals := 102 }
theorem mX5_beginChange_0 : Cond.fieldLink RX5 28 "EvenWhite" "past" "LEvenWhite$Past;" ∈ wsX5_beginChange := by decide +kernel
theorem mX5_beginChange_1 : Cond.fieldLink RX5 12 "EvenWhite" "fount" "LEvenWhite$Fount;" ∈ wsX5_beginChange := by decide +kernel
theorem mX5_beginChange_2 : Cond.fieldLink RX5 21 "EvenWhite" "even" "LEvenWhite$Even;" ∈ wsX5_beginChange := by decide +kernel
theorem inX5_beginChange_5 : ∀ w ∈ u_ws RX5 TX5 6, w ∈ wsX5_beginChange := by decide +kernel
def fX5_beginChange (z : Fo) (ev : Ev) (li : Li) (te : Te) (pa : Pa) (im : Im) : Option (Ev × Pa) :=
  (fX3_remember pa z).bind fun v1 =>
  (fX0_forget ev).bind fun v2 =>
  some ((Ev_set_found (Ev_set_below ev (Ev_below v2)) (Ev_found v2)), v1)
set_option maxHeartbeats 4000000 in
set_option maxRecDepth 100000 in
theorem kX5_beginChange (l : Launch) (E : xG) (tq : Nat → Nat) (f : Nat → Nat) (q : Nat → Nat) (g : Nat → Nat) (h : Nat → Nat) (pq : Nat → Nat) (rq : Nat → Nat → Nat) (bq : Nat → Nat → Nat) (z : Fo) (ev : Ev) (li : Li) (te : Te) (pa : Pa) (im : Im) {r : (Ev × Pa)} (hf : fX5_beginChange z ev li te pa im = some r) : xMut l yX5_beginChange wsX5_beginChange rmX5_beginChange E [.ref (tq 0)] (wW E tq f q g h pq rq bq z ev li te pa im) none (wW E tq f q g h pq rq bq z r.1 li te r.2 im) := by
  refine Met.ofW (cc := cX5_beginChange) (maxL := 1) (ret := none) (by decide) rfl ?_
  intro p e s m args below meth c s₁ B hml hv
  obtain ⟨rfl, hP, hK, hD0⟩ := hv
  have hx := B.exec
  have hb := B.bytes
  have hr := B.returns
  have hts := atoms_spec (ws := wsX5_beginChange) B.pre
  have hown : s.vm.findClass RX5 = some m.cls := findClass_of_methodNamed B.named
  have hlk := B.notSynchronized
  have S : CallFix p m c cX5_beginChange 1 s _ wsX5_beginChange RX5 := ⟨hx, hb, hml, hown, hts⟩
  have hl := lv_entry ([.ref (tq 0)]) (n := 1) (Nat.le_of_ble_eq_true rfl)
  rw [lg_entry_eq]
  generalize (lg_sl ([.ref (tq 0)]) ++ List.replicate (1 - (lg_sl ([.ref (tq 0)])).length) Slot.unset).toArray = ls at hl ⊢
  have hl : lv_has ls 1 [(0, .ref (tq 0))] := hl
  have hD := xA.self hD0
  have hS : va_S (xA (wW E tq f q g h pq rq bq z ev li te pa im)) s.heap s.heap [] := va_S.rf
  show W p l e rmX5_beginChange s m _ below meth c s.heap [] 0 0 _ _
  generalize hA : xA (wW E tq f q g h pq rq bq z ev li te pa im) = A at hD hS ⊢
  unfold fX5_beginChange at hf
  refine lv_aload_n hx hb dX5_beginChange_0 rfl (lv_at hl 0 rfl) ?_
  refine x_get hx hb hts inX5_beginChange_5 hown hK hP 0 rfl rfl 2 (by decide) mX5_beginChange_0 rfl dX5_beginChange_1 ?_
  refine lv_aload_n hx hb dX5_beginChange_4 rfl (lv_at hl 0 rfl) ?_
  refine x_get hx hb hts inX5_beginChange_5 hown hK hP 0 rfl rfl 0 (by decide) mX5_beginChange_1 rfl dX5_beginChange_5 ?_
  obtain ⟨v1, h1, hf⟩ := ob hf
  refine x_mR (ws' := wW E tq f q g h pq rq bq z ev li te v1 im) (As := [.ref (f 0)]) (rest := []) S hK (kX3_remember l E pq rq f pa z h1) (cwV 1 hts gX5_beginChange_X3_remember rfl rfl rfl (by decide +kernel) ⟨Nat.le_of_ble_eq_true rfl, Nat.le_of_ble_eq_true rfl⟩) hP hD hS 19 38 rfl rfl 4 rfl rfl rfl rfl hl.1 (Nat.le_of_ble_eq_true rfl) dX5_beginChange_8 rfl ⟨Nat.zero_le _, Nat.zero_le _⟩ rfl (fun H locs hP hD hS => ?_)
  refine lv_aload_n hx hb dX5_beginChange_11 rfl (lv_at hl 0 rfl) ?_
  refine x_get hx hb hts inX5_beginChange_5 hown hK hP 0 rfl rfl 1 (by decide) mX5_beginChange_2 rfl dX5_beginChange_12 ?_
  obtain ⟨v2, h2, hf⟩ := ob hf
  refine x_mR (ws' := wW E tq f q g h pq rq bq z (Ev_set_found (Ev_set_below ev (Ev_below v2)) (Ev_found v2)) li te v1 im) (As := []) (rest := []) S hK (kX0_forget l E q f ev h2) (cwV 0 hts gX5_beginChange_X0_forget rfl rfl rfl (by decide +kernel) ⟨Nat.le_of_ble_eq_true rfl, Nat.le_of_ble_eq_true rfl⟩) hP hD hS 7 1 rfl rfl 0 rfl rfl rfl rfl hl.1 (Nat.le_of_ble_eq_true rfl) dX5_beginChange_15 rfl ⟨Nat.zero_le _, Nat.zero_le _⟩ rfl (fun H locs hP hD hS => ?_)
  obtain rfl := Option.some.inj hf
  subst hA
  exact x_vretM hx hb hr hlk hP hS dX5_beginChange_18
abbrev rmX5_letters : Room := { frames := 4, cells := 0, slots := 0, locals := 122 }
theorem mX5_letters_0 : Cond.fieldLink RX5 12 "EvenWhite" "fount" "LEvenWhite$Fount;" ∈ wsX5_letters := by decide +kernel
theorem mX5_letters_1 : Cond.fieldLink RX5 57 "EvenWhite$Fount" "many" "I" ∈ wsX5_letters := by decide +kernel
theorem mX5_letters_2 : Cond.fieldLink RX5 37 "EvenWhite" "line" "LEvenWhite$Line;" ∈ wsX5_letters := by decide +kernel
theorem mX5_letters_3 : Cond.constant RX5 53 (-1000000002) ∈ wsX5_letters := by decide +kernel
theorem inX5_letters_1 : ∀ w ∈ u_ws RX1 TX1 6, w ∈ wsX5_letters := by decide +kernel
theorem inX5_letters_5 : ∀ w ∈ u_ws RX5 TX5 6, w ∈ wsX5_letters := by decide +kernel
def fX5_letters (z : Fo) (ev : Ev) (li : Li) (te : Te) (pa : Pa) (im : Im) (x1 : Int32) : Option (Int32 × Fo × Ev × Li × Pa) :=
  (fX5_within x1 (1 : Int32) (3 : Int32)).bind fun v1 =>
  (if v1 = (0 : Int32) then
  some ((-1000000002 : Int32), z, ev, li, pa)
  else (fX5_beginChange z ev li te pa im).bind fun v3 =>
  (fX1_startAnew z x1).bind fun v4 =>
  (fX2_makeEmpty li).bind fun v5 =>
  some ((Fo_many z), v4, v3.1, v5, v3.2))
set_option maxHeartbeats 4000000 in
set_option maxRecDepth 100000 in
theorem kX5_letters (l : Launch) (E : xG) (tq : Nat → Nat) (f : Nat → Nat) (q : Nat → Nat) (g : Nat → Nat) (h : Nat → Nat) (pq : Nat → Nat) (rq : Nat → Nat → Nat) (bq : Nat → Nat → Nat) (z : Fo) (ev : Ev) (li : Li) (te : Te) (pa : Pa) (im : Im) (x1 : Int32) {r : (Int32 × Fo × Ev × Li × Pa)} (hf : fX5_letters z ev li te pa im x1 = some r) : xMut l yX5_letters wsX5_letters rmX5_letters E [.ref (tq 0), .int x1] (wW E tq f q g h pq rq bq z ev li te pa im) (some (.int r.1)) (wW E tq f q g h pq rq bq r.2.1 r.2.2.1 r.2.2.2.1 te r.2.2.2.2 im) := by
  refine Met.ofW (cc := cX5_letters) (maxL := 3) (ret := (some .int)) (by decide) rfl ?_
  intro p e s m args below meth c s₁ B hml hv
  obtain ⟨rfl, hP, hK, hD0⟩ := hv
  have hx := B.exec
  have hb := B.bytes
  have hr := B.returns
  have hts := atoms_spec (ws := wsX5_letters) B.pre
  have hown : s.vm.findClass RX5 = some m.cls := findClass_of_methodNamed B.named
  have hlk := B.notSynchronized
  have S : CallFix p m c cX5_letters 3 s _ wsX5_letters RX5 := ⟨hx, hb, hml, hown, hts⟩
  have hl := lv_entry ([.ref (tq 0), .int x1]) (n := 3) (Nat.le_of_ble_eq_true rfl)
  rw [lg_entry_eq]
  generalize (lg_sl ([.ref (tq 0), .int x1]) ++ List.replicate (3 - (lg_sl ([.ref (tq 0), .int x1])).length) Slot.unset).toArray = ls at hl ⊢
  have hl : lv_has ls 3 [(0, .ref (tq 0)), (1, .int x1)] := hl
  have hD := xA.self hD0
  have hS : va_S (xA (wW E tq f q g h pq rq bq z ev li te pa im)) s.heap s.heap [] := va_S.rf
  show W p l e rmX5_letters s m _ below meth c s.heap [] 0 0 _ _
  generalize hA : xA (wW E tq f q g h pq rq bq z ev li te pa im) = A at hD hS ⊢
  unfold fX5_letters at hf
  refine lv_iload_n hx hb dX5_letters_0 rfl (lv_at hl 1 rfl) ?_
  refine lv_iconst (v := 1) hx hb dX5_letters_1 (by decide) ?_
  refine lv_iconst (v := 3) hx hb dX5_letters_2 (by decide) ?_
  obtain ⟨v1, h1, hf⟩ := ob hf
  refine x_pS (As := [.int x1, .int (1 : Int32), .int (3 : Int32)]) (rest := []) S hK (kX5_within l E x1 (1 : Int32) (3 : Int32) h1) (va_cwS 3 hts gX5_letters_X5_within rfl rfl rfl (by decide +kernel) ⟨Nat.le_of_ble_eq_true rfl, Nat.le_of_ble_eq_true rfl⟩) x_nil rfl hl.1 (Nat.le_of_ble_eq_true rfl) dX5_letters_3 rfl ⟨Nat.zero_le _, Nat.zero_le _⟩ ?_
  refine lv_if_ne (tgt := 12) hx hb dX5_letters_6 (by decide) (fun c2 => ?_) (fun c2 => ?_)
  · have hf := (if_neg c2).symm.trans hf
    refine lv_aload_n hx hb dX5_letters_12 rfl (lv_at hl 0 rfl) ?_
    obtain ⟨v3, h3, hf⟩ := ob hf
    refine x_mR (ws' := wW E tq f q g h pq rq bq z v3.1 li te v3.2 im) (As := []) (rest := []) S hK (kX5_beginChange l E tq f q g h pq rq bq z ev li te pa im h3) (cwV 0 hts gX5_letters_X5_beginChange rfl rfl rfl (by decide +kernel) ⟨Nat.le_of_ble_eq_true rfl, Nat.le_of_ble_eq_true rfl⟩) hP hD hS 0 65 rfl rfl 0 rfl rfl rfl rfl hl.1 (Nat.le_of_ble_eq_true rfl) dX5_letters_13 rfl ⟨Nat.zero_le _, Nat.zero_le _⟩ rfl (fun H locs hP hD hS => ?_)
    refine lv_aload_n hx hb dX5_letters_16 rfl (lv_at hl 0 rfl) ?_
    refine x_get hx hb hts inX5_letters_5 hown hK hP 0 rfl rfl 0 (by decide) mX5_letters_0 rfl dX5_letters_17 ?_
    refine x_get hx hb hts inX5_letters_1 hown hK hP 19 rfl rfl 0 (by decide) mX5_letters_1 rfl dX5_letters_20 ?_
    refine lv_istore_n (lv' := [(2, .int (Fo_many z)), (0, .ref (tq 0)), (1, .int x1)]) hx hb dX5_letters_23 rfl hl (by decide) rfl (fun ls hl => ?_)
    refine lv_aload_n hx hb dX5_letters_24 rfl (lv_at hl 1 rfl) ?_
    refine x_get hx hb hts inX5_letters_5 hown hK hP 0 rfl rfl 0 (by decide) mX5_letters_0 rfl dX5_letters_25 ?_
    refine lv_iload_n hx hb dX5_letters_28 rfl (lv_at hl 2 rfl) ?_
    obtain ⟨v4, h4, hf⟩ := ob hf
    refine x_mR (ws' := wW E tq f q g h pq rq bq v4 v3.1 li te v3.2 im) (As := [.int x1]) (rest := []) S hK (kX1_startAnew l E f z x1 h4) (cwV 1 hts gX5_letters_X1_startAnew rfl rfl rfl (by decide +kernel) ⟨Nat.le_of_ble_eq_true rfl, Nat.le_of_ble_eq_true rfl⟩) hP hD hS 19 4 rfl rfl 0 rfl rfl rfl rfl hl.1 (Nat.le_of_ble_eq_true rfl) dX5_letters_29 rfl ⟨Nat.zero_le _, Nat.zero_le _⟩ rfl (fun H locs hP hD hS => ?_)
    refine lv_aload_n hx hb dX5_letters_32 rfl (lv_at hl 1 rfl) ?_
    refine x_get hx hb hts inX5_letters_5 hown hK hP 0 rfl rfl 3 (by decide) mX5_letters_2 rfl dX5_letters_33 ?_
    obtain ⟨v5, h5, hf⟩ := ob hf
    refine x_mR (ws' := wW E tq f q g h pq rq bq v4 v3.1 v5 te v3.2 im) (As := []) (rest := []) S hK (kX2_makeEmpty l E g h q f li h5) (cwV 0 hts gX5_letters_X2_makeEmpty rfl rfl rfl (by decide +kernel) ⟨Nat.le_of_ble_eq_true rfl, Nat.le_of_ble_eq_true rfl⟩) hP hD hS 3 2 rfl rfl 0 rfl rfl rfl rfl hl.1 (Nat.le_of_ble_eq_true rfl) dX5_letters_36 rfl ⟨Nat.zero_le _, Nat.zero_le _⟩ rfl (fun H locs hP hD hS => ?_)
    refine lv_iload_n hx hb dX5_letters_39 rfl (lv_at hl 0 rfl) ?_
    obtain rfl := Option.some.inj hf
    subst hA
    exact x_iretM hx hb hr hlk (vp_nar_int _) hP hS dX5_letters_40
  · have hf := (if_pos c2).symm.trans hf
    refine lv_ldc hx hb hown (hts _ mX5_letters_3) dX5_letters_9 ?_
    obtain rfl := Option.some.inj hf
    subst hA
    exact x_iretM hx hb hr hlk (vp_nar_int _) hP hS dX5_letters_11
abbrev rmX5_side : Room := { frames := 4, cells := 0, slots := 0, locals := 122 }
theorem mX5_side_0 : Cond.fieldLink RX5 12 "EvenWhite" "fount" "LEvenWhite$Fount;" ∈ wsX5_side := by decide +kernel
theorem mX5_side_1 : Cond.constant RX5 75 (-1000000001) ∈ wsX5_side := by decide +kernel
theorem mX5_side_2 : Cond.constant RX5 53 (-1000000002) ∈ wsX5_side := by decide +kernel
theorem inX5_side_5 : ∀ w ∈ u_ws RX5 TX5 6, w ∈ wsX5_side := by decide +kernel
def fX5_side (z : Fo) (ev : Ev) (li : Li) (te : Te) (pa : Pa) (im : Im) (x1 : Int32) (x2 : Int32) (x3 : Int32) (x4 : Int32) : Option (Int32 × Fo × Ev × Pa) :=
  (fX1_hasLetter z x1).bind fun v1 =>
  (if v1 = (0 : Int32) then
  some ((-1000000001 : Int32), z, ev, pa)
  else (fX5_isHeight x3).bind fun v3 =>
  (if v3 = (0 : Int32) then
  some ((-1000000001 : Int32), z, ev, pa)
  else (fX5_isSide x2).bind fun v5 =>
  (if v5 = (0 : Int32) then
  some ((-1000000002 : Int32), z, ev, pa)
  else (fX5_within x4 (0 : Int32) (30 : Int32)).bind fun v7 =>
  (if v7 = (0 : Int32) then
  some ((-1000000002 : Int32), z, ev, pa)
  else (fX5_beginChange z ev li te pa im).bind fun v9 =>
  (fX1_backOf z x1 x2 x3).bind fun v10 =>
  (fX1_putBack z x1 x2 x3 x4).bind fun v11 =>
  some (v10, v11, v9.1, v9.2)))))
set_option maxHeartbeats 4000000 in
set_option maxRecDepth 100000 in
theorem kX5_side (l : Launch) (E : xG) (tq : Nat → Nat) (f : Nat → Nat) (q : Nat → Nat) (g : Nat → Nat) (h : Nat → Nat) (pq : Nat → Nat) (rq : Nat → Nat → Nat) (bq : Nat → Nat → Nat) (z : Fo) (ev : Ev) (li : Li) (te : Te) (pa : Pa) (im : Im) (x1 : Int32) (x2 : Int32) (x3 : Int32) (x4 : Int32) {r : (Int32 × Fo × Ev × Pa)} (hf : fX5_side z ev li te pa im x1 x2 x3 x4 = some r) : xMut l yX5_side wsX5_side rmX5_side E [.ref (tq 0), .int x1, .int x2, .int x3, .int x4] (wW E tq f q g h pq rq bq z ev li te pa im) (some (.int r.1)) (wW E tq f q g h pq rq bq r.2.1 r.2.2.1 li te r.2.2.2 im) := by
  refine Met.ofW (cc := cX5_side) (maxL := 6) (ret := (some .int)) (by decide) rfl ?_
  intro p e s m args below meth c s₁ B hml hv
  obtain ⟨rfl, hP, hK, hD0⟩ := hv
  have hx := B.exec
  have hb := B.bytes
  have hr := B.returns
  have hts := atoms_spec (ws := wsX5_side) B.pre
  have hown : s.vm.findClass RX5 = some m.cls := findClass_of_methodNamed B.named
  have hlk := B.notSynchronized
  have S : CallFix p m c cX5_side 6 s _ wsX5_side RX5 := ⟨hx, hb, hml, hown, hts⟩
  have hl := lv_entry ([.ref (tq 0), .int x1, .int x2, .int x3, .int x4]) (n := 6) (Nat.le_of_ble_eq_true rfl)
  rw [lg_entry_eq]
  generalize (lg_sl ([.ref (tq 0), .int x1, .int x2, .int x3, .int x4]) ++ List.replicate (6 - (lg_sl ([.ref (tq 0), .int x1, .int x2, .int x3, .int x4])).length) Slot.unset).toArray = ls at hl ⊢
  have hl : lv_has ls 6 [(0, .ref (tq 0)), (1, .int x1), (2, .int x2), (3, .int x3), (4, .int x4)] := hl
  have hD := xA.self hD0
  have hS : va_S (xA (wW E tq f q g h pq rq bq z ev li te pa im)) s.heap s.heap [] := va_S.rf
  show W p l e rmX5_side s m _ below meth c s.heap [] 0 0 _ _
  generalize hA : xA (wW E tq f q g h pq rq bq z ev li te pa im) = A at hD hS ⊢
  unfold fX5_side at hf
  refine lv_aload_n hx hb dX5_side_0 rfl (lv_at hl 0 rfl) ?_
  refine x_get hx hb hts inX5_side_5 hown hK hP 0 rfl rfl 0 (by decide) mX5_side_0 rfl dX5_side_1 ?_
  refine lv_iload_n hx hb dX5_side_4 rfl (lv_at hl 1 rfl) ?_
  obtain ⟨v1, h1, hf⟩ := ob hf
  refine x_pV (As := [.int x1]) (rest := []) S hK (kX1_hasLetter l E f z x1 h1) (cwV 1 hts gX5_side_X1_hasLetter rfl rfl rfl (by decide +kernel) ⟨Nat.le_of_ble_eq_true rfl, Nat.le_of_ble_eq_true rfl⟩) (hP.sub [19, 20, 21, 22] rfl) 0 rfl rfl rfl rfl hl.1 (Nat.le_of_ble_eq_true rfl) dX5_side_5 rfl ⟨Nat.zero_le _, Nat.zero_le _⟩ ?_
  refine lv_if_eq (tgt := 18) hx hb dX5_side_8 (by decide) (fun c2 => ?_) (fun c2 => ?_)
  · have hf := (if_pos c2).symm.trans hf
    refine lv_ldc hx hb hown (hts _ mX5_side_1) dX5_side_18 ?_
    obtain rfl := Option.some.inj hf
    subst hA
    exact x_iretM hx hb hr hlk (vp_nar_int _) hP hS dX5_side_20
  · have hf := (if_neg c2).symm.trans hf
    refine lv_iload_n hx hb dX5_side_11 rfl (lv_at hl 3 rfl) ?_
    obtain ⟨v3, h3, hf⟩ := ob hf
    refine x_pS (As := [.int x3]) (rest := []) S hK (kX5_isHeight l E x3 h3) (va_cwS 1 hts gX5_side_X5_isHeight rfl rfl rfl (by decide +kernel) ⟨Nat.le_of_ble_eq_true rfl, Nat.le_of_ble_eq_true rfl⟩) x_nil rfl hl.1 (Nat.le_of_ble_eq_true rfl) dX5_side_12 rfl ⟨Nat.zero_le _, Nat.zero_le _⟩ ?_
    refine lv_if_ne (tgt := 21) hx hb dX5_side_15 (by decide) (fun c4 => ?_) (fun c4 => ?_)
    · have hf := (if_neg c4).symm.trans hf
      refine lv_iload_n hx hb dX5_side_21 rfl (lv_at hl 2 rfl) ?_
      obtain ⟨v5, h5, hf⟩ := ob hf
      refine x_pS (As := [.int x2]) (rest := []) S hK (kX5_isSide l E x2 h5) (va_cwS 1 hts gX5_side_X5_isSide rfl rfl rfl (by decide +kernel) ⟨Nat.le_of_ble_eq_true rfl, Nat.le_of_ble_eq_true rfl⟩) x_nil rfl hl.1 (Nat.le_of_ble_eq_true rfl) dX5_side_22 rfl ⟨Nat.zero_le _, Nat.zero_le _⟩ ?_
      refine lv_if_eq (tgt := 39) hx hb dX5_side_25 (by decide) (fun c6 => ?_) (fun c6 => ?_)
      · have hf := (if_pos c6).symm.trans hf
        refine lv_ldc hx hb hown (hts _ mX5_side_2) dX5_side_39 ?_
        obtain rfl := Option.some.inj hf
        subst hA
        exact x_iretM hx hb hr hlk (vp_nar_int _) hP hS dX5_side_41
      · have hf := (if_neg c6).symm.trans hf
        refine lv_iload hx hb dX5_side_28 (lv_at hl 4 rfl) ?_
        refine lv_iconst (v := 0) hx hb dX5_side_30 (by decide) ?_
        refine lv_bipush (v := 30) hx hb dX5_side_31 (by decide) ?_
        obtain ⟨v7, h7, hf⟩ := ob hf
        refine x_pS (As := [.int x4, .int (0 : Int32), .int (30 : Int32)]) (rest := []) S hK (kX5_within l E x4 (0 : Int32) (30 : Int32) h7) (va_cwS 3 hts gX5_side_X5_within rfl rfl rfl (by decide +kernel) ⟨Nat.le_of_ble_eq_true rfl, Nat.le_of_ble_eq_true rfl⟩) x_nil rfl hl.1 (Nat.le_of_ble_eq_true rfl) dX5_side_33 rfl ⟨Nat.zero_le _, Nat.zero_le _⟩ ?_
        refine lv_if_ne (tgt := 42) hx hb dX5_side_36 (by decide) (fun c8 => ?_) (fun c8 => ?_)
        · have hf := (if_neg c8).symm.trans hf
          refine lv_aload_n hx hb dX5_side_42 rfl (lv_at hl 0 rfl) ?_
          obtain ⟨v9, h9, hf⟩ := ob hf
          refine x_mR (ws' := wW E tq f q g h pq rq bq z v9.1 li te v9.2 im) (As := []) (rest := []) S hK (kX5_beginChange l E tq f q g h pq rq bq z ev li te pa im h9) (cwV 0 hts gX5_side_X5_beginChange rfl rfl rfl (by decide +kernel) ⟨Nat.le_of_ble_eq_true rfl, Nat.le_of_ble_eq_true rfl⟩) hP hD hS 0 65 rfl rfl 0 rfl rfl rfl rfl hl.1 (Nat.le_of_ble_eq_true rfl) dX5_side_43 rfl ⟨Nat.zero_le _, Nat.zero_le _⟩ rfl (fun H locs hP hD hS => ?_)
          refine lv_aload_n hx hb dX5_side_46 rfl (lv_at hl 0 rfl) ?_
          refine x_get hx hb hts inX5_side_5 hown hK hP 0 rfl rfl 0 (by decide) mX5_side_0 rfl dX5_side_47 ?_
          refine lv_iload_n hx hb dX5_side_50 rfl (lv_at hl 1 rfl) ?_
          refine lv_iload_n hx hb dX5_side_51 rfl (lv_at hl 2 rfl) ?_
          refine lv_iload_n hx hb dX5_side_52 rfl (lv_at hl 3 rfl) ?_
          obtain ⟨v10, h10, hf⟩ := ob hf
          refine x_pV (As := [.int x1, .int x2, .int x3]) (rest := []) S hK (kX1_backOf l E f z x1 x2 x3 h10) (cwV 3 hts gX5_side_X1_backOf rfl rfl rfl (by decide +kernel) ⟨Nat.le_of_ble_eq_true rfl, Nat.le_of_ble_eq_true rfl⟩) (hP.sub [19, 20, 21, 22] rfl) 0 rfl rfl rfl rfl hl.1 (Nat.le_of_ble_eq_true rfl) dX5_side_53 rfl ⟨Nat.zero_le _, Nat.zero_le _⟩ ?_
          refine lv_istore (lv' := [(5, .int v10), (0, .ref (tq 0)), (1, .int x1), (2, .int x2), (3, .int x3), (4, .int x4)]) hx hb dX5_side_56 hl (by decide) rfl (fun ls hl => ?_)
          refine lv_aload_n hx hb dX5_side_58 rfl (lv_at hl 1 rfl) ?_
          refine x_get hx hb hts inX5_side_5 hown hK hP 0 rfl rfl 0 (by decide) mX5_side_0 rfl dX5_side_59 ?_
          refine lv_iload_n hx hb dX5_side_62 rfl (lv_at hl 2 rfl) ?_
          refine lv_iload_n hx hb dX5_side_63 rfl (lv_at hl 3 rfl) ?_
          refine lv_iload_n hx hb dX5_side_64 rfl (lv_at hl 4 rfl) ?_
          refine lv_iload hx hb dX5_side_65 (lv_at hl 5 rfl) ?_
          obtain ⟨v11, h11, hf⟩ := ob hf
          refine x_mR (ws' := wW E tq f q g h pq rq bq v11 v9.1 li te v9.2 im) (As := [.int x1, .int x2, .int x3, .int x4]) (rest := []) S hK (kX1_putBack l E f z x1 x2 x3 x4 h11) (cwV 4 hts gX5_side_X1_putBack rfl rfl rfl (by decide +kernel) ⟨Nat.le_of_ble_eq_true rfl, Nat.le_of_ble_eq_true rfl⟩) hP hD hS 19 4 rfl rfl 0 rfl rfl rfl rfl hl.1 (Nat.le_of_ble_eq_true rfl) dX5_side_67 rfl ⟨Nat.zero_le _, Nat.zero_le _⟩ rfl (fun H locs hP hD hS => ?_)
          refine lv_iload hx hb dX5_side_70 (lv_at hl 0 rfl) ?_
          obtain rfl := Option.some.inj hf
          subst hA
          exact x_iretM hx hb hr hlk (vp_nar_int _) hP hS dX5_side_72
        · have hf := (if_pos c8).symm.trans hf
          refine lv_ldc hx hb hown (hts _ mX5_side_2) dX5_side_39 ?_
          obtain rfl := Option.some.inj hf
          subst hA
          exact x_iretM hx hb hr hlk (vp_nar_int _) hP hS dX5_side_41
    · have hf := (if_pos c4).symm.trans hf
      refine lv_ldc hx hb hown (hts _ mX5_side_1) dX5_side_18 ?_
      obtain rfl := Option.some.inj hf
      subst hA
      exact x_iretM hx hb hr hlk (vp_nar_int _) hP hS dX5_side_20
abbrev rmX5_body : Room := { frames := 4, cells := 0, slots := 0, locals := 122 }
theorem mX5_body_0 : Cond.fieldLink RX5 12 "EvenWhite" "fount" "LEvenWhite$Fount;" ∈ wsX5_body := by decide +kernel
theorem mX5_body_1 : Cond.fieldLink RX5 87 "EvenWhite$Fount" "bodies" "[I" ∈ wsX5_body := by decide +kernel
theorem mX5_body_2 : Cond.constant RX5 53 (-1000000002) ∈ wsX5_body := by decide +kernel
theorem mX5_body_3 : Cond.constant RX5 75 (-1000000001) ∈ wsX5_body := by decide +kernel
theorem inX5_body_1 : ∀ w ∈ u_ws RX1 TX1 6, w ∈ wsX5_body := by decide +kernel
theorem inX5_body_5 : ∀ w ∈ u_ws RX5 TX5 6, w ∈ wsX5_body := by decide +kernel
def fX5_body (z : Fo) (ev : Ev) (li : Li) (te : Te) (pa : Pa) (im : Im) (x1 : Int32) (x2 : Int32) : Option (Int32 × Fo × Ev × Pa) :=
  (fX1_hasLetter z x1).bind fun v1 =>
  (if v1 = (0 : Int32) then
  some ((-1000000001 : Int32), z, ev, pa)
  else (fX5_within x2 (1 : Int32) (50 : Int32)).bind fun v3 =>
  (if v3 = (0 : Int32) then
  some ((-1000000002 : Int32), z, ev, pa)
  else (fX5_beginChange z ev li te pa im).bind fun v5 =>
  (rdI (Fo_bodies z) 3 x1).bind fun v6 =>
  (wrI (Fo_bodies z) 3 x1 x2).bind fun v7 =>
  some (v6, (Fo_set_bodies z v7), v5.1, v5.2)))
set_option maxHeartbeats 4000000 in
set_option maxRecDepth 100000 in
theorem kX5_body (l : Launch) (E : xG) (tq : Nat → Nat) (f : Nat → Nat) (q : Nat → Nat) (g : Nat → Nat) (h : Nat → Nat) (pq : Nat → Nat) (rq : Nat → Nat → Nat) (bq : Nat → Nat → Nat) (z : Fo) (ev : Ev) (li : Li) (te : Te) (pa : Pa) (im : Im) (x1 : Int32) (x2 : Int32) {r : (Int32 × Fo × Ev × Pa)} (hf : fX5_body z ev li te pa im x1 x2 = some r) : xMut l yX5_body wsX5_body rmX5_body E [.ref (tq 0), .int x1, .int x2] (wW E tq f q g h pq rq bq z ev li te pa im) (some (.int r.1)) (wW E tq f q g h pq rq bq r.2.1 r.2.2.1 li te r.2.2.2 im) := by
  refine Met.ofW (cc := cX5_body) (maxL := 4) (ret := (some .int)) (by decide) rfl ?_
  intro p e s m args below meth c s₁ B hml hv
  obtain ⟨rfl, hP, hK, hD0⟩ := hv
  have hx := B.exec
  have hb := B.bytes
  have hr := B.returns
  have hts := atoms_spec (ws := wsX5_body) B.pre
  have hown : s.vm.findClass RX5 = some m.cls := findClass_of_methodNamed B.named
  have hlk := B.notSynchronized
  have S : CallFix p m c cX5_body 4 s _ wsX5_body RX5 := ⟨hx, hb, hml, hown, hts⟩
  have hl := lv_entry ([.ref (tq 0), .int x1, .int x2]) (n := 4) (Nat.le_of_ble_eq_true rfl)
  rw [lg_entry_eq]
  generalize (lg_sl ([.ref (tq 0), .int x1, .int x2]) ++ List.replicate (4 - (lg_sl ([.ref (tq 0), .int x1, .int x2])).length) Slot.unset).toArray = ls at hl ⊢
  have hl : lv_has ls 4 [(0, .ref (tq 0)), (1, .int x1), (2, .int x2)] := hl
  have hD := xA.self hD0
  have hS : va_S (xA (wW E tq f q g h pq rq bq z ev li te pa im)) s.heap s.heap [] := va_S.rf
  show W p l e rmX5_body s m _ below meth c s.heap [] 0 0 _ _
  generalize hA : xA (wW E tq f q g h pq rq bq z ev li te pa im) = A at hD hS ⊢
  unfold fX5_body at hf
  refine lv_aload_n hx hb dX5_body_0 rfl (lv_at hl 0 rfl) ?_
  refine x_get hx hb hts inX5_body_5 hown hK hP 0 rfl rfl 0 (by decide) mX5_body_0 rfl dX5_body_1 ?_
  refine lv_iload_n hx hb dX5_body_4 rfl (lv_at hl 1 rfl) ?_
  obtain ⟨v1, h1, hf⟩ := ob hf
  refine x_pV (As := [.int x1]) (rest := []) S hK (kX1_hasLetter l E f z x1 h1) (cwV 1 hts gX5_body_X1_hasLetter rfl rfl rfl (by decide +kernel) ⟨Nat.le_of_ble_eq_true rfl, Nat.le_of_ble_eq_true rfl⟩) (hP.sub [19, 20, 21, 22] rfl) 0 rfl rfl rfl rfl hl.1 (Nat.le_of_ble_eq_true rfl) dX5_body_5 rfl ⟨Nat.zero_le _, Nat.zero_le _⟩ ?_
  refine lv_if_ne (tgt := 14) hx hb dX5_body_8 (by decide) (fun c2 => ?_) (fun c2 => ?_)
  · have hf := (if_neg c2).symm.trans hf
    refine lv_iload_n hx hb dX5_body_14 rfl (lv_at hl 2 rfl) ?_
    refine lv_iconst (v := 1) hx hb dX5_body_15 (by decide) ?_
    refine lv_bipush (v := 50) hx hb dX5_body_16 (by decide) ?_
    obtain ⟨v3, h3, hf⟩ := ob hf
    refine x_pS (As := [.int x2, .int (1 : Int32), .int (50 : Int32)]) (rest := []) S hK (kX5_within l E x2 (1 : Int32) (50 : Int32) h3) (va_cwS 3 hts gX5_body_X5_within rfl rfl rfl (by decide +kernel) ⟨Nat.le_of_ble_eq_true rfl, Nat.le_of_ble_eq_true rfl⟩) x_nil rfl hl.1 (Nat.le_of_ble_eq_true rfl) dX5_body_18 rfl ⟨Nat.zero_le _, Nat.zero_le _⟩ ?_
    refine lv_if_ne (tgt := 27) hx hb dX5_body_21 (by decide) (fun c4 => ?_) (fun c4 => ?_)
    · have hf := (if_neg c4).symm.trans hf
      refine lv_aload_n hx hb dX5_body_27 rfl (lv_at hl 0 rfl) ?_
      obtain ⟨v5, h5, hf⟩ := ob hf
      refine x_mR (ws' := wW E tq f q g h pq rq bq z v5.1 li te v5.2 im) (As := []) (rest := []) S hK (kX5_beginChange l E tq f q g h pq rq bq z ev li te pa im h5) (cwV 0 hts gX5_body_X5_beginChange rfl rfl rfl (by decide +kernel) ⟨Nat.le_of_ble_eq_true rfl, Nat.le_of_ble_eq_true rfl⟩) hP hD hS 0 65 rfl rfl 0 rfl rfl rfl rfl hl.1 (Nat.le_of_ble_eq_true rfl) dX5_body_28 rfl ⟨Nat.zero_le _, Nat.zero_le _⟩ rfl (fun H locs hP hD hS => ?_)
      refine lv_aload_n hx hb dX5_body_31 rfl (lv_at hl 0 rfl) ?_
      refine x_get hx hb hts inX5_body_5 hown hK hP 0 rfl rfl 0 (by decide) mX5_body_0 rfl dX5_body_32 ?_
      refine x_get hx hb hts inX5_body_1 hown hK hP 19 rfl rfl 3 (by decide) mX5_body_1 rfl dX5_body_35 ?_
      refine lv_iload_n hx hb dX5_body_38 rfl (lv_at hl 1 rfl) ?_
      obtain ⟨v6, h6, hf⟩ := ob hf
      refine x_iald hx hb hK hP 20 rfl h6 dX5_body_39 ?_
      refine lv_istore_n (lv' := [(3, .int v6), (0, .ref (tq 0)), (1, .int x1), (2, .int x2)]) hx hb dX5_body_40 rfl hl (by decide) rfl (fun ls hl => ?_)
      refine lv_aload_n hx hb dX5_body_41 rfl (lv_at hl 1 rfl) ?_
      refine x_get hx hb hts inX5_body_5 hown hK hP 0 rfl rfl 0 (by decide) mX5_body_0 rfl dX5_body_42 ?_
      refine x_get hx hb hts inX5_body_1 hown hK hP 19 rfl rfl 3 (by decide) mX5_body_1 rfl dX5_body_45 ?_
      refine lv_iload_n hx hb dX5_body_48 rfl (lv_at hl 2 rfl) ?_
      refine lv_iload_n hx hb dX5_body_49 rfl (lv_at hl 3 rfl) ?_
      obtain ⟨v7, h7, hf⟩ := ob hf
      refine x_iast hx hb hK hP hD hS 20 rfl h7 dX5_body_50 (fun H locs hP hD hS => ?_)
      have hP : va_P (xD E) vwCl (wW E tq f q g h pq rq bq (Fo_set_bodies z v7) v5.1 li te v5.2 im) H := hP
      have hD : va_D A (wW E tq f q g h pq rq bq (Fo_set_bodies z v7) v5.1 li te v5.2 im) := hD
      refine lv_iload_n hx hb dX5_body_51 rfl (lv_at hl 0 rfl) ?_
      obtain rfl := Option.some.inj hf
      subst hA
      exact x_iretM hx hb hr hlk (vp_nar_int _) hP hS dX5_body_52
    · have hf := (if_pos c4).symm.trans hf
      refine lv_ldc hx hb hown (hts _ mX5_body_2) dX5_body_24 ?_
      obtain rfl := Option.some.inj hf
      subst hA
      exact x_iretM hx hb hr hlk (vp_nar_int _) hP hS dX5_body_26
  · have hf := (if_pos c2).symm.trans hf
    refine lv_ldc hx hb hown (hts _ mX5_body_3) dX5_body_11 ?_
    obtain rfl := Option.some.inj hf
    subst hA
    exact x_iretM hx hb hr hlk (vp_nar_int _) hP hS dX5_body_13
abbrev rmX5_bound : Room := { frames := 4, cells := 0, slots := 0, locals := 122 }
theorem mX5_bound_0 : Cond.constant RX5 53 (-1000000002) ∈ wsX5_bound := by decide +kernel
theorem mX5_bound_1 : Cond.fieldLink RX5 12 "EvenWhite" "fount" "LEvenWhite$Fount;" ∈ wsX5_bound := by decide +kernel
theorem mX5_bound_2 : Cond.fieldLink RX5 94 "EvenWhite$Fount" "wanted" "I" ∈ wsX5_bound := by decide +kernel
theorem mX5_bound_3 : Cond.fieldLink RX5 91 "EvenWhite$Fount" "depth" "I" ∈ wsX5_bound := by decide +kernel
theorem inX5_bound_1 : ∀ w ∈ u_ws RX1 TX1 6, w ∈ wsX5_bound := by decide +kernel
theorem inX5_bound_5 : ∀ w ∈ u_ws RX5 TX5 6, w ∈ wsX5_bound := by decide +kernel
def fX5_bound (z : Fo) (ev : Ev) (li : Li) (te : Te) (pa : Pa) (im : Im) (x1 : Int32) (x2 : Int32) : Option (Int32 × Fo × Ev × Pa) :=
  (if x1 = (0 : Int32) then
  (fX5_within x2 (1 : Int32) (60 : Int32)).bind fun v6 =>
  (if v6 = (0 : Int32) then
  (if x1 = (1 : Int32) then
  (fX5_within x2 (0 : Int32) (500 : Int32)).bind fun v9 =>
  (if v9 = (0 : Int32) then
  some ((-1000000002 : Int32), z, ev, pa)
  else (fX5_beginChange z ev li te pa im).bind fun v11 =>
  some ((Fo_wanted z), (Fo_set_wanted z x2), v11.1, v11.2))
  else some ((-1000000002 : Int32), z, ev, pa))
  else (fX5_beginChange z ev li te pa im).bind fun v12 =>
  some ((Fo_depth z), (Fo_set_depth z x2), v12.1, v12.2))
  else (if x1 = (1 : Int32) then
  (fX5_within x2 (0 : Int32) (500 : Int32)).bind fun v3 =>
  (if v3 = (0 : Int32) then
  some ((-1000000002 : Int32), z, ev, pa)
  else (fX5_beginChange z ev li te pa im).bind fun v5 =>
  some ((Fo_wanted z), (Fo_set_wanted z x2), v5.1, v5.2))
  else some ((-1000000002 : Int32), z, ev, pa)))
set_option maxHeartbeats 4000000 in
set_option maxRecDepth 100000 in
theorem kX5_bound (l : Launch) (E : xG) (tq : Nat → Nat) (f : Nat → Nat) (q : Nat → Nat) (g : Nat → Nat) (h : Nat → Nat) (pq : Nat → Nat) (rq : Nat → Nat → Nat) (bq : Nat → Nat → Nat) (z : Fo) (ev : Ev) (li : Li) (te : Te) (pa : Pa) (im : Im) (x1 : Int32) (x2 : Int32) {r : (Int32 × Fo × Ev × Pa)} (hf : fX5_bound z ev li te pa im x1 x2 = some r) : xMut l yX5_bound wsX5_bound rmX5_bound E [.ref (tq 0), .int x1, .int x2] (wW E tq f q g h pq rq bq z ev li te pa im) (some (.int r.1)) (wW E tq f q g h pq rq bq r.2.1 r.2.2.1 li te r.2.2.2 im) := by
  refine Met.ofW (cc := cX5_bound) (maxL := 4) (ret := (some .int)) (by decide) rfl ?_
  intro p e s m args below meth c s₁ B hml hv
  obtain ⟨rfl, hP, hK, hD0⟩ := hv
  have hx := B.exec
  have hb := B.bytes
  have hr := B.returns
  have hts := atoms_spec (ws := wsX5_bound) B.pre
  have hown : s.vm.findClass RX5 = some m.cls := findClass_of_methodNamed B.named
  have hlk := B.notSynchronized
  have S : CallFix p m c cX5_bound 4 s _ wsX5_bound RX5 := ⟨hx, hb, hml, hown, hts⟩
  have hl := lv_entry ([.ref (tq 0), .int x1, .int x2]) (n := 4) (Nat.le_of_ble_eq_true rfl)
  rw [lg_entry_eq]
  generalize (lg_sl ([.ref (tq 0), .int x1, .int x2]) ++ List.replicate (4 - (lg_sl ([.ref (tq 0), .int x1, .int x2])).length) Slot.unset).toArray = ls at hl ⊢
  have hl : lv_has ls 4 [(0, .ref (tq 0)), (1, .int x1), (2, .int x2)] := hl
  have hD := xA.self hD0
  have hS : va_S (xA (wW E tq f q g h pq rq bq z ev li te pa im)) s.heap s.heap [] := va_S.rf
  show W p l e rmX5_bound s m _ below meth c s.heap [] 0 0 _ _
  generalize hA : xA (wW E tq f q g h pq rq bq z ev li te pa im) = A at hD hS ⊢
  unfold fX5_bound at hf
  refine lv_iload_n hx hb dX5_bound_0 rfl (lv_at hl 1 rfl) ?_
  refine lv_if_ne (tgt := 36) hx hb dX5_bound_1 (by decide) (fun c1 => ?_) (fun c1 => ?_)
  · have hf := (if_neg c1).symm.trans hf
    refine lv_iload_n hx hb dX5_bound_36 rfl (lv_at hl 1 rfl) ?_
    refine lv_iconst (v := 1) hx hb dX5_bound_37 (by decide) ?_
    refine lv_icmp_ne (tgt := 74) hx hb dX5_bound_38 (by decide) (fun c2 => ?_) (fun c2 => ?_)
    · have hf := (if_neg c2).symm.trans hf
      refine lv_ldc hx hb hown (hts _ mX5_bound_0) dX5_bound_74 ?_
      obtain rfl := Option.some.inj hf
      subst hA
      exact x_iretM hx hb hr hlk (vp_nar_int _) hP hS dX5_bound_76
    · have hf := (if_pos c2).symm.trans hf
      refine lv_iload_n hx hb dX5_bound_41 rfl (lv_at hl 2 rfl) ?_
      refine lv_iconst (v := 0) hx hb dX5_bound_42 (by decide) ?_
      refine lv_sipush (v := 500) hx hb dX5_bound_43 (by decide) ?_
      obtain ⟨v3, h3, hf⟩ := ob hf
      refine x_pS (As := [.int x2, .int (0 : Int32), .int (500 : Int32)]) (rest := []) S hK (kX5_within l E x2 (0 : Int32) (500 : Int32) h3) (va_cwS 3 hts gX5_bound_X5_within rfl rfl rfl (by decide +kernel) ⟨Nat.le_of_ble_eq_true rfl, Nat.le_of_ble_eq_true rfl⟩) x_nil rfl hl.1 (Nat.le_of_ble_eq_true rfl) dX5_bound_46 rfl ⟨Nat.zero_le _, Nat.zero_le _⟩ ?_
      refine lv_if_eq (tgt := 74) hx hb dX5_bound_49 (by decide) (fun c4 => ?_) (fun c4 => ?_)
      · have hf := (if_pos c4).symm.trans hf
        refine lv_ldc hx hb hown (hts _ mX5_bound_0) dX5_bound_74 ?_
        obtain rfl := Option.some.inj hf
        subst hA
        exact x_iretM hx hb hr hlk (vp_nar_int _) hP hS dX5_bound_76
      · have hf := (if_neg c4).symm.trans hf
        refine lv_aload_n hx hb dX5_bound_52 rfl (lv_at hl 0 rfl) ?_
        obtain ⟨v5, h5, hf⟩ := ob hf
        refine x_mR (ws' := wW E tq f q g h pq rq bq z v5.1 li te v5.2 im) (As := []) (rest := []) S hK (kX5_beginChange l E tq f q g h pq rq bq z ev li te pa im h5) (cwV 0 hts gX5_bound_X5_beginChange rfl rfl rfl (by decide +kernel) ⟨Nat.le_of_ble_eq_true rfl, Nat.le_of_ble_eq_true rfl⟩) hP hD hS 0 65 rfl rfl 0 rfl rfl rfl rfl hl.1 (Nat.le_of_ble_eq_true rfl) dX5_bound_53 rfl ⟨Nat.zero_le _, Nat.zero_le _⟩ rfl (fun H locs hP hD hS => ?_)
        refine lv_aload_n hx hb dX5_bound_56 rfl (lv_at hl 0 rfl) ?_
        refine x_get hx hb hts inX5_bound_5 hown hK hP 0 rfl rfl 0 (by decide) mX5_bound_1 rfl dX5_bound_57 ?_
        refine x_get hx hb hts inX5_bound_1 hown hK hP 19 rfl rfl 2 (by decide) mX5_bound_2 rfl dX5_bound_60 ?_
        refine lv_istore_n (lv' := [(3, .int (Fo_wanted z)), (0, .ref (tq 0)), (1, .int x1), (2, .int x2)]) hx hb dX5_bound_63 rfl hl (by decide) rfl (fun ls hl => ?_)
        refine lv_aload_n hx hb dX5_bound_64 rfl (lv_at hl 1 rfl) ?_
        refine x_get hx hb hts inX5_bound_5 hown hK hP 0 rfl rfl 0 (by decide) mX5_bound_1 rfl dX5_bound_65 ?_
        refine lv_iload_n hx hb dX5_bound_68 rfl (lv_at hl 3 rfl) ?_
        refine x_putf hx hb hts inX5_bound_1 tyX1_ok nmX1 hown hK hP hD hS 19 rfl rfl 2 (by decide) mX5_bound_2 rfl (vp_nar_int _) rfl (Nat.le_of_ble_eq_true rfl) dX5_bound_69 (fun H locs hP hD hS => ?_)
        have hP : va_P (xD E) vwCl (wW E tq f q g h pq rq bq (Fo_set_wanted z x2) v5.1 li te v5.2 im) H := hP
        have hD : va_D A (wW E tq f q g h pq rq bq (Fo_set_wanted z x2) v5.1 li te v5.2 im) := hD
        refine lv_iload_n hx hb dX5_bound_72 rfl (lv_at hl 0 rfl) ?_
        obtain rfl := Option.some.inj hf
        subst hA
        exact x_iretM hx hb hr hlk (vp_nar_int _) hP hS dX5_bound_73
  · have hf := (if_pos c1).symm.trans hf
    refine lv_iload_n hx hb dX5_bound_4 rfl (lv_at hl 2 rfl) ?_
    refine lv_iconst (v := 1) hx hb dX5_bound_5 (by decide) ?_
    refine lv_bipush (v := 60) hx hb dX5_bound_6 (by decide) ?_
    obtain ⟨v6, h6, hf⟩ := ob hf
    refine x_pS (As := [.int x2, .int (1 : Int32), .int (60 : Int32)]) (rest := []) S hK (kX5_within l E x2 (1 : Int32) (60 : Int32) h6) (va_cwS 3 hts gX5_bound_X5_within rfl rfl rfl (by decide +kernel) ⟨Nat.le_of_ble_eq_true rfl, Nat.le_of_ble_eq_true rfl⟩) x_nil rfl hl.1 (Nat.le_of_ble_eq_true rfl) dX5_bound_8 rfl ⟨Nat.zero_le _, Nat.zero_le _⟩ ?_
    refine lv_if_eq (tgt := 36) hx hb dX5_bound_11 (by decide) (fun c7 => ?_) (fun c7 => ?_)
    · have hf := (if_pos c7).symm.trans hf
      refine lv_iload_n hx hb dX5_bound_36 rfl (lv_at hl 1 rfl) ?_
      refine lv_iconst (v := 1) hx hb dX5_bound_37 (by decide) ?_
      refine lv_icmp_ne (tgt := 74) hx hb dX5_bound_38 (by decide) (fun c8 => ?_) (fun c8 => ?_)
      · have hf := (if_neg c8).symm.trans hf
        refine lv_ldc hx hb hown (hts _ mX5_bound_0) dX5_bound_74 ?_
        obtain rfl := Option.some.inj hf
        subst hA
        exact x_iretM hx hb hr hlk (vp_nar_int _) hP hS dX5_bound_76
      · have hf := (if_pos c8).symm.trans hf
        refine lv_iload_n hx hb dX5_bound_41 rfl (lv_at hl 2 rfl) ?_
        refine lv_iconst (v := 0) hx hb dX5_bound_42 (by decide) ?_
        refine lv_sipush (v := 500) hx hb dX5_bound_43 (by decide) ?_
        obtain ⟨v9, h9, hf⟩ := ob hf
        refine x_pS (As := [.int x2, .int (0 : Int32), .int (500 : Int32)]) (rest := []) S hK (kX5_within l E x2 (0 : Int32) (500 : Int32) h9) (va_cwS 3 hts gX5_bound_X5_within rfl rfl rfl (by decide +kernel) ⟨Nat.le_of_ble_eq_true rfl, Nat.le_of_ble_eq_true rfl⟩) x_nil rfl hl.1 (Nat.le_of_ble_eq_true rfl) dX5_bound_46 rfl ⟨Nat.zero_le _, Nat.zero_le _⟩ ?_
        refine lv_if_eq (tgt := 74) hx hb dX5_bound_49 (by decide) (fun c10 => ?_) (fun c10 => ?_)
        · have hf := (if_pos c10).symm.trans hf
          refine lv_ldc hx hb hown (hts _ mX5_bound_0) dX5_bound_74 ?_
          obtain rfl := Option.some.inj hf
          subst hA
          exact x_iretM hx hb hr hlk (vp_nar_int _) hP hS dX5_bound_76
        · have hf := (if_neg c10).symm.trans hf
          refine lv_aload_n hx hb dX5_bound_52 rfl (lv_at hl 0 rfl) ?_
          obtain ⟨v11, h11, hf⟩ := ob hf
          refine x_mR (ws' := wW E tq f q g h pq rq bq z v11.1 li te v11.2 im) (As := []) (rest := []) S hK (kX5_beginChange l E tq f q g h pq rq bq z ev li te pa im h11) (cwV 0 hts gX5_bound_X5_beginChange rfl rfl rfl (by decide +kernel) ⟨Nat.le_of_ble_eq_true rfl, Nat.le_of_ble_eq_true rfl⟩) hP hD hS 0 65 rfl rfl 0 rfl rfl rfl rfl hl.1 (Nat.le_of_ble_eq_true rfl) dX5_bound_53 rfl ⟨Nat.zero_le _, Nat.zero_le _⟩ rfl (fun H locs hP hD hS => ?_)
          refine lv_aload_n hx hb dX5_bound_56 rfl (lv_at hl 0 rfl) ?_
          refine x_get hx hb hts inX5_bound_5 hown hK hP 0 rfl rfl 0 (by decide) mX5_bound_1 rfl dX5_bound_57 ?_
          refine x_get hx hb hts inX5_bound_1 hown hK hP 19 rfl rfl 2 (by decide) mX5_bound_2 rfl dX5_bound_60 ?_
          refine lv_istore_n (lv' := [(3, .int (Fo_wanted z)), (0, .ref (tq 0)), (1, .int x1), (2, .int x2)]) hx hb dX5_bound_63 rfl hl (by decide) rfl (fun ls hl => ?_)
          refine lv_aload_n hx hb dX5_bound_64 rfl (lv_at hl 1 rfl) ?_
          refine x_get hx hb hts inX5_bound_5 hown hK hP 0 rfl rfl 0 (by decide) mX5_bound_1 rfl dX5_bound_65 ?_
          refine lv_iload_n hx hb dX5_bound_68 rfl (lv_at hl 3 rfl) ?_
          refine x_putf hx hb hts inX5_bound_1 tyX1_ok nmX1 hown hK hP hD hS 19 rfl rfl 2 (by decide) mX5_bound_2 rfl (vp_nar_int _) rfl (Nat.le_of_ble_eq_true rfl) dX5_bound_69 (fun H locs hP hD hS => ?_)
          have hP : va_P (xD E) vwCl (wW E tq f q g h pq rq bq (Fo_set_wanted z x2) v11.1 li te v11.2 im) H := hP
          have hD : va_D A (wW E tq f q g h pq rq bq (Fo_set_wanted z x2) v11.1 li te v11.2 im) := hD
          refine lv_iload_n hx hb dX5_bound_72 rfl (lv_at hl 0 rfl) ?_
          obtain rfl := Option.some.inj hf
          subst hA
          exact x_iretM hx hb hr hlk (vp_nar_int _) hP hS dX5_bound_73
    · have hf := (if_neg c7).symm.trans hf
      refine lv_aload_n hx hb dX5_bound_14 rfl (lv_at hl 0 rfl) ?_
      obtain ⟨v12, h12, hf⟩ := ob hf
      refine x_mR (ws' := wW E tq f q g h pq rq bq z v12.1 li te v12.2 im) (As := []) (rest := []) S hK (kX5_beginChange l E tq f q g h pq rq bq z ev li te pa im h12) (cwV 0 hts gX5_bound_X5_beginChange rfl rfl rfl (by decide +kernel) ⟨Nat.le_of_ble_eq_true rfl, Nat.le_of_ble_eq_true rfl⟩) hP hD hS 0 65 rfl rfl 0 rfl rfl rfl rfl hl.1 (Nat.le_of_ble_eq_true rfl) dX5_bound_15 rfl ⟨Nat.zero_le _, Nat.zero_le _⟩ rfl (fun H locs hP hD hS => ?_)
      refine lv_aload_n hx hb dX5_bound_18 rfl (lv_at hl 0 rfl) ?_
      refine x_get hx hb hts inX5_bound_5 hown hK hP 0 rfl rfl 0 (by decide) mX5_bound_1 rfl dX5_bound_19 ?_
      refine x_get hx hb hts inX5_bound_1 hown hK hP 19 rfl rfl 1 (by decide) mX5_bound_3 rfl dX5_bound_22 ?_
      refine lv_istore_n (lv' := [(3, .int (Fo_depth z)), (0, .ref (tq 0)), (1, .int x1), (2, .int x2)]) hx hb dX5_bound_25 rfl hl (by decide) rfl (fun ls hl => ?_)
      refine lv_aload_n hx hb dX5_bound_26 rfl (lv_at hl 1 rfl) ?_
      refine x_get hx hb hts inX5_bound_5 hown hK hP 0 rfl rfl 0 (by decide) mX5_bound_1 rfl dX5_bound_27 ?_
      refine lv_iload_n hx hb dX5_bound_30 rfl (lv_at hl 3 rfl) ?_
      refine x_putf hx hb hts inX5_bound_1 tyX1_ok nmX1 hown hK hP hD hS 19 rfl rfl 1 (by decide) mX5_bound_3 rfl (vp_nar_int _) rfl (Nat.le_of_ble_eq_true rfl) dX5_bound_31 (fun H locs hP hD hS => ?_)
      have hP : va_P (xD E) vwCl (wW E tq f q g h pq rq bq (Fo_set_depth z x2) v12.1 li te v12.2 im) H := hP
      have hD : va_D A (wW E tq f q g h pq rq bq (Fo_set_depth z x2) v12.1 li te v12.2 im) := hD
      refine lv_iload_n hx hb dX5_bound_34 rfl (lv_at hl 0 rfl) ?_
      obtain rfl := Option.some.inj hf
      subst hA
      exact x_iretM hx hb hr hlk (vp_nar_int _) hP hS dX5_bound_35
abbrev rmX5_weight : Room := { frames := 4, cells := 0, slots := 0, locals := 122 }
theorem mX5_weight_0 : Cond.fieldLink RX5 12 "EvenWhite" "fount" "LEvenWhite$Fount;" ∈ wsX5_weight := by decide +kernel
theorem mX5_weight_1 : Cond.constant RX5 53 (-1000000002) ∈ wsX5_weight := by decide +kernel
theorem mX5_weight_2 : Cond.constant RX5 75 (-1000000001) ∈ wsX5_weight := by decide +kernel
theorem inX5_weight_5 : ∀ w ∈ u_ws RX5 TX5 6, w ∈ wsX5_weight := by decide +kernel
def fX5_weight (z : Fo) (ev : Ev) (li : Li) (te : Te) (pa : Pa) (im : Im) (x1 : Int32) (x2 : Int32) (x3 : Int32) : Option (Int32 × Fo × Ev × Pa) :=
  (fX1_hasPair z x1 x2).bind fun v1 =>
  (if v1 = (0 : Int32) then
  some ((-1000000001 : Int32), z, ev, pa)
  else (fX5_within x3 (0 : Int32) (4 : Int32)).bind fun v3 =>
  (if v3 = (0 : Int32) then
  some ((-1000000002 : Int32), z, ev, pa)
  else (fX5_beginChange z ev li te pa im).bind fun v5 =>
  (fX1_weightOf z x1 x2).bind fun v6 =>
  (fX1_putWeight z x1 x2 x3).bind fun v7 =>
  some (v6, v7, v5.1, v5.2)))
set_option maxHeartbeats 4000000 in
set_option maxRecDepth 100000 in
theorem kX5_weight (l : Launch) (E : xG) (tq : Nat → Nat) (f : Nat → Nat) (q : Nat → Nat) (g : Nat → Nat) (h : Nat → Nat) (pq : Nat → Nat) (rq : Nat → Nat → Nat) (bq : Nat → Nat → Nat) (z : Fo) (ev : Ev) (li : Li) (te : Te) (pa : Pa) (im : Im) (x1 : Int32) (x2 : Int32) (x3 : Int32) {r : (Int32 × Fo × Ev × Pa)} (hf : fX5_weight z ev li te pa im x1 x2 x3 = some r) : xMut l yX5_weight wsX5_weight rmX5_weight E [.ref (tq 0), .int x1, .int x2, .int x3] (wW E tq f q g h pq rq bq z ev li te pa im) (some (.int r.1)) (wW E tq f q g h pq rq bq r.2.1 r.2.2.1 li te r.2.2.2 im) := by
  refine Met.ofW (cc := cX5_weight) (maxL := 5) (ret := (some .int)) (by decide) rfl ?_
  intro p e s m args below meth c s₁ B hml hv
  obtain ⟨rfl, hP, hK, hD0⟩ := hv
  have hx := B.exec
  have hb := B.bytes
  have hr := B.returns
  have hts := atoms_spec (ws := wsX5_weight) B.pre
  have hown : s.vm.findClass RX5 = some m.cls := findClass_of_methodNamed B.named
  have hlk := B.notSynchronized
  have S : CallFix p m c cX5_weight 5 s _ wsX5_weight RX5 := ⟨hx, hb, hml, hown, hts⟩
  have hl := lv_entry ([.ref (tq 0), .int x1, .int x2, .int x3]) (n := 5) (Nat.le_of_ble_eq_true rfl)
  rw [lg_entry_eq]
  generalize (lg_sl ([.ref (tq 0), .int x1, .int x2, .int x3]) ++ List.replicate (5 - (lg_sl ([.ref (tq 0), .int x1, .int x2, .int x3])).length) Slot.unset).toArray = ls at hl ⊢
  have hl : lv_has ls 5 [(0, .ref (tq 0)), (1, .int x1), (2, .int x2), (3, .int x3)] := hl
  have hD := xA.self hD0
  have hS : va_S (xA (wW E tq f q g h pq rq bq z ev li te pa im)) s.heap s.heap [] := va_S.rf
  show W p l e rmX5_weight s m _ below meth c s.heap [] 0 0 _ _
  generalize hA : xA (wW E tq f q g h pq rq bq z ev li te pa im) = A at hD hS ⊢
  unfold fX5_weight at hf
  refine lv_aload_n hx hb dX5_weight_0 rfl (lv_at hl 0 rfl) ?_
  refine x_get hx hb hts inX5_weight_5 hown hK hP 0 rfl rfl 0 (by decide) mX5_weight_0 rfl dX5_weight_1 ?_
  refine lv_iload_n hx hb dX5_weight_4 rfl (lv_at hl 1 rfl) ?_
  refine lv_iload_n hx hb dX5_weight_5 rfl (lv_at hl 2 rfl) ?_
  obtain ⟨v1, h1, hf⟩ := ob hf
  refine x_pV (As := [.int x1, .int x2]) (rest := []) S hK (kX1_hasPair l E f z x1 x2 h1) (cwV 2 hts gX5_weight_X1_hasPair rfl rfl rfl (by decide +kernel) ⟨Nat.le_of_ble_eq_true rfl, Nat.le_of_ble_eq_true rfl⟩) (hP.sub [19, 20, 21, 22] rfl) 0 rfl rfl rfl rfl hl.1 (Nat.le_of_ble_eq_true rfl) dX5_weight_6 rfl ⟨Nat.zero_le _, Nat.zero_le _⟩ ?_
  refine lv_if_ne (tgt := 15) hx hb dX5_weight_9 (by decide) (fun c2 => ?_) (fun c2 => ?_)
  · have hf := (if_neg c2).symm.trans hf
    refine lv_iload_n hx hb dX5_weight_15 rfl (lv_at hl 3 rfl) ?_
    refine lv_iconst (v := 0) hx hb dX5_weight_16 (by decide) ?_
    refine lv_iconst (v := 4) hx hb dX5_weight_17 (by decide) ?_
    obtain ⟨v3, h3, hf⟩ := ob hf
    refine x_pS (As := [.int x3, .int (0 : Int32), .int (4 : Int32)]) (rest := []) S hK (kX5_within l E x3 (0 : Int32) (4 : Int32) h3) (va_cwS 3 hts gX5_weight_X5_within rfl rfl rfl (by decide +kernel) ⟨Nat.le_of_ble_eq_true rfl, Nat.le_of_ble_eq_true rfl⟩) x_nil rfl hl.1 (Nat.le_of_ble_eq_true rfl) dX5_weight_18 rfl ⟨Nat.zero_le _, Nat.zero_le _⟩ ?_
    refine lv_if_ne (tgt := 27) hx hb dX5_weight_21 (by decide) (fun c4 => ?_) (fun c4 => ?_)
    · have hf := (if_neg c4).symm.trans hf
      refine lv_aload_n hx hb dX5_weight_27 rfl (lv_at hl 0 rfl) ?_
      obtain ⟨v5, h5, hf⟩ := ob hf
      refine x_mR (ws' := wW E tq f q g h pq rq bq z v5.1 li te v5.2 im) (As := []) (rest := []) S hK (kX5_beginChange l E tq f q g h pq rq bq z ev li te pa im h5) (cwV 0 hts gX5_weight_X5_beginChange rfl rfl rfl (by decide +kernel) ⟨Nat.le_of_ble_eq_true rfl, Nat.le_of_ble_eq_true rfl⟩) hP hD hS 0 65 rfl rfl 0 rfl rfl rfl rfl hl.1 (Nat.le_of_ble_eq_true rfl) dX5_weight_28 rfl ⟨Nat.zero_le _, Nat.zero_le _⟩ rfl (fun H locs hP hD hS => ?_)
      refine lv_aload_n hx hb dX5_weight_31 rfl (lv_at hl 0 rfl) ?_
      refine x_get hx hb hts inX5_weight_5 hown hK hP 0 rfl rfl 0 (by decide) mX5_weight_0 rfl dX5_weight_32 ?_
      refine lv_iload_n hx hb dX5_weight_35 rfl (lv_at hl 1 rfl) ?_
      refine lv_iload_n hx hb dX5_weight_36 rfl (lv_at hl 2 rfl) ?_
      obtain ⟨v6, h6, hf⟩ := ob hf
      refine x_pV (As := [.int x1, .int x2]) (rest := []) S hK (kX1_weightOf l E f z x1 x2 h6) (cwV 2 hts gX5_weight_X1_weightOf rfl rfl rfl (by decide +kernel) ⟨Nat.le_of_ble_eq_true rfl, Nat.le_of_ble_eq_true rfl⟩) (hP.sub [19, 20, 21, 22] rfl) 0 rfl rfl rfl rfl hl.1 (Nat.le_of_ble_eq_true rfl) dX5_weight_37 rfl ⟨Nat.zero_le _, Nat.zero_le _⟩ ?_
      refine lv_istore (lv' := [(4, .int v6), (0, .ref (tq 0)), (1, .int x1), (2, .int x2), (3, .int x3)]) hx hb dX5_weight_40 hl (by decide) rfl (fun ls hl => ?_)
      refine lv_aload_n hx hb dX5_weight_42 rfl (lv_at hl 1 rfl) ?_
      refine x_get hx hb hts inX5_weight_5 hown hK hP 0 rfl rfl 0 (by decide) mX5_weight_0 rfl dX5_weight_43 ?_
      refine lv_iload_n hx hb dX5_weight_46 rfl (lv_at hl 2 rfl) ?_
      refine lv_iload_n hx hb dX5_weight_47 rfl (lv_at hl 3 rfl) ?_
      refine lv_iload_n hx hb dX5_weight_48 rfl (lv_at hl 4 rfl) ?_
      obtain ⟨v7, h7, hf⟩ := ob hf
      refine x_mR (ws' := wW E tq f q g h pq rq bq v7 v5.1 li te v5.2 im) (As := [.int x1, .int x2, .int x3]) (rest := []) S hK (kX1_putWeight l E f z x1 x2 x3 h7) (cwV 3 hts gX5_weight_X1_putWeight rfl rfl rfl (by decide +kernel) ⟨Nat.le_of_ble_eq_true rfl, Nat.le_of_ble_eq_true rfl⟩) hP hD hS 19 4 rfl rfl 0 rfl rfl rfl rfl hl.1 (Nat.le_of_ble_eq_true rfl) dX5_weight_49 rfl ⟨Nat.zero_le _, Nat.zero_le _⟩ rfl (fun H locs hP hD hS => ?_)
      refine lv_iload hx hb dX5_weight_52 (lv_at hl 0 rfl) ?_
      obtain rfl := Option.some.inj hf
      subst hA
      exact x_iretM hx hb hr hlk (vp_nar_int _) hP hS dX5_weight_54
    · have hf := (if_pos c4).symm.trans hf
      refine lv_ldc hx hb hown (hts _ mX5_weight_1) dX5_weight_24 ?_
      obtain rfl := Option.some.inj hf
      subst hA
      exact x_iretM hx hb hr hlk (vp_nar_int _) hP hS dX5_weight_26
  · have hf := (if_pos c2).symm.trans hf
    refine lv_ldc hx hb hown (hts _ mX5_weight_2) dX5_weight_12 ?_
    obtain rfl := Option.some.inj hf
    subst hA
    exact x_iretM hx hb hr hlk (vp_nar_int _) hP hS dX5_weight_14
abbrev rmX5_mirror : Room := { frames := 4, cells := 0, slots := 0, locals := 122 }
theorem mX5_mirror_0 : Cond.fieldLink RX5 12 "EvenWhite" "fount" "LEvenWhite$Fount;" ∈ wsX5_mirror := by decide +kernel
theorem mX5_mirror_1 : Cond.constant RX5 75 (-1000000001) ∈ wsX5_mirror := by decide +kernel
theorem inX5_mirror_5 : ∀ w ∈ u_ws RX5 TX5 6, w ∈ wsX5_mirror := by decide +kernel
def fX5_mirror (z : Fo) (ev : Ev) (li : Li) (te : Te) (pa : Pa) (im : Im) (x1 : Int32) : Option (Int32 × Fo × Ev × Pa) :=
  (fX1_hasLetter z x1).bind fun v1 =>
  (if v1 = (0 : Int32) then
  some ((-1000000001 : Int32), z, ev, pa)
  else (fX5_beginChange z ev li te pa im).bind fun v3 =>
  (fX1_hasLikeSides z x1).bind fun v4 =>
  (fX1_swapSides z x1).bind fun v6 =>
  some ((if v4 = (0 : Int32) then (1 : Int32) else (0 : Int32)), v6, v3.1, v3.2))
set_option maxHeartbeats 4000000 in
set_option maxRecDepth 100000 in
theorem kX5_mirror (l : Launch) (E : xG) (tq : Nat → Nat) (f : Nat → Nat) (q : Nat → Nat) (g : Nat → Nat) (h : Nat → Nat) (pq : Nat → Nat) (rq : Nat → Nat → Nat) (bq : Nat → Nat → Nat) (z : Fo) (ev : Ev) (li : Li) (te : Te) (pa : Pa) (im : Im) (x1 : Int32) {r : (Int32 × Fo × Ev × Pa)} (hf : fX5_mirror z ev li te pa im x1 = some r) : xMut l yX5_mirror wsX5_mirror rmX5_mirror E [.ref (tq 0), .int x1] (wW E tq f q g h pq rq bq z ev li te pa im) (some (.int r.1)) (wW E tq f q g h pq rq bq r.2.1 r.2.2.1 li te r.2.2.2 im) := by
  refine Met.ofW (cc := cX5_mirror) (maxL := 3) (ret := (some .int)) (by decide) rfl ?_
  intro p e s m args below meth c s₁ B hml hv
  obtain ⟨rfl, hP, hK, hD0⟩ := hv
  have hx := B.exec
  have hb := B.bytes
  have hr := B.returns
  have hts := atoms_spec (ws := wsX5_mirror) B.pre
  have hown : s.vm.findClass RX5 = some m.cls := findClass_of_methodNamed B.named
  have hlk := B.notSynchronized
  have S : CallFix p m c cX5_mirror 3 s _ wsX5_mirror RX5 := ⟨hx, hb, hml, hown, hts⟩
  have hl := lv_entry ([.ref (tq 0), .int x1]) (n := 3) (Nat.le_of_ble_eq_true rfl)
  rw [lg_entry_eq]
  generalize (lg_sl ([.ref (tq 0), .int x1]) ++ List.replicate (3 - (lg_sl ([.ref (tq 0), .int x1])).length) Slot.unset).toArray = ls at hl ⊢
  have hl : lv_has ls 3 [(0, .ref (tq 0)), (1, .int x1)] := hl
  have hD := xA.self hD0
  have hS : va_S (xA (wW E tq f q g h pq rq bq z ev li te pa im)) s.heap s.heap [] := va_S.rf
  show W p l e rmX5_mirror s m _ below meth c s.heap [] 0 0 _ _
  generalize hA : xA (wW E tq f q g h pq rq bq z ev li te pa im) = A at hD hS ⊢
  unfold fX5_mirror at hf
  refine lv_aload_n hx hb dX5_mirror_0 rfl (lv_at hl 0 rfl) ?_
  refine x_get hx hb hts inX5_mirror_5 hown hK hP 0 rfl rfl 0 (by decide) mX5_mirror_0 rfl dX5_mirror_1 ?_
  refine lv_iload_n hx hb dX5_mirror_4 rfl (lv_at hl 1 rfl) ?_
  obtain ⟨v1, h1, hf⟩ := ob hf
  refine x_pV (As := [.int x1]) (rest := []) S hK (kX1_hasLetter l E f z x1 h1) (cwV 1 hts gX5_mirror_X1_hasLetter rfl rfl rfl (by decide +kernel) ⟨Nat.le_of_ble_eq_true rfl, Nat.le_of_ble_eq_true rfl⟩) (hP.sub [19, 20, 21, 22] rfl) 0 rfl rfl rfl rfl hl.1 (Nat.le_of_ble_eq_true rfl) dX5_mirror_5 rfl ⟨Nat.zero_le _, Nat.zero_le _⟩ ?_
  refine lv_if_ne (tgt := 14) hx hb dX5_mirror_8 (by decide) (fun c2 => ?_) (fun c2 => ?_)
  · have hf := (if_neg c2).symm.trans hf
    refine lv_aload_n hx hb dX5_mirror_14 rfl (lv_at hl 0 rfl) ?_
    obtain ⟨v3, h3, hf⟩ := ob hf
    refine x_mR (ws' := wW E tq f q g h pq rq bq z v3.1 li te v3.2 im) (As := []) (rest := []) S hK (kX5_beginChange l E tq f q g h pq rq bq z ev li te pa im h3) (cwV 0 hts gX5_mirror_X5_beginChange rfl rfl rfl (by decide +kernel) ⟨Nat.le_of_ble_eq_true rfl, Nat.le_of_ble_eq_true rfl⟩) hP hD hS 0 65 rfl rfl 0 rfl rfl rfl rfl hl.1 (Nat.le_of_ble_eq_true rfl) dX5_mirror_15 rfl ⟨Nat.zero_le _, Nat.zero_le _⟩ rfl (fun H locs hP hD hS => ?_)
    refine lv_aload_n hx hb dX5_mirror_18 rfl (lv_at hl 0 rfl) ?_
    refine x_get hx hb hts inX5_mirror_5 hown hK hP 0 rfl rfl 0 (by decide) mX5_mirror_0 rfl dX5_mirror_19 ?_
    refine lv_iload_n hx hb dX5_mirror_22 rfl (lv_at hl 1 rfl) ?_
    obtain ⟨v4, h4, hf⟩ := ob hf
    refine x_pV (As := [.int x1]) (rest := []) S hK (kX1_hasLikeSides l E f z x1 h4) (cwV 1 hts gX5_mirror_X1_hasLikeSides rfl rfl rfl (by decide +kernel) ⟨Nat.le_of_ble_eq_true rfl, Nat.le_of_ble_eq_true rfl⟩) (hP.sub [19, 20, 21, 22] rfl) 0 rfl rfl rfl rfl hl.1 (Nat.le_of_ble_eq_true rfl) dX5_mirror_23 rfl ⟨Nat.zero_le _, Nat.zero_le _⟩ ?_
    refine x_cut (pc := 34) (ls := ls) (st := [.int (if v4 = (0 : Int32) then (1 : Int32) else (0 : Int32))]) ?_ (fun hj => ?_)
    · refine lv_istore_n (lv' := [(2, .int (if v4 = (0 : Int32) then (1 : Int32) else (0 : Int32))), (0, .ref (tq 0)), (1, .int x1)]) hx hb dX5_mirror_34 rfl hl (by decide) rfl (fun ls hl => ?_)
      refine lv_aload_n hx hb dX5_mirror_35 rfl (lv_at hl 1 rfl) ?_
      refine x_get hx hb hts inX5_mirror_5 hown hK hP 0 rfl rfl 0 (by decide) mX5_mirror_0 rfl dX5_mirror_36 ?_
      refine lv_iload_n hx hb dX5_mirror_39 rfl (lv_at hl 2 rfl) ?_
      obtain ⟨v6, h6, hf⟩ := ob hf
      refine x_mR (ws' := wW E tq f q g h pq rq bq v6 v3.1 li te v3.2 im) (As := [.int x1]) (rest := []) S hK (kX1_swapSides l E f z x1 h6) (cwV 1 hts gX5_mirror_X1_swapSides rfl rfl rfl (by decide +kernel) ⟨Nat.le_of_ble_eq_true rfl, Nat.le_of_ble_eq_true rfl⟩) hP hD hS 19 4 rfl rfl 0 rfl rfl rfl rfl hl.1 (Nat.le_of_ble_eq_true rfl) dX5_mirror_40 rfl ⟨Nat.zero_le _, Nat.zero_le _⟩ rfl (fun H locs hP hD hS => ?_)
      refine lv_iload_n hx hb dX5_mirror_43 rfl (lv_at hl 0 rfl) ?_
      obtain rfl := Option.some.inj hf
      subst hA
      exact x_iretM hx hb hr hlk (vp_nar_int _) hP hS dX5_mirror_44
    · refine lv_if_eq (tgt := 33) hx hb dX5_mirror_26 (by decide) (fun c5 => ?_) (fun c5 => ?_)
      · refine lv_iconst (v := 1) hx hb dX5_mirror_33 (by decide) ?_
        exact (by rw [if_pos c5] at hj; exact hj)
      · refine lv_iconst (v := 0) hx hb dX5_mirror_29 (by decide) ?_
        refine lv_goto (tgt := 34) hx hb dX5_mirror_30 (by decide) ?_
        exact (by rw [if_neg c5] at hj; exact hj)
  · have hf := (if_pos c2).symm.trans hf
    refine lv_ldc hx hb hown (hts _ mX5_mirror_1) dX5_mirror_11 ?_
    obtain rfl := Option.some.inj hf
    subst hA
    exact x_iretM hx hb hr hlk (vp_nar_int _) hP hS dX5_mirror_13
abbrev rmX5_turn : Room := { frames := 4, cells := 0, slots := 0, locals := 122 }
theorem mX5_turn_0 : Cond.fieldLink RX5 12 "EvenWhite" "fount" "LEvenWhite$Fount;" ∈ wsX5_turn := by decide +kernel
theorem mX5_turn_1 : Cond.fieldLink RX5 57 "EvenWhite$Fount" "many" "I" ∈ wsX5_turn := by decide +kernel
theorem inX5_turn_1 : ∀ w ∈ u_ws RX1 TX1 6, w ∈ wsX5_turn := by decide +kernel
theorem inX5_turn_5 : ∀ w ∈ u_ws RX5 TX5 6, w ∈ wsX5_turn := by decide +kernel
def fX5_turn (z : Fo) (ev : Ev) (li : Li) (te : Te) (pa : Pa) (im : Im) : Option (Int32 × Fo × Ev × Pa) :=
  (fX5_beginChange z ev li te pa im).bind fun v1 =>
  (fX1_turnRound z).bind fun v2 =>
  some ((Fo_many v2), v2, v1.1, v1.2)
set_option maxHeartbeats 4000000 in
set_option maxRecDepth 100000 in
theorem kX5_turn (l : Launch) (E : xG) (tq : Nat → Nat) (f : Nat → Nat) (q : Nat → Nat) (g : Nat → Nat) (h : Nat → Nat) (pq : Nat → Nat) (rq : Nat → Nat → Nat) (bq : Nat → Nat → Nat) (z : Fo) (ev : Ev) (li : Li) (te : Te) (pa : Pa) (im : Im) {r : (Int32 × Fo × Ev × Pa)} (hf : fX5_turn z ev li te pa im = some r) : xMut l yX5_turn wsX5_turn rmX5_turn E [.ref (tq 0)] (wW E tq f q g h pq rq bq z ev li te pa im) (some (.int r.1)) (wW E tq f q g h pq rq bq r.2.1 r.2.2.1 li te r.2.2.2 im) := by
  refine Met.ofW (cc := cX5_turn) (maxL := 1) (ret := (some .int)) (by decide) rfl ?_
  intro p e s m args below meth c s₁ B hml hv
  obtain ⟨rfl, hP, hK, hD0⟩ := hv
  have hx := B.exec
  have hb := B.bytes
  have hr := B.returns
  have hts := atoms_spec (ws := wsX5_turn) B.pre
  have hown : s.vm.findClass RX5 = some m.cls := findClass_of_methodNamed B.named
  have hlk := B.notSynchronized
  have S : CallFix p m c cX5_turn 1 s _ wsX5_turn RX5 := ⟨hx, hb, hml, hown, hts⟩
  have hl := lv_entry ([.ref (tq 0)]) (n := 1) (Nat.le_of_ble_eq_true rfl)
  rw [lg_entry_eq]
  generalize (lg_sl ([.ref (tq 0)]) ++ List.replicate (1 - (lg_sl ([.ref (tq 0)])).length) Slot.unset).toArray = ls at hl ⊢
  have hl : lv_has ls 1 [(0, .ref (tq 0))] := hl
  have hD := xA.self hD0
  have hS : va_S (xA (wW E tq f q g h pq rq bq z ev li te pa im)) s.heap s.heap [] := va_S.rf
  show W p l e rmX5_turn s m _ below meth c s.heap [] 0 0 _ _
  generalize hA : xA (wW E tq f q g h pq rq bq z ev li te pa im) = A at hD hS ⊢
  unfold fX5_turn at hf
  refine lv_aload_n hx hb dX5_turn_0 rfl (lv_at hl 0 rfl) ?_
  obtain ⟨v1, h1, hf⟩ := ob hf
  refine x_mR (ws' := wW E tq f q g h pq rq bq z v1.1 li te v1.2 im) (As := []) (rest := []) S hK (kX5_beginChange l E tq f q g h pq rq bq z ev li te pa im h1) (cwV 0 hts gX5_turn_X5_beginChange rfl rfl rfl (by decide +kernel) ⟨Nat.le_of_ble_eq_true rfl, Nat.le_of_ble_eq_true rfl⟩) hP hD hS 0 65 rfl rfl 0 rfl rfl rfl rfl hl.1 (Nat.le_of_ble_eq_true rfl) dX5_turn_1 rfl ⟨Nat.zero_le _, Nat.zero_le _⟩ rfl (fun H locs hP hD hS => ?_)
  refine lv_aload_n hx hb dX5_turn_4 rfl (lv_at hl 0 rfl) ?_
  refine x_get hx hb hts inX5_turn_5 hown hK hP 0 rfl rfl 0 (by decide) mX5_turn_0 rfl dX5_turn_5 ?_
  obtain ⟨v2, h2, hf⟩ := ob hf
  refine x_mR (ws' := wW E tq f q g h pq rq bq v2 v1.1 li te v1.2 im) (As := []) (rest := []) S hK (kX1_turnRound l E f z h2) (cwV 0 hts gX5_turn_X1_turnRound rfl rfl rfl (by decide +kernel) ⟨Nat.le_of_ble_eq_true rfl, Nat.le_of_ble_eq_true rfl⟩) hP hD hS 19 4 rfl rfl 0 rfl rfl rfl rfl hl.1 (Nat.le_of_ble_eq_true rfl) dX5_turn_8 rfl ⟨Nat.zero_le _, Nat.zero_le _⟩ rfl (fun H locs hP hD hS => ?_)
  refine lv_aload_n hx hb dX5_turn_11 rfl (lv_at hl 0 rfl) ?_
  refine x_get hx hb hts inX5_turn_5 hown hK hP 0 rfl rfl 0 (by decide) mX5_turn_0 rfl dX5_turn_12 ?_
  refine x_get hx hb hts inX5_turn_1 hown hK hP 19 rfl rfl 0 (by decide) mX5_turn_1 rfl dX5_turn_15 ?_
  obtain rfl := Option.some.inj hf
  subst hA
  exact x_iretM hx hb hr hlk (vp_nar_int _) hP hS dX5_turn_18
abbrev rmX5_copy : Room := { frames := 4, cells := 0, slots := 0, locals := 122 }
theorem mX5_copy_0 : Cond.fieldLink RX5 12 "EvenWhite" "fount" "LEvenWhite$Fount;" ∈ wsX5_copy := by decide +kernel
theorem mX5_copy_1 : Cond.constant RX5 75 (-1000000001) ∈ wsX5_copy := by decide +kernel
theorem inX5_copy_5 : ∀ w ∈ u_ws RX5 TX5 6, w ∈ wsX5_copy := by decide +kernel
def fX5_copy (z : Fo) (ev : Ev) (li : Li) (te : Te) (pa : Pa) (im : Im) (x1 : Int32) (x2 : Int32) : Option (Int32 × Fo × Ev × Pa) :=
  (fX1_hasPair z x1 x2).bind fun v1 =>
  (if v1 = (0 : Int32) then
  some ((-1000000001 : Int32), z, ev, pa)
  else (if x1 = x2 then
  some ((-1000000001 : Int32), z, ev, pa)
  else (fX5_beginChange z ev li te pa im).bind fun v4 =>
  (fX1_takeLetter z x1 x2).bind fun v5 =>
  some (v5.1, v5.2, v4.1, v4.2)))
set_option maxHeartbeats 4000000 in
set_option maxRecDepth 100000 in
theorem kX5_copy (l : Launch) (E : xG) (tq : Nat → Nat) (f : Nat → Nat) (q : Nat → Nat) (g : Nat → Nat) (h : Nat → Nat) (pq : Nat → Nat) (rq : Nat → Nat → Nat) (bq : Nat → Nat → Nat) (z : Fo) (ev : Ev) (li : Li) (te : Te) (pa : Pa) (im : Im) (x1 : Int32) (x2 : Int32) {r : (Int32 × Fo × Ev × Pa)} (hf : fX5_copy z ev li te pa im x1 x2 = some r) : xMut l yX5_copy wsX5_copy rmX5_copy E [.ref (tq 0), .int x1, .int x2] (wW E tq f q g h pq rq bq z ev li te pa im) (some (.int r.1)) (wW E tq f q g h pq rq bq r.2.1 r.2.2.1 li te r.2.2.2 im) := by
  refine Met.ofW (cc := cX5_copy) (maxL := 3) (ret := (some .int)) (by decide) rfl ?_
  intro p e s m args below meth c s₁ B hml hv
  obtain ⟨rfl, hP, hK, hD0⟩ := hv
  have hx := B.exec
  have hb := B.bytes
  have hr := B.returns
  have hts := atoms_spec (ws := wsX5_copy) B.pre
  have hown : s.vm.findClass RX5 = some m.cls := findClass_of_methodNamed B.named
  have hlk := B.notSynchronized
  have S : CallFix p m c cX5_copy 3 s _ wsX5_copy RX5 := ⟨hx, hb, hml, hown, hts⟩
  have hl := lv_entry ([.ref (tq 0), .int x1, .int x2]) (n := 3) (Nat.le_of_ble_eq_true rfl)
  rw [lg_entry_eq]
  generalize (lg_sl ([.ref (tq 0), .int x1, .int x2]) ++ List.replicate (3 - (lg_sl ([.ref (tq 0), .int x1, .int x2])).length) Slot.unset).toArray = ls at hl ⊢
  have hl : lv_has ls 3 [(0, .ref (tq 0)), (1, .int x1), (2, .int x2)] := hl
  have hD := xA.self hD0
  have hS : va_S (xA (wW E tq f q g h pq rq bq z ev li te pa im)) s.heap s.heap [] := va_S.rf
  show W p l e rmX5_copy s m _ below meth c s.heap [] 0 0 _ _
  generalize hA : xA (wW E tq f q g h pq rq bq z ev li te pa im) = A at hD hS ⊢
  unfold fX5_copy at hf
  refine lv_aload_n hx hb dX5_copy_0 rfl (lv_at hl 0 rfl) ?_
  refine x_get hx hb hts inX5_copy_5 hown hK hP 0 rfl rfl 0 (by decide) mX5_copy_0 rfl dX5_copy_1 ?_
  refine lv_iload_n hx hb dX5_copy_4 rfl (lv_at hl 1 rfl) ?_
  refine lv_iload_n hx hb dX5_copy_5 rfl (lv_at hl 2 rfl) ?_
  obtain ⟨v1, h1, hf⟩ := ob hf
  refine x_pV (As := [.int x1, .int x2]) (rest := []) S hK (kX1_hasPair l E f z x1 x2 h1) (cwV 2 hts gX5_copy_X1_hasPair rfl rfl rfl (by decide +kernel) ⟨Nat.le_of_ble_eq_true rfl, Nat.le_of_ble_eq_true rfl⟩) (hP.sub [19, 20, 21, 22] rfl) 0 rfl rfl rfl rfl hl.1 (Nat.le_of_ble_eq_true rfl) dX5_copy_6 rfl ⟨Nat.zero_le _, Nat.zero_le _⟩ ?_
  refine lv_if_eq (tgt := 17) hx hb dX5_copy_9 (by decide) (fun c2 => ?_) (fun c2 => ?_)
  · have hf := (if_pos c2).symm.trans hf
    refine lv_ldc hx hb hown (hts _ mX5_copy_1) dX5_copy_17 ?_
    obtain rfl := Option.some.inj hf
    subst hA
    exact x_iretM hx hb hr hlk (vp_nar_int _) hP hS dX5_copy_19
  · have hf := (if_neg c2).symm.trans hf
    refine lv_iload_n hx hb dX5_copy_12 rfl (lv_at hl 1 rfl) ?_
    refine lv_iload_n hx hb dX5_copy_13 rfl (lv_at hl 2 rfl) ?_
    refine lv_icmp_ne (tgt := 20) hx hb dX5_copy_14 (by decide) (fun c3 => ?_) (fun c3 => ?_)
    · have hf := (if_neg c3).symm.trans hf
      refine lv_aload_n hx hb dX5_copy_20 rfl (lv_at hl 0 rfl) ?_
      obtain ⟨v4, h4, hf⟩ := ob hf
      refine x_mR (ws' := wW E tq f q g h pq rq bq z v4.1 li te v4.2 im) (As := []) (rest := []) S hK (kX5_beginChange l E tq f q g h pq rq bq z ev li te pa im h4) (cwV 0 hts gX5_copy_X5_beginChange rfl rfl rfl (by decide +kernel) ⟨Nat.le_of_ble_eq_true rfl, Nat.le_of_ble_eq_true rfl⟩) hP hD hS 0 65 rfl rfl 0 rfl rfl rfl rfl hl.1 (Nat.le_of_ble_eq_true rfl) dX5_copy_21 rfl ⟨Nat.zero_le _, Nat.zero_le _⟩ rfl (fun H locs hP hD hS => ?_)
      refine lv_aload_n hx hb dX5_copy_24 rfl (lv_at hl 0 rfl) ?_
      refine x_get hx hb hts inX5_copy_5 hown hK hP 0 rfl rfl 0 (by decide) mX5_copy_0 rfl dX5_copy_25 ?_
      refine lv_iload_n hx hb dX5_copy_28 rfl (lv_at hl 1 rfl) ?_
      refine lv_iload_n hx hb dX5_copy_29 rfl (lv_at hl 2 rfl) ?_
      obtain ⟨v5, h5, hf⟩ := ob hf
      refine x_mR (ws' := wW E tq f q g h pq rq bq v5.2 v4.1 li te v4.2 im) (As := [.int x1, .int x2]) (rest := []) S hK (kX1_takeLetter l E f z x1 x2 h5) (cwV 2 hts gX5_copy_X1_takeLetter rfl rfl rfl (by decide +kernel) ⟨Nat.le_of_ble_eq_true rfl, Nat.le_of_ble_eq_true rfl⟩) hP hD hS 19 4 rfl rfl 0 rfl rfl rfl rfl hl.1 (Nat.le_of_ble_eq_true rfl) dX5_copy_30 rfl ⟨Nat.zero_le _, Nat.zero_le _⟩ rfl (fun H locs hP hD hS => ?_)
      obtain rfl := Option.some.inj hf
      subst hA
      exact x_iretM hx hb hr hlk (vp_nar_int _) hP hS dX5_copy_33
    · have hf := (if_pos c3).symm.trans hf
      refine lv_ldc hx hb hown (hts _ mX5_copy_1) dX5_copy_17 ?_
      obtain rfl := Option.some.inj hf
      subst hA
      exact x_iretM hx hb hr hlk (vp_nar_int _) hP hS dX5_copy_19
abbrev rmX5_drift : Room := { frames := 4, cells := 0, slots := 0, locals := 122 }
theorem mX5_drift_0 : Cond.constant RX5 121 (999999) ∈ wsX5_drift := by decide +kernel
theorem mX5_drift_1 : Cond.fieldLink RX5 12 "EvenWhite" "fount" "LEvenWhite$Fount;" ∈ wsX5_drift := by decide +kernel
theorem mX5_drift_2 : Cond.constant RX5 53 (-1000000002) ∈ wsX5_drift := by decide +kernel
theorem inX5_drift_5 : ∀ w ∈ u_ws RX5 TX5 6, w ∈ wsX5_drift := by decide +kernel
def fX5_drift (z : Fo) (ev : Ev) (li : Li) (te : Te) (pa : Pa) (im : Im) (x1 : Int32) : Option (Int32 × Fo × Ev × Pa) :=
  (fX5_within x1 (1 : Int32) (999999 : Int32)).bind fun v1 =>
  (if v1 = (0 : Int32) then
  some ((-1000000002 : Int32), z, ev, pa)
  else (fX5_beginChange z ev li te pa im).bind fun v3 =>
  (fX1_drawLots z x1).bind fun v4 =>
  (fX1_bareOfAll v4).bind fun v5 =>
  some (v5, v4, v3.1, v3.2))
set_option maxHeartbeats 4000000 in
set_option maxRecDepth 100000 in
theorem kX5_drift (l : Launch) (E : xG) (tq : Nat → Nat) (f : Nat → Nat) (q : Nat → Nat) (g : Nat → Nat) (h : Nat → Nat) (pq : Nat → Nat) (rq : Nat → Nat → Nat) (bq : Nat → Nat → Nat) (z : Fo) (ev : Ev) (li : Li) (te : Te) (pa : Pa) (im : Im) (x1 : Int32) {r : (Int32 × Fo × Ev × Pa)} (hf : fX5_drift z ev li te pa im x1 = some r) : xMut l yX5_drift wsX5_drift rmX5_drift E [.ref (tq 0), .int x1] (wW E tq f q g h pq rq bq z ev li te pa im) (some (.int r.1)) (wW E tq f q g h pq rq bq r.2.1 r.2.2.1 li te r.2.2.2 im) := by
  refine Met.ofW (cc := cX5_drift) (maxL := 2) (ret := (some .int)) (by decide) rfl ?_
  intro p e s m args below meth c s₁ B hml hv
  obtain ⟨rfl, hP, hK, hD0⟩ := hv
  have hx := B.exec
  have hb := B.bytes
  have hr := B.returns
  have hts := atoms_spec (ws := wsX5_drift) B.pre
  have hown : s.vm.findClass RX5 = some m.cls := findClass_of_methodNamed B.named
  have hlk := B.notSynchronized
  have S : CallFix p m c cX5_drift 2 s _ wsX5_drift RX5 := ⟨hx, hb, hml, hown, hts⟩
  have hl := lv_entry ([.ref (tq 0), .int x1]) (n := 2) (Nat.le_of_ble_eq_true rfl)
  rw [lg_entry_eq]
  generalize (lg_sl ([.ref (tq 0), .int x1]) ++ List.replicate (2 - (lg_sl ([.ref (tq 0), .int x1])).length) Slot.unset).toArray = ls at hl ⊢
  have hl : lv_has ls 2 [(0, .ref (tq 0)), (1, .int x1)] := hl
  have hD := xA.self hD0
  have hS : va_S (xA (wW E tq f q g h pq rq bq z ev li te pa im)) s.heap s.heap [] := va_S.rf
  show W p l e rmX5_drift s m _ below meth c s.heap [] 0 0 _ _
  generalize hA : xA (wW E tq f q g h pq rq bq z ev li te pa im) = A at hD hS ⊢
  unfold fX5_drift at hf
  refine lv_iload_n hx hb dX5_drift_0 rfl (lv_at hl 1 rfl) ?_
  refine lv_iconst (v := 1) hx hb dX5_drift_1 (by decide) ?_
  refine lv_ldc hx hb hown (hts _ mX5_drift_0) dX5_drift_2 ?_
  obtain ⟨v1, h1, hf⟩ := ob hf
  refine x_pS (As := [.int x1, .int (1 : Int32), .int (999999 : Int32)]) (rest := []) S hK (kX5_within l E x1 (1 : Int32) (999999 : Int32) h1) (va_cwS 3 hts gX5_drift_X5_within rfl rfl rfl (by decide +kernel) ⟨Nat.le_of_ble_eq_true rfl, Nat.le_of_ble_eq_true rfl⟩) x_nil rfl hl.1 (Nat.le_of_ble_eq_true rfl) dX5_drift_4 rfl ⟨Nat.zero_le _, Nat.zero_le _⟩ ?_
  refine lv_if_ne (tgt := 13) hx hb dX5_drift_7 (by decide) (fun c2 => ?_) (fun c2 => ?_)
  · have hf := (if_neg c2).symm.trans hf
    refine lv_aload_n hx hb dX5_drift_13 rfl (lv_at hl 0 rfl) ?_
    obtain ⟨v3, h3, hf⟩ := ob hf
    refine x_mR (ws' := wW E tq f q g h pq rq bq z v3.1 li te v3.2 im) (As := []) (rest := []) S hK (kX5_beginChange l E tq f q g h pq rq bq z ev li te pa im h3) (cwV 0 hts gX5_drift_X5_beginChange rfl rfl rfl (by decide +kernel) ⟨Nat.le_of_ble_eq_true rfl, Nat.le_of_ble_eq_true rfl⟩) hP hD hS 0 65 rfl rfl 0 rfl rfl rfl rfl hl.1 (Nat.le_of_ble_eq_true rfl) dX5_drift_14 rfl ⟨Nat.zero_le _, Nat.zero_le _⟩ rfl (fun H locs hP hD hS => ?_)
    refine lv_aload_n hx hb dX5_drift_17 rfl (lv_at hl 0 rfl) ?_
    refine x_get hx hb hts inX5_drift_5 hown hK hP 0 rfl rfl 0 (by decide) mX5_drift_1 rfl dX5_drift_18 ?_
    refine lv_iload_n hx hb dX5_drift_21 rfl (lv_at hl 1 rfl) ?_
    obtain ⟨v4, h4, hf⟩ := ob hf
    refine x_mR (ws' := wW E tq f q g h pq rq bq v4 v3.1 li te v3.2 im) (As := [.int x1]) (rest := []) S hK (kX1_drawLots l E f z x1 h4) (cwV 1 hts gX5_drift_X1_drawLots rfl rfl rfl (by decide +kernel) ⟨Nat.le_of_ble_eq_true rfl, Nat.le_of_ble_eq_true rfl⟩) hP hD hS 19 4 rfl rfl 0 rfl rfl rfl rfl hl.1 (Nat.le_of_ble_eq_true rfl) dX5_drift_22 rfl ⟨Nat.zero_le _, Nat.zero_le _⟩ rfl (fun H locs hP hD hS => ?_)
    refine lv_aload_n hx hb dX5_drift_25 rfl (lv_at hl 0 rfl) ?_
    refine x_get hx hb hts inX5_drift_5 hown hK hP 0 rfl rfl 0 (by decide) mX5_drift_1 rfl dX5_drift_26 ?_
    obtain ⟨v5, h5, hf⟩ := ob hf
    refine x_pV (As := []) (rest := []) S hK (kX1_bareOfAll l E f v4 h5) (cwV 0 hts gX5_drift_X1_bareOfAll rfl rfl rfl (by decide +kernel) ⟨Nat.le_of_ble_eq_true rfl, Nat.le_of_ble_eq_true rfl⟩) (hP.sub [19, 20, 21, 22] rfl) 0 rfl rfl rfl rfl hl.1 (Nat.le_of_ble_eq_true rfl) dX5_drift_29 rfl ⟨Nat.zero_le _, Nat.zero_le _⟩ ?_
    obtain rfl := Option.some.inj hf
    subst hA
    exact x_iretM hx hb hr hlk (vp_nar_int _) hP hS dX5_drift_32
  · have hf := (if_pos c2).symm.trans hf
    refine lv_ldc hx hb hown (hts _ mX5_drift_2) dX5_drift_10 ?_
    obtain rfl := Option.some.inj hf
    subst hA
    exact x_iretM hx hb hr hlk (vp_nar_int _) hP hS dX5_drift_12
abbrev rmX5_undo : Room := { frames := 3, cells := 0, slots := 0, locals := 102 }
theorem mX5_undo_0 : Cond.fieldLink RX5 28 "EvenWhite" "past" "LEvenWhite$Past;" ∈ wsX5_undo := by decide +kernel
theorem mX5_undo_1 : Cond.fieldLink RX5 129 "EvenWhite$Past" "many" "I" ∈ wsX5_undo := by decide +kernel
theorem mX5_undo_2 : Cond.fieldLink RX5 12 "EvenWhite" "fount" "LEvenWhite$Fount;" ∈ wsX5_undo := by decide +kernel
theorem mX5_undo_3 : Cond.fieldLink RX5 57 "EvenWhite$Fount" "many" "I" ∈ wsX5_undo := by decide +kernel
theorem mX5_undo_4 : Cond.fieldLink RX5 21 "EvenWhite" "even" "LEvenWhite$Even;" ∈ wsX5_undo := by decide +kernel
theorem mX5_undo_5 : Cond.fieldLink RX5 37 "EvenWhite" "line" "LEvenWhite$Line;" ∈ wsX5_undo := by decide +kernel
theorem mX5_undo_6 : Cond.constant RX5 130 (-1000000003) ∈ wsX5_undo := by decide +kernel
theorem inX5_undo_1 : ∀ w ∈ u_ws RX1 TX1 6, w ∈ wsX5_undo := by decide +kernel
theorem inX5_undo_3 : ∀ w ∈ u_ws RX3 TX3 3, w ∈ wsX5_undo := by decide +kernel
theorem inX5_undo_5 : ∀ w ∈ u_ws RX5 TX5 6, w ∈ wsX5_undo := by decide +kernel
def fX5_undo (z : Fo) (ev : Ev) (li : Li) (te : Te) (pa : Pa) (im : Im) : Option (Int32 × Fo × Ev × Li × Pa) :=
  (if (Pa_many pa) = (0 : Int32) then
  some ((-1000000003 : Int32), z, ev, li, pa)
  else (fX3_giveBack pa z).bind fun v2 =>
  (fX0_forget ev).bind fun v3 =>
  ((if (Fo_many v2.1) = (Fo_many z) then
  some li
  else (fX2_makeEmpty li).bind fun v6 =>
  some v6)).bind fun v4 =>
  some ((Pa_many v2.2), v2.1, (Ev_set_found (Ev_set_below ev (Ev_below v3)) (Ev_found v3)), v4, v2.2))
set_option maxHeartbeats 4000000 in
set_option maxRecDepth 100000 in
theorem kX5_undo (l : Launch) (E : xG) (tq : Nat → Nat) (f : Nat → Nat) (q : Nat → Nat) (g : Nat → Nat) (h : Nat → Nat) (pq : Nat → Nat) (rq : Nat → Nat → Nat) (bq : Nat → Nat → Nat) (z : Fo) (ev : Ev) (li : Li) (te : Te) (pa : Pa) (im : Im) {r : (Int32 × Fo × Ev × Li × Pa)} (hf : fX5_undo z ev li te pa im = some r) : xMut l yX5_undo wsX5_undo rmX5_undo E [.ref (tq 0)] (wW E tq f q g h pq rq bq z ev li te pa im) (some (.int r.1)) (wW E tq f q g h pq rq bq r.2.1 r.2.2.1 r.2.2.2.1 te r.2.2.2.2 im) := by
  refine Met.ofW (cc := cX5_undo) (maxL := 2) (ret := (some .int)) (by decide) rfl ?_
  intro p e s m args below meth c s₁ B hml hv
  obtain ⟨rfl, hP, hK, hD0⟩ := hv
  have hx := B.exec
  have hb := B.bytes
  have hr := B.returns
  have hts := atoms_spec (ws := wsX5_undo) B.pre
  have hown : s.vm.findClass RX5 = some m.cls := findClass_of_methodNamed B.named
  have hlk := B.notSynchronized
  have S : CallFix p m c cX5_undo 2 s _ wsX5_undo RX5 := ⟨hx, hb, hml, hown, hts⟩
  have hl := lv_entry ([.ref (tq 0)]) (n := 2) (Nat.le_of_ble_eq_true rfl)
  rw [lg_entry_eq]
  generalize (lg_sl ([.ref (tq 0)]) ++ List.replicate (2 - (lg_sl ([.ref (tq 0)])).length) Slot.unset).toArray = ls at hl ⊢
  have hl : lv_has ls 2 [(0, .ref (tq 0))] := hl
  have hD := xA.self hD0
  have hS : va_S (xA (wW E tq f q g h pq rq bq z ev li te pa im)) s.heap s.heap [] := va_S.rf
  show W p l e rmX5_undo s m _ below meth c s.heap [] 0 0 _ _
  generalize hA : xA (wW E tq f q g h pq rq bq z ev li te pa im) = A at hD hS ⊢
  unfold fX5_undo at hf
  refine lv_aload_n hx hb dX5_undo_0 rfl (lv_at hl 0 rfl) ?_
  refine x_get hx hb hts inX5_undo_5 hown hK hP 0 rfl rfl 2 (by decide) mX5_undo_0 rfl dX5_undo_1 ?_
  refine x_get hx hb hts inX5_undo_3 hown hK hP 23 rfl rfl 0 (by decide) mX5_undo_1 rfl dX5_undo_4 ?_
  refine lv_if_ne (tgt := 13) hx hb dX5_undo_7 (by decide) (fun c1 => ?_) (fun c1 => ?_)
  · have hf := (if_neg c1).symm.trans hf
    refine lv_aload_n hx hb dX5_undo_13 rfl (lv_at hl 0 rfl) ?_
    refine x_get hx hb hts inX5_undo_5 hown hK hP 0 rfl rfl 0 (by decide) mX5_undo_2 rfl dX5_undo_14 ?_
    refine x_get hx hb hts inX5_undo_1 hown hK hP 19 rfl rfl 0 (by decide) mX5_undo_3 rfl dX5_undo_17 ?_
    refine lv_istore_n (lv' := [(1, .int (Fo_many z)), (0, .ref (tq 0))]) hx hb dX5_undo_20 rfl hl (by decide) rfl (fun ls hl => ?_)
    refine lv_aload_n hx hb dX5_undo_21 rfl (lv_at hl 1 rfl) ?_
    refine x_get hx hb hts inX5_undo_5 hown hK hP 0 rfl rfl 2 (by decide) mX5_undo_0 rfl dX5_undo_22 ?_
    refine lv_aload_n hx hb dX5_undo_25 rfl (lv_at hl 1 rfl) ?_
    refine x_get hx hb hts inX5_undo_5 hown hK hP 0 rfl rfl 0 (by decide) mX5_undo_2 rfl dX5_undo_26 ?_
    obtain ⟨v2, h2, hf⟩ := ob hf
    refine x_mR (ws' := wW E tq f q g h pq rq bq v2.1 ev li te v2.2 im) (As := [.ref (f 0)]) (rest := []) S hK (kX3_giveBack l E pq rq f pa z h2) (cwV 1 hts gX5_undo_X3_giveBack rfl rfl rfl (by decide +kernel) ⟨Nat.le_of_ble_eq_true rfl, Nat.le_of_ble_eq_true rfl⟩) hP hD hS 19 38 rfl rfl 4 rfl rfl rfl rfl hl.1 (Nat.le_of_ble_eq_true rfl) dX5_undo_29 rfl ⟨Nat.zero_le _, Nat.zero_le _⟩ rfl (fun H locs hP hD hS => ?_)
    refine lv_aload_n hx hb dX5_undo_32 rfl (lv_at hl 1 rfl) ?_
    refine x_get hx hb hts inX5_undo_5 hown hK hP 0 rfl rfl 1 (by decide) mX5_undo_4 rfl dX5_undo_33 ?_
    obtain ⟨v3, h3, hf⟩ := ob hf
    refine x_mR (ws' := wW E tq f q g h pq rq bq v2.1 (Ev_set_found (Ev_set_below ev (Ev_below v3)) (Ev_found v3)) li te v2.2 im) (As := []) (rest := []) S hK (kX0_forget l E q f ev h3) (cwV 0 hts gX5_undo_X0_forget rfl rfl rfl (by decide +kernel) ⟨Nat.le_of_ble_eq_true rfl, Nat.le_of_ble_eq_true rfl⟩) hP hD hS 7 1 rfl rfl 0 rfl rfl rfl rfl hl.1 (Nat.le_of_ble_eq_true rfl) dX5_undo_36 rfl ⟨Nat.zero_le _, Nat.zero_le _⟩ rfl (fun H locs hP hD hS => ?_)
    refine lv_aload_n hx hb dX5_undo_39 rfl (lv_at hl 1 rfl) ?_
    refine x_get hx hb hts inX5_undo_5 hown hK hP 0 rfl rfl 0 (by decide) mX5_undo_2 rfl dX5_undo_40 ?_
    refine x_get hx hb hts inX5_undo_1 hown hK hP 19 rfl rfl 0 (by decide) mX5_undo_3 rfl dX5_undo_43 ?_
    refine lv_iload_n hx hb dX5_undo_46 rfl (lv_at hl 0 rfl) ?_
    obtain ⟨v4, h4, hf⟩ := ob hf
    refine x_cutH (fun H locs ls => va_P (xD E) vwCl (wW E tq f q g h pq rq bq v2.1 (Ev_set_found (Ev_set_below ev (Ev_below v3)) (Ev_found v3)) v4 te v2.2 im) H ∧ va_D A (wW E tq f q g h pq rq bq v2.1 (Ev_set_found (Ev_set_below ev (Ev_below v3)) (Ev_found v3)) v4 te v2.2 im) ∧ va_S A s.heap H locs ∧ lv_has ls 2 [(0, .ref (tq 0)), (1, .int (Fo_many z))]) (pc := 57) (st := []) (fun H locs ls hq => ?_) (fun hj => ?_)
    · obtain ⟨hP, hD, hS, hl⟩ := hq
      refine lv_aload_n hx hb dX5_undo_57 rfl (lv_at hl 0 rfl) ?_
      refine x_get hx hb hts inX5_undo_5 hown hK hP 0 rfl rfl 2 (by decide) mX5_undo_0 rfl dX5_undo_58 ?_
      refine x_get hx hb hts inX5_undo_3 hown hK hP 23 rfl rfl 0 (by decide) mX5_undo_1 rfl dX5_undo_61 ?_
      obtain rfl := Option.some.inj hf
      subst hA
      exact x_iretM hx hb hr hlk (vp_nar_int _) hP hS dX5_undo_64
    · have hf := h4
      refine lv_icmp_eq (tgt := 57) hx hb dX5_undo_47 (by decide) (fun c5 => ?_) (fun c5 => ?_)
      · have hf := (if_pos c5).symm.trans hf
        obtain rfl := Option.some.inj hf
        exact hj _ _ ls ⟨hP, hD, hS, lv_sub hl [1, 0] rfl⟩
      · have hf := (if_neg c5).symm.trans hf
        refine lv_aload_n hx hb dX5_undo_50 rfl (lv_at hl 1 rfl) ?_
        refine x_get hx hb hts inX5_undo_5 hown hK hP 0 rfl rfl 3 (by decide) mX5_undo_5 rfl dX5_undo_51 ?_
        obtain ⟨v6, h6, hf⟩ := ob hf
        refine x_mR (ws' := wW E tq f q g h pq rq bq v2.1 (Ev_set_found (Ev_set_below ev (Ev_below v3)) (Ev_found v3)) v6 te v2.2 im) (As := []) (rest := []) S hK (kX2_makeEmpty l E g h q f li h6) (cwV 0 hts gX5_undo_X2_makeEmpty rfl rfl rfl (by decide +kernel) ⟨Nat.le_of_ble_eq_true rfl, Nat.le_of_ble_eq_true rfl⟩) hP hD hS 3 2 rfl rfl 0 rfl rfl rfl rfl hl.1 (Nat.le_of_ble_eq_true rfl) dX5_undo_54 rfl ⟨Nat.zero_le _, Nat.zero_le _⟩ rfl (fun H locs hP hD hS => ?_)
        obtain rfl := Option.some.inj hf
        exact hj _ _ ls ⟨hP, hD, hS, lv_sub hl [1, 0] rfl⟩
  · have hf := (if_pos c1).symm.trans hf
    refine lv_ldc hx hb hown (hts _ mX5_undo_6) dX5_undo_10 ?_
    obtain rfl := Option.some.inj hf
    subst hA
    exact x_iretM hx hb hr hlk (vp_nar_int _) hP hS dX5_undo_12
abbrev rmX5_told : Room := { frames := 6, cells := 0, slots := 0, locals := 139 }
theorem mX5_told_0 : Cond.fieldLink RX5 21 "EvenWhite" "even" "LEvenWhite$Even;" ∈ wsX5_told := by decide +kernel
theorem mX5_told_1 : Cond.constantLong RX5 180 (-1000000002) ∈ wsX5_told := by decide +kernel
theorem mX5_told_2 : Cond.fieldLink RX5 12 "EvenWhite" "fount" "LEvenWhite$Fount;" ∈ wsX5_told := by decide +kernel
theorem mX5_told_3 : Cond.fieldLink RX5 57 "EvenWhite$Fount" "many" "I" ∈ wsX5_told := by decide +kernel
theorem mX5_told_4 : Cond.fieldLink RX5 91 "EvenWhite$Fount" "depth" "I" ∈ wsX5_told := by decide +kernel
theorem mX5_told_5 : Cond.fieldLink RX5 94 "EvenWhite$Fount" "wanted" "I" ∈ wsX5_told := by decide +kernel
theorem mX5_told_6 : Cond.fieldLink RX5 37 "EvenWhite" "line" "LEvenWhite$Line;" ∈ wsX5_told := by decide +kernel
theorem mX5_told_7 : Cond.fieldLink RX5 163 "EvenWhite$Line" "many" "I" ∈ wsX5_told := by decide +kernel
theorem mX5_told_8 : Cond.fieldLink RX5 177 "EvenWhite$Text" "many" "I" ∈ wsX5_told := by decide +kernel
theorem mX5_told_9 : Cond.fieldLink RX5 28 "EvenWhite" "past" "LEvenWhite$Past;" ∈ wsX5_told := by decide +kernel
theorem mX5_told_10 : Cond.fieldLink RX5 129 "EvenWhite$Past" "many" "I" ∈ wsX5_told := by decide +kernel
theorem inX5_told_1 : ∀ w ∈ u_ws RX1 TX1 6, w ∈ wsX5_told := by decide +kernel
theorem inX5_told_2 : ∀ w ∈ u_ws RX2 TX2 5, w ∈ wsX5_told := by decide +kernel
theorem inX5_told_3 : ∀ w ∈ u_ws RX3 TX3 3, w ∈ wsX5_told := by decide +kernel
theorem inX5_told_4 : ∀ w ∈ u_ws RX4 TX4 2, w ∈ wsX5_told := by decide +kernel
theorem inX5_told_5 : ∀ w ∈ u_ws RX5 TX5 6, w ∈ wsX5_told := by decide +kernel
def fX5_told (z : Fo) (ev : Ev) (li : Li) (te : Te) (pa : Pa) (im : Im) (x1 : Int32) : Option (Int64 × Ev × Te) :=
  (fX0_find ev z).bind fun v1 =>
  (if x1 = (0 : Int32) then
  some ((Int32.toInt64 (Fo_many z)), v1, te)
  else (if x1 = (1 : Int32) then
  some ((Int32.toInt64 (Fo_depth z)), v1, te)
  else (if x1 = (2 : Int32) then
  some ((Int32.toInt64 (Fo_wanted z)), v1, te)
  else (if x1 = (3 : Int32) then
  (fX1_pairsWithWeight z).bind fun v16 =>
  some ((Int32.toInt64 v16), v1, te)
  else (if x1 = (4 : Int32) then
  (fX0_worst v1 z).bind fun v17 =>
  some ((Int32.toInt64 v17), v1, te)
  else (if x1 = (5 : Int32) then
  (fX0_squaresAbove v1 z).bind fun v18 =>
  (fX0_squaresBelow v1 z).bind fun v19 =>
  (fX5_aboveOf v18 v19).bind fun v20 =>
  some (v20, v1, te)
  else (if x1 = (6 : Int32) then
  (fX0_squaresAbove v1 z).bind fun v21 =>
  (fX0_squaresBelow v1 z).bind fun v22 =>
  (fX5_belowOf v21 v22).bind fun v23 =>
  some (v23, v1, te)
  else (if x1 = (7 : Int32) then
  (fX0_openSpaces v1 z).bind fun v24 =>
  some ((Int32.toInt64 v24), v1, te)
  else (if x1 = (8 : Int32) then
  some ((Int32.toInt64 (Li_many li)), v1, te)
  else (if x1 = (9 : Int32) then
  (fX2_wideAbove li te v1 z).bind fun v25 =>
  (fX0_spaceBelow v1 z).bind fun v26 =>
  (fX5_aboveOf v25 v26).bind fun v27 =>
  some (v27, v1, te)
  else (if x1 = (10 : Int32) then
  (fX2_wideAbove li te v1 z).bind fun v28 =>
  (fX0_spaceBelow v1 z).bind fun v29 =>
  (fX5_belowOf v28 v29).bind fun v30 =>
  some (v30, v1, te)
  else (if x1 = (11 : Int32) then
  (fX2_thin li te v1 z).bind fun v31 =>
  some ((Int32.toInt64 v31), v1, te)
  else (if x1 = (12 : Int32) then
  (fX2_written li te v1 z).bind fun v32 =>
  some ((Int32.toInt64 (Te_many v32)), v1, v32)
  else (if x1 = (13 : Int32) then
  some ((Int32.toInt64 (Pa_many pa)), v1, te)
  else some ((-1000000002 : Int64), v1, te)))))))))))))))
set_option maxHeartbeats 4000000 in
set_option maxRecDepth 100000 in
theorem kX5_told (l : Launch) (E : xG) (tq : Nat → Nat) (f : Nat → Nat) (q : Nat → Nat) (g : Nat → Nat) (h : Nat → Nat) (pq : Nat → Nat) (rq : Nat → Nat → Nat) (bq : Nat → Nat → Nat) (z : Fo) (ev : Ev) (li : Li) (te : Te) (pa : Pa) (im : Im) (x1 : Int32) {r : (Int64 × Ev × Te)} (hf : fX5_told z ev li te pa im x1 = some r) : xMut l yX5_told wsX5_told rmX5_told E [.ref (tq 0), .int x1] (wW E tq f q g h pq rq bq z ev li te pa im) (some (.long r.1)) (wW E tq f q g h pq rq bq z r.2.1 li r.2.2 pa im) := by
  refine Met.ofW (cc := cX5_told) (maxL := 2) (ret := (some .long)) (by decide) rfl ?_
  intro p e s m args below meth c s₁ B hml hv
  obtain ⟨rfl, hP, hK, hD0⟩ := hv
  have hx := B.exec
  have hb := B.bytes
  have hr := B.returns
  have hts := atoms_spec (ws := wsX5_told) B.pre
  have hown : s.vm.findClass RX5 = some m.cls := findClass_of_methodNamed B.named
  have hlk := B.notSynchronized
  have S : CallFix p m c cX5_told 2 s _ wsX5_told RX5 := ⟨hx, hb, hml, hown, hts⟩
  have hl := lv_entry ([.ref (tq 0), .int x1]) (n := 2) (Nat.le_of_ble_eq_true rfl)
  rw [lg_entry_eq]
  generalize (lg_sl ([.ref (tq 0), .int x1]) ++ List.replicate (2 - (lg_sl ([.ref (tq 0), .int x1])).length) Slot.unset).toArray = ls at hl ⊢
  have hl : lv_has ls 2 [(0, .ref (tq 0)), (1, .int x1)] := hl
  have hD := xA.self hD0
  have hS : va_S (xA (wW E tq f q g h pq rq bq z ev li te pa im)) s.heap s.heap [] := va_S.rf
  show W p l e rmX5_told s m _ below meth c s.heap [] 0 0 _ _
  generalize hA : xA (wW E tq f q g h pq rq bq z ev li te pa im) = A at hD hS ⊢
  unfold fX5_told at hf
  refine lv_aload_n hx hb dX5_told_0 rfl (lv_at hl 0 rfl) ?_
  refine x_get hx hb hts inX5_told_5 hown hK hP 0 rfl rfl 1 (by decide) mX5_told_0 rfl dX5_told_1 ?_
  obtain ⟨v1, h1, hf⟩ := ob hf
  refine x_mR (ws' := wW E tq f q g h pq rq bq z v1 li te pa im) (As := []) (rest := []) S hK (kX0_find l E q f ev z h1) (cwV 0 hts gX5_told_X0_find rfl rfl rfl (by decide +kernel) ⟨Nat.le_of_ble_eq_true rfl, Nat.le_of_ble_eq_true rfl⟩) hP hD hS 7 16 rfl rfl 0 rfl rfl rfl rfl hl.1 (Nat.le_of_ble_eq_true rfl) dX5_told_4 rfl ⟨Nat.zero_le _, Nat.zero_le _⟩ rfl (fun H locs hP hD hS => ?_)
  refine lv_iload_n hx hb dX5_told_7 rfl (lv_at hl 1 rfl) ?_
  by_cases c2 : x1 = (0 : Int32)
  · have hf := (if_pos c2).symm.trans hf
    refine lv_tableIn (tgt := 80) hx hb dX5_told_8 (by rw [c2]; decide) (by rw [c2]; decide) (by rw [c2]; rfl) (by decide) ?_
    refine lv_aload_n hx hb dX5_told_80 rfl (lv_at hl 0 rfl) ?_
    refine x_get hx hb hts inX5_told_5 hown hK hP 0 rfl rfl 0 (by decide) mX5_told_2 rfl dX5_told_81 ?_
    refine x_get hx hb hts inX5_told_1 hown hK hP 19 rfl rfl 0 (by decide) mX5_told_3 rfl dX5_told_84 ?_
    refine lv_i2l (v := (Int32.toInt64 (Fo_many z))) hx hb dX5_told_87 rfl ?_
    obtain rfl := Option.some.inj hf
    subst hA
    exact x_lretM hx hb hr hlk hP hS dX5_told_88
  have hf := (if_neg c2).symm.trans hf
  by_cases c3 : x1 = (1 : Int32)
  · have hf := (if_pos c3).symm.trans hf
    refine lv_tableIn (tgt := 89) hx hb dX5_told_8 (by rw [c3]; decide) (by rw [c3]; decide) (by rw [c3]; rfl) (by decide) ?_
    refine lv_aload_n hx hb dX5_told_89 rfl (lv_at hl 0 rfl) ?_
    refine x_get hx hb hts inX5_told_5 hown hK hP 0 rfl rfl 0 (by decide) mX5_told_2 rfl dX5_told_90 ?_
    refine x_get hx hb hts inX5_told_1 hown hK hP 19 rfl rfl 1 (by decide) mX5_told_4 rfl dX5_told_93 ?_
    refine lv_i2l (v := (Int32.toInt64 (Fo_depth z))) hx hb dX5_told_96 rfl ?_
    obtain rfl := Option.some.inj hf
    subst hA
    exact x_lretM hx hb hr hlk hP hS dX5_told_97
  have hf := (if_neg c3).symm.trans hf
  by_cases c4 : x1 = (2 : Int32)
  · have hf := (if_pos c4).symm.trans hf
    refine lv_tableIn (tgt := 98) hx hb dX5_told_8 (by rw [c4]; decide) (by rw [c4]; decide) (by rw [c4]; rfl) (by decide) ?_
    refine lv_aload_n hx hb dX5_told_98 rfl (lv_at hl 0 rfl) ?_
    refine x_get hx hb hts inX5_told_5 hown hK hP 0 rfl rfl 0 (by decide) mX5_told_2 rfl dX5_told_99 ?_
    refine x_get hx hb hts inX5_told_1 hown hK hP 19 rfl rfl 2 (by decide) mX5_told_5 rfl dX5_told_102 ?_
    refine lv_i2l (v := (Int32.toInt64 (Fo_wanted z))) hx hb dX5_told_105 rfl ?_
    obtain rfl := Option.some.inj hf
    subst hA
    exact x_lretM hx hb hr hlk hP hS dX5_told_106
  have hf := (if_neg c4).symm.trans hf
  by_cases c5 : x1 = (3 : Int32)
  · have hf := (if_pos c5).symm.trans hf
    refine lv_tableIn (tgt := 107) hx hb dX5_told_8 (by rw [c5]; decide) (by rw [c5]; decide) (by rw [c5]; rfl) (by decide) ?_
    refine lv_aload_n hx hb dX5_told_107 rfl (lv_at hl 0 rfl) ?_
    refine x_get hx hb hts inX5_told_5 hown hK hP 0 rfl rfl 0 (by decide) mX5_told_2 rfl dX5_told_108 ?_
    obtain ⟨v16, h16, hf⟩ := ob hf
    refine x_pV (As := []) (rest := []) S hK (kX1_pairsWithWeight l E f z h16) (cwV 0 hts gX5_told_X1_pairsWithWeight rfl rfl rfl (by decide +kernel) ⟨Nat.le_of_ble_eq_true rfl, Nat.le_of_ble_eq_true rfl⟩) (hP.sub [19, 20, 21, 22] rfl) 0 rfl rfl rfl rfl hl.1 (Nat.le_of_ble_eq_true rfl) dX5_told_111 rfl ⟨Nat.zero_le _, Nat.zero_le _⟩ ?_
    refine lv_i2l (v := (Int32.toInt64 v16)) hx hb dX5_told_114 rfl ?_
    obtain rfl := Option.some.inj hf
    subst hA
    exact x_lretM hx hb hr hlk hP hS dX5_told_115
  have hf := (if_neg c5).symm.trans hf
  by_cases c6 : x1 = (4 : Int32)
  · have hf := (if_pos c6).symm.trans hf
    refine lv_tableIn (tgt := 116) hx hb dX5_told_8 (by rw [c6]; decide) (by rw [c6]; decide) (by rw [c6]; rfl) (by decide) ?_
    refine lv_aload_n hx hb dX5_told_116 rfl (lv_at hl 0 rfl) ?_
    refine x_get hx hb hts inX5_told_5 hown hK hP 0 rfl rfl 1 (by decide) mX5_told_0 rfl dX5_told_117 ?_
    obtain ⟨v17, h17, hf⟩ := ob hf
    refine x_pV (As := []) (rest := []) S hK (kX0_worst l E q f v1 z h17) (cwV 0 hts gX5_told_X0_worst rfl rfl rfl (by decide +kernel) ⟨Nat.le_of_ble_eq_true rfl, Nat.le_of_ble_eq_true rfl⟩) (hP.sub [7, 8, 9, 10, 11, 12, 13, 14, 15, 16, 17, 18, 19, 20, 21, 22] rfl) 0 rfl rfl rfl rfl hl.1 (Nat.le_of_ble_eq_true rfl) dX5_told_120 rfl ⟨Nat.zero_le _, Nat.zero_le _⟩ ?_
    refine lv_i2l (v := (Int32.toInt64 v17)) hx hb dX5_told_123 rfl ?_
    obtain rfl := Option.some.inj hf
    subst hA
    exact x_lretM hx hb hr hlk hP hS dX5_told_124
  have hf := (if_neg c6).symm.trans hf
  by_cases c7 : x1 = (5 : Int32)
  · have hf := (if_pos c7).symm.trans hf
    refine lv_tableIn (tgt := 125) hx hb dX5_told_8 (by rw [c7]; decide) (by rw [c7]; decide) (by rw [c7]; rfl) (by decide) ?_
    refine lv_aload_n hx hb dX5_told_125 rfl (lv_at hl 0 rfl) ?_
    refine x_get hx hb hts inX5_told_5 hown hK hP 0 rfl rfl 1 (by decide) mX5_told_0 rfl dX5_told_126 ?_
    obtain ⟨v18, h18, hf⟩ := ob hf
    refine x_pV (As := []) (rest := []) S hK (kX0_squaresAbove l E q f v1 z h18) (cwV 0 hts gX5_told_X0_squaresAbove rfl rfl rfl (by decide +kernel) ⟨Nat.le_of_ble_eq_true rfl, Nat.le_of_ble_eq_true rfl⟩) (hP.sub [7, 8, 9, 10, 11, 12, 13, 14, 15, 16, 17, 18, 19, 20, 21, 22] rfl) 0 rfl rfl rfl rfl hl.1 (Nat.le_of_ble_eq_true rfl) dX5_told_129 rfl ⟨Nat.zero_le _, Nat.zero_le _⟩ ?_
    refine lv_aload_n hx hb dX5_told_132 rfl (lv_at hl 0 rfl) ?_
    refine x_get hx hb hts inX5_told_5 hown hK hP 0 rfl rfl 1 (by decide) mX5_told_0 rfl dX5_told_133 ?_
    obtain ⟨v19, h19, hf⟩ := ob hf
    refine x_pV (As := []) (rest := [.long v18]) S hK (kX0_squaresBelow l E q f v1 z h19) (cwV 0 hts gX5_told_X0_squaresBelow rfl rfl rfl (by decide +kernel) ⟨Nat.le_of_ble_eq_true rfl, Nat.le_of_ble_eq_true rfl⟩) (hP.sub [7, 8, 9, 10, 11, 12, 13, 14, 15, 16, 17, 18, 19, 20, 21, 22] rfl) 0 rfl rfl rfl rfl hl.1 (Nat.le_of_ble_eq_true rfl) dX5_told_136 rfl ⟨Nat.zero_le _, Nat.zero_le _⟩ ?_
    obtain ⟨v20, h20, hf⟩ := ob hf
    refine x_pS (As := [.long v18, .long v19]) (rest := []) S hK (kX5_aboveOf l E v18 v19 h20) (va_cwS 2 hts gX5_told_X5_aboveOf rfl rfl rfl (by decide +kernel) ⟨Nat.le_of_ble_eq_true rfl, Nat.le_of_ble_eq_true rfl⟩) x_nil rfl hl.1 (Nat.le_of_ble_eq_true rfl) dX5_told_139 rfl ⟨Nat.zero_le _, Nat.zero_le _⟩ ?_
    obtain rfl := Option.some.inj hf
    subst hA
    exact x_lretM hx hb hr hlk hP hS dX5_told_142
  have hf := (if_neg c7).symm.trans hf
  by_cases c8 : x1 = (6 : Int32)
  · have hf := (if_pos c8).symm.trans hf
    refine lv_tableIn (tgt := 143) hx hb dX5_told_8 (by rw [c8]; decide) (by rw [c8]; decide) (by rw [c8]; rfl) (by decide) ?_
    refine lv_aload_n hx hb dX5_told_143 rfl (lv_at hl 0 rfl) ?_
    refine x_get hx hb hts inX5_told_5 hown hK hP 0 rfl rfl 1 (by decide) mX5_told_0 rfl dX5_told_144 ?_
    obtain ⟨v21, h21, hf⟩ := ob hf
    refine x_pV (As := []) (rest := []) S hK (kX0_squaresAbove l E q f v1 z h21) (cwV 0 hts gX5_told_X0_squaresAbove rfl rfl rfl (by decide +kernel) ⟨Nat.le_of_ble_eq_true rfl, Nat.le_of_ble_eq_true rfl⟩) (hP.sub [7, 8, 9, 10, 11, 12, 13, 14, 15, 16, 17, 18, 19, 20, 21, 22] rfl) 0 rfl rfl rfl rfl hl.1 (Nat.le_of_ble_eq_true rfl) dX5_told_147 rfl ⟨Nat.zero_le _, Nat.zero_le _⟩ ?_
    refine lv_aload_n hx hb dX5_told_150 rfl (lv_at hl 0 rfl) ?_
    refine x_get hx hb hts inX5_told_5 hown hK hP 0 rfl rfl 1 (by decide) mX5_told_0 rfl dX5_told_151 ?_
    obtain ⟨v22, h22, hf⟩ := ob hf
    refine x_pV (As := []) (rest := [.long v21]) S hK (kX0_squaresBelow l E q f v1 z h22) (cwV 0 hts gX5_told_X0_squaresBelow rfl rfl rfl (by decide +kernel) ⟨Nat.le_of_ble_eq_true rfl, Nat.le_of_ble_eq_true rfl⟩) (hP.sub [7, 8, 9, 10, 11, 12, 13, 14, 15, 16, 17, 18, 19, 20, 21, 22] rfl) 0 rfl rfl rfl rfl hl.1 (Nat.le_of_ble_eq_true rfl) dX5_told_154 rfl ⟨Nat.zero_le _, Nat.zero_le _⟩ ?_
    obtain ⟨v23, h23, hf⟩ := ob hf
    refine x_pS (As := [.long v21, .long v22]) (rest := []) S hK (kX5_belowOf l E v21 v22 h23) (va_cwS 2 hts gX5_told_X5_belowOf rfl rfl rfl (by decide +kernel) ⟨Nat.le_of_ble_eq_true rfl, Nat.le_of_ble_eq_true rfl⟩) x_nil rfl hl.1 (Nat.le_of_ble_eq_true rfl) dX5_told_157 rfl ⟨Nat.zero_le _, Nat.zero_le _⟩ ?_
    obtain rfl := Option.some.inj hf
    subst hA
    exact x_lretM hx hb hr hlk hP hS dX5_told_160
  have hf := (if_neg c8).symm.trans hf
  by_cases c9 : x1 = (7 : Int32)
  · have hf := (if_pos c9).symm.trans hf
    refine lv_tableIn (tgt := 161) hx hb dX5_told_8 (by rw [c9]; decide) (by rw [c9]; decide) (by rw [c9]; rfl) (by decide) ?_
    refine lv_aload_n hx hb dX5_told_161 rfl (lv_at hl 0 rfl) ?_
    refine x_get hx hb hts inX5_told_5 hown hK hP 0 rfl rfl 1 (by decide) mX5_told_0 rfl dX5_told_162 ?_
    obtain ⟨v24, h24, hf⟩ := ob hf
    refine x_pV (As := []) (rest := []) S hK (kX0_openSpaces l E q f v1 z h24) (cwV 0 hts gX5_told_X0_openSpaces rfl rfl rfl (by decide +kernel) ⟨Nat.le_of_ble_eq_true rfl, Nat.le_of_ble_eq_true rfl⟩) (hP.sub [7, 8, 9, 10, 11, 12, 13, 14, 15, 16, 17, 18, 19, 20, 21, 22] rfl) 0 rfl rfl rfl rfl hl.1 (Nat.le_of_ble_eq_true rfl) dX5_told_165 rfl ⟨Nat.zero_le _, Nat.zero_le _⟩ ?_
    refine lv_i2l (v := (Int32.toInt64 v24)) hx hb dX5_told_168 rfl ?_
    obtain rfl := Option.some.inj hf
    subst hA
    exact x_lretM hx hb hr hlk hP hS dX5_told_169
  have hf := (if_neg c9).symm.trans hf
  by_cases c10 : x1 = (8 : Int32)
  · have hf := (if_pos c10).symm.trans hf
    refine lv_tableIn (tgt := 170) hx hb dX5_told_8 (by rw [c10]; decide) (by rw [c10]; decide) (by rw [c10]; rfl) (by decide) ?_
    refine lv_aload_n hx hb dX5_told_170 rfl (lv_at hl 0 rfl) ?_
    refine x_get hx hb hts inX5_told_5 hown hK hP 0 rfl rfl 3 (by decide) mX5_told_6 rfl dX5_told_171 ?_
    refine x_get hx hb hts inX5_told_2 hown hK hP 3 rfl rfl 0 (by decide) mX5_told_7 rfl dX5_told_174 ?_
    refine lv_i2l (v := (Int32.toInt64 (Li_many li))) hx hb dX5_told_177 rfl ?_
    obtain rfl := Option.some.inj hf
    subst hA
    exact x_lretM hx hb hr hlk hP hS dX5_told_178
  have hf := (if_neg c10).symm.trans hf
  by_cases c11 : x1 = (9 : Int32)
  · have hf := (if_pos c11).symm.trans hf
    refine lv_tableIn (tgt := 179) hx hb dX5_told_8 (by rw [c11]; decide) (by rw [c11]; decide) (by rw [c11]; rfl) (by decide) ?_
    refine lv_aload_n hx hb dX5_told_179 rfl (lv_at hl 0 rfl) ?_
    refine x_get hx hb hts inX5_told_5 hown hK hP 0 rfl rfl 3 (by decide) mX5_told_6 rfl dX5_told_180 ?_
    obtain ⟨v25, h25, hf⟩ := ob hf
    refine x_pV (As := []) (rest := []) S hK (kX2_wideAbove l E g h q f li te v1 z h25) (cwV 0 hts gX5_told_X2_wideAbove rfl rfl rfl (by decide +kernel) ⟨Nat.le_of_ble_eq_true rfl, Nat.le_of_ble_eq_true rfl⟩) (hP.sub [3, 4, 5, 6, 7, 8, 9, 10, 11, 12, 13, 14, 15, 16, 17, 18, 19, 20, 21, 22] rfl) 0 rfl rfl rfl rfl hl.1 (Nat.le_of_ble_eq_true rfl) dX5_told_183 rfl ⟨Nat.zero_le _, Nat.zero_le _⟩ ?_
    refine lv_aload_n hx hb dX5_told_186 rfl (lv_at hl 0 rfl) ?_
    refine x_get hx hb hts inX5_told_5 hown hK hP 0 rfl rfl 1 (by decide) mX5_told_0 rfl dX5_told_187 ?_
    obtain ⟨v26, h26, hf⟩ := ob hf
    refine x_pV (As := []) (rest := [.long v25]) S hK (kX0_spaceBelow l E q f v1 z h26) (cwV 0 hts gX5_told_X0_spaceBelow rfl rfl rfl (by decide +kernel) ⟨Nat.le_of_ble_eq_true rfl, Nat.le_of_ble_eq_true rfl⟩) (hP.sub [7, 8, 9, 10, 11, 12, 13, 14, 15, 16, 17, 18, 19, 20, 21, 22] rfl) 0 rfl rfl rfl rfl hl.1 (Nat.le_of_ble_eq_true rfl) dX5_told_190 rfl ⟨Nat.zero_le _, Nat.zero_le _⟩ ?_
    obtain ⟨v27, h27, hf⟩ := ob hf
    refine x_pS (As := [.long v25, .long v26]) (rest := []) S hK (kX5_aboveOf l E v25 v26 h27) (va_cwS 2 hts gX5_told_X5_aboveOf rfl rfl rfl (by decide +kernel) ⟨Nat.le_of_ble_eq_true rfl, Nat.le_of_ble_eq_true rfl⟩) x_nil rfl hl.1 (Nat.le_of_ble_eq_true rfl) dX5_told_193 rfl ⟨Nat.zero_le _, Nat.zero_le _⟩ ?_
    obtain rfl := Option.some.inj hf
    subst hA
    exact x_lretM hx hb hr hlk hP hS dX5_told_196
  have hf := (if_neg c11).symm.trans hf
  by_cases c12 : x1 = (10 : Int32)
  · have hf := (if_pos c12).symm.trans hf
    refine lv_tableIn (tgt := 197) hx hb dX5_told_8 (by rw [c12]; decide) (by rw [c12]; decide) (by rw [c12]; rfl) (by decide) ?_
    refine lv_aload_n hx hb dX5_told_197 rfl (lv_at hl 0 rfl) ?_
    refine x_get hx hb hts inX5_told_5 hown hK hP 0 rfl rfl 3 (by decide) mX5_told_6 rfl dX5_told_198 ?_
    obtain ⟨v28, h28, hf⟩ := ob hf
    refine x_pV (As := []) (rest := []) S hK (kX2_wideAbove l E g h q f li te v1 z h28) (cwV 0 hts gX5_told_X2_wideAbove rfl rfl rfl (by decide +kernel) ⟨Nat.le_of_ble_eq_true rfl, Nat.le_of_ble_eq_true rfl⟩) (hP.sub [3, 4, 5, 6, 7, 8, 9, 10, 11, 12, 13, 14, 15, 16, 17, 18, 19, 20, 21, 22] rfl) 0 rfl rfl rfl rfl hl.1 (Nat.le_of_ble_eq_true rfl) dX5_told_201 rfl ⟨Nat.zero_le _, Nat.zero_le _⟩ ?_
    refine lv_aload_n hx hb dX5_told_204 rfl (lv_at hl 0 rfl) ?_
    refine x_get hx hb hts inX5_told_5 hown hK hP 0 rfl rfl 1 (by decide) mX5_told_0 rfl dX5_told_205 ?_
    obtain ⟨v29, h29, hf⟩ := ob hf
    refine x_pV (As := []) (rest := [.long v28]) S hK (kX0_spaceBelow l E q f v1 z h29) (cwV 0 hts gX5_told_X0_spaceBelow rfl rfl rfl (by decide +kernel) ⟨Nat.le_of_ble_eq_true rfl, Nat.le_of_ble_eq_true rfl⟩) (hP.sub [7, 8, 9, 10, 11, 12, 13, 14, 15, 16, 17, 18, 19, 20, 21, 22] rfl) 0 rfl rfl rfl rfl hl.1 (Nat.le_of_ble_eq_true rfl) dX5_told_208 rfl ⟨Nat.zero_le _, Nat.zero_le _⟩ ?_
    obtain ⟨v30, h30, hf⟩ := ob hf
    refine x_pS (As := [.long v28, .long v29]) (rest := []) S hK (kX5_belowOf l E v28 v29 h30) (va_cwS 2 hts gX5_told_X5_belowOf rfl rfl rfl (by decide +kernel) ⟨Nat.le_of_ble_eq_true rfl, Nat.le_of_ble_eq_true rfl⟩) x_nil rfl hl.1 (Nat.le_of_ble_eq_true rfl) dX5_told_211 rfl ⟨Nat.zero_le _, Nat.zero_le _⟩ ?_
    obtain rfl := Option.some.inj hf
    subst hA
    exact x_lretM hx hb hr hlk hP hS dX5_told_214
  have hf := (if_neg c12).symm.trans hf
  by_cases c13 : x1 = (11 : Int32)
  · have hf := (if_pos c13).symm.trans hf
    refine lv_tableIn (tgt := 215) hx hb dX5_told_8 (by rw [c13]; decide) (by rw [c13]; decide) (by rw [c13]; rfl) (by decide) ?_
    refine lv_aload_n hx hb dX5_told_215 rfl (lv_at hl 0 rfl) ?_
    refine x_get hx hb hts inX5_told_5 hown hK hP 0 rfl rfl 3 (by decide) mX5_told_6 rfl dX5_told_216 ?_
    obtain ⟨v31, h31, hf⟩ := ob hf
    refine x_pV (As := []) (rest := []) S hK (kX2_thin l E g h q f li te v1 z h31) (cwV 0 hts gX5_told_X2_thin rfl rfl rfl (by decide +kernel) ⟨Nat.le_of_ble_eq_true rfl, Nat.le_of_ble_eq_true rfl⟩) (hP.sub [3, 4, 5, 6, 7, 8, 9, 10, 11, 12, 13, 14, 15, 16, 17, 18, 19, 20, 21, 22] rfl) 0 rfl rfl rfl rfl hl.1 (Nat.le_of_ble_eq_true rfl) dX5_told_219 rfl ⟨Nat.zero_le _, Nat.zero_le _⟩ ?_
    refine lv_i2l (v := (Int32.toInt64 v31)) hx hb dX5_told_222 rfl ?_
    obtain rfl := Option.some.inj hf
    subst hA
    exact x_lretM hx hb hr hlk hP hS dX5_told_223
  have hf := (if_neg c13).symm.trans hf
  by_cases c14 : x1 = (12 : Int32)
  · have hf := (if_pos c14).symm.trans hf
    refine lv_tableIn (tgt := 224) hx hb dX5_told_8 (by rw [c14]; decide) (by rw [c14]; decide) (by rw [c14]; rfl) (by decide) ?_
    refine lv_aload_n hx hb dX5_told_224 rfl (lv_at hl 0 rfl) ?_
    refine x_get hx hb hts inX5_told_5 hown hK hP 0 rfl rfl 3 (by decide) mX5_told_6 rfl dX5_told_225 ?_
    obtain ⟨v32, h32, hf⟩ := ob hf
    refine x_mR (ws' := wW E tq f q g h pq rq bq z v1 li v32 pa im) (As := []) (rest := []) S hK (kX2_written l E g h q f li te v1 z h32) (cwV 0 hts gX5_told_X2_written rfl rfl rfl (by decide +kernel) ⟨Nat.le_of_ble_eq_true rfl, Nat.le_of_ble_eq_true rfl⟩) hP hD hS 3 20 rfl rfl 0 rfl rfl rfl rfl hl.1 (Nat.le_of_ble_eq_true rfl) dX5_told_228 rfl ⟨Nat.zero_le _, Nat.zero_le _⟩ rfl (fun H locs hP hD hS => ?_)
    refine x_get hx hb hts inX5_told_4 hown hK hP 5 rfl rfl 0 (by decide) mX5_told_8 rfl dX5_told_231 ?_
    refine lv_i2l (v := (Int32.toInt64 (Te_many v32))) hx hb dX5_told_234 rfl ?_
    obtain rfl := Option.some.inj hf
    subst hA
    exact x_lretM hx hb hr hlk hP hS dX5_told_235
  have hf := (if_neg c14).symm.trans hf
  by_cases c15 : x1 = (13 : Int32)
  · have hf := (if_pos c15).symm.trans hf
    refine lv_tableIn (tgt := 236) hx hb dX5_told_8 (by rw [c15]; decide) (by rw [c15]; decide) (by rw [c15]; rfl) (by decide) ?_
    refine lv_aload_n hx hb dX5_told_236 rfl (lv_at hl 0 rfl) ?_
    refine x_get hx hb hts inX5_told_5 hown hK hP 0 rfl rfl 2 (by decide) mX5_told_9 rfl dX5_told_237 ?_
    refine x_get hx hb hts inX5_told_3 hown hK hP 23 rfl rfl 0 (by decide) mX5_told_10 rfl dX5_told_240 ?_
    refine lv_i2l (v := (Int32.toInt64 (Pa_many pa))) hx hb dX5_told_243 rfl ?_
    obtain rfl := Option.some.inj hf
    subst hA
    exact x_lretM hx hb hr hlk hP hS dX5_told_244
  have hf := (if_neg c15).symm.trans hf
  refine lv_tableOut (tgt := 245) hx hb dX5_told_8 (x_tab13 c2 c3 c4 c5 c6 c7 c8 c9 c10 c11 c12 c13 c14 c15) (by decide) ?_
  refine lv_ldc2 hx hb hown (hts _ mX5_told_1) dX5_told_245 ?_
  obtain rfl := Option.some.inj hf
  subst hA
  exact x_lretM hx hb hr hlk hP hS dX5_told_248
abbrev rmX5_letter : Room := { frames := 3, cells := 0, slots := 0, locals := 69 }
theorem mX5_letter_0 : Cond.fieldLink RX5 12 "EvenWhite" "fount" "LEvenWhite$Fount;" ∈ wsX5_letter := by decide +kernel
theorem mX5_letter_1 : Cond.constant RX5 53 (-1000000002) ∈ wsX5_letter := by decide +kernel
theorem mX5_letter_2 : Cond.fieldLink RX5 87 "EvenWhite$Fount" "bodies" "[I" ∈ wsX5_letter := by decide +kernel
theorem mX5_letter_3 : Cond.constant RX5 75 (-1000000001) ∈ wsX5_letter := by decide +kernel
theorem inX5_letter_1 : ∀ w ∈ u_ws RX1 TX1 6, w ∈ wsX5_letter := by decide +kernel
theorem inX5_letter_5 : ∀ w ∈ u_ws RX5 TX5 6, w ∈ wsX5_letter := by decide +kernel
def fX5_letter (z : Fo) (ev : Ev) (li : Li) (te : Te) (pa : Pa) (im : Im) (x1 : Int32) (x2 : Int32) : Option Int32 :=
  (fX1_hasLetter z x1).bind fun v1 =>
  (if v1 = (0 : Int32) then
  some (-1000000001 : Int32)
  else (if x2 = (0 : Int32) then
  (rdI (Fo_bodies z) 3 x1).bind fun v7 =>
  some v7
  else (if x2 = (1 : Int32) then
  (fX1_hasLikeSides z x1).bind fun v8 =>
  some (if v8 = (0 : Int32) then (0 : Int32) else (1 : Int32))
  else (if x2 = (2 : Int32) then
  (fX1_sumOfSide z x1 (0 : Int32)).bind fun v10 =>
  some v10
  else (if x2 = (3 : Int32) then
  (fX1_sumOfSide z x1 (1 : Int32)).bind fun v11 =>
  some v11
  else some (-1000000002 : Int32))))))
set_option maxHeartbeats 4000000 in
set_option maxRecDepth 100000 in
theorem kX5_letter (l : Launch) (E : xG) (tq : Nat → Nat) (f : Nat → Nat) (q : Nat → Nat) (g : Nat → Nat) (h : Nat → Nat) (pq : Nat → Nat) (rq : Nat → Nat → Nat) (bq : Nat → Nat → Nat) (z : Fo) (ev : Ev) (li : Li) (te : Te) (pa : Pa) (im : Im) (x1 : Int32) (x2 : Int32) {r : Int32} (hf : fX5_letter z ev li te pa im x1 x2 = some r) : xPure l yX5_letter wsX5_letter rmX5_letter E [.ref (tq 0), .int x1, .int x2] (wW E tq f q g h pq rq bq z ev li te pa im) (.int r) := by
  refine Met.ofW (cc := cX5_letter) (maxL := 3) (ret := (some .int)) (by decide) rfl ?_
  intro p e s m args below meth c s₁ B hml hv
  obtain ⟨rfl, hP, hK⟩ := hv
  have hx := B.exec
  have hb := B.bytes
  have hr := B.returns
  have hts := atoms_spec (ws := wsX5_letter) B.pre
  have hown : s.vm.findClass RX5 = some m.cls := findClass_of_methodNamed B.named
  have hlk := B.notSynchronized
  have S : CallFix p m c cX5_letter 3 s _ wsX5_letter RX5 := ⟨hx, hb, hml, hown, hts⟩
  have hl := lv_entry ([.ref (tq 0), .int x1, .int x2]) (n := 3) (Nat.le_of_ble_eq_true rfl)
  rw [lg_entry_eq]
  generalize (lg_sl ([.ref (tq 0), .int x1, .int x2]) ++ List.replicate (3 - (lg_sl ([.ref (tq 0), .int x1, .int x2])).length) Slot.unset).toArray = ls at hl ⊢
  have hl : lv_has ls 3 [(0, .ref (tq 0)), (1, .int x1), (2, .int x2)] := hl
  unfold fX5_letter at hf
  refine lv_aload_n hx hb dX5_letter_0 rfl (lv_at hl 0 rfl) ?_
  refine x_get hx hb hts inX5_letter_5 hown hK hP 0 rfl rfl 0 (by decide) mX5_letter_0 rfl dX5_letter_1 ?_
  refine lv_iload_n hx hb dX5_letter_4 rfl (lv_at hl 1 rfl) ?_
  obtain ⟨v1, h1, hf⟩ := ob hf
  refine x_pV (As := [.int x1]) (rest := []) S hK (kX1_hasLetter l E f z x1 h1) (cwV 1 hts gX5_letter_X1_hasLetter rfl rfl rfl (by decide +kernel) ⟨Nat.le_of_ble_eq_true rfl, Nat.le_of_ble_eq_true rfl⟩) (hP.sub [19, 20, 21, 22] rfl) 0 rfl rfl rfl rfl hl.1 (Nat.le_of_ble_eq_true rfl) dX5_letter_5 rfl ⟨Nat.zero_le _, Nat.zero_le _⟩ ?_
  refine lv_if_ne (tgt := 14) hx hb dX5_letter_8 (by decide) (fun c2 => ?_) (fun c2 => ?_)
  · have hf := (if_neg c2).symm.trans hf
    refine lv_iload_n hx hb dX5_letter_14 rfl (lv_at hl 2 rfl) ?_
    by_cases c3 : x2 = (0 : Int32)
    · have hf := (if_pos c3).symm.trans hf
      refine lv_tableIn (tgt := 44) hx hb dX5_letter_15 (by rw [c3]; decide) (by rw [c3]; decide) (by rw [c3]; rfl) (by decide) ?_
      refine lv_aload_n hx hb dX5_letter_44 rfl (lv_at hl 0 rfl) ?_
      refine x_get hx hb hts inX5_letter_5 hown hK hP 0 rfl rfl 0 (by decide) mX5_letter_0 rfl dX5_letter_45 ?_
      refine x_get hx hb hts inX5_letter_1 hown hK hP 19 rfl rfl 3 (by decide) mX5_letter_2 rfl dX5_letter_48 ?_
      refine lv_iload_n hx hb dX5_letter_51 rfl (lv_at hl 1 rfl) ?_
      obtain ⟨v7, h7, hf⟩ := ob hf
      refine x_iald hx hb hK hP 20 rfl h7 dX5_letter_52 ?_
      obtain rfl := Option.some.inj hf
      exact x_iret hx hb hr hlk (vp_nar_int _) dX5_letter_53
    have hf := (if_neg c3).symm.trans hf
    by_cases c4 : x2 = (1 : Int32)
    · have hf := (if_pos c4).symm.trans hf
      refine lv_tableIn (tgt := 54) hx hb dX5_letter_15 (by rw [c4]; decide) (by rw [c4]; decide) (by rw [c4]; rfl) (by decide) ?_
      refine lv_aload_n hx hb dX5_letter_54 rfl (lv_at hl 0 rfl) ?_
      refine x_get hx hb hts inX5_letter_5 hown hK hP 0 rfl rfl 0 (by decide) mX5_letter_0 rfl dX5_letter_55 ?_
      refine lv_iload_n hx hb dX5_letter_58 rfl (lv_at hl 1 rfl) ?_
      obtain ⟨v8, h8, hf⟩ := ob hf
      refine x_pV (As := [.int x1]) (rest := []) S hK (kX1_hasLikeSides l E f z x1 h8) (cwV 1 hts gX5_letter_X1_hasLikeSides rfl rfl rfl (by decide +kernel) ⟨Nat.le_of_ble_eq_true rfl, Nat.le_of_ble_eq_true rfl⟩) (hP.sub [19, 20, 21, 22] rfl) 0 rfl rfl rfl rfl hl.1 (Nat.le_of_ble_eq_true rfl) dX5_letter_59 rfl ⟨Nat.zero_le _, Nat.zero_le _⟩ ?_
      refine x_cut (pc := 70) (ls := ls) (st := [.int (if v8 = (0 : Int32) then (0 : Int32) else (1 : Int32))]) ?_ (fun hj => ?_)
      · obtain rfl := Option.some.inj hf
        exact x_iret hx hb hr hlk (vp_nar_int _) dX5_letter_70
      · refine lv_if_eq (tgt := 69) hx hb dX5_letter_62 (by decide) (fun c9 => ?_) (fun c9 => ?_)
        · refine lv_iconst (v := 0) hx hb dX5_letter_69 (by decide) ?_
          exact (by rw [if_pos c9] at hj; exact hj)
        · refine lv_iconst (v := 1) hx hb dX5_letter_65 (by decide) ?_
          refine lv_goto (tgt := 70) hx hb dX5_letter_66 (by decide) ?_
          exact (by rw [if_neg c9] at hj; exact hj)
    have hf := (if_neg c4).symm.trans hf
    by_cases c5 : x2 = (2 : Int32)
    · have hf := (if_pos c5).symm.trans hf
      refine lv_tableIn (tgt := 71) hx hb dX5_letter_15 (by rw [c5]; decide) (by rw [c5]; decide) (by rw [c5]; rfl) (by decide) ?_
      refine lv_aload_n hx hb dX5_letter_71 rfl (lv_at hl 0 rfl) ?_
      refine x_get hx hb hts inX5_letter_5 hown hK hP 0 rfl rfl 0 (by decide) mX5_letter_0 rfl dX5_letter_72 ?_
      refine lv_iload_n hx hb dX5_letter_75 rfl (lv_at hl 1 rfl) ?_
      refine lv_iconst (v := 0) hx hb dX5_letter_76 (by decide) ?_
      obtain ⟨v10, h10, hf⟩ := ob hf
      refine x_pV (As := [.int x1, .int (0 : Int32)]) (rest := []) S hK (kX1_sumOfSide l E f z x1 (0 : Int32) h10) (cwV 2 hts gX5_letter_X1_sumOfSide rfl rfl rfl (by decide +kernel) ⟨Nat.le_of_ble_eq_true rfl, Nat.le_of_ble_eq_true rfl⟩) (hP.sub [19, 20, 21, 22] rfl) 0 rfl rfl rfl rfl hl.1 (Nat.le_of_ble_eq_true rfl) dX5_letter_77 rfl ⟨Nat.zero_le _, Nat.zero_le _⟩ ?_
      obtain rfl := Option.some.inj hf
      exact x_iret hx hb hr hlk (vp_nar_int _) dX5_letter_80
    have hf := (if_neg c5).symm.trans hf
    by_cases c6 : x2 = (3 : Int32)
    · have hf := (if_pos c6).symm.trans hf
      refine lv_tableIn (tgt := 81) hx hb dX5_letter_15 (by rw [c6]; decide) (by rw [c6]; decide) (by rw [c6]; rfl) (by decide) ?_
      refine lv_aload_n hx hb dX5_letter_81 rfl (lv_at hl 0 rfl) ?_
      refine x_get hx hb hts inX5_letter_5 hown hK hP 0 rfl rfl 0 (by decide) mX5_letter_0 rfl dX5_letter_82 ?_
      refine lv_iload_n hx hb dX5_letter_85 rfl (lv_at hl 1 rfl) ?_
      refine lv_iconst (v := 1) hx hb dX5_letter_86 (by decide) ?_
      obtain ⟨v11, h11, hf⟩ := ob hf
      refine x_pV (As := [.int x1, .int (1 : Int32)]) (rest := []) S hK (kX1_sumOfSide l E f z x1 (1 : Int32) h11) (cwV 2 hts gX5_letter_X1_sumOfSide rfl rfl rfl (by decide +kernel) ⟨Nat.le_of_ble_eq_true rfl, Nat.le_of_ble_eq_true rfl⟩) (hP.sub [19, 20, 21, 22] rfl) 0 rfl rfl rfl rfl hl.1 (Nat.le_of_ble_eq_true rfl) dX5_letter_87 rfl ⟨Nat.zero_le _, Nat.zero_le _⟩ ?_
      obtain rfl := Option.some.inj hf
      exact x_iret hx hb hr hlk (vp_nar_int _) dX5_letter_90
    have hf := (if_neg c6).symm.trans hf
    refine lv_tableOut (tgt := 91) hx hb dX5_letter_15 (x_tab3 c3 c4 c5 c6) (by decide) ?_
    refine lv_ldc hx hb hown (hts _ mX5_letter_1) dX5_letter_91 ?_
    obtain rfl := Option.some.inj hf
    exact x_iret hx hb hr hlk (vp_nar_int _) dX5_letter_93
  · have hf := (if_pos c2).symm.trans hf
    refine lv_ldc hx hb hown (hts _ mX5_letter_3) dX5_letter_11 ?_
    obtain rfl := Option.some.inj hf
    exact x_iret hx hb hr hlk (vp_nar_int _) dX5_letter_13
