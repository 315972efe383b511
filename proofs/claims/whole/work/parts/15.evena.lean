abbrev rmX0_forget : Room := { frames := 0, cells := 0, slots := 0, locals := 0 }
theorem mX0_forget_0 : Cond.fieldLink RX0 38 "EvenWhite$Even" "found" "Z" ∈ wsX0_forget := by decide +kernel
theorem inX0_forget_0 : ∀ w ∈ u_ws RX0 TX0 8, w ∈ wsX0_forget := by decide +kernel
def fX0_forget (ev : Ev) : Option Ev :=
  some (Ev_set_found ev (0 : Int32))
set_option maxHeartbeats 4000000 in
set_option maxRecDepth 100000 in
theorem kX0_forget (l : Launch) (E : xG) (q : Nat → Nat) (f : Nat → Nat) (ev : Ev) {r : Ev} (hf : fX0_forget ev = some r) : xMut l yX0_forget wsX0_forget rmX0_forget E [.ref (q 0)] (wO E q f ev) none (wO E q f r) := by
  refine Met.ofW (cc := cX0_forget) (maxL := 1) (ret := none) (by decide) rfl ?_
  intro p e s m args below meth c s₁ B hml hv
  obtain ⟨rfl, hP, hK, hD0⟩ := hv
  have hx := B.exec
  have hb := B.bytes
  have hr := B.returns
  have hts := atoms_spec (ws := wsX0_forget) B.pre
  have hown : s.vm.findClass RX0 = some m.cls := findClass_of_methodNamed B.named
  have hlk := B.notSynchronized
  have S : CallFix p m c cX0_forget 1 s _ wsX0_forget RX0 := ⟨hx, hb, hml, hown, hts⟩
  have hl := lv_entry ([.ref (q 0)]) (n := 1) (Nat.le_of_ble_eq_true rfl)
  rw [lg_entry_eq]
  generalize (lg_sl ([.ref (q 0)]) ++ List.replicate (1 - (lg_sl ([.ref (q 0)])).length) Slot.unset).toArray = ls at hl ⊢
  have hl : lv_has ls 1 [(0, .ref (q 0))] := hl
  have hD := xA.self hD0
  have hS : va_S (xA (wO E q f ev)) s.heap s.heap [] := va_S.rf
  show W p l e rmX0_forget s m _ below meth c s.heap [] 0 0 _ _
  generalize hA : xA (wO E q f ev) = A at hD hS ⊢
  unfold fX0_forget at hf
  refine lv_aload_n hx hb dX0_forget_0 rfl (lv_at hl 0 rfl) ?_
  refine lv_iconst (v := 0) hx hb dX0_forget_1 (by decide) ?_
  refine x_putf hx hb hts inX0_forget_0 tyX0_ok nmX0 hown hK hP hD hS 0 rfl rfl 7 (by decide) mX0_forget_0 rfl rfl rfl (Nat.le_of_ble_eq_true rfl) dX0_forget_2 (fun H locs hP hD hS => ?_)
  have hP : va_P (xD E) vwCl (wO E q f (Ev_set_found ev (0 : Int32))) H := hP
  have hD : va_D A (wO E q f (Ev_set_found ev (0 : Int32))) := hD
  obtain rfl := Option.some.inj hf
  subst hA
  exact x_vretM hx hb hr hlk hP hS dX0_forget_5
abbrev rmX0_spaces : Room := { frames := 0, cells := 0, slots := 0, locals := 0 }
theorem mX0_spaces_0 : Cond.fieldLink RX0 9 "EvenWhite$Even" "fount" "LEvenWhite$Fount;" ∈ wsX0_spaces := by decide +kernel
theorem mX0_spaces_1 : Cond.fieldLink RX0 51 "EvenWhite$Fount" "many" "I" ∈ wsX0_spaces := by decide +kernel
theorem inX0_spaces_0 : ∀ w ∈ u_ws RX0 TX0 8, w ∈ wsX0_spaces := by decide +kernel
theorem inX0_spaces_1 : ∀ w ∈ u_ws RX1 TX1 6, w ∈ wsX0_spaces := by decide +kernel
def fX0_spaces (ev : Ev) (z : Fo) : Option Int32 :=
  some ((2 : Int32) * (Fo_many z))
set_option maxHeartbeats 4000000 in
set_option maxRecDepth 100000 in
theorem kX0_spaces (l : Launch) (E : xG) (q : Nat → Nat) (f : Nat → Nat) (ev : Ev) (z : Fo) {r : Int32} (hf : fX0_spaces ev z = some r) : xPure l yX0_spaces wsX0_spaces rmX0_spaces E [.ref (q 0)] (wE E q f ev z) (.int r) := by
  refine Met.ofW (cc := cX0_spaces) (maxL := 1) (ret := (some .int)) (by decide) rfl ?_
  intro p e s m args below meth c s₁ B hml hv
  obtain ⟨rfl, hP, hK⟩ := hv
  have hx := B.exec
  have hb := B.bytes
  have hr := B.returns
  have hts := atoms_spec (ws := wsX0_spaces) B.pre
  have hown : s.vm.findClass RX0 = some m.cls := findClass_of_methodNamed B.named
  have hlk := B.notSynchronized
  have S : CallFix p m c cX0_spaces 1 s _ wsX0_spaces RX0 := ⟨hx, hb, hml, hown, hts⟩
  have hl := lv_entry ([.ref (q 0)]) (n := 1) (Nat.le_of_ble_eq_true rfl)
  rw [lg_entry_eq]
  generalize (lg_sl ([.ref (q 0)]) ++ List.replicate (1 - (lg_sl ([.ref (q 0)])).length) Slot.unset).toArray = ls at hl ⊢
  have hl : lv_has ls 1 [(0, .ref (q 0))] := hl
  unfold fX0_spaces at hf
  refine lv_iconst (v := 2) hx hb dX0_spaces_0 (by decide) ?_
  refine lv_aload_n hx hb dX0_spaces_1 rfl (lv_at hl 0 rfl) ?_
  refine x_get hx hb hts inX0_spaces_0 hown hK hP 0 rfl rfl 0 (by decide) mX0_spaces_0 rfl dX0_spaces_2 ?_
  refine x_get hx hb hts inX0_spaces_1 hown hK hP 12 rfl rfl 0 (by decide) mX0_spaces_1 rfl dX0_spaces_5 ?_
  refine lv_imul hx hb dX0_spaces_8 ?_
  obtain rfl := Option.some.inj hf
  exact x_iret hx hb hr hlk (vp_nar_int _) dX0_spaces_9
abbrev rmX0_numberOf : Room := { frames := 0, cells := 0, slots := 0, locals := 0 }
theorem mX0_numberOf_0 : Cond.fieldLink RX0 9 "EvenWhite$Even" "fount" "LEvenWhite$Fount;" ∈ wsX0_numberOf := by decide +kernel
theorem mX0_numberOf_1 : Cond.fieldLink RX0 51 "EvenWhite$Fount" "many" "I" ∈ wsX0_numberOf := by decide +kernel
theorem inX0_numberOf_0 : ∀ w ∈ u_ws RX0 TX0 8, w ∈ wsX0_numberOf := by decide +kernel
theorem inX0_numberOf_1 : ∀ w ∈ u_ws RX1 TX1 6, w ∈ wsX0_numberOf := by decide +kernel
def fX0_numberOf (ev : Ev) (z : Fo) (x1 : Int32) (x2 : Int32) : Option Int32 :=
  some (if x2 = (1 : Int32) then x1 else ((Fo_many z) + x1))
set_option maxHeartbeats 4000000 in
set_option maxRecDepth 100000 in
theorem kX0_numberOf (l : Launch) (E : xG) (q : Nat → Nat) (f : Nat → Nat) (ev : Ev) (z : Fo) (x1 : Int32) (x2 : Int32) {r : Int32} (hf : fX0_numberOf ev z x1 x2 = some r) : xPure l yX0_numberOf wsX0_numberOf rmX0_numberOf E [.ref (q 0), .int x1, .int x2] (wE E q f ev z) (.int r) := by
  refine Met.ofW (cc := cX0_numberOf) (maxL := 3) (ret := (some .int)) (by decide) rfl ?_
  intro p e s m args below meth c s₁ B hml hv
  obtain ⟨rfl, hP, hK⟩ := hv
  have hx := B.exec
  have hb := B.bytes
  have hr := B.returns
  have hts := atoms_spec (ws := wsX0_numberOf) B.pre
  have hown : s.vm.findClass RX0 = some m.cls := findClass_of_methodNamed B.named
  have hlk := B.notSynchronized
  have S : CallFix p m c cX0_numberOf 3 s _ wsX0_numberOf RX0 := ⟨hx, hb, hml, hown, hts⟩
  have hl := lv_entry ([.ref (q 0), .int x1, .int x2]) (n := 3) (Nat.le_of_ble_eq_true rfl)
  rw [lg_entry_eq]
  generalize (lg_sl ([.ref (q 0), .int x1, .int x2]) ++ List.replicate (3 - (lg_sl ([.ref (q 0), .int x1, .int x2])).length) Slot.unset).toArray = ls at hl ⊢
  have hl : lv_has ls 3 [(0, .ref (q 0)), (1, .int x1), (2, .int x2)] := hl
  unfold fX0_numberOf at hf
  refine lv_iload_n hx hb dX0_numberOf_0 rfl (lv_at hl 2 rfl) ?_
  refine lv_iconst (v := 1) hx hb dX0_numberOf_1 (by decide) ?_
  refine x_cut (pc := 18) (ls := ls) (st := [.int (if x2 = (1 : Int32) then x1 else ((Fo_many z) + x1))]) ?_ (fun hj => ?_)
  · obtain rfl := Option.some.inj hf
    exact x_iret hx hb hr hlk (vp_nar_int _) dX0_numberOf_18
  · refine lv_icmp_ne (tgt := 9) hx hb dX0_numberOf_2 (by decide) (fun c1 => ?_) (fun c1 => ?_)
    · refine lv_aload_n hx hb dX0_numberOf_9 rfl (lv_at hl 0 rfl) ?_
      refine x_get hx hb hts inX0_numberOf_0 hown hK hP 0 rfl rfl 0 (by decide) mX0_numberOf_0 rfl dX0_numberOf_10 ?_
      refine x_get hx hb hts inX0_numberOf_1 hown hK hP 12 rfl rfl 0 (by decide) mX0_numberOf_1 rfl dX0_numberOf_13 ?_
      refine lv_iload_n hx hb dX0_numberOf_16 rfl (lv_at hl 1 rfl) ?_
      refine lv_iadd hx hb dX0_numberOf_17 ?_
      exact (by rw [if_neg c1] at hj; exact hj)
    · refine lv_iload_n hx hb dX0_numberOf_5 rfl (lv_at hl 1 rfl) ?_
      refine lv_goto (tgt := 18) hx hb dX0_numberOf_6 (by decide) ?_
      exact (by rw [if_pos c1] at hj; exact hj)
abbrev rmX0_addPair : Room := { frames := 2, cells := 0, slots := 0, locals := 49 }
theorem mX0_addPair_0 : Cond.fieldLink RX0 9 "EvenWhite$Even" "fount" "LEvenWhite$Fount;" ∈ wsX0_addPair := by decide +kernel
theorem mX0_addPair_1 : Cond.fieldLink RX0 65 "EvenWhite$Fount" "wanted" "I" ∈ wsX0_addPair := by decide +kernel
theorem mX0_addPair_2 : Cond.fieldLink RX0 17 "EvenWhite$Even" "rows" "[[J" ∈ wsX0_addPair := by decide +kernel
theorem inX0_addPair_0 : ∀ w ∈ u_ws RX0 TX0 8, w ∈ wsX0_addPair := by decide +kernel
theorem inX0_addPair_1 : ∀ w ∈ u_ws RX1 TX1 6, w ∈ wsX0_addPair := by decide +kernel
def fX0_addPair (ev : Ev) (z : Fo) (x1 : Int32) (x2 : Int32) : Option Ev :=
  (fX1_weightOf z x1 x2).bind fun v1 =>
  (fX1_bareOf z x1 x2).bind fun v2 =>
  (fX0_numberOf ev z x1 (1 : Int32)).bind fun v3 =>
  (fX0_numberOf ev z x2 (0 : Int32)).bind fun v4 =>
  (rdX 6 v3).bind fun v6 =>
  (rdJ ((Ev_rows ev) v6) 7 v3).bind fun v7 =>
  (wrJ ((Ev_rows ev) v6) 7 v3 (v7 + (Int32.toInt64 v1))).bind fun v8 =>
  (rdX 6 v3).bind fun v10 =>
  (rdJ ((up2 (Ev_rows ev) v6 v8) v10) 7 v4).bind fun v11 =>
  (wrJ ((up2 (Ev_rows ev) v6 v8) v10) 7 v4 (v11 + (Int32.toInt64 v1))).bind fun v12 =>
  (rdX 6 v3).bind fun v14 =>
  (rdJ ((up2 (up2 (Ev_rows ev) v6 v8) v10 v12) v14) 7 (6 : Int32)).bind fun v15 =>
  (wrJ ((up2 (up2 (Ev_rows ev) v6 v8) v10 v12) v14) 7 (6 : Int32) (v15 + ((Int32.toInt64 v1) * (Int32.toInt64 ((Fo_wanted z) - v2))))).bind fun v16 =>
  (rdX 6 v4).bind fun v18 =>
  (rdJ ((up2 (up2 (up2 (Ev_rows ev) v6 v8) v10 v12) v14 v16) v18) 7 v3).bind fun v19 =>
  (wrJ ((up2 (up2 (up2 (Ev_rows ev) v6 v8) v10 v12) v14 v16) v18) 7 v3 (v19 + (Int32.toInt64 v1))).bind fun v20 =>
  (rdX 6 v4).bind fun v22 =>
  (rdJ ((up2 (up2 (up2 (up2 (Ev_rows ev) v6 v8) v10 v12) v14 v16) v18 v20) v22) 7 v4).bind fun v23 =>
  (wrJ ((up2 (up2 (up2 (up2 (Ev_rows ev) v6 v8) v10 v12) v14 v16) v18 v20) v22) 7 v4 (v23 + (Int32.toInt64 v1))).bind fun v24 =>
  (rdX 6 v4).bind fun v26 =>
  (rdJ ((up2 (up2 (up2 (up2 (up2 (Ev_rows ev) v6 v8) v10 v12) v14 v16) v18 v20) v22 v24) v26) 7 (6 : Int32)).bind fun v27 =>
  (wrJ ((up2 (up2 (up2 (up2 (up2 (Ev_rows ev) v6 v8) v10 v12) v14 v16) v18 v20) v22 v24) v26) 7 (6 : Int32) (v27 + ((Int32.toInt64 v1) * (Int32.toInt64 ((Fo_wanted z) - v2))))).bind fun v28 =>
  some (Ev_set_rows ev (up2 (up2 (up2 (up2 (up2 (up2 (Ev_rows ev) v6 v8) v10 v12) v14 v16) v18 v20) v22 v24) v26 v28))
set_option maxHeartbeats 4000000 in
set_option maxRecDepth 100000 in
theorem kX0_addPair (l : Launch) (E : xG) (q : Nat → Nat) (f : Nat → Nat) (ev : Ev) (z : Fo) (x1 : Int32) (x2 : Int32) {r : Ev} (hf : fX0_addPair ev z x1 x2 = some r) : xMut l yX0_addPair wsX0_addPair rmX0_addPair E [.ref (q 0), .int x1, .int x2] (wE E q f ev z) none (wE E q f r z) := by
  refine Met.ofW (cc := cX0_addPair) (maxL := 9) (ret := none) (by decide) rfl ?_
  intro p e s m args below meth c s₁ B hml hv
  obtain ⟨rfl, hP, hK, hD0⟩ := hv
  have hx := B.exec
  have hb := B.bytes
  have hr := B.returns
  have hts := atoms_spec (ws := wsX0_addPair) B.pre
  have hown : s.vm.findClass RX0 = some m.cls := findClass_of_methodNamed B.named
  have hlk := B.notSynchronized
  have S : CallFix p m c cX0_addPair 9 s _ wsX0_addPair RX0 := ⟨hx, hb, hml, hown, hts⟩
  have hl := lv_entry ([.ref (q 0), .int x1, .int x2]) (n := 9) (Nat.le_of_ble_eq_true rfl)
  rw [lg_entry_eq]
  generalize (lg_sl ([.ref (q 0), .int x1, .int x2]) ++ List.replicate (9 - (lg_sl ([.ref (q 0), .int x1, .int x2])).length) Slot.unset).toArray = ls at hl ⊢
  have hl : lv_has ls 9 [(0, .ref (q 0)), (1, .int x1), (2, .int x2)] := hl
  have hD := xA.self hD0
  have hS : va_S (xA (wE E q f ev z)) s.heap s.heap [] := va_S.rf
  show W p l e rmX0_addPair s m _ below meth c s.heap [] 0 0 _ _
  generalize hA : xA (wE E q f ev z) = A at hD hS ⊢
  unfold fX0_addPair at hf
  refine lv_aload_n hx hb dX0_addPair_0 rfl (lv_at hl 0 rfl) ?_
  refine x_get hx hb hts inX0_addPair_0 hown hK hP 0 rfl rfl 0 (by decide) mX0_addPair_0 rfl dX0_addPair_1 ?_
  refine lv_iload_n hx hb dX0_addPair_4 rfl (lv_at hl 1 rfl) ?_
  refine lv_iload_n hx hb dX0_addPair_5 rfl (lv_at hl 2 rfl) ?_
  obtain ⟨v1, h1, hf⟩ := ob hf
  refine x_pV (As := [.int x1, .int x2]) (rest := []) S hK (kX1_weightOf l E f z x1 x2 h1) (cwV 2 hts gX0_addPair_X1_weightOf rfl rfl rfl (by decide +kernel) ⟨Nat.le_of_ble_eq_true rfl, Nat.le_of_ble_eq_true rfl⟩) (hP.sub [12, 13, 14, 15] rfl) 0 rfl rfl rfl rfl hl.1 (Nat.le_of_ble_eq_true rfl) dX0_addPair_6 rfl ⟨Nat.zero_le _, Nat.zero_le _⟩ ?_
  refine lv_i2l (v := (Int32.toInt64 v1)) hx hb dX0_addPair_9 rfl ?_
  refine lv_lstore_n (lv' := [(3, .long (Int32.toInt64 v1)), (0, .ref (q 0)), (1, .int x1), (2, .int x2)]) hx hb dX0_addPair_10 rfl hl (by decide) rfl (fun ls hl => ?_)
  refine lv_lload_n hx hb dX0_addPair_11 rfl (lv_at hl 0 rfl) ?_
  refine lv_aload_n hx hb dX0_addPair_12 rfl (lv_at hl 1 rfl) ?_
  refine x_get hx hb hts inX0_addPair_0 hown hK hP 0 rfl rfl 0 (by decide) mX0_addPair_0 rfl dX0_addPair_13 ?_
  refine x_get hx hb hts inX0_addPair_1 hown hK hP 12 rfl rfl 2 (by decide) mX0_addPair_1 rfl dX0_addPair_16 ?_
  refine lv_aload_n hx hb dX0_addPair_19 rfl (lv_at hl 1 rfl) ?_
  refine x_get hx hb hts inX0_addPair_0 hown hK hP 0 rfl rfl 0 (by decide) mX0_addPair_0 rfl dX0_addPair_20 ?_
  refine lv_iload_n hx hb dX0_addPair_23 rfl (lv_at hl 2 rfl) ?_
  refine lv_iload_n hx hb dX0_addPair_24 rfl (lv_at hl 3 rfl) ?_
  obtain ⟨v2, h2, hf⟩ := ob hf
  refine x_pV (As := [.int x1, .int x2]) (rest := [.int (Fo_wanted z), .long (Int32.toInt64 v1)]) S hK (kX1_bareOf l E f z x1 x2 h2) (cwV 2 hts gX0_addPair_X1_bareOf rfl rfl rfl (by decide +kernel) ⟨Nat.le_of_ble_eq_true rfl, Nat.le_of_ble_eq_true rfl⟩) (hP.sub [12, 13, 14, 15] rfl) 0 rfl rfl rfl rfl hl.1 (Nat.le_of_ble_eq_true rfl) dX0_addPair_25 rfl ⟨Nat.zero_le _, Nat.zero_le _⟩ ?_
  refine lv_isub hx hb dX0_addPair_28 ?_
  refine lv_i2l (v := (Int32.toInt64 ((Fo_wanted z) - v2))) hx hb dX0_addPair_29 rfl ?_
  refine lv_lmul hx hb dX0_addPair_30 ?_
  refine lv_lstore (lv' := [(5, .long ((Int32.toInt64 v1) * (Int32.toInt64 ((Fo_wanted z) - v2)))), (3, .long (Int32.toInt64 v1)), (0, .ref (q 0)), (1, .int x1), (2, .int x2)]) hx hb dX0_addPair_31 hl (by decide) rfl (fun ls hl => ?_)
  refine lv_aload_n hx hb dX0_addPair_33 rfl (lv_at hl 2 rfl) ?_
  refine lv_iload_n hx hb dX0_addPair_34 rfl (lv_at hl 3 rfl) ?_
  refine lv_iconst (v := 1) hx hb dX0_addPair_35 (by decide) ?_
  obtain ⟨v3, h3, hf⟩ := ob hf
  refine x_pV (As := [.int x1, .int (1 : Int32)]) (rest := []) S hK (kX0_numberOf l E q f ev z x1 (1 : Int32) h3) (cwV 2 hts gX0_addPair_X0_numberOf rfl rfl rfl (by decide +kernel) ⟨Nat.le_of_ble_eq_true rfl, Nat.le_of_ble_eq_true rfl⟩) hP 0 rfl rfl rfl rfl hl.1 (Nat.le_of_ble_eq_true rfl) dX0_addPair_36 rfl ⟨Nat.zero_le _, Nat.zero_le _⟩ ?_
  refine lv_istore (lv' := [(7, .int v3), (5, .long ((Int32.toInt64 v1) * (Int32.toInt64 ((Fo_wanted z) - v2)))), (3, .long (Int32.toInt64 v1)), (0, .ref (q 0)), (1, .int x1), (2, .int x2)]) hx hb dX0_addPair_39 hl (by decide) rfl (fun ls hl => ?_)
  refine lv_aload_n hx hb dX0_addPair_41 rfl (lv_at hl 3 rfl) ?_
  refine lv_iload_n hx hb dX0_addPair_42 rfl (lv_at hl 5 rfl) ?_
  refine lv_iconst (v := 0) hx hb dX0_addPair_43 (by decide) ?_
  obtain ⟨v4, h4, hf⟩ := ob hf
  refine x_pV (As := [.int x2, .int (0 : Int32)]) (rest := []) S hK (kX0_numberOf l E q f ev z x2 (0 : Int32) h4) (cwV 2 hts gX0_addPair_X0_numberOf rfl rfl rfl (by decide +kernel) ⟨Nat.le_of_ble_eq_true rfl, Nat.le_of_ble_eq_true rfl⟩) hP 0 rfl rfl rfl rfl hl.1 (Nat.le_of_ble_eq_true rfl) dX0_addPair_44 rfl ⟨Nat.zero_le _, Nat.zero_le _⟩ ?_
  refine lv_istore (lv' := [(8, .int v4), (7, .int v3), (5, .long ((Int32.toInt64 v1) * (Int32.toInt64 ((Fo_wanted z) - v2)))), (3, .long (Int32.toInt64 v1)), (0, .ref (q 0)), (1, .int x1), (2, .int x2)]) hx hb dX0_addPair_47 hl (by decide) rfl (fun ls hl => ?_)
  refine lv_aload_n hx hb dX0_addPair_49 rfl (lv_at hl 4 rfl) ?_
  refine x_get hx hb hts inX0_addPair_0 hown hK hP 0 rfl rfl 1 (by decide) mX0_addPair_2 rfl dX0_addPair_50 ?_
  refine lv_iload hx hb dX0_addPair_53 (lv_at hl 1 rfl) ?_
  obtain ⟨v6, h6, hf⟩ := ob hf
  refine x_rald hx hb hK hP 1 rfl (fun _ h9 => if_pos h9) h6 dX0_addPair_55 (fun hj5 => ?_)
  refine lv_iload hx hb dX0_addPair_56 (lv_at hl 1 rfl) ?_
  refine lv_dup2_11 hx hb dX0_addPair_58 rfl rfl ?_
  obtain ⟨v7, h7, hf⟩ := ob hf
  refine x_lald hx hb hK hP (2 + v6) (wE_row hj5) h7 dX0_addPair_59 ?_
  refine lv_lload_n hx hb dX0_addPair_60 rfl (lv_at hl 3 rfl) ?_
  refine lv_ladd hx hb dX0_addPair_61 ?_
  obtain ⟨v8, h8, hf⟩ := ob hf
  refine x_last hx hb hK hP hD hS (2 + v6) (wE_row hj5) h8 dX0_addPair_62 (fun H locs hP hD hS => ?_)
  rw [wE_rowset hj5] at hP hD
  have hP : va_P (xD E) vwCl (wE E q f (Ev_set_rows ev (up2 (Ev_rows ev) v6 v8)) z) H := hP
  have hD : va_D A (wE E q f (Ev_set_rows ev (up2 (Ev_rows ev) v6 v8)) z) := hD
  refine lv_aload_n hx hb dX0_addPair_63 rfl (lv_at hl 4 rfl) ?_
  refine x_get hx hb hts inX0_addPair_0 hown hK hP 0 rfl rfl 1 (by decide) mX0_addPair_2 rfl dX0_addPair_64 ?_
  refine lv_iload hx hb dX0_addPair_67 (lv_at hl 1 rfl) ?_
  obtain ⟨v10, h10, hf⟩ := ob hf
  refine x_rald hx hb hK hP 1 rfl (fun _ h9 => if_pos h9) h10 dX0_addPair_69 (fun hj9 => ?_)
  refine lv_iload hx hb dX0_addPair_70 (lv_at hl 0 rfl) ?_
  refine lv_dup2_11 hx hb dX0_addPair_72 rfl rfl ?_
  obtain ⟨v11, h11, hf⟩ := ob hf
  refine x_lald hx hb hK hP (2 + v10) (wE_row hj9) h11 dX0_addPair_73 ?_
  refine lv_lload_n hx hb dX0_addPair_74 rfl (lv_at hl 3 rfl) ?_
  refine lv_ladd hx hb dX0_addPair_75 ?_
  obtain ⟨v12, h12, hf⟩ := ob hf
  refine x_last hx hb hK hP hD hS (2 + v10) (wE_row hj9) h12 dX0_addPair_76 (fun H locs hP hD hS => ?_)
  rw [wE_rowset hj9] at hP hD
  have hP : va_P (xD E) vwCl (wE E q f (Ev_set_rows ev (up2 (up2 (Ev_rows ev) v6 v8) v10 v12)) z) H := hP
  have hD : va_D A (wE E q f (Ev_set_rows ev (up2 (up2 (Ev_rows ev) v6 v8) v10 v12)) z) := hD
  refine lv_aload_n hx hb dX0_addPair_77 rfl (lv_at hl 4 rfl) ?_
  refine x_get hx hb hts inX0_addPair_0 hown hK hP 0 rfl rfl 1 (by decide) mX0_addPair_2 rfl dX0_addPair_78 ?_
  refine lv_iload hx hb dX0_addPair_81 (lv_at hl 1 rfl) ?_
  obtain ⟨v14, h14, hf⟩ := ob hf
  refine x_rald hx hb hK hP 1 rfl (fun _ h9 => if_pos h9) h14 dX0_addPair_83 (fun hj13 => ?_)
  refine lv_bipush (v := 6) hx hb dX0_addPair_84 (by decide) ?_
  refine lv_dup2_11 hx hb dX0_addPair_86 rfl rfl ?_
  obtain ⟨v15, h15, hf⟩ := ob hf
  refine x_lald hx hb hK hP (2 + v14) (wE_row hj13) h15 dX0_addPair_87 ?_
  refine lv_lload hx hb dX0_addPair_88 (lv_at hl 2 rfl) ?_
  refine lv_ladd hx hb dX0_addPair_90 ?_
  obtain ⟨v16, h16, hf⟩ := ob hf
  refine x_last hx hb hK hP hD hS (2 + v14) (wE_row hj13) h16 dX0_addPair_91 (fun H locs hP hD hS => ?_)
  rw [wE_rowset hj13] at hP hD
  have hP : va_P (xD E) vwCl (wE E q f (Ev_set_rows ev (up2 (up2 (up2 (Ev_rows ev) v6 v8) v10 v12) v14 v16)) z) H := hP
  have hD : va_D A (wE E q f (Ev_set_rows ev (up2 (up2 (up2 (Ev_rows ev) v6 v8) v10 v12) v14 v16)) z) := hD
  refine lv_aload_n hx hb dX0_addPair_92 rfl (lv_at hl 4 rfl) ?_
  refine x_get hx hb hts inX0_addPair_0 hown hK hP 0 rfl rfl 1 (by decide) mX0_addPair_2 rfl dX0_addPair_93 ?_
  refine lv_iload hx hb dX0_addPair_96 (lv_at hl 0 rfl) ?_
  obtain ⟨v18, h18, hf⟩ := ob hf
  refine x_rald hx hb hK hP 1 rfl (fun _ h9 => if_pos h9) h18 dX0_addPair_98 (fun hj17 => ?_)
  refine lv_iload hx hb dX0_addPair_99 (lv_at hl 1 rfl) ?_
  refine lv_dup2_11 hx hb dX0_addPair_101 rfl rfl ?_
  obtain ⟨v19, h19, hf⟩ := ob hf
  refine x_lald hx hb hK hP (2 + v18) (wE_row hj17) h19 dX0_addPair_102 ?_
  refine lv_lload_n hx hb dX0_addPair_103 rfl (lv_at hl 3 rfl) ?_
  refine lv_ladd hx hb dX0_addPair_104 ?_
  obtain ⟨v20, h20, hf⟩ := ob hf
  refine x_last hx hb hK hP hD hS (2 + v18) (wE_row hj17) h20 dX0_addPair_105 (fun H locs hP hD hS => ?_)
  rw [wE_rowset hj17] at hP hD
  have hP : va_P (xD E) vwCl (wE E q f (Ev_set_rows ev (up2 (up2 (up2 (up2 (Ev_rows ev) v6 v8) v10 v12) v14 v16) v18 v20)) z) H := hP
  have hD : va_D A (wE E q f (Ev_set_rows ev (up2 (up2 (up2 (up2 (Ev_rows ev) v6 v8) v10 v12) v14 v16) v18 v20)) z) := hD
  refine lv_aload_n hx hb dX0_addPair_106 rfl (lv_at hl 4 rfl) ?_
  refine x_get hx hb hts inX0_addPair_0 hown hK hP 0 rfl rfl 1 (by decide) mX0_addPair_2 rfl dX0_addPair_107 ?_
  refine lv_iload hx hb dX0_addPair_110 (lv_at hl 0 rfl) ?_
  obtain ⟨v22, h22, hf⟩ := ob hf
  refine x_rald hx hb hK hP 1 rfl (fun _ h9 => if_pos h9) h22 dX0_addPair_112 (fun hj21 => ?_)
  refine lv_iload hx hb dX0_addPair_113 (lv_at hl 0 rfl) ?_
  refine lv_dup2_11 hx hb dX0_addPair_115 rfl rfl ?_
  obtain ⟨v23, h23, hf⟩ := ob hf
  refine x_lald hx hb hK hP (2 + v22) (wE_row hj21) h23 dX0_addPair_116 ?_
  refine lv_lload_n hx hb dX0_addPair_117 rfl (lv_at hl 3 rfl) ?_
  refine lv_ladd hx hb dX0_addPair_118 ?_
  obtain ⟨v24, h24, hf⟩ := ob hf
  refine x_last hx hb hK hP hD hS (2 + v22) (wE_row hj21) h24 dX0_addPair_119 (fun H locs hP hD hS => ?_)
  rw [wE_rowset hj21] at hP hD
  have hP : va_P (xD E) vwCl (wE E q f (Ev_set_rows ev (up2 (up2 (up2 (up2 (up2 (Ev_rows ev) v6 v8) v10 v12) v14 v16) v18 v20) v22 v24)) z) H := hP
  have hD : va_D A (wE E q f (Ev_set_rows ev (up2 (up2 (up2 (up2 (up2 (Ev_rows ev) v6 v8) v10 v12) v14 v16) v18 v20) v22 v24)) z) := hD
  refine lv_aload_n hx hb dX0_addPair_120 rfl (lv_at hl 4 rfl) ?_
  refine x_get hx hb hts inX0_addPair_0 hown hK hP 0 rfl rfl 1 (by decide) mX0_addPair_2 rfl dX0_addPair_121 ?_
  refine lv_iload hx hb dX0_addPair_124 (lv_at hl 0 rfl) ?_
  obtain ⟨v26, h26, hf⟩ := ob hf
  refine x_rald hx hb hK hP 1 rfl (fun _ h9 => if_pos h9) h26 dX0_addPair_126 (fun hj25 => ?_)
  refine lv_bipush (v := 6) hx hb dX0_addPair_127 (by decide) ?_
  refine lv_dup2_11 hx hb dX0_addPair_129 rfl rfl ?_
  obtain ⟨v27, h27, hf⟩ := ob hf
  refine x_lald hx hb hK hP (2 + v26) (wE_row hj25) h27 dX0_addPair_130 ?_
  refine lv_lload hx hb dX0_addPair_131 (lv_at hl 2 rfl) ?_
  refine lv_ladd hx hb dX0_addPair_133 ?_
  obtain ⟨v28, h28, hf⟩ := ob hf
  refine x_last hx hb hK hP hD hS (2 + v26) (wE_row hj25) h28 dX0_addPair_134 (fun H locs hP hD hS => ?_)
  rw [wE_rowset hj25] at hP hD
  have hP : va_P (xD E) vwCl (wE E q f (Ev_set_rows ev (up2 (up2 (up2 (up2 (up2 (up2 (Ev_rows ev) v6 v8) v10 v12) v14 v16) v18 v20) v22 v24) v26 v28)) z) H := hP
  have hD : va_D A (wE E q f (Ev_set_rows ev (up2 (up2 (up2 (up2 (up2 (up2 (Ev_rows ev) v6 v8) v10 v12) v14 v16) v18 v20) v22 v24) v26 v28)) z) := hD
  obtain rfl := Option.some.inj hf
  subst hA
  exact x_vretM hx hb hr hlk hP hS dX0_addPair_135
abbrev rmX0_writeRows : Room := { frames := 3, cells := 0, slots := 0, locals := 77 }
theorem mX0_writeRows_0 : Cond.fieldLink RX0 17 "EvenWhite$Even" "rows" "[[J" ∈ wsX0_writeRows := by decide +kernel
theorem mX0_writeRows_1 : Cond.fieldLink RX0 9 "EvenWhite$Even" "fount" "LEvenWhite$Fount;" ∈ wsX0_writeRows := by decide +kernel
theorem mX0_writeRows_2 : Cond.fieldLink RX0 51 "EvenWhite$Fount" "many" "I" ∈ wsX0_writeRows := by decide +kernel
theorem inX0_writeRows_0 : ∀ w ∈ u_ws RX0 TX0 8, w ∈ wsX0_writeRows := by decide +kernel
theorem inX0_writeRows_1 : ∀ w ∈ u_ws RX1 TX1 6, w ∈ wsX0_writeRows := by decide +kernel
def gX0_writeRows_10 (z : Fo) (x1 : Int32) (rec : (Int32 × Ev) → Option (Int32 × Ev)) (u : Int32 × Ev) : Option (Int32 × Ev) :=
  (if (6 : Int32) < u.1 then
  some (u.1, u.2)
  else (rdX 6 x1).bind fun v3 =>
  (wrJ ((Ev_rows u.2) v3) 7 u.1 (0 : Int64)).bind fun v4 =>
  rec ((u.1 + (1 : Int32)), (Ev_set_rows u.2 (up2 (Ev_rows u.2) v3 v4))))
set_option maxHeartbeats 4000000 in
set_option maxRecDepth 100000 in
theorem wX0_writeRows_10 {p : Program} {l : Launch} {e : Env} {s : State} {m : MethodId} {args : Array Value} {below : List Frame} {meth : Method} {c : Code} {Q : State → Prop} (S : CallFix p m c cX0_writeRows 3 s args wsX0_writeRows RX0) (E : xG) (hK : xK E s) (q : Nat → Nat) (f : Nat → Nat) (z : Fo) (x1 : Int32) (A : Nat → Prop) (H0 : Heap) : ∀ (n : Nat) (u : Int32 × Ev) (r : Int32 × Ev), lp (gX0_writeRows_10 z x1) n u = some r → ∀ (H : Heap) (locs : List Loc), va_P (xD E) vwCl (wE E q f u.2 z) H → va_D A (wE E q f u.2 z) → va_S A H0 H locs → ∀ (ls : Array Slot), lv_has ls 3 [(0, .ref (q 0)), (1, .int x1), (2, .int u.1)] → (∀ (H : Heap) (locs : List Loc), va_P (xD E) vwCl (wE E q f r.2 z) H → va_D A (wE E q f r.2 z) → va_S A H0 H locs → ∀ (ls : Array Slot), lv_has ls 3 [(0, .ref (q 0)), (1, .int x1), (2, .int r.1)] → W p l e rmX0_writeRows s m args below meth c H locs 0 0 Q (F0 m 31 ls [])) → W p l e rmX0_writeRows s m args below meth c H locs 0 0 Q (F0 m 10 ls []) := by
  obtain ⟨hx, hb, hml, hown, hts⟩ := id S
  intro n
  induction n with
  | zero =>
    intro u r hf
    exact absurd (show (none : Option _) = some r from hf) (fun q => by cases q)
  | succ n ih =>
    intro u r hf H locs hP hD hS ls hl kx
    have hf : gX0_writeRows_10 z x1 (lp (gX0_writeRows_10 z x1) n) u = some r := hf
    unfold gX0_writeRows_10 at hf
    refine lv_iload_n hx hb dX0_writeRows_10 rfl (lv_at hl 2 rfl) ?_
    refine lv_bipush (v := 6) hx hb dX0_writeRows_11 (by decide) ?_
    refine lv_icmp_gt (tgt := 31) hx hb dX0_writeRows_13 (by decide) (fun c1 => ?_) (fun c1 => ?_)
    · have hf := (if_pos c1).symm.trans hf
      obtain rfl := Option.some.inj hf
      exact kx _ _ hP hD hS ls (lv_sub hl [0, 1, 2] rfl)
    · have hf := (if_neg c1).symm.trans hf
      refine lv_aload_n hx hb dX0_writeRows_16 rfl (lv_at hl 0 rfl) ?_
      refine x_get hx hb hts inX0_writeRows_0 hown hK hP 0 rfl rfl 1 (by decide) mX0_writeRows_0 rfl dX0_writeRows_17 ?_
      refine lv_iload_n hx hb dX0_writeRows_20 rfl (lv_at hl 1 rfl) ?_
      obtain ⟨v3, h3, hf⟩ := ob hf
      refine x_rald hx hb hK hP 1 rfl (fun _ h9 => if_pos h9) h3 dX0_writeRows_21 (fun hj2 => ?_)
      refine lv_iload_n hx hb dX0_writeRows_22 rfl (lv_at hl 2 rfl) ?_
      refine lv_lconst (v := 0) hx hb dX0_writeRows_23 (by decide) ?_
      obtain ⟨v4, h4, hf⟩ := ob hf
      refine x_last hx hb hK hP hD hS (2 + v3) (wE_row hj2) h4 dX0_writeRows_24 (fun H locs hP hD hS => ?_)
      rw [wE_rowset hj2] at hP hD
      have hP : va_P (xD E) vwCl (wE E q f (Ev_set_rows u.2 (up2 (Ev_rows u.2) v3 v4)) z) H := hP
      have hD : va_D A (wE E q f (Ev_set_rows u.2 (up2 (Ev_rows u.2) v3 v4)) z) := hD
      refine lv_iinc (v := (u.1 + (1 : Int32))) (lv' := [(2, .int (u.1 + (1 : Int32))), (0, .ref (q 0)), (1, .int x1)]) hx hb dX0_writeRows_25 hl (k := 2) rfl rfl (by decide) rfl (fun ls hl => ?_)
      refine lv_goto (tgt := 10) hx hb dX0_writeRows_28 (by decide) ?_
      exact ih ((u.1 + (1 : Int32)), (Ev_set_rows u.2 (up2 (Ev_rows u.2) v3 v4))) _ hf _ _ hP hD hS ls (lv_sub hl [1, 2, 0] rfl) kx
def gX0_writeRows_2 (z : Fo) (rec : (Int32 × Ev) → Option (Int32 × Ev)) (u : Int32 × Ev) : Option (Int32 × Ev) :=
  (if (6 : Int32) ≤ u.1 then
  some (u.1, u.2)
  else (lp (gX0_writeRows_10 z u.1) 1000 ((0 : Int32), u.2)).bind fun v2 =>
  rec ((u.1 + (1 : Int32)), v2.2))
set_option maxHeartbeats 4000000 in
set_option maxRecDepth 100000 in
theorem wX0_writeRows_2 {p : Program} {l : Launch} {e : Env} {s : State} {m : MethodId} {args : Array Value} {below : List Frame} {meth : Method} {c : Code} {Q : State → Prop} (S : CallFix p m c cX0_writeRows 3 s args wsX0_writeRows RX0) (E : xG) (hK : xK E s) (q : Nat → Nat) (f : Nat → Nat) (z : Fo) (A : Nat → Prop) (H0 : Heap) : ∀ (n : Nat) (u : Int32 × Ev) (r : Int32 × Ev), lp (gX0_writeRows_2 z) n u = some r → ∀ (H : Heap) (locs : List Loc), va_P (xD E) vwCl (wE E q f u.2 z) H → va_D A (wE E q f u.2 z) → va_S A H0 H locs → ∀ (ls : Array Slot), lv_has ls 3 [(0, .ref (q 0)), (1, .int u.1)] → (∀ (H : Heap) (locs : List Loc), va_P (xD E) vwCl (wE E q f r.2 z) H → va_D A (wE E q f r.2 z) → va_S A H0 H locs → ∀ (ls : Array Slot), lv_has ls 3 [(0, .ref (q 0)), (1, .int r.1)] → W p l e rmX0_writeRows s m args below meth c H locs 0 0 Q (F0 m 37 ls [])) → W p l e rmX0_writeRows s m args below meth c H locs 0 0 Q (F0 m 2 ls []) := by
  obtain ⟨hx, hb, hml, hown, hts⟩ := id S
  intro n
  induction n with
  | zero =>
    intro u r hf
    exact absurd (show (none : Option _) = some r from hf) (fun q => by cases q)
  | succ n ih =>
    intro u r hf H locs hP hD hS ls hl kx
    have hf : gX0_writeRows_2 z (lp (gX0_writeRows_2 z) n) u = some r := hf
    unfold gX0_writeRows_2 at hf
    refine lv_iload_n hx hb dX0_writeRows_2 rfl (lv_at hl 1 rfl) ?_
    refine lv_bipush (v := 6) hx hb dX0_writeRows_3 (by decide) ?_
    refine lv_icmp_ge (tgt := 37) hx hb dX0_writeRows_5 (by decide) (fun c1 => ?_) (fun c1 => ?_)
    · have hf := (if_pos c1).symm.trans hf
      obtain rfl := Option.some.inj hf
      exact kx _ _ hP hD hS ls (lv_sub hl [0, 1] rfl)
    · have hf := (if_neg c1).symm.trans hf
      refine lv_iconst (v := 0) hx hb dX0_writeRows_8 (by decide) ?_
      refine lv_istore_n (lv' := [(2, .int (0 : Int32)), (0, .ref (q 0)), (1, .int u.1)]) hx hb dX0_writeRows_9 rfl hl (by decide) rfl (fun ls hl => ?_)
      obtain ⟨v2, h2, hf⟩ := ob hf
      refine wX0_writeRows_10 S E hK q f z u.1 _ _ 1000 _ _ h2 _ _ hP hD hS ls (lv_sub hl [1, 2, 0] rfl) (fun H locs hP hD hS ls hl => ?_)
      refine lv_iinc (v := (u.1 + (1 : Int32))) (lv' := [(1, .int (u.1 + (1 : Int32))), (0, .ref (q 0)), (2, .int v2.1)]) hx hb dX0_writeRows_31 hl (k := 1) rfl rfl (by decide) rfl (fun ls hl => ?_)
      refine lv_goto (tgt := 2) hx hb dX0_writeRows_34 (by decide) ?_
      exact ih ((u.1 + (1 : Int32)), v2.2) _ hf _ _ hP hD hS ls (lv_sub hl [1, 0] rfl) kx
def gX0_writeRows_52 (z : Fo) (x1 : Int32) (rec : (Int32 × Ev) → Option (Int32 × Ev)) (u : Int32 × Ev) : Option (Int32 × Ev) :=
  (if (Fo_many z) ≤ u.1 then
  some (u.1, u.2)
  else (fX0_addPair u.2 z x1 u.1).bind fun v2 =>
  rec ((u.1 + (1 : Int32)), v2))
set_option maxHeartbeats 4000000 in
set_option maxRecDepth 100000 in
theorem wX0_writeRows_52 {p : Program} {l : Launch} {e : Env} {s : State} {m : MethodId} {args : Array Value} {below : List Frame} {meth : Method} {c : Code} {Q : State → Prop} (S : CallFix p m c cX0_writeRows 3 s args wsX0_writeRows RX0) (E : xG) (hK : xK E s) (q : Nat → Nat) (f : Nat → Nat) (z : Fo) (x1 : Int32) (A : Nat → Prop) (H0 : Heap) : ∀ (n : Nat) (u : Int32 × Ev) (r : Int32 × Ev), lp (gX0_writeRows_52 z x1) n u = some r → ∀ (H : Heap) (locs : List Loc), va_P (xD E) vwCl (wE E q f u.2 z) H → va_D A (wE E q f u.2 z) → va_S A H0 H locs → ∀ (ls : Array Slot), lv_has ls 3 [(0, .ref (q 0)), (1, .int x1), (2, .int u.1)] → (∀ (H : Heap) (locs : List Loc), va_P (xD E) vwCl (wE E q f r.2 z) H → va_D A (wE E q f r.2 z) → va_S A H0 H locs → ∀ (ls : Array Slot), lv_has ls 3 [(0, .ref (q 0)), (1, .int x1), (2, .int r.1)] → W p l e rmX0_writeRows s m args below meth c H locs 0 0 Q (F0 m 75 ls [])) → W p l e rmX0_writeRows s m args below meth c H locs 0 0 Q (F0 m 52 ls []) := by
  obtain ⟨hx, hb, hml, hown, hts⟩ := id S
  intro n
  induction n with
  | zero =>
    intro u r hf
    exact absurd (show (none : Option _) = some r from hf) (fun q => by cases q)
  | succ n ih =>
    intro u r hf H locs hP hD hS ls hl kx
    have hf : gX0_writeRows_52 z x1 (lp (gX0_writeRows_52 z x1) n) u = some r := hf
    unfold gX0_writeRows_52 at hf
    refine lv_iload_n hx hb dX0_writeRows_52 rfl (lv_at hl 2 rfl) ?_
    refine lv_aload_n hx hb dX0_writeRows_53 rfl (lv_at hl 0 rfl) ?_
    refine x_get hx hb hts inX0_writeRows_0 hown hK hP 0 rfl rfl 0 (by decide) mX0_writeRows_1 rfl dX0_writeRows_54 ?_
    refine x_get hx hb hts inX0_writeRows_1 hown hK hP 12 rfl rfl 0 (by decide) mX0_writeRows_2 rfl dX0_writeRows_57 ?_
    refine lv_icmp_ge (tgt := 75) hx hb dX0_writeRows_60 (by decide) (fun c1 => ?_) (fun c1 => ?_)
    · have hf := (if_pos c1).symm.trans hf
      obtain rfl := Option.some.inj hf
      exact kx _ _ hP hD hS ls (lv_sub hl [0, 1, 2] rfl)
    · have hf := (if_neg c1).symm.trans hf
      refine lv_aload_n hx hb dX0_writeRows_63 rfl (lv_at hl 0 rfl) ?_
      refine lv_iload_n hx hb dX0_writeRows_64 rfl (lv_at hl 1 rfl) ?_
      refine lv_iload_n hx hb dX0_writeRows_65 rfl (lv_at hl 2 rfl) ?_
      obtain ⟨v2, h2, hf⟩ := ob hf
      refine x_mR (ws' := wE E q f v2 z) (As := [.int x1, .int u.1]) (rest := []) S hK (kX0_addPair l E q f u.2 z x1 u.1 h2) (cwV 2 hts gX0_writeRows_X0_addPair rfl rfl rfl (by decide +kernel) ⟨Nat.le_of_ble_eq_true rfl, Nat.le_of_ble_eq_true rfl⟩) hP hD hS 0 16 rfl rfl 0 rfl rfl rfl rfl hl.1 (Nat.le_of_ble_eq_true rfl) dX0_writeRows_66 rfl ⟨Nat.zero_le _, Nat.zero_le _⟩ rfl (fun H locs hP hD hS => ?_)
      refine lv_iinc (v := (u.1 + (1 : Int32))) (lv' := [(2, .int (u.1 + (1 : Int32))), (0, .ref (q 0)), (1, .int x1)]) hx hb dX0_writeRows_69 hl (k := 2) rfl rfl (by decide) rfl (fun ls hl => ?_)
      refine lv_goto (tgt := 52) hx hb dX0_writeRows_72 (by decide) ?_
      exact ih ((u.1 + (1 : Int32)), v2) _ hf _ _ hP hD hS ls (lv_sub hl [1, 2, 0] rfl) kx
def gX0_writeRows_39 (z : Fo) (rec : (Int32 × Ev) → Option (Int32 × Ev)) (u : Int32 × Ev) : Option (Int32 × Ev) :=
  (if (Fo_many z) ≤ u.1 then
  some (u.1, u.2)
  else (lp (gX0_writeRows_52 z u.1) 1000 ((0 : Int32), u.2)).bind fun v2 =>
  rec ((u.1 + (1 : Int32)), v2.2))
set_option maxHeartbeats 4000000 in
set_option maxRecDepth 100000 in
theorem wX0_writeRows_39 {p : Program} {l : Launch} {e : Env} {s : State} {m : MethodId} {args : Array Value} {below : List Frame} {meth : Method} {c : Code} {Q : State → Prop} (S : CallFix p m c cX0_writeRows 3 s args wsX0_writeRows RX0) (E : xG) (hK : xK E s) (q : Nat → Nat) (f : Nat → Nat) (z : Fo) (A : Nat → Prop) (H0 : Heap) : ∀ (n : Nat) (u : Int32 × Ev) (r : Int32 × Ev), lp (gX0_writeRows_39 z) n u = some r → ∀ (H : Heap) (locs : List Loc), va_P (xD E) vwCl (wE E q f u.2 z) H → va_D A (wE E q f u.2 z) → va_S A H0 H locs → ∀ (ls : Array Slot), lv_has ls 3 [(0, .ref (q 0)), (1, .int u.1)] → (∀ (H : Heap) (locs : List Loc), va_P (xD E) vwCl (wE E q f r.2 z) H → va_D A (wE E q f r.2 z) → va_S A H0 H locs → ∀ (ls : Array Slot), lv_has ls 3 [(0, .ref (q 0)), (1, .int r.1)] → W p l e rmX0_writeRows s m args below meth c H locs 0 0 Q (F0 m 81 ls [])) → W p l e rmX0_writeRows s m args below meth c H locs 0 0 Q (F0 m 39 ls []) := by
  obtain ⟨hx, hb, hml, hown, hts⟩ := id S
  intro n
  induction n with
  | zero =>
    intro u r hf
    exact absurd (show (none : Option _) = some r from hf) (fun q => by cases q)
  | succ n ih =>
    intro u r hf H locs hP hD hS ls hl kx
    have hf : gX0_writeRows_39 z (lp (gX0_writeRows_39 z) n) u = some r := hf
    unfold gX0_writeRows_39 at hf
    refine lv_iload_n hx hb dX0_writeRows_39 rfl (lv_at hl 1 rfl) ?_
    refine lv_aload_n hx hb dX0_writeRows_40 rfl (lv_at hl 0 rfl) ?_
    refine x_get hx hb hts inX0_writeRows_0 hown hK hP 0 rfl rfl 0 (by decide) mX0_writeRows_1 rfl dX0_writeRows_41 ?_
    refine x_get hx hb hts inX0_writeRows_1 hown hK hP 12 rfl rfl 0 (by decide) mX0_writeRows_2 rfl dX0_writeRows_44 ?_
    refine lv_icmp_ge (tgt := 81) hx hb dX0_writeRows_47 (by decide) (fun c1 => ?_) (fun c1 => ?_)
    · have hf := (if_pos c1).symm.trans hf
      obtain rfl := Option.some.inj hf
      exact kx _ _ hP hD hS ls (lv_sub hl [0, 1] rfl)
    · have hf := (if_neg c1).symm.trans hf
      refine lv_iconst (v := 0) hx hb dX0_writeRows_50 (by decide) ?_
      refine lv_istore_n (lv' := [(2, .int (0 : Int32)), (0, .ref (q 0)), (1, .int u.1)]) hx hb dX0_writeRows_51 rfl hl (by decide) rfl (fun ls hl => ?_)
      obtain ⟨v2, h2, hf⟩ := ob hf
      refine wX0_writeRows_52 S E hK q f z u.1 _ _ 1000 _ _ h2 _ _ hP hD hS ls (lv_sub hl [1, 2, 0] rfl) (fun H locs hP hD hS ls hl => ?_)
      refine lv_iinc (v := (u.1 + (1 : Int32))) (lv' := [(1, .int (u.1 + (1 : Int32))), (0, .ref (q 0)), (2, .int v2.1)]) hx hb dX0_writeRows_75 hl (k := 1) rfl rfl (by decide) rfl (fun ls hl => ?_)
      refine lv_goto (tgt := 39) hx hb dX0_writeRows_78 (by decide) ?_
      exact ih ((u.1 + (1 : Int32)), v2.2) _ hf _ _ hP hD hS ls (lv_sub hl [1, 0] rfl) kx
def fX0_writeRows (ev : Ev) (z : Fo) : Option Ev :=
  (lp (gX0_writeRows_2 z) 1000 ((0 : Int32), ev)).bind fun v1 =>
  (lp (gX0_writeRows_39 z) 1000 ((0 : Int32), v1.2)).bind fun v2 =>
  some v2.2
set_option maxHeartbeats 4000000 in
set_option maxRecDepth 100000 in
theorem kX0_writeRows (l : Launch) (E : xG) (q : Nat → Nat) (f : Nat → Nat) (ev : Ev) (z : Fo) {r : Ev} (hf : fX0_writeRows ev z = some r) : xMut l yX0_writeRows wsX0_writeRows rmX0_writeRows E [.ref (q 0)] (wE E q f ev z) none (wE E q f r z) := by
  refine Met.ofW (cc := cX0_writeRows) (maxL := 3) (ret := none) (by decide) rfl ?_
  intro p e s m args below meth c s₁ B hml hv
  obtain ⟨rfl, hP, hK, hD0⟩ := hv
  have hx := B.exec
  have hb := B.bytes
  have hr := B.returns
  have hts := atoms_spec (ws := wsX0_writeRows) B.pre
  have hown : s.vm.findClass RX0 = some m.cls := findClass_of_methodNamed B.named
  have hlk := B.notSynchronized
  have S : CallFix p m c cX0_writeRows 3 s _ wsX0_writeRows RX0 := ⟨hx, hb, hml, hown, hts⟩
  have hl := lv_entry ([.ref (q 0)]) (n := 3) (Nat.le_of_ble_eq_true rfl)
  rw [lg_entry_eq]
  generalize (lg_sl ([.ref (q 0)]) ++ List.replicate (3 - (lg_sl ([.ref (q 0)])).length) Slot.unset).toArray = ls at hl ⊢
  have hl : lv_has ls 3 [(0, .ref (q 0))] := hl
  have hD := xA.self hD0
  have hS : va_S (xA (wE E q f ev z)) s.heap s.heap [] := va_S.rf
  show W p l e rmX0_writeRows s m _ below meth c s.heap [] 0 0 _ _
  generalize hA : xA (wE E q f ev z) = A at hD hS ⊢
  unfold fX0_writeRows at hf
  refine lv_iconst (v := 0) hx hb dX0_writeRows_0 (by decide) ?_
  refine lv_istore_n (lv' := [(1, .int (0 : Int32)), (0, .ref (q 0))]) hx hb dX0_writeRows_1 rfl hl (by decide) rfl (fun ls hl => ?_)
  obtain ⟨v1, h1, hf⟩ := ob hf
  refine wX0_writeRows_2 S E hK q f z _ _ 1000 _ _ h1 _ _ hP hD hS ls (lv_sub hl [1, 0] rfl) (fun H locs hP hD hS ls hl => ?_)
  refine lv_iconst (v := 0) hx hb dX0_writeRows_37 (by decide) ?_
  refine lv_istore_n (lv' := [(1, .int (0 : Int32)), (0, .ref (q 0))]) hx hb dX0_writeRows_38 rfl hl (by decide) rfl (fun ls hl => ?_)
  obtain ⟨v2, h2, hf⟩ := ob hf
  refine wX0_writeRows_39 S E hK q f z _ _ 1000 _ _ h2 _ _ hP hD hS ls (lv_sub hl [1, 0] rfl) (fun H locs hP hD hS ls hl => ?_)
  obtain rfl := Option.some.inj hf
  subst hA
  exact x_vretM hx hb hr hlk hP hS dX0_writeRows_81
abbrev rmX0_clearColumn : Room := { frames := 1, cells := 0, slots := 0, locals := 23 }
theorem mX0_clearColumn_0 : Cond.fieldLink RX0 17 "EvenWhite$Even" "rows" "[[J" ∈ wsX0_clearColumn := by decide +kernel
theorem mX0_clearColumn_1 : Cond.fieldLink RX0 28 "EvenWhite$Even" "below" "J" ∈ wsX0_clearColumn := by decide +kernel
theorem mX0_clearColumn_2 : Cond.methodLink RX0 82 Lib.MathLoose.max_long.x ∈ wsX0_clearColumn := by decide +kernel
theorem mX0_clearColumn_3 : Cond.static Lib.MathLoose.max_long.x ∈ wsX0_clearColumn := by decide +kernel
theorem mX0_clearColumn_4 : Cond.initialized "java/lang/Math" ∈ wsX0_clearColumn := by decide +kernel
theorem mX0_clearColumn_5 : Cond.code Lib.MathLoose.max_long.x Lib.MathLoose.max_long.code 4 (some .long) ∈ wsX0_clearColumn := by decide +kernel
theorem inX0_clearColumn_0 : ∀ w ∈ u_ws RX0 TX0 8, w ∈ wsX0_clearColumn := by decide +kernel
def gX0_clearColumn_51 (z : Fo) (x1 : Int32) (x2 : Int64) (x4 : Int64) (x6 : Int32) (x7 : Int64) (rec : (Int32 × Ev) → Option (Int32 × Ev)) (u : Int32 × Ev) : Option (Int32 × Ev) :=
  (if (6 : Int32) < u.1 then
  some (u.1, u.2)
  else (rdX 6 x6).bind fun v3 =>
  (rdX 6 x6).bind fun v5 =>
  (rdJ ((Ev_rows u.2) v5) 7 u.1).bind fun v6 =>
  (rdX 6 x1).bind fun v8 =>
  (rdJ ((Ev_rows u.2) v8) 7 u.1).bind fun v9 =>
  (dvJ ((x2 * v6) - (x7 * v9)) x4).bind fun v10 =>
  (wrJ ((Ev_rows u.2) v3) 7 u.1 v10).bind fun v11 =>
  rec ((u.1 + (1 : Int32)), (Ev_set_rows u.2 (up2 (Ev_rows u.2) v3 v11))))
set_option maxHeartbeats 4000000 in
set_option maxRecDepth 100000 in
theorem wX0_clearColumn_51 {p : Program} {l : Launch} {e : Env} {s : State} {m : MethodId} {args : Array Value} {below : List Frame} {meth : Method} {c : Code} {Q : State → Prop} (S : CallFix p m c cX0_clearColumn 10 s args wsX0_clearColumn RX0) (E : xG) (hK : xK E s) (q : Nat → Nat) (f : Nat → Nat) (z : Fo) (x1 : Int32) (x2 : Int64) (x4 : Int64) (x6 : Int32) (x7 : Int64) (A : Nat → Prop) (H0 : Heap) : ∀ (n : Nat) (u : Int32 × Ev) (r : Int32 × Ev), lp (gX0_clearColumn_51 z x1 x2 x4 x6 x7) n u = some r → ∀ (H : Heap) (locs : List Loc), va_P (xD E) vwCl (wE E q f u.2 z) H → va_D A (wE E q f u.2 z) → va_S A H0 H locs → ∀ (ls : Array Slot), lv_has ls 10 [(0, .ref (q 0)), (1, .int x1), (2, .long x2), (4, .long x4), (6, .int x6), (7, .long x7), (9, .int u.1)] → (∀ (H : Heap) (locs : List Loc), va_P (xD E) vwCl (wE E q f r.2 z) H → va_D A (wE E q f r.2 z) → va_S A H0 H locs → ∀ (ls : Array Slot), lv_has ls 10 [(0, .ref (q 0)), (1, .int x1), (2, .long x2), (4, .long x4), (6, .int x6), (7, .long x7), (9, .int r.1)] → W p l e rmX0_clearColumn s m args below meth c H locs 0 0 Q (F0 m 102 ls [])) → W p l e rmX0_clearColumn s m args below meth c H locs 0 0 Q (F0 m 51 ls []) := by
  obtain ⟨hx, hb, hml, hown, hts⟩ := id S
  intro n
  induction n with
  | zero =>
    intro u r hf
    exact absurd (show (none : Option _) = some r from hf) (fun q => by cases q)
  | succ n ih =>
    intro u r hf H locs hP hD hS ls hl kx
    have hf : gX0_clearColumn_51 z x1 x2 x4 x6 x7 (lp (gX0_clearColumn_51 z x1 x2 x4 x6 x7) n) u = some r := hf
    unfold gX0_clearColumn_51 at hf
    refine lv_iload hx hb dX0_clearColumn_51 (lv_at hl 6 rfl) ?_
    refine lv_bipush (v := 6) hx hb dX0_clearColumn_53 (by decide) ?_
    refine lv_icmp_gt (tgt := 102) hx hb dX0_clearColumn_55 (by decide) (fun c1 => ?_) (fun c1 => ?_)
    · have hf := (if_pos c1).symm.trans hf
      obtain rfl := Option.some.inj hf
      exact kx _ _ hP hD hS ls (lv_sub hl [0, 1, 2, 3, 4, 5, 6] rfl)
    · have hf := (if_neg c1).symm.trans hf
      refine lv_aload_n hx hb dX0_clearColumn_58 rfl (lv_at hl 0 rfl) ?_
      refine x_get hx hb hts inX0_clearColumn_0 hown hK hP 0 rfl rfl 1 (by decide) mX0_clearColumn_0 rfl dX0_clearColumn_59 ?_
      refine lv_iload hx hb dX0_clearColumn_62 (lv_at hl 4 rfl) ?_
      obtain ⟨v3, h3, hf⟩ := ob hf
      refine x_rald hx hb hK hP 1 rfl (fun _ h9 => if_pos h9) h3 dX0_clearColumn_64 (fun hj2 => ?_)
      refine lv_iload hx hb dX0_clearColumn_65 (lv_at hl 6 rfl) ?_
      refine lv_lload_n hx hb dX0_clearColumn_67 rfl (lv_at hl 2 rfl) ?_
      refine lv_aload_n hx hb dX0_clearColumn_68 rfl (lv_at hl 0 rfl) ?_
      refine x_get hx hb hts inX0_clearColumn_0 hown hK hP 0 rfl rfl 1 (by decide) mX0_clearColumn_0 rfl dX0_clearColumn_69 ?_
      refine lv_iload hx hb dX0_clearColumn_72 (lv_at hl 4 rfl) ?_
      obtain ⟨v5, h5, hf⟩ := ob hf
      refine x_rald hx hb hK hP 1 rfl (fun _ h9 => if_pos h9) h5 dX0_clearColumn_74 (fun hj4 => ?_)
      refine lv_iload hx hb dX0_clearColumn_75 (lv_at hl 6 rfl) ?_
      obtain ⟨v6, h6, hf⟩ := ob hf
      refine x_lald hx hb hK hP (2 + v5) (wE_row hj4) h6 dX0_clearColumn_77 ?_
      refine lv_lmul hx hb dX0_clearColumn_78 ?_
      refine lv_lload hx hb dX0_clearColumn_79 (lv_at hl 5 rfl) ?_
      refine lv_aload_n hx hb dX0_clearColumn_81 rfl (lv_at hl 0 rfl) ?_
      refine x_get hx hb hts inX0_clearColumn_0 hown hK hP 0 rfl rfl 1 (by decide) mX0_clearColumn_0 rfl dX0_clearColumn_82 ?_
      refine lv_iload_n hx hb dX0_clearColumn_85 rfl (lv_at hl 1 rfl) ?_
      obtain ⟨v8, h8, hf⟩ := ob hf
      refine x_rald hx hb hK hP 1 rfl (fun _ h9 => if_pos h9) h8 dX0_clearColumn_86 (fun hj7 => ?_)
      refine lv_iload hx hb dX0_clearColumn_87 (lv_at hl 6 rfl) ?_
      obtain ⟨v9, h9, hf⟩ := ob hf
      refine x_lald hx hb hK hP (2 + v8) (wE_row hj7) h9 dX0_clearColumn_89 ?_
      refine lv_lmul hx hb dX0_clearColumn_90 ?_
      refine lv_lsub hx hb dX0_clearColumn_91 ?_
      refine lv_lload hx hb dX0_clearColumn_92 (lv_at hl 3 rfl) ?_
      obtain ⟨v10, h10, hf⟩ := ob hf
      refine x_ldiv hx hb h10 dX0_clearColumn_94 ?_
      obtain ⟨v11, h11, hf⟩ := ob hf
      refine x_last hx hb hK hP hD hS (2 + v3) (wE_row hj2) h11 dX0_clearColumn_95 (fun H locs hP hD hS => ?_)
      rw [wE_rowset hj2] at hP hD
      have hP : va_P (xD E) vwCl (wE E q f (Ev_set_rows u.2 (up2 (Ev_rows u.2) v3 v11)) z) H := hP
      have hD : va_D A (wE E q f (Ev_set_rows u.2 (up2 (Ev_rows u.2) v3 v11)) z) := hD
      refine lv_iinc (v := (u.1 + (1 : Int32))) (lv' := [(9, .int (u.1 + (1 : Int32))), (0, .ref (q 0)), (1, .int x1), (2, .long x2), (4, .long x4), (6, .int x6), (7, .long x7)]) hx hb dX0_clearColumn_96 hl (k := 6) rfl rfl (by decide) rfl (fun ls hl => ?_)
      refine lv_goto (tgt := 51) hx hb dX0_clearColumn_99 (by decide) ?_
      exact ih ((u.1 + (1 : Int32)), (Ev_set_rows u.2 (up2 (Ev_rows u.2) v3 v11))) _ hf _ _ hP hD hS ls (lv_sub hl [1, 2, 3, 4, 5, 6, 0] rfl) kx
def gX0_clearColumn_22 (z : Fo) (x1 : Int32) (x2 : Int64) (x4 : Int64) (rec : (Int32 × Ev) → Option (Int32 × Ev)) (u : Int32 × Ev) : Option (Int32 × Ev) :=
  (fX0_spaces u.2 z).bind fun v1 =>
  (if v1 ≤ u.1 then
  some (u.1, u.2)
  else ((if u.1 = x1 then
  some u.2
  else (rdX 6 u.1).bind fun v6 =>
  (rdJ ((Ev_rows u.2) v6) 7 x1).bind fun v7 =>
  (lp (gX0_clearColumn_51 z x1 x2 x4 u.1 v7) 1000 ((0 : Int32), u.2)).bind fun v8 =>
  some v8.2)).bind fun v3 =>
  rec ((u.1 + (1 : Int32)), v3))
set_option maxHeartbeats 4000000 in
set_option maxRecDepth 100000 in
theorem wX0_clearColumn_22 {p : Program} {l : Launch} {e : Env} {s : State} {m : MethodId} {args : Array Value} {below : List Frame} {meth : Method} {c : Code} {Q : State → Prop} (S : CallFix p m c cX0_clearColumn 10 s args wsX0_clearColumn RX0) (E : xG) (hK : xK E s) (q : Nat → Nat) (f : Nat → Nat) (z : Fo) (x1 : Int32) (x2 : Int64) (x4 : Int64) (A : Nat → Prop) (H0 : Heap) : ∀ (n : Nat) (u : Int32 × Ev) (r : Int32 × Ev), lp (gX0_clearColumn_22 z x1 x2 x4) n u = some r → ∀ (H : Heap) (locs : List Loc), va_P (xD E) vwCl (wE E q f u.2 z) H → va_D A (wE E q f u.2 z) → va_S A H0 H locs → ∀ (ls : Array Slot), lv_has ls 10 [(0, .ref (q 0)), (1, .int x1), (2, .long x2), (4, .long x4), (6, .int u.1)] → (∀ (H : Heap) (locs : List Loc), va_P (xD E) vwCl (wE E q f r.2 z) H → va_D A (wE E q f r.2 z) → va_S A H0 H locs → ∀ (ls : Array Slot), lv_has ls 10 [(0, .ref (q 0)), (1, .int x1), (2, .long x2), (4, .long x4), (6, .int r.1)] → W p l e rmX0_clearColumn s m args below meth c H locs 0 0 Q (F0 m 108 ls [])) → W p l e rmX0_clearColumn s m args below meth c H locs 0 0 Q (F0 m 22 ls []) := by
  obtain ⟨hx, hb, hml, hown, hts⟩ := id S
  intro n
  induction n with
  | zero =>
    intro u r hf
    exact absurd (show (none : Option _) = some r from hf) (fun q => by cases q)
  | succ n ih =>
    intro u r hf H locs hP hD hS ls hl kx
    have hf : gX0_clearColumn_22 z x1 x2 x4 (lp (gX0_clearColumn_22 z x1 x2 x4) n) u = some r := hf
    unfold gX0_clearColumn_22 at hf
    refine lv_iload hx hb dX0_clearColumn_22 (lv_at hl 4 rfl) ?_
    refine lv_aload_n hx hb dX0_clearColumn_24 rfl (lv_at hl 0 rfl) ?_
    obtain ⟨v1, h1, hf⟩ := ob hf
    refine x_pV (As := []) (rest := [.int u.1]) S hK (kX0_spaces l E q f u.2 z h1) (cwV 0 hts gX0_clearColumn_X0_spaces rfl rfl rfl (by decide +kernel) ⟨Nat.le_of_ble_eq_true rfl, Nat.le_of_ble_eq_true rfl⟩) hP 0 rfl rfl rfl rfl hl.1 (Nat.le_of_ble_eq_true rfl) dX0_clearColumn_25 rfl ⟨Nat.zero_le _, Nat.zero_le _⟩ ?_
    refine lv_icmp_ge (tgt := 108) hx hb dX0_clearColumn_28 (by decide) (fun c2 => ?_) (fun c2 => ?_)
    · have hf := (if_pos c2).symm.trans hf
      obtain rfl := Option.some.inj hf
      exact kx _ _ hP hD hS ls (lv_sub hl [0, 1, 2, 3, 4] rfl)
    · have hf := (if_neg c2).symm.trans hf
      refine lv_iload hx hb dX0_clearColumn_31 (lv_at hl 4 rfl) ?_
      refine lv_iload_n hx hb dX0_clearColumn_33 rfl (lv_at hl 1 rfl) ?_
      obtain ⟨v3, h3, hf⟩ := ob hf
      refine x_cutH (fun H locs ls => va_P (xD E) vwCl (wE E q f v3 z) H ∧ va_D A (wE E q f v3 z) ∧ va_S A H0 H locs ∧ lv_has ls 10 [(0, .ref (q 0)), (1, .int x1), (2, .long x2), (4, .long x4), (6, .int u.1)]) (pc := 102) (st := []) (fun H locs ls hq => ?_) (fun hj => ?_)
      · obtain ⟨hP, hD, hS, hl⟩ := hq
        refine lv_iinc (v := (u.1 + (1 : Int32))) (lv' := [(6, .int (u.1 + (1 : Int32))), (0, .ref (q 0)), (1, .int x1), (2, .long x2), (4, .long x4)]) hx hb dX0_clearColumn_102 hl (k := 4) rfl rfl (by decide) rfl (fun ls hl => ?_)
        refine lv_goto (tgt := 22) hx hb dX0_clearColumn_105 (by decide) ?_
        exact ih ((u.1 + (1 : Int32)), v3) _ hf _ _ hP hD hS ls (lv_sub hl [1, 2, 3, 4, 0] rfl) kx
      · have hf := h3
        refine lv_icmp_eq (tgt := 102) hx hb dX0_clearColumn_34 (by decide) (fun c4 => ?_) (fun c4 => ?_)
        · have hf := (if_pos c4).symm.trans hf
          obtain rfl := Option.some.inj hf
          exact hj _ _ ls ⟨hP, hD, hS, lv_sub hl [0, 1, 2, 3, 4] rfl⟩
        · have hf := (if_neg c4).symm.trans hf
          refine lv_aload_n hx hb dX0_clearColumn_37 rfl (lv_at hl 0 rfl) ?_
          refine x_get hx hb hts inX0_clearColumn_0 hown hK hP 0 rfl rfl 1 (by decide) mX0_clearColumn_0 rfl dX0_clearColumn_38 ?_
          refine lv_iload hx hb dX0_clearColumn_41 (lv_at hl 4 rfl) ?_
          obtain ⟨v6, h6, hf⟩ := ob hf
          refine x_rald hx hb hK hP 1 rfl (fun _ h9 => if_pos h9) h6 dX0_clearColumn_43 (fun hj5 => ?_)
          refine lv_iload_n hx hb dX0_clearColumn_44 rfl (lv_at hl 1 rfl) ?_
          obtain ⟨v7, h7, hf⟩ := ob hf
          refine x_lald hx hb hK hP (2 + v6) (wE_row hj5) h7 dX0_clearColumn_45 ?_
          refine lv_lstore (lv' := [(7, .long v7), (0, .ref (q 0)), (1, .int x1), (2, .long x2), (4, .long x4), (6, .int u.1)]) hx hb dX0_clearColumn_46 hl (by decide) rfl (fun ls hl => ?_)
          refine lv_iconst (v := 0) hx hb dX0_clearColumn_48 (by decide) ?_
          refine lv_istore (lv' := [(9, .int (0 : Int32)), (7, .long v7), (0, .ref (q 0)), (1, .int x1), (2, .long x2), (4, .long x4), (6, .int u.1)]) hx hb dX0_clearColumn_49 hl (by decide) rfl (fun ls hl => ?_)
          obtain ⟨v8, h8, hf⟩ := ob hf
          refine wX0_clearColumn_51 S E hK q f z x1 x2 x4 u.1 v7 _ _ 1000 _ _ h8 _ _ hP hD hS ls (lv_sub hl [2, 3, 4, 5, 6, 1, 0] rfl) (fun H locs hP hD hS ls hl => ?_)
          obtain rfl := Option.some.inj hf
          exact hj _ _ ls ⟨hP, hD, hS, lv_sub hl [0, 1, 2, 3, 4] rfl⟩
def fX0_clearColumn (ev : Ev) (z : Fo) (x1 : Int32) : Option Ev :=
  (rdX 6 x1).bind fun v2 =>
  (rdJ ((Ev_rows ev) v2) 7 x1).bind fun v3 =>
  (lp (gX0_clearColumn_22 z x1 v3 (if (Ev_below ev) < (1 : Int64) then (1 : Int64) else (Ev_below ev))) 1000 ((0 : Int32), ev)).bind fun v4 =>
  some v4.2
set_option maxHeartbeats 4000000 in
set_option maxRecDepth 100000 in
theorem kX0_clearColumn (l : Launch) (E : xG) (q : Nat → Nat) (f : Nat → Nat) (ev : Ev) (z : Fo) (x1 : Int32) {r : Ev} (hf : fX0_clearColumn ev z x1 = some r) : xMut l yX0_clearColumn wsX0_clearColumn rmX0_clearColumn E [.ref (q 0), .int x1] (wE E q f ev z) none (wE E q f r z) := by
  refine Met.ofW (cc := cX0_clearColumn) (maxL := 10) (ret := none) (by decide) rfl ?_
  intro p e s m args below meth c s₁ B hml hv
  obtain ⟨rfl, hP, hK, hD0⟩ := hv
  have hx := B.exec
  have hb := B.bytes
  have hr := B.returns
  have hts := atoms_spec (ws := wsX0_clearColumn) B.pre
  have hown : s.vm.findClass RX0 = some m.cls := findClass_of_methodNamed B.named
  have hlk := B.notSynchronized
  have S : CallFix p m c cX0_clearColumn 10 s _ wsX0_clearColumn RX0 := ⟨hx, hb, hml, hown, hts⟩
  have hl := lv_entry ([.ref (q 0), .int x1]) (n := 10) (Nat.le_of_ble_eq_true rfl)
  rw [lg_entry_eq]
  generalize (lg_sl ([.ref (q 0), .int x1]) ++ List.replicate (10 - (lg_sl ([.ref (q 0), .int x1])).length) Slot.unset).toArray = ls at hl ⊢
  have hl : lv_has ls 10 [(0, .ref (q 0)), (1, .int x1)] := hl
  have hD := xA.self hD0
  have hS : va_S (xA (wE E q f ev z)) s.heap s.heap [] := va_S.rf
  show W p l e rmX0_clearColumn s m _ below meth c s.heap [] 0 0 _ _
  generalize hA : xA (wE E q f ev z) = A at hD hS ⊢
  unfold fX0_clearColumn at hf
  refine lv_aload_n hx hb dX0_clearColumn_0 rfl (lv_at hl 0 rfl) ?_
  refine x_get hx hb hts inX0_clearColumn_0 hown hK hP 0 rfl rfl 1 (by decide) mX0_clearColumn_0 rfl dX0_clearColumn_1 ?_
  refine lv_iload_n hx hb dX0_clearColumn_4 rfl (lv_at hl 1 rfl) ?_
  obtain ⟨v2, h2, hf⟩ := ob hf
  refine x_rald hx hb hK hP 1 rfl (fun _ h9 => if_pos h9) h2 dX0_clearColumn_5 (fun hj1 => ?_)
  refine lv_iload_n hx hb dX0_clearColumn_6 rfl (lv_at hl 1 rfl) ?_
  obtain ⟨v3, h3, hf⟩ := ob hf
  refine x_lald hx hb hK hP (2 + v2) (wE_row hj1) h3 dX0_clearColumn_7 ?_
  refine lv_lstore_n (lv' := [(2, .long v3), (0, .ref (q 0)), (1, .int x1)]) hx hb dX0_clearColumn_8 rfl hl (by decide) rfl (fun ls hl => ?_)
  refine lv_lconst (v := 1) hx hb dX0_clearColumn_9 (by decide) ?_
  refine lv_aload_n hx hb dX0_clearColumn_10 rfl (lv_at hl 1 rfl) ?_
  refine x_get hx hb hts inX0_clearColumn_0 hown hK hP 0 rfl rfl 4 (by decide) mX0_clearColumn_1 rfl dX0_clearColumn_11 ?_
  refine va_mmax_long hx hb (by rw [hml]; exact hl.1.symm) hown (hts _ mX0_clearColumn_2) (hts _ mX0_clearColumn_3) (hts _ mX0_clearColumn_4) (hts _ mX0_clearColumn_5) (Nat.le_of_ble_eq_true rfl) (Nat.le_of_ble_eq_true rfl) (Nat.zero_le _) (Nat.zero_le _) dX0_clearColumn_14 ?_
  refine lv_lstore (lv' := [(4, .long (if (Ev_below ev) < (1 : Int64) then (1 : Int64) else (Ev_below ev))), (2, .long v3), (0, .ref (q 0)), (1, .int x1)]) hx hb dX0_clearColumn_17 hl (by decide) rfl (fun ls hl => ?_)
  refine lv_iconst (v := 0) hx hb dX0_clearColumn_19 (by decide) ?_
  refine lv_istore (lv' := [(6, .int (0 : Int32)), (4, .long (if (Ev_below ev) < (1 : Int64) then (1 : Int64) else (Ev_below ev))), (2, .long v3), (0, .ref (q 0)), (1, .int x1)]) hx hb dX0_clearColumn_20 hl (by decide) rfl (fun ls hl => ?_)
  obtain ⟨v4, h4, hf⟩ := ob hf
  refine wX0_clearColumn_22 S E hK q f z x1 v3 (if (Ev_below ev) < (1 : Int64) then (1 : Int64) else (Ev_below ev)) _ _ 1000 _ _ h4 _ _ hP hD hS ls (lv_sub hl [3, 4, 2, 1, 0] rfl) (fun H locs hP hD hS ls hl => ?_)
  obtain rfl := Option.some.inj hf
  subst hA
  exact x_vretM hx hb hr hlk hP hS dX0_clearColumn_108
abbrev rmX0_solveRows : Room := { frames := 2, cells := 0, slots := 0, locals := 52 }
theorem mX0_solveRows_0 : Cond.fieldLink RX0 28 "EvenWhite$Even" "below" "J" ∈ wsX0_solveRows := by decide +kernel
theorem mX0_solveRows_1 : Cond.fieldLink RX0 20 "EvenWhite$Even" "open" "[Z" ∈ wsX0_solveRows := by decide +kernel
theorem mX0_solveRows_2 : Cond.fieldLink RX0 17 "EvenWhite$Even" "rows" "[[J" ∈ wsX0_solveRows := by decide +kernel
theorem mX0_solveRows_3 : Cond.fieldLink RX0 24 "EvenWhite$Even" "eightfold" "[J" ∈ wsX0_solveRows := by decide +kernel
theorem inX0_solveRows_0 : ∀ w ∈ u_ws RX0 TX0 8, w ∈ wsX0_solveRows := by decide +kernel
def gX0_solveRows_7 (z : Fo) (rec : (Int32 × Ev) → Option (Int32 × Ev)) (u : Int32 × Ev) : Option (Int32 × Ev) :=
  (fX0_spaces u.2 z).bind fun v1 =>
  (if v1 ≤ u.1 then
  some (u.1, u.2)
  else (rdX 6 u.1).bind fun v4 =>
  (rdJ ((Ev_rows u.2) v4) 7 u.1).bind fun v5 =>
  (wrZ (Ev_opn u.2) 6 u.1 (if (0 : Int64) < v5 then (0 : Int32) else (1 : Int32))).bind fun v7 =>
  (rdI v7 6 u.1).bind fun v8 =>
  ((if v8 = (0 : Int32) then
  (fX0_clearColumn (Ev_set_opn u.2 v7) z u.1).bind fun v11 =>
  (rdX 6 u.1).bind fun v13 =>
  (rdJ ((Ev_rows v11) v13) 7 u.1).bind fun v14 =>
  some (Ev_set_below v11 v14)
  else some (Ev_set_opn u.2 v7))).bind fun v9 =>
  rec ((u.1 + (1 : Int32)), v9))
set_option maxHeartbeats 4000000 in
set_option maxRecDepth 100000 in
theorem wX0_solveRows_7 {p : Program} {l : Launch} {e : Env} {s : State} {m : MethodId} {args : Array Value} {below : List Frame} {meth : Method} {c : Code} {Q : State → Prop} (S : CallFix p m c cX0_solveRows 2 s args wsX0_solveRows RX0) (E : xG) (hK : xK E s) (q : Nat → Nat) (f : Nat → Nat) (z : Fo) (A : Nat → Prop) (H0 : Heap) : ∀ (n : Nat) (u : Int32 × Ev) (r : Int32 × Ev), lp (gX0_solveRows_7 z) n u = some r → ∀ (H : Heap) (locs : List Loc), va_P (xD E) vwCl (wE E q f u.2 z) H → va_D A (wE E q f u.2 z) → va_S A H0 H locs → ∀ (ls : Array Slot), lv_has ls 2 [(0, .ref (q 0)), (1, .int u.1)] → (∀ (H : Heap) (locs : List Loc), va_P (xD E) vwCl (wE E q f r.2 z) H → va_D A (wE E q f r.2 z) → va_S A H0 H locs → ∀ (ls : Array Slot), lv_has ls 2 [(0, .ref (q 0)), (1, .int r.1)] → W p l e rmX0_solveRows s m args below meth c H locs 0 0 Q (F0 m 71 ls [])) → W p l e rmX0_solveRows s m args below meth c H locs 0 0 Q (F0 m 7 ls []) := by
  obtain ⟨hx, hb, hml, hown, hts⟩ := id S
  intro n
  induction n with
  | zero =>
    intro u r hf
    exact absurd (show (none : Option _) = some r from hf) (fun q => by cases q)
  | succ n ih =>
    intro u r hf H locs hP hD hS ls hl kx
    have hf : gX0_solveRows_7 z (lp (gX0_solveRows_7 z) n) u = some r := hf
    unfold gX0_solveRows_7 at hf
    refine lv_iload_n hx hb dX0_solveRows_7 rfl (lv_at hl 1 rfl) ?_
    refine lv_aload_n hx hb dX0_solveRows_8 rfl (lv_at hl 0 rfl) ?_
    obtain ⟨v1, h1, hf⟩ := ob hf
    refine x_pV (As := []) (rest := [.int u.1]) S hK (kX0_spaces l E q f u.2 z h1) (cwV 0 hts gX0_solveRows_X0_spaces rfl rfl rfl (by decide +kernel) ⟨Nat.le_of_ble_eq_true rfl, Nat.le_of_ble_eq_true rfl⟩) hP 0 rfl rfl rfl rfl hl.1 (Nat.le_of_ble_eq_true rfl) dX0_solveRows_9 rfl ⟨Nat.zero_le _, Nat.zero_le _⟩ ?_
    refine lv_icmp_ge (tgt := 71) hx hb dX0_solveRows_12 (by decide) (fun c2 => ?_) (fun c2 => ?_)
    · have hf := (if_pos c2).symm.trans hf
      obtain rfl := Option.some.inj hf
      exact kx _ _ hP hD hS ls (lv_sub hl [0, 1] rfl)
    · have hf := (if_neg c2).symm.trans hf
      refine lv_aload_n hx hb dX0_solveRows_15 rfl (lv_at hl 0 rfl) ?_
      refine x_get hx hb hts inX0_solveRows_0 hown hK hP 0 rfl rfl 2 (by decide) mX0_solveRows_1 rfl dX0_solveRows_16 ?_
      refine lv_iload_n hx hb dX0_solveRows_19 rfl (lv_at hl 1 rfl) ?_
      refine lv_aload_n hx hb dX0_solveRows_20 rfl (lv_at hl 0 rfl) ?_
      refine x_get hx hb hts inX0_solveRows_0 hown hK hP 0 rfl rfl 1 (by decide) mX0_solveRows_2 rfl dX0_solveRows_21 ?_
      refine lv_iload_n hx hb dX0_solveRows_24 rfl (lv_at hl 1 rfl) ?_
      obtain ⟨v4, h4, hf⟩ := ob hf
      refine x_rald hx hb hK hP 1 rfl (fun _ h9 => if_pos h9) h4 dX0_solveRows_25 (fun hj3 => ?_)
      refine lv_iload_n hx hb dX0_solveRows_26 rfl (lv_at hl 1 rfl) ?_
      obtain ⟨v5, h5, hf⟩ := ob hf
      refine x_lald hx hb hK hP (2 + v4) (wE_row hj3) h5 dX0_solveRows_27 ?_
      refine lv_lconst (v := 0) hx hb dX0_solveRows_28 (by decide) ?_
      refine x_cut (pc := 38) (ls := ls) (st := [.int (if (0 : Int64) < v5 then (0 : Int32) else (1 : Int32)), .int u.1, .ref (q 8)]) ?_ (fun hj => ?_)
      · obtain ⟨v7, h7, hf⟩ := ob hf
        refine x_zast hx hb hK hP hD hS 8 rfl h7 dX0_solveRows_38 (fun H locs hP hD hS => ?_)
        have hP : va_P (xD E) vwCl (wE E q f (Ev_set_opn u.2 v7) z) H := hP
        have hD : va_D A (wE E q f (Ev_set_opn u.2 v7) z) := hD
        refine lv_aload_n hx hb dX0_solveRows_39 rfl (lv_at hl 0 rfl) ?_
        refine x_get hx hb hts inX0_solveRows_0 hown hK hP 0 rfl rfl 2 (by decide) mX0_solveRows_1 rfl dX0_solveRows_40 ?_
        refine lv_iload_n hx hb dX0_solveRows_43 rfl (lv_at hl 1 rfl) ?_
        obtain ⟨v8, h8, hf⟩ := ob hf
        refine x_zald hx hb hK hP 8 rfl h8 dX0_solveRows_44 ?_
        obtain ⟨v9, h9, hf⟩ := ob hf
        refine x_cutH (fun H locs ls => va_P (xD E) vwCl (wE E q f v9 z) H ∧ va_D A (wE E q f v9 z) ∧ va_S A H0 H locs ∧ lv_has ls 2 [(0, .ref (q 0)), (1, .int u.1)]) (pc := 65) (st := []) (fun H locs ls hq => ?_) (fun hj => ?_)
        · obtain ⟨hP, hD, hS, hl⟩ := hq
          refine lv_iinc (v := (u.1 + (1 : Int32))) (lv' := [(1, .int (u.1 + (1 : Int32))), (0, .ref (q 0))]) hx hb dX0_solveRows_65 hl (k := 1) rfl rfl (by decide) rfl (fun ls hl => ?_)
          refine lv_goto (tgt := 7) hx hb dX0_solveRows_68 (by decide) ?_
          exact ih ((u.1 + (1 : Int32)), v9) _ hf _ _ hP hD hS ls (lv_sub hl [1, 0] rfl) kx
        · have hf := h9
          refine lv_if_ne (tgt := 65) hx hb dX0_solveRows_45 (by decide) (fun c10 => ?_) (fun c10 => ?_)
          · have hf := (if_neg c10).symm.trans hf
            obtain rfl := Option.some.inj hf
            exact hj _ _ ls ⟨hP, hD, hS, lv_sub hl [0, 1] rfl⟩
          · have hf := (if_pos c10).symm.trans hf
            refine lv_aload_n hx hb dX0_solveRows_48 rfl (lv_at hl 0 rfl) ?_
            refine lv_iload_n hx hb dX0_solveRows_49 rfl (lv_at hl 1 rfl) ?_
            obtain ⟨v11, h11, hf⟩ := ob hf
            refine x_mR (ws' := wE E q f v11 z) (As := [.int u.1]) (rest := []) S hK (kX0_clearColumn l E q f (Ev_set_opn u.2 v7) z u.1 h11) (cwV 1 hts gX0_solveRows_X0_clearColumn rfl rfl rfl (by decide +kernel) ⟨Nat.le_of_ble_eq_true rfl, Nat.le_of_ble_eq_true rfl⟩) hP hD hS 0 16 rfl rfl 0 rfl rfl rfl rfl hl.1 (Nat.le_of_ble_eq_true rfl) dX0_solveRows_50 rfl ⟨Nat.zero_le _, Nat.zero_le _⟩ rfl (fun H locs hP hD hS => ?_)
            refine lv_aload_n hx hb dX0_solveRows_53 rfl (lv_at hl 0 rfl) ?_
            refine lv_aload_n hx hb dX0_solveRows_54 rfl (lv_at hl 0 rfl) ?_
            refine x_get hx hb hts inX0_solveRows_0 hown hK hP 0 rfl rfl 1 (by decide) mX0_solveRows_2 rfl dX0_solveRows_55 ?_
            refine lv_iload_n hx hb dX0_solveRows_58 rfl (lv_at hl 1 rfl) ?_
            obtain ⟨v13, h13, hf⟩ := ob hf
            refine x_rald hx hb hK hP 1 rfl (fun _ h9 => if_pos h9) h13 dX0_solveRows_59 (fun hj12 => ?_)
            refine lv_iload_n hx hb dX0_solveRows_60 rfl (lv_at hl 1 rfl) ?_
            obtain ⟨v14, h14, hf⟩ := ob hf
            refine x_lald hx hb hK hP (2 + v13) (wE_row hj12) h14 dX0_solveRows_61 ?_
            refine x_putf hx hb hts inX0_solveRows_0 tyX0_ok nmX0 hown hK hP hD hS 0 rfl rfl 4 (by decide) mX0_solveRows_0 rfl rfl rfl (Nat.le_of_ble_eq_true rfl) dX0_solveRows_62 (fun H locs hP hD hS => ?_)
            have hP : va_P (xD E) vwCl (wE E q f (Ev_set_below v11 v14) z) H := hP
            have hD : va_D A (wE E q f (Ev_set_below v11 v14) z) := hD
            obtain rfl := Option.some.inj hf
            exact hj _ _ ls ⟨hP, hD, hS, lv_sub hl [0, 1] rfl⟩
      · refine x_lif_gt (tgt := 37) hx hb dX0_solveRows_29 dX0_solveRows_30 (by decide) (fun c6 => ?_) (fun c6 => ?_)
        · refine lv_iconst (v := 0) hx hb dX0_solveRows_37 (by decide) ?_
          exact (by rw [if_pos c6] at hj; exact hj)
        · refine lv_iconst (v := 1) hx hb dX0_solveRows_33 (by decide) ?_
          refine lv_goto (tgt := 38) hx hb dX0_solveRows_34 (by decide) ?_
          exact (by rw [if_neg c6] at hj; exact hj)
def gX0_solveRows_73 (z : Fo) (rec : (Int32 × Ev) → Option (Int32 × Ev)) (u : Int32 × Ev) : Option (Int32 × Ev) :=
  (fX0_spaces u.2 z).bind fun v1 =>
  (if v1 ≤ u.1 then
  some (u.1, u.2)
  else (rdI (Ev_opn u.2) 6 u.1).bind fun v3 =>
  ((if v3 = (0 : Int32) then
  (rdX 6 u.1).bind fun v7 =>
  (rdJ ((Ev_rows u.2) v7) 7 (6 : Int32)).bind fun v8 =>
  some v8
  else some (0 : Int64))).bind fun v4 =>
  (wrJ (Ev_eight u.2) 6 u.1 v4).bind fun v9 =>
  rec ((u.1 + (1 : Int32)), (Ev_set_eight u.2 v9)))
set_option maxHeartbeats 4000000 in
set_option maxRecDepth 100000 in
theorem wX0_solveRows_73 {p : Program} {l : Launch} {e : Env} {s : State} {m : MethodId} {args : Array Value} {below : List Frame} {meth : Method} {c : Code} {Q : State → Prop} (S : CallFix p m c cX0_solveRows 2 s args wsX0_solveRows RX0) (E : xG) (hK : xK E s) (q : Nat → Nat) (f : Nat → Nat) (z : Fo) (A : Nat → Prop) (H0 : Heap) : ∀ (n : Nat) (u : Int32 × Ev) (r : Int32 × Ev), lp (gX0_solveRows_73 z) n u = some r → ∀ (H : Heap) (locs : List Loc), va_P (xD E) vwCl (wE E q f u.2 z) H → va_D A (wE E q f u.2 z) → va_S A H0 H locs → ∀ (ls : Array Slot), lv_has ls 2 [(0, .ref (q 0)), (1, .int u.1)] → (∀ (H : Heap) (locs : List Loc), va_P (xD E) vwCl (wE E q f r.2 z) H → va_D A (wE E q f r.2 z) → va_S A H0 H locs → ∀ (ls : Array Slot), lv_has ls 2 [(0, .ref (q 0)), (1, .int r.1)] → W p l e rmX0_solveRows s m args below meth c H locs 0 0 Q (F0 m 115 ls [])) → W p l e rmX0_solveRows s m args below meth c H locs 0 0 Q (F0 m 73 ls []) := by
  obtain ⟨hx, hb, hml, hown, hts⟩ := id S
  intro n
  induction n with
  | zero =>
    intro u r hf
    exact absurd (show (none : Option _) = some r from hf) (fun q => by cases q)
  | succ n ih =>
    intro u r hf H locs hP hD hS ls hl kx
    have hf : gX0_solveRows_73 z (lp (gX0_solveRows_73 z) n) u = some r := hf
    unfold gX0_solveRows_73 at hf
    refine lv_iload_n hx hb dX0_solveRows_73 rfl (lv_at hl 1 rfl) ?_
    refine lv_aload_n hx hb dX0_solveRows_74 rfl (lv_at hl 0 rfl) ?_
    obtain ⟨v1, h1, hf⟩ := ob hf
    refine x_pV (As := []) (rest := [.int u.1]) S hK (kX0_spaces l E q f u.2 z h1) (cwV 0 hts gX0_solveRows_X0_spaces rfl rfl rfl (by decide +kernel) ⟨Nat.le_of_ble_eq_true rfl, Nat.le_of_ble_eq_true rfl⟩) hP 0 rfl rfl rfl rfl hl.1 (Nat.le_of_ble_eq_true rfl) dX0_solveRows_75 rfl ⟨Nat.zero_le _, Nat.zero_le _⟩ ?_
    refine lv_icmp_ge (tgt := 115) hx hb dX0_solveRows_78 (by decide) (fun c2 => ?_) (fun c2 => ?_)
    · have hf := (if_pos c2).symm.trans hf
      obtain rfl := Option.some.inj hf
      exact kx _ _ hP hD hS ls (lv_sub hl [0, 1] rfl)
    · have hf := (if_neg c2).symm.trans hf
      refine lv_aload_n hx hb dX0_solveRows_81 rfl (lv_at hl 0 rfl) ?_
      refine x_get hx hb hts inX0_solveRows_0 hown hK hP 0 rfl rfl 3 (by decide) mX0_solveRows_3 rfl dX0_solveRows_82 ?_
      refine lv_iload_n hx hb dX0_solveRows_85 rfl (lv_at hl 1 rfl) ?_
      refine lv_aload_n hx hb dX0_solveRows_86 rfl (lv_at hl 0 rfl) ?_
      refine x_get hx hb hts inX0_solveRows_0 hown hK hP 0 rfl rfl 2 (by decide) mX0_solveRows_1 rfl dX0_solveRows_87 ?_
      refine lv_iload_n hx hb dX0_solveRows_90 rfl (lv_at hl 1 rfl) ?_
      obtain ⟨v3, h3, hf⟩ := ob hf
      refine x_zald hx hb hK hP 8 rfl h3 dX0_solveRows_91 ?_
      obtain ⟨v4, h4, hf⟩ := ob hf
      refine x_cutH (fun H locs ls => va_P (xD E) vwCl (wE E q f u.2 z) H ∧ va_D A (wE E q f u.2 z) ∧ va_S A H0 H locs ∧ lv_has ls 2 [(0, .ref (q 0)), (1, .int u.1)]) (pc := 108) (st := [.long v4, .int u.1, .ref (q 9)]) (fun H locs ls hq => ?_) (fun hj => ?_)
      · obtain ⟨hP, hD, hS, hl⟩ := hq
        obtain ⟨v9, h9, hf⟩ := ob hf
        refine x_last hx hb hK hP hD hS 9 rfl h9 dX0_solveRows_108 (fun H locs hP hD hS => ?_)
        have hP : va_P (xD E) vwCl (wE E q f (Ev_set_eight u.2 v9) z) H := hP
        have hD : va_D A (wE E q f (Ev_set_eight u.2 v9) z) := hD
        refine lv_iinc (v := (u.1 + (1 : Int32))) (lv' := [(1, .int (u.1 + (1 : Int32))), (0, .ref (q 0))]) hx hb dX0_solveRows_109 hl (k := 1) rfl rfl (by decide) rfl (fun ls hl => ?_)
        refine lv_goto (tgt := 73) hx hb dX0_solveRows_112 (by decide) ?_
        exact ih ((u.1 + (1 : Int32)), (Ev_set_eight u.2 v9)) _ hf _ _ hP hD hS ls (lv_sub hl [1, 0] rfl) kx
      · have hf := h4
        refine lv_if_eq (tgt := 99) hx hb dX0_solveRows_92 (by decide) (fun c5 => ?_) (fun c5 => ?_)
        · have hf := (if_pos c5).symm.trans hf
          refine lv_aload_n hx hb dX0_solveRows_99 rfl (lv_at hl 0 rfl) ?_
          refine x_get hx hb hts inX0_solveRows_0 hown hK hP 0 rfl rfl 1 (by decide) mX0_solveRows_2 rfl dX0_solveRows_100 ?_
          refine lv_iload_n hx hb dX0_solveRows_103 rfl (lv_at hl 1 rfl) ?_
          obtain ⟨v7, h7, hf⟩ := ob hf
          refine x_rald hx hb hK hP 1 rfl (fun _ h9 => if_pos h9) h7 dX0_solveRows_104 (fun hj6 => ?_)
          refine lv_bipush (v := 6) hx hb dX0_solveRows_105 (by decide) ?_
          obtain ⟨v8, h8, hf⟩ := ob hf
          refine x_lald hx hb hK hP (2 + v7) (wE_row hj6) h8 dX0_solveRows_107 ?_
          obtain rfl := Option.some.inj hf
          exact hj _ _ ls ⟨hP, hD, hS, lv_sub hl [0, 1] rfl⟩
        · have hf := (if_neg c5).symm.trans hf
          refine lv_lconst (v := 0) hx hb dX0_solveRows_95 (by decide) ?_
          refine lv_goto (tgt := 108) hx hb dX0_solveRows_96 (by decide) ?_
          obtain rfl := Option.some.inj hf
          exact hj _ _ ls ⟨hP, hD, hS, lv_sub hl [0, 1] rfl⟩
def fX0_solveRows (ev : Ev) (z : Fo) : Option Ev :=
  (lp (gX0_solveRows_7 z) 1000 ((0 : Int32), (Ev_set_below ev (1 : Int64)))).bind fun v1 =>
  (lp (gX0_solveRows_73 z) 1000 ((0 : Int32), v1.2)).bind fun v2 =>
  some v2.2
set_option maxHeartbeats 4000000 in
set_option maxRecDepth 100000 in
theorem kX0_solveRows (l : Launch) (E : xG) (q : Nat → Nat) (f : Nat → Nat) (ev : Ev) (z : Fo) {r : Ev} (hf : fX0_solveRows ev z = some r) : xMut l yX0_solveRows wsX0_solveRows rmX0_solveRows E [.ref (q 0)] (wE E q f ev z) none (wE E q f r z) := by
  refine Met.ofW (cc := cX0_solveRows) (maxL := 2) (ret := none) (by decide) rfl ?_
  intro p e s m args below meth c s₁ B hml hv
  obtain ⟨rfl, hP, hK, hD0⟩ := hv
  have hx := B.exec
  have hb := B.bytes
  have hr := B.returns
  have hts := atoms_spec (ws := wsX0_solveRows) B.pre
  have hown : s.vm.findClass RX0 = some m.cls := findClass_of_methodNamed B.named
  have hlk := B.notSynchronized
  have S : CallFix p m c cX0_solveRows 2 s _ wsX0_solveRows RX0 := ⟨hx, hb, hml, hown, hts⟩
  have hl := lv_entry ([.ref (q 0)]) (n := 2) (Nat.le_of_ble_eq_true rfl)
  rw [lg_entry_eq]
  generalize (lg_sl ([.ref (q 0)]) ++ List.replicate (2 - (lg_sl ([.ref (q 0)])).length) Slot.unset).toArray = ls at hl ⊢
  have hl : lv_has ls 2 [(0, .ref (q 0))] := hl
  have hD := xA.self hD0
  have hS : va_S (xA (wE E q f ev z)) s.heap s.heap [] := va_S.rf
  show W p l e rmX0_solveRows s m _ below meth c s.heap [] 0 0 _ _
  generalize hA : xA (wE E q f ev z) = A at hD hS ⊢
  unfold fX0_solveRows at hf
  refine lv_aload_n hx hb dX0_solveRows_0 rfl (lv_at hl 0 rfl) ?_
  refine lv_lconst (v := 1) hx hb dX0_solveRows_1 (by decide) ?_
  refine x_putf hx hb hts inX0_solveRows_0 tyX0_ok nmX0 hown hK hP hD hS 0 rfl rfl 4 (by decide) mX0_solveRows_0 rfl rfl rfl (Nat.le_of_ble_eq_true rfl) dX0_solveRows_2 (fun H locs hP hD hS => ?_)
  have hP : va_P (xD E) vwCl (wE E q f (Ev_set_below ev (1 : Int64)) z) H := hP
  have hD : va_D A (wE E q f (Ev_set_below ev (1 : Int64)) z) := hD
  refine lv_iconst (v := 0) hx hb dX0_solveRows_5 (by decide) ?_
  refine lv_istore_n (lv' := [(1, .int (0 : Int32)), (0, .ref (q 0))]) hx hb dX0_solveRows_6 rfl hl (by decide) rfl (fun ls hl => ?_)
  obtain ⟨v1, h1, hf⟩ := ob hf
  refine wX0_solveRows_7 S E hK q f z _ _ 1000 _ _ h1 _ _ hP hD hS ls (lv_sub hl [1, 0] rfl) (fun H locs hP hD hS ls hl => ?_)
  refine lv_iconst (v := 0) hx hb dX0_solveRows_71 (by decide) ?_
  refine lv_istore_n (lv' := [(1, .int (0 : Int32)), (0, .ref (q 0))]) hx hb dX0_solveRows_72 rfl hl (by decide) rfl (fun ls hl => ?_)
  obtain ⟨v2, h2, hf⟩ := ob hf
  refine wX0_solveRows_73 S E hK q f z _ _ 1000 _ _ h2 _ _ hP hD hS ls (lv_sub hl [1, 0] rfl) (fun H locs hP hD hS ls hl => ?_)
  obtain rfl := Option.some.inj hf
  subst hA
  exact x_vretM hx hb hr hlk hP hS dX0_solveRows_115
abbrev rmX0_firstOfGreatestRest : Room := { frames := 1, cells := 0, slots := 0, locals := 20 }
theorem mX0_firstOfGreatestRest_0 : Cond.fieldLink RX0 35 "EvenWhite$Even" "rest" "[J" ∈ wsX0_firstOfGreatestRest := by decide +kernel
theorem inX0_firstOfGreatestRest_0 : ∀ w ∈ u_ws RX0 TX0 8, w ∈ wsX0_firstOfGreatestRest := by decide +kernel
def gX0_firstOfGreatestRest_4 (ev : Ev) (z : Fo) (rec : (Int32 × Int32) → Option (Int32 × Int32)) (u : Int32 × Int32) : Option (Int32 × Int32) :=
  (fX0_spaces ev z).bind fun v1 =>
  (if v1 ≤ u.2 then
  some (u.1, u.2)
  else (rdJ (Ev_rest ev) 6 u.2).bind fun v3 =>
  (rdJ (Ev_rest ev) 6 u.1).bind fun v4 =>
  ((if v3 ≤ v4 then
  some u.1
  else some u.2)).bind fun v5 =>
  rec (v5, (u.2 + (1 : Int32))))
set_option maxHeartbeats 4000000 in
set_option maxRecDepth 100000 in
theorem wX0_firstOfGreatestRest_4 {p : Program} {l : Launch} {e : Env} {s : State} {m : MethodId} {args : Array Value} {below : List Frame} {meth : Method} {c : Code} {Q : State → Prop} (S : CallFix p m c cX0_firstOfGreatestRest 3 s args wsX0_firstOfGreatestRest RX0) (E : xG) (hK : xK E s) (q : Nat → Nat) (f : Nat → Nat) (ev : Ev) (z : Fo) (hP : va_P (xD E) vwCl (wE E q f ev z) s.heap) : ∀ (n : Nat) (u : Int32 × Int32) (r : Int32 × Int32), lp (gX0_firstOfGreatestRest_4 ev z) n u = some r → ∀ (ls : Array Slot), lv_has ls 3 [(0, .ref (q 0)), (1, .int u.1), (2, .int u.2)] → (∀ (ls : Array Slot), lv_has ls 3 [(0, .ref (q 0)), (1, .int r.1), (2, .int r.2)] → W p l e rmX0_firstOfGreatestRest s m args below meth c s.heap [] 0 0 Q (F0 m 36 ls [])) → W p l e rmX0_firstOfGreatestRest s m args below meth c s.heap [] 0 0 Q (F0 m 4 ls []) := by
  obtain ⟨hx, hb, hml, hown, hts⟩ := id S
  intro n
  induction n with
  | zero =>
    intro u r hf
    exact absurd (show (none : Option _) = some r from hf) (fun q => by cases q)
  | succ n ih =>
    intro u r hf ls hl kx
    have hf : gX0_firstOfGreatestRest_4 ev z (lp (gX0_firstOfGreatestRest_4 ev z) n) u = some r := hf
    unfold gX0_firstOfGreatestRest_4 at hf
    refine lv_iload_n hx hb dX0_firstOfGreatestRest_4 rfl (lv_at hl 2 rfl) ?_
    refine lv_aload_n hx hb dX0_firstOfGreatestRest_5 rfl (lv_at hl 0 rfl) ?_
    obtain ⟨v1, h1, hf⟩ := ob hf
    refine x_pV (As := []) (rest := [.int u.2]) S hK (kX0_spaces l E q f ev z h1) (cwV 0 hts gX0_firstOfGreatestRest_X0_spaces rfl rfl rfl (by decide +kernel) ⟨Nat.le_of_ble_eq_true rfl, Nat.le_of_ble_eq_true rfl⟩) hP 0 rfl rfl rfl rfl hl.1 (Nat.le_of_ble_eq_true rfl) dX0_firstOfGreatestRest_6 rfl ⟨Nat.zero_le _, Nat.zero_le _⟩ ?_
    refine lv_icmp_ge (tgt := 36) hx hb dX0_firstOfGreatestRest_9 (by decide) (fun c2 => ?_) (fun c2 => ?_)
    · have hf := (if_pos c2).symm.trans hf
      obtain rfl := Option.some.inj hf
      exact kx ls (lv_sub hl [0, 1, 2] rfl)
    · have hf := (if_neg c2).symm.trans hf
      refine lv_aload_n hx hb dX0_firstOfGreatestRest_12 rfl (lv_at hl 0 rfl) ?_
      refine x_get hx hb hts inX0_firstOfGreatestRest_0 hown hK hP 0 rfl rfl 6 (by decide) mX0_firstOfGreatestRest_0 rfl dX0_firstOfGreatestRest_13 ?_
      refine lv_iload_n hx hb dX0_firstOfGreatestRest_16 rfl (lv_at hl 2 rfl) ?_
      obtain ⟨v3, h3, hf⟩ := ob hf
      refine x_lald hx hb hK hP 11 rfl h3 dX0_firstOfGreatestRest_17 ?_
      refine lv_aload_n hx hb dX0_firstOfGreatestRest_18 rfl (lv_at hl 0 rfl) ?_
      refine x_get hx hb hts inX0_firstOfGreatestRest_0 hown hK hP 0 rfl rfl 6 (by decide) mX0_firstOfGreatestRest_0 rfl dX0_firstOfGreatestRest_19 ?_
      refine lv_iload_n hx hb dX0_firstOfGreatestRest_22 rfl (lv_at hl 1 rfl) ?_
      obtain ⟨v4, h4, hf⟩ := ob hf
      refine x_lald hx hb hK hP 11 rfl h4 dX0_firstOfGreatestRest_23 ?_
      obtain ⟨v5, h5, hf⟩ := ob hf
      refine x_cutL (fun ls => lv_has ls 3 [(0, .ref (q 0)), (1, .int v5), (2, .int u.2)]) (pc := 30) (st := []) (fun ls hl => ?_) (fun hj => ?_)
      · refine lv_iinc (v := (u.2 + (1 : Int32))) (lv' := [(2, .int (u.2 + (1 : Int32))), (0, .ref (q 0)), (1, .int v5)]) hx hb dX0_firstOfGreatestRest_30 hl (k := 2) rfl rfl (by decide) rfl (fun ls hl => ?_)
        refine lv_goto (tgt := 4) hx hb dX0_firstOfGreatestRest_33 (by decide) ?_
        exact ih (v5, (u.2 + (1 : Int32))) _ hf ls (lv_sub hl [1, 2, 0] rfl) kx
      · have hf := h5
        refine x_lif_le (tgt := 30) hx hb dX0_firstOfGreatestRest_24 dX0_firstOfGreatestRest_25 (by decide) (fun c6 => ?_) (fun c6 => ?_)
        · have hf := (if_pos c6).symm.trans hf
          obtain rfl := Option.some.inj hf
          exact hj ls (lv_sub hl [0, 1, 2] rfl)
        · have hf := (if_neg c6).symm.trans hf
          refine lv_iload_n hx hb dX0_firstOfGreatestRest_28 rfl (lv_at hl 2 rfl) ?_
          refine lv_istore_n (lv' := [(1, .int u.2), (0, .ref (q 0)), (2, .int u.2)]) hx hb dX0_firstOfGreatestRest_29 rfl hl (by decide) rfl (fun ls hl => ?_)
          obtain rfl := Option.some.inj hf
          exact hj ls (lv_sub hl [1, 0, 2] rfl)
def fX0_firstOfGreatestRest (ev : Ev) (z : Fo) : Option Int32 :=
  (lp (gX0_firstOfGreatestRest_4 ev z) 1000 ((0 : Int32), (1 : Int32))).bind fun v1 =>
  some v1.1
set_option maxHeartbeats 4000000 in
set_option maxRecDepth 100000 in
theorem kX0_firstOfGreatestRest (l : Launch) (E : xG) (q : Nat → Nat) (f : Nat → Nat) (ev : Ev) (z : Fo) {r : Int32} (hf : fX0_firstOfGreatestRest ev z = some r) : xPure l yX0_firstOfGreatestRest wsX0_firstOfGreatestRest rmX0_firstOfGreatestRest E [.ref (q 0)] (wE E q f ev z) (.int r) := by
  refine Met.ofW (cc := cX0_firstOfGreatestRest) (maxL := 3) (ret := (some .int)) (by decide) rfl ?_
  intro p e s m args below meth c s₁ B hml hv
  obtain ⟨rfl, hP, hK⟩ := hv
  have hx := B.exec
  have hb := B.bytes
  have hr := B.returns
  have hts := atoms_spec (ws := wsX0_firstOfGreatestRest) B.pre
  have hown : s.vm.findClass RX0 = some m.cls := findClass_of_methodNamed B.named
  have hlk := B.notSynchronized
  have S : CallFix p m c cX0_firstOfGreatestRest 3 s _ wsX0_firstOfGreatestRest RX0 := ⟨hx, hb, hml, hown, hts⟩
  have hl := lv_entry ([.ref (q 0)]) (n := 3) (Nat.le_of_ble_eq_true rfl)
  rw [lg_entry_eq]
  generalize (lg_sl ([.ref (q 0)]) ++ List.replicate (3 - (lg_sl ([.ref (q 0)])).length) Slot.unset).toArray = ls at hl ⊢
  have hl : lv_has ls 3 [(0, .ref (q 0))] := hl
  unfold fX0_firstOfGreatestRest at hf
  refine lv_iconst (v := 0) hx hb dX0_firstOfGreatestRest_0 (by decide) ?_
  refine lv_istore_n (lv' := [(1, .int (0 : Int32)), (0, .ref (q 0))]) hx hb dX0_firstOfGreatestRest_1 rfl hl (by decide) rfl (fun ls hl => ?_)
  refine lv_iconst (v := 1) hx hb dX0_firstOfGreatestRest_2 (by decide) ?_
  refine lv_istore_n (lv' := [(2, .int (1 : Int32)), (1, .int (0 : Int32)), (0, .ref (q 0))]) hx hb dX0_firstOfGreatestRest_3 rfl hl (by decide) rfl (fun ls hl => ?_)
  obtain ⟨v1, h1, hf⟩ := ob hf
  refine wX0_firstOfGreatestRest_4 S E hK q f ev z hP 1000 _ _ h1 ls (lv_sub hl [2, 1, 0] rfl) (fun ls hl => ?_)
  refine lv_iload_n hx hb dX0_firstOfGreatestRest_36 rfl (lv_at hl 1 rfl) ?_
  obtain rfl := Option.some.inj hf
  exact x_iret hx hb hr hlk (vp_nar_int _) dX0_firstOfGreatestRest_37
abbrev rmX0_makeWhole : Room := { frames := 2, cells := 0, slots := 0, locals := 42 }
theorem mX0_makeWhole_0 : Cond.constantLong RX0 88 (8) ∈ wsX0_makeWhole := by decide +kernel
theorem mX0_makeWhole_1 : Cond.fieldLink RX0 28 "EvenWhite$Even" "below" "J" ∈ wsX0_makeWhole := by decide +kernel
theorem mX0_makeWhole_2 : Cond.methodLink RX0 82 Lib.MathLoose.max_long.x ∈ wsX0_makeWhole := by decide +kernel
theorem mX0_makeWhole_3 : Cond.static Lib.MathLoose.max_long.x ∈ wsX0_makeWhole := by decide +kernel
theorem mX0_makeWhole_4 : Cond.initialized "java/lang/Math" ∈ wsX0_makeWhole := by decide +kernel
theorem mX0_makeWhole_5 : Cond.code Lib.MathLoose.max_long.x Lib.MathLoose.max_long.code 4 (some .long) ∈ wsX0_makeWhole := by decide +kernel
theorem mX0_makeWhole_6 : Cond.fieldLink RX0 32 "EvenWhite$Even" "whole" "[J" ∈ wsX0_makeWhole := by decide +kernel
theorem mX0_makeWhole_7 : Cond.fieldLink RX0 24 "EvenWhite$Even" "eightfold" "[J" ∈ wsX0_makeWhole := by decide +kernel
theorem mX0_makeWhole_8 : Cond.fieldLink RX0 35 "EvenWhite$Even" "rest" "[J" ∈ wsX0_makeWhole := by decide +kernel
theorem mX0_makeWhole_9 : Cond.constantLong RX0 96 (2) ∈ wsX0_makeWhole := by decide +kernel
theorem mX0_makeWhole_10 : Cond.constantLong RX0 101 (-1) ∈ wsX0_makeWhole := by decide +kernel
theorem inX0_makeWhole_0 : ∀ w ∈ u_ws RX0 TX0 8, w ∈ wsX0_makeWhole := by decide +kernel
def gX0_makeWhole_21 (z : Fo) (x1 : Int64) (rec : (Int64 × Int64 × Int32 × Ev) → Option (Int64 × Int64 × Int32 × Ev)) (u : Int64 × Int64 × Int32 × Ev) : Option (Int64 × Int64 × Int32 × Ev) :=
  (fX0_spaces u.2.2.2 z).bind fun v1 =>
  (if v1 ≤ u.2.2.1 then
  some (u.1, u.2.1, u.2.2.1, u.2.2.2)
  else (rdJ (Ev_eight u.2.2.2) 6 u.2.2.1).bind fun v3 =>
  (fJ9_floorDiv_f86c9 v3 x1).bind fun v4 =>
  (wrJ (Ev_whole u.2.2.2) 6 u.2.2.1 v4).bind fun v5 =>
  (rdJ (Ev_eight u.2.2.2) 6 u.2.2.1).bind fun v6 =>
  (fJ9_floorMod_f86c9 v6 x1).bind fun v7 =>
  (wrJ (Ev_rest u.2.2.2) 6 u.2.2.1 v7).bind fun v8 =>
  (rdJ (Ev_eight u.2.2.2) 6 u.2.2.1).bind fun v9 =>
  (rdJ v5 6 u.2.2.1).bind fun v10 =>
  rec ((u.1 + v9), (u.2.1 + v10), (u.2.2.1 + (1 : Int32)), (Ev_set_rest (Ev_set_whole u.2.2.2 v5) v8)))
set_option maxHeartbeats 4000000 in
set_option maxRecDepth 100000 in
theorem wX0_makeWhole_21 {p : Program} {l : Launch} {e : Env} {s : State} {m : MethodId} {args : Array Value} {below : List Frame} {meth : Method} {c : Code} {Q : State → Prop} (S : CallFix p m c cX0_makeWhole 11 s args wsX0_makeWhole RX0) (E : xG) (hK : xK E s) (q : Nat → Nat) (f : Nat → Nat) (z : Fo) (x1 : Int64) (A : Nat → Prop) (H0 : Heap) : ∀ (n : Nat) (u : Int64 × Int64 × Int32 × Ev) (r : Int64 × Int64 × Int32 × Ev), lp (gX0_makeWhole_21 z x1) n u = some r → ∀ (H : Heap) (locs : List Loc), va_P (xD E) vwCl (wE E q f u.2.2.2 z) H → va_D A (wE E q f u.2.2.2 z) → va_S A H0 H locs → ∀ (ls : Array Slot), lv_has ls 11 [(0, .ref (q 0)), (1, .long x1), (3, .long u.1), (5, .long u.2.1), (7, .int u.2.2.1)] → (∀ (H : Heap) (locs : List Loc), va_P (xD E) vwCl (wE E q f r.2.2.2 z) H → va_D A (wE E q f r.2.2.2 z) → va_S A H0 H locs → ∀ (ls : Array Slot), lv_has ls 11 [(0, .ref (q 0)), (1, .long x1), (3, .long r.1), (5, .long r.2.1), (7, .int r.2.2.1)] → W p l e rmX0_makeWhole s m args below meth c H locs 0 0 Q (F0 m 94 ls [])) → W p l e rmX0_makeWhole s m args below meth c H locs 0 0 Q (F0 m 21 ls []) := by
  obtain ⟨hx, hb, hml, hown, hts⟩ := id S
  intro n
  induction n with
  | zero =>
    intro u r hf
    exact absurd (show (none : Option _) = some r from hf) (fun q => by cases q)
  | succ n ih =>
    intro u r hf H locs hP hD hS ls hl kx
    have hf : gX0_makeWhole_21 z x1 (lp (gX0_makeWhole_21 z x1) n) u = some r := hf
    unfold gX0_makeWhole_21 at hf
    refine lv_iload hx hb dX0_makeWhole_21 (lv_at hl 4 rfl) ?_
    refine lv_aload_n hx hb dX0_makeWhole_23 rfl (lv_at hl 0 rfl) ?_
    obtain ⟨v1, h1, hf⟩ := ob hf
    refine x_pV (As := []) (rest := [.int u.2.2.1]) S hK (kX0_spaces l E q f u.2.2.2 z h1) (cwV 0 hts gX0_makeWhole_X0_spaces rfl rfl rfl (by decide +kernel) ⟨Nat.le_of_ble_eq_true rfl, Nat.le_of_ble_eq_true rfl⟩) hP 0 rfl rfl rfl rfl hl.1 (Nat.le_of_ble_eq_true rfl) dX0_makeWhole_24 rfl ⟨Nat.zero_le _, Nat.zero_le _⟩ ?_
    refine lv_icmp_ge (tgt := 94) hx hb dX0_makeWhole_27 (by decide) (fun c2 => ?_) (fun c2 => ?_)
    · have hf := (if_pos c2).symm.trans hf
      obtain rfl := Option.some.inj hf
      exact kx _ _ hP hD hS ls (lv_sub hl [0, 1, 2, 3, 4] rfl)
    · have hf := (if_neg c2).symm.trans hf
      refine lv_aload_n hx hb dX0_makeWhole_30 rfl (lv_at hl 0 rfl) ?_
      refine x_get hx hb hts inX0_makeWhole_0 hown hK hP 0 rfl rfl 5 (by decide) mX0_makeWhole_6 rfl dX0_makeWhole_31 ?_
      refine lv_iload hx hb dX0_makeWhole_34 (lv_at hl 4 rfl) ?_
      refine lv_aload_n hx hb dX0_makeWhole_36 rfl (lv_at hl 0 rfl) ?_
      refine x_get hx hb hts inX0_makeWhole_0 hown hK hP 0 rfl rfl 3 (by decide) mX0_makeWhole_7 rfl dX0_makeWhole_37 ?_
      refine lv_iload hx hb dX0_makeWhole_40 (lv_at hl 4 rfl) ?_
      obtain ⟨v3, h3, hf⟩ := ob hf
      refine x_lald hx hb hK hP 9 rfl h3 dX0_makeWhole_42 ?_
      refine lv_lload_n hx hb dX0_makeWhole_43 rfl (lv_at hl 1 rfl) ?_
      obtain ⟨v4, h4, hf⟩ := ob hf
      refine x_pS (As := [.long v3, .long x1]) (rest := [.int u.2.2.1, .ref (q 10)]) S hK (kJ9_floorDiv_f86c9 l E v3 x1 h4) (va_cwS 2 hts gX0_makeWhole_J9_floorDiv_f86c9 rfl rfl rfl (by decide +kernel) ⟨Nat.le_of_ble_eq_true rfl, Nat.le_of_ble_eq_true rfl⟩) x_nil rfl hl.1 (Nat.le_of_ble_eq_true rfl) dX0_makeWhole_44 rfl ⟨Nat.zero_le _, Nat.zero_le _⟩ ?_
      obtain ⟨v5, h5, hf⟩ := ob hf
      refine x_last hx hb hK hP hD hS 10 rfl h5 dX0_makeWhole_47 (fun H locs hP hD hS => ?_)
      have hP : va_P (xD E) vwCl (wE E q f (Ev_set_whole u.2.2.2 v5) z) H := hP
      have hD : va_D A (wE E q f (Ev_set_whole u.2.2.2 v5) z) := hD
      refine lv_aload_n hx hb dX0_makeWhole_48 rfl (lv_at hl 0 rfl) ?_
      refine x_get hx hb hts inX0_makeWhole_0 hown hK hP 0 rfl rfl 6 (by decide) mX0_makeWhole_8 rfl dX0_makeWhole_49 ?_
      refine lv_iload hx hb dX0_makeWhole_52 (lv_at hl 4 rfl) ?_
      refine lv_aload_n hx hb dX0_makeWhole_54 rfl (lv_at hl 0 rfl) ?_
      refine x_get hx hb hts inX0_makeWhole_0 hown hK hP 0 rfl rfl 3 (by decide) mX0_makeWhole_7 rfl dX0_makeWhole_55 ?_
      refine lv_iload hx hb dX0_makeWhole_58 (lv_at hl 4 rfl) ?_
      obtain ⟨v6, h6, hf⟩ := ob hf
      refine x_lald hx hb hK hP 9 rfl h6 dX0_makeWhole_60 ?_
      refine lv_lload_n hx hb dX0_makeWhole_61 rfl (lv_at hl 1 rfl) ?_
      obtain ⟨v7, h7, hf⟩ := ob hf
      refine x_pS (As := [.long v6, .long x1]) (rest := [.int u.2.2.1, .ref (q 11)]) S hK (kJ9_floorMod_f86c9 l E v6 x1 h7) (va_cwS 2 hts gX0_makeWhole_J9_floorMod_f86c9 rfl rfl rfl (by decide +kernel) ⟨Nat.le_of_ble_eq_true rfl, Nat.le_of_ble_eq_true rfl⟩) x_nil rfl hl.1 (Nat.le_of_ble_eq_true rfl) dX0_makeWhole_62 rfl ⟨Nat.zero_le _, Nat.zero_le _⟩ ?_
      obtain ⟨v8, h8, hf⟩ := ob hf
      refine x_last hx hb hK hP hD hS 11 rfl h8 dX0_makeWhole_65 (fun H locs hP hD hS => ?_)
      have hP : va_P (xD E) vwCl (wE E q f (Ev_set_rest (Ev_set_whole u.2.2.2 v5) v8) z) H := hP
      have hD : va_D A (wE E q f (Ev_set_rest (Ev_set_whole u.2.2.2 v5) v8) z) := hD
      refine lv_lload_n hx hb dX0_makeWhole_66 rfl (lv_at hl 2 rfl) ?_
      refine lv_aload_n hx hb dX0_makeWhole_67 rfl (lv_at hl 0 rfl) ?_
      refine x_get hx hb hts inX0_makeWhole_0 hown hK hP 0 rfl rfl 3 (by decide) mX0_makeWhole_7 rfl dX0_makeWhole_68 ?_
      refine lv_iload hx hb dX0_makeWhole_71 (lv_at hl 4 rfl) ?_
      obtain ⟨v9, h9, hf⟩ := ob hf
      refine x_lald hx hb hK hP 9 rfl h9 dX0_makeWhole_73 ?_
      refine lv_ladd hx hb dX0_makeWhole_74 ?_
      refine lv_lstore_n (lv' := [(3, .long (u.1 + v9)), (0, .ref (q 0)), (1, .long x1), (5, .long u.2.1), (7, .int u.2.2.1)]) hx hb dX0_makeWhole_75 rfl hl (by decide) rfl (fun ls hl => ?_)
      refine lv_lload hx hb dX0_makeWhole_76 (lv_at hl 3 rfl) ?_
      refine lv_aload_n hx hb dX0_makeWhole_78 rfl (lv_at hl 1 rfl) ?_
      refine x_get hx hb hts inX0_makeWhole_0 hown hK hP 0 rfl rfl 5 (by decide) mX0_makeWhole_6 rfl dX0_makeWhole_79 ?_
      refine lv_iload hx hb dX0_makeWhole_82 (lv_at hl 4 rfl) ?_
      obtain ⟨v10, h10, hf⟩ := ob hf
      refine x_lald hx hb hK hP 10 rfl h10 dX0_makeWhole_84 ?_
      refine lv_ladd hx hb dX0_makeWhole_85 ?_
      refine lv_lstore (lv' := [(5, .long (u.2.1 + v10)), (3, .long (u.1 + v9)), (0, .ref (q 0)), (1, .long x1), (7, .int u.2.2.1)]) hx hb dX0_makeWhole_86 hl (by decide) rfl (fun ls hl => ?_)
      refine lv_iinc (v := (u.2.2.1 + (1 : Int32))) (lv' := [(7, .int (u.2.2.1 + (1 : Int32))), (5, .long (u.2.1 + v10)), (3, .long (u.1 + v9)), (0, .ref (q 0)), (1, .long x1)]) hx hb dX0_makeWhole_88 hl (k := 4) rfl rfl (by decide) rfl (fun ls hl => ?_)
      refine lv_goto (tgt := 21) hx hb dX0_makeWhole_91 (by decide) ?_
      exact ih ((u.1 + v9), (u.2.1 + v10), (u.2.2.1 + (1 : Int32)), (Ev_set_rest (Ev_set_whole u.2.2.2 v5) v8)) _ hf _ _ hP hD hS ls (lv_sub hl [3, 4, 2, 1, 0] rfl) kx
def gX0_makeWhole_117 (z : Fo) (x1 : Int64) (x3 : Int64) (x5 : Int64) (x7 : Int64) (rec : (Int32 × Ev) → Option (Int32 × Ev)) (u : Int32 × Ev) : Option (Int32 × Ev) :=
  (fX0_spaces u.2 z).bind fun v1 =>
  (if v1 ≤ u.1 then
  some (u.1, u.2)
  else (if x7 ≤ (Int32.toInt64 u.1) then
  some (u.1, u.2)
  else (fX0_firstOfGreatestRest u.2 z).bind fun v4 =>
  (rdJ (Ev_whole u.2) 6 v4).bind fun v5 =>
  (wrJ (Ev_whole u.2) 6 v4 (v5 + (1 : Int64))).bind fun v6 =>
  (wrJ (Ev_rest u.2) 6 v4 (-1 : Int64)).bind fun v7 =>
  rec ((u.1 + (1 : Int32)), (Ev_set_rest (Ev_set_whole u.2 v6) v7))))
set_option maxHeartbeats 4000000 in
set_option maxRecDepth 100000 in
theorem wX0_makeWhole_117 {p : Program} {l : Launch} {e : Env} {s : State} {m : MethodId} {args : Array Value} {below : List Frame} {meth : Method} {c : Code} {Q : State → Prop} (S : CallFix p m c cX0_makeWhole 11 s args wsX0_makeWhole RX0) (E : xG) (hK : xK E s) (q : Nat → Nat) (f : Nat → Nat) (z : Fo) (x1 : Int64) (x3 : Int64) (x5 : Int64) (x7 : Int64) (A : Nat → Prop) (H0 : Heap) : ∀ (n : Nat) (u : Int32 × Ev) (r : Int32 × Ev), lp (gX0_makeWhole_117 z x1 x3 x5 x7) n u = some r → ∀ (H : Heap) (locs : List Loc), va_P (xD E) vwCl (wE E q f u.2 z) H → va_D A (wE E q f u.2 z) → va_S A H0 H locs → ∀ (ls : Array Slot), lv_has ls 11 [(0, .ref (q 0)), (1, .long x1), (3, .long x3), (5, .long x5), (7, .long x7), (9, .int u.1)] → (∀ (H : Heap) (locs : List Loc), va_P (xD E) vwCl (wE E q f r.2 z) H → va_D A (wE E q f r.2 z) → va_S A H0 H locs → ∀ (ls : Array Slot), lv_has ls 11 [(0, .ref (q 0)), (1, .long x1), (3, .long x3), (5, .long x5), (7, .long x7), (9, .int r.1)] → W p l e rmX0_makeWhole s m args below meth c H locs 0 0 Q (F0 m 168 ls [])) → W p l e rmX0_makeWhole s m args below meth c H locs 0 0 Q (F0 m 117 ls []) := by
  obtain ⟨hx, hb, hml, hown, hts⟩ := id S
  intro n
  induction n with
  | zero =>
    intro u r hf
    exact absurd (show (none : Option _) = some r from hf) (fun q => by cases q)
  | succ n ih =>
    intro u r hf H locs hP hD hS ls hl kx
    have hf : gX0_makeWhole_117 z x1 x3 x5 x7 (lp (gX0_makeWhole_117 z x1 x3 x5 x7) n) u = some r := hf
    unfold gX0_makeWhole_117 at hf
    refine lv_iload hx hb dX0_makeWhole_117 (lv_at hl 5 rfl) ?_
    refine lv_aload_n hx hb dX0_makeWhole_119 rfl (lv_at hl 0 rfl) ?_
    obtain ⟨v1, h1, hf⟩ := ob hf
    refine x_pV (As := []) (rest := [.int u.1]) S hK (kX0_spaces l E q f u.2 z h1) (cwV 0 hts gX0_makeWhole_X0_spaces rfl rfl rfl (by decide +kernel) ⟨Nat.le_of_ble_eq_true rfl, Nat.le_of_ble_eq_true rfl⟩) hP 0 rfl rfl rfl rfl hl.1 (Nat.le_of_ble_eq_true rfl) dX0_makeWhole_120 rfl ⟨Nat.zero_le _, Nat.zero_le _⟩ ?_
    refine lv_icmp_ge (tgt := 168) hx hb dX0_makeWhole_123 (by decide) (fun c2 => ?_) (fun c2 => ?_)
    · have hf := (if_pos c2).symm.trans hf
      obtain rfl := Option.some.inj hf
      exact kx _ _ hP hD hS ls (lv_sub hl [0, 1, 2, 3, 4, 5] rfl)
    · have hf := (if_neg c2).symm.trans hf
      refine lv_iload hx hb dX0_makeWhole_126 (lv_at hl 5 rfl) ?_
      refine lv_i2l (v := (Int32.toInt64 u.1)) hx hb dX0_makeWhole_128 rfl ?_
      refine lv_lload hx hb dX0_makeWhole_129 (lv_at hl 4 rfl) ?_
      refine x_lif_ge (tgt := 168) hx hb dX0_makeWhole_131 dX0_makeWhole_132 (by decide) (fun c3 => ?_) (fun c3 => ?_)
      · have hf := (if_pos c3).symm.trans hf
        obtain rfl := Option.some.inj hf
        exact kx _ _ hP hD hS ls (lv_sub hl [0, 1, 2, 3, 4, 5] rfl)
      · have hf := (if_neg c3).symm.trans hf
        refine lv_aload_n hx hb dX0_makeWhole_135 rfl (lv_at hl 0 rfl) ?_
        obtain ⟨v4, h4, hf⟩ := ob hf
        refine x_pV (As := []) (rest := []) S hK (kX0_firstOfGreatestRest l E q f u.2 z h4) (cwV 0 hts gX0_makeWhole_X0_firstOfGreatestRest rfl rfl rfl (by decide +kernel) ⟨Nat.le_of_ble_eq_true rfl, Nat.le_of_ble_eq_true rfl⟩) hP 0 rfl rfl rfl rfl hl.1 (Nat.le_of_ble_eq_true rfl) dX0_makeWhole_136 rfl ⟨Nat.zero_le _, Nat.zero_le _⟩ ?_
        refine lv_istore (lv' := [(10, .int v4), (0, .ref (q 0)), (1, .long x1), (3, .long x3), (5, .long x5), (7, .long x7), (9, .int u.1)]) hx hb dX0_makeWhole_139 hl (by decide) rfl (fun ls hl => ?_)
        refine lv_aload_n hx hb dX0_makeWhole_141 rfl (lv_at hl 1 rfl) ?_
        refine x_get hx hb hts inX0_makeWhole_0 hown hK hP 0 rfl rfl 5 (by decide) mX0_makeWhole_6 rfl dX0_makeWhole_142 ?_
        refine lv_iload hx hb dX0_makeWhole_145 (lv_at hl 0 rfl) ?_
        refine lv_dup2_11 hx hb dX0_makeWhole_147 rfl rfl ?_
        obtain ⟨v5, h5, hf⟩ := ob hf
        refine x_lald hx hb hK hP 10 rfl h5 dX0_makeWhole_148 ?_
        refine lv_lconst (v := 1) hx hb dX0_makeWhole_149 (by decide) ?_
        refine lv_ladd hx hb dX0_makeWhole_150 ?_
        obtain ⟨v6, h6, hf⟩ := ob hf
        refine x_last hx hb hK hP hD hS 10 rfl h6 dX0_makeWhole_151 (fun H locs hP hD hS => ?_)
        have hP : va_P (xD E) vwCl (wE E q f (Ev_set_whole u.2 v6) z) H := hP
        have hD : va_D A (wE E q f (Ev_set_whole u.2 v6) z) := hD
        refine lv_aload_n hx hb dX0_makeWhole_152 rfl (lv_at hl 1 rfl) ?_
        refine x_get hx hb hts inX0_makeWhole_0 hown hK hP 0 rfl rfl 6 (by decide) mX0_makeWhole_8 rfl dX0_makeWhole_153 ?_
        refine lv_iload hx hb dX0_makeWhole_156 (lv_at hl 0 rfl) ?_
        refine lv_ldc2 hx hb hown (hts _ mX0_makeWhole_10) dX0_makeWhole_158 ?_
        obtain ⟨v7, h7, hf⟩ := ob hf
        refine x_last hx hb hK hP hD hS 11 rfl h7 dX0_makeWhole_161 (fun H locs hP hD hS => ?_)
        have hP : va_P (xD E) vwCl (wE E q f (Ev_set_rest (Ev_set_whole u.2 v6) v7) z) H := hP
        have hD : va_D A (wE E q f (Ev_set_rest (Ev_set_whole u.2 v6) v7) z) := hD
        refine lv_iinc (v := (u.1 + (1 : Int32))) (lv' := [(9, .int (u.1 + (1 : Int32))), (10, .int v4), (0, .ref (q 0)), (1, .long x1), (3, .long x3), (5, .long x5), (7, .long x7)]) hx hb dX0_makeWhole_162 hl (k := 6) rfl rfl (by decide) rfl (fun ls hl => ?_)
        refine lv_goto (tgt := 117) hx hb dX0_makeWhole_165 (by decide) ?_
        exact ih ((u.1 + (1 : Int32)), (Ev_set_rest (Ev_set_whole u.2 v6) v7)) _ hf _ _ hP hD hS ls (lv_sub hl [2, 3, 4, 5, 6, 0] rfl) kx
def fX0_makeWhole (ev : Ev) (z : Fo) : Option Ev :=
  (lp (gX0_makeWhole_21 z (if ((8 : Int64) * (Ev_below ev)) < (1 : Int64) then (1 : Int64) else ((8 : Int64) * (Ev_below ev)))) 1000 ((0 : Int64), (0 : Int64), (0 : Int32), ev)).bind fun v1 =>
  (fJ9_floorDiv_f86c9 (((2 : Int64) * v1.1) + (if ((8 : Int64) * (Ev_below ev)) < (1 : Int64) then (1 : Int64) else ((8 : Int64) * (Ev_below ev)))) ((2 : Int64) * (if ((8 : Int64) * (Ev_below ev)) < (1 : Int64) then (1 : Int64) else ((8 : Int64) * (Ev_below ev))))).bind fun v2 =>
  (lp (gX0_makeWhole_117 z (if ((8 : Int64) * (Ev_below ev)) < (1 : Int64) then (1 : Int64) else ((8 : Int64) * (Ev_below ev))) v1.1 v1.2.1 (v2 - v1.2.1)) 1000 ((0 : Int32), v1.2.2.2)).bind fun v3 =>
  some v3.2
set_option maxHeartbeats 4000000 in
set_option maxRecDepth 100000 in
theorem kX0_makeWhole (l : Launch) (E : xG) (q : Nat → Nat) (f : Nat → Nat) (ev : Ev) (z : Fo) {r : Ev} (hf : fX0_makeWhole ev z = some r) : xMut l yX0_makeWhole wsX0_makeWhole rmX0_makeWhole E [.ref (q 0)] (wE E q f ev z) none (wE E q f r z) := by
  refine Met.ofW (cc := cX0_makeWhole) (maxL := 11) (ret := none) (by decide) rfl ?_
  intro p e s m args below meth c s₁ B hml hv
  obtain ⟨rfl, hP, hK, hD0⟩ := hv
  have hx := B.exec
  have hb := B.bytes
  have hr := B.returns
  have hts := atoms_spec (ws := wsX0_makeWhole) B.pre
  have hown : s.vm.findClass RX0 = some m.cls := findClass_of_methodNamed B.named
  have hlk := B.notSynchronized
  have S : CallFix p m c cX0_makeWhole 11 s _ wsX0_makeWhole RX0 := ⟨hx, hb, hml, hown, hts⟩
  have hl := lv_entry ([.ref (q 0)]) (n := 11) (Nat.le_of_ble_eq_true rfl)
  rw [lg_entry_eq]
  generalize (lg_sl ([.ref (q 0)]) ++ List.replicate (11 - (lg_sl ([.ref (q 0)])).length) Slot.unset).toArray = ls at hl ⊢
  have hl : lv_has ls 11 [(0, .ref (q 0))] := hl
  have hD := xA.self hD0
  have hS : va_S (xA (wE E q f ev z)) s.heap s.heap [] := va_S.rf
  show W p l e rmX0_makeWhole s m _ below meth c s.heap [] 0 0 _ _
  generalize hA : xA (wE E q f ev z) = A at hD hS ⊢
  unfold fX0_makeWhole at hf
  refine lv_lconst (v := 1) hx hb dX0_makeWhole_0 (by decide) ?_
  refine lv_ldc2 hx hb hown (hts _ mX0_makeWhole_0) dX0_makeWhole_1 ?_
  refine lv_aload_n hx hb dX0_makeWhole_4 rfl (lv_at hl 0 rfl) ?_
  refine x_get hx hb hts inX0_makeWhole_0 hown hK hP 0 rfl rfl 4 (by decide) mX0_makeWhole_1 rfl dX0_makeWhole_5 ?_
  refine lv_lmul hx hb dX0_makeWhole_8 ?_
  refine va_mmax_long hx hb (by rw [hml]; exact hl.1.symm) hown (hts _ mX0_makeWhole_2) (hts _ mX0_makeWhole_3) (hts _ mX0_makeWhole_4) (hts _ mX0_makeWhole_5) (Nat.le_of_ble_eq_true rfl) (Nat.le_of_ble_eq_true rfl) (Nat.zero_le _) (Nat.zero_le _) dX0_makeWhole_9 ?_
  refine lv_lstore_n (lv' := [(1, .long (if ((8 : Int64) * (Ev_below ev)) < (1 : Int64) then (1 : Int64) else ((8 : Int64) * (Ev_below ev)))), (0, .ref (q 0))]) hx hb dX0_makeWhole_12 rfl hl (by decide) rfl (fun ls hl => ?_)
  refine lv_lconst (v := 0) hx hb dX0_makeWhole_13 (by decide) ?_
  refine lv_lstore_n (lv' := [(3, .long (0 : Int64)), (1, .long (if ((8 : Int64) * (Ev_below ev)) < (1 : Int64) then (1 : Int64) else ((8 : Int64) * (Ev_below ev)))), (0, .ref (q 0))]) hx hb dX0_makeWhole_14 rfl hl (by decide) rfl (fun ls hl => ?_)
  refine lv_lconst (v := 0) hx hb dX0_makeWhole_15 (by decide) ?_
  refine lv_lstore (lv' := [(5, .long (0 : Int64)), (3, .long (0 : Int64)), (1, .long (if ((8 : Int64) * (Ev_below ev)) < (1 : Int64) then (1 : Int64) else ((8 : Int64) * (Ev_below ev)))), (0, .ref (q 0))]) hx hb dX0_makeWhole_16 hl (by decide) rfl (fun ls hl => ?_)
  refine lv_iconst (v := 0) hx hb dX0_makeWhole_18 (by decide) ?_
  refine lv_istore (lv' := [(7, .int (0 : Int32)), (5, .long (0 : Int64)), (3, .long (0 : Int64)), (1, .long (if ((8 : Int64) * (Ev_below ev)) < (1 : Int64) then (1 : Int64) else ((8 : Int64) * (Ev_below ev)))), (0, .ref (q 0))]) hx hb dX0_makeWhole_19 hl (by decide) rfl (fun ls hl => ?_)
  obtain ⟨v1, h1, hf⟩ := ob hf
  refine wX0_makeWhole_21 S E hK q f z (if ((8 : Int64) * (Ev_below ev)) < (1 : Int64) then (1 : Int64) else ((8 : Int64) * (Ev_below ev))) _ _ 1000 _ _ h1 _ _ hP hD hS ls (lv_sub hl [4, 3, 2, 1, 0] rfl) (fun H locs hP hD hS ls hl => ?_)
  refine lv_ldc2 hx hb hown (hts _ mX0_makeWhole_9) dX0_makeWhole_94 ?_
  refine lv_lload_n hx hb dX0_makeWhole_97 rfl (lv_at hl 2 rfl) ?_
  refine lv_lmul hx hb dX0_makeWhole_98 ?_
  refine lv_lload_n hx hb dX0_makeWhole_99 rfl (lv_at hl 1 rfl) ?_
  refine lv_ladd hx hb dX0_makeWhole_100 ?_
  refine lv_ldc2 hx hb hown (hts _ mX0_makeWhole_9) dX0_makeWhole_101 ?_
  refine lv_lload_n hx hb dX0_makeWhole_104 rfl (lv_at hl 1 rfl) ?_
  refine lv_lmul hx hb dX0_makeWhole_105 ?_
  obtain ⟨v2, h2, hf⟩ := ob hf
  refine x_pS (As := [.long (((2 : Int64) * v1.1) + (if ((8 : Int64) * (Ev_below ev)) < (1 : Int64) then (1 : Int64) else ((8 : Int64) * (Ev_below ev)))), .long ((2 : Int64) * (if ((8 : Int64) * (Ev_below ev)) < (1 : Int64) then (1 : Int64) else ((8 : Int64) * (Ev_below ev))))]) (rest := []) S hK (kJ9_floorDiv_f86c9 l E (((2 : Int64) * v1.1) + (if ((8 : Int64) * (Ev_below ev)) < (1 : Int64) then (1 : Int64) else ((8 : Int64) * (Ev_below ev)))) ((2 : Int64) * (if ((8 : Int64) * (Ev_below ev)) < (1 : Int64) then (1 : Int64) else ((8 : Int64) * (Ev_below ev)))) h2) (va_cwS 2 hts gX0_makeWhole_J9_floorDiv_f86c9 rfl rfl rfl (by decide +kernel) ⟨Nat.le_of_ble_eq_true rfl, Nat.le_of_ble_eq_true rfl⟩) x_nil rfl hl.1 (Nat.le_of_ble_eq_true rfl) dX0_makeWhole_106 rfl ⟨Nat.zero_le _, Nat.zero_le _⟩ ?_
  refine lv_lload hx hb dX0_makeWhole_109 (lv_at hl 3 rfl) ?_
  refine lv_lsub hx hb dX0_makeWhole_111 ?_
  refine lv_lstore (lv' := [(7, .long (v2 - v1.2.1)), (0, .ref (q 0)), (1, .long (if ((8 : Int64) * (Ev_below ev)) < (1 : Int64) then (1 : Int64) else ((8 : Int64) * (Ev_below ev)))), (3, .long v1.1), (5, .long v1.2.1)]) hx hb dX0_makeWhole_112 hl (by decide) rfl (fun ls hl => ?_)
  refine lv_iconst (v := 0) hx hb dX0_makeWhole_114 (by decide) ?_
  refine lv_istore (lv' := [(9, .int (0 : Int32)), (7, .long (v2 - v1.2.1)), (0, .ref (q 0)), (1, .long (if ((8 : Int64) * (Ev_below ev)) < (1 : Int64) then (1 : Int64) else ((8 : Int64) * (Ev_below ev)))), (3, .long v1.1), (5, .long v1.2.1)]) hx hb dX0_makeWhole_115 hl (by decide) rfl (fun ls hl => ?_)
  obtain ⟨v3, h3, hf⟩ := ob hf
  refine wX0_makeWhole_117 S E hK q f z (if ((8 : Int64) * (Ev_below ev)) < (1 : Int64) then (1 : Int64) else ((8 : Int64) * (Ev_below ev))) v1.1 v1.2.1 (v2 - v1.2.1) _ _ 1000 _ _ h3 _ _ hP hD hS ls (lv_sub hl [2, 3, 4, 5, 1, 0] rfl) (fun H locs hP hD hS ls hl => ?_)
  obtain rfl := Option.some.inj hf
  subst hA
  exact x_vretM hx hb hr hlk hP hS dX0_makeWhole_168
abbrev rmX0_find : Room := { frames := 4, cells := 0, slots := 0, locals := 99 }
theorem mX0_find_0 : Cond.fieldLink RX0 38 "EvenWhite$Even" "found" "Z" ∈ wsX0_find := by decide +kernel
theorem inX0_find_0 : ∀ w ∈ u_ws RX0 TX0 8, w ∈ wsX0_find := by decide +kernel
def fX0_find (ev : Ev) (z : Fo) : Option Ev :=
  (if (Ev_found ev) = (0 : Int32) then
  (fX0_writeRows ev z).bind fun v2 =>
  (fX0_solveRows v2 z).bind fun v3 =>
  (fX0_makeWhole v3 z).bind fun v4 =>
  some (Ev_set_found v4 (1 : Int32))
  else some ev)
set_option maxHeartbeats 4000000 in
set_option maxRecDepth 100000 in
theorem kX0_find (l : Launch) (E : xG) (q : Nat → Nat) (f : Nat → Nat) (ev : Ev) (z : Fo) {r : Ev} (hf : fX0_find ev z = some r) : xMut l yX0_find wsX0_find rmX0_find E [.ref (q 0)] (wE E q f ev z) none (wE E q f r z) := by
  refine Met.ofW (cc := cX0_find) (maxL := 1) (ret := none) (by decide) rfl ?_
  intro p e s m args below meth c s₁ B hml hv
  obtain ⟨rfl, hP, hK, hD0⟩ := hv
  have hx := B.exec
  have hb := B.bytes
  have hr := B.returns
  have hts := atoms_spec (ws := wsX0_find) B.pre
  have hown : s.vm.findClass RX0 = some m.cls := findClass_of_methodNamed B.named
  have hlk := B.notSynchronized
  have S : CallFix p m c cX0_find 1 s _ wsX0_find RX0 := ⟨hx, hb, hml, hown, hts⟩
  have hl := lv_entry ([.ref (q 0)]) (n := 1) (Nat.le_of_ble_eq_true rfl)
  rw [lg_entry_eq]
  generalize (lg_sl ([.ref (q 0)]) ++ List.replicate (1 - (lg_sl ([.ref (q 0)])).length) Slot.unset).toArray = ls at hl ⊢
  have hl : lv_has ls 1 [(0, .ref (q 0))] := hl
  have hD := xA.self hD0
  have hS : va_S (xA (wE E q f ev z)) s.heap s.heap [] := va_S.rf
  show W p l e rmX0_find s m _ below meth c s.heap [] 0 0 _ _
  generalize hA : xA (wE E q f ev z) = A at hD hS ⊢
  unfold fX0_find at hf
  refine lv_aload_n hx hb dX0_find_0 rfl (lv_at hl 0 rfl) ?_
  refine x_get hx hb hts inX0_find_0 hown hK hP 0 rfl rfl 7 (by decide) mX0_find_0 rfl dX0_find_1 ?_
  refine lv_if_eq (tgt := 8) hx hb dX0_find_4 (by decide) (fun c1 => ?_) (fun c1 => ?_)
  · have hf := (if_pos c1).symm.trans hf
    refine lv_aload_n hx hb dX0_find_8 rfl (lv_at hl 0 rfl) ?_
    obtain ⟨v2, h2, hf⟩ := ob hf
    refine x_mR (ws' := wE E q f v2 z) (As := []) (rest := []) S hK (kX0_writeRows l E q f ev z h2) (cwV 0 hts gX0_find_X0_writeRows rfl rfl rfl (by decide +kernel) ⟨Nat.le_of_ble_eq_true rfl, Nat.le_of_ble_eq_true rfl⟩) hP hD hS 0 16 rfl rfl 0 rfl rfl rfl rfl hl.1 (Nat.le_of_ble_eq_true rfl) dX0_find_9 rfl ⟨Nat.zero_le _, Nat.zero_le _⟩ rfl (fun H locs hP hD hS => ?_)
    refine lv_aload_n hx hb dX0_find_12 rfl (lv_at hl 0 rfl) ?_
    obtain ⟨v3, h3, hf⟩ := ob hf
    refine x_mR (ws' := wE E q f v3 z) (As := []) (rest := []) S hK (kX0_solveRows l E q f v2 z h3) (cwV 0 hts gX0_find_X0_solveRows rfl rfl rfl (by decide +kernel) ⟨Nat.le_of_ble_eq_true rfl, Nat.le_of_ble_eq_true rfl⟩) hP hD hS 0 16 rfl rfl 0 rfl rfl rfl rfl hl.1 (Nat.le_of_ble_eq_true rfl) dX0_find_13 rfl ⟨Nat.zero_le _, Nat.zero_le _⟩ rfl (fun H locs hP hD hS => ?_)
    refine lv_aload_n hx hb dX0_find_16 rfl (lv_at hl 0 rfl) ?_
    obtain ⟨v4, h4, hf⟩ := ob hf
    refine x_mR (ws' := wE E q f v4 z) (As := []) (rest := []) S hK (kX0_makeWhole l E q f v3 z h4) (cwV 0 hts gX0_find_X0_makeWhole rfl rfl rfl (by decide +kernel) ⟨Nat.le_of_ble_eq_true rfl, Nat.le_of_ble_eq_true rfl⟩) hP hD hS 0 16 rfl rfl 0 rfl rfl rfl rfl hl.1 (Nat.le_of_ble_eq_true rfl) dX0_find_17 rfl ⟨Nat.zero_le _, Nat.zero_le _⟩ rfl (fun H locs hP hD hS => ?_)
    refine lv_aload_n hx hb dX0_find_20 rfl (lv_at hl 0 rfl) ?_
    refine lv_iconst (v := 1) hx hb dX0_find_21 (by decide) ?_
    refine x_putf hx hb hts inX0_find_0 tyX0_ok nmX0 hown hK hP hD hS 0 rfl rfl 7 (by decide) mX0_find_0 rfl rfl rfl (Nat.le_of_ble_eq_true rfl) dX0_find_22 (fun H locs hP hD hS => ?_)
    have hP : va_P (xD E) vwCl (wE E q f (Ev_set_found v4 (1 : Int32)) z) H := hP
    have hD : va_D A (wE E q f (Ev_set_found v4 (1 : Int32)) z) := hD
    obtain rfl := Option.some.inj hf
    subst hA
    exact x_vretM hx hb hr hlk hP hS dX0_find_25
  · have hf := (if_neg c1).symm.trans hf
    obtain rfl := Option.some.inj hf
    subst hA
    exact x_vretM hx hb hr hlk hP hS dX0_find_7
