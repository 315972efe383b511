
abbrev rmX6_body : Room := { frames := 2, cells := 0, slots := 0, locals := 46 }
theorem mX6_body_0 : Cond.constantLong RX6 61 (50) ∈ wsX6_body := by decide +kernel
theorem mX6_body_1 : Cond.constant RX6 197 (-1000000002) ∈ wsX6_body := by decide +kernel
theorem mX6_body_2 : Cond.constant RX6 190 (-1000000001) ∈ wsX6_body := by decide +kernel
def fX6_body (mo : Mo) (x1 : Int32) (x2 : Int32) : Option (Int32 × Mo) :=
  (fX6_isLetter mo x1).bind fun v1 =>
  (if v1 = (0 : Int32) then
  some ((-1000000001 : Int32), mo)
  else (fX6_in (Int32.toInt64 x2) (1 : Int64) (50 : Int64)).bind fun v3 =>
  ((if v3 = (0 : Int32) then
  some ((-1000000002 : Int32), mo)
  else (fX6_become mo ((48 : Int32) + x1) x2).bind fun v6 =>
  some (v6.1, v6.2))).bind fun v4 =>
  some (v4.1, v4.2))
set_option maxHeartbeats 4000000 in
set_option maxRecDepth 100000 in
theorem kX6_body (l : Launch) (E : xG) (uq : Nat → Nat) (mo : Mo) (x1 : Int32) (x2 : Int32) {r : (Int32 × Mo)} (hf : fX6_body mo x1 x2 = some r) : xMut l yX6_body wsX6_body rmX6_body E [.ref (uq 0), .int x1, .int x2] (wM E uq mo) (some (.int r.1)) (wM E uq r.2) := by
  refine Met.ofW (cc := cX6_body) (maxL := 3) (ret := (some .int)) (by decide) rfl ?_
  intro p e s m args below meth c s₁ B hml hv
  obtain ⟨rfl, hP, hK, hD0⟩ := hv
  have hx := B.exec
  have hb := B.bytes
  have hr := B.returns
  have hts := atoms_spec (ws := wsX6_body) B.pre
  have hown : s.vm.findClass RX6 = some m.cls := findClass_of_methodNamed B.named
  have hlk := B.notSynchronized
  have S : CallFix p m c cX6_body 3 s _ wsX6_body RX6 := ⟨hx, hb, hml, hown, hts⟩
  have hl := lv_entry ([.ref (uq 0), .int x1, .int x2]) (n := 3) (Nat.le_of_ble_eq_true rfl)
  rw [lg_entry_eq]
  generalize (lg_sl ([.ref (uq 0), .int x1, .int x2]) ++ List.replicate (3 - (lg_sl ([.ref (uq 0), .int x1, .int x2])).length) Slot.unset).toArray = ls at hl ⊢
  have hl : lv_has ls 3 [(0, .ref (uq 0)), (1, .int x1), (2, .int x2)] := hl
  have hD := xA.self hD0
  have hS : va_S (xA (wM E uq mo)) s.heap s.heap [] := va_S.rf
  show W p l e rmX6_body s m _ below meth c s.heap [] 0 0 _ _
  generalize hA : xA (wM E uq mo) = A at hD hS ⊢
  unfold fX6_body at hf
  refine lv_aload_n hx hb dX6_body_0 rfl (lv_at hl 0 rfl) ?_
  refine lv_iload_n hx hb dX6_body_1 rfl (lv_at hl 1 rfl) ?_
  obtain ⟨v1, h1, hf⟩ := ob hf
  refine x_pV (As := [.int x1]) (rest := []) S hK (kX6_isLetter l E uq mo x1 h1) (cwV 1 hts gX6_body_X6_isLetter rfl rfl rfl (by decide +kernel) ⟨Nat.le_of_ble_eq_true rfl, Nat.le_of_ble_eq_true rfl⟩) hP 0 rfl rfl rfl rfl hl.1 (Nat.le_of_ble_eq_true rfl) dX6_body_2 rfl ⟨Nat.zero_le _, Nat.zero_le _⟩ ?_
  refine lv_if_ne (tgt := 11) hx hb dX6_body_5 (by decide) (fun c2 => ?_) (fun c2 => ?_)
  · have hf := (if_neg c2).symm.trans hf
    refine lv_iload_n hx hb dX6_body_11 rfl (lv_at hl 2 rfl) ?_
    refine lv_i2l (v := (Int32.toInt64 x2)) hx hb dX6_body_12 rfl ?_
    refine lv_lconst (v := 1) hx hb dX6_body_13 (by decide) ?_
    refine lv_ldc2 hx hb hown (hts _ mX6_body_0) dX6_body_14 ?_
    obtain ⟨v3, h3, hf⟩ := ob hf
    refine x_pS (As := [.long (Int32.toInt64 x2), .long (1 : Int64), .long (50 : Int64)]) (rest := []) S hK (kX6_in l E (Int32.toInt64 x2) (1 : Int64) (50 : Int64) h3) (va_cwS 3 hts gX6_body_X6_in rfl rfl rfl (by decide +kernel) ⟨Nat.le_of_ble_eq_true rfl, Nat.le_of_ble_eq_true rfl⟩) x_nil rfl hl.1 (Nat.le_of_ble_eq_true rfl) dX6_body_17 rfl ⟨Nat.zero_le _, Nat.zero_le _⟩ ?_
    obtain ⟨v4, h4, hf⟩ := ob hf
    refine x_cutH (fun H locs ls => va_P (xD E) vwCl (wM E uq v4.2) H ∧ va_D A (wM E uq v4.2) ∧ va_S A s.heap H locs ∧ lv_has ls 3 [(0, .ref (uq 0)), (1, .int x1), (2, .int x2)]) (pc := 37) (st := [.int v4.1]) (fun H locs ls hq => ?_) (fun hj => ?_)
    · obtain ⟨hP, hD, hS, hl⟩ := hq
      obtain rfl := Option.some.inj hf
      subst hA
      exact x_iretM hx hb hr hlk (vp_nar_int _) hP hS dX6_body_37
    · have hf := h4
      refine lv_if_eq (tgt := 35) hx hb dX6_body_20 (by decide) (fun c5 => ?_) (fun c5 => ?_)
      · have hf := (if_pos c5).symm.trans hf
        refine lv_ldc hx hb hown (hts _ mX6_body_1) dX6_body_35 ?_
        obtain rfl := Option.some.inj hf
        exact hj _ _ ls ⟨hP, hD, hS, lv_sub hl [0, 1, 2] rfl⟩
      · have hf := (if_neg c5).symm.trans hf
        refine lv_aload_n hx hb dX6_body_23 rfl (lv_at hl 0 rfl) ?_
        refine lv_bipush (v := 48) hx hb dX6_body_24 (by decide) ?_
        refine lv_iload_n hx hb dX6_body_26 rfl (lv_at hl 1 rfl) ?_
        refine lv_iadd hx hb dX6_body_27 ?_
        refine lv_iload_n hx hb dX6_body_28 rfl (lv_at hl 2 rfl) ?_
        obtain ⟨v6, h6, hf⟩ := ob hf
        refine x_mR (ws' := wM E uq v6.2) (As := [.int ((48 : Int32) + x1), .int x2]) (rest := []) S hK (kX6_become l E uq mo ((48 : Int32) + x1) x2 h6) (cwV 2 hts gX6_body_X6_become rfl rfl rfl (by decide +kernel) ⟨Nat.le_of_ble_eq_true rfl, Nat.le_of_ble_eq_true rfl⟩) hP hD hS 0 14 rfl rfl 0 rfl rfl rfl rfl hl.1 (Nat.le_of_ble_eq_true rfl) dX6_body_29 rfl ⟨Nat.zero_le _, Nat.zero_le _⟩ rfl (fun H locs hP hD hS => ?_)
        refine lv_goto (tgt := 37) hx hb dX6_body_32 (by decide) ?_
        obtain rfl := Option.some.inj hf
        exact hj _ _ ls ⟨hP, hD, hS, lv_sub hl [0, 1, 2] rfl⟩
  · have hf := (if_pos c2).symm.trans hf
    refine lv_ldc hx hb hown (hts _ mX6_body_2) dX6_body_8 ?_
    obtain rfl := Option.some.inj hf
    subst hA
    exact x_iretM hx hb hr hlk (vp_nar_int _) hP hS dX6_body_10
abbrev rmX6_bound : Room := { frames := 2, cells := 0, slots := 0, locals := 44 }
theorem mX6_bound_0 : Cond.constant RX6 197 (-1000000002) ∈ wsX6_bound := by decide +kernel
theorem mX6_bound_1 : Cond.constantLong RX6 221 (500) ∈ wsX6_bound := by decide +kernel
theorem mX6_bound_2 : Cond.constantLong RX6 219 (60) ∈ wsX6_bound := by decide +kernel
def fX6_bound (mo : Mo) (x1 : Int32) (x2 : Int32) : Option (Int32 × Mo) :=
  (fX6_in (Int32.toInt64 x1) (0 : Int64) (1 : Int64)).bind fun v1 =>
  (if v1 = (0 : Int32) then
  some ((-1000000002 : Int32), mo)
  else (fX6_in (Int32.toInt64 x2) (if x1 = (0 : Int32) then (1 : Int64) else (0 : Int64)) (if x1 = (0 : Int32) then (60 : Int64) else (500 : Int64))).bind fun v5 =>
  (if v5 = (0 : Int32) then
  some ((-1000000002 : Int32), mo)
  else (fX6_become mo (if x1 = (0 : Int32) then (61 : Int32) else (62 : Int32)) x2).bind fun v8 =>
  some (v8.1, v8.2)))
set_option maxHeartbeats 4000000 in
set_option maxRecDepth 100000 in
theorem kX6_bound (l : Launch) (E : xG) (uq : Nat → Nat) (mo : Mo) (x1 : Int32) (x2 : Int32) {r : (Int32 × Mo)} (hf : fX6_bound mo x1 x2 = some r) : xMut l yX6_bound wsX6_bound rmX6_bound E [.ref (uq 0), .int x1, .int x2] (wM E uq mo) (some (.int r.1)) (wM E uq r.2) := by
  refine Met.ofW (cc := cX6_bound) (maxL := 3) (ret := (some .int)) (by decide) rfl ?_
  intro p e s m args below meth c s₁ B hml hv
  obtain ⟨rfl, hP, hK, hD0⟩ := hv
  have hx := B.exec
  have hb := B.bytes
  have hr := B.returns
  have hts := atoms_spec (ws := wsX6_bound) B.pre
  have hown : s.vm.findClass RX6 = some m.cls := findClass_of_methodNamed B.named
  have hlk := B.notSynchronized
  have S : CallFix p m c cX6_bound 3 s _ wsX6_bound RX6 := ⟨hx, hb, hml, hown, hts⟩
  have hl := lv_entry ([.ref (uq 0), .int x1, .int x2]) (n := 3) (Nat.le_of_ble_eq_true rfl)
  rw [lg_entry_eq]
  generalize (lg_sl ([.ref (uq 0), .int x1, .int x2]) ++ List.replicate (3 - (lg_sl ([.ref (uq 0), .int x1, .int x2])).length) Slot.unset).toArray = ls at hl ⊢
  have hl : lv_has ls 3 [(0, .ref (uq 0)), (1, .int x1), (2, .int x2)] := hl
  have hD := xA.self hD0
  have hS : va_S (xA (wM E uq mo)) s.heap s.heap [] := va_S.rf
  show W p l e rmX6_bound s m _ below meth c s.heap [] 0 0 _ _
  generalize hA : xA (wM E uq mo) = A at hD hS ⊢
  unfold fX6_bound at hf
  refine lv_iload_n hx hb dX6_bound_0 rfl (lv_at hl 1 rfl) ?_
  refine lv_i2l (v := (Int32.toInt64 x1)) hx hb dX6_bound_1 rfl ?_
  refine lv_lconst (v := 0) hx hb dX6_bound_2 (by decide) ?_
  refine lv_lconst (v := 1) hx hb dX6_bound_3 (by decide) ?_
  obtain ⟨v1, h1, hf⟩ := ob hf
  refine x_pS (As := [.long (Int32.toInt64 x1), .long (0 : Int64), .long (1 : Int64)]) (rest := []) S hK (kX6_in l E (Int32.toInt64 x1) (0 : Int64) (1 : Int64) h1) (va_cwS 3 hts gX6_bound_X6_in rfl rfl rfl (by decide +kernel) ⟨Nat.le_of_ble_eq_true rfl, Nat.le_of_ble_eq_true rfl⟩) x_nil rfl hl.1 (Nat.le_of_ble_eq_true rfl) dX6_bound_4 rfl ⟨Nat.zero_le _, Nat.zero_le _⟩ ?_
  refine lv_if_eq (tgt := 40) hx hb dX6_bound_7 (by decide) (fun c2 => ?_) (fun c2 => ?_)
  · have hf := (if_pos c2).symm.trans hf
    refine lv_ldc hx hb hown (hts _ mX6_bound_0) dX6_bound_40 ?_
    obtain rfl := Option.some.inj hf
    subst hA
    exact x_iretM hx hb hr hlk (vp_nar_int _) hP hS dX6_bound_42
  · have hf := (if_neg c2).symm.trans hf
    refine lv_iload_n hx hb dX6_bound_10 rfl (lv_at hl 2 rfl) ?_
    refine lv_i2l (v := (Int32.toInt64 x2)) hx hb dX6_bound_11 rfl ?_
    refine lv_iload_n hx hb dX6_bound_12 rfl (lv_at hl 1 rfl) ?_
    refine x_cut (pc := 21) (ls := ls) (st := [.long (if x1 = (0 : Int32) then (1 : Int64) else (0 : Int64)), .long (Int32.toInt64 x2)]) ?_ (fun hj => ?_)
    · refine lv_iload_n hx hb dX6_bound_21 rfl (lv_at hl 1 rfl) ?_
      refine x_cut (pc := 34) (ls := ls) (st := [.long (if x1 = (0 : Int32) then (60 : Int64) else (500 : Int64)), .long (if x1 = (0 : Int32) then (1 : Int64) else (0 : Int64)), .long (Int32.toInt64 x2)]) ?_ (fun hj => ?_)
      · obtain ⟨v5, h5, hf⟩ := ob hf
        refine x_pS (As := [.long (Int32.toInt64 x2), .long (if x1 = (0 : Int32) then (1 : Int64) else (0 : Int64)), .long (if x1 = (0 : Int32) then (60 : Int64) else (500 : Int64))]) (rest := []) S hK (kX6_in l E (Int32.toInt64 x2) (if x1 = (0 : Int32) then (1 : Int64) else (0 : Int64)) (if x1 = (0 : Int32) then (60 : Int64) else (500 : Int64)) h5) (va_cwS 3 hts gX6_bound_X6_in rfl rfl rfl (by decide +kernel) ⟨Nat.le_of_ble_eq_true rfl, Nat.le_of_ble_eq_true rfl⟩) x_nil rfl hl.1 (Nat.le_of_ble_eq_true rfl) dX6_bound_34 rfl ⟨Nat.zero_le _, Nat.zero_le _⟩ ?_
        refine lv_if_ne (tgt := 43) hx hb dX6_bound_37 (by decide) (fun c6 => ?_) (fun c6 => ?_)
        · have hf := (if_neg c6).symm.trans hf
          refine lv_aload_n hx hb dX6_bound_43 rfl (lv_at hl 0 rfl) ?_
          refine lv_iload_n hx hb dX6_bound_44 rfl (lv_at hl 1 rfl) ?_
          refine x_cut (pc := 55) (ls := ls) (st := [.int (if x1 = (0 : Int32) then (61 : Int32) else (62 : Int32)), .ref (uq 0)]) ?_ (fun hj => ?_)
          · refine lv_iload_n hx hb dX6_bound_55 rfl (lv_at hl 2 rfl) ?_
            obtain ⟨v8, h8, hf⟩ := ob hf
            refine x_mR (ws' := wM E uq v8.2) (As := [.int (if x1 = (0 : Int32) then (61 : Int32) else (62 : Int32)), .int x2]) (rest := []) S hK (kX6_become l E uq mo (if x1 = (0 : Int32) then (61 : Int32) else (62 : Int32)) x2 h8) (cwV 2 hts gX6_bound_X6_become rfl rfl rfl (by decide +kernel) ⟨Nat.le_of_ble_eq_true rfl, Nat.le_of_ble_eq_true rfl⟩) hP hD hS 0 14 rfl rfl 0 rfl rfl rfl rfl hl.1 (Nat.le_of_ble_eq_true rfl) dX6_bound_56 rfl ⟨Nat.zero_le _, Nat.zero_le _⟩ rfl (fun H locs hP hD hS => ?_)
            obtain rfl := Option.some.inj hf
            subst hA
            exact x_iretM hx hb hr hlk (vp_nar_int _) hP hS dX6_bound_59
          · refine lv_if_ne (tgt := 53) hx hb dX6_bound_45 (by decide) (fun c7 => ?_) (fun c7 => ?_)
            · refine lv_bipush (v := 62) hx hb dX6_bound_53 (by decide) ?_
              exact (by rw [if_neg c7] at hj; exact hj)
            · refine lv_bipush (v := 61) hx hb dX6_bound_48 (by decide) ?_
              refine lv_goto (tgt := 55) hx hb dX6_bound_50 (by decide) ?_
              exact (by rw [if_pos c7] at hj; exact hj)
        · have hf := (if_pos c6).symm.trans hf
          refine lv_ldc hx hb hown (hts _ mX6_bound_0) dX6_bound_40 ?_
          obtain rfl := Option.some.inj hf
          subst hA
          exact x_iretM hx hb hr hlk (vp_nar_int _) hP hS dX6_bound_42
      · refine lv_if_ne (tgt := 31) hx hb dX6_bound_22 (by decide) (fun c4 => ?_) (fun c4 => ?_)
        · refine lv_ldc2 hx hb hown (hts _ mX6_bound_1) dX6_bound_31 ?_
          exact (by rw [if_neg c4] at hj; exact hj)
        · refine lv_ldc2 hx hb hown (hts _ mX6_bound_2) dX6_bound_25 ?_
          refine lv_goto (tgt := 34) hx hb dX6_bound_28 (by decide) ?_
          exact (by rw [if_pos c4] at hj; exact hj)
    · refine lv_if_ne (tgt := 20) hx hb dX6_bound_13 (by decide) (fun c3 => ?_) (fun c3 => ?_)
      · refine lv_lconst (v := 0) hx hb dX6_bound_20 (by decide) ?_
        exact (by rw [if_neg c3] at hj; exact hj)
      · refine lv_lconst (v := 1) hx hb dX6_bound_16 (by decide) ?_
        refine lv_goto (tgt := 21) hx hb dX6_bound_17 (by decide) ?_
        exact (by rw [if_pos c3] at hj; exact hj)
abbrev rmX6_weight : Room := { frames := 2, cells := 0, slots := 0, locals := 46 }
theorem mX6_weight_0 : Cond.constant RX6 190 (-1000000001) ∈ wsX6_weight := by decide +kernel
theorem mX6_weight_1 : Cond.constantLong RX6 223 (4) ∈ wsX6_weight := by decide +kernel
theorem mX6_weight_2 : Cond.constant RX6 197 (-1000000002) ∈ wsX6_weight := by decide +kernel
def fX6_weight (mo : Mo) (x1 : Int32) (x2 : Int32) (x3 : Int32) : Option (Int32 × Mo) :=
  (fX6_isLetter mo x1).bind fun v1 =>
  (if v1 = (0 : Int32) then
  some ((-1000000001 : Int32), mo)
  else (fX6_isLetter mo x2).bind fun v3 =>
  (if v3 = (0 : Int32) then
  some ((-1000000001 : Int32), mo)
  else (fX6_in (Int32.toInt64 x3) (0 : Int64) (4 : Int64)).bind fun v5 =>
  ((if v5 = (0 : Int32) then
  some ((-1000000002 : Int32), mo)
  else (fX6_become mo (((51 : Int32) + ((3 : Int32) * x1)) + x2) x3).bind fun v8 =>
  some (v8.1, v8.2))).bind fun v6 =>
  some (v6.1, v6.2)))
set_option maxHeartbeats 4000000 in
set_option maxRecDepth 100000 in
theorem kX6_weight (l : Launch) (E : xG) (uq : Nat → Nat) (mo : Mo) (x1 : Int32) (x2 : Int32) (x3 : Int32) {r : (Int32 × Mo)} (hf : fX6_weight mo x1 x2 x3 = some r) : xMut l yX6_weight wsX6_weight rmX6_weight E [.ref (uq 0), .int x1, .int x2, .int x3] (wM E uq mo) (some (.int r.1)) (wM E uq r.2) := by
  refine Met.ofW (cc := cX6_weight) (maxL := 4) (ret := (some .int)) (by decide) rfl ?_
  intro p e s m args below meth c s₁ B hml hv
  obtain ⟨rfl, hP, hK, hD0⟩ := hv
  have hx := B.exec
  have hb := B.bytes
  have hr := B.returns
  have hts := atoms_spec (ws := wsX6_weight) B.pre
  have hown : s.vm.findClass RX6 = some m.cls := findClass_of_methodNamed B.named
  have hlk := B.notSynchronized
  have S : CallFix p m c cX6_weight 4 s _ wsX6_weight RX6 := ⟨hx, hb, hml, hown, hts⟩
  have hl := lv_entry ([.ref (uq 0), .int x1, .int x2, .int x3]) (n := 4) (Nat.le_of_ble_eq_true rfl)
  rw [lg_entry_eq]
  generalize (lg_sl ([.ref (uq 0), .int x1, .int x2, .int x3]) ++ List.replicate (4 - (lg_sl ([.ref (uq 0), .int x1, .int x2, .int x3])).length) Slot.unset).toArray = ls at hl ⊢
  have hl : lv_has ls 4 [(0, .ref (uq 0)), (1, .int x1), (2, .int x2), (3, .int x3)] := hl
  have hD := xA.self hD0
  have hS : va_S (xA (wM E uq mo)) s.heap s.heap [] := va_S.rf
  show W p l e rmX6_weight s m _ below meth c s.heap [] 0 0 _ _
  generalize hA : xA (wM E uq mo) = A at hD hS ⊢
  unfold fX6_weight at hf
  refine lv_aload_n hx hb dX6_weight_0 rfl (lv_at hl 0 rfl) ?_
  refine lv_iload_n hx hb dX6_weight_1 rfl (lv_at hl 1 rfl) ?_
  obtain ⟨v1, h1, hf⟩ := ob hf
  refine x_pV (As := [.int x1]) (rest := []) S hK (kX6_isLetter l E uq mo x1 h1) (cwV 1 hts gX6_weight_X6_isLetter rfl rfl rfl (by decide +kernel) ⟨Nat.le_of_ble_eq_true rfl, Nat.le_of_ble_eq_true rfl⟩) hP 0 rfl rfl rfl rfl hl.1 (Nat.le_of_ble_eq_true rfl) dX6_weight_2 rfl ⟨Nat.zero_le _, Nat.zero_le _⟩ ?_
  refine lv_if_eq (tgt := 16) hx hb dX6_weight_5 (by decide) (fun c2 => ?_) (fun c2 => ?_)
  · have hf := (if_pos c2).symm.trans hf
    refine lv_ldc hx hb hown (hts _ mX6_weight_0) dX6_weight_16 ?_
    obtain rfl := Option.some.inj hf
    subst hA
    exact x_iretM hx hb hr hlk (vp_nar_int _) hP hS dX6_weight_18
  · have hf := (if_neg c2).symm.trans hf
    refine lv_aload_n hx hb dX6_weight_8 rfl (lv_at hl 0 rfl) ?_
    refine lv_iload_n hx hb dX6_weight_9 rfl (lv_at hl 2 rfl) ?_
    obtain ⟨v3, h3, hf⟩ := ob hf
    refine x_pV (As := [.int x2]) (rest := []) S hK (kX6_isLetter l E uq mo x2 h3) (cwV 1 hts gX6_weight_X6_isLetter rfl rfl rfl (by decide +kernel) ⟨Nat.le_of_ble_eq_true rfl, Nat.le_of_ble_eq_true rfl⟩) hP 0 rfl rfl rfl rfl hl.1 (Nat.le_of_ble_eq_true rfl) dX6_weight_10 rfl ⟨Nat.zero_le _, Nat.zero_le _⟩ ?_
    refine lv_if_ne (tgt := 19) hx hb dX6_weight_13 (by decide) (fun c4 => ?_) (fun c4 => ?_)
    · have hf := (if_neg c4).symm.trans hf
      refine lv_iload_n hx hb dX6_weight_19 rfl (lv_at hl 3 rfl) ?_
      refine lv_i2l (v := (Int32.toInt64 x3)) hx hb dX6_weight_20 rfl ?_
      refine lv_lconst (v := 0) hx hb dX6_weight_21 (by decide) ?_
      refine lv_ldc2 hx hb hown (hts _ mX6_weight_1) dX6_weight_22 ?_
      obtain ⟨v5, h5, hf⟩ := ob hf
      refine x_pS (As := [.long (Int32.toInt64 x3), .long (0 : Int64), .long (4 : Int64)]) (rest := []) S hK (kX6_in l E (Int32.toInt64 x3) (0 : Int64) (4 : Int64) h5) (va_cwS 3 hts gX6_weight_X6_in rfl rfl rfl (by decide +kernel) ⟨Nat.le_of_ble_eq_true rfl, Nat.le_of_ble_eq_true rfl⟩) x_nil rfl hl.1 (Nat.le_of_ble_eq_true rfl) dX6_weight_25 rfl ⟨Nat.zero_le _, Nat.zero_le _⟩ ?_
      obtain ⟨v6, h6, hf⟩ := ob hf
      refine x_cutH (fun H locs ls => va_P (xD E) vwCl (wM E uq v6.2) H ∧ va_D A (wM E uq v6.2) ∧ va_S A s.heap H locs ∧ lv_has ls 4 [(0, .ref (uq 0)), (1, .int x1), (2, .int x2), (3, .int x3)]) (pc := 49) (st := [.int v6.1]) (fun H locs ls hq => ?_) (fun hj => ?_)
      · obtain ⟨hP, hD, hS, hl⟩ := hq
        obtain rfl := Option.some.inj hf
        subst hA
        exact x_iretM hx hb hr hlk (vp_nar_int _) hP hS dX6_weight_49
      · have hf := h6
        refine lv_if_eq (tgt := 47) hx hb dX6_weight_28 (by decide) (fun c7 => ?_) (fun c7 => ?_)
        · have hf := (if_pos c7).symm.trans hf
          refine lv_ldc hx hb hown (hts _ mX6_weight_2) dX6_weight_47 ?_
          obtain rfl := Option.some.inj hf
          exact hj _ _ ls ⟨hP, hD, hS, lv_sub hl [0, 1, 2, 3] rfl⟩
        · have hf := (if_neg c7).symm.trans hf
          refine lv_aload_n hx hb dX6_weight_31 rfl (lv_at hl 0 rfl) ?_
          refine lv_bipush (v := 51) hx hb dX6_weight_32 (by decide) ?_
          refine lv_iconst (v := 3) hx hb dX6_weight_34 (by decide) ?_
          refine lv_iload_n hx hb dX6_weight_35 rfl (lv_at hl 1 rfl) ?_
          refine lv_imul hx hb dX6_weight_36 ?_
          refine lv_iadd hx hb dX6_weight_37 ?_
          refine lv_iload_n hx hb dX6_weight_38 rfl (lv_at hl 2 rfl) ?_
          refine lv_iadd hx hb dX6_weight_39 ?_
          refine lv_iload_n hx hb dX6_weight_40 rfl (lv_at hl 3 rfl) ?_
          obtain ⟨v8, h8, hf⟩ := ob hf
          refine x_mR (ws' := wM E uq v8.2) (As := [.int (((51 : Int32) + ((3 : Int32) * x1)) + x2), .int x3]) (rest := []) S hK (kX6_become l E uq mo (((51 : Int32) + ((3 : Int32) * x1)) + x2) x3 h8) (cwV 2 hts gX6_weight_X6_become rfl rfl rfl (by decide +kernel) ⟨Nat.le_of_ble_eq_true rfl, Nat.le_of_ble_eq_true rfl⟩) hP hD hS 0 14 rfl rfl 0 rfl rfl rfl rfl hl.1 (Nat.le_of_ble_eq_true rfl) dX6_weight_41 rfl ⟨Nat.zero_le _, Nat.zero_le _⟩ rfl (fun H locs hP hD hS => ?_)
          refine lv_goto (tgt := 49) hx hb dX6_weight_44 (by decide) ?_
          obtain rfl := Option.some.inj hf
          exact hj _ _ ls ⟨hP, hD, hS, lv_sub hl [0, 1, 2, 3] rfl⟩
    · have hf := (if_pos c4).symm.trans hf
      refine lv_ldc hx hb hown (hts _ mX6_weight_0) dX6_weight_16 ?_
      obtain rfl := Option.some.inj hf
      subst hA
      exact x_iretM hx hb hr hlk (vp_nar_int _) hP hS dX6_weight_18
abbrev rmX6_mirrorNow : Room := { frames := 1, cells := 0, slots := 0, locals := 22 }
theorem mX6_mirrorNow_0 : Cond.fieldLink RX6 7 "EvenWhiteModel" "now" "[I" ∈ wsX6_mirrorNow := by decide +kernel
theorem inX6_mirrorNow_6 : ∀ w ∈ u_ws RX6 TX6 17, w ∈ wsX6_mirrorNow := by decide +kernel
def gX6_mirrorNow_2 (x1 : Int32) (rec : (Int32 × Mo) → Option (Int32 × Mo)) (u : Int32 × Mo) : Option (Int32 × Mo) :=
  (if (8 : Int32) ≤ u.1 then
  some (u.1, u.2)
  else (fX6_at x1 (0 : Int32) u.1).bind fun v2 =>
  (rdI (Mo_now u.2) 63 v2).bind fun v3 =>
  (fX6_at x1 (0 : Int32) u.1).bind fun v4 =>
  (fX6_at x1 (1 : Int32) u.1).bind fun v5 =>
  (rdI (Mo_now u.2) 63 v5).bind fun v6 =>
  (wrI (Mo_now u.2) 63 v4 v6).bind fun v7 =>
  (fX6_at x1 (1 : Int32) u.1).bind fun v8 =>
  (wrI v7 63 v8 v3).bind fun v9 =>
  rec ((u.1 + (1 : Int32)), (Mo_set_now u.2 v9)))
set_option maxHeartbeats 4000000 in
set_option maxRecDepth 100000 in
theorem wX6_mirrorNow_2 {p : Program} {l : Launch} {e : Env} {s : State} {m : MethodId} {args : Array Value} {below : List Frame} {meth : Method} {c : Code} {Q : State → Prop} (S : CallFix p m c cX6_mirrorNow 4 s args wsX6_mirrorNow RX6) (E : xG) (hK : xK E s) (uq : Nat → Nat) (x1 : Int32) (A : Nat → Prop) (H0 : Heap) : ∀ (n : Nat) (u : Int32 × Mo) (r : Int32 × Mo), lp (gX6_mirrorNow_2 x1) n u = some r → ∀ (H : Heap) (locs : List Loc), va_P (xD E) vwCl (wM E uq u.2) H → va_D A (wM E uq u.2) → va_S A H0 H locs → ∀ (ls : Array Slot), lv_has ls 4 [(0, .ref (uq 0)), (1, .int x1), (2, .int u.1)] → (∀ (H : Heap) (locs : List Loc), va_P (xD E) vwCl (wM E uq r.2) H → va_D A (wM E uq r.2) → va_S A H0 H locs → ∀ (ls : Array Slot), lv_has ls 4 [(0, .ref (uq 0)), (1, .int x1), (2, .int r.1)] → W p l e rmX6_mirrorNow s m args below meth c H locs 0 0 Q (F0 m 60 ls [])) → W p l e rmX6_mirrorNow s m args below meth c H locs 0 0 Q (F0 m 2 ls []) := by
  obtain ⟨hx, hb, hml, hown, hts⟩ := id S
  intro n
  induction n with
  | zero =>
    intro u r hf
    exact absurd (show (none : Option _) = some r from hf) (fun q => by cases q)
  | succ n ih =>
    intro u r hf H locs hP hD hS ls hl kx
    have hf : gX6_mirrorNow_2 x1 (lp (gX6_mirrorNow_2 x1) n) u = some r := hf
    unfold gX6_mirrorNow_2 at hf
    refine lv_iload_n hx hb dX6_mirrorNow_2 rfl (lv_at hl 2 rfl) ?_
    refine lv_bipush (v := 8) hx hb dX6_mirrorNow_3 (by decide) ?_
    refine lv_icmp_ge (tgt := 60) hx hb dX6_mirrorNow_5 (by decide) (fun c1 => ?_) (fun c1 => ?_)
    · have hf := (if_pos c1).symm.trans hf
      obtain rfl := Option.some.inj hf
      exact kx _ _ hP hD hS ls (lv_sub hl [0, 1, 2] rfl)
    · have hf := (if_neg c1).symm.trans hf
      refine lv_aload_n hx hb dX6_mirrorNow_8 rfl (lv_at hl 0 rfl) ?_
      refine x_get hx hb hts inX6_mirrorNow_6 hown hK hP 0 rfl rfl 0 (by decide) mX6_mirrorNow_0 rfl dX6_mirrorNow_9 ?_
      refine lv_iload_n hx hb dX6_mirrorNow_12 rfl (lv_at hl 1 rfl) ?_
      refine lv_iconst (v := 0) hx hb dX6_mirrorNow_13 (by decide) ?_
      refine lv_iload_n hx hb dX6_mirrorNow_14 rfl (lv_at hl 2 rfl) ?_
      obtain ⟨v2, h2, hf⟩ := ob hf
      refine x_pS (As := [.int x1, .int (0 : Int32), .int u.1]) (rest := [.ref (uq 1)]) S hK (kX6_at l E x1 (0 : Int32) u.1 h2) (va_cwS 3 hts gX6_mirrorNow_X6_at rfl rfl rfl (by decide +kernel) ⟨Nat.le_of_ble_eq_true rfl, Nat.le_of_ble_eq_true rfl⟩) x_nil rfl hl.1 (Nat.le_of_ble_eq_true rfl) dX6_mirrorNow_15 rfl ⟨Nat.zero_le _, Nat.zero_le _⟩ ?_
      obtain ⟨v3, h3, hf⟩ := ob hf
      refine x_iald hx hb hK hP 1 rfl h3 dX6_mirrorNow_18 ?_
      refine lv_istore_n (lv' := [(3, .int v3), (0, .ref (uq 0)), (1, .int x1), (2, .int u.1)]) hx hb dX6_mirrorNow_19 rfl hl (by decide) rfl (fun ls hl => ?_)
      refine lv_aload_n hx hb dX6_mirrorNow_20 rfl (lv_at hl 1 rfl) ?_
      refine x_get hx hb hts inX6_mirrorNow_6 hown hK hP 0 rfl rfl 0 (by decide) mX6_mirrorNow_0 rfl dX6_mirrorNow_21 ?_
      refine lv_iload_n hx hb dX6_mirrorNow_24 rfl (lv_at hl 2 rfl) ?_
      refine lv_iconst (v := 0) hx hb dX6_mirrorNow_25 (by decide) ?_
      refine lv_iload_n hx hb dX6_mirrorNow_26 rfl (lv_at hl 3 rfl) ?_
      obtain ⟨v4, h4, hf⟩ := ob hf
      refine x_pS (As := [.int x1, .int (0 : Int32), .int u.1]) (rest := [.ref (uq 1)]) S hK (kX6_at l E x1 (0 : Int32) u.1 h4) (va_cwS 3 hts gX6_mirrorNow_X6_at rfl rfl rfl (by decide +kernel) ⟨Nat.le_of_ble_eq_true rfl, Nat.le_of_ble_eq_true rfl⟩) x_nil rfl hl.1 (Nat.le_of_ble_eq_true rfl) dX6_mirrorNow_27 rfl ⟨Nat.zero_le _, Nat.zero_le _⟩ ?_
      refine lv_aload_n hx hb dX6_mirrorNow_30 rfl (lv_at hl 1 rfl) ?_
      refine x_get hx hb hts inX6_mirrorNow_6 hown hK hP 0 rfl rfl 0 (by decide) mX6_mirrorNow_0 rfl dX6_mirrorNow_31 ?_
      refine lv_iload_n hx hb dX6_mirrorNow_34 rfl (lv_at hl 2 rfl) ?_
      refine lv_iconst (v := 1) hx hb dX6_mirrorNow_35 (by decide) ?_
      refine lv_iload_n hx hb dX6_mirrorNow_36 rfl (lv_at hl 3 rfl) ?_
      obtain ⟨v5, h5, hf⟩ := ob hf
      refine x_pS (As := [.int x1, .int (1 : Int32), .int u.1]) (rest := [.ref (uq 1), .int v4, .ref (uq 1)]) S hK (kX6_at l E x1 (1 : Int32) u.1 h5) (va_cwS 3 hts gX6_mirrorNow_X6_at rfl rfl rfl (by decide +kernel) ⟨Nat.le_of_ble_eq_true rfl, Nat.le_of_ble_eq_true rfl⟩) x_nil rfl hl.1 (Nat.le_of_ble_eq_true rfl) dX6_mirrorNow_37 rfl ⟨Nat.zero_le _, Nat.zero_le _⟩ ?_
      obtain ⟨v6, h6, hf⟩ := ob hf
      refine x_iald hx hb hK hP 1 rfl h6 dX6_mirrorNow_40 ?_
      obtain ⟨v7, h7, hf⟩ := ob hf
      refine x_iast hx hb hK hP hD hS 1 rfl h7 dX6_mirrorNow_41 (fun H locs hP hD hS => ?_)
      have hP : va_P (xD E) vwCl (wM E uq (Mo_set_now u.2 v7)) H := hP
      have hD : va_D A (wM E uq (Mo_set_now u.2 v7)) := hD
      refine lv_aload_n hx hb dX6_mirrorNow_42 rfl (lv_at hl 1 rfl) ?_
      refine x_get hx hb hts inX6_mirrorNow_6 hown hK hP 0 rfl rfl 0 (by decide) mX6_mirrorNow_0 rfl dX6_mirrorNow_43 ?_
      refine lv_iload_n hx hb dX6_mirrorNow_46 rfl (lv_at hl 2 rfl) ?_
      refine lv_iconst (v := 1) hx hb dX6_mirrorNow_47 (by decide) ?_
      refine lv_iload_n hx hb dX6_mirrorNow_48 rfl (lv_at hl 3 rfl) ?_
      obtain ⟨v8, h8, hf⟩ := ob hf
      refine x_pS (As := [.int x1, .int (1 : Int32), .int u.1]) (rest := [.ref (uq 1)]) S hK (kX6_at l E x1 (1 : Int32) u.1 h8) (va_cwS 3 hts gX6_mirrorNow_X6_at rfl rfl rfl (by decide +kernel) ⟨Nat.le_of_ble_eq_true rfl, Nat.le_of_ble_eq_true rfl⟩) x_nil rfl hl.1 (Nat.le_of_ble_eq_true rfl) dX6_mirrorNow_49 rfl ⟨Nat.zero_le _, Nat.zero_le _⟩ ?_
      refine lv_iload_n hx hb dX6_mirrorNow_52 rfl (lv_at hl 0 rfl) ?_
      obtain ⟨v9, h9, hf⟩ := ob hf
      refine x_iast hx hb hK hP hD hS 1 rfl h9 dX6_mirrorNow_53 (fun H locs hP hD hS => ?_)
      have hP : va_P (xD E) vwCl (wM E uq (Mo_set_now u.2 v9)) H := hP
      have hD : va_D A (wM E uq (Mo_set_now u.2 v9)) := hD
      refine lv_iinc (v := (u.1 + (1 : Int32))) (lv' := [(2, .int (u.1 + (1 : Int32))), (3, .int v3), (0, .ref (uq 0)), (1, .int x1)]) hx hb dX6_mirrorNow_54 hl (k := 3) rfl rfl (by decide) rfl (fun ls hl => ?_)
      refine lv_goto (tgt := 2) hx hb dX6_mirrorNow_57 (by decide) ?_
      exact ih ((u.1 + (1 : Int32)), (Mo_set_now u.2 v9)) _ hf _ _ hP hD hS ls (lv_sub hl [2, 3, 0] rfl) kx
def fX6_mirrorNow (mo : Mo) (x1 : Int32) : Option Mo :=
  (lp (gX6_mirrorNow_2 x1) 1000 ((0 : Int32), mo)).bind fun v1 =>
  some v1.2
set_option maxHeartbeats 4000000 in
set_option maxRecDepth 100000 in
theorem kX6_mirrorNow (l : Launch) (E : xG) (uq : Nat → Nat) (mo : Mo) (x1 : Int32) {r : Mo} (hf : fX6_mirrorNow mo x1 = some r) : xMut l yX6_mirrorNow wsX6_mirrorNow rmX6_mirrorNow E [.ref (uq 0), .int x1] (wM E uq mo) none (wM E uq r) := by
  refine Met.ofW (cc := cX6_mirrorNow) (maxL := 4) (ret := none) (by decide) rfl ?_
  intro p e s m args below meth c s₁ B hml hv
  obtain ⟨rfl, hP, hK, hD0⟩ := hv
  have hx := B.exec
  have hb := B.bytes
  have hr := B.returns
  have hts := atoms_spec (ws := wsX6_mirrorNow) B.pre
  have hown : s.vm.findClass RX6 = some m.cls := findClass_of_methodNamed B.named
  have hlk := B.notSynchronized
  have S : CallFix p m c cX6_mirrorNow 4 s _ wsX6_mirrorNow RX6 := ⟨hx, hb, hml, hown, hts⟩
  have hl := lv_entry ([.ref (uq 0), .int x1]) (n := 4) (Nat.le_of_ble_eq_true rfl)
  rw [lg_entry_eq]
  generalize (lg_sl ([.ref (uq 0), .int x1]) ++ List.replicate (4 - (lg_sl ([.ref (uq 0), .int x1])).length) Slot.unset).toArray = ls at hl ⊢
  have hl : lv_has ls 4 [(0, .ref (uq 0)), (1, .int x1)] := hl
  have hD := xA.self hD0
  have hS : va_S (xA (wM E uq mo)) s.heap s.heap [] := va_S.rf
  show W p l e rmX6_mirrorNow s m _ below meth c s.heap [] 0 0 _ _
  generalize hA : xA (wM E uq mo) = A at hD hS ⊢
  unfold fX6_mirrorNow at hf
  refine lv_iconst (v := 0) hx hb dX6_mirrorNow_0 (by decide) ?_
  refine lv_istore_n (lv' := [(2, .int (0 : Int32)), (0, .ref (uq 0)), (1, .int x1)]) hx hb dX6_mirrorNow_1 rfl hl (by decide) rfl (fun ls hl => ?_)
  obtain ⟨v1, h1, hf⟩ := ob hf
  refine wX6_mirrorNow_2 S E hK uq x1 _ _ 1000 _ _ h1 _ _ hP hD hS ls (lv_sub hl [1, 2, 0] rfl) (fun H locs hP hD hS ls hl => ?_)
  obtain rfl := Option.some.inj hf
  subst hA
  exact x_vretM hx hb hr hlk hP hS dX6_mirrorNow_60
abbrev rmX6_mirror : Room := { frames := 2, cells := 0, slots := 0, locals := 46 }
theorem mX6_mirror_0 : Cond.constant RX6 190 (-1000000001) ∈ wsX6_mirror := by decide +kernel
def fX6_mirror (mo : Mo) (x1 : Int32) : Option (Int32 × Mo) :=
  (fX6_isLetter mo x1).bind fun v1 =>
  (if v1 = (0 : Int32) then
  some ((-1000000001 : Int32), mo)
  else (fX6_remember mo).bind fun v3 =>
  (fX6_mirrorNow v3 x1).bind fun v4 =>
  (fX6_isAlike v4 x1).bind fun v5 =>
  some ((if v5 = (0 : Int32) then (1 : Int32) else (0 : Int32)), v4))
set_option maxHeartbeats 4000000 in
set_option maxRecDepth 100000 in
theorem kX6_mirror (l : Launch) (E : xG) (uq : Nat → Nat) (mo : Mo) (x1 : Int32) {r : (Int32 × Mo)} (hf : fX6_mirror mo x1 = some r) : xMut l yX6_mirror wsX6_mirror rmX6_mirror E [.ref (uq 0), .int x1] (wM E uq mo) (some (.int r.1)) (wM E uq r.2) := by
  refine Met.ofW (cc := cX6_mirror) (maxL := 2) (ret := (some .int)) (by decide) rfl ?_
  intro p e s m args below meth c s₁ B hml hv
  obtain ⟨rfl, hP, hK, hD0⟩ := hv
  have hx := B.exec
  have hb := B.bytes
  have hr := B.returns
  have hts := atoms_spec (ws := wsX6_mirror) B.pre
  have hown : s.vm.findClass RX6 = some m.cls := findClass_of_methodNamed B.named
  have hlk := B.notSynchronized
  have S : CallFix p m c cX6_mirror 2 s _ wsX6_mirror RX6 := ⟨hx, hb, hml, hown, hts⟩
  have hl := lv_entry ([.ref (uq 0), .int x1]) (n := 2) (Nat.le_of_ble_eq_true rfl)
  rw [lg_entry_eq]
  generalize (lg_sl ([.ref (uq 0), .int x1]) ++ List.replicate (2 - (lg_sl ([.ref (uq 0), .int x1])).length) Slot.unset).toArray = ls at hl ⊢
  have hl : lv_has ls 2 [(0, .ref (uq 0)), (1, .int x1)] := hl
  have hD := xA.self hD0
  have hS : va_S (xA (wM E uq mo)) s.heap s.heap [] := va_S.rf
  show W p l e rmX6_mirror s m _ below meth c s.heap [] 0 0 _ _
  generalize hA : xA (wM E uq mo) = A at hD hS ⊢
  unfold fX6_mirror at hf
  refine lv_aload_n hx hb dX6_mirror_0 rfl (lv_at hl 0 rfl) ?_
  refine lv_iload_n hx hb dX6_mirror_1 rfl (lv_at hl 1 rfl) ?_
  obtain ⟨v1, h1, hf⟩ := ob hf
  refine x_pV (As := [.int x1]) (rest := []) S hK (kX6_isLetter l E uq mo x1 h1) (cwV 1 hts gX6_mirror_X6_isLetter rfl rfl rfl (by decide +kernel) ⟨Nat.le_of_ble_eq_true rfl, Nat.le_of_ble_eq_true rfl⟩) hP 0 rfl rfl rfl rfl hl.1 (Nat.le_of_ble_eq_true rfl) dX6_mirror_2 rfl ⟨Nat.zero_le _, Nat.zero_le _⟩ ?_
  refine lv_if_ne (tgt := 11) hx hb dX6_mirror_5 (by decide) (fun c2 => ?_) (fun c2 => ?_)
  · have hf := (if_neg c2).symm.trans hf
    refine lv_aload_n hx hb dX6_mirror_11 rfl (lv_at hl 0 rfl) ?_
    obtain ⟨v3, h3, hf⟩ := ob hf
    refine x_mR (ws' := wM E uq v3) (As := []) (rest := []) S hK (kX6_remember l E uq mo h3) (cwV 0 hts gX6_mirror_X6_remember rfl rfl rfl (by decide +kernel) ⟨Nat.le_of_ble_eq_true rfl, Nat.le_of_ble_eq_true rfl⟩) hP hD hS 0 14 rfl rfl 0 rfl rfl rfl rfl hl.1 (Nat.le_of_ble_eq_true rfl) dX6_mirror_12 rfl ⟨Nat.zero_le _, Nat.zero_le _⟩ rfl (fun H locs hP hD hS => ?_)
    refine lv_aload_n hx hb dX6_mirror_15 rfl (lv_at hl 0 rfl) ?_
    refine lv_iload_n hx hb dX6_mirror_16 rfl (lv_at hl 1 rfl) ?_
    obtain ⟨v4, h4, hf⟩ := ob hf
    refine x_mR (ws' := wM E uq v4) (As := [.int x1]) (rest := []) S hK (kX6_mirrorNow l E uq v3 x1 h4) (cwV 1 hts gX6_mirror_X6_mirrorNow rfl rfl rfl (by decide +kernel) ⟨Nat.le_of_ble_eq_true rfl, Nat.le_of_ble_eq_true rfl⟩) hP hD hS 0 14 rfl rfl 0 rfl rfl rfl rfl hl.1 (Nat.le_of_ble_eq_true rfl) dX6_mirror_17 rfl ⟨Nat.zero_le _, Nat.zero_le _⟩ rfl (fun H locs hP hD hS => ?_)
    refine lv_aload_n hx hb dX6_mirror_20 rfl (lv_at hl 0 rfl) ?_
    refine lv_iload_n hx hb dX6_mirror_21 rfl (lv_at hl 1 rfl) ?_
    obtain ⟨v5, h5, hf⟩ := ob hf
    refine x_pV (As := [.int x1]) (rest := []) S hK (kX6_isAlike l E uq v4 x1 h5) (cwV 1 hts gX6_mirror_X6_isAlike rfl rfl rfl (by decide +kernel) ⟨Nat.le_of_ble_eq_true rfl, Nat.le_of_ble_eq_true rfl⟩) hP 0 rfl rfl rfl rfl hl.1 (Nat.le_of_ble_eq_true rfl) dX6_mirror_22 rfl ⟨Nat.zero_le _, Nat.zero_le _⟩ ?_
    refine x_cut (pc := 33) (ls := ls) (st := [.int (if v5 = (0 : Int32) then (1 : Int32) else (0 : Int32))]) ?_ (fun hj => ?_)
    · obtain rfl := Option.some.inj hf
      subst hA
      exact x_iretM hx hb hr hlk (vp_nar_int _) hP hS dX6_mirror_33
    · refine lv_if_eq (tgt := 32) hx hb dX6_mirror_25 (by decide) (fun c6 => ?_) (fun c6 => ?_)
      · refine lv_iconst (v := 1) hx hb dX6_mirror_32 (by decide) ?_
        exact (by rw [if_pos c6] at hj; exact hj)
      · refine lv_iconst (v := 0) hx hb dX6_mirror_28 (by decide) ?_
        refine lv_goto (tgt := 33) hx hb dX6_mirror_29 (by decide) ?_
        exact (by rw [if_neg c6] at hj; exact hj)
  · have hf := (if_pos c2).symm.trans hf
    refine lv_ldc hx hb hown (hts _ mX6_mirror_0) dX6_mirror_8 ?_
    obtain rfl := Option.some.inj hf
    subst hA
    exact x_iretM hx hb hr hlk (vp_nar_int _) hP hS dX6_mirror_10
abbrev rmX6_turn : Room := { frames := 2, cells := 0, slots := 0, locals := 45 }
theorem mX6_turn_0 : Cond.fieldLink RX6 7 "EvenWhiteModel" "now" "[I" ∈ wsX6_turn := by decide +kernel
theorem inX6_turn_6 : ∀ w ∈ u_ws RX6 TX6 17, w ∈ wsX6_turn := by decide +kernel
def gX6_turn_24 (x1 : Int32) (rec : (Int32 × Mo) → Option (Int32 × Mo)) (u : Int32 × Mo) : Option (Int32 × Mo) :=
  (if x1 ≤ u.1 then
  some (u.1, u.2)
  else (fX6_weightOf u.2 x1 u.1).bind fun v2 =>
  (fX6_weightOf u.2 u.1 x1).bind fun v3 =>
  (wrI (Mo_now u.2) 63 (((51 : Int32) + ((3 : Int32) * x1)) + u.1) v3).bind fun v4 =>
  (wrI v4 63 (((51 : Int32) + ((3 : Int32) * u.1)) + x1) v2).bind fun v5 =>
  rec ((u.1 + (1 : Int32)), (Mo_set_now u.2 v5)))
set_option maxHeartbeats 4000000 in
set_option maxRecDepth 100000 in
theorem wX6_turn_24 {p : Program} {l : Launch} {e : Env} {s : State} {m : MethodId} {args : Array Value} {below : List Frame} {meth : Method} {c : Code} {Q : State → Prop} (S : CallFix p m c cX6_turn 4 s args wsX6_turn RX6) (E : xG) (hK : xK E s) (uq : Nat → Nat) (x1 : Int32) (A : Nat → Prop) (H0 : Heap) : ∀ (n : Nat) (u : Int32 × Mo) (r : Int32 × Mo), lp (gX6_turn_24 x1) n u = some r → ∀ (H : Heap) (locs : List Loc), va_P (xD E) vwCl (wM E uq u.2) H → va_D A (wM E uq u.2) → va_S A H0 H locs → ∀ (ls : Array Slot), lv_has ls 4 [(0, .ref (uq 0)), (1, .int x1), (2, .int u.1)] → (∀ (H : Heap) (locs : List Loc), va_P (xD E) vwCl (wM E uq r.2) H → va_D A (wM E uq r.2) → va_S A H0 H locs → ∀ (ls : Array Slot), lv_has ls 4 [(0, .ref (uq 0)), (1, .int x1), (2, .int r.1)] → W p l e rmX6_turn s m args below meth c H locs 0 0 Q (F0 m 75 ls [])) → W p l e rmX6_turn s m args below meth c H locs 0 0 Q (F0 m 24 ls []) := by
  obtain ⟨hx, hb, hml, hown, hts⟩ := id S
  intro n
  induction n with
  | zero =>
    intro u r hf
    exact absurd (show (none : Option _) = some r from hf) (fun q => by cases q)
  | succ n ih =>
    intro u r hf H locs hP hD hS ls hl kx
    have hf : gX6_turn_24 x1 (lp (gX6_turn_24 x1) n) u = some r := hf
    unfold gX6_turn_24 at hf
    refine lv_iload_n hx hb dX6_turn_24 rfl (lv_at hl 2 rfl) ?_
    refine lv_iload_n hx hb dX6_turn_25 rfl (lv_at hl 1 rfl) ?_
    refine lv_icmp_ge (tgt := 75) hx hb dX6_turn_26 (by decide) (fun c1 => ?_) (fun c1 => ?_)
    · have hf := (if_pos c1).symm.trans hf
      obtain rfl := Option.some.inj hf
      exact kx _ _ hP hD hS ls (lv_sub hl [0, 1, 2] rfl)
    · have hf := (if_neg c1).symm.trans hf
      refine lv_aload_n hx hb dX6_turn_29 rfl (lv_at hl 0 rfl) ?_
      refine lv_iload_n hx hb dX6_turn_30 rfl (lv_at hl 1 rfl) ?_
      refine lv_iload_n hx hb dX6_turn_31 rfl (lv_at hl 2 rfl) ?_
      obtain ⟨v2, h2, hf⟩ := ob hf
      refine x_pV (As := [.int x1, .int u.1]) (rest := []) S hK (kX6_weightOf l E uq u.2 x1 u.1 h2) (cwV 2 hts gX6_turn_X6_weightOf rfl rfl rfl (by decide +kernel) ⟨Nat.le_of_ble_eq_true rfl, Nat.le_of_ble_eq_true rfl⟩) hP 0 rfl rfl rfl rfl hl.1 (Nat.le_of_ble_eq_true rfl) dX6_turn_32 rfl ⟨Nat.zero_le _, Nat.zero_le _⟩ ?_
      refine lv_istore_n (lv' := [(3, .int v2), (0, .ref (uq 0)), (1, .int x1), (2, .int u.1)]) hx hb dX6_turn_35 rfl hl (by decide) rfl (fun ls hl => ?_)
      refine lv_aload_n hx hb dX6_turn_36 rfl (lv_at hl 1 rfl) ?_
      refine x_get hx hb hts inX6_turn_6 hown hK hP 0 rfl rfl 0 (by decide) mX6_turn_0 rfl dX6_turn_37 ?_
      refine lv_bipush (v := 51) hx hb dX6_turn_40 (by decide) ?_
      refine lv_iconst (v := 3) hx hb dX6_turn_42 (by decide) ?_
      refine lv_iload_n hx hb dX6_turn_43 rfl (lv_at hl 2 rfl) ?_
      refine lv_imul hx hb dX6_turn_44 ?_
      refine lv_iadd hx hb dX6_turn_45 ?_
      refine lv_iload_n hx hb dX6_turn_46 rfl (lv_at hl 3 rfl) ?_
      refine lv_iadd hx hb dX6_turn_47 ?_
      refine lv_aload_n hx hb dX6_turn_48 rfl (lv_at hl 1 rfl) ?_
      refine lv_iload_n hx hb dX6_turn_49 rfl (lv_at hl 3 rfl) ?_
      refine lv_iload_n hx hb dX6_turn_50 rfl (lv_at hl 2 rfl) ?_
      obtain ⟨v3, h3, hf⟩ := ob hf
      refine x_pV (As := [.int u.1, .int x1]) (rest := [.int (((51 : Int32) + ((3 : Int32) * x1)) + u.1), .ref (uq 1)]) S hK (kX6_weightOf l E uq u.2 u.1 x1 h3) (cwV 2 hts gX6_turn_X6_weightOf rfl rfl rfl (by decide +kernel) ⟨Nat.le_of_ble_eq_true rfl, Nat.le_of_ble_eq_true rfl⟩) hP 0 rfl rfl rfl rfl hl.1 (Nat.le_of_ble_eq_true rfl) dX6_turn_51 rfl ⟨Nat.zero_le _, Nat.zero_le _⟩ ?_
      obtain ⟨v4, h4, hf⟩ := ob hf
      refine x_iast hx hb hK hP hD hS 1 rfl h4 dX6_turn_54 (fun H locs hP hD hS => ?_)
      have hP : va_P (xD E) vwCl (wM E uq (Mo_set_now u.2 v4)) H := hP
      have hD : va_D A (wM E uq (Mo_set_now u.2 v4)) := hD
      refine lv_aload_n hx hb dX6_turn_55 rfl (lv_at hl 1 rfl) ?_
      refine x_get hx hb hts inX6_turn_6 hown hK hP 0 rfl rfl 0 (by decide) mX6_turn_0 rfl dX6_turn_56 ?_
      refine lv_bipush (v := 51) hx hb dX6_turn_59 (by decide) ?_
      refine lv_iconst (v := 3) hx hb dX6_turn_61 (by decide) ?_
      refine lv_iload_n hx hb dX6_turn_62 rfl (lv_at hl 3 rfl) ?_
      refine lv_imul hx hb dX6_turn_63 ?_
      refine lv_iadd hx hb dX6_turn_64 ?_
      refine lv_iload_n hx hb dX6_turn_65 rfl (lv_at hl 2 rfl) ?_
      refine lv_iadd hx hb dX6_turn_66 ?_
      refine lv_iload_n hx hb dX6_turn_67 rfl (lv_at hl 0 rfl) ?_
      obtain ⟨v5, h5, hf⟩ := ob hf
      refine x_iast hx hb hK hP hD hS 1 rfl h5 dX6_turn_68 (fun H locs hP hD hS => ?_)
      have hP : va_P (xD E) vwCl (wM E uq (Mo_set_now u.2 v5)) H := hP
      have hD : va_D A (wM E uq (Mo_set_now u.2 v5)) := hD
      refine lv_iinc (v := (u.1 + (1 : Int32))) (lv' := [(2, .int (u.1 + (1 : Int32))), (3, .int v2), (0, .ref (uq 0)), (1, .int x1)]) hx hb dX6_turn_69 hl (k := 3) rfl rfl (by decide) rfl (fun ls hl => ?_)
      refine lv_goto (tgt := 24) hx hb dX6_turn_72 (by decide) ?_
      exact ih ((u.1 + (1 : Int32)), (Mo_set_now u.2 v5)) _ hf _ _ hP hD hS ls (lv_sub hl [2, 3, 0] rfl) kx
def gX6_turn_6 (rec : (Int32 × Mo) → Option (Int32 × Mo)) (u : Int32 × Mo) : Option (Int32 × Mo) :=
  (rdI (Mo_now u.2) 63 (60 : Int32)).bind fun v1 =>
  (if v1 ≤ u.1 then
  some (u.1, u.2)
  else (fX6_mirrorNow u.2 u.1).bind fun v3 =>
  (lp (gX6_turn_24 u.1) 1000 ((0 : Int32), v3)).bind fun v4 =>
  rec ((u.1 + (1 : Int32)), v4.2))
set_option maxHeartbeats 4000000 in
set_option maxRecDepth 100000 in
theorem wX6_turn_6 {p : Program} {l : Launch} {e : Env} {s : State} {m : MethodId} {args : Array Value} {below : List Frame} {meth : Method} {c : Code} {Q : State → Prop} (S : CallFix p m c cX6_turn 4 s args wsX6_turn RX6) (E : xG) (hK : xK E s) (uq : Nat → Nat) (A : Nat → Prop) (H0 : Heap) : ∀ (n : Nat) (u : Int32 × Mo) (r : Int32 × Mo), lp (gX6_turn_6) n u = some r → ∀ (H : Heap) (locs : List Loc), va_P (xD E) vwCl (wM E uq u.2) H → va_D A (wM E uq u.2) → va_S A H0 H locs → ∀ (ls : Array Slot), lv_has ls 4 [(0, .ref (uq 0)), (1, .int u.1)] → (∀ (H : Heap) (locs : List Loc), va_P (xD E) vwCl (wM E uq r.2) H → va_D A (wM E uq r.2) → va_S A H0 H locs → ∀ (ls : Array Slot), lv_has ls 4 [(0, .ref (uq 0)), (1, .int r.1)] → W p l e rmX6_turn s m args below meth c H locs 0 0 Q (F0 m 81 ls [])) → W p l e rmX6_turn s m args below meth c H locs 0 0 Q (F0 m 6 ls []) := by
  obtain ⟨hx, hb, hml, hown, hts⟩ := id S
  intro n
  induction n with
  | zero =>
    intro u r hf
    exact absurd (show (none : Option _) = some r from hf) (fun q => by cases q)
  | succ n ih =>
    intro u r hf H locs hP hD hS ls hl kx
    have hf : gX6_turn_6 (lp (gX6_turn_6) n) u = some r := hf
    unfold gX6_turn_6 at hf
    refine lv_iload_n hx hb dX6_turn_6 rfl (lv_at hl 1 rfl) ?_
    refine lv_aload_n hx hb dX6_turn_7 rfl (lv_at hl 0 rfl) ?_
    refine x_get hx hb hts inX6_turn_6 hown hK hP 0 rfl rfl 0 (by decide) mX6_turn_0 rfl dX6_turn_8 ?_
    refine lv_bipush (v := 60) hx hb dX6_turn_11 (by decide) ?_
    obtain ⟨v1, h1, hf⟩ := ob hf
    refine x_iald hx hb hK hP 1 rfl h1 dX6_turn_13 ?_
    refine lv_icmp_ge (tgt := 81) hx hb dX6_turn_14 (by decide) (fun c2 => ?_) (fun c2 => ?_)
    · have hf := (if_pos c2).symm.trans hf
      obtain rfl := Option.some.inj hf
      exact kx _ _ hP hD hS ls (lv_sub hl [0, 1] rfl)
    · have hf := (if_neg c2).symm.trans hf
      refine lv_aload_n hx hb dX6_turn_17 rfl (lv_at hl 0 rfl) ?_
      refine lv_iload_n hx hb dX6_turn_18 rfl (lv_at hl 1 rfl) ?_
      obtain ⟨v3, h3, hf⟩ := ob hf
      refine x_mR (ws' := wM E uq v3) (As := [.int u.1]) (rest := []) S hK (kX6_mirrorNow l E uq u.2 u.1 h3) (cwV 1 hts gX6_turn_X6_mirrorNow rfl rfl rfl (by decide +kernel) ⟨Nat.le_of_ble_eq_true rfl, Nat.le_of_ble_eq_true rfl⟩) hP hD hS 0 14 rfl rfl 0 rfl rfl rfl rfl hl.1 (Nat.le_of_ble_eq_true rfl) dX6_turn_19 rfl ⟨Nat.zero_le _, Nat.zero_le _⟩ rfl (fun H locs hP hD hS => ?_)
      refine lv_iconst (v := 0) hx hb dX6_turn_22 (by decide) ?_
      refine lv_istore_n (lv' := [(2, .int (0 : Int32)), (0, .ref (uq 0)), (1, .int u.1)]) hx hb dX6_turn_23 rfl hl (by decide) rfl (fun ls hl => ?_)
      obtain ⟨v4, h4, hf⟩ := ob hf
      refine wX6_turn_24 S E hK uq u.1 _ _ 1000 _ _ h4 _ _ hP hD hS ls (lv_sub hl [1, 2, 0] rfl) (fun H locs hP hD hS ls hl => ?_)
      refine lv_iinc (v := (u.1 + (1 : Int32))) (lv' := [(1, .int (u.1 + (1 : Int32))), (0, .ref (uq 0)), (2, .int v4.1)]) hx hb dX6_turn_75 hl (k := 1) rfl rfl (by decide) rfl (fun ls hl => ?_)
      refine lv_goto (tgt := 6) hx hb dX6_turn_78 (by decide) ?_
      exact ih ((u.1 + (1 : Int32)), v4.2) _ hf _ _ hP hD hS ls (lv_sub hl [1, 0] rfl) kx
def fX6_turn (mo : Mo) : Option (Int32 × Mo) :=
  (fX6_remember mo).bind fun v1 =>
  (lp (gX6_turn_6) 1000 ((0 : Int32), v1)).bind fun v2 =>
  (rdI (Mo_now v2.2) 63 (60 : Int32)).bind fun v3 =>
  some (v3, v2.2)
set_option maxHeartbeats 4000000 in
set_option maxRecDepth 100000 in
theorem kX6_turn (l : Launch) (E : xG) (uq : Nat → Nat) (mo : Mo) {r : (Int32 × Mo)} (hf : fX6_turn mo = some r) : xMut l yX6_turn wsX6_turn rmX6_turn E [.ref (uq 0)] (wM E uq mo) (some (.int r.1)) (wM E uq r.2) := by
  refine Met.ofW (cc := cX6_turn) (maxL := 4) (ret := (some .int)) (by decide) rfl ?_
  intro p e s m args below meth c s₁ B hml hv
  obtain ⟨rfl, hP, hK, hD0⟩ := hv
  have hx := B.exec
  have hb := B.bytes
  have hr := B.returns
  have hts := atoms_spec (ws := wsX6_turn) B.pre
  have hown : s.vm.findClass RX6 = some m.cls := findClass_of_methodNamed B.named
  have hlk := B.notSynchronized
  have S : CallFix p m c cX6_turn 4 s _ wsX6_turn RX6 := ⟨hx, hb, hml, hown, hts⟩
  have hl := lv_entry ([.ref (uq 0)]) (n := 4) (Nat.le_of_ble_eq_true rfl)
  rw [lg_entry_eq]
  generalize (lg_sl ([.ref (uq 0)]) ++ List.replicate (4 - (lg_sl ([.ref (uq 0)])).length) Slot.unset).toArray = ls at hl ⊢
  have hl : lv_has ls 4 [(0, .ref (uq 0))] := hl
  have hD := xA.self hD0
  have hS : va_S (xA (wM E uq mo)) s.heap s.heap [] := va_S.rf
  show W p l e rmX6_turn s m _ below meth c s.heap [] 0 0 _ _
  generalize hA : xA (wM E uq mo) = A at hD hS ⊢
  unfold fX6_turn at hf
  refine lv_aload_n hx hb dX6_turn_0 rfl (lv_at hl 0 rfl) ?_
  obtain ⟨v1, h1, hf⟩ := ob hf
  refine x_mR (ws' := wM E uq v1) (As := []) (rest := []) S hK (kX6_remember l E uq mo h1) (cwV 0 hts gX6_turn_X6_remember rfl rfl rfl (by decide +kernel) ⟨Nat.le_of_ble_eq_true rfl, Nat.le_of_ble_eq_true rfl⟩) hP hD hS 0 14 rfl rfl 0 rfl rfl rfl rfl hl.1 (Nat.le_of_ble_eq_true rfl) dX6_turn_1 rfl ⟨Nat.zero_le _, Nat.zero_le _⟩ rfl (fun H locs hP hD hS => ?_)
  refine lv_iconst (v := 0) hx hb dX6_turn_4 (by decide) ?_
  refine lv_istore_n (lv' := [(1, .int (0 : Int32)), (0, .ref (uq 0))]) hx hb dX6_turn_5 rfl hl (by decide) rfl (fun ls hl => ?_)
  obtain ⟨v2, h2, hf⟩ := ob hf
  refine wX6_turn_6 S E hK uq _ _ 1000 _ _ h2 _ _ hP hD hS ls (lv_sub hl [1, 0] rfl) (fun H locs hP hD hS ls hl => ?_)
  refine lv_aload_n hx hb dX6_turn_81 rfl (lv_at hl 0 rfl) ?_
  refine x_get hx hb hts inX6_turn_6 hown hK hP 0 rfl rfl 0 (by decide) mX6_turn_0 rfl dX6_turn_82 ?_
  refine lv_bipush (v := 60) hx hb dX6_turn_85 (by decide) ?_
  obtain ⟨v3, h3, hf⟩ := ob hf
  refine x_iald hx hb hK hP 1 rfl h3 dX6_turn_87 ?_
  obtain rfl := Option.some.inj hf
  subst hA
  exact x_iretM hx hb hr hlk (vp_nar_int _) hP hS dX6_turn_88
abbrev rmX6_copy : Room := { frames := 2, cells := 0, slots := 0, locals := 46 }
theorem mX6_copy_0 : Cond.constant RX6 190 (-1000000001) ∈ wsX6_copy := by decide +kernel
theorem mX6_copy_1 : Cond.fieldLink RX6 7 "EvenWhiteModel" "now" "[I" ∈ wsX6_copy := by decide +kernel
theorem inX6_copy_6 : ∀ w ∈ u_ws RX6 TX6 17, w ∈ wsX6_copy := by decide +kernel
def gX6_copy_76 (x1 : Int32) (x2 : Int32) (rec : (Int32 × Int32 × Mo) → Option (Int32 × Int32 × Mo)) (u : Int32 × Int32 × Mo) : Option (Int32 × Int32 × Mo) :=
  (if (16 : Int32) ≤ u.2.1 then
  some (u.1, u.2.1, u.2.2)
  else (rdI (Mo_now u.2.2) 63 (((16 : Int32) * x1) + u.2.1)).bind fun v2 =>
  (rdI (Mo_now u.2.2) 63 (((16 : Int32) * x2) + u.2.1)).bind fun v3 =>
  (rdI (Mo_now u.2.2) 63 (((16 : Int32) * x2) + u.2.1)).bind fun v5 =>
  (wrI (Mo_now u.2.2) 63 (((16 : Int32) * x1) + u.2.1) v5).bind fun v6 =>
  rec ((u.1 + (if v2 = v3 then (0 : Int32) else (1 : Int32))), (u.2.1 + (1 : Int32)), (Mo_set_now u.2.2 v6)))
set_option maxHeartbeats 4000000 in
set_option maxRecDepth 100000 in
theorem wX6_copy_76 {p : Program} {l : Launch} {e : Env} {s : State} {m : MethodId} {args : Array Value} {below : List Frame} {meth : Method} {c : Code} {Q : State → Prop} (S : CallFix p m c cX6_copy 5 s args wsX6_copy RX6) (E : xG) (hK : xK E s) (uq : Nat → Nat) (x1 : Int32) (x2 : Int32) (A : Nat → Prop) (H0 : Heap) : ∀ (n : Nat) (u : Int32 × Int32 × Mo) (r : Int32 × Int32 × Mo), lp (gX6_copy_76 x1 x2) n u = some r → ∀ (H : Heap) (locs : List Loc), va_P (xD E) vwCl (wM E uq u.2.2) H → va_D A (wM E uq u.2.2) → va_S A H0 H locs → ∀ (ls : Array Slot), lv_has ls 5 [(0, .ref (uq 0)), (1, .int x1), (2, .int x2), (3, .int u.1), (4, .int u.2.1)] → (∀ (H : Heap) (locs : List Loc), va_P (xD E) vwCl (wM E uq r.2.2) H → va_D A (wM E uq r.2.2) → va_S A H0 H locs → ∀ (ls : Array Slot), lv_has ls 5 [(0, .ref (uq 0)), (1, .int x1), (2, .int x2), (3, .int r.1), (4, .int r.2.1)] → W p l e rmX6_copy s m args below meth c H locs 0 0 Q (F0 m 148 ls [])) → W p l e rmX6_copy s m args below meth c H locs 0 0 Q (F0 m 76 ls []) := by
  obtain ⟨hx, hb, hml, hown, hts⟩ := id S
  intro n
  induction n with
  | zero =>
    intro u r hf
    exact absurd (show (none : Option _) = some r from hf) (fun q => by cases q)
  | succ n ih =>
    intro u r hf H locs hP hD hS ls hl kx
    have hf : gX6_copy_76 x1 x2 (lp (gX6_copy_76 x1 x2) n) u = some r := hf
    unfold gX6_copy_76 at hf
    refine lv_iload hx hb dX6_copy_76 (lv_at hl 4 rfl) ?_
    refine lv_bipush (v := 16) hx hb dX6_copy_78 (by decide) ?_
    refine lv_icmp_ge (tgt := 148) hx hb dX6_copy_80 (by decide) (fun c1 => ?_) (fun c1 => ?_)
    · have hf := (if_pos c1).symm.trans hf
      obtain rfl := Option.some.inj hf
      exact kx _ _ hP hD hS ls (lv_sub hl [0, 1, 2, 3, 4] rfl)
    · have hf := (if_neg c1).symm.trans hf
      refine lv_iload_n hx hb dX6_copy_83 rfl (lv_at hl 3 rfl) ?_
      refine lv_aload_n hx hb dX6_copy_84 rfl (lv_at hl 0 rfl) ?_
      refine x_get hx hb hts inX6_copy_6 hown hK hP 0 rfl rfl 0 (by decide) mX6_copy_1 rfl dX6_copy_85 ?_
      refine lv_bipush (v := 16) hx hb dX6_copy_88 (by decide) ?_
      refine lv_iload_n hx hb dX6_copy_90 rfl (lv_at hl 1 rfl) ?_
      refine lv_imul hx hb dX6_copy_91 ?_
      refine lv_iload hx hb dX6_copy_92 (lv_at hl 4 rfl) ?_
      refine lv_iadd hx hb dX6_copy_94 ?_
      obtain ⟨v2, h2, hf⟩ := ob hf
      refine x_iald hx hb hK hP 1 rfl h2 dX6_copy_95 ?_
      refine lv_aload_n hx hb dX6_copy_96 rfl (lv_at hl 0 rfl) ?_
      refine x_get hx hb hts inX6_copy_6 hown hK hP 0 rfl rfl 0 (by decide) mX6_copy_1 rfl dX6_copy_97 ?_
      refine lv_bipush (v := 16) hx hb dX6_copy_100 (by decide) ?_
      refine lv_iload_n hx hb dX6_copy_102 rfl (lv_at hl 2 rfl) ?_
      refine lv_imul hx hb dX6_copy_103 ?_
      refine lv_iload hx hb dX6_copy_104 (lv_at hl 4 rfl) ?_
      refine lv_iadd hx hb dX6_copy_106 ?_
      obtain ⟨v3, h3, hf⟩ := ob hf
      refine x_iald hx hb hK hP 1 rfl h3 dX6_copy_107 ?_
      refine x_cut (pc := 116) (ls := ls) (st := [.int (if v2 = v3 then (0 : Int32) else (1 : Int32)), .int u.1]) ?_ (fun hj => ?_)
      · refine lv_iadd hx hb dX6_copy_116 ?_
        refine lv_istore_n (lv' := [(3, .int (u.1 + (if v2 = v3 then (0 : Int32) else (1 : Int32)))), (0, .ref (uq 0)), (1, .int x1), (2, .int x2), (4, .int u.2.1)]) hx hb dX6_copy_117 rfl hl (by decide) rfl (fun ls hl => ?_)
        refine lv_aload_n hx hb dX6_copy_118 rfl (lv_at hl 1 rfl) ?_
        refine x_get hx hb hts inX6_copy_6 hown hK hP 0 rfl rfl 0 (by decide) mX6_copy_1 rfl dX6_copy_119 ?_
        refine lv_bipush (v := 16) hx hb dX6_copy_122 (by decide) ?_
        refine lv_iload_n hx hb dX6_copy_124 rfl (lv_at hl 2 rfl) ?_
        refine lv_imul hx hb dX6_copy_125 ?_
        refine lv_iload hx hb dX6_copy_126 (lv_at hl 4 rfl) ?_
        refine lv_iadd hx hb dX6_copy_128 ?_
        refine lv_aload_n hx hb dX6_copy_129 rfl (lv_at hl 1 rfl) ?_
        refine x_get hx hb hts inX6_copy_6 hown hK hP 0 rfl rfl 0 (by decide) mX6_copy_1 rfl dX6_copy_130 ?_
        refine lv_bipush (v := 16) hx hb dX6_copy_133 (by decide) ?_
        refine lv_iload_n hx hb dX6_copy_135 rfl (lv_at hl 3 rfl) ?_
        refine lv_imul hx hb dX6_copy_136 ?_
        refine lv_iload hx hb dX6_copy_137 (lv_at hl 4 rfl) ?_
        refine lv_iadd hx hb dX6_copy_139 ?_
        obtain ⟨v5, h5, hf⟩ := ob hf
        refine x_iald hx hb hK hP 1 rfl h5 dX6_copy_140 ?_
        obtain ⟨v6, h6, hf⟩ := ob hf
        refine x_iast hx hb hK hP hD hS 1 rfl h6 dX6_copy_141 (fun H locs hP hD hS => ?_)
        have hP : va_P (xD E) vwCl (wM E uq (Mo_set_now u.2.2 v6)) H := hP
        have hD : va_D A (wM E uq (Mo_set_now u.2.2 v6)) := hD
        refine lv_iinc (v := (u.2.1 + (1 : Int32))) (lv' := [(4, .int (u.2.1 + (1 : Int32))), (3, .int (u.1 + (if v2 = v3 then (0 : Int32) else (1 : Int32)))), (0, .ref (uq 0)), (1, .int x1), (2, .int x2)]) hx hb dX6_copy_142 hl (k := 4) rfl rfl (by decide) rfl (fun ls hl => ?_)
        refine lv_goto (tgt := 76) hx hb dX6_copy_145 (by decide) ?_
        exact ih ((u.1 + (if v2 = v3 then (0 : Int32) else (1 : Int32))), (u.2.1 + (1 : Int32)), (Mo_set_now u.2.2 v6)) _ hf _ _ hP hD hS ls (lv_sub hl [2, 3, 4, 1, 0] rfl) kx
      · refine lv_icmp_ne (tgt := 115) hx hb dX6_copy_108 (by decide) (fun c4 => ?_) (fun c4 => ?_)
        · refine lv_iconst (v := 1) hx hb dX6_copy_115 (by decide) ?_
          exact (by rw [if_neg c4] at hj; exact hj)
        · refine lv_iconst (v := 0) hx hb dX6_copy_111 (by decide) ?_
          refine lv_goto (tgt := 116) hx hb dX6_copy_112 (by decide) ?_
          exact (by rw [if_pos c4] at hj; exact hj)
def fX6_copy (mo : Mo) (x1 : Int32) (x2 : Int32) : Option (Int32 × Mo) :=
  (fX6_isLetter mo x1).bind fun v1 =>
  (if v1 = (0 : Int32) then
  some ((-1000000001 : Int32), mo)
  else (fX6_isLetter mo x2).bind fun v3 =>
  (if v3 = (0 : Int32) then
  some ((-1000000001 : Int32), mo)
  else (if x1 = x2 then
  some ((-1000000001 : Int32), mo)
  else (fX6_remember mo).bind fun v6 =>
  (rdI (Mo_now v6) 63 ((48 : Int32) + x1)).bind fun v7 =>
  (rdI (Mo_now v6) 63 ((48 : Int32) + x2)).bind fun v8 =>
  (rdI (Mo_now v6) 63 ((48 : Int32) + x2)).bind fun v10 =>
  (wrI (Mo_now v6) 63 ((48 : Int32) + x1) v10).bind fun v11 =>
  (lp (gX6_copy_76 x1 x2) 1000 ((if v7 = v8 then (0 : Int32) else (1 : Int32)), (0 : Int32), (Mo_set_now v6 v11))).bind fun v12 =>
  some (v12.1, v12.2.2))))
set_option maxHeartbeats 4000000 in
set_option maxRecDepth 100000 in
theorem kX6_copy (l : Launch) (E : xG) (uq : Nat → Nat) (mo : Mo) (x1 : Int32) (x2 : Int32) {r : (Int32 × Mo)} (hf : fX6_copy mo x1 x2 = some r) : xMut l yX6_copy wsX6_copy rmX6_copy E [.ref (uq 0), .int x1, .int x2] (wM E uq mo) (some (.int r.1)) (wM E uq r.2) := by
  refine Met.ofW (cc := cX6_copy) (maxL := 5) (ret := (some .int)) (by decide) rfl ?_
  intro p e s m args below meth c s₁ B hml hv
  obtain ⟨rfl, hP, hK, hD0⟩ := hv
  have hx := B.exec
  have hb := B.bytes
  have hr := B.returns
  have hts := atoms_spec (ws := wsX6_copy) B.pre
  have hown : s.vm.findClass RX6 = some m.cls := findClass_of_methodNamed B.named
  have hlk := B.notSynchronized
  have S : CallFix p m c cX6_copy 5 s _ wsX6_copy RX6 := ⟨hx, hb, hml, hown, hts⟩
  have hl := lv_entry ([.ref (uq 0), .int x1, .int x2]) (n := 5) (Nat.le_of_ble_eq_true rfl)
  rw [lg_entry_eq]
  generalize (lg_sl ([.ref (uq 0), .int x1, .int x2]) ++ List.replicate (5 - (lg_sl ([.ref (uq 0), .int x1, .int x2])).length) Slot.unset).toArray = ls at hl ⊢
  have hl : lv_has ls 5 [(0, .ref (uq 0)), (1, .int x1), (2, .int x2)] := hl
  have hD := xA.self hD0
  have hS : va_S (xA (wM E uq mo)) s.heap s.heap [] := va_S.rf
  show W p l e rmX6_copy s m _ below meth c s.heap [] 0 0 _ _
  generalize hA : xA (wM E uq mo) = A at hD hS ⊢
  unfold fX6_copy at hf
  refine lv_aload_n hx hb dX6_copy_0 rfl (lv_at hl 0 rfl) ?_
  refine lv_iload_n hx hb dX6_copy_1 rfl (lv_at hl 1 rfl) ?_
  obtain ⟨v1, h1, hf⟩ := ob hf
  refine x_pV (As := [.int x1]) (rest := []) S hK (kX6_isLetter l E uq mo x1 h1) (cwV 1 hts gX6_copy_X6_isLetter rfl rfl rfl (by decide +kernel) ⟨Nat.le_of_ble_eq_true rfl, Nat.le_of_ble_eq_true rfl⟩) hP 0 rfl rfl rfl rfl hl.1 (Nat.le_of_ble_eq_true rfl) dX6_copy_2 rfl ⟨Nat.zero_le _, Nat.zero_le _⟩ ?_
  refine lv_if_eq (tgt := 21) hx hb dX6_copy_5 (by decide) (fun c2 => ?_) (fun c2 => ?_)
  · have hf := (if_pos c2).symm.trans hf
    refine lv_ldc hx hb hown (hts _ mX6_copy_0) dX6_copy_21 ?_
    obtain rfl := Option.some.inj hf
    subst hA
    exact x_iretM hx hb hr hlk (vp_nar_int _) hP hS dX6_copy_23
  · have hf := (if_neg c2).symm.trans hf
    refine lv_aload_n hx hb dX6_copy_8 rfl (lv_at hl 0 rfl) ?_
    refine lv_iload_n hx hb dX6_copy_9 rfl (lv_at hl 2 rfl) ?_
    obtain ⟨v3, h3, hf⟩ := ob hf
    refine x_pV (As := [.int x2]) (rest := []) S hK (kX6_isLetter l E uq mo x2 h3) (cwV 1 hts gX6_copy_X6_isLetter rfl rfl rfl (by decide +kernel) ⟨Nat.le_of_ble_eq_true rfl, Nat.le_of_ble_eq_true rfl⟩) hP 0 rfl rfl rfl rfl hl.1 (Nat.le_of_ble_eq_true rfl) dX6_copy_10 rfl ⟨Nat.zero_le _, Nat.zero_le _⟩ ?_
    refine lv_if_eq (tgt := 21) hx hb dX6_copy_13 (by decide) (fun c4 => ?_) (fun c4 => ?_)
    · have hf := (if_pos c4).symm.trans hf
      refine lv_ldc hx hb hown (hts _ mX6_copy_0) dX6_copy_21 ?_
      obtain rfl := Option.some.inj hf
      subst hA
      exact x_iretM hx hb hr hlk (vp_nar_int _) hP hS dX6_copy_23
    · have hf := (if_neg c4).symm.trans hf
      refine lv_iload_n hx hb dX6_copy_16 rfl (lv_at hl 1 rfl) ?_
      refine lv_iload_n hx hb dX6_copy_17 rfl (lv_at hl 2 rfl) ?_
      refine lv_icmp_ne (tgt := 24) hx hb dX6_copy_18 (by decide) (fun c5 => ?_) (fun c5 => ?_)
      · have hf := (if_neg c5).symm.trans hf
        refine lv_aload_n hx hb dX6_copy_24 rfl (lv_at hl 0 rfl) ?_
        obtain ⟨v6, h6, hf⟩ := ob hf
        refine x_mR (ws' := wM E uq v6) (As := []) (rest := []) S hK (kX6_remember l E uq mo h6) (cwV 0 hts gX6_copy_X6_remember rfl rfl rfl (by decide +kernel) ⟨Nat.le_of_ble_eq_true rfl, Nat.le_of_ble_eq_true rfl⟩) hP hD hS 0 14 rfl rfl 0 rfl rfl rfl rfl hl.1 (Nat.le_of_ble_eq_true rfl) dX6_copy_25 rfl ⟨Nat.zero_le _, Nat.zero_le _⟩ rfl (fun H locs hP hD hS => ?_)
        refine lv_aload_n hx hb dX6_copy_28 rfl (lv_at hl 0 rfl) ?_
        refine x_get hx hb hts inX6_copy_6 hown hK hP 0 rfl rfl 0 (by decide) mX6_copy_1 rfl dX6_copy_29 ?_
        refine lv_bipush (v := 48) hx hb dX6_copy_32 (by decide) ?_
        refine lv_iload_n hx hb dX6_copy_34 rfl (lv_at hl 1 rfl) ?_
        refine lv_iadd hx hb dX6_copy_35 ?_
        obtain ⟨v7, h7, hf⟩ := ob hf
        refine x_iald hx hb hK hP 1 rfl h7 dX6_copy_36 ?_
        refine lv_aload_n hx hb dX6_copy_37 rfl (lv_at hl 0 rfl) ?_
        refine x_get hx hb hts inX6_copy_6 hown hK hP 0 rfl rfl 0 (by decide) mX6_copy_1 rfl dX6_copy_38 ?_
        refine lv_bipush (v := 48) hx hb dX6_copy_41 (by decide) ?_
        refine lv_iload_n hx hb dX6_copy_43 rfl (lv_at hl 2 rfl) ?_
        refine lv_iadd hx hb dX6_copy_44 ?_
        obtain ⟨v8, h8, hf⟩ := ob hf
        refine x_iald hx hb hK hP 1 rfl h8 dX6_copy_45 ?_
        refine x_cut (pc := 54) (ls := ls) (st := [.int (if v7 = v8 then (0 : Int32) else (1 : Int32))]) ?_ (fun hj => ?_)
        · refine lv_istore_n (lv' := [(3, .int (if v7 = v8 then (0 : Int32) else (1 : Int32))), (0, .ref (uq 0)), (1, .int x1), (2, .int x2)]) hx hb dX6_copy_54 rfl hl (by decide) rfl (fun ls hl => ?_)
          refine lv_aload_n hx hb dX6_copy_55 rfl (lv_at hl 1 rfl) ?_
          refine x_get hx hb hts inX6_copy_6 hown hK hP 0 rfl rfl 0 (by decide) mX6_copy_1 rfl dX6_copy_56 ?_
          refine lv_bipush (v := 48) hx hb dX6_copy_59 (by decide) ?_
          refine lv_iload_n hx hb dX6_copy_61 rfl (lv_at hl 2 rfl) ?_
          refine lv_iadd hx hb dX6_copy_62 ?_
          refine lv_aload_n hx hb dX6_copy_63 rfl (lv_at hl 1 rfl) ?_
          refine x_get hx hb hts inX6_copy_6 hown hK hP 0 rfl rfl 0 (by decide) mX6_copy_1 rfl dX6_copy_64 ?_
          refine lv_bipush (v := 48) hx hb dX6_copy_67 (by decide) ?_
          refine lv_iload_n hx hb dX6_copy_69 rfl (lv_at hl 3 rfl) ?_
          refine lv_iadd hx hb dX6_copy_70 ?_
          obtain ⟨v10, h10, hf⟩ := ob hf
          refine x_iald hx hb hK hP 1 rfl h10 dX6_copy_71 ?_
          obtain ⟨v11, h11, hf⟩ := ob hf
          refine x_iast hx hb hK hP hD hS 1 rfl h11 dX6_copy_72 (fun H locs hP hD hS => ?_)
          have hP : va_P (xD E) vwCl (wM E uq (Mo_set_now v6 v11)) H := hP
          have hD : va_D A (wM E uq (Mo_set_now v6 v11)) := hD
          refine lv_iconst (v := 0) hx hb dX6_copy_73 (by decide) ?_
          refine lv_istore (lv' := [(4, .int (0 : Int32)), (3, .int (if v7 = v8 then (0 : Int32) else (1 : Int32))), (0, .ref (uq 0)), (1, .int x1), (2, .int x2)]) hx hb dX6_copy_74 hl (by decide) rfl (fun ls hl => ?_)
          obtain ⟨v12, h12, hf⟩ := ob hf
          refine wX6_copy_76 S E hK uq x1 x2 _ _ 1000 _ _ h12 _ _ hP hD hS ls (lv_sub hl [2, 3, 4, 1, 0] rfl) (fun H locs hP hD hS ls hl => ?_)
          refine lv_iload_n hx hb dX6_copy_148 rfl (lv_at hl 3 rfl) ?_
          obtain rfl := Option.some.inj hf
          subst hA
          exact x_iretM hx hb hr hlk (vp_nar_int _) hP hS dX6_copy_149
        · refine lv_icmp_ne (tgt := 53) hx hb dX6_copy_46 (by decide) (fun c9 => ?_) (fun c9 => ?_)
          · refine lv_iconst (v := 1) hx hb dX6_copy_53 (by decide) ?_
            exact (by rw [if_neg c9] at hj; exact hj)
          · refine lv_iconst (v := 0) hx hb dX6_copy_49 (by decide) ?_
            refine lv_goto (tgt := 54) hx hb dX6_copy_50 (by decide) ?_
            exact (by rw [if_pos c9] at hj; exact hj)
      · have hf := (if_pos c5).symm.trans hf
        refine lv_ldc hx hb hown (hts _ mX6_copy_0) dX6_copy_21 ?_
        obtain rfl := Option.some.inj hf
        subst hA
        exact x_iretM hx hb hr hlk (vp_nar_int _) hP hS dX6_copy_23
abbrev rmX6_drift : Room := { frames := 2, cells := 0, slots := 0, locals := 47 }
theorem mX6_drift_0 : Cond.constantLong RX6 228 (999999) ∈ wsX6_drift := by decide +kernel
theorem mX6_drift_1 : Cond.fieldLink RX6 7 "EvenWhiteModel" "now" "[I" ∈ wsX6_drift := by decide +kernel
theorem mX6_drift_2 : Cond.constantLong RX6 230 (16807) ∈ wsX6_drift := by decide +kernel
theorem mX6_drift_3 : Cond.constantLong RX6 232 (2147483647) ∈ wsX6_drift := by decide +kernel
theorem mX6_drift_4 : Cond.constantLong RX6 234 (31) ∈ wsX6_drift := by decide +kernel
theorem mX6_drift_5 : Cond.constantLong RX6 236 (5) ∈ wsX6_drift := by decide +kernel
theorem mX6_drift_6 : Cond.constant RX6 197 (-1000000002) ∈ wsX6_drift := by decide +kernel
theorem inX6_drift_6 : ∀ w ∈ u_ws RX6 TX6 17, w ∈ wsX6_drift := by decide +kernel
def gX6_drift_25 (x1 : Int32) (rec : (Int64 × Int32 × Mo) → Option (Int64 × Int32 × Mo)) (u : Int64 × Int32 × Mo) : Option (Int64 × Int32 × Mo) :=
  (rdI (Mo_now u.2.2) 63 (60 : Int32)).bind fun v1 =>
  (if ((16 : Int32) * v1) ≤ u.2.1 then
  some (u.1, u.2.1, u.2.2)
  else (wrI (Mo_now u.2.2) 63 u.2.1 (Int64.toInt32 (((u.1 * (16807 : Int64)) - (u.1 * (16807 : Int64)) / (2147483647 : Int64) * (2147483647 : Int64)) - ((u.1 * (16807 : Int64)) - (u.1 * (16807 : Int64)) / (2147483647 : Int64) * (2147483647 : Int64)) / (31 : Int64) * (31 : Int64)))).bind fun v3 =>
  rec (((u.1 * (16807 : Int64)) - (u.1 * (16807 : Int64)) / (2147483647 : Int64) * (2147483647 : Int64)), (u.2.1 + (1 : Int32)), (Mo_set_now u.2.2 v3)))
set_option maxHeartbeats 4000000 in
set_option maxRecDepth 100000 in
theorem wX6_drift_25 {p : Program} {l : Launch} {e : Env} {s : State} {m : MethodId} {args : Array Value} {below : List Frame} {meth : Method} {c : Code} {Q : State → Prop} (S : CallFix p m c cX6_drift 7 s args wsX6_drift RX6) (E : xG) (hK : xK E s) (uq : Nat → Nat) (x1 : Int32) (A : Nat → Prop) (H0 : Heap) : ∀ (n : Nat) (u : Int64 × Int32 × Mo) (r : Int64 × Int32 × Mo), lp (gX6_drift_25 x1) n u = some r → ∀ (H : Heap) (locs : List Loc), va_P (xD E) vwCl (wM E uq u.2.2) H → va_D A (wM E uq u.2.2) → va_S A H0 H locs → ∀ (ls : Array Slot), lv_has ls 7 [(0, .ref (uq 0)), (1, .int x1), (2, .long u.1), (4, .int u.2.1)] → (∀ (H : Heap) (locs : List Loc), va_P (xD E) vwCl (wM E uq r.2.2) H → va_D A (wM E uq r.2.2) → va_S A H0 H locs → ∀ (ls : Array Slot), lv_has ls 7 [(0, .ref (uq 0)), (1, .int x1), (2, .long r.1), (4, .int r.2.1)] → W p l e rmX6_drift s m args below meth c H locs 0 0 Q (F0 m 69 ls [])) → W p l e rmX6_drift s m args below meth c H locs 0 0 Q (F0 m 25 ls []) := by
  obtain ⟨hx, hb, hml, hown, hts⟩ := id S
  intro n
  induction n with
  | zero =>
    intro u r hf
    exact absurd (show (none : Option _) = some r from hf) (fun q => by cases q)
  | succ n ih =>
    intro u r hf H locs hP hD hS ls hl kx
    have hf : gX6_drift_25 x1 (lp (gX6_drift_25 x1) n) u = some r := hf
    unfold gX6_drift_25 at hf
    refine lv_iload hx hb dX6_drift_25 (lv_at hl 3 rfl) ?_
    refine lv_bipush (v := 16) hx hb dX6_drift_27 (by decide) ?_
    refine lv_aload_n hx hb dX6_drift_29 rfl (lv_at hl 0 rfl) ?_
    refine x_get hx hb hts inX6_drift_6 hown hK hP 0 rfl rfl 0 (by decide) mX6_drift_1 rfl dX6_drift_30 ?_
    refine lv_bipush (v := 60) hx hb dX6_drift_33 (by decide) ?_
    obtain ⟨v1, h1, hf⟩ := ob hf
    refine x_iald hx hb hK hP 1 rfl h1 dX6_drift_35 ?_
    refine lv_imul hx hb dX6_drift_36 ?_
    refine lv_icmp_ge (tgt := 69) hx hb dX6_drift_37 (by decide) (fun c2 => ?_) (fun c2 => ?_)
    · have hf := (if_pos c2).symm.trans hf
      obtain rfl := Option.some.inj hf
      exact kx _ _ hP hD hS ls (lv_sub hl [0, 1, 2, 3] rfl)
    · have hf := (if_neg c2).symm.trans hf
      refine lv_lload_n hx hb dX6_drift_40 rfl (lv_at hl 2 rfl) ?_
      refine lv_ldc2 hx hb hown (hts _ mX6_drift_2) dX6_drift_41 ?_
      refine lv_lmul hx hb dX6_drift_44 ?_
      refine lv_ldc2 hx hb hown (hts _ mX6_drift_3) dX6_drift_45 ?_
      refine lv_lrem hx hb dX6_drift_48 (by decide) ?_
      refine lv_lstore_n (lv' := [(2, .long ((u.1 * (16807 : Int64)) - (u.1 * (16807 : Int64)) / (2147483647 : Int64) * (2147483647 : Int64))), (0, .ref (uq 0)), (1, .int x1), (4, .int u.2.1)]) hx hb dX6_drift_49 rfl hl (by decide) rfl (fun ls hl => ?_)
      refine lv_aload_n hx hb dX6_drift_50 rfl (lv_at hl 1 rfl) ?_
      refine x_get hx hb hts inX6_drift_6 hown hK hP 0 rfl rfl 0 (by decide) mX6_drift_1 rfl dX6_drift_51 ?_
      refine lv_iload hx hb dX6_drift_54 (lv_at hl 3 rfl) ?_
      refine lv_lload_n hx hb dX6_drift_56 rfl (lv_at hl 0 rfl) ?_
      refine lv_ldc2 hx hb hown (hts _ mX6_drift_4) dX6_drift_57 ?_
      refine lv_lrem hx hb dX6_drift_60 (by decide) ?_
      refine lv_l2i (v := (Int64.toInt32 (((u.1 * (16807 : Int64)) - (u.1 * (16807 : Int64)) / (2147483647 : Int64) * (2147483647 : Int64)) - ((u.1 * (16807 : Int64)) - (u.1 * (16807 : Int64)) / (2147483647 : Int64) * (2147483647 : Int64)) / (31 : Int64) * (31 : Int64)))) hx hb dX6_drift_61 rfl ?_
      obtain ⟨v3, h3, hf⟩ := ob hf
      refine x_iast hx hb hK hP hD hS 1 rfl h3 dX6_drift_62 (fun H locs hP hD hS => ?_)
      have hP : va_P (xD E) vwCl (wM E uq (Mo_set_now u.2.2 v3)) H := hP
      have hD : va_D A (wM E uq (Mo_set_now u.2.2 v3)) := hD
      refine lv_iinc (v := (u.2.1 + (1 : Int32))) (lv' := [(4, .int (u.2.1 + (1 : Int32))), (2, .long ((u.1 * (16807 : Int64)) - (u.1 * (16807 : Int64)) / (2147483647 : Int64) * (2147483647 : Int64))), (0, .ref (uq 0)), (1, .int x1)]) hx hb dX6_drift_63 hl (k := 3) rfl rfl (by decide) rfl (fun ls hl => ?_)
      refine lv_goto (tgt := 25) hx hb dX6_drift_66 (by decide) ?_
      exact ih (((u.1 * (16807 : Int64)) - (u.1 * (16807 : Int64)) / (2147483647 : Int64) * (2147483647 : Int64)), (u.2.1 + (1 : Int32)), (Mo_set_now u.2.2 v3)) _ hf _ _ hP hD hS ls (lv_sub hl [2, 3, 1, 0] rfl) kx
def gX6_drift_90 (x1 : Int32) (x5 : Int32) (rec : (Int64 × Int32 × Int32 × Mo) → Option (Int64 × Int32 × Int32 × Mo)) (u : Int64 × Int32 × Int32 × Mo) : Option (Int64 × Int32 × Int32 × Mo) :=
  (rdI (Mo_now u.2.2.2) 63 (60 : Int32)).bind fun v1 =>
  (if v1 ≤ u.2.2.1 then
  some (u.1, u.2.1, u.2.2.1, u.2.2.2)
  else (wrI (Mo_now u.2.2.2) 63 (((51 : Int32) + ((3 : Int32) * x5)) + u.2.2.1) (Int64.toInt32 (((u.1 * (16807 : Int64)) - (u.1 * (16807 : Int64)) / (2147483647 : Int64) * (2147483647 : Int64)) - ((u.1 * (16807 : Int64)) - (u.1 * (16807 : Int64)) / (2147483647 : Int64) * (2147483647 : Int64)) / (5 : Int64) * (5 : Int64)))).bind fun v3 =>
  (fX6_bare (Mo_set_now u.2.2.2 v3) x5 u.2.2.1).bind fun v4 =>
  rec (((u.1 * (16807 : Int64)) - (u.1 * (16807 : Int64)) / (2147483647 : Int64) * (2147483647 : Int64)), (u.2.1 + v4), (u.2.2.1 + (1 : Int32)), (Mo_set_now u.2.2.2 v3)))
set_option maxHeartbeats 4000000 in
set_option maxRecDepth 100000 in
theorem wX6_drift_90 {p : Program} {l : Launch} {e : Env} {s : State} {m : MethodId} {args : Array Value} {below : List Frame} {meth : Method} {c : Code} {Q : State → Prop} (S : CallFix p m c cX6_drift 7 s args wsX6_drift RX6) (E : xG) (hK : xK E s) (uq : Nat → Nat) (x1 : Int32) (x5 : Int32) (A : Nat → Prop) (H0 : Heap) : ∀ (n : Nat) (u : Int64 × Int32 × Int32 × Mo) (r : Int64 × Int32 × Int32 × Mo), lp (gX6_drift_90 x1 x5) n u = some r → ∀ (H : Heap) (locs : List Loc), va_P (xD E) vwCl (wM E uq u.2.2.2) H → va_D A (wM E uq u.2.2.2) → va_S A H0 H locs → ∀ (ls : Array Slot), lv_has ls 7 [(0, .ref (uq 0)), (1, .int x1), (2, .long u.1), (4, .int u.2.1), (5, .int x5), (6, .int u.2.2.1)] → (∀ (H : Heap) (locs : List Loc), va_P (xD E) vwCl (wM E uq r.2.2.2) H → va_D A (wM E uq r.2.2.2) → va_S A H0 H locs → ∀ (ls : Array Slot), lv_has ls 7 [(0, .ref (uq 0)), (1, .int x1), (2, .long r.1), (4, .int r.2.1), (5, .int x5), (6, .int r.2.2.1)] → W p l e rmX6_drift s m args below meth c H locs 0 0 Q (F0 m 152 ls [])) → W p l e rmX6_drift s m args below meth c H locs 0 0 Q (F0 m 90 ls []) := by
  obtain ⟨hx, hb, hml, hown, hts⟩ := id S
  intro n
  induction n with
  | zero =>
    intro u r hf
    exact absurd (show (none : Option _) = some r from hf) (fun q => by cases q)
  | succ n ih =>
    intro u r hf H locs hP hD hS ls hl kx
    have hf : gX6_drift_90 x1 x5 (lp (gX6_drift_90 x1 x5) n) u = some r := hf
    unfold gX6_drift_90 at hf
    refine lv_iload hx hb dX6_drift_90 (lv_at hl 5 rfl) ?_
    refine lv_aload_n hx hb dX6_drift_92 rfl (lv_at hl 0 rfl) ?_
    refine x_get hx hb hts inX6_drift_6 hown hK hP 0 rfl rfl 0 (by decide) mX6_drift_1 rfl dX6_drift_93 ?_
    refine lv_bipush (v := 60) hx hb dX6_drift_96 (by decide) ?_
    obtain ⟨v1, h1, hf⟩ := ob hf
    refine x_iald hx hb hK hP 1 rfl h1 dX6_drift_98 ?_
    refine lv_icmp_ge (tgt := 152) hx hb dX6_drift_99 (by decide) (fun c2 => ?_) (fun c2 => ?_)
    · have hf := (if_pos c2).symm.trans hf
      obtain rfl := Option.some.inj hf
      exact kx _ _ hP hD hS ls (lv_sub hl [0, 1, 2, 3, 4, 5] rfl)
    · have hf := (if_neg c2).symm.trans hf
      refine lv_lload_n hx hb dX6_drift_102 rfl (lv_at hl 2 rfl) ?_
      refine lv_ldc2 hx hb hown (hts _ mX6_drift_2) dX6_drift_103 ?_
      refine lv_lmul hx hb dX6_drift_106 ?_
      refine lv_ldc2 hx hb hown (hts _ mX6_drift_3) dX6_drift_107 ?_
      refine lv_lrem hx hb dX6_drift_110 (by decide) ?_
      refine lv_lstore_n (lv' := [(2, .long ((u.1 * (16807 : Int64)) - (u.1 * (16807 : Int64)) / (2147483647 : Int64) * (2147483647 : Int64))), (0, .ref (uq 0)), (1, .int x1), (4, .int u.2.1), (5, .int x5), (6, .int u.2.2.1)]) hx hb dX6_drift_111 rfl hl (by decide) rfl (fun ls hl => ?_)
      refine lv_aload_n hx hb dX6_drift_112 rfl (lv_at hl 1 rfl) ?_
      refine x_get hx hb hts inX6_drift_6 hown hK hP 0 rfl rfl 0 (by decide) mX6_drift_1 rfl dX6_drift_113 ?_
      refine lv_bipush (v := 51) hx hb dX6_drift_116 (by decide) ?_
      refine lv_iconst (v := 3) hx hb dX6_drift_118 (by decide) ?_
      refine lv_iload hx hb dX6_drift_119 (lv_at hl 4 rfl) ?_
      refine lv_imul hx hb dX6_drift_121 ?_
      refine lv_iadd hx hb dX6_drift_122 ?_
      refine lv_iload hx hb dX6_drift_123 (lv_at hl 5 rfl) ?_
      refine lv_iadd hx hb dX6_drift_125 ?_
      refine lv_lload_n hx hb dX6_drift_126 rfl (lv_at hl 0 rfl) ?_
      refine lv_ldc2 hx hb hown (hts _ mX6_drift_5) dX6_drift_127 ?_
      refine lv_lrem hx hb dX6_drift_130 (by decide) ?_
      refine lv_l2i (v := (Int64.toInt32 (((u.1 * (16807 : Int64)) - (u.1 * (16807 : Int64)) / (2147483647 : Int64) * (2147483647 : Int64)) - ((u.1 * (16807 : Int64)) - (u.1 * (16807 : Int64)) / (2147483647 : Int64) * (2147483647 : Int64)) / (5 : Int64) * (5 : Int64)))) hx hb dX6_drift_131 rfl ?_
      obtain ⟨v3, h3, hf⟩ := ob hf
      refine x_iast hx hb hK hP hD hS 1 rfl h3 dX6_drift_132 (fun H locs hP hD hS => ?_)
      have hP : va_P (xD E) vwCl (wM E uq (Mo_set_now u.2.2.2 v3)) H := hP
      have hD : va_D A (wM E uq (Mo_set_now u.2.2.2 v3)) := hD
      refine lv_iload hx hb dX6_drift_133 (lv_at hl 3 rfl) ?_
      refine lv_aload_n hx hb dX6_drift_135 rfl (lv_at hl 1 rfl) ?_
      refine lv_iload hx hb dX6_drift_136 (lv_at hl 4 rfl) ?_
      refine lv_iload hx hb dX6_drift_138 (lv_at hl 5 rfl) ?_
      obtain ⟨v4, h4, hf⟩ := ob hf
      refine x_pV (As := [.int x5, .int u.2.2.1]) (rest := [.int u.2.1]) S hK (kX6_bare l E uq (Mo_set_now u.2.2.2 v3) x5 u.2.2.1 h4) (cwV 2 hts gX6_drift_X6_bare rfl rfl rfl (by decide +kernel) ⟨Nat.le_of_ble_eq_true rfl, Nat.le_of_ble_eq_true rfl⟩) hP 0 rfl rfl rfl rfl hl.1 (Nat.le_of_ble_eq_true rfl) dX6_drift_140 rfl ⟨Nat.zero_le _, Nat.zero_le _⟩ ?_
      refine lv_iadd hx hb dX6_drift_143 ?_
      refine lv_istore (lv' := [(4, .int (u.2.1 + v4)), (2, .long ((u.1 * (16807 : Int64)) - (u.1 * (16807 : Int64)) / (2147483647 : Int64) * (2147483647 : Int64))), (0, .ref (uq 0)), (1, .int x1), (5, .int x5), (6, .int u.2.2.1)]) hx hb dX6_drift_144 hl (by decide) rfl (fun ls hl => ?_)
      refine lv_iinc (v := (u.2.2.1 + (1 : Int32))) (lv' := [(6, .int (u.2.2.1 + (1 : Int32))), (4, .int (u.2.1 + v4)), (2, .long ((u.1 * (16807 : Int64)) - (u.1 * (16807 : Int64)) / (2147483647 : Int64) * (2147483647 : Int64))), (0, .ref (uq 0)), (1, .int x1), (5, .int x5)]) hx hb dX6_drift_146 hl (k := 5) rfl rfl (by decide) rfl (fun ls hl => ?_)
      refine lv_goto (tgt := 90) hx hb dX6_drift_149 (by decide) ?_
      exact ih (((u.1 * (16807 : Int64)) - (u.1 * (16807 : Int64)) / (2147483647 : Int64) * (2147483647 : Int64)), (u.2.1 + v4), (u.2.2.1 + (1 : Int32)), (Mo_set_now u.2.2.2 v3)) _ hf _ _ hP hD hS ls (lv_sub hl [3, 4, 2, 1, 5, 0] rfl) kx
def gX6_drift_75 (x1 : Int32) (rec : (Int64 × Int32 × Int32 × Mo) → Option (Int64 × Int32 × Int32 × Mo)) (u : Int64 × Int32 × Int32 × Mo) : Option (Int64 × Int32 × Int32 × Mo) :=
  (rdI (Mo_now u.2.2.2) 63 (60 : Int32)).bind fun v1 =>
  (if v1 ≤ u.2.2.1 then
  some (u.1, u.2.1, u.2.2.1, u.2.2.2)
  else (lp (gX6_drift_90 x1 u.2.2.1) 1000 (u.1, u.2.1, (0 : Int32), u.2.2.2)).bind fun v3 =>
  rec (v3.1, v3.2.1, (u.2.2.1 + (1 : Int32)), v3.2.2.2))
set_option maxHeartbeats 4000000 in
set_option maxRecDepth 100000 in
theorem wX6_drift_75 {p : Program} {l : Launch} {e : Env} {s : State} {m : MethodId} {args : Array Value} {below : List Frame} {meth : Method} {c : Code} {Q : State → Prop} (S : CallFix p m c cX6_drift 7 s args wsX6_drift RX6) (E : xG) (hK : xK E s) (uq : Nat → Nat) (x1 : Int32) (A : Nat → Prop) (H0 : Heap) : ∀ (n : Nat) (u : Int64 × Int32 × Int32 × Mo) (r : Int64 × Int32 × Int32 × Mo), lp (gX6_drift_75 x1) n u = some r → ∀ (H : Heap) (locs : List Loc), va_P (xD E) vwCl (wM E uq u.2.2.2) H → va_D A (wM E uq u.2.2.2) → va_S A H0 H locs → ∀ (ls : Array Slot), lv_has ls 7 [(0, .ref (uq 0)), (1, .int x1), (2, .long u.1), (4, .int u.2.1), (5, .int u.2.2.1)] → (∀ (H : Heap) (locs : List Loc), va_P (xD E) vwCl (wM E uq r.2.2.2) H → va_D A (wM E uq r.2.2.2) → va_S A H0 H locs → ∀ (ls : Array Slot), lv_has ls 7 [(0, .ref (uq 0)), (1, .int x1), (2, .long r.1), (4, .int r.2.1), (5, .int r.2.2.1)] → W p l e rmX6_drift s m args below meth c H locs 0 0 Q (F0 m 158 ls [])) → W p l e rmX6_drift s m args below meth c H locs 0 0 Q (F0 m 75 ls []) := by
  obtain ⟨hx, hb, hml, hown, hts⟩ := id S
  intro n
  induction n with
  | zero =>
    intro u r hf
    exact absurd (show (none : Option _) = some r from hf) (fun q => by cases q)
  | succ n ih =>
    intro u r hf H locs hP hD hS ls hl kx
    have hf : gX6_drift_75 x1 (lp (gX6_drift_75 x1) n) u = some r := hf
    unfold gX6_drift_75 at hf
    refine lv_iload hx hb dX6_drift_75 (lv_at hl 4 rfl) ?_
    refine lv_aload_n hx hb dX6_drift_77 rfl (lv_at hl 0 rfl) ?_
    refine x_get hx hb hts inX6_drift_6 hown hK hP 0 rfl rfl 0 (by decide) mX6_drift_1 rfl dX6_drift_78 ?_
    refine lv_bipush (v := 60) hx hb dX6_drift_81 (by decide) ?_
    obtain ⟨v1, h1, hf⟩ := ob hf
    refine x_iald hx hb hK hP 1 rfl h1 dX6_drift_83 ?_
    refine lv_icmp_ge (tgt := 158) hx hb dX6_drift_84 (by decide) (fun c2 => ?_) (fun c2 => ?_)
    · have hf := (if_pos c2).symm.trans hf
      obtain rfl := Option.some.inj hf
      exact kx _ _ hP hD hS ls (lv_sub hl [0, 1, 2, 3, 4] rfl)
    · have hf := (if_neg c2).symm.trans hf
      refine lv_iconst (v := 0) hx hb dX6_drift_87 (by decide) ?_
      refine lv_istore (lv' := [(6, .int (0 : Int32)), (0, .ref (uq 0)), (1, .int x1), (2, .long u.1), (4, .int u.2.1), (5, .int u.2.2.1)]) hx hb dX6_drift_88 hl (by decide) rfl (fun ls hl => ?_)
      obtain ⟨v3, h3, hf⟩ := ob hf
      refine wX6_drift_90 S E hK uq x1 u.2.2.1 _ _ 1000 _ _ h3 _ _ hP hD hS ls (lv_sub hl [1, 2, 3, 4, 5, 0] rfl) (fun H locs hP hD hS ls hl => ?_)
      refine lv_iinc (v := (u.2.2.1 + (1 : Int32))) (lv' := [(5, .int (u.2.2.1 + (1 : Int32))), (0, .ref (uq 0)), (1, .int x1), (2, .long v3.1), (4, .int v3.2.1), (6, .int v3.2.2.1)]) hx hb dX6_drift_152 hl (k := 4) rfl rfl (by decide) rfl (fun ls hl => ?_)
      refine lv_goto (tgt := 75) hx hb dX6_drift_155 (by decide) ?_
      exact ih (v3.1, v3.2.1, (u.2.2.1 + (1 : Int32)), v3.2.2.2) _ hf _ _ hP hD hS ls (lv_sub hl [1, 2, 3, 4, 0] rfl) kx
def fX6_drift (mo : Mo) (x1 : Int32) : Option (Int32 × Mo) :=
  (fX6_in (Int32.toInt64 x1) (1 : Int64) (999999 : Int64)).bind fun v1 =>
  (if v1 = (0 : Int32) then
  some ((-1000000002 : Int32), mo)
  else (fX6_remember mo).bind fun v3 =>
  (lp (gX6_drift_25 x1) 1000 ((Int32.toInt64 x1), (0 : Int32), v3)).bind fun v4 =>
  (lp (gX6_drift_75 x1) 1000 (v4.1, (0 : Int32), (0 : Int32), v4.2.2)).bind fun v5 =>
  some (v5.2.1, v5.2.2.2))
set_option maxHeartbeats 4000000 in
set_option maxRecDepth 100000 in
theorem kX6_drift (l : Launch) (E : xG) (uq : Nat → Nat) (mo : Mo) (x1 : Int32) {r : (Int32 × Mo)} (hf : fX6_drift mo x1 = some r) : xMut l yX6_drift wsX6_drift rmX6_drift E [.ref (uq 0), .int x1] (wM E uq mo) (some (.int r.1)) (wM E uq r.2) := by
  refine Met.ofW (cc := cX6_drift) (maxL := 7) (ret := (some .int)) (by decide) rfl ?_
  intro p e s m args below meth c s₁ B hml hv
  obtain ⟨rfl, hP, hK, hD0⟩ := hv
  have hx := B.exec
  have hb := B.bytes
  have hr := B.returns
  have hts := atoms_spec (ws := wsX6_drift) B.pre
  have hown : s.vm.findClass RX6 = some m.cls := findClass_of_methodNamed B.named
  have hlk := B.notSynchronized
  have S : CallFix p m c cX6_drift 7 s _ wsX6_drift RX6 := ⟨hx, hb, hml, hown, hts⟩
  have hl := lv_entry ([.ref (uq 0), .int x1]) (n := 7) (Nat.le_of_ble_eq_true rfl)
  rw [lg_entry_eq]
  generalize (lg_sl ([.ref (uq 0), .int x1]) ++ List.replicate (7 - (lg_sl ([.ref (uq 0), .int x1])).length) Slot.unset).toArray = ls at hl ⊢
  have hl : lv_has ls 7 [(0, .ref (uq 0)), (1, .int x1)] := hl
  have hD := xA.self hD0
  have hS : va_S (xA (wM E uq mo)) s.heap s.heap [] := va_S.rf
  show W p l e rmX6_drift s m _ below meth c s.heap [] 0 0 _ _
  generalize hA : xA (wM E uq mo) = A at hD hS ⊢
  unfold fX6_drift at hf
  refine lv_iload_n hx hb dX6_drift_0 rfl (lv_at hl 1 rfl) ?_
  refine lv_i2l (v := (Int32.toInt64 x1)) hx hb dX6_drift_1 rfl ?_
  refine lv_lconst (v := 1) hx hb dX6_drift_2 (by decide) ?_
  refine lv_ldc2 hx hb hown (hts _ mX6_drift_0) dX6_drift_3 ?_
  obtain ⟨v1, h1, hf⟩ := ob hf
  refine x_pS (As := [.long (Int32.toInt64 x1), .long (1 : Int64), .long (999999 : Int64)]) (rest := []) S hK (kX6_in l E (Int32.toInt64 x1) (1 : Int64) (999999 : Int64) h1) (va_cwS 3 hts gX6_drift_X6_in rfl rfl rfl (by decide +kernel) ⟨Nat.le_of_ble_eq_true rfl, Nat.le_of_ble_eq_true rfl⟩) x_nil rfl hl.1 (Nat.le_of_ble_eq_true rfl) dX6_drift_6 rfl ⟨Nat.zero_le _, Nat.zero_le _⟩ ?_
  refine lv_if_ne (tgt := 15) hx hb dX6_drift_9 (by decide) (fun c2 => ?_) (fun c2 => ?_)
  · have hf := (if_neg c2).symm.trans hf
    refine lv_aload_n hx hb dX6_drift_15 rfl (lv_at hl 0 rfl) ?_
    obtain ⟨v3, h3, hf⟩ := ob hf
    refine x_mR (ws' := wM E uq v3) (As := []) (rest := []) S hK (kX6_remember l E uq mo h3) (cwV 0 hts gX6_drift_X6_remember rfl rfl rfl (by decide +kernel) ⟨Nat.le_of_ble_eq_true rfl, Nat.le_of_ble_eq_true rfl⟩) hP hD hS 0 14 rfl rfl 0 rfl rfl rfl rfl hl.1 (Nat.le_of_ble_eq_true rfl) dX6_drift_16 rfl ⟨Nat.zero_le _, Nat.zero_le _⟩ rfl (fun H locs hP hD hS => ?_)
    refine lv_iload_n hx hb dX6_drift_19 rfl (lv_at hl 1 rfl) ?_
    refine lv_i2l (v := (Int32.toInt64 x1)) hx hb dX6_drift_20 rfl ?_
    refine lv_lstore_n (lv' := [(2, .long (Int32.toInt64 x1)), (0, .ref (uq 0)), (1, .int x1)]) hx hb dX6_drift_21 rfl hl (by decide) rfl (fun ls hl => ?_)
    refine lv_iconst (v := 0) hx hb dX6_drift_22 (by decide) ?_
    refine lv_istore (lv' := [(4, .int (0 : Int32)), (2, .long (Int32.toInt64 x1)), (0, .ref (uq 0)), (1, .int x1)]) hx hb dX6_drift_23 hl (by decide) rfl (fun ls hl => ?_)
    obtain ⟨v4, h4, hf⟩ := ob hf
    refine wX6_drift_25 S E hK uq x1 _ _ 1000 _ _ h4 _ _ hP hD hS ls (lv_sub hl [2, 3, 1, 0] rfl) (fun H locs hP hD hS ls hl => ?_)
    refine lv_iconst (v := 0) hx hb dX6_drift_69 (by decide) ?_
    refine lv_istore (lv' := [(4, .int (0 : Int32)), (0, .ref (uq 0)), (1, .int x1), (2, .long v4.1)]) hx hb dX6_drift_70 hl (by decide) rfl (fun ls hl => ?_)
    refine lv_iconst (v := 0) hx hb dX6_drift_72 (by decide) ?_
    refine lv_istore (lv' := [(5, .int (0 : Int32)), (4, .int (0 : Int32)), (0, .ref (uq 0)), (1, .int x1), (2, .long v4.1)]) hx hb dX6_drift_73 hl (by decide) rfl (fun ls hl => ?_)
    obtain ⟨v5, h5, hf⟩ := ob hf
    refine wX6_drift_75 S E hK uq x1 _ _ 1000 _ _ h5 _ _ hP hD hS ls (lv_sub hl [2, 3, 4, 1, 0] rfl) (fun H locs hP hD hS ls hl => ?_)
    refine lv_iload hx hb dX6_drift_158 (lv_at hl 3 rfl) ?_
    obtain rfl := Option.some.inj hf
    subst hA
    exact x_iretM hx hb hr hlk (vp_nar_int _) hP hS dX6_drift_160
  · have hf := (if_pos c2).symm.trans hf
    refine lv_ldc hx hb hown (hts _ mX6_drift_6) dX6_drift_12 ?_
    obtain rfl := Option.some.inj hf
    subst hA
    exact x_iretM hx hb hr hlk (vp_nar_int _) hP hS dX6_drift_14
abbrev rmX6_undo : Room := { frames := 0, cells := 0, slots := 0, locals := 0 }
theorem mX6_undo_0 : Cond.fieldLink RX6 182 "EvenWhiteModel" "undos" "I" ∈ wsX6_undo := by decide +kernel
theorem mX6_undo_1 : Cond.fieldLink RX6 7 "EvenWhiteModel" "now" "[I" ∈ wsX6_undo := by decide +kernel
theorem mX6_undo_2 : Cond.fieldLink RX6 42 "EvenWhiteModel" "past" "[I" ∈ wsX6_undo := by decide +kernel
theorem mX6_undo_3 : Cond.fieldLink RX6 51 "EvenWhiteModel" "lined" "I" ∈ wsX6_undo := by decide +kernel
theorem mX6_undo_4 : Cond.constant RX6 238 (-1000000003) ∈ wsX6_undo := by decide +kernel
theorem inX6_undo_6 : ∀ w ∈ u_ws RX6 TX6 17, w ∈ wsX6_undo := by decide +kernel
def gX6_undo_30 (x1 : Int32) (rec : (Int32 × Mo) → Option (Int32 × Mo)) (u : Int32 × Mo) : Option (Int32 × Mo) :=
  (if (63 : Int32) ≤ u.1 then
  some (u.1, u.2)
  else (rdI (Mo_past u.2) 504 (((63 : Int32) * (Mo_undos u.2)) + u.1)).bind fun v2 =>
  (wrI (Mo_now u.2) 63 u.1 v2).bind fun v3 =>
  rec ((u.1 + (1 : Int32)), (Mo_set_now u.2 v3)))
set_option maxHeartbeats 4000000 in
set_option maxRecDepth 100000 in
theorem wX6_undo_30 {p : Program} {l : Launch} {e : Env} {s : State} {m : MethodId} {args : Array Value} {below : List Frame} {meth : Method} {c : Code} {Q : State → Prop} (S : CallFix p m c cX6_undo 3 s args wsX6_undo RX6) (E : xG) (hK : xK E s) (uq : Nat → Nat) (x1 : Int32) (A : Nat → Prop) (H0 : Heap) : ∀ (n : Nat) (u : Int32 × Mo) (r : Int32 × Mo), lp (gX6_undo_30 x1) n u = some r → ∀ (H : Heap) (locs : List Loc), va_P (xD E) vwCl (wM E uq u.2) H → va_D A (wM E uq u.2) → va_S A H0 H locs → ∀ (ls : Array Slot), lv_has ls 3 [(0, .ref (uq 0)), (1, .int x1), (2, .int u.1)] → (∀ (H : Heap) (locs : List Loc), va_P (xD E) vwCl (wM E uq r.2) H → va_D A (wM E uq r.2) → va_S A H0 H locs → ∀ (ls : Array Slot), lv_has ls 3 [(0, .ref (uq 0)), (1, .int x1), (2, .int r.1)] → W p l e rmX6_undo s m args below meth c H locs 0 0 Q (F0 m 62 ls [])) → W p l e rmX6_undo s m args below meth c H locs 0 0 Q (F0 m 30 ls []) := by
  obtain ⟨hx, hb, hml, hown, hts⟩ := id S
  intro n
  induction n with
  | zero =>
    intro u r hf
    exact absurd (show (none : Option _) = some r from hf) (fun q => by cases q)
  | succ n ih =>
    intro u r hf H locs hP hD hS ls hl kx
    have hf : gX6_undo_30 x1 (lp (gX6_undo_30 x1) n) u = some r := hf
    unfold gX6_undo_30 at hf
    refine lv_iload_n hx hb dX6_undo_30 rfl (lv_at hl 2 rfl) ?_
    refine lv_bipush (v := 63) hx hb dX6_undo_31 (by decide) ?_
    refine lv_icmp_ge (tgt := 62) hx hb dX6_undo_33 (by decide) (fun c1 => ?_) (fun c1 => ?_)
    · have hf := (if_pos c1).symm.trans hf
      obtain rfl := Option.some.inj hf
      exact kx _ _ hP hD hS ls (lv_sub hl [0, 1, 2] rfl)
    · have hf := (if_neg c1).symm.trans hf
      refine lv_aload_n hx hb dX6_undo_36 rfl (lv_at hl 0 rfl) ?_
      refine x_get hx hb hts inX6_undo_6 hown hK hP 0 rfl rfl 0 (by decide) mX6_undo_1 rfl dX6_undo_37 ?_
      refine lv_iload_n hx hb dX6_undo_40 rfl (lv_at hl 2 rfl) ?_
      refine lv_aload_n hx hb dX6_undo_41 rfl (lv_at hl 0 rfl) ?_
      refine x_get hx hb hts inX6_undo_6 hown hK hP 0 rfl rfl 14 (by decide) mX6_undo_2 rfl dX6_undo_42 ?_
      refine lv_bipush (v := 63) hx hb dX6_undo_45 (by decide) ?_
      refine lv_aload_n hx hb dX6_undo_47 rfl (lv_at hl 0 rfl) ?_
      refine x_get hx hb hts inX6_undo_6 hown hK hP 0 rfl rfl 13 (by decide) mX6_undo_0 rfl dX6_undo_48 ?_
      refine lv_imul hx hb dX6_undo_51 ?_
      refine lv_iload_n hx hb dX6_undo_52 rfl (lv_at hl 2 rfl) ?_
      refine lv_iadd hx hb dX6_undo_53 ?_
      obtain ⟨v2, h2, hf⟩ := ob hf
      refine x_iald hx hb hK hP 11 rfl h2 dX6_undo_54 ?_
      obtain ⟨v3, h3, hf⟩ := ob hf
      refine x_iast hx hb hK hP hD hS 1 rfl h3 dX6_undo_55 (fun H locs hP hD hS => ?_)
      have hP : va_P (xD E) vwCl (wM E uq (Mo_set_now u.2 v3)) H := hP
      have hD : va_D A (wM E uq (Mo_set_now u.2 v3)) := hD
      refine lv_iinc (v := (u.1 + (1 : Int32))) (lv' := [(2, .int (u.1 + (1 : Int32))), (0, .ref (uq 0)), (1, .int x1)]) hx hb dX6_undo_56 hl (k := 2) rfl rfl (by decide) rfl (fun ls hl => ?_)
      refine lv_goto (tgt := 30) hx hb dX6_undo_59 (by decide) ?_
      exact ih ((u.1 + (1 : Int32)), (Mo_set_now u.2 v3)) _ hf _ _ hP hD hS ls (lv_sub hl [1, 2, 0] rfl) kx
def fX6_undo (mo : Mo) : Option (Int32 × Mo) :=
  (if (Mo_undos mo) = (0 : Int32) then
  some ((-1000000003 : Int32), mo)
  else (rdI (Mo_now mo) 63 (60 : Int32)).bind fun v2 =>
  (lp (gX6_undo_30 v2) 1000 ((0 : Int32), (Mo_set_undos mo ((Mo_undos mo) - (1 : Int32))))).bind fun v3 =>
  (rdI (Mo_now v3.2) 63 (60 : Int32)).bind fun v4 =>
  some ((Mo_undos v3.2), (Mo_set_lined v3.2 (if v4 = v2 then (Mo_lined v3.2) else (0 : Int32)))))
set_option maxHeartbeats 4000000 in
set_option maxRecDepth 100000 in
theorem kX6_undo (l : Launch) (E : xG) (uq : Nat → Nat) (mo : Mo) {r : (Int32 × Mo)} (hf : fX6_undo mo = some r) : xMut l yX6_undo wsX6_undo rmX6_undo E [.ref (uq 0)] (wM E uq mo) (some (.int r.1)) (wM E uq r.2) := by
  refine Met.ofW (cc := cX6_undo) (maxL := 3) (ret := (some .int)) (by decide) rfl ?_
  intro p e s m args below meth c s₁ B hml hv
  obtain ⟨rfl, hP, hK, hD0⟩ := hv
  have hx := B.exec
  have hb := B.bytes
  have hr := B.returns
  have hts := atoms_spec (ws := wsX6_undo) B.pre
  have hown : s.vm.findClass RX6 = some m.cls := findClass_of_methodNamed B.named
  have hlk := B.notSynchronized
  have S : CallFix p m c cX6_undo 3 s _ wsX6_undo RX6 := ⟨hx, hb, hml, hown, hts⟩
  have hl := lv_entry ([.ref (uq 0)]) (n := 3) (Nat.le_of_ble_eq_true rfl)
  rw [lg_entry_eq]
  generalize (lg_sl ([.ref (uq 0)]) ++ List.replicate (3 - (lg_sl ([.ref (uq 0)])).length) Slot.unset).toArray = ls at hl ⊢
  have hl : lv_has ls 3 [(0, .ref (uq 0))] := hl
  have hD := xA.self hD0
  have hS : va_S (xA (wM E uq mo)) s.heap s.heap [] := va_S.rf
  show W p l e rmX6_undo s m _ below meth c s.heap [] 0 0 _ _
  generalize hA : xA (wM E uq mo) = A at hD hS ⊢
  unfold fX6_undo at hf
  refine lv_aload_n hx hb dX6_undo_0 rfl (lv_at hl 0 rfl) ?_
  refine x_get hx hb hts inX6_undo_6 hown hK hP 0 rfl rfl 13 (by decide) mX6_undo_0 rfl dX6_undo_1 ?_
  refine lv_if_ne (tgt := 10) hx hb dX6_undo_4 (by decide) (fun c1 => ?_) (fun c1 => ?_)
  · have hf := (if_neg c1).symm.trans hf
    refine lv_aload_n hx hb dX6_undo_10 rfl (lv_at hl 0 rfl) ?_
    refine lv_dup hx hb dX6_undo_11 rfl ?_
    refine x_get hx hb hts inX6_undo_6 hown hK hP 0 rfl rfl 13 (by decide) mX6_undo_0 rfl dX6_undo_12 ?_
    refine lv_iconst (v := 1) hx hb dX6_undo_15 (by decide) ?_
    refine lv_isub hx hb dX6_undo_16 ?_
    refine x_putf hx hb hts inX6_undo_6 tyX6_ok nmX6 hown hK hP hD hS 0 rfl rfl 13 (by decide) mX6_undo_0 rfl (vp_nar_int _) rfl (Nat.le_of_ble_eq_true rfl) dX6_undo_17 (fun H locs hP hD hS => ?_)
    have hP : va_P (xD E) vwCl (wM E uq (Mo_set_undos mo ((Mo_undos mo) - (1 : Int32)))) H := hP
    have hD : va_D A (wM E uq (Mo_set_undos mo ((Mo_undos mo) - (1 : Int32)))) := hD
    refine lv_aload_n hx hb dX6_undo_20 rfl (lv_at hl 0 rfl) ?_
    refine x_get hx hb hts inX6_undo_6 hown hK hP 0 rfl rfl 0 (by decide) mX6_undo_1 rfl dX6_undo_21 ?_
    refine lv_bipush (v := 60) hx hb dX6_undo_24 (by decide) ?_
    obtain ⟨v2, h2, hf⟩ := ob hf
    refine x_iald hx hb hK hP 1 rfl h2 dX6_undo_26 ?_
    refine lv_istore_n (lv' := [(1, .int v2), (0, .ref (uq 0))]) hx hb dX6_undo_27 rfl hl (by decide) rfl (fun ls hl => ?_)
    refine lv_iconst (v := 0) hx hb dX6_undo_28 (by decide) ?_
    refine lv_istore_n (lv' := [(2, .int (0 : Int32)), (1, .int v2), (0, .ref (uq 0))]) hx hb dX6_undo_29 rfl hl (by decide) rfl (fun ls hl => ?_)
    obtain ⟨v3, h3, hf⟩ := ob hf
    refine wX6_undo_30 S E hK uq v2 _ _ 1000 _ _ h3 _ _ hP hD hS ls (lv_sub hl [2, 1, 0] rfl) (fun H locs hP hD hS ls hl => ?_)
    refine lv_aload_n hx hb dX6_undo_62 rfl (lv_at hl 0 rfl) ?_
    refine lv_aload_n hx hb dX6_undo_63 rfl (lv_at hl 0 rfl) ?_
    refine x_get hx hb hts inX6_undo_6 hown hK hP 0 rfl rfl 0 (by decide) mX6_undo_1 rfl dX6_undo_64 ?_
    refine lv_bipush (v := 60) hx hb dX6_undo_67 (by decide) ?_
    obtain ⟨v4, h4, hf⟩ := ob hf
    refine x_iald hx hb hK hP 1 rfl h4 dX6_undo_69 ?_
    refine lv_iload_n hx hb dX6_undo_70 rfl (lv_at hl 1 rfl) ?_
    refine x_cut (pc := 82) (ls := ls) (st := [.int (if v4 = v2 then (Mo_lined v3.2) else (0 : Int32)), .ref (uq 0)]) ?_ (fun hj => ?_)
    · refine x_putf hx hb hts inX6_undo_6 tyX6_ok nmX6 hown hK hP hD hS 0 rfl rfl 1 (by decide) mX6_undo_3 rfl (vp_nar_int _) rfl (Nat.le_of_ble_eq_true rfl) dX6_undo_82 (fun H locs hP hD hS => ?_)
      have hP : va_P (xD E) vwCl (wM E uq (Mo_set_lined v3.2 (if v4 = v2 then (Mo_lined v3.2) else (0 : Int32)))) H := hP
      have hD : va_D A (wM E uq (Mo_set_lined v3.2 (if v4 = v2 then (Mo_lined v3.2) else (0 : Int32)))) := hD
      refine lv_aload_n hx hb dX6_undo_85 rfl (lv_at hl 0 rfl) ?_
      refine x_get hx hb hts inX6_undo_6 hown hK hP 0 rfl rfl 13 (by decide) mX6_undo_0 rfl dX6_undo_86 ?_
      obtain rfl := Option.some.inj hf
      subst hA
      exact x_iretM hx hb hr hlk (vp_nar_int _) hP hS dX6_undo_89
    · refine lv_icmp_ne (tgt := 81) hx hb dX6_undo_71 (by decide) (fun c5 => ?_) (fun c5 => ?_)
      · refine lv_iconst (v := 0) hx hb dX6_undo_81 (by decide) ?_
        exact (by rw [if_neg c5] at hj; exact hj)
      · refine lv_aload_n hx hb dX6_undo_74 rfl (lv_at hl 0 rfl) ?_
        refine x_get hx hb hts inX6_undo_6 hown hK hP 0 rfl rfl 1 (by decide) mX6_undo_3 rfl dX6_undo_75 ?_
        refine lv_goto (tgt := 82) hx hb dX6_undo_78 (by decide) ?_
        exact (by rw [if_pos c5] at hj; exact hj)
  · have hf := (if_pos c1).symm.trans hf
    refine lv_ldc hx hb hown (hts _ mX6_undo_4) dX6_undo_7 ?_
    obtain rfl := Option.some.inj hf
    subst hA
    exact x_iretM hx hb hr hlk (vp_nar_int _) hP hS dX6_undo_9
abbrev rmX6_set : Room := { frames := 2, cells := 0, slots := 0, locals := 46 }
theorem mX6_set_0 : Cond.fieldLink RX6 51 "EvenWhiteModel" "lined" "I" ∈ wsX6_set := by decide +kernel
theorem mX6_set_1 : Cond.fieldLink RX6 13 "EvenWhiteModel" "line" "[I" ∈ wsX6_set := by decide +kernel
theorem mX6_set_2 : Cond.constant RX6 239 (-1000000004) ∈ wsX6_set := by decide +kernel
theorem mX6_set_3 : Cond.constant RX6 190 (-1000000001) ∈ wsX6_set := by decide +kernel
theorem inX6_set_6 : ∀ w ∈ u_ws RX6 TX6 17, w ∈ wsX6_set := by decide +kernel
def fX6_set (mo : Mo) (x1 : Int32) : Option (Int32 × Mo) :=
  (fX6_isLetter mo x1).bind fun v1 =>
  (if v1 = (0 : Int32) then
  some ((-1000000001 : Int32), mo)
  else (if (Mo_lined mo) = (16 : Int32) then
  some ((-1000000004 : Int32), mo)
  else (wrI (Mo_line mo) 16 (Mo_lined mo) x1).bind fun v4 =>
  some (((Mo_lined mo) + (1 : Int32)), (Mo_set_lined (Mo_set_line mo v4) ((Mo_lined mo) + (1 : Int32))))))
set_option maxHeartbeats 4000000 in
set_option maxRecDepth 100000 in
theorem kX6_set (l : Launch) (E : xG) (uq : Nat → Nat) (mo : Mo) (x1 : Int32) {r : (Int32 × Mo)} (hf : fX6_set mo x1 = some r) : xMut l yX6_set wsX6_set rmX6_set E [.ref (uq 0), .int x1] (wM E uq mo) (some (.int r.1)) (wM E uq r.2) := by
  refine Met.ofW (cc := cX6_set) (maxL := 2) (ret := (some .int)) (by decide) rfl ?_
  intro p e s m args below meth c s₁ B hml hv
  obtain ⟨rfl, hP, hK, hD0⟩ := hv
  have hx := B.exec
  have hb := B.bytes
  have hr := B.returns
  have hts := atoms_spec (ws := wsX6_set) B.pre
  have hown : s.vm.findClass RX6 = some m.cls := findClass_of_methodNamed B.named
  have hlk := B.notSynchronized
  have S : CallFix p m c cX6_set 2 s _ wsX6_set RX6 := ⟨hx, hb, hml, hown, hts⟩
  have hl := lv_entry ([.ref (uq 0), .int x1]) (n := 2) (Nat.le_of_ble_eq_true rfl)
  rw [lg_entry_eq]
  generalize (lg_sl ([.ref (uq 0), .int x1]) ++ List.replicate (2 - (lg_sl ([.ref (uq 0), .int x1])).length) Slot.unset).toArray = ls at hl ⊢
  have hl : lv_has ls 2 [(0, .ref (uq 0)), (1, .int x1)] := hl
  have hD := xA.self hD0
  have hS : va_S (xA (wM E uq mo)) s.heap s.heap [] := va_S.rf
  show W p l e rmX6_set s m _ below meth c s.heap [] 0 0 _ _
  generalize hA : xA (wM E uq mo) = A at hD hS ⊢
  unfold fX6_set at hf
  refine lv_aload_n hx hb dX6_set_0 rfl (lv_at hl 0 rfl) ?_
  refine lv_iload_n hx hb dX6_set_1 rfl (lv_at hl 1 rfl) ?_
  obtain ⟨v1, h1, hf⟩ := ob hf
  refine x_pV (As := [.int x1]) (rest := []) S hK (kX6_isLetter l E uq mo x1 h1) (cwV 1 hts gX6_set_X6_isLetter rfl rfl rfl (by decide +kernel) ⟨Nat.le_of_ble_eq_true rfl, Nat.le_of_ble_eq_true rfl⟩) hP 0 rfl rfl rfl rfl hl.1 (Nat.le_of_ble_eq_true rfl) dX6_set_2 rfl ⟨Nat.zero_le _, Nat.zero_le _⟩ ?_
  refine lv_if_ne (tgt := 11) hx hb dX6_set_5 (by decide) (fun c2 => ?_) (fun c2 => ?_)
  · have hf := (if_neg c2).symm.trans hf
    refine lv_aload_n hx hb dX6_set_11 rfl (lv_at hl 0 rfl) ?_
    refine x_get hx hb hts inX6_set_6 hown hK hP 0 rfl rfl 1 (by decide) mX6_set_0 rfl dX6_set_12 ?_
    refine lv_bipush (v := 16) hx hb dX6_set_15 (by decide) ?_
    refine lv_icmp_ne (tgt := 23) hx hb dX6_set_17 (by decide) (fun c3 => ?_) (fun c3 => ?_)
    · have hf := (if_neg c3).symm.trans hf
      refine lv_aload_n hx hb dX6_set_23 rfl (lv_at hl 0 rfl) ?_
      refine x_get hx hb hts inX6_set_6 hown hK hP 0 rfl rfl 2 (by decide) mX6_set_1 rfl dX6_set_24 ?_
      refine lv_aload_n hx hb dX6_set_27 rfl (lv_at hl 0 rfl) ?_
      refine x_get hx hb hts inX6_set_6 hown hK hP 0 rfl rfl 1 (by decide) mX6_set_0 rfl dX6_set_28 ?_
      refine lv_iload_n hx hb dX6_set_31 rfl (lv_at hl 1 rfl) ?_
      obtain ⟨v4, h4, hf⟩ := ob hf
      refine x_iast hx hb hK hP hD hS 2 rfl h4 dX6_set_32 (fun H locs hP hD hS => ?_)
      have hP : va_P (xD E) vwCl (wM E uq (Mo_set_line mo v4)) H := hP
      have hD : va_D A (wM E uq (Mo_set_line mo v4)) := hD
      refine lv_aload_n hx hb dX6_set_33 rfl (lv_at hl 0 rfl) ?_
      refine lv_dup hx hb dX6_set_34 rfl ?_
      refine x_get hx hb hts inX6_set_6 hown hK hP 0 rfl rfl 1 (by decide) mX6_set_0 rfl dX6_set_35 ?_
      refine lv_iconst (v := 1) hx hb dX6_set_38 (by decide) ?_
      refine lv_iadd hx hb dX6_set_39 ?_
      refine x_putf hx hb hts inX6_set_6 tyX6_ok nmX6 hown hK hP hD hS 0 rfl rfl 1 (by decide) mX6_set_0 rfl (vp_nar_int _) rfl (Nat.le_of_ble_eq_true rfl) dX6_set_40 (fun H locs hP hD hS => ?_)
      have hP : va_P (xD E) vwCl (wM E uq (Mo_set_lined (Mo_set_line mo v4) ((Mo_lined mo) + (1 : Int32)))) H := hP
      have hD : va_D A (wM E uq (Mo_set_lined (Mo_set_line mo v4) ((Mo_lined mo) + (1 : Int32)))) := hD
      refine lv_aload_n hx hb dX6_set_43 rfl (lv_at hl 0 rfl) ?_
      refine x_get hx hb hts inX6_set_6 hown hK hP 0 rfl rfl 1 (by decide) mX6_set_0 rfl dX6_set_44 ?_
      obtain rfl := Option.some.inj hf
      subst hA
      exact x_iretM hx hb hr hlk (vp_nar_int _) hP hS dX6_set_47
    · have hf := (if_pos c3).symm.trans hf
      refine lv_ldc hx hb hown (hts _ mX6_set_2) dX6_set_20 ?_
      obtain rfl := Option.some.inj hf
      subst hA
      exact x_iretM hx hb hr hlk (vp_nar_int _) hP hS dX6_set_22
  · have hf := (if_pos c2).symm.trans hf
    refine lv_ldc hx hb hown (hts _ mX6_set_3) dX6_set_8 ?_
    obtain rfl := Option.some.inj hf
    subst hA
    exact x_iretM hx hb hr hlk (vp_nar_int _) hP hS dX6_set_10
