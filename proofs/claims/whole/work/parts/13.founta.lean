abbrev rmX1_hasLetter : Room := { frames := 1, cells := 0, slots := 0, locals := 22 }
theorem mX1_hasLetter_0 : Cond.fieldLink RX1 32 "EvenWhite$Fount" "many" "I" ∈ wsX1_hasLetter := by decide +kernel
theorem mX1_hasLetter_1 : Cond.initialized RX5 ∈ wsX1_hasLetter := by decide +kernel
theorem mX1_hasLetter_2 : Cond.static yX5_within ∈ wsX1_hasLetter := by decide +kernel
theorem inX1_hasLetter_1 : ∀ w ∈ u_ws RX1 TX1 6, w ∈ wsX1_hasLetter := by decide +kernel
def fX1_hasLetter (z : Fo) (x1 : Int32) : Option Int32 :=
  (fX5_within x1 (0 : Int32) ((Fo_many z) - (1 : Int32))).bind fun v1 =>
  ckZ v1
set_option maxHeartbeats 4000000 in
set_option maxRecDepth 100000 in
theorem kX1_hasLetter (l : Launch) (E : xG) (f : Nat → Nat) (z : Fo) (x1 : Int32) {r : Int32} (hf : fX1_hasLetter z x1 = some r) : xPure l yX1_hasLetter wsX1_hasLetter rmX1_hasLetter E [.ref (f 0), .int x1] (wF E f z) (.int r) := by
  refine Met.ofW (cc := cX1_hasLetter) (maxL := 2) (ret := (some .boolean)) (by decide) rfl ?_
  intro p e s m args below meth c s₁ B hml hv
  obtain ⟨rfl, hP, hK⟩ := hv
  have hx := B.exec
  have hb := B.bytes
  have hr := B.returns
  have hts := atoms_spec (ws := wsX1_hasLetter) B.pre
  have hown : s.vm.findClass RX1 = some m.cls := findClass_of_methodNamed B.named
  have hlk := B.notSynchronized
  have S : CallFix p m c cX1_hasLetter 2 s _ wsX1_hasLetter RX1 := ⟨hx, hb, hml, hown, hts⟩
  have hl := lv_entry ([.ref (f 0), .int x1]) (n := 2) (Nat.le_of_ble_eq_true rfl)
  rw [lg_entry_eq]
  generalize (lg_sl ([.ref (f 0), .int x1]) ++ List.replicate (2 - (lg_sl ([.ref (f 0), .int x1])).length) Slot.unset).toArray = ls at hl ⊢
  have hl : lv_has ls 2 [(0, .ref (f 0)), (1, .int x1)] := hl
  unfold fX1_hasLetter at hf
  refine lv_iload_n hx hb dX1_hasLetter_0 rfl (lv_at hl 1 rfl) ?_
  refine lv_iconst (v := 0) hx hb dX1_hasLetter_1 (by decide) ?_
  refine lv_aload_n hx hb dX1_hasLetter_2 rfl (lv_at hl 0 rfl) ?_
  refine x_get hx hb hts inX1_hasLetter_1 hown hK hP 0 rfl rfl 0 (by decide) mX1_hasLetter_0 rfl dX1_hasLetter_3 ?_
  refine lv_iconst (v := 1) hx hb dX1_hasLetter_6 (by decide) ?_
  refine lv_isub hx hb dX1_hasLetter_7 ?_
  obtain ⟨v1, h1, hf⟩ := ob hf
  refine x_pN (As := [.int x1, .int (0 : Int32), .int ((Fo_many z) - (1 : Int32))]) (rest := []) S hK (kX5_within l E x1 (0 : Int32) ((Fo_many z) - (1 : Int32)) h1) ⟨va_cnB 3 hts gX1_hasLetter_X5_within_n41 rfl rfl rfl hK.2.1 (hts _ mX1_hasLetter_1) (by decide +kernel) ⟨Nat.le_of_ble_eq_true rfl, Nat.le_of_ble_eq_true rfl⟩, hts _ mX1_hasLetter_2, trivial⟩ x_nil rfl hl.1 (Nat.le_of_ble_eq_true rfl) dX1_hasLetter_8 rfl ⟨Nat.zero_le _, Nat.zero_le _⟩ ?_
  obtain ⟨hn, rfl⟩ := ckZ_ok hf
  exact x_iret hx hb hr hlk hn dX1_hasLetter_11
abbrev rmX1_hasPair : Room := { frames := 2, cells := 0, slots := 0, locals := 43 }
def fX1_hasPair (z : Fo) (x1 : Int32) (x2 : Int32) : Option Int32 :=
  (fX1_hasLetter z x1).bind fun v1 =>
  ((if v1 = (0 : Int32) then
  some (0 : Int32)
  else (fX1_hasLetter z x2).bind fun v4 =>
  (if v4 = (0 : Int32) then
  some (0 : Int32)
  else some (1 : Int32)))).bind fun v2 =>
  ckZ v2
set_option maxHeartbeats 4000000 in
set_option maxRecDepth 100000 in
theorem kX1_hasPair (l : Launch) (E : xG) (f : Nat → Nat) (z : Fo) (x1 : Int32) (x2 : Int32) {r : Int32} (hf : fX1_hasPair z x1 x2 = some r) : xPure l yX1_hasPair wsX1_hasPair rmX1_hasPair E [.ref (f 0), .int x1, .int x2] (wF E f z) (.int r) := by
  refine Met.ofW (cc := cX1_hasPair) (maxL := 3) (ret := (some .boolean)) (by decide) rfl ?_
  intro p e s m args below meth c s₁ B hml hv
  obtain ⟨rfl, hP, hK⟩ := hv
  have hx := B.exec
  have hb := B.bytes
  have hr := B.returns
  have hts := atoms_spec (ws := wsX1_hasPair) B.pre
  have hown : s.vm.findClass RX1 = some m.cls := findClass_of_methodNamed B.named
  have hlk := B.notSynchronized
  have S : CallFix p m c cX1_hasPair 3 s _ wsX1_hasPair RX1 := ⟨hx, hb, hml, hown, hts⟩
  have hl := lv_entry ([.ref (f 0), .int x1, .int x2]) (n := 3) (Nat.le_of_ble_eq_true rfl)
  rw [lg_entry_eq]
  generalize (lg_sl ([.ref (f 0), .int x1, .int x2]) ++ List.replicate (3 - (lg_sl ([.ref (f 0), .int x1, .int x2])).length) Slot.unset).toArray = ls at hl ⊢
  have hl : lv_has ls 3 [(0, .ref (f 0)), (1, .int x1), (2, .int x2)] := hl
  unfold fX1_hasPair at hf
  refine lv_aload_n hx hb dX1_hasPair_0 rfl (lv_at hl 0 rfl) ?_
  refine lv_iload_n hx hb dX1_hasPair_1 rfl (lv_at hl 1 rfl) ?_
  obtain ⟨v1, h1, hf⟩ := ob hf
  refine x_pV (As := [.int x1]) (rest := []) S hK (kX1_hasLetter l E f z x1 h1) (cwV 1 hts gX1_hasPair_X1_hasLetter rfl rfl rfl (by decide +kernel) ⟨Nat.le_of_ble_eq_true rfl, Nat.le_of_ble_eq_true rfl⟩) hP 0 rfl rfl rfl rfl hl.1 (Nat.le_of_ble_eq_true rfl) dX1_hasPair_2 rfl ⟨Nat.zero_le _, Nat.zero_le _⟩ ?_
  obtain ⟨v2, h2, hf⟩ := ob hf
  refine x_cutL (fun ls => lv_has ls 3 [(0, .ref (f 0)), (1, .int x1), (2, .int x2)]) (pc := 21) (st := [.int v2]) (fun ls hl => ?_) (fun hj => ?_)
  · obtain ⟨hn, rfl⟩ := ckZ_ok hf
    exact x_iret hx hb hr hlk hn dX1_hasPair_21
  · have hf := h2
    refine lv_if_eq (tgt := 20) hx hb dX1_hasPair_5 (by decide) (fun c3 => ?_) (fun c3 => ?_)
    · have hf := (if_pos c3).symm.trans hf
      refine lv_iconst (v := 0) hx hb dX1_hasPair_20 (by decide) ?_
      obtain rfl := Option.some.inj hf
      exact hj ls (lv_sub hl [0, 1, 2] rfl)
    · have hf := (if_neg c3).symm.trans hf
      refine lv_aload_n hx hb dX1_hasPair_8 rfl (lv_at hl 0 rfl) ?_
      refine lv_iload_n hx hb dX1_hasPair_9 rfl (lv_at hl 2 rfl) ?_
      obtain ⟨v4, h4, hf⟩ := ob hf
      refine x_pV (As := [.int x2]) (rest := []) S hK (kX1_hasLetter l E f z x2 h4) (cwV 1 hts gX1_hasPair_X1_hasLetter rfl rfl rfl (by decide +kernel) ⟨Nat.le_of_ble_eq_true rfl, Nat.le_of_ble_eq_true rfl⟩) hP 0 rfl rfl rfl rfl hl.1 (Nat.le_of_ble_eq_true rfl) dX1_hasPair_10 rfl ⟨Nat.zero_le _, Nat.zero_le _⟩ ?_
      refine lv_if_eq (tgt := 20) hx hb dX1_hasPair_13 (by decide) (fun c5 => ?_) (fun c5 => ?_)
      · have hf := (if_pos c5).symm.trans hf
        refine lv_iconst (v := 0) hx hb dX1_hasPair_20 (by decide) ?_
        obtain rfl := Option.some.inj hf
        exact hj ls (lv_sub hl [0, 1, 2] rfl)
      · have hf := (if_neg c5).symm.trans hf
        refine lv_iconst (v := 1) hx hb dX1_hasPair_16 (by decide) ?_
        refine lv_goto (tgt := 21) hx hb dX1_hasPair_17 (by decide) ?_
        obtain rfl := Option.some.inj hf
        exact hj ls (lv_sub hl [0, 1, 2] rfl)
abbrev rmX1_backOf : Room := { frames := 1, cells := 0, slots := 0, locals := 22 }
theorem mX1_backOf_0 : Cond.fieldLink RX1 22 "EvenWhite$Fount" "backs" "[I" ∈ wsX1_backOf := by decide +kernel
theorem inX1_backOf_1 : ∀ w ∈ u_ws RX1 TX1 6, w ∈ wsX1_backOf := by decide +kernel
def fX1_backOf (z : Fo) (x1 : Int32) (x2 : Int32) (x3 : Int32) : Option Int32 :=
  (fX1_placeOfBack x1 x2 x3).bind fun v1 =>
  (rdI (Fo_backs z) 48 v1).bind fun v2 =>
  some v2
set_option maxHeartbeats 4000000 in
set_option maxRecDepth 100000 in
theorem kX1_backOf (l : Launch) (E : xG) (f : Nat → Nat) (z : Fo) (x1 : Int32) (x2 : Int32) (x3 : Int32) {r : Int32} (hf : fX1_backOf z x1 x2 x3 = some r) : xPure l yX1_backOf wsX1_backOf rmX1_backOf E [.ref (f 0), .int x1, .int x2, .int x3] (wF E f z) (.int r) := by
  refine Met.ofW (cc := cX1_backOf) (maxL := 4) (ret := (some .int)) (by decide) rfl ?_
  intro p e s m args below meth c s₁ B hml hv
  obtain ⟨rfl, hP, hK⟩ := hv
  have hx := B.exec
  have hb := B.bytes
  have hr := B.returns
  have hts := atoms_spec (ws := wsX1_backOf) B.pre
  have hown : s.vm.findClass RX1 = some m.cls := findClass_of_methodNamed B.named
  have hlk := B.notSynchronized
  have S : CallFix p m c cX1_backOf 4 s _ wsX1_backOf RX1 := ⟨hx, hb, hml, hown, hts⟩
  have hl := lv_entry ([.ref (f 0), .int x1, .int x2, .int x3]) (n := 4) (Nat.le_of_ble_eq_true rfl)
  rw [lg_entry_eq]
  generalize (lg_sl ([.ref (f 0), .int x1, .int x2, .int x3]) ++ List.replicate (4 - (lg_sl ([.ref (f 0), .int x1, .int x2, .int x3])).length) Slot.unset).toArray = ls at hl ⊢
  have hl : lv_has ls 4 [(0, .ref (f 0)), (1, .int x1), (2, .int x2), (3, .int x3)] := hl
  unfold fX1_backOf at hf
  refine lv_aload_n hx hb dX1_backOf_0 rfl (lv_at hl 0 rfl) ?_
  refine x_get hx hb hts inX1_backOf_1 hown hK hP 0 rfl rfl 4 (by decide) mX1_backOf_0 rfl dX1_backOf_1 ?_
  refine lv_iload_n hx hb dX1_backOf_4 rfl (lv_at hl 1 rfl) ?_
  refine lv_iload_n hx hb dX1_backOf_5 rfl (lv_at hl 2 rfl) ?_
  refine lv_iload_n hx hb dX1_backOf_6 rfl (lv_at hl 3 rfl) ?_
  obtain ⟨v1, h1, hf⟩ := ob hf
  refine x_pS (As := [.int x1, .int x2, .int x3]) (rest := [.ref (f 2)]) S hK (kX1_placeOfBack l E x1 x2 x3 h1) (va_cwS 3 hts gX1_backOf_X1_placeOfBack rfl rfl rfl (by decide +kernel) ⟨Nat.le_of_ble_eq_true rfl, Nat.le_of_ble_eq_true rfl⟩) x_nil rfl hl.1 (Nat.le_of_ble_eq_true rfl) dX1_backOf_7 rfl ⟨Nat.zero_le _, Nat.zero_le _⟩ ?_
  obtain ⟨v2, h2, hf⟩ := ob hf
  refine x_iald hx hb hK hP 2 rfl h2 dX1_backOf_10 ?_
  obtain rfl := Option.some.inj hf
  exact x_iret hx hb hr hlk (vp_nar_int _) dX1_backOf_11
abbrev rmX1_putBack : Room := { frames := 1, cells := 0, slots := 0, locals := 22 }
theorem mX1_putBack_0 : Cond.fieldLink RX1 22 "EvenWhite$Fount" "backs" "[I" ∈ wsX1_putBack := by decide +kernel
theorem inX1_putBack_1 : ∀ w ∈ u_ws RX1 TX1 6, w ∈ wsX1_putBack := by decide +kernel
def fX1_putBack (z : Fo) (x1 : Int32) (x2 : Int32) (x3 : Int32) (x4 : Int32) : Option Fo :=
  (fX1_placeOfBack x1 x2 x3).bind fun v1 =>
  (wrI (Fo_backs z) 48 v1 x4).bind fun v2 =>
  some (Fo_set_backs z v2)
set_option maxHeartbeats 4000000 in
set_option maxRecDepth 100000 in
theorem kX1_putBack (l : Launch) (E : xG) (f : Nat → Nat) (z : Fo) (x1 : Int32) (x2 : Int32) (x3 : Int32) (x4 : Int32) {r : Fo} (hf : fX1_putBack z x1 x2 x3 x4 = some r) : xMut l yX1_putBack wsX1_putBack rmX1_putBack E [.ref (f 0), .int x1, .int x2, .int x3, .int x4] (wF E f z) none (wF E f r) := by
  refine Met.ofW (cc := cX1_putBack) (maxL := 5) (ret := none) (by decide) rfl ?_
  intro p e s m args below meth c s₁ B hml hv
  obtain ⟨rfl, hP, hK, hD0⟩ := hv
  have hx := B.exec
  have hb := B.bytes
  have hr := B.returns
  have hts := atoms_spec (ws := wsX1_putBack) B.pre
  have hown : s.vm.findClass RX1 = some m.cls := findClass_of_methodNamed B.named
  have hlk := B.notSynchronized
  have S : CallFix p m c cX1_putBack 5 s _ wsX1_putBack RX1 := ⟨hx, hb, hml, hown, hts⟩
  have hl := lv_entry ([.ref (f 0), .int x1, .int x2, .int x3, .int x4]) (n := 5) (Nat.le_of_ble_eq_true rfl)
  rw [lg_entry_eq]
  generalize (lg_sl ([.ref (f 0), .int x1, .int x2, .int x3, .int x4]) ++ List.replicate (5 - (lg_sl ([.ref (f 0), .int x1, .int x2, .int x3, .int x4])).length) Slot.unset).toArray = ls at hl ⊢
  have hl : lv_has ls 5 [(0, .ref (f 0)), (1, .int x1), (2, .int x2), (3, .int x3), (4, .int x4)] := hl
  have hD := xA.self hD0
  have hS : va_S (xA (wF E f z)) s.heap s.heap [] := va_S.rf
  show W p l e rmX1_putBack s m _ below meth c s.heap [] 0 0 _ _
  generalize hA : xA (wF E f z) = A at hD hS ⊢
  unfold fX1_putBack at hf
  refine lv_aload_n hx hb dX1_putBack_0 rfl (lv_at hl 0 rfl) ?_
  refine x_get hx hb hts inX1_putBack_1 hown hK hP 0 rfl rfl 4 (by decide) mX1_putBack_0 rfl dX1_putBack_1 ?_
  refine lv_iload_n hx hb dX1_putBack_4 rfl (lv_at hl 1 rfl) ?_
  refine lv_iload_n hx hb dX1_putBack_5 rfl (lv_at hl 2 rfl) ?_
  refine lv_iload_n hx hb dX1_putBack_6 rfl (lv_at hl 3 rfl) ?_
  obtain ⟨v1, h1, hf⟩ := ob hf
  refine x_pS (As := [.int x1, .int x2, .int x3]) (rest := [.ref (f 2)]) S hK (kX1_placeOfBack l E x1 x2 x3 h1) (va_cwS 3 hts gX1_putBack_X1_placeOfBack rfl rfl rfl (by decide +kernel) ⟨Nat.le_of_ble_eq_true rfl, Nat.le_of_ble_eq_true rfl⟩) x_nil rfl hl.1 (Nat.le_of_ble_eq_true rfl) dX1_putBack_7 rfl ⟨Nat.zero_le _, Nat.zero_le _⟩ ?_
  refine lv_iload hx hb dX1_putBack_10 (lv_at hl 4 rfl) ?_
  obtain ⟨v2, h2, hf⟩ := ob hf
  refine x_iast hx hb hK hP hD hS 2 rfl h2 dX1_putBack_12 (fun H locs hP hD hS => ?_)
  have hP : va_P (xD E) vwCl (wF E f (Fo_set_backs z v2)) H := hP
  have hD : va_D A (wF E f (Fo_set_backs z v2)) := hD
  obtain rfl := Option.some.inj hf
  subst hA
  exact x_vretM hx hb hr hlk hP hS dX1_putBack_13
abbrev rmX1_weightOf : Room := { frames := 0, cells := 0, slots := 0, locals := 0 }
theorem mX1_weightOf_0 : Cond.fieldLink RX1 25 "EvenWhite$Fount" "weights" "[I" ∈ wsX1_weightOf := by decide +kernel
theorem inX1_weightOf_1 : ∀ w ∈ u_ws RX1 TX1 6, w ∈ wsX1_weightOf := by decide +kernel
def fX1_weightOf (z : Fo) (x1 : Int32) (x2 : Int32) : Option Int32 :=
  (rdI (Fo_weights z) 9 ((x1 * (3 : Int32)) + x2)).bind fun v1 =>
  some v1
set_option maxHeartbeats 4000000 in
set_option maxRecDepth 100000 in
theorem kX1_weightOf (l : Launch) (E : xG) (f : Nat → Nat) (z : Fo) (x1 : Int32) (x2 : Int32) {r : Int32} (hf : fX1_weightOf z x1 x2 = some r) : xPure l yX1_weightOf wsX1_weightOf rmX1_weightOf E [.ref (f 0), .int x1, .int x2] (wF E f z) (.int r) := by
  refine Met.ofW (cc := cX1_weightOf) (maxL := 3) (ret := (some .int)) (by decide) rfl ?_
  intro p e s m args below meth c s₁ B hml hv
  obtain ⟨rfl, hP, hK⟩ := hv
  have hx := B.exec
  have hb := B.bytes
  have hr := B.returns
  have hts := atoms_spec (ws := wsX1_weightOf) B.pre
  have hown : s.vm.findClass RX1 = some m.cls := findClass_of_methodNamed B.named
  have hlk := B.notSynchronized
  have S : CallFix p m c cX1_weightOf 3 s _ wsX1_weightOf RX1 := ⟨hx, hb, hml, hown, hts⟩
  have hl := lv_entry ([.ref (f 0), .int x1, .int x2]) (n := 3) (Nat.le_of_ble_eq_true rfl)
  rw [lg_entry_eq]
  generalize (lg_sl ([.ref (f 0), .int x1, .int x2]) ++ List.replicate (3 - (lg_sl ([.ref (f 0), .int x1, .int x2])).length) Slot.unset).toArray = ls at hl ⊢
  have hl : lv_has ls 3 [(0, .ref (f 0)), (1, .int x1), (2, .int x2)] := hl
  unfold fX1_weightOf at hf
  refine lv_aload_n hx hb dX1_weightOf_0 rfl (lv_at hl 0 rfl) ?_
  refine x_get hx hb hts inX1_weightOf_1 hown hK hP 0 rfl rfl 5 (by decide) mX1_weightOf_0 rfl dX1_weightOf_1 ?_
  refine lv_iload_n hx hb dX1_weightOf_4 rfl (lv_at hl 1 rfl) ?_
  refine lv_iconst (v := 3) hx hb dX1_weightOf_5 (by decide) ?_
  refine lv_imul hx hb dX1_weightOf_6 ?_
  refine lv_iload_n hx hb dX1_weightOf_7 rfl (lv_at hl 2 rfl) ?_
  refine lv_iadd hx hb dX1_weightOf_8 ?_
  obtain ⟨v1, h1, hf⟩ := ob hf
  refine x_iald hx hb hK hP 3 rfl h1 dX1_weightOf_9 ?_
  obtain rfl := Option.some.inj hf
  exact x_iret hx hb hr hlk (vp_nar_int _) dX1_weightOf_10
abbrev rmX1_putWeight : Room := { frames := 0, cells := 0, slots := 0, locals := 0 }
theorem mX1_putWeight_0 : Cond.fieldLink RX1 25 "EvenWhite$Fount" "weights" "[I" ∈ wsX1_putWeight := by decide +kernel
theorem inX1_putWeight_1 : ∀ w ∈ u_ws RX1 TX1 6, w ∈ wsX1_putWeight := by decide +kernel
def fX1_putWeight (z : Fo) (x1 : Int32) (x2 : Int32) (x3 : Int32) : Option Fo :=
  (wrI (Fo_weights z) 9 ((x1 * (3 : Int32)) + x2) x3).bind fun v1 =>
  some (Fo_set_weights z v1)
set_option maxHeartbeats 4000000 in
set_option maxRecDepth 100000 in
theorem kX1_putWeight (l : Launch) (E : xG) (f : Nat → Nat) (z : Fo) (x1 : Int32) (x2 : Int32) (x3 : Int32) {r : Fo} (hf : fX1_putWeight z x1 x2 x3 = some r) : xMut l yX1_putWeight wsX1_putWeight rmX1_putWeight E [.ref (f 0), .int x1, .int x2, .int x3] (wF E f z) none (wF E f r) := by
  refine Met.ofW (cc := cX1_putWeight) (maxL := 4) (ret := none) (by decide) rfl ?_
  intro p e s m args below meth c s₁ B hml hv
  obtain ⟨rfl, hP, hK, hD0⟩ := hv
  have hx := B.exec
  have hb := B.bytes
  have hr := B.returns
  have hts := atoms_spec (ws := wsX1_putWeight) B.pre
  have hown : s.vm.findClass RX1 = some m.cls := findClass_of_methodNamed B.named
  have hlk := B.notSynchronized
  have S : CallFix p m c cX1_putWeight 4 s _ wsX1_putWeight RX1 := ⟨hx, hb, hml, hown, hts⟩
  have hl := lv_entry ([.ref (f 0), .int x1, .int x2, .int x3]) (n := 4) (Nat.le_of_ble_eq_true rfl)
  rw [lg_entry_eq]
  generalize (lg_sl ([.ref (f 0), .int x1, .int x2, .int x3]) ++ List.replicate (4 - (lg_sl ([.ref (f 0), .int x1, .int x2, .int x3])).length) Slot.unset).toArray = ls at hl ⊢
  have hl : lv_has ls 4 [(0, .ref (f 0)), (1, .int x1), (2, .int x2), (3, .int x3)] := hl
  have hD := xA.self hD0
  have hS : va_S (xA (wF E f z)) s.heap s.heap [] := va_S.rf
  show W p l e rmX1_putWeight s m _ below meth c s.heap [] 0 0 _ _
  generalize hA : xA (wF E f z) = A at hD hS ⊢
  unfold fX1_putWeight at hf
  refine lv_aload_n hx hb dX1_putWeight_0 rfl (lv_at hl 0 rfl) ?_
  refine x_get hx hb hts inX1_putWeight_1 hown hK hP 0 rfl rfl 5 (by decide) mX1_putWeight_0 rfl dX1_putWeight_1 ?_
  refine lv_iload_n hx hb dX1_putWeight_4 rfl (lv_at hl 1 rfl) ?_
  refine lv_iconst (v := 3) hx hb dX1_putWeight_5 (by decide) ?_
  refine lv_imul hx hb dX1_putWeight_6 ?_
  refine lv_iload_n hx hb dX1_putWeight_7 rfl (lv_at hl 2 rfl) ?_
  refine lv_iadd hx hb dX1_putWeight_8 ?_
  refine lv_iload_n hx hb dX1_putWeight_9 rfl (lv_at hl 3 rfl) ?_
  obtain ⟨v1, h1, hf⟩ := ob hf
  refine x_iast hx hb hK hP hD hS 3 rfl h1 dX1_putWeight_10 (fun H locs hP hD hS => ?_)
  have hP : va_P (xD E) vwCl (wF E f (Fo_set_weights z v1)) H := hP
  have hD : va_D A (wF E f (Fo_set_weights z v1)) := hD
  obtain rfl := Option.some.inj hf
  subst hA
  exact x_vretM hx hb hr hlk hP hS dX1_putWeight_11
abbrev rmX1_pairsWithWeight : Room := { frames := 0, cells := 0, slots := 0, locals := 0 }
theorem mX1_pairsWithWeight_0 : Cond.fieldLink RX1 25 "EvenWhite$Fount" "weights" "[I" ∈ wsX1_pairsWithWeight := by decide +kernel
theorem inX1_pairsWithWeight_1 : ∀ w ∈ u_ws RX1 TX1 6, w ∈ wsX1_pairsWithWeight := by decide +kernel
def gX1_pairsWithWeight_4 (z : Fo) (rec : (Int32 × Int32) → Option (Int32 × Int32)) (u : Int32 × Int32) : Option (Int32 × Int32) :=
  (if (9 : Int32) ≤ u.2 then
  some (u.1, u.2)
  else (rdI (Fo_weights z) 9 u.2).bind fun v2 =>
  rec ((u.1 + (if v2 ≤ (0 : Int32) then (0 : Int32) else (1 : Int32))), (u.2 + (1 : Int32))))
set_option maxHeartbeats 4000000 in
set_option maxRecDepth 100000 in
theorem wX1_pairsWithWeight_4 {p : Program} {l : Launch} {e : Env} {s : State} {m : MethodId} {args : Array Value} {below : List Frame} {meth : Method} {c : Code} {Q : State → Prop} (S : CallFix p m c cX1_pairsWithWeight 3 s args wsX1_pairsWithWeight RX1) (E : xG) (hK : xK E s) (f : Nat → Nat) (z : Fo) (hP : va_P (xD E) vwCl (wF E f z) s.heap) : ∀ (n : Nat) (u : Int32 × Int32) (r : Int32 × Int32), lp (gX1_pairsWithWeight_4 z) n u = some r → ∀ (ls : Array Slot), lv_has ls 3 [(0, .ref (f 0)), (1, .int u.1), (2, .int u.2)] → (∀ (ls : Array Slot), lv_has ls 3 [(0, .ref (f 0)), (1, .int r.1), (2, .int r.2)] → W p l e rmX1_pairsWithWeight s m args below meth c s.heap [] 0 0 Q (F0 m 36 ls [])) → W p l e rmX1_pairsWithWeight s m args below meth c s.heap [] 0 0 Q (F0 m 4 ls []) := by
  obtain ⟨hx, hb, hml, hown, hts⟩ := id S
  intro n
  induction n with
  | zero =>
    intro u r hf
    exact absurd (show (none : Option _) = some r from hf) (fun q => by cases q)
  | succ n ih =>
    intro u r hf ls hl kx
    have hf : gX1_pairsWithWeight_4 z (lp (gX1_pairsWithWeight_4 z) n) u = some r := hf
    unfold gX1_pairsWithWeight_4 at hf
    refine lv_iload_n hx hb dX1_pairsWithWeight_4 rfl (lv_at hl 2 rfl) ?_
    refine lv_aload_n hx hb dX1_pairsWithWeight_5 rfl (lv_at hl 0 rfl) ?_
    refine x_get hx hb hts inX1_pairsWithWeight_1 hown hK hP 0 rfl rfl 5 (by decide) mX1_pairsWithWeight_0 rfl dX1_pairsWithWeight_6 ?_
    refine va_alen (v := 9) hx hb hK.1 hP 3 0 rfl rfl rfl dX1_pairsWithWeight_9 ?_
    refine lv_icmp_ge (tgt := 36) hx hb dX1_pairsWithWeight_10 (by decide) (fun c1 => ?_) (fun c1 => ?_)
    · have hf := (if_pos c1).symm.trans hf
      obtain rfl := Option.some.inj hf
      exact kx ls (lv_sub hl [0, 1, 2] rfl)
    · have hf := (if_neg c1).symm.trans hf
      refine lv_iload_n hx hb dX1_pairsWithWeight_13 rfl (lv_at hl 1 rfl) ?_
      refine lv_aload_n hx hb dX1_pairsWithWeight_14 rfl (lv_at hl 0 rfl) ?_
      refine x_get hx hb hts inX1_pairsWithWeight_1 hown hK hP 0 rfl rfl 5 (by decide) mX1_pairsWithWeight_0 rfl dX1_pairsWithWeight_15 ?_
      refine lv_iload_n hx hb dX1_pairsWithWeight_18 rfl (lv_at hl 2 rfl) ?_
      obtain ⟨v2, h2, hf⟩ := ob hf
      refine x_iald hx hb hK hP 3 rfl h2 dX1_pairsWithWeight_19 ?_
      refine x_cut (pc := 28) (ls := ls) (st := [.int (if v2 ≤ (0 : Int32) then (0 : Int32) else (1 : Int32)), .int u.1]) ?_ (fun hj => ?_)
      · refine lv_iadd hx hb dX1_pairsWithWeight_28 ?_
        refine lv_istore_n (lv' := [(1, .int (u.1 + (if v2 ≤ (0 : Int32) then (0 : Int32) else (1 : Int32)))), (0, .ref (f 0)), (2, .int u.2)]) hx hb dX1_pairsWithWeight_29 rfl hl (by decide) rfl (fun ls hl => ?_)
        refine lv_iinc (v := (u.2 + (1 : Int32))) (lv' := [(2, .int (u.2 + (1 : Int32))), (1, .int (u.1 + (if v2 ≤ (0 : Int32) then (0 : Int32) else (1 : Int32)))), (0, .ref (f 0))]) hx hb dX1_pairsWithWeight_30 hl (k := 2) rfl rfl (by decide) rfl (fun ls hl => ?_)
        refine lv_goto (tgt := 4) hx hb dX1_pairsWithWeight_33 (by decide) ?_
        exact ih ((u.1 + (if v2 ≤ (0 : Int32) then (0 : Int32) else (1 : Int32))), (u.2 + (1 : Int32))) _ hf ls (lv_sub hl [2, 1, 0] rfl) kx
      · refine lv_if_le (tgt := 27) hx hb dX1_pairsWithWeight_20 (by decide) (fun c3 => ?_) (fun c3 => ?_)
        · refine lv_iconst (v := 0) hx hb dX1_pairsWithWeight_27 (by decide) ?_
          exact (by rw [if_pos c3] at hj; exact hj)
        · refine lv_iconst (v := 1) hx hb dX1_pairsWithWeight_23 (by decide) ?_
          refine lv_goto (tgt := 28) hx hb dX1_pairsWithWeight_24 (by decide) ?_
          exact (by rw [if_neg c3] at hj; exact hj)
def fX1_pairsWithWeight (z : Fo) : Option Int32 :=
  (lp (gX1_pairsWithWeight_4 z) 1000 ((0 : Int32), (0 : Int32))).bind fun v1 =>
  some v1.1
set_option maxHeartbeats 4000000 in
set_option maxRecDepth 100000 in
theorem kX1_pairsWithWeight (l : Launch) (E : xG) (f : Nat → Nat) (z : Fo) {r : Int32} (hf : fX1_pairsWithWeight z = some r) : xPure l yX1_pairsWithWeight wsX1_pairsWithWeight rmX1_pairsWithWeight E [.ref (f 0)] (wF E f z) (.int r) := by
  refine Met.ofW (cc := cX1_pairsWithWeight) (maxL := 3) (ret := (some .int)) (by decide) rfl ?_
  intro p e s m args below meth c s₁ B hml hv
  obtain ⟨rfl, hP, hK⟩ := hv
  have hx := B.exec
  have hb := B.bytes
  have hr := B.returns
  have hts := atoms_spec (ws := wsX1_pairsWithWeight) B.pre
  have hown : s.vm.findClass RX1 = some m.cls := findClass_of_methodNamed B.named
  have hlk := B.notSynchronized
  have S : CallFix p m c cX1_pairsWithWeight 3 s _ wsX1_pairsWithWeight RX1 := ⟨hx, hb, hml, hown, hts⟩
  have hl := lv_entry ([.ref (f 0)]) (n := 3) (Nat.le_of_ble_eq_true rfl)
  rw [lg_entry_eq]
  generalize (lg_sl ([.ref (f 0)]) ++ List.replicate (3 - (lg_sl ([.ref (f 0)])).length) Slot.unset).toArray = ls at hl ⊢
  have hl : lv_has ls 3 [(0, .ref (f 0))] := hl
  unfold fX1_pairsWithWeight at hf
  refine lv_iconst (v := 0) hx hb dX1_pairsWithWeight_0 (by decide) ?_
  refine lv_istore_n (lv' := [(1, .int (0 : Int32)), (0, .ref (f 0))]) hx hb dX1_pairsWithWeight_1 rfl hl (by decide) rfl (fun ls hl => ?_)
  refine lv_iconst (v := 0) hx hb dX1_pairsWithWeight_2 (by decide) ?_
  refine lv_istore_n (lv' := [(2, .int (0 : Int32)), (1, .int (0 : Int32)), (0, .ref (f 0))]) hx hb dX1_pairsWithWeight_3 rfl hl (by decide) rfl (fun ls hl => ?_)
  obtain ⟨v1, h1, hf⟩ := ob hf
  refine wX1_pairsWithWeight_4 S E hK f z hP 1000 _ _ h1 ls (lv_sub hl [2, 1, 0] rfl) (fun ls hl => ?_)
  refine lv_iload_n hx hb dX1_pairsWithWeight_36 rfl (lv_at hl 1 rfl) ?_
  obtain rfl := Option.some.inj hf
  exact x_iret hx hb hr hlk (vp_nar_int _) dX1_pairsWithWeight_37
abbrev rmX1_sumOfSide : Room := { frames := 2, cells := 0, slots := 0, locals := 45 }
def gX1_sumOfSide_5 (z : Fo) (x1 : Int32) (x2 : Int32) (rec : (Int32 × Int32) → Option (Int32 × Int32)) (u : Int32 × Int32) : Option (Int32 × Int32) :=
  (if (8 : Int32) ≤ u.2 then
  some (u.1, u.2)
  else (fX1_backOf z x1 x2 u.2).bind fun v2 =>
  rec ((u.1 + v2), (u.2 + (1 : Int32))))
set_option maxHeartbeats 4000000 in
set_option maxRecDepth 100000 in
theorem wX1_sumOfSide_5 {p : Program} {l : Launch} {e : Env} {s : State} {m : MethodId} {args : Array Value} {below : List Frame} {meth : Method} {c : Code} {Q : State → Prop} (S : CallFix p m c cX1_sumOfSide 5 s args wsX1_sumOfSide RX1) (E : xG) (hK : xK E s) (f : Nat → Nat) (z : Fo) (x1 : Int32) (x2 : Int32) (hP : va_P (xD E) vwCl (wF E f z) s.heap) : ∀ (n : Nat) (u : Int32 × Int32) (r : Int32 × Int32), lp (gX1_sumOfSide_5 z x1 x2) n u = some r → ∀ (ls : Array Slot), lv_has ls 5 [(0, .ref (f 0)), (1, .int x1), (2, .int x2), (3, .int u.1), (4, .int u.2)] → (∀ (ls : Array Slot), lv_has ls 5 [(0, .ref (f 0)), (1, .int x1), (2, .int x2), (3, .int r.1), (4, .int r.2)] → W p l e rmX1_sumOfSide s m args below meth c s.heap [] 0 0 Q (F0 m 29 ls [])) → W p l e rmX1_sumOfSide s m args below meth c s.heap [] 0 0 Q (F0 m 5 ls []) := by
  obtain ⟨hx, hb, hml, hown, hts⟩ := id S
  intro n
  induction n with
  | zero =>
    intro u r hf
    exact absurd (show (none : Option _) = some r from hf) (fun q => by cases q)
  | succ n ih =>
    intro u r hf ls hl kx
    have hf : gX1_sumOfSide_5 z x1 x2 (lp (gX1_sumOfSide_5 z x1 x2) n) u = some r := hf
    unfold gX1_sumOfSide_5 at hf
    refine lv_iload hx hb dX1_sumOfSide_5 (lv_at hl 4 rfl) ?_
    refine lv_bipush (v := 8) hx hb dX1_sumOfSide_7 (by decide) ?_
    refine lv_icmp_ge (tgt := 29) hx hb dX1_sumOfSide_9 (by decide) (fun c1 => ?_) (fun c1 => ?_)
    · have hf := (if_pos c1).symm.trans hf
      obtain rfl := Option.some.inj hf
      exact kx ls (lv_sub hl [0, 1, 2, 3, 4] rfl)
    · have hf := (if_neg c1).symm.trans hf
      refine lv_iload_n hx hb dX1_sumOfSide_12 rfl (lv_at hl 3 rfl) ?_
      refine lv_aload_n hx hb dX1_sumOfSide_13 rfl (lv_at hl 0 rfl) ?_
      refine lv_iload_n hx hb dX1_sumOfSide_14 rfl (lv_at hl 1 rfl) ?_
      refine lv_iload_n hx hb dX1_sumOfSide_15 rfl (lv_at hl 2 rfl) ?_
      refine lv_iload hx hb dX1_sumOfSide_16 (lv_at hl 4 rfl) ?_
      obtain ⟨v2, h2, hf⟩ := ob hf
      refine x_pV (As := [.int x1, .int x2, .int u.2]) (rest := [.int u.1]) S hK (kX1_backOf l E f z x1 x2 u.2 h2) (cwV 3 hts gX1_sumOfSide_X1_backOf rfl rfl rfl (by decide +kernel) ⟨Nat.le_of_ble_eq_true rfl, Nat.le_of_ble_eq_true rfl⟩) hP 0 rfl rfl rfl rfl hl.1 (Nat.le_of_ble_eq_true rfl) dX1_sumOfSide_18 rfl ⟨Nat.zero_le _, Nat.zero_le _⟩ ?_
      refine lv_iadd hx hb dX1_sumOfSide_21 ?_
      refine lv_istore_n (lv' := [(3, .int (u.1 + v2)), (0, .ref (f 0)), (1, .int x1), (2, .int x2), (4, .int u.2)]) hx hb dX1_sumOfSide_22 rfl hl (by decide) rfl (fun ls hl => ?_)
      refine lv_iinc (v := (u.2 + (1 : Int32))) (lv' := [(4, .int (u.2 + (1 : Int32))), (3, .int (u.1 + v2)), (0, .ref (f 0)), (1, .int x1), (2, .int x2)]) hx hb dX1_sumOfSide_23 hl (k := 4) rfl rfl (by decide) rfl (fun ls hl => ?_)
      refine lv_goto (tgt := 5) hx hb dX1_sumOfSide_26 (by decide) ?_
      exact ih ((u.1 + v2), (u.2 + (1 : Int32))) _ hf ls (lv_sub hl [2, 3, 4, 1, 0] rfl) kx
def fX1_sumOfSide (z : Fo) (x1 : Int32) (x2 : Int32) : Option Int32 :=
  (lp (gX1_sumOfSide_5 z x1 x2) 1000 ((0 : Int32), (0 : Int32))).bind fun v1 =>
  some v1.1
set_option maxHeartbeats 4000000 in
set_option maxRecDepth 100000 in
theorem kX1_sumOfSide (l : Launch) (E : xG) (f : Nat → Nat) (z : Fo) (x1 : Int32) (x2 : Int32) {r : Int32} (hf : fX1_sumOfSide z x1 x2 = some r) : xPure l yX1_sumOfSide wsX1_sumOfSide rmX1_sumOfSide E [.ref (f 0), .int x1, .int x2] (wF E f z) (.int r) := by
  refine Met.ofW (cc := cX1_sumOfSide) (maxL := 5) (ret := (some .int)) (by decide) rfl ?_
  intro p e s m args below meth c s₁ B hml hv
  obtain ⟨rfl, hP, hK⟩ := hv
  have hx := B.exec
  have hb := B.bytes
  have hr := B.returns
  have hts := atoms_spec (ws := wsX1_sumOfSide) B.pre
  have hown : s.vm.findClass RX1 = some m.cls := findClass_of_methodNamed B.named
  have hlk := B.notSynchronized
  have S : CallFix p m c cX1_sumOfSide 5 s _ wsX1_sumOfSide RX1 := ⟨hx, hb, hml, hown, hts⟩
  have hl := lv_entry ([.ref (f 0), .int x1, .int x2]) (n := 5) (Nat.le_of_ble_eq_true rfl)
  rw [lg_entry_eq]
  generalize (lg_sl ([.ref (f 0), .int x1, .int x2]) ++ List.replicate (5 - (lg_sl ([.ref (f 0), .int x1, .int x2])).length) Slot.unset).toArray = ls at hl ⊢
  have hl : lv_has ls 5 [(0, .ref (f 0)), (1, .int x1), (2, .int x2)] := hl
  unfold fX1_sumOfSide at hf
  refine lv_iconst (v := 0) hx hb dX1_sumOfSide_0 (by decide) ?_
  refine lv_istore_n (lv' := [(3, .int (0 : Int32)), (0, .ref (f 0)), (1, .int x1), (2, .int x2)]) hx hb dX1_sumOfSide_1 rfl hl (by decide) rfl (fun ls hl => ?_)
  refine lv_iconst (v := 0) hx hb dX1_sumOfSide_2 (by decide) ?_
  refine lv_istore (lv' := [(4, .int (0 : Int32)), (3, .int (0 : Int32)), (0, .ref (f 0)), (1, .int x1), (2, .int x2)]) hx hb dX1_sumOfSide_3 hl (by decide) rfl (fun ls hl => ?_)
  obtain ⟨v1, h1, hf⟩ := ob hf
  refine wX1_sumOfSide_5 S E hK f z x1 x2 hP 1000 _ _ h1 ls (lv_sub hl [2, 3, 4, 1, 0] rfl) (fun ls hl => ?_)
  refine lv_iload_n hx hb dX1_sumOfSide_29 rfl (lv_at hl 3 rfl) ?_
  obtain rfl := Option.some.inj hf
  exact x_iret hx hb hr hlk (vp_nar_int _) dX1_sumOfSide_30
abbrev rmX1_bareOf : Room := { frames := 1, cells := 0, slots := 0, locals := 23 }
theorem mX1_bareOf_0 : Cond.fieldLink RX1 9 "EvenWhite$Fount" "depth" "I" ∈ wsX1_bareOf := by decide +kernel
theorem mX1_bareOf_1 : Cond.fieldLink RX1 22 "EvenWhite$Fount" "backs" "[I" ∈ wsX1_bareOf := by decide +kernel
theorem mX1_bareOf_2 : Cond.methodLink RX1 56 Lib.Math.min.name ∈ wsX1_bareOf := by decide +kernel
theorem mX1_bareOf_3 : Cond.static Lib.Math.min.name ∈ wsX1_bareOf := by decide +kernel
theorem mX1_bareOf_4 : Cond.initialized "java/lang/Math" ∈ wsX1_bareOf := by decide +kernel
theorem mX1_bareOf_5 : Cond.code Lib.Math.min.name Lib.Math.min.code 2 (some .int) ∈ wsX1_bareOf := by decide +kernel
theorem inX1_bareOf_1 : ∀ w ∈ u_ws RX1 TX1 6, w ∈ wsX1_bareOf := by decide +kernel
def gX1_bareOf_21 (z : Fo) (x1 : Int32) (x2 : Int32) (x3 : Int32) (x4 : Int32) (rec : (Int32 × Int32) → Option (Int32 × Int32)) (u : Int32 × Int32) : Option (Int32 × Int32) :=
  (if (8 : Int32) ≤ u.2 then
  some (u.1, u.2)
  else (rdI (Fo_backs z) 48 (x3 + u.2)).bind fun v2 =>
  (rdI (Fo_backs z) 48 (x4 + u.2)).bind fun v3 =>
  rec ((u.1 + (if (v2 + v3) < (Fo_depth z) then (v2 + v3) else (Fo_depth z))), (u.2 + (1 : Int32))))
set_option maxHeartbeats 4000000 in
set_option maxRecDepth 100000 in
theorem wX1_bareOf_21 {p : Program} {l : Launch} {e : Env} {s : State} {m : MethodId} {args : Array Value} {below : List Frame} {meth : Method} {c : Code} {Q : State → Prop} (S : CallFix p m c cX1_bareOf 7 s args wsX1_bareOf RX1) (E : xG) (hK : xK E s) (f : Nat → Nat) (z : Fo) (x1 : Int32) (x2 : Int32) (x3 : Int32) (x4 : Int32) (hP : va_P (xD E) vwCl (wF E f z) s.heap) : ∀ (n : Nat) (u : Int32 × Int32) (r : Int32 × Int32), lp (gX1_bareOf_21 z x1 x2 x3 x4) n u = some r → ∀ (ls : Array Slot), lv_has ls 7 [(0, .ref (f 0)), (1, .int x1), (2, .int x2), (3, .int x3), (4, .int x4), (5, .int u.1), (6, .int u.2)] → (∀ (ls : Array Slot), lv_has ls 7 [(0, .ref (f 0)), (1, .int x1), (2, .int x2), (3, .int x3), (4, .int x4), (5, .int r.1), (6, .int r.2)] → W p l e rmX1_bareOf s m args below meth c s.heap [] 0 0 Q (F0 m 66 ls [])) → W p l e rmX1_bareOf s m args below meth c s.heap [] 0 0 Q (F0 m 21 ls []) := by
  obtain ⟨hx, hb, hml, hown, hts⟩ := id S
  intro n
  induction n with
  | zero =>
    intro u r hf
    exact absurd (show (none : Option _) = some r from hf) (fun q => by cases q)
  | succ n ih =>
    intro u r hf ls hl kx
    have hf : gX1_bareOf_21 z x1 x2 x3 x4 (lp (gX1_bareOf_21 z x1 x2 x3 x4) n) u = some r := hf
    unfold gX1_bareOf_21 at hf
    refine lv_iload hx hb dX1_bareOf_21 (lv_at hl 6 rfl) ?_
    refine lv_bipush (v := 8) hx hb dX1_bareOf_23 (by decide) ?_
    refine lv_icmp_ge (tgt := 66) hx hb dX1_bareOf_25 (by decide) (fun c1 => ?_) (fun c1 => ?_)
    · have hf := (if_pos c1).symm.trans hf
      obtain rfl := Option.some.inj hf
      exact kx ls (lv_sub hl [0, 1, 2, 3, 4, 5, 6] rfl)
    · have hf := (if_neg c1).symm.trans hf
      refine lv_iload hx hb dX1_bareOf_28 (lv_at hl 5 rfl) ?_
      refine lv_aload_n hx hb dX1_bareOf_30 rfl (lv_at hl 0 rfl) ?_
      refine x_get hx hb hts inX1_bareOf_1 hown hK hP 0 rfl rfl 1 (by decide) mX1_bareOf_0 rfl dX1_bareOf_31 ?_
      refine lv_aload_n hx hb dX1_bareOf_34 rfl (lv_at hl 0 rfl) ?_
      refine x_get hx hb hts inX1_bareOf_1 hown hK hP 0 rfl rfl 4 (by decide) mX1_bareOf_1 rfl dX1_bareOf_35 ?_
      refine lv_iload_n hx hb dX1_bareOf_38 rfl (lv_at hl 3 rfl) ?_
      refine lv_iload hx hb dX1_bareOf_39 (lv_at hl 6 rfl) ?_
      refine lv_iadd hx hb dX1_bareOf_41 ?_
      obtain ⟨v2, h2, hf⟩ := ob hf
      refine x_iald hx hb hK hP 2 rfl h2 dX1_bareOf_42 ?_
      refine lv_aload_n hx hb dX1_bareOf_43 rfl (lv_at hl 0 rfl) ?_
      refine x_get hx hb hts inX1_bareOf_1 hown hK hP 0 rfl rfl 4 (by decide) mX1_bareOf_1 rfl dX1_bareOf_44 ?_
      refine lv_iload hx hb dX1_bareOf_47 (lv_at hl 4 rfl) ?_
      refine lv_iload hx hb dX1_bareOf_49 (lv_at hl 6 rfl) ?_
      refine lv_iadd hx hb dX1_bareOf_51 ?_
      obtain ⟨v3, h3, hf⟩ := ob hf
      refine x_iald hx hb hK hP 2 rfl h3 dX1_bareOf_52 ?_
      refine lv_iadd hx hb dX1_bareOf_53 ?_
      refine va_mmin hx hb (by rw [hml]; exact hl.1.symm) hown (hts _ mX1_bareOf_2) (hts _ mX1_bareOf_3) (hts _ mX1_bareOf_4) (hts _ mX1_bareOf_5) (Nat.le_of_ble_eq_true rfl) (Nat.le_of_ble_eq_true rfl) (Nat.zero_le _) (Nat.zero_le _) dX1_bareOf_54 ?_
      refine lv_iadd hx hb dX1_bareOf_57 ?_
      refine lv_istore (lv' := [(5, .int (u.1 + (if (v2 + v3) < (Fo_depth z) then (v2 + v3) else (Fo_depth z)))), (0, .ref (f 0)), (1, .int x1), (2, .int x2), (3, .int x3), (4, .int x4), (6, .int u.2)]) hx hb dX1_bareOf_58 hl (by decide) rfl (fun ls hl => ?_)
      refine lv_iinc (v := (u.2 + (1 : Int32))) (lv' := [(6, .int (u.2 + (1 : Int32))), (5, .int (u.1 + (if (v2 + v3) < (Fo_depth z) then (v2 + v3) else (Fo_depth z)))), (0, .ref (f 0)), (1, .int x1), (2, .int x2), (3, .int x3), (4, .int x4)]) hx hb dX1_bareOf_60 hl (k := 6) rfl rfl (by decide) rfl (fun ls hl => ?_)
      refine lv_goto (tgt := 21) hx hb dX1_bareOf_63 (by decide) ?_
      exact ih ((u.1 + (if (v2 + v3) < (Fo_depth z) then (v2 + v3) else (Fo_depth z))), (u.2 + (1 : Int32))) _ hf ls (lv_sub hl [2, 3, 4, 5, 6, 1, 0] rfl) kx
def fX1_bareOf (z : Fo) (x1 : Int32) (x2 : Int32) : Option Int32 :=
  (fX1_placeOfBack x1 (1 : Int32) (0 : Int32)).bind fun v1 =>
  (fX1_placeOfBack x2 (0 : Int32) (0 : Int32)).bind fun v2 =>
  (lp (gX1_bareOf_21 z x1 x2 v1 v2) 1000 ((0 : Int32), (0 : Int32))).bind fun v3 =>
  some v3.1
set_option maxHeartbeats 4000000 in
set_option maxRecDepth 100000 in
theorem kX1_bareOf (l : Launch) (E : xG) (f : Nat → Nat) (z : Fo) (x1 : Int32) (x2 : Int32) {r : Int32} (hf : fX1_bareOf z x1 x2 = some r) : xPure l yX1_bareOf wsX1_bareOf rmX1_bareOf E [.ref (f 0), .int x1, .int x2] (wF E f z) (.int r) := by
  refine Met.ofW (cc := cX1_bareOf) (maxL := 7) (ret := (some .int)) (by decide) rfl ?_
  intro p e s m args below meth c s₁ B hml hv
  obtain ⟨rfl, hP, hK⟩ := hv
  have hx := B.exec
  have hb := B.bytes
  have hr := B.returns
  have hts := atoms_spec (ws := wsX1_bareOf) B.pre
  have hown : s.vm.findClass RX1 = some m.cls := findClass_of_methodNamed B.named
  have hlk := B.notSynchronized
  have S : CallFix p m c cX1_bareOf 7 s _ wsX1_bareOf RX1 := ⟨hx, hb, hml, hown, hts⟩
  have hl := lv_entry ([.ref (f 0), .int x1, .int x2]) (n := 7) (Nat.le_of_ble_eq_true rfl)
  rw [lg_entry_eq]
  generalize (lg_sl ([.ref (f 0), .int x1, .int x2]) ++ List.replicate (7 - (lg_sl ([.ref (f 0), .int x1, .int x2])).length) Slot.unset).toArray = ls at hl ⊢
  have hl : lv_has ls 7 [(0, .ref (f 0)), (1, .int x1), (2, .int x2)] := hl
  unfold fX1_bareOf at hf
  refine lv_iload_n hx hb dX1_bareOf_0 rfl (lv_at hl 1 rfl) ?_
  refine lv_iconst (v := 1) hx hb dX1_bareOf_1 (by decide) ?_
  refine lv_iconst (v := 0) hx hb dX1_bareOf_2 (by decide) ?_
  obtain ⟨v1, h1, hf⟩ := ob hf
  refine x_pS (As := [.int x1, .int (1 : Int32), .int (0 : Int32)]) (rest := []) S hK (kX1_placeOfBack l E x1 (1 : Int32) (0 : Int32) h1) (va_cwS 3 hts gX1_bareOf_X1_placeOfBack rfl rfl rfl (by decide +kernel) ⟨Nat.le_of_ble_eq_true rfl, Nat.le_of_ble_eq_true rfl⟩) x_nil rfl hl.1 (Nat.le_of_ble_eq_true rfl) dX1_bareOf_3 rfl ⟨Nat.zero_le _, Nat.zero_le _⟩ ?_
  refine lv_istore_n (lv' := [(3, .int v1), (0, .ref (f 0)), (1, .int x1), (2, .int x2)]) hx hb dX1_bareOf_6 rfl hl (by decide) rfl (fun ls hl => ?_)
  refine lv_iload_n hx hb dX1_bareOf_7 rfl (lv_at hl 3 rfl) ?_
  refine lv_iconst (v := 0) hx hb dX1_bareOf_8 (by decide) ?_
  refine lv_iconst (v := 0) hx hb dX1_bareOf_9 (by decide) ?_
  obtain ⟨v2, h2, hf⟩ := ob hf
  refine x_pS (As := [.int x2, .int (0 : Int32), .int (0 : Int32)]) (rest := []) S hK (kX1_placeOfBack l E x2 (0 : Int32) (0 : Int32) h2) (va_cwS 3 hts gX1_bareOf_X1_placeOfBack rfl rfl rfl (by decide +kernel) ⟨Nat.le_of_ble_eq_true rfl, Nat.le_of_ble_eq_true rfl⟩) x_nil rfl hl.1 (Nat.le_of_ble_eq_true rfl) dX1_bareOf_10 rfl ⟨Nat.zero_le _, Nat.zero_le _⟩ ?_
  refine lv_istore (lv' := [(4, .int v2), (3, .int v1), (0, .ref (f 0)), (1, .int x1), (2, .int x2)]) hx hb dX1_bareOf_13 hl (by decide) rfl (fun ls hl => ?_)
  refine lv_iconst (v := 0) hx hb dX1_bareOf_15 (by decide) ?_
  refine lv_istore (lv' := [(5, .int (0 : Int32)), (4, .int v2), (3, .int v1), (0, .ref (f 0)), (1, .int x1), (2, .int x2)]) hx hb dX1_bareOf_16 hl (by decide) rfl (fun ls hl => ?_)
  refine lv_iconst (v := 0) hx hb dX1_bareOf_18 (by decide) ?_
  refine lv_istore (lv' := [(6, .int (0 : Int32)), (5, .int (0 : Int32)), (4, .int v2), (3, .int v1), (0, .ref (f 0)), (1, .int x1), (2, .int x2)]) hx hb dX1_bareOf_19 hl (by decide) rfl (fun ls hl => ?_)
  obtain ⟨v3, h3, hf⟩ := ob hf
  refine wX1_bareOf_21 S E hK f z x1 x2 v1 v2 hP 1000 _ _ h3 ls (lv_sub hl [4, 5, 6, 3, 2, 1, 0] rfl) (fun ls hl => ?_)
  refine lv_iload hx hb dX1_bareOf_66 (lv_at hl 5 rfl) ?_
  obtain rfl := Option.some.inj hf
  exact x_iret hx hb hr hlk (vp_nar_int _) dX1_bareOf_68
abbrev rmX1_bareOfAll : Room := { frames := 2, cells := 0, slots := 0, locals := 49 }
theorem mX1_bareOfAll_0 : Cond.fieldLink RX1 32 "EvenWhite$Fount" "many" "I" ∈ wsX1_bareOfAll := by decide +kernel
theorem inX1_bareOfAll_1 : ∀ w ∈ u_ws RX1 TX1 6, w ∈ wsX1_bareOfAll := by decide +kernel
def gX1_bareOfAll_14 (z : Fo) (x2 : Int32) (rec : (Int32 × Int32) → Option (Int32 × Int32)) (u : Int32 × Int32) : Option (Int32 × Int32) :=
  (if (Fo_many z) ≤ u.2 then
  some (u.1, u.2)
  else (fX1_bareOf z x2 u.2).bind fun v2 =>
  rec ((u.1 + v2), (u.2 + (1 : Int32))))
set_option maxHeartbeats 4000000 in
set_option maxRecDepth 100000 in
theorem wX1_bareOfAll_14 {p : Program} {l : Launch} {e : Env} {s : State} {m : MethodId} {args : Array Value} {below : List Frame} {meth : Method} {c : Code} {Q : State → Prop} (S : CallFix p m c cX1_bareOfAll 4 s args wsX1_bareOfAll RX1) (E : xG) (hK : xK E s) (f : Nat → Nat) (z : Fo) (x2 : Int32) (hP : va_P (xD E) vwCl (wF E f z) s.heap) : ∀ (n : Nat) (u : Int32 × Int32) (r : Int32 × Int32), lp (gX1_bareOfAll_14 z x2) n u = some r → ∀ (ls : Array Slot), lv_has ls 4 [(0, .ref (f 0)), (1, .int u.1), (2, .int x2), (3, .int u.2)] → (∀ (ls : Array Slot), lv_has ls 4 [(0, .ref (f 0)), (1, .int r.1), (2, .int x2), (3, .int r.2)] → W p l e rmX1_bareOfAll s m args below meth c s.heap [] 0 0 Q (F0 m 37 ls [])) → W p l e rmX1_bareOfAll s m args below meth c s.heap [] 0 0 Q (F0 m 14 ls []) := by
  obtain ⟨hx, hb, hml, hown, hts⟩ := id S
  intro n
  induction n with
  | zero =>
    intro u r hf
    exact absurd (show (none : Option _) = some r from hf) (fun q => by cases q)
  | succ n ih =>
    intro u r hf ls hl kx
    have hf : gX1_bareOfAll_14 z x2 (lp (gX1_bareOfAll_14 z x2) n) u = some r := hf
    unfold gX1_bareOfAll_14 at hf
    refine lv_iload_n hx hb dX1_bareOfAll_14 rfl (lv_at hl 3 rfl) ?_
    refine lv_aload_n hx hb dX1_bareOfAll_15 rfl (lv_at hl 0 rfl) ?_
    refine x_get hx hb hts inX1_bareOfAll_1 hown hK hP 0 rfl rfl 0 (by decide) mX1_bareOfAll_0 rfl dX1_bareOfAll_16 ?_
    refine lv_icmp_ge (tgt := 37) hx hb dX1_bareOfAll_19 (by decide) (fun c1 => ?_) (fun c1 => ?_)
    · have hf := (if_pos c1).symm.trans hf
      obtain rfl := Option.some.inj hf
      exact kx ls (lv_sub hl [0, 1, 2, 3] rfl)
    · have hf := (if_neg c1).symm.trans hf
      refine lv_iload_n hx hb dX1_bareOfAll_22 rfl (lv_at hl 1 rfl) ?_
      refine lv_aload_n hx hb dX1_bareOfAll_23 rfl (lv_at hl 0 rfl) ?_
      refine lv_iload_n hx hb dX1_bareOfAll_24 rfl (lv_at hl 2 rfl) ?_
      refine lv_iload_n hx hb dX1_bareOfAll_25 rfl (lv_at hl 3 rfl) ?_
      obtain ⟨v2, h2, hf⟩ := ob hf
      refine x_pV (As := [.int x2, .int u.2]) (rest := [.int u.1]) S hK (kX1_bareOf l E f z x2 u.2 h2) (cwV 2 hts gX1_bareOfAll_X1_bareOf rfl rfl rfl (by decide +kernel) ⟨Nat.le_of_ble_eq_true rfl, Nat.le_of_ble_eq_true rfl⟩) hP 0 rfl rfl rfl rfl hl.1 (Nat.le_of_ble_eq_true rfl) dX1_bareOfAll_26 rfl ⟨Nat.zero_le _, Nat.zero_le _⟩ ?_
      refine lv_iadd hx hb dX1_bareOfAll_29 ?_
      refine lv_istore_n (lv' := [(1, .int (u.1 + v2)), (0, .ref (f 0)), (2, .int x2), (3, .int u.2)]) hx hb dX1_bareOfAll_30 rfl hl (by decide) rfl (fun ls hl => ?_)
      refine lv_iinc (v := (u.2 + (1 : Int32))) (lv' := [(3, .int (u.2 + (1 : Int32))), (1, .int (u.1 + v2)), (0, .ref (f 0)), (2, .int x2)]) hx hb dX1_bareOfAll_31 hl (k := 3) rfl rfl (by decide) rfl (fun ls hl => ?_)
      refine lv_goto (tgt := 14) hx hb dX1_bareOfAll_34 (by decide) ?_
      exact ih ((u.1 + v2), (u.2 + (1 : Int32))) _ hf ls (lv_sub hl [2, 1, 3, 0] rfl) kx
def gX1_bareOfAll_4 (z : Fo) (rec : (Int32 × Int32) → Option (Int32 × Int32)) (u : Int32 × Int32) : Option (Int32 × Int32) :=
  (if (Fo_many z) ≤ u.2 then
  some (u.1, u.2)
  else (lp (gX1_bareOfAll_14 z u.2) 1000 (u.1, (0 : Int32))).bind fun v2 =>
  rec (v2.1, (u.2 + (1 : Int32))))
set_option maxHeartbeats 4000000 in
set_option maxRecDepth 100000 in
theorem wX1_bareOfAll_4 {p : Program} {l : Launch} {e : Env} {s : State} {m : MethodId} {args : Array Value} {below : List Frame} {meth : Method} {c : Code} {Q : State → Prop} (S : CallFix p m c cX1_bareOfAll 4 s args wsX1_bareOfAll RX1) (E : xG) (hK : xK E s) (f : Nat → Nat) (z : Fo) (hP : va_P (xD E) vwCl (wF E f z) s.heap) : ∀ (n : Nat) (u : Int32 × Int32) (r : Int32 × Int32), lp (gX1_bareOfAll_4 z) n u = some r → ∀ (ls : Array Slot), lv_has ls 4 [(0, .ref (f 0)), (1, .int u.1), (2, .int u.2)] → (∀ (ls : Array Slot), lv_has ls 4 [(0, .ref (f 0)), (1, .int r.1), (2, .int r.2)] → W p l e rmX1_bareOfAll s m args below meth c s.heap [] 0 0 Q (F0 m 43 ls [])) → W p l e rmX1_bareOfAll s m args below meth c s.heap [] 0 0 Q (F0 m 4 ls []) := by
  obtain ⟨hx, hb, hml, hown, hts⟩ := id S
  intro n
  induction n with
  | zero =>
    intro u r hf
    exact absurd (show (none : Option _) = some r from hf) (fun q => by cases q)
  | succ n ih =>
    intro u r hf ls hl kx
    have hf : gX1_bareOfAll_4 z (lp (gX1_bareOfAll_4 z) n) u = some r := hf
    unfold gX1_bareOfAll_4 at hf
    refine lv_iload_n hx hb dX1_bareOfAll_4 rfl (lv_at hl 2 rfl) ?_
    refine lv_aload_n hx hb dX1_bareOfAll_5 rfl (lv_at hl 0 rfl) ?_
    refine x_get hx hb hts inX1_bareOfAll_1 hown hK hP 0 rfl rfl 0 (by decide) mX1_bareOfAll_0 rfl dX1_bareOfAll_6 ?_
    refine lv_icmp_ge (tgt := 43) hx hb dX1_bareOfAll_9 (by decide) (fun c1 => ?_) (fun c1 => ?_)
    · have hf := (if_pos c1).symm.trans hf
      obtain rfl := Option.some.inj hf
      exact kx ls (lv_sub hl [0, 1, 2] rfl)
    · have hf := (if_neg c1).symm.trans hf
      refine lv_iconst (v := 0) hx hb dX1_bareOfAll_12 (by decide) ?_
      refine lv_istore_n (lv' := [(3, .int (0 : Int32)), (0, .ref (f 0)), (1, .int u.1), (2, .int u.2)]) hx hb dX1_bareOfAll_13 rfl hl (by decide) rfl (fun ls hl => ?_)
      obtain ⟨v2, h2, hf⟩ := ob hf
      refine wX1_bareOfAll_14 S E hK f z u.2 hP 1000 _ _ h2 ls (lv_sub hl [1, 2, 3, 0] rfl) (fun ls hl => ?_)
      refine lv_iinc (v := (u.2 + (1 : Int32))) (lv' := [(2, .int (u.2 + (1 : Int32))), (0, .ref (f 0)), (1, .int v2.1), (3, .int v2.2)]) hx hb dX1_bareOfAll_37 hl (k := 2) rfl rfl (by decide) rfl (fun ls hl => ?_)
      refine lv_goto (tgt := 4) hx hb dX1_bareOfAll_40 (by decide) ?_
      exact ih (v2.1, (u.2 + (1 : Int32))) _ hf ls (lv_sub hl [1, 2, 0] rfl) kx
def fX1_bareOfAll (z : Fo) : Option Int32 :=
  (lp (gX1_bareOfAll_4 z) 1000 ((0 : Int32), (0 : Int32))).bind fun v1 =>
  some v1.1
set_option maxHeartbeats 4000000 in
set_option maxRecDepth 100000 in
theorem kX1_bareOfAll (l : Launch) (E : xG) (f : Nat → Nat) (z : Fo) {r : Int32} (hf : fX1_bareOfAll z = some r) : xPure l yX1_bareOfAll wsX1_bareOfAll rmX1_bareOfAll E [.ref (f 0)] (wF E f z) (.int r) := by
  refine Met.ofW (cc := cX1_bareOfAll) (maxL := 4) (ret := (some .int)) (by decide) rfl ?_
  intro p e s m args below meth c s₁ B hml hv
  obtain ⟨rfl, hP, hK⟩ := hv
  have hx := B.exec
  have hb := B.bytes
  have hr := B.returns
  have hts := atoms_spec (ws := wsX1_bareOfAll) B.pre
  have hown : s.vm.findClass RX1 = some m.cls := findClass_of_methodNamed B.named
  have hlk := B.notSynchronized
  have S : CallFix p m c cX1_bareOfAll 4 s _ wsX1_bareOfAll RX1 := ⟨hx, hb, hml, hown, hts⟩
  have hl := lv_entry ([.ref (f 0)]) (n := 4) (Nat.le_of_ble_eq_true rfl)
  rw [lg_entry_eq]
  generalize (lg_sl ([.ref (f 0)]) ++ List.replicate (4 - (lg_sl ([.ref (f 0)])).length) Slot.unset).toArray = ls at hl ⊢
  have hl : lv_has ls 4 [(0, .ref (f 0))] := hl
  unfold fX1_bareOfAll at hf
  refine lv_iconst (v := 0) hx hb dX1_bareOfAll_0 (by decide) ?_
  refine lv_istore_n (lv' := [(1, .int (0 : Int32)), (0, .ref (f 0))]) hx hb dX1_bareOfAll_1 rfl hl (by decide) rfl (fun ls hl => ?_)
  refine lv_iconst (v := 0) hx hb dX1_bareOfAll_2 (by decide) ?_
  refine lv_istore_n (lv' := [(2, .int (0 : Int32)), (1, .int (0 : Int32)), (0, .ref (f 0))]) hx hb dX1_bareOfAll_3 rfl hl (by decide) rfl (fun ls hl => ?_)
  obtain ⟨v1, h1, hf⟩ := ob hf
  refine wX1_bareOfAll_4 S E hK f z hP 1000 _ _ h1 ls (lv_sub hl [2, 1, 0] rfl) (fun ls hl => ?_)
  refine lv_iload_n hx hb dX1_bareOfAll_43 rfl (lv_at hl 1 rfl) ?_
  obtain rfl := Option.some.inj hf
  exact x_iret hx hb hr hlk (vp_nar_int _) dX1_bareOfAll_44
abbrev rmX1_hasLikeSides : Room := { frames := 2, cells := 0, slots := 0, locals := 45 }
def gX1_hasLikeSides_2 (z : Fo) (x1 : Int32) (rec : Int32 → Option Int32) (u : Int32) : Option Int32 :=
  (if (8 : Int32) ≤ u then
  ckZ (1 : Int32)
  else (fX1_backOf z x1 (0 : Int32) u).bind fun v2 =>
  (fX1_backOf z x1 (1 : Int32) u).bind fun v3 =>
  (if v2 = v3 then
  rec (u + (1 : Int32))
  else ckZ (0 : Int32)))
set_option maxHeartbeats 4000000 in
set_option maxRecDepth 100000 in
theorem wX1_hasLikeSides_2 {p : Program} {l : Launch} {e : Env} {s : State} {m : MethodId} {args : Array Value} {below : List Frame} {meth : Method} {c : Code} (S : CallFix p m c cX1_hasLikeSides 3 s args wsX1_hasLikeSides RX1) (hr : meth.sig.returnType = (some .boolean)) (hlk : meth.locks = false) (E : xG) (hK : xK E s) (f : Nat → Nat) (z : Fo) (x1 : Int32) (hP : va_P (xD E) vwCl (wF E f z) s.heap) : ∀ (n : Nat) (u : Int32) (r : Int32), lp (gX1_hasLikeSides_2 z x1) n u = some r → ∀ (ls : Array Slot), lv_has ls 3 [(0, .ref (f 0)), (1, .int x1), (2, .int u)] → W p l e rmX1_hasLikeSides s m args below meth c s.heap [] 0 0 (MQ below (xRet (.int r)) args s 0 0 (fun _ => False)) (F0 m 2 ls []) := by
  obtain ⟨hx, hb, hml, hown, hts⟩ := id S
  intro n
  induction n with
  | zero =>
    intro u r hf
    exact absurd (show (none : Option _) = some r from hf) (fun q => by cases q)
  | succ n ih =>
    intro u r hf ls hl
    have hf : gX1_hasLikeSides_2 z x1 (lp (gX1_hasLikeSides_2 z x1) n) u = some r := hf
    unfold gX1_hasLikeSides_2 at hf
    refine lv_iload_n hx hb dX1_hasLikeSides_2 rfl (lv_at hl 2 rfl) ?_
    refine lv_bipush (v := 8) hx hb dX1_hasLikeSides_3 (by decide) ?_
    refine lv_icmp_ge (tgt := 33) hx hb dX1_hasLikeSides_5 (by decide) (fun c1 => ?_) (fun c1 => ?_)
    · have hf := (if_pos c1).symm.trans hf
      refine lv_iconst (v := 1) hx hb dX1_hasLikeSides_33 (by decide) ?_
      obtain ⟨hn, rfl⟩ := ckZ_ok hf
      exact x_iret hx hb hr hlk hn dX1_hasLikeSides_34
    · have hf := (if_neg c1).symm.trans hf
      refine lv_aload_n hx hb dX1_hasLikeSides_8 rfl (lv_at hl 0 rfl) ?_
      refine lv_iload_n hx hb dX1_hasLikeSides_9 rfl (lv_at hl 1 rfl) ?_
      refine lv_iconst (v := 0) hx hb dX1_hasLikeSides_10 (by decide) ?_
      refine lv_iload_n hx hb dX1_hasLikeSides_11 rfl (lv_at hl 2 rfl) ?_
      obtain ⟨v2, h2, hf⟩ := ob hf
      refine x_pV (As := [.int x1, .int (0 : Int32), .int u]) (rest := []) S hK (kX1_backOf l E f z x1 (0 : Int32) u h2) (cwV 3 hts gX1_hasLikeSides_X1_backOf rfl rfl rfl (by decide +kernel) ⟨Nat.le_of_ble_eq_true rfl, Nat.le_of_ble_eq_true rfl⟩) hP 0 rfl rfl rfl rfl hl.1 (Nat.le_of_ble_eq_true rfl) dX1_hasLikeSides_12 rfl ⟨Nat.zero_le _, Nat.zero_le _⟩ ?_
      refine lv_aload_n hx hb dX1_hasLikeSides_15 rfl (lv_at hl 0 rfl) ?_
      refine lv_iload_n hx hb dX1_hasLikeSides_16 rfl (lv_at hl 1 rfl) ?_
      refine lv_iconst (v := 1) hx hb dX1_hasLikeSides_17 (by decide) ?_
      refine lv_iload_n hx hb dX1_hasLikeSides_18 rfl (lv_at hl 2 rfl) ?_
      obtain ⟨v3, h3, hf⟩ := ob hf
      refine x_pV (As := [.int x1, .int (1 : Int32), .int u]) (rest := [.int v2]) S hK (kX1_backOf l E f z x1 (1 : Int32) u h3) (cwV 3 hts gX1_hasLikeSides_X1_backOf rfl rfl rfl (by decide +kernel) ⟨Nat.le_of_ble_eq_true rfl, Nat.le_of_ble_eq_true rfl⟩) hP 0 rfl rfl rfl rfl hl.1 (Nat.le_of_ble_eq_true rfl) dX1_hasLikeSides_19 rfl ⟨Nat.zero_le _, Nat.zero_le _⟩ ?_
      refine lv_icmp_eq (tgt := 27) hx hb dX1_hasLikeSides_22 (by decide) (fun c4 => ?_) (fun c4 => ?_)
      · have hf := (if_pos c4).symm.trans hf
        refine lv_iinc (v := (u + (1 : Int32))) (lv' := [(2, .int (u + (1 : Int32))), (0, .ref (f 0)), (1, .int x1)]) hx hb dX1_hasLikeSides_27 hl (k := 2) rfl rfl (by decide) rfl (fun ls hl => ?_)
        refine lv_goto (tgt := 2) hx hb dX1_hasLikeSides_30 (by decide) ?_
        exact ih (u + (1 : Int32)) _ hf ls (lv_sub hl [1, 2, 0] rfl)
      · have hf := (if_neg c4).symm.trans hf
        refine lv_iconst (v := 0) hx hb dX1_hasLikeSides_25 (by decide) ?_
        obtain ⟨hn, rfl⟩ := ckZ_ok hf
        exact x_iret hx hb hr hlk hn dX1_hasLikeSides_26
def fX1_hasLikeSides (z : Fo) (x1 : Int32) : Option Int32 :=
  lp (gX1_hasLikeSides_2 z x1) 1000 (0 : Int32)
set_option maxHeartbeats 4000000 in
set_option maxRecDepth 100000 in
theorem kX1_hasLikeSides (l : Launch) (E : xG) (f : Nat → Nat) (z : Fo) (x1 : Int32) {r : Int32} (hf : fX1_hasLikeSides z x1 = some r) : xPure l yX1_hasLikeSides wsX1_hasLikeSides rmX1_hasLikeSides E [.ref (f 0), .int x1] (wF E f z) (.int r) := by
  refine Met.ofW (cc := cX1_hasLikeSides) (maxL := 3) (ret := (some .boolean)) (by decide) rfl ?_
  intro p e s m args below meth c s₁ B hml hv
  obtain ⟨rfl, hP, hK⟩ := hv
  have hx := B.exec
  have hb := B.bytes
  have hr := B.returns
  have hts := atoms_spec (ws := wsX1_hasLikeSides) B.pre
  have hown : s.vm.findClass RX1 = some m.cls := findClass_of_methodNamed B.named
  have hlk := B.notSynchronized
  have S : CallFix p m c cX1_hasLikeSides 3 s _ wsX1_hasLikeSides RX1 := ⟨hx, hb, hml, hown, hts⟩
  have hl := lv_entry ([.ref (f 0), .int x1]) (n := 3) (Nat.le_of_ble_eq_true rfl)
  rw [lg_entry_eq]
  generalize (lg_sl ([.ref (f 0), .int x1]) ++ List.replicate (3 - (lg_sl ([.ref (f 0), .int x1])).length) Slot.unset).toArray = ls at hl ⊢
  have hl : lv_has ls 3 [(0, .ref (f 0)), (1, .int x1)] := hl
  unfold fX1_hasLikeSides at hf
  refine lv_iconst (v := 0) hx hb dX1_hasLikeSides_0 (by decide) ?_
  refine lv_istore_n (lv' := [(2, .int (0 : Int32)), (0, .ref (f 0)), (1, .int x1)]) hx hb dX1_hasLikeSides_1 rfl hl (by decide) rfl (fun ls hl => ?_)
  exact wX1_hasLikeSides_2 S hr hlk E hK f z x1 hP 1000 _ _ hf ls (lv_sub hl [1, 2, 0] rfl)
abbrev rmX1_swapSides : Room := { frames := 2, cells := 0, slots := 0, locals := 46 }
def gX1_swapSides_2 (x1 : Int32) (rec : (Int32 × Fo) → Option (Int32 × Fo)) (u : Int32 × Fo) : Option (Int32 × Fo) :=
  (if (8 : Int32) ≤ u.1 then
  some (u.1, u.2)
  else (fX1_backOf u.2 x1 (0 : Int32) u.1).bind fun v2 =>
  (fX1_backOf u.2 x1 (1 : Int32) u.1).bind fun v3 =>
  (fX1_putBack u.2 x1 (0 : Int32) u.1 v3).bind fun v4 =>
  (fX1_putBack v4 x1 (1 : Int32) u.1 v2).bind fun v5 =>
  rec ((u.1 + (1 : Int32)), v5))
set_option maxHeartbeats 4000000 in
set_option maxRecDepth 100000 in
theorem wX1_swapSides_2 {p : Program} {l : Launch} {e : Env} {s : State} {m : MethodId} {args : Array Value} {below : List Frame} {meth : Method} {c : Code} {Q : State → Prop} (S : CallFix p m c cX1_swapSides 4 s args wsX1_swapSides RX1) (E : xG) (hK : xK E s) (f : Nat → Nat) (x1 : Int32) (A : Nat → Prop) (H0 : Heap) : ∀ (n : Nat) (u : Int32 × Fo) (r : Int32 × Fo), lp (gX1_swapSides_2 x1) n u = some r → ∀ (H : Heap) (locs : List Loc), va_P (xD E) vwCl (wF E f u.2) H → va_D A (wF E f u.2) → va_S A H0 H locs → ∀ (ls : Array Slot), lv_has ls 4 [(0, .ref (f 0)), (1, .int x1), (2, .int u.1)] → (∀ (H : Heap) (locs : List Loc), va_P (xD E) vwCl (wF E f r.2) H → va_D A (wF E f r.2) → va_S A H0 H locs → ∀ (ls : Array Slot), lv_has ls 4 [(0, .ref (f 0)), (1, .int x1), (2, .int r.1)] → W p l e rmX1_swapSides s m args below meth c H locs 0 0 Q (F0 m 44 ls [])) → W p l e rmX1_swapSides s m args below meth c H locs 0 0 Q (F0 m 2 ls []) := by
  obtain ⟨hx, hb, hml, hown, hts⟩ := id S
  intro n
  induction n with
  | zero =>
    intro u r hf
    exact absurd (show (none : Option _) = some r from hf) (fun q => by cases q)
  | succ n ih =>
    intro u r hf H locs hP hD hS ls hl kx
    have hf : gX1_swapSides_2 x1 (lp (gX1_swapSides_2 x1) n) u = some r := hf
    unfold gX1_swapSides_2 at hf
    refine lv_iload_n hx hb dX1_swapSides_2 rfl (lv_at hl 2 rfl) ?_
    refine lv_bipush (v := 8) hx hb dX1_swapSides_3 (by decide) ?_
    refine lv_icmp_ge (tgt := 44) hx hb dX1_swapSides_5 (by decide) (fun c1 => ?_) (fun c1 => ?_)
    · have hf := (if_pos c1).symm.trans hf
      obtain rfl := Option.some.inj hf
      exact kx _ _ hP hD hS ls (lv_sub hl [0, 1, 2] rfl)
    · have hf := (if_neg c1).symm.trans hf
      refine lv_aload_n hx hb dX1_swapSides_8 rfl (lv_at hl 0 rfl) ?_
      refine lv_iload_n hx hb dX1_swapSides_9 rfl (lv_at hl 1 rfl) ?_
      refine lv_iconst (v := 0) hx hb dX1_swapSides_10 (by decide) ?_
      refine lv_iload_n hx hb dX1_swapSides_11 rfl (lv_at hl 2 rfl) ?_
      obtain ⟨v2, h2, hf⟩ := ob hf
      refine x_pV (As := [.int x1, .int (0 : Int32), .int u.1]) (rest := []) S hK (kX1_backOf l E f u.2 x1 (0 : Int32) u.1 h2) (cwV 3 hts gX1_swapSides_X1_backOf rfl rfl rfl (by decide +kernel) ⟨Nat.le_of_ble_eq_true rfl, Nat.le_of_ble_eq_true rfl⟩) hP 0 rfl rfl rfl rfl hl.1 (Nat.le_of_ble_eq_true rfl) dX1_swapSides_12 rfl ⟨Nat.zero_le _, Nat.zero_le _⟩ ?_
      refine lv_istore_n (lv' := [(3, .int v2), (0, .ref (f 0)), (1, .int x1), (2, .int u.1)]) hx hb dX1_swapSides_15 rfl hl (by decide) rfl (fun ls hl => ?_)
      refine lv_aload_n hx hb dX1_swapSides_16 rfl (lv_at hl 1 rfl) ?_
      refine lv_iload_n hx hb dX1_swapSides_17 rfl (lv_at hl 2 rfl) ?_
      refine lv_iconst (v := 0) hx hb dX1_swapSides_18 (by decide) ?_
      refine lv_iload_n hx hb dX1_swapSides_19 rfl (lv_at hl 3 rfl) ?_
      refine lv_aload_n hx hb dX1_swapSides_20 rfl (lv_at hl 1 rfl) ?_
      refine lv_iload_n hx hb dX1_swapSides_21 rfl (lv_at hl 2 rfl) ?_
      refine lv_iconst (v := 1) hx hb dX1_swapSides_22 (by decide) ?_
      refine lv_iload_n hx hb dX1_swapSides_23 rfl (lv_at hl 3 rfl) ?_
      obtain ⟨v3, h3, hf⟩ := ob hf
      refine x_pV (As := [.int x1, .int (1 : Int32), .int u.1]) (rest := [.int u.1, .int (0 : Int32), .int x1, .ref (f 0)]) S hK (kX1_backOf l E f u.2 x1 (1 : Int32) u.1 h3) (cwV 3 hts gX1_swapSides_X1_backOf rfl rfl rfl (by decide +kernel) ⟨Nat.le_of_ble_eq_true rfl, Nat.le_of_ble_eq_true rfl⟩) hP 0 rfl rfl rfl rfl hl.1 (Nat.le_of_ble_eq_true rfl) dX1_swapSides_24 rfl ⟨Nat.zero_le _, Nat.zero_le _⟩ ?_
      obtain ⟨v4, h4, hf⟩ := ob hf
      refine x_mR (ws' := wF E f v4) (As := [.int x1, .int (0 : Int32), .int u.1, .int v3]) (rest := []) S hK (kX1_putBack l E f u.2 x1 (0 : Int32) u.1 v3 h4) (cwV 4 hts gX1_swapSides_X1_putBack rfl rfl rfl (by decide +kernel) ⟨Nat.le_of_ble_eq_true rfl, Nat.le_of_ble_eq_true rfl⟩) hP hD hS 0 4 rfl rfl 0 rfl rfl rfl rfl hl.1 (Nat.le_of_ble_eq_true rfl) dX1_swapSides_27 rfl ⟨Nat.zero_le _, Nat.zero_le _⟩ rfl (fun H locs hP hD hS => ?_)
      refine lv_aload_n hx hb dX1_swapSides_30 rfl (lv_at hl 1 rfl) ?_
      refine lv_iload_n hx hb dX1_swapSides_31 rfl (lv_at hl 2 rfl) ?_
      refine lv_iconst (v := 1) hx hb dX1_swapSides_32 (by decide) ?_
      refine lv_iload_n hx hb dX1_swapSides_33 rfl (lv_at hl 3 rfl) ?_
      refine lv_iload_n hx hb dX1_swapSides_34 rfl (lv_at hl 0 rfl) ?_
      obtain ⟨v5, h5, hf⟩ := ob hf
      refine x_mR (ws' := wF E f v5) (As := [.int x1, .int (1 : Int32), .int u.1, .int v2]) (rest := []) S hK (kX1_putBack l E f v4 x1 (1 : Int32) u.1 v2 h5) (cwV 4 hts gX1_swapSides_X1_putBack rfl rfl rfl (by decide +kernel) ⟨Nat.le_of_ble_eq_true rfl, Nat.le_of_ble_eq_true rfl⟩) hP hD hS 0 4 rfl rfl 0 rfl rfl rfl rfl hl.1 (Nat.le_of_ble_eq_true rfl) dX1_swapSides_35 rfl ⟨Nat.zero_le _, Nat.zero_le _⟩ rfl (fun H locs hP hD hS => ?_)
      refine lv_iinc (v := (u.1 + (1 : Int32))) (lv' := [(2, .int (u.1 + (1 : Int32))), (3, .int v2), (0, .ref (f 0)), (1, .int x1)]) hx hb dX1_swapSides_38 hl (k := 3) rfl rfl (by decide) rfl (fun ls hl => ?_)
      refine lv_goto (tgt := 2) hx hb dX1_swapSides_41 (by decide) ?_
      exact ih ((u.1 + (1 : Int32)), v5) _ hf _ _ hP hD hS ls (lv_sub hl [2, 3, 0] rfl) kx
def fX1_swapSides (z : Fo) (x1 : Int32) : Option Fo :=
  (lp (gX1_swapSides_2 x1) 1000 ((0 : Int32), z)).bind fun v1 =>
  some v1.2
set_option maxHeartbeats 4000000 in
set_option maxRecDepth 100000 in
theorem kX1_swapSides (l : Launch) (E : xG) (f : Nat → Nat) (z : Fo) (x1 : Int32) {r : Fo} (hf : fX1_swapSides z x1 = some r) : xMut l yX1_swapSides wsX1_swapSides rmX1_swapSides E [.ref (f 0), .int x1] (wF E f z) none (wF E f r) := by
  refine Met.ofW (cc := cX1_swapSides) (maxL := 4) (ret := none) (by decide) rfl ?_
  intro p e s m args below meth c s₁ B hml hv
  obtain ⟨rfl, hP, hK, hD0⟩ := hv
  have hx := B.exec
  have hb := B.bytes
  have hr := B.returns
  have hts := atoms_spec (ws := wsX1_swapSides) B.pre
  have hown : s.vm.findClass RX1 = some m.cls := findClass_of_methodNamed B.named
  have hlk := B.notSynchronized
  have S : CallFix p m c cX1_swapSides 4 s _ wsX1_swapSides RX1 := ⟨hx, hb, hml, hown, hts⟩
  have hl := lv_entry ([.ref (f 0), .int x1]) (n := 4) (Nat.le_of_ble_eq_true rfl)
  rw [lg_entry_eq]
  generalize (lg_sl ([.ref (f 0), .int x1]) ++ List.replicate (4 - (lg_sl ([.ref (f 0), .int x1])).length) Slot.unset).toArray = ls at hl ⊢
  have hl : lv_has ls 4 [(0, .ref (f 0)), (1, .int x1)] := hl
  have hD := xA.self hD0
  have hS : va_S (xA (wF E f z)) s.heap s.heap [] := va_S.rf
  show W p l e rmX1_swapSides s m _ below meth c s.heap [] 0 0 _ _
  generalize hA : xA (wF E f z) = A at hD hS ⊢
  unfold fX1_swapSides at hf
  refine lv_iconst (v := 0) hx hb dX1_swapSides_0 (by decide) ?_
  refine lv_istore_n (lv' := [(2, .int (0 : Int32)), (0, .ref (f 0)), (1, .int x1)]) hx hb dX1_swapSides_1 rfl hl (by decide) rfl (fun ls hl => ?_)
  obtain ⟨v1, h1, hf⟩ := ob hf
  refine wX1_swapSides_2 S E hK f x1 _ _ 1000 _ _ h1 _ _ hP hD hS ls (lv_sub hl [1, 2, 0] rfl) (fun H locs hP hD hS ls hl => ?_)
  obtain rfl := Option.some.inj hf
  subst hA
  exact x_vretM hx hb hr hlk hP hS dX1_swapSides_44
abbrev rmX1_turnRound : Room := { frames := 3, cells := 0, slots := 0, locals := 69 }
theorem mX1_turnRound_0 : Cond.fieldLink RX1 32 "EvenWhite$Fount" "many" "I" ∈ wsX1_turnRound := by decide +kernel
theorem inX1_turnRound_1 : ∀ w ∈ u_ws RX1 TX1 6, w ∈ wsX1_turnRound := by decide +kernel
def gX1_turnRound_17 (x1 : Int32) (rec : (Int32 × Fo) → Option (Int32 × Fo)) (u : Int32 × Fo) : Option (Int32 × Fo) :=
  (if x1 ≤ u.1 then
  some (u.1, u.2)
  else (fX1_weightOf u.2 x1 u.1).bind fun v2 =>
  (fX1_weightOf u.2 u.1 x1).bind fun v3 =>
  (fX1_putWeight u.2 x1 u.1 v3).bind fun v4 =>
  (fX1_putWeight v4 u.1 x1 v2).bind fun v5 =>
  rec ((u.1 + (1 : Int32)), v5))
set_option maxHeartbeats 4000000 in
set_option maxRecDepth 100000 in
theorem wX1_turnRound_17 {p : Program} {l : Launch} {e : Env} {s : State} {m : MethodId} {args : Array Value} {below : List Frame} {meth : Method} {c : Code} {Q : State → Prop} (S : CallFix p m c cX1_turnRound 4 s args wsX1_turnRound RX1) (E : xG) (hK : xK E s) (f : Nat → Nat) (x1 : Int32) (A : Nat → Prop) (H0 : Heap) : ∀ (n : Nat) (u : Int32 × Fo) (r : Int32 × Fo), lp (gX1_turnRound_17 x1) n u = some r → ∀ (H : Heap) (locs : List Loc), va_P (xD E) vwCl (wF E f u.2) H → va_D A (wF E f u.2) → va_S A H0 H locs → ∀ (ls : Array Slot), lv_has ls 4 [(0, .ref (f 0)), (1, .int x1), (2, .int u.1)] → (∀ (H : Heap) (locs : List Loc), va_P (xD E) vwCl (wF E f r.2) H → va_D A (wF E f r.2) → va_S A H0 H locs → ∀ (ls : Array Slot), lv_has ls 4 [(0, .ref (f 0)), (1, .int x1), (2, .int r.1)] → W p l e rmX1_turnRound s m args below meth c H locs 0 0 Q (F0 m 54 ls [])) → W p l e rmX1_turnRound s m args below meth c H locs 0 0 Q (F0 m 17 ls []) := by
  obtain ⟨hx, hb, hml, hown, hts⟩ := id S
  intro n
  induction n with
  | zero =>
    intro u r hf
    exact absurd (show (none : Option _) = some r from hf) (fun q => by cases q)
  | succ n ih =>
    intro u r hf H locs hP hD hS ls hl kx
    have hf : gX1_turnRound_17 x1 (lp (gX1_turnRound_17 x1) n) u = some r := hf
    unfold gX1_turnRound_17 at hf
    refine lv_iload_n hx hb dX1_turnRound_17 rfl (lv_at hl 2 rfl) ?_
    refine lv_iload_n hx hb dX1_turnRound_18 rfl (lv_at hl 1 rfl) ?_
    refine lv_icmp_ge (tgt := 54) hx hb dX1_turnRound_19 (by decide) (fun c1 => ?_) (fun c1 => ?_)
    · have hf := (if_pos c1).symm.trans hf
      obtain rfl := Option.some.inj hf
      exact kx _ _ hP hD hS ls (lv_sub hl [0, 1, 2] rfl)
    · have hf := (if_neg c1).symm.trans hf
      refine lv_aload_n hx hb dX1_turnRound_22 rfl (lv_at hl 0 rfl) ?_
      refine lv_iload_n hx hb dX1_turnRound_23 rfl (lv_at hl 1 rfl) ?_
      refine lv_iload_n hx hb dX1_turnRound_24 rfl (lv_at hl 2 rfl) ?_
      obtain ⟨v2, h2, hf⟩ := ob hf
      refine x_pV (As := [.int x1, .int u.1]) (rest := []) S hK (kX1_weightOf l E f u.2 x1 u.1 h2) (cwV 2 hts gX1_turnRound_X1_weightOf rfl rfl rfl (by decide +kernel) ⟨Nat.le_of_ble_eq_true rfl, Nat.le_of_ble_eq_true rfl⟩) hP 0 rfl rfl rfl rfl hl.1 (Nat.le_of_ble_eq_true rfl) dX1_turnRound_25 rfl ⟨Nat.zero_le _, Nat.zero_le _⟩ ?_
      refine lv_istore_n (lv' := [(3, .int v2), (0, .ref (f 0)), (1, .int x1), (2, .int u.1)]) hx hb dX1_turnRound_28 rfl hl (by decide) rfl (fun ls hl => ?_)
      refine lv_aload_n hx hb dX1_turnRound_29 rfl (lv_at hl 1 rfl) ?_
      refine lv_iload_n hx hb dX1_turnRound_30 rfl (lv_at hl 2 rfl) ?_
      refine lv_iload_n hx hb dX1_turnRound_31 rfl (lv_at hl 3 rfl) ?_
      refine lv_aload_n hx hb dX1_turnRound_32 rfl (lv_at hl 1 rfl) ?_
      refine lv_iload_n hx hb dX1_turnRound_33 rfl (lv_at hl 3 rfl) ?_
      refine lv_iload_n hx hb dX1_turnRound_34 rfl (lv_at hl 2 rfl) ?_
      obtain ⟨v3, h3, hf⟩ := ob hf
      refine x_pV (As := [.int u.1, .int x1]) (rest := [.int u.1, .int x1, .ref (f 0)]) S hK (kX1_weightOf l E f u.2 u.1 x1 h3) (cwV 2 hts gX1_turnRound_X1_weightOf rfl rfl rfl (by decide +kernel) ⟨Nat.le_of_ble_eq_true rfl, Nat.le_of_ble_eq_true rfl⟩) hP 0 rfl rfl rfl rfl hl.1 (Nat.le_of_ble_eq_true rfl) dX1_turnRound_35 rfl ⟨Nat.zero_le _, Nat.zero_le _⟩ ?_
      obtain ⟨v4, h4, hf⟩ := ob hf
      refine x_mR (ws' := wF E f v4) (As := [.int x1, .int u.1, .int v3]) (rest := []) S hK (kX1_putWeight l E f u.2 x1 u.1 v3 h4) (cwV 3 hts gX1_turnRound_X1_putWeight rfl rfl rfl (by decide +kernel) ⟨Nat.le_of_ble_eq_true rfl, Nat.le_of_ble_eq_true rfl⟩) hP hD hS 0 4 rfl rfl 0 rfl rfl rfl rfl hl.1 (Nat.le_of_ble_eq_true rfl) dX1_turnRound_38 rfl ⟨Nat.zero_le _, Nat.zero_le _⟩ rfl (fun H locs hP hD hS => ?_)
      refine lv_aload_n hx hb dX1_turnRound_41 rfl (lv_at hl 1 rfl) ?_
      refine lv_iload_n hx hb dX1_turnRound_42 rfl (lv_at hl 3 rfl) ?_
      refine lv_iload_n hx hb dX1_turnRound_43 rfl (lv_at hl 2 rfl) ?_
      refine lv_iload_n hx hb dX1_turnRound_44 rfl (lv_at hl 0 rfl) ?_
      obtain ⟨v5, h5, hf⟩ := ob hf
      refine x_mR (ws' := wF E f v5) (As := [.int u.1, .int x1, .int v2]) (rest := []) S hK (kX1_putWeight l E f v4 u.1 x1 v2 h5) (cwV 3 hts gX1_turnRound_X1_putWeight rfl rfl rfl (by decide +kernel) ⟨Nat.le_of_ble_eq_true rfl, Nat.le_of_ble_eq_true rfl⟩) hP hD hS 0 4 rfl rfl 0 rfl rfl rfl rfl hl.1 (Nat.le_of_ble_eq_true rfl) dX1_turnRound_45 rfl ⟨Nat.zero_le _, Nat.zero_le _⟩ rfl (fun H locs hP hD hS => ?_)
      refine lv_iinc (v := (u.1 + (1 : Int32))) (lv' := [(2, .int (u.1 + (1 : Int32))), (3, .int v2), (0, .ref (f 0)), (1, .int x1)]) hx hb dX1_turnRound_48 hl (k := 3) rfl rfl (by decide) rfl (fun ls hl => ?_)
      refine lv_goto (tgt := 17) hx hb dX1_turnRound_51 (by decide) ?_
      exact ih ((u.1 + (1 : Int32)), v5) _ hf _ _ hP hD hS ls (lv_sub hl [2, 3, 0] rfl) kx
def gX1_turnRound_2 (rec : (Int32 × Fo) → Option (Int32 × Fo)) (u : Int32 × Fo) : Option (Int32 × Fo) :=
  (if (Fo_many u.2) ≤ u.1 then
  some (u.1, u.2)
  else (fX1_swapSides u.2 u.1).bind fun v2 =>
  (lp (gX1_turnRound_17 u.1) 1000 ((0 : Int32), v2)).bind fun v3 =>
  rec ((u.1 + (1 : Int32)), v3.2))
set_option maxHeartbeats 4000000 in
set_option maxRecDepth 100000 in
theorem wX1_turnRound_2 {p : Program} {l : Launch} {e : Env} {s : State} {m : MethodId} {args : Array Value} {below : List Frame} {meth : Method} {c : Code} {Q : State → Prop} (S : CallFix p m c cX1_turnRound 4 s args wsX1_turnRound RX1) (E : xG) (hK : xK E s) (f : Nat → Nat) (A : Nat → Prop) (H0 : Heap) : ∀ (n : Nat) (u : Int32 × Fo) (r : Int32 × Fo), lp (gX1_turnRound_2) n u = some r → ∀ (H : Heap) (locs : List Loc), va_P (xD E) vwCl (wF E f u.2) H → va_D A (wF E f u.2) → va_S A H0 H locs → ∀ (ls : Array Slot), lv_has ls 4 [(0, .ref (f 0)), (1, .int u.1)] → (∀ (H : Heap) (locs : List Loc), va_P (xD E) vwCl (wF E f r.2) H → va_D A (wF E f r.2) → va_S A H0 H locs → ∀ (ls : Array Slot), lv_has ls 4 [(0, .ref (f 0)), (1, .int r.1)] → W p l e rmX1_turnRound s m args below meth c H locs 0 0 Q (F0 m 60 ls [])) → W p l e rmX1_turnRound s m args below meth c H locs 0 0 Q (F0 m 2 ls []) := by
  obtain ⟨hx, hb, hml, hown, hts⟩ := id S
  intro n
  induction n with
  | zero =>
    intro u r hf
    exact absurd (show (none : Option _) = some r from hf) (fun q => by cases q)
  | succ n ih =>
    intro u r hf H locs hP hD hS ls hl kx
    have hf : gX1_turnRound_2 (lp (gX1_turnRound_2) n) u = some r := hf
    unfold gX1_turnRound_2 at hf
    refine lv_iload_n hx hb dX1_turnRound_2 rfl (lv_at hl 1 rfl) ?_
    refine lv_aload_n hx hb dX1_turnRound_3 rfl (lv_at hl 0 rfl) ?_
    refine x_get hx hb hts inX1_turnRound_1 hown hK hP 0 rfl rfl 0 (by decide) mX1_turnRound_0 rfl dX1_turnRound_4 ?_
    refine lv_icmp_ge (tgt := 60) hx hb dX1_turnRound_7 (by decide) (fun c1 => ?_) (fun c1 => ?_)
    · have hf := (if_pos c1).symm.trans hf
      obtain rfl := Option.some.inj hf
      exact kx _ _ hP hD hS ls (lv_sub hl [0, 1] rfl)
    · have hf := (if_neg c1).symm.trans hf
      refine lv_aload_n hx hb dX1_turnRound_10 rfl (lv_at hl 0 rfl) ?_
      refine lv_iload_n hx hb dX1_turnRound_11 rfl (lv_at hl 1 rfl) ?_
      obtain ⟨v2, h2, hf⟩ := ob hf
      refine x_mR (ws' := wF E f v2) (As := [.int u.1]) (rest := []) S hK (kX1_swapSides l E f u.2 u.1 h2) (cwV 1 hts gX1_turnRound_X1_swapSides rfl rfl rfl (by decide +kernel) ⟨Nat.le_of_ble_eq_true rfl, Nat.le_of_ble_eq_true rfl⟩) hP hD hS 0 4 rfl rfl 0 rfl rfl rfl rfl hl.1 (Nat.le_of_ble_eq_true rfl) dX1_turnRound_12 rfl ⟨Nat.zero_le _, Nat.zero_le _⟩ rfl (fun H locs hP hD hS => ?_)
      refine lv_iconst (v := 0) hx hb dX1_turnRound_15 (by decide) ?_
      refine lv_istore_n (lv' := [(2, .int (0 : Int32)), (0, .ref (f 0)), (1, .int u.1)]) hx hb dX1_turnRound_16 rfl hl (by decide) rfl (fun ls hl => ?_)
      obtain ⟨v3, h3, hf⟩ := ob hf
      refine wX1_turnRound_17 S E hK f u.1 _ _ 1000 _ _ h3 _ _ hP hD hS ls (lv_sub hl [1, 2, 0] rfl) (fun H locs hP hD hS ls hl => ?_)
      refine lv_iinc (v := (u.1 + (1 : Int32))) (lv' := [(1, .int (u.1 + (1 : Int32))), (0, .ref (f 0)), (2, .int v3.1)]) hx hb dX1_turnRound_54 hl (k := 1) rfl rfl (by decide) rfl (fun ls hl => ?_)
      refine lv_goto (tgt := 2) hx hb dX1_turnRound_57 (by decide) ?_
      exact ih ((u.1 + (1 : Int32)), v3.2) _ hf _ _ hP hD hS ls (lv_sub hl [1, 0] rfl) kx
def fX1_turnRound (z : Fo) : Option Fo :=
  (lp (gX1_turnRound_2) 1000 ((0 : Int32), z)).bind fun v1 =>
  some v1.2
set_option maxHeartbeats 4000000 in
set_option maxRecDepth 100000 in
theorem kX1_turnRound (l : Launch) (E : xG) (f : Nat → Nat) (z : Fo) {r : Fo} (hf : fX1_turnRound z = some r) : xMut l yX1_turnRound wsX1_turnRound rmX1_turnRound E [.ref (f 0)] (wF E f z) none (wF E f r) := by
  refine Met.ofW (cc := cX1_turnRound) (maxL := 4) (ret := none) (by decide) rfl ?_
  intro p e s m args below meth c s₁ B hml hv
  obtain ⟨rfl, hP, hK, hD0⟩ := hv
  have hx := B.exec
  have hb := B.bytes
  have hr := B.returns
  have hts := atoms_spec (ws := wsX1_turnRound) B.pre
  have hown : s.vm.findClass RX1 = some m.cls := findClass_of_methodNamed B.named
  have hlk := B.notSynchronized
  have S : CallFix p m c cX1_turnRound 4 s _ wsX1_turnRound RX1 := ⟨hx, hb, hml, hown, hts⟩
  have hl := lv_entry ([.ref (f 0)]) (n := 4) (Nat.le_of_ble_eq_true rfl)
  rw [lg_entry_eq]
  generalize (lg_sl ([.ref (f 0)]) ++ List.replicate (4 - (lg_sl ([.ref (f 0)])).length) Slot.unset).toArray = ls at hl ⊢
  have hl : lv_has ls 4 [(0, .ref (f 0))] := hl
  have hD := xA.self hD0
  have hS : va_S (xA (wF E f z)) s.heap s.heap [] := va_S.rf
  show W p l e rmX1_turnRound s m _ below meth c s.heap [] 0 0 _ _
  generalize hA : xA (wF E f z) = A at hD hS ⊢
  unfold fX1_turnRound at hf
  refine lv_iconst (v := 0) hx hb dX1_turnRound_0 (by decide) ?_
  refine lv_istore_n (lv' := [(1, .int (0 : Int32)), (0, .ref (f 0))]) hx hb dX1_turnRound_1 rfl hl (by decide) rfl (fun ls hl => ?_)
  obtain ⟨v1, h1, hf⟩ := ob hf
  refine wX1_turnRound_2 S E hK f _ _ 1000 _ _ h1 _ _ hP hD hS ls (lv_sub hl [1, 0] rfl) (fun H locs hP hD hS ls hl => ?_)
  obtain rfl := Option.some.inj hf
  subst hA
  exact x_vretM hx hb hr hlk hP hS dX1_turnRound_60
abbrev rmX1_takeLetter : Room := { frames := 2, cells := 0, slots := 0, locals := 46 }
theorem mX1_takeLetter_0 : Cond.fieldLink RX1 18 "EvenWhite$Fount" "bodies" "[I" ∈ wsX1_takeLetter := by decide +kernel
theorem inX1_takeLetter_1 : ∀ w ∈ u_ws RX1 TX1 6, w ∈ wsX1_takeLetter := by decide +kernel
def gX1_takeLetter_45 (x1 : Int32) (x2 : Int32) (x4 : Int32) (rec : (Int32 × Int32 × Fo) → Option (Int32 × Int32 × Fo)) (u : Int32 × Int32 × Fo) : Option (Int32 × Int32 × Fo) :=
  (if (8 : Int32) ≤ u.2.1 then
  some (u.1, u.2.1, u.2.2)
  else (fX1_backOf u.2.2 x2 x4 u.2.1).bind fun v2 =>
  (fX1_backOf u.2.2 x1 x4 u.2.1).bind fun v3 =>
  (fX1_putBack u.2.2 x1 x4 u.2.1 v2).bind fun v5 =>
  rec ((u.1 + (if v3 = v2 then (0 : Int32) else (1 : Int32))), (u.2.1 + (1 : Int32)), v5))
set_option maxHeartbeats 4000000 in
set_option maxRecDepth 100000 in
theorem wX1_takeLetter_45 {p : Program} {l : Launch} {e : Env} {s : State} {m : MethodId} {args : Array Value} {below : List Frame} {meth : Method} {c : Code} {Q : State → Prop} (S : CallFix p m c cX1_takeLetter 7 s args wsX1_takeLetter RX1) (E : xG) (hK : xK E s) (f : Nat → Nat) (x1 : Int32) (x2 : Int32) (x4 : Int32) (A : Nat → Prop) (H0 : Heap) : ∀ (n : Nat) (u : Int32 × Int32 × Fo) (r : Int32 × Int32 × Fo), lp (gX1_takeLetter_45 x1 x2 x4) n u = some r → ∀ (H : Heap) (locs : List Loc), va_P (xD E) vwCl (wF E f u.2.2) H → va_D A (wF E f u.2.2) → va_S A H0 H locs → ∀ (ls : Array Slot), lv_has ls 7 [(0, .ref (f 0)), (1, .int x1), (2, .int x2), (3, .int u.1), (4, .int x4), (5, .int u.2.1)] → (∀ (H : Heap) (locs : List Loc), va_P (xD E) vwCl (wF E f r.2.2) H → va_D A (wF E f r.2.2) → va_S A H0 H locs → ∀ (ls : Array Slot), lv_has ls 7 [(0, .ref (f 0)), (1, .int x1), (2, .int x2), (3, .int r.1), (4, .int x4), (5, .int r.2.1)] → W p l e rmX1_takeLetter s m args below meth c H locs 0 0 Q (F0 m 102 ls [])) → W p l e rmX1_takeLetter s m args below meth c H locs 0 0 Q (F0 m 45 ls []) := by
  obtain ⟨hx, hb, hml, hown, hts⟩ := id S
  intro n
  induction n with
  | zero =>
    intro u r hf
    exact absurd (show (none : Option _) = some r from hf) (fun q => by cases q)
  | succ n ih =>
    intro u r hf H locs hP hD hS ls hl kx
    have hf : gX1_takeLetter_45 x1 x2 x4 (lp (gX1_takeLetter_45 x1 x2 x4) n) u = some r := hf
    unfold gX1_takeLetter_45 at hf
    refine lv_iload hx hb dX1_takeLetter_45 (lv_at hl 5 rfl) ?_
    refine lv_bipush (v := 8) hx hb dX1_takeLetter_47 (by decide) ?_
    refine lv_icmp_ge (tgt := 102) hx hb dX1_takeLetter_49 (by decide) (fun c1 => ?_) (fun c1 => ?_)
    · have hf := (if_pos c1).symm.trans hf
      obtain rfl := Option.some.inj hf
      exact kx _ _ hP hD hS ls (lv_sub hl [0, 1, 2, 3, 4, 5] rfl)
    · have hf := (if_neg c1).symm.trans hf
      refine lv_aload_n hx hb dX1_takeLetter_52 rfl (lv_at hl 0 rfl) ?_
      refine lv_iload_n hx hb dX1_takeLetter_53 rfl (lv_at hl 2 rfl) ?_
      refine lv_iload hx hb dX1_takeLetter_54 (lv_at hl 4 rfl) ?_
      refine lv_iload hx hb dX1_takeLetter_56 (lv_at hl 5 rfl) ?_
      obtain ⟨v2, h2, hf⟩ := ob hf
      refine x_pV (As := [.int x2, .int x4, .int u.2.1]) (rest := []) S hK (kX1_backOf l E f u.2.2 x2 x4 u.2.1 h2) (cwV 3 hts gX1_takeLetter_X1_backOf rfl rfl rfl (by decide +kernel) ⟨Nat.le_of_ble_eq_true rfl, Nat.le_of_ble_eq_true rfl⟩) hP 0 rfl rfl rfl rfl hl.1 (Nat.le_of_ble_eq_true rfl) dX1_takeLetter_58 rfl ⟨Nat.zero_le _, Nat.zero_le _⟩ ?_
      refine lv_istore (lv' := [(6, .int v2), (0, .ref (f 0)), (1, .int x1), (2, .int x2), (3, .int u.1), (4, .int x4), (5, .int u.2.1)]) hx hb dX1_takeLetter_61 hl (by decide) rfl (fun ls hl => ?_)
      refine lv_iload_n hx hb dX1_takeLetter_63 rfl (lv_at hl 4 rfl) ?_
      refine lv_aload_n hx hb dX1_takeLetter_64 rfl (lv_at hl 1 rfl) ?_
      refine lv_iload_n hx hb dX1_takeLetter_65 rfl (lv_at hl 2 rfl) ?_
      refine lv_iload hx hb dX1_takeLetter_66 (lv_at hl 5 rfl) ?_
      refine lv_iload hx hb dX1_takeLetter_68 (lv_at hl 6 rfl) ?_
      obtain ⟨v3, h3, hf⟩ := ob hf
      refine x_pV (As := [.int x1, .int x4, .int u.2.1]) (rest := [.int u.1]) S hK (kX1_backOf l E f u.2.2 x1 x4 u.2.1 h3) (cwV 3 hts gX1_takeLetter_X1_backOf rfl rfl rfl (by decide +kernel) ⟨Nat.le_of_ble_eq_true rfl, Nat.le_of_ble_eq_true rfl⟩) hP 0 rfl rfl rfl rfl hl.1 (Nat.le_of_ble_eq_true rfl) dX1_takeLetter_70 rfl ⟨Nat.zero_le _, Nat.zero_le _⟩ ?_
      refine lv_iload hx hb dX1_takeLetter_73 (lv_at hl 0 rfl) ?_
      refine x_cut (pc := 83) (ls := ls) (st := [.int (if v3 = v2 then (0 : Int32) else (1 : Int32)), .int u.1]) ?_ (fun hj => ?_)
      · refine lv_iadd hx hb dX1_takeLetter_83 ?_
        refine lv_istore_n (lv' := [(3, .int (u.1 + (if v3 = v2 then (0 : Int32) else (1 : Int32)))), (6, .int v2), (0, .ref (f 0)), (1, .int x1), (2, .int x2), (4, .int x4), (5, .int u.2.1)]) hx hb dX1_takeLetter_84 rfl hl (by decide) rfl (fun ls hl => ?_)
        refine lv_aload_n hx hb dX1_takeLetter_85 rfl (lv_at hl 2 rfl) ?_
        refine lv_iload_n hx hb dX1_takeLetter_86 rfl (lv_at hl 3 rfl) ?_
        refine lv_iload hx hb dX1_takeLetter_87 (lv_at hl 5 rfl) ?_
        refine lv_iload hx hb dX1_takeLetter_89 (lv_at hl 6 rfl) ?_
        refine lv_iload hx hb dX1_takeLetter_91 (lv_at hl 1 rfl) ?_
        obtain ⟨v5, h5, hf⟩ := ob hf
        refine x_mR (ws' := wF E f v5) (As := [.int x1, .int x4, .int u.2.1, .int v2]) (rest := []) S hK (kX1_putBack l E f u.2.2 x1 x4 u.2.1 v2 h5) (cwV 4 hts gX1_takeLetter_X1_putBack rfl rfl rfl (by decide +kernel) ⟨Nat.le_of_ble_eq_true rfl, Nat.le_of_ble_eq_true rfl⟩) hP hD hS 0 4 rfl rfl 0 rfl rfl rfl rfl hl.1 (Nat.le_of_ble_eq_true rfl) dX1_takeLetter_93 rfl ⟨Nat.zero_le _, Nat.zero_le _⟩ rfl (fun H locs hP hD hS => ?_)
        refine lv_iinc (v := (u.2.1 + (1 : Int32))) (lv' := [(5, .int (u.2.1 + (1 : Int32))), (3, .int (u.1 + (if v3 = v2 then (0 : Int32) else (1 : Int32)))), (6, .int v2), (0, .ref (f 0)), (1, .int x1), (2, .int x2), (4, .int x4)]) hx hb dX1_takeLetter_96 hl (k := 6) rfl rfl (by decide) rfl (fun ls hl => ?_)
        refine lv_goto (tgt := 45) hx hb dX1_takeLetter_99 (by decide) ?_
        exact ih ((u.1 + (if v3 = v2 then (0 : Int32) else (1 : Int32))), (u.2.1 + (1 : Int32)), v5) _ hf _ _ hP hD hS ls (lv_sub hl [3, 4, 5, 1, 6, 0] rfl) kx
      · refine lv_icmp_eq (tgt := 82) hx hb dX1_takeLetter_75 (by decide) (fun c4 => ?_) (fun c4 => ?_)
        · refine lv_iconst (v := 0) hx hb dX1_takeLetter_82 (by decide) ?_
          exact (by rw [if_pos c4] at hj; exact hj)
        · refine lv_iconst (v := 1) hx hb dX1_takeLetter_78 (by decide) ?_
          refine lv_goto (tgt := 83) hx hb dX1_takeLetter_79 (by decide) ?_
          exact (by rw [if_neg c4] at hj; exact hj)
def gX1_takeLetter_36 (x1 : Int32) (x2 : Int32) (rec : (Int32 × Int32 × Fo) → Option (Int32 × Int32 × Fo)) (u : Int32 × Int32 × Fo) : Option (Int32 × Int32 × Fo) :=
  (if (2 : Int32) ≤ u.2.1 then
  some (u.1, u.2.1, u.2.2)
  else (lp (gX1_takeLetter_45 x1 x2 u.2.1) 1000 (u.1, (0 : Int32), u.2.2)).bind fun v2 =>
  rec (v2.1, (u.2.1 + (1 : Int32)), v2.2.2))
set_option maxHeartbeats 4000000 in
set_option maxRecDepth 100000 in
theorem wX1_takeLetter_36 {p : Program} {l : Launch} {e : Env} {s : State} {m : MethodId} {args : Array Value} {below : List Frame} {meth : Method} {c : Code} {Q : State → Prop} (S : CallFix p m c cX1_takeLetter 7 s args wsX1_takeLetter RX1) (E : xG) (hK : xK E s) (f : Nat → Nat) (x1 : Int32) (x2 : Int32) (A : Nat → Prop) (H0 : Heap) : ∀ (n : Nat) (u : Int32 × Int32 × Fo) (r : Int32 × Int32 × Fo), lp (gX1_takeLetter_36 x1 x2) n u = some r → ∀ (H : Heap) (locs : List Loc), va_P (xD E) vwCl (wF E f u.2.2) H → va_D A (wF E f u.2.2) → va_S A H0 H locs → ∀ (ls : Array Slot), lv_has ls 7 [(0, .ref (f 0)), (1, .int x1), (2, .int x2), (3, .int u.1), (4, .int u.2.1)] → (∀ (H : Heap) (locs : List Loc), va_P (xD E) vwCl (wF E f r.2.2) H → va_D A (wF E f r.2.2) → va_S A H0 H locs → ∀ (ls : Array Slot), lv_has ls 7 [(0, .ref (f 0)), (1, .int x1), (2, .int x2), (3, .int r.1), (4, .int r.2.1)] → W p l e rmX1_takeLetter s m args below meth c H locs 0 0 Q (F0 m 108 ls [])) → W p l e rmX1_takeLetter s m args below meth c H locs 0 0 Q (F0 m 36 ls []) := by
  obtain ⟨hx, hb, hml, hown, hts⟩ := id S
  intro n
  induction n with
  | zero =>
    intro u r hf
    exact absurd (show (none : Option _) = some r from hf) (fun q => by cases q)
  | succ n ih =>
    intro u r hf H locs hP hD hS ls hl kx
    have hf : gX1_takeLetter_36 x1 x2 (lp (gX1_takeLetter_36 x1 x2) n) u = some r := hf
    unfold gX1_takeLetter_36 at hf
    refine lv_iload hx hb dX1_takeLetter_36 (lv_at hl 4 rfl) ?_
    refine lv_iconst (v := 2) hx hb dX1_takeLetter_38 (by decide) ?_
    refine lv_icmp_ge (tgt := 108) hx hb dX1_takeLetter_39 (by decide) (fun c1 => ?_) (fun c1 => ?_)
    · have hf := (if_pos c1).symm.trans hf
      obtain rfl := Option.some.inj hf
      exact kx _ _ hP hD hS ls (lv_sub hl [0, 1, 2, 3, 4] rfl)
    · have hf := (if_neg c1).symm.trans hf
      refine lv_iconst (v := 0) hx hb dX1_takeLetter_42 (by decide) ?_
      refine lv_istore (lv' := [(5, .int (0 : Int32)), (0, .ref (f 0)), (1, .int x1), (2, .int x2), (3, .int u.1), (4, .int u.2.1)]) hx hb dX1_takeLetter_43 hl (by decide) rfl (fun ls hl => ?_)
      obtain ⟨v2, h2, hf⟩ := ob hf
      refine wX1_takeLetter_45 S E hK f x1 x2 u.2.1 _ _ 1000 _ _ h2 _ _ hP hD hS ls (lv_sub hl [1, 2, 3, 4, 5, 0] rfl) (fun H locs hP hD hS ls hl => ?_)
      refine lv_iinc (v := (u.2.1 + (1 : Int32))) (lv' := [(4, .int (u.2.1 + (1 : Int32))), (0, .ref (f 0)), (1, .int x1), (2, .int x2), (3, .int v2.1), (5, .int v2.2.1)]) hx hb dX1_takeLetter_102 hl (k := 4) rfl rfl (by decide) rfl (fun ls hl => ?_)
      refine lv_goto (tgt := 36) hx hb dX1_takeLetter_105 (by decide) ?_
      exact ih (v2.1, (u.2.1 + (1 : Int32)), v2.2.2) _ hf _ _ hP hD hS ls (lv_sub hl [1, 2, 3, 4, 0] rfl) kx
def fX1_takeLetter (z : Fo) (x1 : Int32) (x2 : Int32) : Option (Int32 × Fo) :=
  (rdI (Fo_bodies z) 3 x1).bind fun v1 =>
  (rdI (Fo_bodies z) 3 x2).bind fun v2 =>
  (rdI (Fo_bodies z) 3 x2).bind fun v4 =>
  (wrI (Fo_bodies z) 3 x1 v4).bind fun v5 =>
  (lp (gX1_takeLetter_36 x1 x2) 1000 ((if v1 = v2 then (0 : Int32) else (1 : Int32)), (0 : Int32), (Fo_set_bodies z v5))).bind fun v6 =>
  some (v6.1, v6.2.2)
set_option maxHeartbeats 4000000 in
set_option maxRecDepth 100000 in
theorem kX1_takeLetter (l : Launch) (E : xG) (f : Nat → Nat) (z : Fo) (x1 : Int32) (x2 : Int32) {r : (Int32 × Fo)} (hf : fX1_takeLetter z x1 x2 = some r) : xMut l yX1_takeLetter wsX1_takeLetter rmX1_takeLetter E [.ref (f 0), .int x1, .int x2] (wF E f z) (some (.int r.1)) (wF E f r.2) := by
  refine Met.ofW (cc := cX1_takeLetter) (maxL := 7) (ret := (some .int)) (by decide) rfl ?_
  intro p e s m args below meth c s₁ B hml hv
  obtain ⟨rfl, hP, hK, hD0⟩ := hv
  have hx := B.exec
  have hb := B.bytes
  have hr := B.returns
  have hts := atoms_spec (ws := wsX1_takeLetter) B.pre
  have hown : s.vm.findClass RX1 = some m.cls := findClass_of_methodNamed B.named
  have hlk := B.notSynchronized
  have S : CallFix p m c cX1_takeLetter 7 s _ wsX1_takeLetter RX1 := ⟨hx, hb, hml, hown, hts⟩
  have hl := lv_entry ([.ref (f 0), .int x1, .int x2]) (n := 7) (Nat.le_of_ble_eq_true rfl)
  rw [lg_entry_eq]
  generalize (lg_sl ([.ref (f 0), .int x1, .int x2]) ++ List.replicate (7 - (lg_sl ([.ref (f 0), .int x1, .int x2])).length) Slot.unset).toArray = ls at hl ⊢
  have hl : lv_has ls 7 [(0, .ref (f 0)), (1, .int x1), (2, .int x2)] := hl
  have hD := xA.self hD0
  have hS : va_S (xA (wF E f z)) s.heap s.heap [] := va_S.rf
  show W p l e rmX1_takeLetter s m _ below meth c s.heap [] 0 0 _ _
  generalize hA : xA (wF E f z) = A at hD hS ⊢
  unfold fX1_takeLetter at hf
  refine lv_aload_n hx hb dX1_takeLetter_0 rfl (lv_at hl 0 rfl) ?_
  refine x_get hx hb hts inX1_takeLetter_1 hown hK hP 0 rfl rfl 3 (by decide) mX1_takeLetter_0 rfl dX1_takeLetter_1 ?_
  refine lv_iload_n hx hb dX1_takeLetter_4 rfl (lv_at hl 1 rfl) ?_
  obtain ⟨v1, h1, hf⟩ := ob hf
  refine x_iald hx hb hK hP 1 rfl h1 dX1_takeLetter_5 ?_
  refine lv_aload_n hx hb dX1_takeLetter_6 rfl (lv_at hl 0 rfl) ?_
  refine x_get hx hb hts inX1_takeLetter_1 hown hK hP 0 rfl rfl 3 (by decide) mX1_takeLetter_0 rfl dX1_takeLetter_7 ?_
  refine lv_iload_n hx hb dX1_takeLetter_10 rfl (lv_at hl 2 rfl) ?_
  obtain ⟨v2, h2, hf⟩ := ob hf
  refine x_iald hx hb hK hP 1 rfl h2 dX1_takeLetter_11 ?_
  refine x_cut (pc := 20) (ls := ls) (st := [.int (if v1 = v2 then (0 : Int32) else (1 : Int32))]) ?_ (fun hj => ?_)
  · refine lv_istore_n (lv' := [(3, .int (if v1 = v2 then (0 : Int32) else (1 : Int32))), (0, .ref (f 0)), (1, .int x1), (2, .int x2)]) hx hb dX1_takeLetter_20 rfl hl (by decide) rfl (fun ls hl => ?_)
    refine lv_aload_n hx hb dX1_takeLetter_21 rfl (lv_at hl 1 rfl) ?_
    refine x_get hx hb hts inX1_takeLetter_1 hown hK hP 0 rfl rfl 3 (by decide) mX1_takeLetter_0 rfl dX1_takeLetter_22 ?_
    refine lv_iload_n hx hb dX1_takeLetter_25 rfl (lv_at hl 2 rfl) ?_
    refine lv_aload_n hx hb dX1_takeLetter_26 rfl (lv_at hl 1 rfl) ?_
    refine x_get hx hb hts inX1_takeLetter_1 hown hK hP 0 rfl rfl 3 (by decide) mX1_takeLetter_0 rfl dX1_takeLetter_27 ?_
    refine lv_iload_n hx hb dX1_takeLetter_30 rfl (lv_at hl 3 rfl) ?_
    obtain ⟨v4, h4, hf⟩ := ob hf
    refine x_iald hx hb hK hP 1 rfl h4 dX1_takeLetter_31 ?_
    obtain ⟨v5, h5, hf⟩ := ob hf
    refine x_iast hx hb hK hP hD hS 1 rfl h5 dX1_takeLetter_32 (fun H locs hP hD hS => ?_)
    have hP : va_P (xD E) vwCl (wF E f (Fo_set_bodies z v5)) H := hP
    have hD : va_D A (wF E f (Fo_set_bodies z v5)) := hD
    refine lv_iconst (v := 0) hx hb dX1_takeLetter_33 (by decide) ?_
    refine lv_istore (lv' := [(4, .int (0 : Int32)), (3, .int (if v1 = v2 then (0 : Int32) else (1 : Int32))), (0, .ref (f 0)), (1, .int x1), (2, .int x2)]) hx hb dX1_takeLetter_34 hl (by decide) rfl (fun ls hl => ?_)
    obtain ⟨v6, h6, hf⟩ := ob hf
    refine wX1_takeLetter_36 S E hK f x1 x2 _ _ 1000 _ _ h6 _ _ hP hD hS ls (lv_sub hl [2, 3, 4, 1, 0] rfl) (fun H locs hP hD hS ls hl => ?_)
    refine lv_iload_n hx hb dX1_takeLetter_108 rfl (lv_at hl 3 rfl) ?_
    obtain rfl := Option.some.inj hf
    subst hA
    exact x_iretM hx hb hr hlk (vp_nar_int _) hP hS dX1_takeLetter_109
  · refine lv_icmp_eq (tgt := 19) hx hb dX1_takeLetter_12 (by decide) (fun c3 => ?_) (fun c3 => ?_)
    · refine lv_iconst (v := 0) hx hb dX1_takeLetter_19 (by decide) ?_
      exact (by rw [if_pos c3] at hj; exact hj)
    · refine lv_iconst (v := 1) hx hb dX1_takeLetter_15 (by decide) ?_
      refine lv_goto (tgt := 20) hx hb dX1_takeLetter_16 (by decide) ?_
      exact (by rw [if_neg c3] at hj; exact hj)
abbrev rmX1_drawLots : Room := { frames := 2, cells := 0, slots := 0, locals := 46 }
theorem mX1_drawLots_0 : Cond.fieldLink RX1 32 "EvenWhite$Fount" "many" "I" ∈ wsX1_drawLots := by decide +kernel
theorem mX1_drawLots_1 : Cond.constantLong RX1 83 (31) ∈ wsX1_drawLots := by decide +kernel
theorem mX1_drawLots_2 : Cond.constantLong RX1 85 (5) ∈ wsX1_drawLots := by decide +kernel
theorem inX1_drawLots_1 : ∀ w ∈ u_ws RX1 TX1 6, w ∈ wsX1_drawLots := by decide +kernel
def gX1_drawLots_27 (x1 : Int32) (x4 : Int32) (x5 : Int32) (rec : (Int64 × Int32 × Fo) → Option (Int64 × Int32 × Fo)) (u : Int64 × Int32 × Fo) : Option (Int64 × Int32 × Fo) :=
  (if (8 : Int32) ≤ u.2.1 then
  some (u.1, u.2.1, u.2.2)
  else (fX1_nextLot u.1).bind fun v2 =>
  (fX1_putBack u.2.2 x4 x5 u.2.1 (Int64.toInt32 (v2 - v2 / (31 : Int64) * (31 : Int64)))).bind fun v3 =>
  rec (v2, (u.2.1 + (1 : Int32)), v3))
set_option maxHeartbeats 4000000 in
set_option maxRecDepth 100000 in
theorem wX1_drawLots_27 {p : Program} {l : Launch} {e : Env} {s : State} {m : MethodId} {args : Array Value} {below : List Frame} {meth : Method} {c : Code} {Q : State → Prop} (S : CallFix p m c cX1_drawLots 7 s args wsX1_drawLots RX1) (E : xG) (hK : xK E s) (f : Nat → Nat) (x1 : Int32) (x4 : Int32) (x5 : Int32) (A : Nat → Prop) (H0 : Heap) : ∀ (n : Nat) (u : Int64 × Int32 × Fo) (r : Int64 × Int32 × Fo), lp (gX1_drawLots_27 x1 x4 x5) n u = some r → ∀ (H : Heap) (locs : List Loc), va_P (xD E) vwCl (wF E f u.2.2) H → va_D A (wF E f u.2.2) → va_S A H0 H locs → ∀ (ls : Array Slot), lv_has ls 7 [(0, .ref (f 0)), (1, .int x1), (2, .long u.1), (4, .int x4), (5, .int x5), (6, .int u.2.1)] → (∀ (H : Heap) (locs : List Loc), va_P (xD E) vwCl (wF E f r.2.2) H → va_D A (wF E f r.2.2) → va_S A H0 H locs → ∀ (ls : Array Slot), lv_has ls 7 [(0, .ref (f 0)), (1, .int x1), (2, .long r.1), (4, .int x4), (5, .int x5), (6, .int r.2.1)] → W p l e rmX1_drawLots s m args below meth c H locs 0 0 Q (F0 m 61 ls [])) → W p l e rmX1_drawLots s m args below meth c H locs 0 0 Q (F0 m 27 ls []) := by
  obtain ⟨hx, hb, hml, hown, hts⟩ := id S
  intro n
  induction n with
  | zero =>
    intro u r hf
    exact absurd (show (none : Option _) = some r from hf) (fun q => by cases q)
  | succ n ih =>
    intro u r hf H locs hP hD hS ls hl kx
    have hf : gX1_drawLots_27 x1 x4 x5 (lp (gX1_drawLots_27 x1 x4 x5) n) u = some r := hf
    unfold gX1_drawLots_27 at hf
    refine lv_iload hx hb dX1_drawLots_27 (lv_at hl 5 rfl) ?_
    refine lv_bipush (v := 8) hx hb dX1_drawLots_29 (by decide) ?_
    refine lv_icmp_ge (tgt := 61) hx hb dX1_drawLots_31 (by decide) (fun c1 => ?_) (fun c1 => ?_)
    · have hf := (if_pos c1).symm.trans hf
      obtain rfl := Option.some.inj hf
      exact kx _ _ hP hD hS ls (lv_sub hl [0, 1, 2, 3, 4, 5] rfl)
    · have hf := (if_neg c1).symm.trans hf
      refine lv_lload_n hx hb dX1_drawLots_34 rfl (lv_at hl 2 rfl) ?_
      obtain ⟨v2, h2, hf⟩ := ob hf
      refine x_pS (As := [.long u.1]) (rest := []) S hK (kX1_nextLot l E u.1 h2) (va_cwS 1 hts gX1_drawLots_X1_nextLot rfl rfl rfl (by decide +kernel) ⟨Nat.le_of_ble_eq_true rfl, Nat.le_of_ble_eq_true rfl⟩) x_nil rfl hl.1 (Nat.le_of_ble_eq_true rfl) dX1_drawLots_35 rfl ⟨Nat.zero_le _, Nat.zero_le _⟩ ?_
      refine lv_lstore_n (lv' := [(2, .long v2), (0, .ref (f 0)), (1, .int x1), (4, .int x4), (5, .int x5), (6, .int u.2.1)]) hx hb dX1_drawLots_38 rfl hl (by decide) rfl (fun ls hl => ?_)
      refine lv_aload_n hx hb dX1_drawLots_39 rfl (lv_at hl 1 rfl) ?_
      refine lv_iload hx hb dX1_drawLots_40 (lv_at hl 3 rfl) ?_
      refine lv_iload hx hb dX1_drawLots_42 (lv_at hl 4 rfl) ?_
      refine lv_iload hx hb dX1_drawLots_44 (lv_at hl 5 rfl) ?_
      refine lv_lload_n hx hb dX1_drawLots_46 rfl (lv_at hl 0 rfl) ?_
      refine lv_ldc2 hx hb hown (hts _ mX1_drawLots_1) dX1_drawLots_47 ?_
      refine lv_lrem hx hb dX1_drawLots_50 (by decide) ?_
      refine lv_l2i (v := (Int64.toInt32 (v2 - v2 / (31 : Int64) * (31 : Int64)))) hx hb dX1_drawLots_51 rfl ?_
      obtain ⟨v3, h3, hf⟩ := ob hf
      refine x_mR (ws' := wF E f v3) (As := [.int x4, .int x5, .int u.2.1, .int (Int64.toInt32 (v2 - v2 / (31 : Int64) * (31 : Int64)))]) (rest := []) S hK (kX1_putBack l E f u.2.2 x4 x5 u.2.1 (Int64.toInt32 (v2 - v2 / (31 : Int64) * (31 : Int64))) h3) (cwV 4 hts gX1_drawLots_X1_putBack rfl rfl rfl (by decide +kernel) ⟨Nat.le_of_ble_eq_true rfl, Nat.le_of_ble_eq_true rfl⟩) hP hD hS 0 4 rfl rfl 0 rfl rfl rfl rfl hl.1 (Nat.le_of_ble_eq_true rfl) dX1_drawLots_52 rfl ⟨Nat.zero_le _, Nat.zero_le _⟩ rfl (fun H locs hP hD hS => ?_)
      refine lv_iinc (v := (u.2.1 + (1 : Int32))) (lv' := [(6, .int (u.2.1 + (1 : Int32))), (2, .long v2), (0, .ref (f 0)), (1, .int x1), (4, .int x4), (5, .int x5)]) hx hb dX1_drawLots_55 hl (k := 5) rfl rfl (by decide) rfl (fun ls hl => ?_)
      refine lv_goto (tgt := 27) hx hb dX1_drawLots_58 (by decide) ?_
      exact ih (v2, (u.2.1 + (1 : Int32)), v3) _ hf _ _ hP hD hS ls (lv_sub hl [2, 3, 1, 4, 5, 0] rfl) kx
def gX1_drawLots_18 (x1 : Int32) (x4 : Int32) (rec : (Int64 × Int32 × Fo) → Option (Int64 × Int32 × Fo)) (u : Int64 × Int32 × Fo) : Option (Int64 × Int32 × Fo) :=
  (if (2 : Int32) ≤ u.2.1 then
  some (u.1, u.2.1, u.2.2)
  else (lp (gX1_drawLots_27 x1 x4 u.2.1) 1000 (u.1, (0 : Int32), u.2.2)).bind fun v2 =>
  rec (v2.1, (u.2.1 + (1 : Int32)), v2.2.2))
set_option maxHeartbeats 4000000 in
set_option maxRecDepth 100000 in
theorem wX1_drawLots_18 {p : Program} {l : Launch} {e : Env} {s : State} {m : MethodId} {args : Array Value} {below : List Frame} {meth : Method} {c : Code} {Q : State → Prop} (S : CallFix p m c cX1_drawLots 7 s args wsX1_drawLots RX1) (E : xG) (hK : xK E s) (f : Nat → Nat) (x1 : Int32) (x4 : Int32) (A : Nat → Prop) (H0 : Heap) : ∀ (n : Nat) (u : Int64 × Int32 × Fo) (r : Int64 × Int32 × Fo), lp (gX1_drawLots_18 x1 x4) n u = some r → ∀ (H : Heap) (locs : List Loc), va_P (xD E) vwCl (wF E f u.2.2) H → va_D A (wF E f u.2.2) → va_S A H0 H locs → ∀ (ls : Array Slot), lv_has ls 7 [(0, .ref (f 0)), (1, .int x1), (2, .long u.1), (4, .int x4), (5, .int u.2.1)] → (∀ (H : Heap) (locs : List Loc), va_P (xD E) vwCl (wF E f r.2.2) H → va_D A (wF E f r.2.2) → va_S A H0 H locs → ∀ (ls : Array Slot), lv_has ls 7 [(0, .ref (f 0)), (1, .int x1), (2, .long r.1), (4, .int x4), (5, .int r.2.1)] → W p l e rmX1_drawLots s m args below meth c H locs 0 0 Q (F0 m 67 ls [])) → W p l e rmX1_drawLots s m args below meth c H locs 0 0 Q (F0 m 18 ls []) := by
  obtain ⟨hx, hb, hml, hown, hts⟩ := id S
  intro n
  induction n with
  | zero =>
    intro u r hf
    exact absurd (show (none : Option _) = some r from hf) (fun q => by cases q)
  | succ n ih =>
    intro u r hf H locs hP hD hS ls hl kx
    have hf : gX1_drawLots_18 x1 x4 (lp (gX1_drawLots_18 x1 x4) n) u = some r := hf
    unfold gX1_drawLots_18 at hf
    refine lv_iload hx hb dX1_drawLots_18 (lv_at hl 4 rfl) ?_
    refine lv_iconst (v := 2) hx hb dX1_drawLots_20 (by decide) ?_
    refine lv_icmp_ge (tgt := 67) hx hb dX1_drawLots_21 (by decide) (fun c1 => ?_) (fun c1 => ?_)
    · have hf := (if_pos c1).symm.trans hf
      obtain rfl := Option.some.inj hf
      exact kx _ _ hP hD hS ls (lv_sub hl [0, 1, 2, 3, 4] rfl)
    · have hf := (if_neg c1).symm.trans hf
      refine lv_iconst (v := 0) hx hb dX1_drawLots_24 (by decide) ?_
      refine lv_istore (lv' := [(6, .int (0 : Int32)), (0, .ref (f 0)), (1, .int x1), (2, .long u.1), (4, .int x4), (5, .int u.2.1)]) hx hb dX1_drawLots_25 hl (by decide) rfl (fun ls hl => ?_)
      obtain ⟨v2, h2, hf⟩ := ob hf
      refine wX1_drawLots_27 S E hK f x1 x4 u.2.1 _ _ 1000 _ _ h2 _ _ hP hD hS ls (lv_sub hl [1, 2, 3, 4, 5, 0] rfl) (fun H locs hP hD hS ls hl => ?_)
      refine lv_iinc (v := (u.2.1 + (1 : Int32))) (lv' := [(5, .int (u.2.1 + (1 : Int32))), (0, .ref (f 0)), (1, .int x1), (2, .long v2.1), (4, .int x4), (6, .int v2.2.1)]) hx hb dX1_drawLots_61 hl (k := 4) rfl rfl (by decide) rfl (fun ls hl => ?_)
      refine lv_goto (tgt := 18) hx hb dX1_drawLots_64 (by decide) ?_
      exact ih (v2.1, (u.2.1 + (1 : Int32)), v2.2.2) _ hf _ _ hP hD hS ls (lv_sub hl [1, 2, 3, 4, 0] rfl) kx
def gX1_drawLots_6 (x1 : Int32) (rec : (Int64 × Int32 × Fo) → Option (Int64 × Int32 × Fo)) (u : Int64 × Int32 × Fo) : Option (Int64 × Int32 × Fo) :=
  (if (Fo_many u.2.2) ≤ u.2.1 then
  some (u.1, u.2.1, u.2.2)
  else (lp (gX1_drawLots_18 x1 u.2.1) 1000 (u.1, (0 : Int32), u.2.2)).bind fun v2 =>
  rec (v2.1, (u.2.1 + (1 : Int32)), v2.2.2))
set_option maxHeartbeats 4000000 in
set_option maxRecDepth 100000 in
theorem wX1_drawLots_6 {p : Program} {l : Launch} {e : Env} {s : State} {m : MethodId} {args : Array Value} {below : List Frame} {meth : Method} {c : Code} {Q : State → Prop} (S : CallFix p m c cX1_drawLots 7 s args wsX1_drawLots RX1) (E : xG) (hK : xK E s) (f : Nat → Nat) (x1 : Int32) (A : Nat → Prop) (H0 : Heap) : ∀ (n : Nat) (u : Int64 × Int32 × Fo) (r : Int64 × Int32 × Fo), lp (gX1_drawLots_6 x1) n u = some r → ∀ (H : Heap) (locs : List Loc), va_P (xD E) vwCl (wF E f u.2.2) H → va_D A (wF E f u.2.2) → va_S A H0 H locs → ∀ (ls : Array Slot), lv_has ls 7 [(0, .ref (f 0)), (1, .int x1), (2, .long u.1), (4, .int u.2.1)] → (∀ (H : Heap) (locs : List Loc), va_P (xD E) vwCl (wF E f r.2.2) H → va_D A (wF E f r.2.2) → va_S A H0 H locs → ∀ (ls : Array Slot), lv_has ls 7 [(0, .ref (f 0)), (1, .int x1), (2, .long r.1), (4, .int r.2.1)] → W p l e rmX1_drawLots s m args below meth c H locs 0 0 Q (F0 m 73 ls [])) → W p l e rmX1_drawLots s m args below meth c H locs 0 0 Q (F0 m 6 ls []) := by
  obtain ⟨hx, hb, hml, hown, hts⟩ := id S
  intro n
  induction n with
  | zero =>
    intro u r hf
    exact absurd (show (none : Option _) = some r from hf) (fun q => by cases q)
  | succ n ih =>
    intro u r hf H locs hP hD hS ls hl kx
    have hf : gX1_drawLots_6 x1 (lp (gX1_drawLots_6 x1) n) u = some r := hf
    unfold gX1_drawLots_6 at hf
    refine lv_iload hx hb dX1_drawLots_6 (lv_at hl 3 rfl) ?_
    refine lv_aload_n hx hb dX1_drawLots_8 rfl (lv_at hl 0 rfl) ?_
    refine x_get hx hb hts inX1_drawLots_1 hown hK hP 0 rfl rfl 0 (by decide) mX1_drawLots_0 rfl dX1_drawLots_9 ?_
    refine lv_icmp_ge (tgt := 73) hx hb dX1_drawLots_12 (by decide) (fun c1 => ?_) (fun c1 => ?_)
    · have hf := (if_pos c1).symm.trans hf
      obtain rfl := Option.some.inj hf
      exact kx _ _ hP hD hS ls (lv_sub hl [0, 1, 2, 3] rfl)
    · have hf := (if_neg c1).symm.trans hf
      refine lv_iconst (v := 0) hx hb dX1_drawLots_15 (by decide) ?_
      refine lv_istore (lv' := [(5, .int (0 : Int32)), (0, .ref (f 0)), (1, .int x1), (2, .long u.1), (4, .int u.2.1)]) hx hb dX1_drawLots_16 hl (by decide) rfl (fun ls hl => ?_)
      obtain ⟨v2, h2, hf⟩ := ob hf
      refine wX1_drawLots_18 S E hK f x1 u.2.1 _ _ 1000 _ _ h2 _ _ hP hD hS ls (lv_sub hl [1, 2, 3, 4, 0] rfl) (fun H locs hP hD hS ls hl => ?_)
      refine lv_iinc (v := (u.2.1 + (1 : Int32))) (lv' := [(4, .int (u.2.1 + (1 : Int32))), (0, .ref (f 0)), (1, .int x1), (2, .long v2.1), (5, .int v2.2.1)]) hx hb dX1_drawLots_67 hl (k := 3) rfl rfl (by decide) rfl (fun ls hl => ?_)
      refine lv_goto (tgt := 6) hx hb dX1_drawLots_70 (by decide) ?_
      exact ih (v2.1, (u.2.1 + (1 : Int32)), v2.2.2) _ hf _ _ hP hD hS ls (lv_sub hl [1, 2, 3, 0] rfl) kx
def gX1_drawLots_88 (x1 : Int32) (x4 : Int32) (rec : (Int64 × Int32 × Fo) → Option (Int64 × Int32 × Fo)) (u : Int64 × Int32 × Fo) : Option (Int64 × Int32 × Fo) :=
  (if (Fo_many u.2.2) ≤ u.2.1 then
  some (u.1, u.2.1, u.2.2)
  else (fX1_nextLot u.1).bind fun v2 =>
  (fX1_putWeight u.2.2 x4 u.2.1 (Int64.toInt32 (v2 - v2 / (5 : Int64) * (5 : Int64)))).bind fun v3 =>
  rec (v2, (u.2.1 + (1 : Int32)), v3))
set_option maxHeartbeats 4000000 in
set_option maxRecDepth 100000 in
theorem wX1_drawLots_88 {p : Program} {l : Launch} {e : Env} {s : State} {m : MethodId} {args : Array Value} {below : List Frame} {meth : Method} {c : Code} {Q : State → Prop} (S : CallFix p m c cX1_drawLots 7 s args wsX1_drawLots RX1) (E : xG) (hK : xK E s) (f : Nat → Nat) (x1 : Int32) (x4 : Int32) (A : Nat → Prop) (H0 : Heap) : ∀ (n : Nat) (u : Int64 × Int32 × Fo) (r : Int64 × Int32 × Fo), lp (gX1_drawLots_88 x1 x4) n u = some r → ∀ (H : Heap) (locs : List Loc), va_P (xD E) vwCl (wF E f u.2.2) H → va_D A (wF E f u.2.2) → va_S A H0 H locs → ∀ (ls : Array Slot), lv_has ls 7 [(0, .ref (f 0)), (1, .int x1), (2, .long u.1), (4, .int x4), (5, .int u.2.1)] → (∀ (H : Heap) (locs : List Loc), va_P (xD E) vwCl (wF E f r.2.2) H → va_D A (wF E f r.2.2) → va_S A H0 H locs → ∀ (ls : Array Slot), lv_has ls 7 [(0, .ref (f 0)), (1, .int x1), (2, .long r.1), (4, .int x4), (5, .int r.2.1)] → W p l e rmX1_drawLots s m args below meth c H locs 0 0 Q (F0 m 122 ls [])) → W p l e rmX1_drawLots s m args below meth c H locs 0 0 Q (F0 m 88 ls []) := by
  obtain ⟨hx, hb, hml, hown, hts⟩ := id S
  intro n
  induction n with
  | zero =>
    intro u r hf
    exact absurd (show (none : Option _) = some r from hf) (fun q => by cases q)
  | succ n ih =>
    intro u r hf H locs hP hD hS ls hl kx
    have hf : gX1_drawLots_88 x1 x4 (lp (gX1_drawLots_88 x1 x4) n) u = some r := hf
    unfold gX1_drawLots_88 at hf
    refine lv_iload hx hb dX1_drawLots_88 (lv_at hl 4 rfl) ?_
    refine lv_aload_n hx hb dX1_drawLots_90 rfl (lv_at hl 0 rfl) ?_
    refine x_get hx hb hts inX1_drawLots_1 hown hK hP 0 rfl rfl 0 (by decide) mX1_drawLots_0 rfl dX1_drawLots_91 ?_
    refine lv_icmp_ge (tgt := 122) hx hb dX1_drawLots_94 (by decide) (fun c1 => ?_) (fun c1 => ?_)
    · have hf := (if_pos c1).symm.trans hf
      obtain rfl := Option.some.inj hf
      exact kx _ _ hP hD hS ls (lv_sub hl [0, 1, 2, 3, 4] rfl)
    · have hf := (if_neg c1).symm.trans hf
      refine lv_lload_n hx hb dX1_drawLots_97 rfl (lv_at hl 2 rfl) ?_
      obtain ⟨v2, h2, hf⟩ := ob hf
      refine x_pS (As := [.long u.1]) (rest := []) S hK (kX1_nextLot l E u.1 h2) (va_cwS 1 hts gX1_drawLots_X1_nextLot rfl rfl rfl (by decide +kernel) ⟨Nat.le_of_ble_eq_true rfl, Nat.le_of_ble_eq_true rfl⟩) x_nil rfl hl.1 (Nat.le_of_ble_eq_true rfl) dX1_drawLots_98 rfl ⟨Nat.zero_le _, Nat.zero_le _⟩ ?_
      refine lv_lstore_n (lv' := [(2, .long v2), (0, .ref (f 0)), (1, .int x1), (4, .int x4), (5, .int u.2.1)]) hx hb dX1_drawLots_101 rfl hl (by decide) rfl (fun ls hl => ?_)
      refine lv_aload_n hx hb dX1_drawLots_102 rfl (lv_at hl 1 rfl) ?_
      refine lv_iload hx hb dX1_drawLots_103 (lv_at hl 3 rfl) ?_
      refine lv_iload hx hb dX1_drawLots_105 (lv_at hl 4 rfl) ?_
      refine lv_lload_n hx hb dX1_drawLots_107 rfl (lv_at hl 0 rfl) ?_
      refine lv_ldc2 hx hb hown (hts _ mX1_drawLots_2) dX1_drawLots_108 ?_
      refine lv_lrem hx hb dX1_drawLots_111 (by decide) ?_
      refine lv_l2i (v := (Int64.toInt32 (v2 - v2 / (5 : Int64) * (5 : Int64)))) hx hb dX1_drawLots_112 rfl ?_
      obtain ⟨v3, h3, hf⟩ := ob hf
      refine x_mR (ws' := wF E f v3) (As := [.int x4, .int u.2.1, .int (Int64.toInt32 (v2 - v2 / (5 : Int64) * (5 : Int64)))]) (rest := []) S hK (kX1_putWeight l E f u.2.2 x4 u.2.1 (Int64.toInt32 (v2 - v2 / (5 : Int64) * (5 : Int64))) h3) (cwV 3 hts gX1_drawLots_X1_putWeight rfl rfl rfl (by decide +kernel) ⟨Nat.le_of_ble_eq_true rfl, Nat.le_of_ble_eq_true rfl⟩) hP hD hS 0 4 rfl rfl 0 rfl rfl rfl rfl hl.1 (Nat.le_of_ble_eq_true rfl) dX1_drawLots_113 rfl ⟨Nat.zero_le _, Nat.zero_le _⟩ rfl (fun H locs hP hD hS => ?_)
      refine lv_iinc (v := (u.2.1 + (1 : Int32))) (lv' := [(5, .int (u.2.1 + (1 : Int32))), (2, .long v2), (0, .ref (f 0)), (1, .int x1), (4, .int x4)]) hx hb dX1_drawLots_116 hl (k := 4) rfl rfl (by decide) rfl (fun ls hl => ?_)
      refine lv_goto (tgt := 88) hx hb dX1_drawLots_119 (by decide) ?_
      exact ih (v2, (u.2.1 + (1 : Int32)), v3) _ hf _ _ hP hD hS ls (lv_sub hl [2, 3, 1, 4, 0] rfl) kx
def gX1_drawLots_76 (x1 : Int32) (rec : (Int64 × Int32 × Fo) → Option (Int64 × Int32 × Fo)) (u : Int64 × Int32 × Fo) : Option (Int64 × Int32 × Fo) :=
  (if (Fo_many u.2.2) ≤ u.2.1 then
  some (u.1, u.2.1, u.2.2)
  else (lp (gX1_drawLots_88 x1 u.2.1) 1000 (u.1, (0 : Int32), u.2.2)).bind fun v2 =>
  rec (v2.1, (u.2.1 + (1 : Int32)), v2.2.2))
set_option maxHeartbeats 4000000 in
set_option maxRecDepth 100000 in
theorem wX1_drawLots_76 {p : Program} {l : Launch} {e : Env} {s : State} {m : MethodId} {args : Array Value} {below : List Frame} {meth : Method} {c : Code} {Q : State → Prop} (S : CallFix p m c cX1_drawLots 7 s args wsX1_drawLots RX1) (E : xG) (hK : xK E s) (f : Nat → Nat) (x1 : Int32) (A : Nat → Prop) (H0 : Heap) : ∀ (n : Nat) (u : Int64 × Int32 × Fo) (r : Int64 × Int32 × Fo), lp (gX1_drawLots_76 x1) n u = some r → ∀ (H : Heap) (locs : List Loc), va_P (xD E) vwCl (wF E f u.2.2) H → va_D A (wF E f u.2.2) → va_S A H0 H locs → ∀ (ls : Array Slot), lv_has ls 7 [(0, .ref (f 0)), (1, .int x1), (2, .long u.1), (4, .int u.2.1)] → (∀ (H : Heap) (locs : List Loc), va_P (xD E) vwCl (wF E f r.2.2) H → va_D A (wF E f r.2.2) → va_S A H0 H locs → ∀ (ls : Array Slot), lv_has ls 7 [(0, .ref (f 0)), (1, .int x1), (2, .long r.1), (4, .int r.2.1)] → W p l e rmX1_drawLots s m args below meth c H locs 0 0 Q (F0 m 128 ls [])) → W p l e rmX1_drawLots s m args below meth c H locs 0 0 Q (F0 m 76 ls []) := by
  obtain ⟨hx, hb, hml, hown, hts⟩ := id S
  intro n
  induction n with
  | zero =>
    intro u r hf
    exact absurd (show (none : Option _) = some r from hf) (fun q => by cases q)
  | succ n ih =>
    intro u r hf H locs hP hD hS ls hl kx
    have hf : gX1_drawLots_76 x1 (lp (gX1_drawLots_76 x1) n) u = some r := hf
    unfold gX1_drawLots_76 at hf
    refine lv_iload hx hb dX1_drawLots_76 (lv_at hl 3 rfl) ?_
    refine lv_aload_n hx hb dX1_drawLots_78 rfl (lv_at hl 0 rfl) ?_
    refine x_get hx hb hts inX1_drawLots_1 hown hK hP 0 rfl rfl 0 (by decide) mX1_drawLots_0 rfl dX1_drawLots_79 ?_
    refine lv_icmp_ge (tgt := 128) hx hb dX1_drawLots_82 (by decide) (fun c1 => ?_) (fun c1 => ?_)
    · have hf := (if_pos c1).symm.trans hf
      obtain rfl := Option.some.inj hf
      exact kx _ _ hP hD hS ls (lv_sub hl [0, 1, 2, 3] rfl)
    · have hf := (if_neg c1).symm.trans hf
      refine lv_iconst (v := 0) hx hb dX1_drawLots_85 (by decide) ?_
      refine lv_istore (lv' := [(5, .int (0 : Int32)), (0, .ref (f 0)), (1, .int x1), (2, .long u.1), (4, .int u.2.1)]) hx hb dX1_drawLots_86 hl (by decide) rfl (fun ls hl => ?_)
      obtain ⟨v2, h2, hf⟩ := ob hf
      refine wX1_drawLots_88 S E hK f x1 u.2.1 _ _ 1000 _ _ h2 _ _ hP hD hS ls (lv_sub hl [1, 2, 3, 4, 0] rfl) (fun H locs hP hD hS ls hl => ?_)
      refine lv_iinc (v := (u.2.1 + (1 : Int32))) (lv' := [(4, .int (u.2.1 + (1 : Int32))), (0, .ref (f 0)), (1, .int x1), (2, .long v2.1), (5, .int v2.2.1)]) hx hb dX1_drawLots_122 hl (k := 3) rfl rfl (by decide) rfl (fun ls hl => ?_)
      refine lv_goto (tgt := 76) hx hb dX1_drawLots_125 (by decide) ?_
      exact ih (v2.1, (u.2.1 + (1 : Int32)), v2.2.2) _ hf _ _ hP hD hS ls (lv_sub hl [1, 2, 3, 0] rfl) kx
def fX1_drawLots (z : Fo) (x1 : Int32) : Option Fo :=
  (lp (gX1_drawLots_6 x1) 1000 ((Int32.toInt64 x1), (0 : Int32), z)).bind fun v1 =>
  (lp (gX1_drawLots_76 x1) 1000 (v1.1, (0 : Int32), v1.2.2)).bind fun v2 =>
  some v2.2.2
set_option maxHeartbeats 4000000 in
set_option maxRecDepth 100000 in
theorem kX1_drawLots (l : Launch) (E : xG) (f : Nat → Nat) (z : Fo) (x1 : Int32) {r : Fo} (hf : fX1_drawLots z x1 = some r) : xMut l yX1_drawLots wsX1_drawLots rmX1_drawLots E [.ref (f 0), .int x1] (wF E f z) none (wF E f r) := by
  refine Met.ofW (cc := cX1_drawLots) (maxL := 7) (ret := none) (by decide) rfl ?_
  intro p e s m args below meth c s₁ B hml hv
  obtain ⟨rfl, hP, hK, hD0⟩ := hv
  have hx := B.exec
  have hb := B.bytes
  have hr := B.returns
  have hts := atoms_spec (ws := wsX1_drawLots) B.pre
  have hown : s.vm.findClass RX1 = some m.cls := findClass_of_methodNamed B.named
  have hlk := B.notSynchronized
  have S : CallFix p m c cX1_drawLots 7 s _ wsX1_drawLots RX1 := ⟨hx, hb, hml, hown, hts⟩
  have hl := lv_entry ([.ref (f 0), .int x1]) (n := 7) (Nat.le_of_ble_eq_true rfl)
  rw [lg_entry_eq]
  generalize (lg_sl ([.ref (f 0), .int x1]) ++ List.replicate (7 - (lg_sl ([.ref (f 0), .int x1])).length) Slot.unset).toArray = ls at hl ⊢
  have hl : lv_has ls 7 [(0, .ref (f 0)), (1, .int x1)] := hl
  have hD := xA.self hD0
  have hS : va_S (xA (wF E f z)) s.heap s.heap [] := va_S.rf
  show W p l e rmX1_drawLots s m _ below meth c s.heap [] 0 0 _ _
  generalize hA : xA (wF E f z) = A at hD hS ⊢
  unfold fX1_drawLots at hf
  refine lv_iload_n hx hb dX1_drawLots_0 rfl (lv_at hl 1 rfl) ?_
  refine lv_i2l (v := (Int32.toInt64 x1)) hx hb dX1_drawLots_1 rfl ?_
  refine lv_lstore_n (lv' := [(2, .long (Int32.toInt64 x1)), (0, .ref (f 0)), (1, .int x1)]) hx hb dX1_drawLots_2 rfl hl (by decide) rfl (fun ls hl => ?_)
  refine lv_iconst (v := 0) hx hb dX1_drawLots_3 (by decide) ?_
  refine lv_istore (lv' := [(4, .int (0 : Int32)), (2, .long (Int32.toInt64 x1)), (0, .ref (f 0)), (1, .int x1)]) hx hb dX1_drawLots_4 hl (by decide) rfl (fun ls hl => ?_)
  obtain ⟨v1, h1, hf⟩ := ob hf
  refine wX1_drawLots_6 S E hK f x1 _ _ 1000 _ _ h1 _ _ hP hD hS ls (lv_sub hl [2, 3, 1, 0] rfl) (fun H locs hP hD hS ls hl => ?_)
  refine lv_iconst (v := 0) hx hb dX1_drawLots_73 (by decide) ?_
  refine lv_istore (lv' := [(4, .int (0 : Int32)), (0, .ref (f 0)), (1, .int x1), (2, .long v1.1)]) hx hb dX1_drawLots_74 hl (by decide) rfl (fun ls hl => ?_)
  obtain ⟨v2, h2, hf⟩ := ob hf
  refine wX1_drawLots_76 S E hK f x1 _ _ 1000 _ _ h2 _ _ hP hD hS ls (lv_sub hl [1, 2, 3, 0] rfl) (fun H locs hP hD hS ls hl => ?_)
  obtain rfl := Option.some.inj hf
  subst hA
  exact x_vretM hx hb hr hlk hP hS dX1_drawLots_128
