
abbrev rmX6_wipe : Room := { frames := 0, cells := 0, slots := 0, locals := 0 }
theorem mX6_wipe_0 : Cond.fieldLink RX6 51 "EvenWhiteModel" "lined" "I" ∈ wsX6_wipe := by decide +kernel
theorem inX6_wipe_6 : ∀ w ∈ u_ws RX6 TX6 17, w ∈ wsX6_wipe := by decide +kernel
def fX6_wipe (mo : Mo) : Option (Int32 × Mo) :=
  some ((Mo_lined mo), (Mo_set_lined mo (0 : Int32)))
set_option maxHeartbeats 4000000 in
set_option maxRecDepth 100000 in
theorem kX6_wipe (l : Launch) (E : xG) (uq : Nat → Nat) (mo : Mo) {r : (Int32 × Mo)} (hf : fX6_wipe mo = some r) : xMut l yX6_wipe wsX6_wipe rmX6_wipe E [.ref (uq 0)] (wM E uq mo) (some (.int r.1)) (wM E uq r.2) := by
  refine Met.ofW (cc := cX6_wipe) (maxL := 2) (ret := (some .int)) (by decide) rfl ?_
  intro p e s m args below meth c s₁ B hml hv
  obtain ⟨rfl, hP, hK, hD0⟩ := hv
  have hx := B.exec
  have hb := B.bytes
  have hr := B.returns
  have hts := atoms_spec (ws := wsX6_wipe) B.pre
  have hown : s.vm.findClass RX6 = some m.cls := findClass_of_methodNamed B.named
  have hlk := B.notSynchronized
  have S : CallFix p m c cX6_wipe 2 s _ wsX6_wipe RX6 := ⟨hx, hb, hml, hown, hts⟩
  have hl := lv_entry ([.ref (uq 0)]) (n := 2) (Nat.le_of_ble_eq_true rfl)
  rw [lg_entry_eq]
  generalize (lg_sl ([.ref (uq 0)]) ++ List.replicate (2 - (lg_sl ([.ref (uq 0)])).length) Slot.unset).toArray = ls at hl ⊢
  have hl : lv_has ls 2 [(0, .ref (uq 0))] := hl
  have hD := xA.self hD0
  have hS : va_S (xA (wM E uq mo)) s.heap s.heap [] := va_S.rf
  show W p l e rmX6_wipe s m _ below meth c s.heap [] 0 0 _ _
  generalize hA : xA (wM E uq mo) = A at hD hS ⊢
  unfold fX6_wipe at hf
  refine lv_aload_n hx hb dX6_wipe_0 rfl (lv_at hl 0 rfl) ?_
  refine x_get hx hb hts inX6_wipe_6 hown hK hP 0 rfl rfl 1 (by decide) mX6_wipe_0 rfl dX6_wipe_1 ?_
  refine lv_istore_n (lv' := [(1, .int (Mo_lined mo)), (0, .ref (uq 0))]) hx hb dX6_wipe_4 rfl hl (by decide) rfl (fun ls hl => ?_)
  refine lv_aload_n hx hb dX6_wipe_5 rfl (lv_at hl 1 rfl) ?_
  refine lv_iconst (v := 0) hx hb dX6_wipe_6 (by decide) ?_
  refine x_putf hx hb hts inX6_wipe_6 tyX6_ok nmX6 hown hK hP hD hS 0 rfl rfl 1 (by decide) mX6_wipe_0 rfl (vp_nar_int _) rfl (Nat.le_of_ble_eq_true rfl) dX6_wipe_7 (fun H locs hP hD hS => ?_)
  have hP : va_P (xD E) vwCl (wM E uq (Mo_set_lined mo (0 : Int32))) H := hP
  have hD : va_D A (wM E uq (Mo_set_lined mo (0 : Int32))) := hD
  refine lv_iload_n hx hb dX6_wipe_10 rfl (lv_at hl 0 rfl) ?_
  obtain rfl := Option.some.inj hf
  subst hA
  exact x_iretM hx hb hr hlk (vp_nar_int _) hP hS dX6_wipe_11
abbrev rmX6_place : Room := { frames := 0, cells := 0, slots := 0, locals := 0 }
theorem mX6_place_0 : Cond.fieldLink RX6 51 "EvenWhiteModel" "lined" "I" ∈ wsX6_place := by decide +kernel
theorem mX6_place_1 : Cond.fieldLink RX6 13 "EvenWhiteModel" "line" "[I" ∈ wsX6_place := by decide +kernel
theorem mX6_place_2 : Cond.constant RX6 197 (-1000000002) ∈ wsX6_place := by decide +kernel
theorem inX6_place_6 : ∀ w ∈ u_ws RX6 TX6 17, w ∈ wsX6_place := by decide +kernel
def fX6_place (mo : Mo) (x1 : Int32) : Option Int32 :=
  ((if (0 : Int32) ≤ x1 then
  (if (Mo_lined mo) ≤ x1 then
  some (-1 : Int32)
  else (rdI (Mo_line mo) 16 x1).bind fun v4 =>
  some v4)
  else some (-1000000002 : Int32))).bind fun v1 =>
  some v1
set_option maxHeartbeats 4000000 in
set_option maxRecDepth 100000 in
theorem kX6_place (l : Launch) (E : xG) (uq : Nat → Nat) (mo : Mo) (x1 : Int32) {r : Int32} (hf : fX6_place mo x1 = some r) : xPure l yX6_place wsX6_place rmX6_place E [.ref (uq 0), .int x1] (wM E uq mo) (.int r) := by
  refine Met.ofW (cc := cX6_place) (maxL := 2) (ret := (some .int)) (by decide) rfl ?_
  intro p e s m args below meth c s₁ B hml hv
  obtain ⟨rfl, hP, hK⟩ := hv
  have hx := B.exec
  have hb := B.bytes
  have hr := B.returns
  have hts := atoms_spec (ws := wsX6_place) B.pre
  have hown : s.vm.findClass RX6 = some m.cls := findClass_of_methodNamed B.named
  have hlk := B.notSynchronized
  have S : CallFix p m c cX6_place 2 s _ wsX6_place RX6 := ⟨hx, hb, hml, hown, hts⟩
  have hl := lv_entry ([.ref (uq 0), .int x1]) (n := 2) (Nat.le_of_ble_eq_true rfl)
  rw [lg_entry_eq]
  generalize (lg_sl ([.ref (uq 0), .int x1]) ++ List.replicate (2 - (lg_sl ([.ref (uq 0), .int x1])).length) Slot.unset).toArray = ls at hl ⊢
  have hl : lv_has ls 2 [(0, .ref (uq 0)), (1, .int x1)] := hl
  unfold fX6_place at hf
  refine lv_iload_n hx hb dX6_place_0 rfl (lv_at hl 1 rfl) ?_
  obtain ⟨v1, h1, hf⟩ := ob hf
  refine x_cutL (fun ls => lv_has ls 2 [(0, .ref (uq 0)), (1, .int x1)]) (pc := 27) (st := [.int v1]) (fun ls hl => ?_) (fun hj => ?_)
  · obtain rfl := Option.some.inj hf
    exact x_iret hx hb hr hlk (vp_nar_int _) dX6_place_27
  · have hf := h1
    refine lv_if_ge (tgt := 9) hx hb dX6_place_1 (by decide) (fun c2 => ?_) (fun c2 => ?_)
    · have hf := (if_pos c2).symm.trans hf
      refine lv_iload_n hx hb dX6_place_9 rfl (lv_at hl 1 rfl) ?_
      refine lv_aload_n hx hb dX6_place_10 rfl (lv_at hl 0 rfl) ?_
      refine x_get hx hb hts inX6_place_6 hown hK hP 0 rfl rfl 1 (by decide) mX6_place_0 rfl dX6_place_11 ?_
      refine lv_icmp_ge (tgt := 26) hx hb dX6_place_14 (by decide) (fun c3 => ?_) (fun c3 => ?_)
      · have hf := (if_pos c3).symm.trans hf
        refine lv_iconst (v := (-1)) hx hb dX6_place_26 (by decide) ?_
        obtain rfl := Option.some.inj hf
        exact hj ls (lv_sub hl [0, 1] rfl)
      · have hf := (if_neg c3).symm.trans hf
        refine lv_aload_n hx hb dX6_place_17 rfl (lv_at hl 0 rfl) ?_
        refine x_get hx hb hts inX6_place_6 hown hK hP 0 rfl rfl 2 (by decide) mX6_place_1 rfl dX6_place_18 ?_
        refine lv_iload_n hx hb dX6_place_21 rfl (lv_at hl 1 rfl) ?_
        obtain ⟨v4, h4, hf⟩ := ob hf
        refine x_iald hx hb hK hP 2 rfl h4 dX6_place_22 ?_
        refine lv_goto (tgt := 27) hx hb dX6_place_23 (by decide) ?_
        obtain rfl := Option.some.inj hf
        exact hj ls (lv_sub hl [0, 1] rfl)
    · have hf := (if_neg c2).symm.trans hf
      refine lv_ldc hx hb hown (hts _ mX6_place_2) dX6_place_4 ?_
      refine lv_goto (tgt := 27) hx hb dX6_place_6 (by decide) ?_
      obtain rfl := Option.some.inj hf
      exact hj ls (lv_sub hl [0, 1] rfl)
abbrev rmX6_sign : Room := { frames := 6, cells := 0, slots := 0, locals := 152 }
theorem mX6_sign_0 : Cond.fieldLink RX6 137 "EvenWhiteModel" "signed" "I" ∈ wsX6_sign := by decide +kernel
theorem mX6_sign_1 : Cond.fieldLink RX6 39 "EvenWhiteModel" "signs" "[I" ∈ wsX6_sign := by decide +kernel
theorem mX6_sign_2 : Cond.constant RX6 197 (-1000000002) ∈ wsX6_sign := by decide +kernel
theorem inX6_sign_6 : ∀ w ∈ u_ws RX6 TX6 17, w ∈ wsX6_sign := by decide +kernel
def fX6_sign (mo : Mo) (x1 : Int32) : Option (Int32 × Mo) :=
  (if (0 : Int32) ≤ x1 then
  (fX6_writeLine mo).bind fun v2 =>
  ((if (Mo_signed v2) ≤ x1 then
  some (-1 : Int32)
  else (rdI (Mo_signs v2) 80 x1).bind fun v5 =>
  some v5)).bind fun v3 =>
  some (v3, v2)
  else some ((-1000000002 : Int32), mo))
set_option maxHeartbeats 4000000 in
set_option maxRecDepth 100000 in
theorem kX6_sign (l : Launch) (E : xG) (uq : Nat → Nat) (mo : Mo) (x1 : Int32) {r : (Int32 × Mo)} (hf : fX6_sign mo x1 = some r) : xMut l yX6_sign wsX6_sign rmX6_sign E [.ref (uq 0), .int x1] (wM E uq mo) (some (.int r.1)) (wM E uq r.2) := by
  refine Met.ofW (cc := cX6_sign) (maxL := 2) (ret := (some .int)) (by decide) rfl ?_
  intro p e s m args below meth c s₁ B hml hv
  obtain ⟨rfl, hP, hK, hD0⟩ := hv
  have hx := B.exec
  have hb := B.bytes
  have hr := B.returns
  have hts := atoms_spec (ws := wsX6_sign) B.pre
  have hown : s.vm.findClass RX6 = some m.cls := findClass_of_methodNamed B.named
  have hlk := B.notSynchronized
  have S : CallFix p m c cX6_sign 2 s _ wsX6_sign RX6 := ⟨hx, hb, hml, hown, hts⟩
  have hl := lv_entry ([.ref (uq 0), .int x1]) (n := 2) (Nat.le_of_ble_eq_true rfl)
  rw [lg_entry_eq]
  generalize (lg_sl ([.ref (uq 0), .int x1]) ++ List.replicate (2 - (lg_sl ([.ref (uq 0), .int x1])).length) Slot.unset).toArray = ls at hl ⊢
  have hl : lv_has ls 2 [(0, .ref (uq 0)), (1, .int x1)] := hl
  have hD := xA.self hD0
  have hS : va_S (xA (wM E uq mo)) s.heap s.heap [] := va_S.rf
  show W p l e rmX6_sign s m _ below meth c s.heap [] 0 0 _ _
  generalize hA : xA (wM E uq mo) = A at hD hS ⊢
  unfold fX6_sign at hf
  refine lv_iload_n hx hb dX6_sign_0 rfl (lv_at hl 1 rfl) ?_
  refine lv_if_ge (tgt := 7) hx hb dX6_sign_1 (by decide) (fun c1 => ?_) (fun c1 => ?_)
  · have hf := (if_pos c1).symm.trans hf
    refine lv_aload_n hx hb dX6_sign_7 rfl (lv_at hl 0 rfl) ?_
    obtain ⟨v2, h2, hf⟩ := ob hf
    refine x_mR (ws' := wM E uq v2) (As := []) (rest := []) S hK (kX6_writeLine l E uq mo h2) (cwV 0 hts gX6_sign_X6_writeLine rfl rfl rfl (by decide +kernel) ⟨Nat.le_of_ble_eq_true rfl, Nat.le_of_ble_eq_true rfl⟩) hP hD hS 0 14 rfl rfl 0 rfl rfl rfl rfl hl.1 (Nat.le_of_ble_eq_true rfl) dX6_sign_8 rfl ⟨Nat.zero_le _, Nat.zero_le _⟩ rfl (fun H locs hP hD hS => ?_)
    refine lv_iload_n hx hb dX6_sign_11 rfl (lv_at hl 1 rfl) ?_
    refine lv_aload_n hx hb dX6_sign_12 rfl (lv_at hl 0 rfl) ?_
    refine x_get hx hb hts inX6_sign_6 hown hK hP 0 rfl rfl 12 (by decide) mX6_sign_0 rfl dX6_sign_13 ?_
    obtain ⟨v3, h3, hf⟩ := ob hf
    refine x_cutH (fun H locs ls => va_P (xD E) vwCl (wM E uq v2) H ∧ va_D A (wM E uq v2) ∧ va_S A s.heap H locs ∧ lv_has ls 2 [(0, .ref (uq 0)), (1, .int x1)]) (pc := 29) (st := [.int v3]) (fun H locs ls hq => ?_) (fun hj => ?_)
    · obtain ⟨hP, hD, hS, hl⟩ := hq
      obtain rfl := Option.some.inj hf
      subst hA
      exact x_iretM hx hb hr hlk (vp_nar_int _) hP hS dX6_sign_29
    · have hf := h3
      refine lv_icmp_ge (tgt := 28) hx hb dX6_sign_16 (by decide) (fun c4 => ?_) (fun c4 => ?_)
      · have hf := (if_pos c4).symm.trans hf
        refine lv_iconst (v := (-1)) hx hb dX6_sign_28 (by decide) ?_
        obtain rfl := Option.some.inj hf
        exact hj _ _ ls ⟨hP, hD, hS, lv_sub hl [0, 1] rfl⟩
      · have hf := (if_neg c4).symm.trans hf
        refine lv_aload_n hx hb dX6_sign_19 rfl (lv_at hl 0 rfl) ?_
        refine x_get hx hb hts inX6_sign_6 hown hK hP 0 rfl rfl 11 (by decide) mX6_sign_1 rfl dX6_sign_20 ?_
        refine lv_iload_n hx hb dX6_sign_23 rfl (lv_at hl 1 rfl) ?_
        obtain ⟨v5, h5, hf⟩ := ob hf
        refine x_iald hx hb hK hP 10 rfl h5 dX6_sign_24 ?_
        refine lv_goto (tgt := 29) hx hb dX6_sign_25 (by decide) ?_
        obtain rfl := Option.some.inj hf
        exact hj _ _ ls ⟨hP, hD, hS, lv_sub hl [0, 1] rfl⟩
  · have hf := (if_neg c1).symm.trans hf
    refine lv_ldc hx hb hown (hts _ mX6_sign_2) dX6_sign_4 ?_
    obtain rfl := Option.some.inj hf
    subst hA
    exact x_iretM hx hb hr hlk (vp_nar_int _) hP hS dX6_sign_6
abbrev rmX6_keep : Room := { frames := 1, cells := 0, slots := 0, locals := 25 }
theorem mX6_keep_0 : Cond.fieldLink RX6 45 "EvenWhiteModel" "images" "[I" ∈ wsX6_keep := by decide +kernel
theorem mX6_keep_1 : Cond.fieldLink RX6 7 "EvenWhiteModel" "now" "[I" ∈ wsX6_keep := by decide +kernel
theorem mX6_keep_2 : Cond.fieldLink RX6 48 "EvenWhiteModel" "isKept" "[Z" ∈ wsX6_keep := by decide +kernel
theorem mX6_keep_3 : Cond.fieldLink RX6 182 "EvenWhiteModel" "undos" "I" ∈ wsX6_keep := by decide +kernel
theorem mX6_keep_4 : Cond.constant RX6 190 (-1000000001) ∈ wsX6_keep := by decide +kernel
theorem inX6_keep_6 : ∀ w ∈ u_ws RX6 TX6 17, w ∈ wsX6_keep := by decide +kernel
def gX6_keep_15 (x1 : Int32) (rec : (Int32 × Mo) → Option (Int32 × Mo)) (u : Int32 × Mo) : Option (Int32 × Mo) :=
  (if (63 : Int32) ≤ u.1 then
  some (u.1, u.2)
  else (rdI (Mo_now u.2) 63 u.1).bind fun v2 =>
  (wrI (Mo_images u.2) 126 (((63 : Int32) * x1) + u.1) v2).bind fun v3 =>
  rec ((u.1 + (1 : Int32)), (Mo_set_images u.2 v3)))
set_option maxHeartbeats 4000000 in
set_option maxRecDepth 100000 in
theorem wX6_keep_15 {p : Program} {l : Launch} {e : Env} {s : State} {m : MethodId} {args : Array Value} {below : List Frame} {meth : Method} {c : Code} {Q : State → Prop} (S : CallFix p m c cX6_keep 3 s args wsX6_keep RX6) (E : xG) (hK : xK E s) (uq : Nat → Nat) (x1 : Int32) (A : Nat → Prop) (H0 : Heap) : ∀ (n : Nat) (u : Int32 × Mo) (r : Int32 × Mo), lp (gX6_keep_15 x1) n u = some r → ∀ (H : Heap) (locs : List Loc), va_P (xD E) vwCl (wM E uq u.2) H → va_D A (wM E uq u.2) → va_S A H0 H locs → ∀ (ls : Array Slot), lv_has ls 3 [(0, .ref (uq 0)), (1, .int x1), (2, .int u.1)] → (∀ (H : Heap) (locs : List Loc), va_P (xD E) vwCl (wM E uq r.2) H → va_D A (wM E uq r.2) → va_S A H0 H locs → ∀ (ls : Array Slot), lv_has ls 3 [(0, .ref (uq 0)), (1, .int x1), (2, .int r.1)] → W p l e rmX6_keep s m args below meth c H locs 0 0 Q (F0 m 44 ls [])) → W p l e rmX6_keep s m args below meth c H locs 0 0 Q (F0 m 15 ls []) := by
  obtain ⟨hx, hb, hml, hown, hts⟩ := id S
  intro n
  induction n with
  | zero =>
    intro u r hf
    exact absurd (show (none : Option _) = some r from hf) (fun q => by cases q)
  | succ n ih =>
    intro u r hf H locs hP hD hS ls hl kx
    have hf : gX6_keep_15 x1 (lp (gX6_keep_15 x1) n) u = some r := hf
    unfold gX6_keep_15 at hf
    refine lv_iload_n hx hb dX6_keep_15 rfl (lv_at hl 2 rfl) ?_
    refine lv_bipush (v := 63) hx hb dX6_keep_16 (by decide) ?_
    refine lv_icmp_ge (tgt := 44) hx hb dX6_keep_18 (by decide) (fun c1 => ?_) (fun c1 => ?_)
    · have hf := (if_pos c1).symm.trans hf
      obtain rfl := Option.some.inj hf
      exact kx _ _ hP hD hS ls (lv_sub hl [0, 1, 2] rfl)
    · have hf := (if_neg c1).symm.trans hf
      refine lv_aload_n hx hb dX6_keep_21 rfl (lv_at hl 0 rfl) ?_
      refine x_get hx hb hts inX6_keep_6 hown hK hP 0 rfl rfl 15 (by decide) mX6_keep_0 rfl dX6_keep_22 ?_
      refine lv_bipush (v := 63) hx hb dX6_keep_25 (by decide) ?_
      refine lv_iload_n hx hb dX6_keep_27 rfl (lv_at hl 1 rfl) ?_
      refine lv_imul hx hb dX6_keep_28 ?_
      refine lv_iload_n hx hb dX6_keep_29 rfl (lv_at hl 2 rfl) ?_
      refine lv_iadd hx hb dX6_keep_30 ?_
      refine lv_aload_n hx hb dX6_keep_31 rfl (lv_at hl 0 rfl) ?_
      refine x_get hx hb hts inX6_keep_6 hown hK hP 0 rfl rfl 0 (by decide) mX6_keep_1 rfl dX6_keep_32 ?_
      refine lv_iload_n hx hb dX6_keep_35 rfl (lv_at hl 2 rfl) ?_
      obtain ⟨v2, h2, hf⟩ := ob hf
      refine x_iald hx hb hK hP 1 rfl h2 dX6_keep_36 ?_
      obtain ⟨v3, h3, hf⟩ := ob hf
      refine x_iast hx hb hK hP hD hS 12 rfl h3 dX6_keep_37 (fun H locs hP hD hS => ?_)
      have hP : va_P (xD E) vwCl (wM E uq (Mo_set_images u.2 v3)) H := hP
      have hD : va_D A (wM E uq (Mo_set_images u.2 v3)) := hD
      refine lv_iinc (v := (u.1 + (1 : Int32))) (lv' := [(2, .int (u.1 + (1 : Int32))), (0, .ref (uq 0)), (1, .int x1)]) hx hb dX6_keep_38 hl (k := 2) rfl rfl (by decide) rfl (fun ls hl => ?_)
      refine lv_goto (tgt := 15) hx hb dX6_keep_41 (by decide) ?_
      exact ih ((u.1 + (1 : Int32)), (Mo_set_images u.2 v3)) _ hf _ _ hP hD hS ls (lv_sub hl [1, 2, 0] rfl) kx
def fX6_keep (mo : Mo) (x1 : Int32) : Option (Int32 × Mo) :=
  (fX6_in (Int32.toInt64 x1) (0 : Int64) (1 : Int64)).bind fun v1 =>
  (if v1 = (0 : Int32) then
  some ((-1000000001 : Int32), mo)
  else (lp (gX6_keep_15 x1) 1000 ((0 : Int32), mo)).bind fun v3 =>
  (wrZ (Mo_isKept v3.2) 2 x1 (1 : Int32)).bind fun v4 =>
  (rdI (Mo_now v3.2) 63 (60 : Int32)).bind fun v5 =>
  some (v5, (Mo_set_undos (Mo_set_isKept v3.2 v4) (0 : Int32))))
set_option maxHeartbeats 4000000 in
set_option maxRecDepth 100000 in
theorem kX6_keep (l : Launch) (E : xG) (uq : Nat → Nat) (mo : Mo) (x1 : Int32) {r : (Int32 × Mo)} (hf : fX6_keep mo x1 = some r) : xMut l yX6_keep wsX6_keep rmX6_keep E [.ref (uq 0), .int x1] (wM E uq mo) (some (.int r.1)) (wM E uq r.2) := by
  refine Met.ofW (cc := cX6_keep) (maxL := 3) (ret := (some .int)) (by decide) rfl ?_
  intro p e s m args below meth c s₁ B hml hv
  obtain ⟨rfl, hP, hK, hD0⟩ := hv
  have hx := B.exec
  have hb := B.bytes
  have hr := B.returns
  have hts := atoms_spec (ws := wsX6_keep) B.pre
  have hown : s.vm.findClass RX6 = some m.cls := findClass_of_methodNamed B.named
  have hlk := B.notSynchronized
  have S : CallFix p m c cX6_keep 3 s _ wsX6_keep RX6 := ⟨hx, hb, hml, hown, hts⟩
  have hl := lv_entry ([.ref (uq 0), .int x1]) (n := 3) (Nat.le_of_ble_eq_true rfl)
  rw [lg_entry_eq]
  generalize (lg_sl ([.ref (uq 0), .int x1]) ++ List.replicate (3 - (lg_sl ([.ref (uq 0), .int x1])).length) Slot.unset).toArray = ls at hl ⊢
  have hl : lv_has ls 3 [(0, .ref (uq 0)), (1, .int x1)] := hl
  have hD := xA.self hD0
  have hS : va_S (xA (wM E uq mo)) s.heap s.heap [] := va_S.rf
  show W p l e rmX6_keep s m _ below meth c s.heap [] 0 0 _ _
  generalize hA : xA (wM E uq mo) = A at hD hS ⊢
  unfold fX6_keep at hf
  refine lv_iload_n hx hb dX6_keep_0 rfl (lv_at hl 1 rfl) ?_
  refine lv_i2l (v := (Int32.toInt64 x1)) hx hb dX6_keep_1 rfl ?_
  refine lv_lconst (v := 0) hx hb dX6_keep_2 (by decide) ?_
  refine lv_lconst (v := 1) hx hb dX6_keep_3 (by decide) ?_
  obtain ⟨v1, h1, hf⟩ := ob hf
  refine x_pS (As := [.long (Int32.toInt64 x1), .long (0 : Int64), .long (1 : Int64)]) (rest := []) S hK (kX6_in l E (Int32.toInt64 x1) (0 : Int64) (1 : Int64) h1) (va_cwS 3 hts gX6_keep_X6_in rfl rfl rfl (by decide +kernel) ⟨Nat.le_of_ble_eq_true rfl, Nat.le_of_ble_eq_true rfl⟩) x_nil rfl hl.1 (Nat.le_of_ble_eq_true rfl) dX6_keep_4 rfl ⟨Nat.zero_le _, Nat.zero_le _⟩ ?_
  refine lv_if_ne (tgt := 13) hx hb dX6_keep_7 (by decide) (fun c2 => ?_) (fun c2 => ?_)
  · have hf := (if_neg c2).symm.trans hf
    refine lv_iconst (v := 0) hx hb dX6_keep_13 (by decide) ?_
    refine lv_istore_n (lv' := [(2, .int (0 : Int32)), (0, .ref (uq 0)), (1, .int x1)]) hx hb dX6_keep_14 rfl hl (by decide) rfl (fun ls hl => ?_)
    obtain ⟨v3, h3, hf⟩ := ob hf
    refine wX6_keep_15 S E hK uq x1 _ _ 1000 _ _ h3 _ _ hP hD hS ls (lv_sub hl [1, 2, 0] rfl) (fun H locs hP hD hS ls hl => ?_)
    refine lv_aload_n hx hb dX6_keep_44 rfl (lv_at hl 0 rfl) ?_
    refine x_get hx hb hts inX6_keep_6 hown hK hP 0 rfl rfl 16 (by decide) mX6_keep_2 rfl dX6_keep_45 ?_
    refine lv_iload_n hx hb dX6_keep_48 rfl (lv_at hl 1 rfl) ?_
    refine lv_iconst (v := 1) hx hb dX6_keep_49 (by decide) ?_
    obtain ⟨v4, h4, hf⟩ := ob hf
    refine x_zast hx hb hK hP hD hS 13 rfl h4 dX6_keep_50 (fun H locs hP hD hS => ?_)
    have hP : va_P (xD E) vwCl (wM E uq (Mo_set_isKept v3.2 v4)) H := hP
    have hD : va_D A (wM E uq (Mo_set_isKept v3.2 v4)) := hD
    refine lv_aload_n hx hb dX6_keep_51 rfl (lv_at hl 0 rfl) ?_
    refine lv_iconst (v := 0) hx hb dX6_keep_52 (by decide) ?_
    refine x_putf hx hb hts inX6_keep_6 tyX6_ok nmX6 hown hK hP hD hS 0 rfl rfl 13 (by decide) mX6_keep_3 rfl (vp_nar_int _) rfl (Nat.le_of_ble_eq_true rfl) dX6_keep_53 (fun H locs hP hD hS => ?_)
    have hP : va_P (xD E) vwCl (wM E uq (Mo_set_undos (Mo_set_isKept v3.2 v4) (0 : Int32))) H := hP
    have hD : va_D A (wM E uq (Mo_set_undos (Mo_set_isKept v3.2 v4) (0 : Int32))) := hD
    refine lv_aload_n hx hb dX6_keep_56 rfl (lv_at hl 0 rfl) ?_
    refine x_get hx hb hts inX6_keep_6 hown hK hP 0 rfl rfl 0 (by decide) mX6_keep_1 rfl dX6_keep_57 ?_
    refine lv_bipush (v := 60) hx hb dX6_keep_60 (by decide) ?_
    obtain ⟨v5, h5, hf⟩ := ob hf
    refine x_iald hx hb hK hP 1 rfl h5 dX6_keep_62 ?_
    obtain rfl := Option.some.inj hf
    subst hA
    exact x_iretM hx hb hr hlk (vp_nar_int _) hP hS dX6_keep_63
  · have hf := (if_pos c2).symm.trans hf
    refine lv_ldc hx hb hown (hts _ mX6_keep_4) dX6_keep_10 ?_
    obtain rfl := Option.some.inj hf
    subst hA
    exact x_iretM hx hb hr hlk (vp_nar_int _) hP hS dX6_keep_12
abbrev rmX6_goBack : Room := { frames := 1, cells := 0, slots := 0, locals := 25 }
theorem mX6_goBack_0 : Cond.fieldLink RX6 48 "EvenWhiteModel" "isKept" "[Z" ∈ wsX6_goBack := by decide +kernel
theorem mX6_goBack_1 : Cond.fieldLink RX6 7 "EvenWhiteModel" "now" "[I" ∈ wsX6_goBack := by decide +kernel
theorem mX6_goBack_2 : Cond.fieldLink RX6 45 "EvenWhiteModel" "images" "[I" ∈ wsX6_goBack := by decide +kernel
theorem mX6_goBack_3 : Cond.fieldLink RX6 51 "EvenWhiteModel" "lined" "I" ∈ wsX6_goBack := by decide +kernel
theorem mX6_goBack_4 : Cond.fieldLink RX6 182 "EvenWhiteModel" "undos" "I" ∈ wsX6_goBack := by decide +kernel
theorem mX6_goBack_5 : Cond.constant RX6 238 (-1000000003) ∈ wsX6_goBack := by decide +kernel
theorem mX6_goBack_6 : Cond.constant RX6 190 (-1000000001) ∈ wsX6_goBack := by decide +kernel
theorem inX6_goBack_6 : ∀ w ∈ u_ws RX6 TX6 17, w ∈ wsX6_goBack := by decide +kernel
def gX6_goBack_27 (x1 : Int32) (rec : (Int32 × Mo) → Option (Int32 × Mo)) (u : Int32 × Mo) : Option (Int32 × Mo) :=
  (if (63 : Int32) ≤ u.1 then
  some (u.1, u.2)
  else (rdI (Mo_images u.2) 126 (((63 : Int32) * x1) + u.1)).bind fun v2 =>
  (wrI (Mo_now u.2) 63 u.1 v2).bind fun v3 =>
  rec ((u.1 + (1 : Int32)), (Mo_set_now u.2 v3)))
set_option maxHeartbeats 4000000 in
set_option maxRecDepth 100000 in
theorem wX6_goBack_27 {p : Program} {l : Launch} {e : Env} {s : State} {m : MethodId} {args : Array Value} {below : List Frame} {meth : Method} {c : Code} {Q : State → Prop} (S : CallFix p m c cX6_goBack 3 s args wsX6_goBack RX6) (E : xG) (hK : xK E s) (uq : Nat → Nat) (x1 : Int32) (A : Nat → Prop) (H0 : Heap) : ∀ (n : Nat) (u : Int32 × Mo) (r : Int32 × Mo), lp (gX6_goBack_27 x1) n u = some r → ∀ (H : Heap) (locs : List Loc), va_P (xD E) vwCl (wM E uq u.2) H → va_D A (wM E uq u.2) → va_S A H0 H locs → ∀ (ls : Array Slot), lv_has ls 3 [(0, .ref (uq 0)), (1, .int x1), (2, .int u.1)] → (∀ (H : Heap) (locs : List Loc), va_P (xD E) vwCl (wM E uq r.2) H → va_D A (wM E uq r.2) → va_S A H0 H locs → ∀ (ls : Array Slot), lv_has ls 3 [(0, .ref (uq 0)), (1, .int x1), (2, .int r.1)] → W p l e rmX6_goBack s m args below meth c H locs 0 0 Q (F0 m 56 ls [])) → W p l e rmX6_goBack s m args below meth c H locs 0 0 Q (F0 m 27 ls []) := by
  obtain ⟨hx, hb, hml, hown, hts⟩ := id S
  intro n
  induction n with
  | zero =>
    intro u r hf
    exact absurd (show (none : Option _) = some r from hf) (fun q => by cases q)
  | succ n ih =>
    intro u r hf H locs hP hD hS ls hl kx
    have hf : gX6_goBack_27 x1 (lp (gX6_goBack_27 x1) n) u = some r := hf
    unfold gX6_goBack_27 at hf
    refine lv_iload_n hx hb dX6_goBack_27 rfl (lv_at hl 2 rfl) ?_
    refine lv_bipush (v := 63) hx hb dX6_goBack_28 (by decide) ?_
    refine lv_icmp_ge (tgt := 56) hx hb dX6_goBack_30 (by decide) (fun c1 => ?_) (fun c1 => ?_)
    · have hf := (if_pos c1).symm.trans hf
      obtain rfl := Option.some.inj hf
      exact kx _ _ hP hD hS ls (lv_sub hl [0, 1, 2] rfl)
    · have hf := (if_neg c1).symm.trans hf
      refine lv_aload_n hx hb dX6_goBack_33 rfl (lv_at hl 0 rfl) ?_
      refine x_get hx hb hts inX6_goBack_6 hown hK hP 0 rfl rfl 0 (by decide) mX6_goBack_1 rfl dX6_goBack_34 ?_
      refine lv_iload_n hx hb dX6_goBack_37 rfl (lv_at hl 2 rfl) ?_
      refine lv_aload_n hx hb dX6_goBack_38 rfl (lv_at hl 0 rfl) ?_
      refine x_get hx hb hts inX6_goBack_6 hown hK hP 0 rfl rfl 15 (by decide) mX6_goBack_2 rfl dX6_goBack_39 ?_
      refine lv_bipush (v := 63) hx hb dX6_goBack_42 (by decide) ?_
      refine lv_iload_n hx hb dX6_goBack_44 rfl (lv_at hl 1 rfl) ?_
      refine lv_imul hx hb dX6_goBack_45 ?_
      refine lv_iload_n hx hb dX6_goBack_46 rfl (lv_at hl 2 rfl) ?_
      refine lv_iadd hx hb dX6_goBack_47 ?_
      obtain ⟨v2, h2, hf⟩ := ob hf
      refine x_iald hx hb hK hP 12 rfl h2 dX6_goBack_48 ?_
      obtain ⟨v3, h3, hf⟩ := ob hf
      refine x_iast hx hb hK hP hD hS 1 rfl h3 dX6_goBack_49 (fun H locs hP hD hS => ?_)
      have hP : va_P (xD E) vwCl (wM E uq (Mo_set_now u.2 v3)) H := hP
      have hD : va_D A (wM E uq (Mo_set_now u.2 v3)) := hD
      refine lv_iinc (v := (u.1 + (1 : Int32))) (lv' := [(2, .int (u.1 + (1 : Int32))), (0, .ref (uq 0)), (1, .int x1)]) hx hb dX6_goBack_50 hl (k := 2) rfl rfl (by decide) rfl (fun ls hl => ?_)
      refine lv_goto (tgt := 27) hx hb dX6_goBack_53 (by decide) ?_
      exact ih ((u.1 + (1 : Int32)), (Mo_set_now u.2 v3)) _ hf _ _ hP hD hS ls (lv_sub hl [1, 2, 0] rfl) kx
def fX6_goBack (mo : Mo) (x1 : Int32) : Option (Int32 × Mo) :=
  (fX6_in (Int32.toInt64 x1) (0 : Int64) (1 : Int64)).bind fun v1 =>
  (if v1 = (0 : Int32) then
  some ((-1000000001 : Int32), mo)
  else (rdI (Mo_isKept mo) 2 x1).bind fun v3 =>
  (if v3 = (0 : Int32) then
  some ((-1000000003 : Int32), mo)
  else (lp (gX6_goBack_27 x1) 1000 ((0 : Int32), mo)).bind fun v5 =>
  (rdI (Mo_now v5.2) 63 (60 : Int32)).bind fun v6 =>
  some (v6, (Mo_set_undos (Mo_set_lined v5.2 (0 : Int32)) (0 : Int32)))))
set_option maxHeartbeats 4000000 in
set_option maxRecDepth 100000 in
theorem kX6_goBack (l : Launch) (E : xG) (uq : Nat → Nat) (mo : Mo) (x1 : Int32) {r : (Int32 × Mo)} (hf : fX6_goBack mo x1 = some r) : xMut l yX6_goBack wsX6_goBack rmX6_goBack E [.ref (uq 0), .int x1] (wM E uq mo) (some (.int r.1)) (wM E uq r.2) := by
  refine Met.ofW (cc := cX6_goBack) (maxL := 3) (ret := (some .int)) (by decide) rfl ?_
  intro p e s m args below meth c s₁ B hml hv
  obtain ⟨rfl, hP, hK, hD0⟩ := hv
  have hx := B.exec
  have hb := B.bytes
  have hr := B.returns
  have hts := atoms_spec (ws := wsX6_goBack) B.pre
  have hown : s.vm.findClass RX6 = some m.cls := findClass_of_methodNamed B.named
  have hlk := B.notSynchronized
  have S : CallFix p m c cX6_goBack 3 s _ wsX6_goBack RX6 := ⟨hx, hb, hml, hown, hts⟩
  have hl := lv_entry ([.ref (uq 0), .int x1]) (n := 3) (Nat.le_of_ble_eq_true rfl)
  rw [lg_entry_eq]
  generalize (lg_sl ([.ref (uq 0), .int x1]) ++ List.replicate (3 - (lg_sl ([.ref (uq 0), .int x1])).length) Slot.unset).toArray = ls at hl ⊢
  have hl : lv_has ls 3 [(0, .ref (uq 0)), (1, .int x1)] := hl
  have hD := xA.self hD0
  have hS : va_S (xA (wM E uq mo)) s.heap s.heap [] := va_S.rf
  show W p l e rmX6_goBack s m _ below meth c s.heap [] 0 0 _ _
  generalize hA : xA (wM E uq mo) = A at hD hS ⊢
  unfold fX6_goBack at hf
  refine lv_iload_n hx hb dX6_goBack_0 rfl (lv_at hl 1 rfl) ?_
  refine lv_i2l (v := (Int32.toInt64 x1)) hx hb dX6_goBack_1 rfl ?_
  refine lv_lconst (v := 0) hx hb dX6_goBack_2 (by decide) ?_
  refine lv_lconst (v := 1) hx hb dX6_goBack_3 (by decide) ?_
  obtain ⟨v1, h1, hf⟩ := ob hf
  refine x_pS (As := [.long (Int32.toInt64 x1), .long (0 : Int64), .long (1 : Int64)]) (rest := []) S hK (kX6_in l E (Int32.toInt64 x1) (0 : Int64) (1 : Int64) h1) (va_cwS 3 hts gX6_goBack_X6_in rfl rfl rfl (by decide +kernel) ⟨Nat.le_of_ble_eq_true rfl, Nat.le_of_ble_eq_true rfl⟩) x_nil rfl hl.1 (Nat.le_of_ble_eq_true rfl) dX6_goBack_4 rfl ⟨Nat.zero_le _, Nat.zero_le _⟩ ?_
  refine lv_if_ne (tgt := 13) hx hb dX6_goBack_7 (by decide) (fun c2 => ?_) (fun c2 => ?_)
  · have hf := (if_neg c2).symm.trans hf
    refine lv_aload_n hx hb dX6_goBack_13 rfl (lv_at hl 0 rfl) ?_
    refine x_get hx hb hts inX6_goBack_6 hown hK hP 0 rfl rfl 16 (by decide) mX6_goBack_0 rfl dX6_goBack_14 ?_
    refine lv_iload_n hx hb dX6_goBack_17 rfl (lv_at hl 1 rfl) ?_
    obtain ⟨v3, h3, hf⟩ := ob hf
    refine x_zald hx hb hK hP 13 rfl h3 dX6_goBack_18 ?_
    refine lv_if_ne (tgt := 25) hx hb dX6_goBack_19 (by decide) (fun c4 => ?_) (fun c4 => ?_)
    · have hf := (if_neg c4).symm.trans hf
      refine lv_iconst (v := 0) hx hb dX6_goBack_25 (by decide) ?_
      refine lv_istore_n (lv' := [(2, .int (0 : Int32)), (0, .ref (uq 0)), (1, .int x1)]) hx hb dX6_goBack_26 rfl hl (by decide) rfl (fun ls hl => ?_)
      obtain ⟨v5, h5, hf⟩ := ob hf
      refine wX6_goBack_27 S E hK uq x1 _ _ 1000 _ _ h5 _ _ hP hD hS ls (lv_sub hl [1, 2, 0] rfl) (fun H locs hP hD hS ls hl => ?_)
      refine lv_aload_n hx hb dX6_goBack_56 rfl (lv_at hl 0 rfl) ?_
      refine lv_iconst (v := 0) hx hb dX6_goBack_57 (by decide) ?_
      refine x_putf hx hb hts inX6_goBack_6 tyX6_ok nmX6 hown hK hP hD hS 0 rfl rfl 1 (by decide) mX6_goBack_3 rfl (vp_nar_int _) rfl (Nat.le_of_ble_eq_true rfl) dX6_goBack_58 (fun H locs hP hD hS => ?_)
      have hP : va_P (xD E) vwCl (wM E uq (Mo_set_lined v5.2 (0 : Int32))) H := hP
      have hD : va_D A (wM E uq (Mo_set_lined v5.2 (0 : Int32))) := hD
      refine lv_aload_n hx hb dX6_goBack_61 rfl (lv_at hl 0 rfl) ?_
      refine lv_iconst (v := 0) hx hb dX6_goBack_62 (by decide) ?_
      refine x_putf hx hb hts inX6_goBack_6 tyX6_ok nmX6 hown hK hP hD hS 0 rfl rfl 13 (by decide) mX6_goBack_4 rfl (vp_nar_int _) rfl (Nat.le_of_ble_eq_true rfl) dX6_goBack_63 (fun H locs hP hD hS => ?_)
      have hP : va_P (xD E) vwCl (wM E uq (Mo_set_undos (Mo_set_lined v5.2 (0 : Int32)) (0 : Int32))) H := hP
      have hD : va_D A (wM E uq (Mo_set_undos (Mo_set_lined v5.2 (0 : Int32)) (0 : Int32))) := hD
      refine lv_aload_n hx hb dX6_goBack_66 rfl (lv_at hl 0 rfl) ?_
      refine x_get hx hb hts inX6_goBack_6 hown hK hP 0 rfl rfl 0 (by decide) mX6_goBack_1 rfl dX6_goBack_67 ?_
      refine lv_bipush (v := 60) hx hb dX6_goBack_70 (by decide) ?_
      obtain ⟨v6, h6, hf⟩ := ob hf
      refine x_iald hx hb hK hP 1 rfl h6 dX6_goBack_72 ?_
      obtain rfl := Option.some.inj hf
      subst hA
      exact x_iretM hx hb hr hlk (vp_nar_int _) hP hS dX6_goBack_73
    · have hf := (if_pos c4).symm.trans hf
      refine lv_ldc hx hb hown (hts _ mX6_goBack_5) dX6_goBack_22 ?_
      obtain rfl := Option.some.inj hf
      subst hA
      exact x_iretM hx hb hr hlk (vp_nar_int _) hP hS dX6_goBack_24
  · have hf := (if_pos c2).symm.trans hf
    refine lv_ldc hx hb hown (hts _ mX6_goBack_6) dX6_goBack_10 ?_
    obtain rfl := Option.some.inj hf
    subst hA
    exact x_iretM hx hb hr hlk (vp_nar_int _) hP hS dX6_goBack_12
