abbrev rmX2_makeEmpty : Room := { frames := 0, cells := 0, slots := 0, locals := 0 }
theorem mX2_makeEmpty_0 : Cond.fieldLink RX2 30 "EvenWhite$Line" "many" "I" ∈ wsX2_makeEmpty := by decide +kernel
theorem inX2_makeEmpty_2 : ∀ w ∈ u_ws RX2 TX2 5, w ∈ wsX2_makeEmpty := by decide +kernel
def fX2_makeEmpty (li : Li) : Option Li :=
  some (Li_set_many li (0 : Int32))
set_option maxHeartbeats 4000000 in
set_option maxRecDepth 100000 in
theorem kX2_makeEmpty (l : Launch) (E : xG) (g : Nat → Nat) (h : Nat → Nat) (q : Nat → Nat) (f : Nat → Nat) (li : Li) {r : Li} (hf : fX2_makeEmpty li = some r) : xMut l yX2_makeEmpty wsX2_makeEmpty rmX2_makeEmpty E [.ref (g 0)] (wN E g h q f li) none (wN E g h q f r) := by
  refine Met.ofW (cc := cX2_makeEmpty) (maxL := 1) (ret := none) (by decide) rfl ?_
  intro p e s m args below meth c s₁ B hml hv
  obtain ⟨rfl, hP, hK, hD0⟩ := hv
  have hx := B.exec
  have hb := B.bytes
  have hr := B.returns
  have hts := atoms_spec (ws := wsX2_makeEmpty) B.pre
  have hown : s.vm.findClass RX2 = some m.cls := findClass_of_methodNamed B.named
  have hlk := B.notSynchronized
  have S : CallFix p m c cX2_makeEmpty 1 s _ wsX2_makeEmpty RX2 := ⟨hx, hb, hml, hown, hts⟩
  have hl := lv_entry ([.ref (g 0)]) (n := 1) (Nat.le_of_ble_eq_true rfl)
  rw [lg_entry_eq]
  generalize (lg_sl ([.ref (g 0)]) ++ List.replicate (1 - (lg_sl ([.ref (g 0)])).length) Slot.unset).toArray = ls at hl ⊢
  have hl : lv_has ls 1 [(0, .ref (g 0))] := hl
  have hD := xA.self hD0
  have hS : va_S (xA (wN E g h q f li)) s.heap s.heap [] := va_S.rf
  show W p l e rmX2_makeEmpty s m _ below meth c s.heap [] 0 0 _ _
  generalize hA : xA (wN E g h q f li) = A at hD hS ⊢
  unfold fX2_makeEmpty at hf
  refine lv_aload_n hx hb dX2_makeEmpty_0 rfl (lv_at hl 0 rfl) ?_
  refine lv_iconst (v := 0) hx hb dX2_makeEmpty_1 (by decide) ?_
  refine x_putf hx hb hts inX2_makeEmpty_2 tyX2_ok nmX2 hown hK hP hD hS 0 rfl rfl 0 (by decide) mX2_makeEmpty_0 rfl (vp_nar_int _) rfl (Nat.le_of_ble_eq_true rfl) dX2_makeEmpty_2 (fun H locs hP hD hS => ?_)
  have hP : va_P (xD E) vwCl (wN E g h q f (Li_set_many li (0 : Int32))) H := hP
  have hD : va_D A (wN E g h q f (Li_set_many li (0 : Int32))) := hD
  obtain rfl := Option.some.inj hf
  subst hA
  exact x_vretM hx hb hr hlk hP hS dX2_makeEmpty_5
abbrev rmX2_add : Room := { frames := 0, cells := 0, slots := 0, locals := 0 }
theorem mX2_add_0 : Cond.fieldLink RX2 30 "EvenWhite$Line" "many" "I" ∈ wsX2_add := by decide +kernel
theorem mX2_add_1 : Cond.fieldLink RX2 9 "EvenWhite$Line" "places" "[I" ∈ wsX2_add := by decide +kernel
theorem inX2_add_2 : ∀ w ∈ u_ws RX2 TX2 5, w ∈ wsX2_add := by decide +kernel
def fX2_add (li : Li) (x1 : Int32) : Option Li :=
  ((if (16 : Int32) ≤ (Li_many li) then
  some li
  else (wrI (Li_places li) 16 (Li_many li) x1).bind fun v3 =>
  some (Li_set_many (Li_set_places li v3) ((Li_many li) + (1 : Int32))))).bind fun v1 =>
  some v1
set_option maxHeartbeats 4000000 in
set_option maxRecDepth 100000 in
theorem kX2_add (l : Launch) (E : xG) (g : Nat → Nat) (h : Nat → Nat) (q : Nat → Nat) (f : Nat → Nat) (li : Li) (x1 : Int32) {r : Li} (hf : fX2_add li x1 = some r) : xMut l yX2_add wsX2_add rmX2_add E [.ref (g 0), .int x1] (wN E g h q f li) none (wN E g h q f r) := by
  refine Met.ofW (cc := cX2_add) (maxL := 2) (ret := none) (by decide) rfl ?_
  intro p e s m args below meth c s₁ B hml hv
  obtain ⟨rfl, hP, hK, hD0⟩ := hv
  have hx := B.exec
  have hb := B.bytes
  have hr := B.returns
  have hts := atoms_spec (ws := wsX2_add) B.pre
  have hown : s.vm.findClass RX2 = some m.cls := findClass_of_methodNamed B.named
  have hlk := B.notSynchronized
  have S : CallFix p m c cX2_add 2 s _ wsX2_add RX2 := ⟨hx, hb, hml, hown, hts⟩
  have hl := lv_entry ([.ref (g 0), .int x1]) (n := 2) (Nat.le_of_ble_eq_true rfl)
  rw [lg_entry_eq]
  generalize (lg_sl ([.ref (g 0), .int x1]) ++ List.replicate (2 - (lg_sl ([.ref (g 0), .int x1])).length) Slot.unset).toArray = ls at hl ⊢
  have hl : lv_has ls 2 [(0, .ref (g 0)), (1, .int x1)] := hl
  have hD := xA.self hD0
  have hS : va_S (xA (wN E g h q f li)) s.heap s.heap [] := va_S.rf
  show W p l e rmX2_add s m _ below meth c s.heap [] 0 0 _ _
  generalize hA : xA (wN E g h q f li) = A at hD hS ⊢
  unfold fX2_add at hf
  refine lv_aload_n hx hb dX2_add_0 rfl (lv_at hl 0 rfl) ?_
  refine x_get hx hb hts inX2_add_2 hown hK hP 0 rfl rfl 0 (by decide) mX2_add_0 rfl dX2_add_1 ?_
  refine lv_aload_n hx hb dX2_add_4 rfl (lv_at hl 0 rfl) ?_
  refine x_get hx hb hts inX2_add_2 hown hK hP 0 rfl rfl 1 (by decide) mX2_add_1 rfl dX2_add_5 ?_
  refine va_alen (v := 16) hx hb hK.1 hP 1 0 rfl rfl rfl dX2_add_8 ?_
  obtain ⟨v1, h1, hf⟩ := ob hf
  refine x_cutH (fun H locs ls => va_P (xD E) vwCl (wN E g h q f v1) H ∧ va_D A (wN E g h q f v1) ∧ va_S A s.heap H locs ∧ lv_has ls 2 [(0, .ref (g 0)), (1, .int x1)]) (pc := 32) (st := []) (fun H locs ls hq => ?_) (fun hj => ?_)
  · obtain ⟨hP, hD, hS, hl⟩ := hq
    obtain rfl := Option.some.inj hf
    subst hA
    exact x_vretM hx hb hr hlk hP hS dX2_add_32
  · have hf := h1
    refine lv_icmp_ge (tgt := 32) hx hb dX2_add_9 (by decide) (fun c2 => ?_) (fun c2 => ?_)
    · have hf := (if_pos c2).symm.trans hf
      obtain rfl := Option.some.inj hf
      exact hj _ _ ls ⟨hP, hD, hS, lv_sub hl [0, 1] rfl⟩
    · have hf := (if_neg c2).symm.trans hf
      refine lv_aload_n hx hb dX2_add_12 rfl (lv_at hl 0 rfl) ?_
      refine x_get hx hb hts inX2_add_2 hown hK hP 0 rfl rfl 1 (by decide) mX2_add_1 rfl dX2_add_13 ?_
      refine lv_aload_n hx hb dX2_add_16 rfl (lv_at hl 0 rfl) ?_
      refine x_get hx hb hts inX2_add_2 hown hK hP 0 rfl rfl 0 (by decide) mX2_add_0 rfl dX2_add_17 ?_
      refine lv_iload_n hx hb dX2_add_20 rfl (lv_at hl 1 rfl) ?_
      obtain ⟨v3, h3, hf⟩ := ob hf
      refine x_iast hx hb hK hP hD hS 1 rfl h3 dX2_add_21 (fun H locs hP hD hS => ?_)
      have hP : va_P (xD E) vwCl (wN E g h q f (Li_set_places li v3)) H := hP
      have hD : va_D A (wN E g h q f (Li_set_places li v3)) := hD
      refine lv_aload_n hx hb dX2_add_22 rfl (lv_at hl 0 rfl) ?_
      refine lv_dup hx hb dX2_add_23 rfl ?_
      refine x_get hx hb hts inX2_add_2 hown hK hP 0 rfl rfl 0 (by decide) mX2_add_0 rfl dX2_add_24 ?_
      refine lv_iconst (v := 1) hx hb dX2_add_27 (by decide) ?_
      refine lv_iadd hx hb dX2_add_28 ?_
      refine x_putf hx hb hts inX2_add_2 tyX2_ok nmX2 hown hK hP hD hS 0 rfl rfl 0 (by decide) mX2_add_0 rfl (vp_nar_int _) rfl (Nat.le_of_ble_eq_true rfl) dX2_add_29 (fun H locs hP hD hS => ?_)
      have hP : va_P (xD E) vwCl (wN E g h q f (Li_set_many (Li_set_places li v3) ((Li_many li) + (1 : Int32)))) H := hP
      have hD : va_D A (wN E g h q f (Li_set_many (Li_set_places li v3) ((Li_many li) + (1 : Int32)))) := hD
      obtain rfl := Option.some.inj hf
      exact hj _ _ ls ⟨hP, hD, hS, lv_sub hl [0, 1] rfl⟩
abbrev rmX2_letterAt : Room := { frames := 1, cells := 0, slots := 0, locals := 22 }
theorem mX2_letterAt_0 : Cond.fieldLink RX2 30 "EvenWhite$Line" "many" "I" ∈ wsX2_letterAt := by decide +kernel
theorem mX2_letterAt_1 : Cond.initialized RX5 ∈ wsX2_letterAt := by decide +kernel
theorem mX2_letterAt_2 : Cond.static yX5_within ∈ wsX2_letterAt := by decide +kernel
theorem mX2_letterAt_3 : Cond.fieldLink RX2 9 "EvenWhite$Line" "places" "[I" ∈ wsX2_letterAt := by decide +kernel
theorem inX2_letterAt_2 : ∀ w ∈ u_ws RX2 TX2 5, w ∈ wsX2_letterAt := by decide +kernel
def fX2_letterAt (li : Li) (x1 : Int32) : Option Int32 :=
  (fX5_within x1 (0 : Int32) ((Li_many li) - (1 : Int32))).bind fun v1 =>
  ((if v1 = (0 : Int32) then
  some (-1 : Int32)
  else (rdI (Li_places li) 16 x1).bind fun v4 =>
  some v4)).bind fun v2 =>
  some v2
set_option maxHeartbeats 4000000 in
set_option maxRecDepth 100000 in
theorem kX2_letterAt (l : Launch) (E : xG) (g : Nat → Nat) (h : Nat → Nat) (q : Nat → Nat) (f : Nat → Nat) (li : Li) (x1 : Int32) {r : Int32} (hf : fX2_letterAt li x1 = some r) : xPure l yX2_letterAt wsX2_letterAt rmX2_letterAt E [.ref (g 0), .int x1] (wN E g h q f li) (.int r) := by
  refine Met.ofW (cc := cX2_letterAt) (maxL := 2) (ret := (some .int)) (by decide) rfl ?_
  intro p e s m args below meth c s₁ B hml hv
  obtain ⟨rfl, hP, hK⟩ := hv
  have hx := B.exec
  have hb := B.bytes
  have hr := B.returns
  have hts := atoms_spec (ws := wsX2_letterAt) B.pre
  have hown : s.vm.findClass RX2 = some m.cls := findClass_of_methodNamed B.named
  have hlk := B.notSynchronized
  have S : CallFix p m c cX2_letterAt 2 s _ wsX2_letterAt RX2 := ⟨hx, hb, hml, hown, hts⟩
  have hl := lv_entry ([.ref (g 0), .int x1]) (n := 2) (Nat.le_of_ble_eq_true rfl)
  rw [lg_entry_eq]
  generalize (lg_sl ([.ref (g 0), .int x1]) ++ List.replicate (2 - (lg_sl ([.ref (g 0), .int x1])).length) Slot.unset).toArray = ls at hl ⊢
  have hl : lv_has ls 2 [(0, .ref (g 0)), (1, .int x1)] := hl
  unfold fX2_letterAt at hf
  refine lv_iload_n hx hb dX2_letterAt_0 rfl (lv_at hl 1 rfl) ?_
  refine lv_iconst (v := 0) hx hb dX2_letterAt_1 (by decide) ?_
  refine lv_aload_n hx hb dX2_letterAt_2 rfl (lv_at hl 0 rfl) ?_
  refine x_get hx hb hts inX2_letterAt_2 hown hK hP 0 rfl rfl 0 (by decide) mX2_letterAt_0 rfl dX2_letterAt_3 ?_
  refine lv_iconst (v := 1) hx hb dX2_letterAt_6 (by decide) ?_
  refine lv_isub hx hb dX2_letterAt_7 ?_
  obtain ⟨v1, h1, hf⟩ := ob hf
  refine x_pN (As := [.int x1, .int (0 : Int32), .int ((Li_many li) - (1 : Int32))]) (rest := []) S hK (kX5_within l E x1 (0 : Int32) ((Li_many li) - (1 : Int32)) h1) ⟨va_cnB 3 hts gX2_letterAt_X5_within_n34 rfl rfl rfl hK.2.2.2.2.1 (hts _ mX2_letterAt_1) (by decide +kernel) ⟨Nat.le_of_ble_eq_true rfl, Nat.le_of_ble_eq_true rfl⟩, hts _ mX2_letterAt_2, trivial⟩ x_nil rfl hl.1 (Nat.le_of_ble_eq_true rfl) dX2_letterAt_8 rfl ⟨Nat.zero_le _, Nat.zero_le _⟩ ?_
  obtain ⟨v2, h2, hf⟩ := ob hf
  refine x_cutL (fun ls => lv_has ls 2 [(0, .ref (g 0)), (1, .int x1)]) (pc := 24) (st := [.int v2]) (fun ls hl => ?_) (fun hj => ?_)
  · obtain rfl := Option.some.inj hf
    exact x_iret hx hb hr hlk (vp_nar_int _) dX2_letterAt_24
  · have hf := h2
    refine lv_if_eq (tgt := 23) hx hb dX2_letterAt_11 (by decide) (fun c3 => ?_) (fun c3 => ?_)
    · have hf := (if_pos c3).symm.trans hf
      refine lv_iconst (v := (-1)) hx hb dX2_letterAt_23 (by decide) ?_
      obtain rfl := Option.some.inj hf
      exact hj ls (lv_sub hl [0, 1] rfl)
    · have hf := (if_neg c3).symm.trans hf
      refine lv_aload_n hx hb dX2_letterAt_14 rfl (lv_at hl 0 rfl) ?_
      refine x_get hx hb hts inX2_letterAt_2 hown hK hP 0 rfl rfl 1 (by decide) mX2_letterAt_3 rfl dX2_letterAt_15 ?_
      refine lv_iload_n hx hb dX2_letterAt_18 rfl (lv_at hl 1 rfl) ?_
      obtain ⟨v4, h4, hf⟩ := ob hf
      refine x_iald hx hb hK hP 1 rfl h4 dX2_letterAt_19 ?_
      refine lv_goto (tgt := 24) hx hb dX2_letterAt_20 (by decide) ?_
      obtain rfl := Option.some.inj hf
      exact hj ls (lv_sub hl [0, 1] rfl)
abbrev rmX2_wideAbove : Room := { frames := 2, cells := 0, slots := 0, locals := 44 }
theorem mX2_wideAbove_0 : Cond.fieldLink RX2 30 "EvenWhite$Line" "many" "I" ∈ wsX2_wideAbove := by decide +kernel
theorem mX2_wideAbove_1 : Cond.fieldLink RX2 15 "EvenWhite$Line" "fount" "LEvenWhite$Fount;" ∈ wsX2_wideAbove := by decide +kernel
theorem mX2_wideAbove_2 : Cond.fieldLink RX2 38 "EvenWhite$Fount" "bodies" "[I" ∈ wsX2_wideAbove := by decide +kernel
theorem mX2_wideAbove_3 : Cond.fieldLink RX2 9 "EvenWhite$Line" "places" "[I" ∈ wsX2_wideAbove := by decide +kernel
theorem mX2_wideAbove_4 : Cond.fieldLink RX2 19 "EvenWhite$Line" "even" "LEvenWhite$Even;" ∈ wsX2_wideAbove := by decide +kernel
theorem inX2_wideAbove_1 : ∀ w ∈ u_ws RX1 TX1 6, w ∈ wsX2_wideAbove := by decide +kernel
theorem inX2_wideAbove_2 : ∀ w ∈ u_ws RX2 TX2 5, w ∈ wsX2_wideAbove := by decide +kernel
def gX2_wideAbove_4 (li : Li) (te : Te) (ev : Ev) (z : Fo) (rec : (Int64 × Int32) → Option (Int64 × Int32)) (u : Int64 × Int32) : Option (Int64 × Int32) :=
  (if (Li_many li) ≤ u.2 then
  some (u.1, u.2)
  else (rdI (Li_places li) 16 u.2).bind fun v2 =>
  (rdI (Fo_bodies z) 3 v2).bind fun v3 =>
  (fX0_spaceBelow ev z).bind fun v4 =>
  ((if u.2 ≤ (0 : Int32) then
  some (0 : Int64)
  else (rdI (Li_places li) 16 u.2).bind fun v7 =>
  (fX0_spaceAbove ev z v7 (0 : Int32)).bind fun v8 =>
  some v8)).bind fun v5 =>
  ((if ((Li_many li) - (1 : Int32)) ≤ u.2 then
  some (0 : Int64)
  else (rdI (Li_places li) 16 u.2).bind fun v11 =>
  (fX0_spaceAbove ev z v11 (1 : Int32)).bind fun v12 =>
  some v12)).bind fun v9 =>
  rec ((((u.1 + ((Int32.toInt64 v3) * v4)) + v5) + v9), (u.2 + (1 : Int32))))
set_option maxHeartbeats 4000000 in
set_option maxRecDepth 100000 in
theorem wX2_wideAbove_4 {p : Program} {l : Launch} {e : Env} {s : State} {m : MethodId} {args : Array Value} {below : List Frame} {meth : Method} {c : Code} {Q : State → Prop} (S : CallFix p m c cX2_wideAbove 4 s args wsX2_wideAbove RX2) (E : xG) (hK : xK E s) (g : Nat → Nat) (h : Nat → Nat) (q : Nat → Nat) (f : Nat → Nat) (li : Li) (te : Te) (ev : Ev) (z : Fo) (hP : va_P (xD E) vwCl (wL E g h q f li te ev z) s.heap) : ∀ (n : Nat) (u : Int64 × Int32) (r : Int64 × Int32), lp (gX2_wideAbove_4 li te ev z) n u = some r → ∀ (ls : Array Slot), lv_has ls 4 [(0, .ref (g 0)), (1, .long u.1), (3, .int u.2)] → (∀ (ls : Array Slot), lv_has ls 4 [(0, .ref (g 0)), (1, .long r.1), (3, .int r.2)] → W p l e rmX2_wideAbove s m args below meth c s.heap [] 0 0 Q (F0 m 100 ls [])) → W p l e rmX2_wideAbove s m args below meth c s.heap [] 0 0 Q (F0 m 4 ls []) := by
  obtain ⟨hx, hb, hml, hown, hts⟩ := id S
  intro n
  induction n with
  | zero =>
    intro u r hf
    exact absurd (show (none : Option _) = some r from hf) (fun q => by cases q)
  | succ n ih =>
    intro u r hf ls hl kx
    have hf : gX2_wideAbove_4 li te ev z (lp (gX2_wideAbove_4 li te ev z) n) u = some r := hf
    unfold gX2_wideAbove_4 at hf
    refine lv_iload_n hx hb dX2_wideAbove_4 rfl (lv_at hl 2 rfl) ?_
    refine lv_aload_n hx hb dX2_wideAbove_5 rfl (lv_at hl 0 rfl) ?_
    refine x_get hx hb hts inX2_wideAbove_2 hown hK hP 0 rfl rfl 0 (by decide) mX2_wideAbove_0 rfl dX2_wideAbove_6 ?_
    refine lv_icmp_ge (tgt := 100) hx hb dX2_wideAbove_9 (by decide) (fun c1 => ?_) (fun c1 => ?_)
    · have hf := (if_pos c1).symm.trans hf
      obtain rfl := Option.some.inj hf
      exact kx ls (lv_sub hl [0, 1, 2] rfl)
    · have hf := (if_neg c1).symm.trans hf
      refine lv_lload_n hx hb dX2_wideAbove_12 rfl (lv_at hl 1 rfl) ?_
      refine lv_aload_n hx hb dX2_wideAbove_13 rfl (lv_at hl 0 rfl) ?_
      refine x_get hx hb hts inX2_wideAbove_2 hown hK hP 0 rfl rfl 2 (by decide) mX2_wideAbove_1 rfl dX2_wideAbove_14 ?_
      refine x_get hx hb hts inX2_wideAbove_1 hown hK hP 16 rfl rfl 3 (by decide) mX2_wideAbove_2 rfl dX2_wideAbove_17 ?_
      refine lv_aload_n hx hb dX2_wideAbove_20 rfl (lv_at hl 0 rfl) ?_
      refine x_get hx hb hts inX2_wideAbove_2 hown hK hP 0 rfl rfl 1 (by decide) mX2_wideAbove_3 rfl dX2_wideAbove_21 ?_
      refine lv_iload_n hx hb dX2_wideAbove_24 rfl (lv_at hl 2 rfl) ?_
      obtain ⟨v2, h2, hf⟩ := ob hf
      refine x_iald hx hb hK hP 1 rfl h2 dX2_wideAbove_25 ?_
      obtain ⟨v3, h3, hf⟩ := ob hf
      refine x_iald hx hb hK hP 17 rfl h3 dX2_wideAbove_26 ?_
      refine lv_i2l (v := (Int32.toInt64 v3)) hx hb dX2_wideAbove_27 rfl ?_
      refine lv_aload_n hx hb dX2_wideAbove_28 rfl (lv_at hl 0 rfl) ?_
      refine x_get hx hb hts inX2_wideAbove_2 hown hK hP 0 rfl rfl 3 (by decide) mX2_wideAbove_4 rfl dX2_wideAbove_29 ?_
      obtain ⟨v4, h4, hf⟩ := ob hf
      refine x_pV (As := []) (rest := [.long (Int32.toInt64 v3), .long u.1]) S hK (kX0_spaceBelow l E q f ev z h4) (cwV 0 hts gX2_wideAbove_X0_spaceBelow rfl rfl rfl (by decide +kernel) ⟨Nat.le_of_ble_eq_true rfl, Nat.le_of_ble_eq_true rfl⟩) (hP.sub [4, 5, 6, 7, 8, 9, 10, 11, 12, 13, 14, 15, 16, 17, 18, 19] rfl) 0 rfl rfl rfl rfl hl.1 (Nat.le_of_ble_eq_true rfl) dX2_wideAbove_32 rfl ⟨Nat.zero_le _, Nat.zero_le _⟩ ?_
      refine lv_lmul hx hb dX2_wideAbove_35 ?_
      refine lv_ladd hx hb dX2_wideAbove_36 ?_
      refine lv_lstore_n (lv' := [(1, .long (u.1 + ((Int32.toInt64 v3) * v4))), (0, .ref (g 0)), (3, .int u.2)]) hx hb dX2_wideAbove_37 rfl hl (by decide) rfl (fun ls hl => ?_)
      refine lv_lload_n hx hb dX2_wideAbove_38 rfl (lv_at hl 0 rfl) ?_
      refine lv_iload_n hx hb dX2_wideAbove_39 rfl (lv_at hl 2 rfl) ?_
      obtain ⟨v5, h5, hf⟩ := ob hf
      refine x_cutL (fun ls => lv_has ls 4 [(0, .ref (g 0)), (1, .long (u.1 + ((Int32.toInt64 v3) * v4))), (3, .int u.2)]) (pc := 61) (st := [.long v5, .long (u.1 + ((Int32.toInt64 v3) * v4))]) (fun ls hl => ?_) (fun hj => ?_)
      · refine lv_ladd hx hb dX2_wideAbove_61 ?_
        refine lv_lstore_n (lv' := [(1, .long ((u.1 + ((Int32.toInt64 v3) * v4)) + v5)), (0, .ref (g 0)), (3, .int u.2)]) hx hb dX2_wideAbove_62 rfl hl (by decide) rfl (fun ls hl => ?_)
        refine lv_lload_n hx hb dX2_wideAbove_63 rfl (lv_at hl 0 rfl) ?_
        refine lv_iload_n hx hb dX2_wideAbove_64 rfl (lv_at hl 2 rfl) ?_
        refine lv_aload_n hx hb dX2_wideAbove_65 rfl (lv_at hl 1 rfl) ?_
        refine x_get hx hb hts inX2_wideAbove_2 hown hK hP 0 rfl rfl 0 (by decide) mX2_wideAbove_0 rfl dX2_wideAbove_66 ?_
        refine lv_iconst (v := 1) hx hb dX2_wideAbove_69 (by decide) ?_
        refine lv_isub hx hb dX2_wideAbove_70 ?_
        obtain ⟨v9, h9, hf⟩ := ob hf
        refine x_cutL (fun ls => lv_has ls 4 [(0, .ref (g 0)), (1, .long ((u.1 + ((Int32.toInt64 v3) * v4)) + v5)), (3, .int u.2)]) (pc := 92) (st := [.long v9, .long ((u.1 + ((Int32.toInt64 v3) * v4)) + v5)]) (fun ls hl => ?_) (fun hj => ?_)
        · refine lv_ladd hx hb dX2_wideAbove_92 ?_
          refine lv_lstore_n (lv' := [(1, .long (((u.1 + ((Int32.toInt64 v3) * v4)) + v5) + v9)), (0, .ref (g 0)), (3, .int u.2)]) hx hb dX2_wideAbove_93 rfl hl (by decide) rfl (fun ls hl => ?_)
          refine lv_iinc (v := (u.2 + (1 : Int32))) (lv' := [(3, .int (u.2 + (1 : Int32))), (1, .long (((u.1 + ((Int32.toInt64 v3) * v4)) + v5) + v9)), (0, .ref (g 0))]) hx hb dX2_wideAbove_94 hl (k := 2) rfl rfl (by decide) rfl (fun ls hl => ?_)
          refine lv_goto (tgt := 4) hx hb dX2_wideAbove_97 (by decide) ?_
          exact ih ((((u.1 + ((Int32.toInt64 v3) * v4)) + v5) + v9), (u.2 + (1 : Int32))) _ hf ls (lv_sub hl [2, 1, 0] rfl) kx
        · have hf := h9
          refine lv_icmp_ge (tgt := 91) hx hb dX2_wideAbove_71 (by decide) (fun c10 => ?_) (fun c10 => ?_)
          · have hf := (if_pos c10).symm.trans hf
            refine lv_lconst (v := 0) hx hb dX2_wideAbove_91 (by decide) ?_
            obtain rfl := Option.some.inj hf
            exact hj ls (lv_sub hl [1, 0, 2] rfl)
          · have hf := (if_neg c10).symm.trans hf
            refine lv_aload_n hx hb dX2_wideAbove_74 rfl (lv_at hl 1 rfl) ?_
            refine x_get hx hb hts inX2_wideAbove_2 hown hK hP 0 rfl rfl 3 (by decide) mX2_wideAbove_4 rfl dX2_wideAbove_75 ?_
            refine lv_aload_n hx hb dX2_wideAbove_78 rfl (lv_at hl 1 rfl) ?_
            refine x_get hx hb hts inX2_wideAbove_2 hown hK hP 0 rfl rfl 1 (by decide) mX2_wideAbove_3 rfl dX2_wideAbove_79 ?_
            refine lv_iload_n hx hb dX2_wideAbove_82 rfl (lv_at hl 2 rfl) ?_
            obtain ⟨v11, h11, hf⟩ := ob hf
            refine x_iald hx hb hK hP 1 rfl h11 dX2_wideAbove_83 ?_
            refine lv_iconst (v := 1) hx hb dX2_wideAbove_84 (by decide) ?_
            obtain ⟨v12, h12, hf⟩ := ob hf
            refine x_pV (As := [.int v11, .int (1 : Int32)]) (rest := [.long ((u.1 + ((Int32.toInt64 v3) * v4)) + v5)]) S hK (kX0_spaceAbove l E q f ev z v11 (1 : Int32) h12) (cwV 2 hts gX2_wideAbove_X0_spaceAbove rfl rfl rfl (by decide +kernel) ⟨Nat.le_of_ble_eq_true rfl, Nat.le_of_ble_eq_true rfl⟩) (hP.sub [4, 5, 6, 7, 8, 9, 10, 11, 12, 13, 14, 15, 16, 17, 18, 19] rfl) 0 rfl rfl rfl rfl hl.1 (Nat.le_of_ble_eq_true rfl) dX2_wideAbove_85 rfl ⟨Nat.zero_le _, Nat.zero_le _⟩ ?_
            refine lv_goto (tgt := 92) hx hb dX2_wideAbove_88 (by decide) ?_
            obtain rfl := Option.some.inj hf
            exact hj ls (lv_sub hl [1, 0, 2] rfl)
      · have hf := h5
        refine lv_if_le (tgt := 60) hx hb dX2_wideAbove_40 (by decide) (fun c6 => ?_) (fun c6 => ?_)
        · have hf := (if_pos c6).symm.trans hf
          refine lv_lconst (v := 0) hx hb dX2_wideAbove_60 (by decide) ?_
          obtain rfl := Option.some.inj hf
          exact hj ls (lv_sub hl [1, 0, 2] rfl)
        · have hf := (if_neg c6).symm.trans hf
          refine lv_aload_n hx hb dX2_wideAbove_43 rfl (lv_at hl 1 rfl) ?_
          refine x_get hx hb hts inX2_wideAbove_2 hown hK hP 0 rfl rfl 3 (by decide) mX2_wideAbove_4 rfl dX2_wideAbove_44 ?_
          refine lv_aload_n hx hb dX2_wideAbove_47 rfl (lv_at hl 1 rfl) ?_
          refine x_get hx hb hts inX2_wideAbove_2 hown hK hP 0 rfl rfl 1 (by decide) mX2_wideAbove_3 rfl dX2_wideAbove_48 ?_
          refine lv_iload_n hx hb dX2_wideAbove_51 rfl (lv_at hl 2 rfl) ?_
          obtain ⟨v7, h7, hf⟩ := ob hf
          refine x_iald hx hb hK hP 1 rfl h7 dX2_wideAbove_52 ?_
          refine lv_iconst (v := 0) hx hb dX2_wideAbove_53 (by decide) ?_
          obtain ⟨v8, h8, hf⟩ := ob hf
          refine x_pV (As := [.int v7, .int (0 : Int32)]) (rest := [.long (u.1 + ((Int32.toInt64 v3) * v4))]) S hK (kX0_spaceAbove l E q f ev z v7 (0 : Int32) h8) (cwV 2 hts gX2_wideAbove_X0_spaceAbove rfl rfl rfl (by decide +kernel) ⟨Nat.le_of_ble_eq_true rfl, Nat.le_of_ble_eq_true rfl⟩) (hP.sub [4, 5, 6, 7, 8, 9, 10, 11, 12, 13, 14, 15, 16, 17, 18, 19] rfl) 0 rfl rfl rfl rfl hl.1 (Nat.le_of_ble_eq_true rfl) dX2_wideAbove_54 rfl ⟨Nat.zero_le _, Nat.zero_le _⟩ ?_
          refine lv_goto (tgt := 61) hx hb dX2_wideAbove_57 (by decide) ?_
          obtain rfl := Option.some.inj hf
          exact hj ls (lv_sub hl [1, 0, 2] rfl)
def fX2_wideAbove (li : Li) (te : Te) (ev : Ev) (z : Fo) : Option Int64 :=
  (lp (gX2_wideAbove_4 li te ev z) 1000 ((0 : Int64), (0 : Int32))).bind fun v1 =>
  some v1.1
set_option maxHeartbeats 4000000 in
set_option maxRecDepth 100000 in
theorem kX2_wideAbove (l : Launch) (E : xG) (g : Nat → Nat) (h : Nat → Nat) (q : Nat → Nat) (f : Nat → Nat) (li : Li) (te : Te) (ev : Ev) (z : Fo) {r : Int64} (hf : fX2_wideAbove li te ev z = some r) : xPure l yX2_wideAbove wsX2_wideAbove rmX2_wideAbove E [.ref (g 0)] (wL E g h q f li te ev z) (.long r) := by
  refine Met.ofW (cc := cX2_wideAbove) (maxL := 4) (ret := (some .long)) (by decide) rfl ?_
  intro p e s m args below meth c s₁ B hml hv
  obtain ⟨rfl, hP, hK⟩ := hv
  have hx := B.exec
  have hb := B.bytes
  have hr := B.returns
  have hts := atoms_spec (ws := wsX2_wideAbove) B.pre
  have hown : s.vm.findClass RX2 = some m.cls := findClass_of_methodNamed B.named
  have hlk := B.notSynchronized
  have S : CallFix p m c cX2_wideAbove 4 s _ wsX2_wideAbove RX2 := ⟨hx, hb, hml, hown, hts⟩
  have hl := lv_entry ([.ref (g 0)]) (n := 4) (Nat.le_of_ble_eq_true rfl)
  rw [lg_entry_eq]
  generalize (lg_sl ([.ref (g 0)]) ++ List.replicate (4 - (lg_sl ([.ref (g 0)])).length) Slot.unset).toArray = ls at hl ⊢
  have hl : lv_has ls 4 [(0, .ref (g 0))] := hl
  unfold fX2_wideAbove at hf
  refine lv_lconst (v := 0) hx hb dX2_wideAbove_0 (by decide) ?_
  refine lv_lstore_n (lv' := [(1, .long (0 : Int64)), (0, .ref (g 0))]) hx hb dX2_wideAbove_1 rfl hl (by decide) rfl (fun ls hl => ?_)
  refine lv_iconst (v := 0) hx hb dX2_wideAbove_2 (by decide) ?_
  refine lv_istore_n (lv' := [(3, .int (0 : Int32)), (1, .long (0 : Int64)), (0, .ref (g 0))]) hx hb dX2_wideAbove_3 rfl hl (by decide) rfl (fun ls hl => ?_)
  obtain ⟨v1, h1, hf⟩ := ob hf
  refine wX2_wideAbove_4 S E hK g h q f li te ev z hP 1000 _ _ h1 ls (lv_sub hl [2, 1, 0] rfl) (fun ls hl => ?_)
  refine lv_lload_n hx hb dX2_wideAbove_100 rfl (lv_at hl 1 rfl) ?_
  obtain rfl := Option.some.inj hf
  exact x_lret hx hb hr hlk dX2_wideAbove_101
abbrev rmX2_thin : Room := { frames := 3, cells := 0, slots := 0, locals := 71 }
theorem mX2_thin_0 : Cond.fieldLink RX2 30 "EvenWhite$Line" "many" "I" ∈ wsX2_thin := by decide +kernel
theorem mX2_thin_1 : Cond.fieldLink RX2 19 "EvenWhite$Line" "even" "LEvenWhite$Even;" ∈ wsX2_thin := by decide +kernel
theorem mX2_thin_2 : Cond.fieldLink RX2 9 "EvenWhite$Line" "places" "[I" ∈ wsX2_thin := by decide +kernel
theorem inX2_thin_2 : ∀ w ∈ u_ws RX2 TX2 5, w ∈ wsX2_thin := by decide +kernel
def gX2_thin_7 (li : Li) (te : Te) (ev : Ev) (z : Fo) (rec : (Int32 × Int64 × Int32) → Option (Int32 × Int64 × Int32)) (u : Int32 × Int64 × Int32) : Option (Int32 × Int64 × Int32) :=
  (if ((Li_many li) - (1 : Int32)) ≤ u.2.2 then
  some (u.1, u.2.1, u.2.2)
  else (rdI (Li_places li) 16 u.2.2).bind fun v2 =>
  (rdI (Li_places li) 16 (u.2.2 + (1 : Int32))).bind fun v3 =>
  (fX0_whiteAbove ev z v2 v3).bind fun v4 =>
  ((if u.1 = (-1 : Int32) then
  some (u.2.2, v4)
  else (if u.2.1 ≤ v4 then
  some (u.1, u.2.1)
  else some (u.2.2, v4)))).bind fun v5 =>
  rec (v5.1, v5.2, (u.2.2 + (1 : Int32))))
set_option maxHeartbeats 4000000 in
set_option maxRecDepth 100000 in
theorem wX2_thin_7 {p : Program} {l : Launch} {e : Env} {s : State} {m : MethodId} {args : Array Value} {below : List Frame} {meth : Method} {c : Code} {Q : State → Prop} (S : CallFix p m c cX2_thin 7 s args wsX2_thin RX2) (E : xG) (hK : xK E s) (g : Nat → Nat) (h : Nat → Nat) (q : Nat → Nat) (f : Nat → Nat) (li : Li) (te : Te) (ev : Ev) (z : Fo) (hP : va_P (xD E) vwCl (wL E g h q f li te ev z) s.heap) : ∀ (n : Nat) (u : Int32 × Int64 × Int32) (r : Int32 × Int64 × Int32), lp (gX2_thin_7 li te ev z) n u = some r → ∀ (ls : Array Slot), lv_has ls 7 [(0, .ref (g 0)), (1, .int u.1), (2, .long u.2.1), (4, .int u.2.2)] → (∀ (ls : Array Slot), lv_has ls 7 [(0, .ref (g 0)), (1, .int r.1), (2, .long r.2.1), (4, .int r.2.2)] → W p l e rmX2_thin s m args below meth c s.heap [] 0 0 Q (F0 m 67 ls [])) → W p l e rmX2_thin s m args below meth c s.heap [] 0 0 Q (F0 m 7 ls []) := by
  obtain ⟨hx, hb, hml, hown, hts⟩ := id S
  intro n
  induction n with
  | zero =>
    intro u r hf
    exact absurd (show (none : Option _) = some r from hf) (fun q => by cases q)
  | succ n ih =>
    intro u r hf ls hl kx
    have hf : gX2_thin_7 li te ev z (lp (gX2_thin_7 li te ev z) n) u = some r := hf
    unfold gX2_thin_7 at hf
    refine lv_iload hx hb dX2_thin_7 (lv_at hl 3 rfl) ?_
    refine lv_aload_n hx hb dX2_thin_9 rfl (lv_at hl 0 rfl) ?_
    refine x_get hx hb hts inX2_thin_2 hown hK hP 0 rfl rfl 0 (by decide) mX2_thin_0 rfl dX2_thin_10 ?_
    refine lv_iconst (v := 1) hx hb dX2_thin_13 (by decide) ?_
    refine lv_isub hx hb dX2_thin_14 ?_
    refine lv_icmp_ge (tgt := 67) hx hb dX2_thin_15 (by decide) (fun c1 => ?_) (fun c1 => ?_)
    · have hf := (if_pos c1).symm.trans hf
      obtain rfl := Option.some.inj hf
      exact kx ls (lv_sub hl [0, 1, 2, 3] rfl)
    · have hf := (if_neg c1).symm.trans hf
      refine lv_aload_n hx hb dX2_thin_18 rfl (lv_at hl 0 rfl) ?_
      refine x_get hx hb hts inX2_thin_2 hown hK hP 0 rfl rfl 3 (by decide) mX2_thin_1 rfl dX2_thin_19 ?_
      refine lv_aload_n hx hb dX2_thin_22 rfl (lv_at hl 0 rfl) ?_
      refine x_get hx hb hts inX2_thin_2 hown hK hP 0 rfl rfl 1 (by decide) mX2_thin_2 rfl dX2_thin_23 ?_
      refine lv_iload hx hb dX2_thin_26 (lv_at hl 3 rfl) ?_
      obtain ⟨v2, h2, hf⟩ := ob hf
      refine x_iald hx hb hK hP 1 rfl h2 dX2_thin_28 ?_
      refine lv_aload_n hx hb dX2_thin_29 rfl (lv_at hl 0 rfl) ?_
      refine x_get hx hb hts inX2_thin_2 hown hK hP 0 rfl rfl 1 (by decide) mX2_thin_2 rfl dX2_thin_30 ?_
      refine lv_iload hx hb dX2_thin_33 (lv_at hl 3 rfl) ?_
      refine lv_iconst (v := 1) hx hb dX2_thin_35 (by decide) ?_
      refine lv_iadd hx hb dX2_thin_36 ?_
      obtain ⟨v3, h3, hf⟩ := ob hf
      refine x_iald hx hb hK hP 1 rfl h3 dX2_thin_37 ?_
      obtain ⟨v4, h4, hf⟩ := ob hf
      refine x_pV (As := [.int v2, .int v3]) (rest := []) S hK (kX0_whiteAbove l E q f ev z v2 v3 h4) (cwV 2 hts gX2_thin_X0_whiteAbove rfl rfl rfl (by decide +kernel) ⟨Nat.le_of_ble_eq_true rfl, Nat.le_of_ble_eq_true rfl⟩) (hP.sub [4, 5, 6, 7, 8, 9, 10, 11, 12, 13, 14, 15, 16, 17, 18, 19] rfl) 0 rfl rfl rfl rfl hl.1 (Nat.le_of_ble_eq_true rfl) dX2_thin_38 rfl ⟨Nat.zero_le _, Nat.zero_le _⟩ ?_
      refine lv_lstore (lv' := [(5, .long v4), (0, .ref (g 0)), (1, .int u.1), (2, .long u.2.1), (4, .int u.2.2)]) hx hb dX2_thin_41 hl (by decide) rfl (fun ls hl => ?_)
      refine lv_iload_n hx hb dX2_thin_43 rfl (lv_at hl 2 rfl) ?_
      refine lv_iconst (v := (-1)) hx hb dX2_thin_44 (by decide) ?_
      obtain ⟨v5, h5, hf⟩ := ob hf
      refine x_cutL (fun ls => lv_has ls 7 [(0, .ref (g 0)), (1, .int v5.1), (2, .long v5.2), (4, .int u.2.2), (5, .long v4)]) (pc := 61) (st := []) (fun ls hl => ?_) (fun hj => ?_)
      · refine lv_iinc (v := (u.2.2 + (1 : Int32))) (lv' := [(4, .int (u.2.2 + (1 : Int32))), (0, .ref (g 0)), (1, .int v5.1), (2, .long v5.2), (5, .long v4)]) hx hb dX2_thin_61 hl (k := 3) rfl rfl (by decide) rfl (fun ls hl => ?_)
        refine lv_goto (tgt := 7) hx hb dX2_thin_64 (by decide) ?_
        exact ih (v5.1, v5.2, (u.2.2 + (1 : Int32))) _ hf ls (lv_sub hl [1, 2, 3, 0] rfl) kx
      · have hf := h5
        refine lv_icmp_eq (tgt := 55) hx hb dX2_thin_45 (by decide) (fun c6 => ?_) (fun c6 => ?_)
        · have hf := (if_pos c6).symm.trans hf
          refine lv_iload hx hb dX2_thin_55 (lv_at hl 4 rfl) ?_
          refine lv_istore_n (lv' := [(1, .int u.2.2), (5, .long v4), (0, .ref (g 0)), (2, .long u.2.1), (4, .int u.2.2)]) hx hb dX2_thin_57 rfl hl (by decide) rfl (fun ls hl => ?_)
          refine lv_lload hx hb dX2_thin_58 (lv_at hl 1 rfl) ?_
          refine lv_lstore_n (lv' := [(2, .long v4), (1, .int u.2.2), (5, .long v4), (0, .ref (g 0)), (4, .int u.2.2)]) hx hb dX2_thin_60 rfl hl (by decide) rfl (fun ls hl => ?_)
          obtain rfl := Option.some.inj hf
          exact hj ls (lv_sub hl [3, 1, 0, 4, 2] rfl)
        · have hf := (if_neg c6).symm.trans hf
          refine lv_lload hx hb dX2_thin_48 (lv_at hl 0 rfl) ?_
          refine lv_lload_n hx hb dX2_thin_50 rfl (lv_at hl 3 rfl) ?_
          refine x_lif_ge (tgt := 61) hx hb dX2_thin_51 dX2_thin_52 (by decide) (fun c7 => ?_) (fun c7 => ?_)
          · have hf := (if_pos c7).symm.trans hf
            obtain rfl := Option.some.inj hf
            exact hj ls (lv_sub hl [1, 2, 3, 4, 0] rfl)
          · have hf := (if_neg c7).symm.trans hf
            refine lv_iload hx hb dX2_thin_55 (lv_at hl 4 rfl) ?_
            refine lv_istore_n (lv' := [(1, .int u.2.2), (5, .long v4), (0, .ref (g 0)), (2, .long u.2.1), (4, .int u.2.2)]) hx hb dX2_thin_57 rfl hl (by decide) rfl (fun ls hl => ?_)
            refine lv_lload hx hb dX2_thin_58 (lv_at hl 1 rfl) ?_
            refine lv_lstore_n (lv' := [(2, .long v4), (1, .int u.2.2), (5, .long v4), (0, .ref (g 0)), (4, .int u.2.2)]) hx hb dX2_thin_60 rfl hl (by decide) rfl (fun ls hl => ?_)
            obtain rfl := Option.some.inj hf
            exact hj ls (lv_sub hl [3, 1, 0, 4, 2] rfl)
def fX2_thin (li : Li) (te : Te) (ev : Ev) (z : Fo) : Option Int32 :=
  (lp (gX2_thin_7 li te ev z) 1000 ((-1 : Int32), (0 : Int64), (0 : Int32))).bind fun v1 =>
  some v1.1
set_option maxHeartbeats 4000000 in
set_option maxRecDepth 100000 in
theorem kX2_thin (l : Launch) (E : xG) (g : Nat → Nat) (h : Nat → Nat) (q : Nat → Nat) (f : Nat → Nat) (li : Li) (te : Te) (ev : Ev) (z : Fo) {r : Int32} (hf : fX2_thin li te ev z = some r) : xPure l yX2_thin wsX2_thin rmX2_thin E [.ref (g 0)] (wL E g h q f li te ev z) (.int r) := by
  refine Met.ofW (cc := cX2_thin) (maxL := 7) (ret := (some .int)) (by decide) rfl ?_
  intro p e s m args below meth c s₁ B hml hv
  obtain ⟨rfl, hP, hK⟩ := hv
  have hx := B.exec
  have hb := B.bytes
  have hr := B.returns
  have hts := atoms_spec (ws := wsX2_thin) B.pre
  have hown : s.vm.findClass RX2 = some m.cls := findClass_of_methodNamed B.named
  have hlk := B.notSynchronized
  have S : CallFix p m c cX2_thin 7 s _ wsX2_thin RX2 := ⟨hx, hb, hml, hown, hts⟩
  have hl := lv_entry ([.ref (g 0)]) (n := 7) (Nat.le_of_ble_eq_true rfl)
  rw [lg_entry_eq]
  generalize (lg_sl ([.ref (g 0)]) ++ List.replicate (7 - (lg_sl ([.ref (g 0)])).length) Slot.unset).toArray = ls at hl ⊢
  have hl : lv_has ls 7 [(0, .ref (g 0))] := hl
  unfold fX2_thin at hf
  refine lv_iconst (v := (-1)) hx hb dX2_thin_0 (by decide) ?_
  refine lv_istore_n (lv' := [(1, .int (-1 : Int32)), (0, .ref (g 0))]) hx hb dX2_thin_1 rfl hl (by decide) rfl (fun ls hl => ?_)
  refine lv_lconst (v := 0) hx hb dX2_thin_2 (by decide) ?_
  refine lv_lstore_n (lv' := [(2, .long (0 : Int64)), (1, .int (-1 : Int32)), (0, .ref (g 0))]) hx hb dX2_thin_3 rfl hl (by decide) rfl (fun ls hl => ?_)
  refine lv_iconst (v := 0) hx hb dX2_thin_4 (by decide) ?_
  refine lv_istore (lv' := [(4, .int (0 : Int32)), (2, .long (0 : Int64)), (1, .int (-1 : Int32)), (0, .ref (g 0))]) hx hb dX2_thin_5 hl (by decide) rfl (fun ls hl => ?_)
  obtain ⟨v1, h1, hf⟩ := ob hf
  refine wX2_thin_7 S E hK g h q f li te ev z hP 1000 _ _ h1 ls (lv_sub hl [3, 2, 1, 0] rfl) (fun ls hl => ?_)
  refine lv_iload_n hx hb dX2_thin_67 rfl (lv_at hl 1 rfl) ?_
  obtain rfl := Option.some.inj hf
  exact x_iret hx hb hr hlk (vp_nar_int _) dX2_thin_68
abbrev rmX2_signBetween : Room := { frames := 4, cells := 0, slots := 0, locals := 93 }
theorem mX2_signBetween_0 : Cond.fieldLink RX2 19 "EvenWhite$Line" "even" "LEvenWhite$Even;" ∈ wsX2_signBetween := by decide +kernel
theorem inX2_signBetween_2 : ∀ w ∈ u_ws RX2 TX2 5, w ∈ wsX2_signBetween := by decide +kernel
def fX2_signBetween (li : Li) (te : Te) (ev : Ev) (z : Fo) (x1 : Int32) (x2 : Int32) : Option Int32 :=
  (fX0_leftOverAbove ev z x1 x2).bind fun v1 =>
  (if v1 = (0 : Int64) then
  some (61 : Int32)
  else some (if v1 ≤ (0 : Int64) then (45 : Int32) else (43 : Int32)))
set_option maxHeartbeats 4000000 in
set_option maxRecDepth 100000 in
theorem kX2_signBetween (l : Launch) (E : xG) (g : Nat → Nat) (h : Nat → Nat) (q : Nat → Nat) (f : Nat → Nat) (li : Li) (te : Te) (ev : Ev) (z : Fo) (x1 : Int32) (x2 : Int32) {r : Int32} (hf : fX2_signBetween li te ev z x1 x2 = some r) : xPure l yX2_signBetween wsX2_signBetween rmX2_signBetween E [.ref (g 0), .int x1, .int x2] (wL E g h q f li te ev z) (.int r) := by
  refine Met.ofW (cc := cX2_signBetween) (maxL := 5) (ret := (some .int)) (by decide) rfl ?_
  intro p e s m args below meth c s₁ B hml hv
  obtain ⟨rfl, hP, hK⟩ := hv
  have hx := B.exec
  have hb := B.bytes
  have hr := B.returns
  have hts := atoms_spec (ws := wsX2_signBetween) B.pre
  have hown : s.vm.findClass RX2 = some m.cls := findClass_of_methodNamed B.named
  have hlk := B.notSynchronized
  have S : CallFix p m c cX2_signBetween 5 s _ wsX2_signBetween RX2 := ⟨hx, hb, hml, hown, hts⟩
  have hl := lv_entry ([.ref (g 0), .int x1, .int x2]) (n := 5) (Nat.le_of_ble_eq_true rfl)
  rw [lg_entry_eq]
  generalize (lg_sl ([.ref (g 0), .int x1, .int x2]) ++ List.replicate (5 - (lg_sl ([.ref (g 0), .int x1, .int x2])).length) Slot.unset).toArray = ls at hl ⊢
  have hl : lv_has ls 5 [(0, .ref (g 0)), (1, .int x1), (2, .int x2)] := hl
  unfold fX2_signBetween at hf
  refine lv_aload_n hx hb dX2_signBetween_0 rfl (lv_at hl 0 rfl) ?_
  refine x_get hx hb hts inX2_signBetween_2 hown hK hP 0 rfl rfl 3 (by decide) mX2_signBetween_0 rfl dX2_signBetween_1 ?_
  refine lv_iload_n hx hb dX2_signBetween_4 rfl (lv_at hl 1 rfl) ?_
  refine lv_iload_n hx hb dX2_signBetween_5 rfl (lv_at hl 2 rfl) ?_
  obtain ⟨v1, h1, hf⟩ := ob hf
  refine x_pV (As := [.int x1, .int x2]) (rest := []) S hK (kX0_leftOverAbove l E q f ev z x1 x2 h1) (cwV 2 hts gX2_signBetween_X0_leftOverAbove rfl rfl rfl (by decide +kernel) ⟨Nat.le_of_ble_eq_true rfl, Nat.le_of_ble_eq_true rfl⟩) (hP.sub [4, 5, 6, 7, 8, 9, 10, 11, 12, 13, 14, 15, 16, 17, 18, 19] rfl) 0 rfl rfl rfl rfl hl.1 (Nat.le_of_ble_eq_true rfl) dX2_signBetween_6 rfl ⟨Nat.zero_le _, Nat.zero_le _⟩ ?_
  refine lv_lstore_n (lv' := [(3, .long v1), (0, .ref (g 0)), (1, .int x1), (2, .int x2)]) hx hb dX2_signBetween_9 rfl hl (by decide) rfl (fun ls hl => ?_)
  refine lv_lload_n hx hb dX2_signBetween_10 rfl (lv_at hl 0 rfl) ?_
  refine lv_lconst (v := 0) hx hb dX2_signBetween_11 (by decide) ?_
  refine x_lif_ne (tgt := 19) hx hb dX2_signBetween_12 dX2_signBetween_13 (by decide) (fun c2 => ?_) (fun c2 => ?_)
  · have hf := (if_neg c2).symm.trans hf
    refine lv_lload_n hx hb dX2_signBetween_19 rfl (lv_at hl 0 rfl) ?_
    refine lv_lconst (v := 0) hx hb dX2_signBetween_20 (by decide) ?_
    refine x_cut (pc := 32) (ls := ls) (st := [.int (if v1 ≤ (0 : Int64) then (45 : Int32) else (43 : Int32))]) ?_ (fun hj => ?_)
    · obtain rfl := Option.some.inj hf
      exact x_iret hx hb hr hlk (vp_nar_int _) dX2_signBetween_32
    · refine x_lif_le (tgt := 30) hx hb dX2_signBetween_21 dX2_signBetween_22 (by decide) (fun c3 => ?_) (fun c3 => ?_)
      · refine lv_bipush (v := 45) hx hb dX2_signBetween_30 (by decide) ?_
        exact (by rw [if_pos c3] at hj; exact hj)
      · refine lv_bipush (v := 43) hx hb dX2_signBetween_25 (by decide) ?_
        refine lv_goto (tgt := 32) hx hb dX2_signBetween_27 (by decide) ?_
        exact (by rw [if_neg c3] at hj; exact hj)
  · have hf := (if_pos c2).symm.trans hf
    refine lv_bipush (v := 61) hx hb dX2_signBetween_16 (by decide) ?_
    obtain rfl := Option.some.inj hf
    exact x_iret hx hb hr hlk (vp_nar_int _) dX2_signBetween_18
abbrev rmX2_written : Room := { frames := 5, cells := 0, slots := 0, locals := 117 }
theorem mX2_written_0 : Cond.fieldLink RX2 26 "EvenWhite$Line" "text" "LEvenWhite$Text;" ∈ wsX2_written := by decide +kernel
theorem mX2_written_1 : Cond.fieldLink RX2 30 "EvenWhite$Line" "many" "I" ∈ wsX2_written := by decide +kernel
theorem mX2_written_2 : Cond.fieldLink RX2 9 "EvenWhite$Line" "places" "[I" ∈ wsX2_written := by decide +kernel
theorem mX2_written_3 : Cond.fieldLink RX2 19 "EvenWhite$Line" "even" "LEvenWhite$Even;" ∈ wsX2_written := by decide +kernel
theorem mX2_written_4 : Cond.initialized RX5 ∈ wsX2_written := by decide +kernel
theorem mX2_written_5 : Cond.static yX5_aboveOf ∈ wsX2_written := by decide +kernel
theorem mX2_written_6 : Cond.static yX5_belowOf ∈ wsX2_written := by decide +kernel
theorem inX2_written_2 : ∀ w ∈ u_ws RX2 TX2 5, w ∈ wsX2_written := by decide +kernel
def gX2_written_9 (li : Li) (ev : Ev) (z : Fo) (rec : (Int32 × Te) → Option (Int32 × Te)) (u : Int32 × Te) : Option (Int32 × Te) :=
  (if (Li_many li) ≤ u.1 then
  some (u.1, u.2)
  else ((if u.1 ≤ (0 : Int32) then
  some u.2
  else (rdI (Li_places li) 16 (u.1 - (1 : Int32))).bind fun v4 =>
  (rdI (Li_places li) 16 u.1).bind fun v5 =>
  (fX2_signBetween li u.2 ev z v4 v5).bind fun v6 =>
  (fX4_addSign u.2 v6).bind fun v7 =>
  some v7)).bind fun v2 =>
  (rdI (Li_places li) 16 u.1).bind fun v8 =>
  (fX4_addSign v2 ((97 : Int32) + v8)).bind fun v9 =>
  rec ((u.1 + (1 : Int32)), v9))
set_option maxHeartbeats 4000000 in
set_option maxRecDepth 100000 in
theorem wX2_written_9 {p : Program} {l : Launch} {e : Env} {s : State} {m : MethodId} {args : Array Value} {below : List Frame} {meth : Method} {c : Code} {Q : State → Prop} (S : CallFix p m c cX2_written 3 s args wsX2_written RX2) (E : xG) (hK : xK E s) (g : Nat → Nat) (h : Nat → Nat) (q : Nat → Nat) (f : Nat → Nat) (li : Li) (ev : Ev) (z : Fo) (A : Nat → Prop) (H0 : Heap) : ∀ (n : Nat) (u : Int32 × Te) (r : Int32 × Te), lp (gX2_written_9 li ev z) n u = some r → ∀ (H : Heap) (locs : List Loc), va_P (xD E) vwCl (wL E g h q f li u.2 ev z) H → va_D A (wL E g h q f li u.2 ev z) → va_S A H0 H locs → ∀ (ls : Array Slot), lv_has ls 3 [(0, .ref (g 0)), (1, .int u.1)] → (∀ (H : Heap) (locs : List Loc), va_P (xD E) vwCl (wL E g h q f li r.2 ev z) H → va_D A (wL E g h q f li r.2 ev z) → va_S A H0 H locs → ∀ (ls : Array Slot), lv_has ls 3 [(0, .ref (g 0)), (1, .int r.1)] → W p l e rmX2_written s m args below meth c H locs 0 0 Q (F0 m 68 ls [])) → W p l e rmX2_written s m args below meth c H locs 0 0 Q (F0 m 9 ls []) := by
  obtain ⟨hx, hb, hml, hown, hts⟩ := id S
  intro n
  induction n with
  | zero =>
    intro u r hf
    exact absurd (show (none : Option _) = some r from hf) (fun q => by cases q)
  | succ n ih =>
    intro u r hf H locs hP hD hS ls hl kx
    have hf : gX2_written_9 li ev z (lp (gX2_written_9 li ev z) n) u = some r := hf
    unfold gX2_written_9 at hf
    refine lv_iload_n hx hb dX2_written_9 rfl (lv_at hl 1 rfl) ?_
    refine lv_aload_n hx hb dX2_written_10 rfl (lv_at hl 0 rfl) ?_
    refine x_get hx hb hts inX2_written_2 hown hK hP 0 rfl rfl 0 (by decide) mX2_written_1 rfl dX2_written_11 ?_
    refine lv_icmp_ge (tgt := 68) hx hb dX2_written_14 (by decide) (fun c1 => ?_) (fun c1 => ?_)
    · have hf := (if_pos c1).symm.trans hf
      obtain rfl := Option.some.inj hf
      exact kx _ _ hP hD hS ls (lv_sub hl [0, 1] rfl)
    · have hf := (if_neg c1).symm.trans hf
      refine lv_iload_n hx hb dX2_written_17 rfl (lv_at hl 1 rfl) ?_
      obtain ⟨v2, h2, hf⟩ := ob hf
      refine x_cutH (fun H locs ls => va_P (xD E) vwCl (wL E g h q f li v2 ev z) H ∧ va_D A (wL E g h q f li v2 ev z) ∧ va_S A H0 H locs ∧ lv_has ls 3 [(0, .ref (g 0)), (1, .int u.1)]) (pc := 46) (st := []) (fun H locs ls hq => ?_) (fun hj => ?_)
      · obtain ⟨hP, hD, hS, hl⟩ := hq
        refine lv_aload_n hx hb dX2_written_46 rfl (lv_at hl 0 rfl) ?_
        refine x_get hx hb hts inX2_written_2 hown hK hP 0 rfl rfl 4 (by decide) mX2_written_0 rfl dX2_written_47 ?_
        refine lv_bipush (v := 97) hx hb dX2_written_50 (by decide) ?_
        refine lv_aload_n hx hb dX2_written_52 rfl (lv_at hl 0 rfl) ?_
        refine x_get hx hb hts inX2_written_2 hown hK hP 0 rfl rfl 1 (by decide) mX2_written_2 rfl dX2_written_53 ?_
        refine lv_iload_n hx hb dX2_written_56 rfl (lv_at hl 1 rfl) ?_
        obtain ⟨v8, h8, hf⟩ := ob hf
        refine x_iald hx hb hK hP 1 rfl h8 dX2_written_57 ?_
        refine lv_iadd hx hb dX2_written_58 ?_
        obtain ⟨v9, h9, hf⟩ := ob hf
        refine x_mR (ws' := wL E g h q f li v9 ev z) (As := [.int ((97 : Int32) + v8)]) (rest := []) S hK (kX4_addSign l E h v2 ((97 : Int32) + v8) h9) (cwV 1 hts gX2_written_X4_addSign rfl rfl rfl (by decide +kernel) ⟨Nat.le_of_ble_eq_true rfl, Nat.le_of_ble_eq_true rfl⟩) hP hD hS 2 2 rfl rfl 0 rfl rfl rfl rfl hl.1 (Nat.le_of_ble_eq_true rfl) dX2_written_59 rfl ⟨Nat.zero_le _, Nat.zero_le _⟩ rfl (fun H locs hP hD hS => ?_)
        refine lv_iinc (v := (u.1 + (1 : Int32))) (lv' := [(1, .int (u.1 + (1 : Int32))), (0, .ref (g 0))]) hx hb dX2_written_62 hl (k := 1) rfl rfl (by decide) rfl (fun ls hl => ?_)
        refine lv_goto (tgt := 9) hx hb dX2_written_65 (by decide) ?_
        exact ih ((u.1 + (1 : Int32)), v9) _ hf _ _ hP hD hS ls (lv_sub hl [1, 0] rfl) kx
      · have hf := h2
        refine lv_if_le (tgt := 46) hx hb dX2_written_18 (by decide) (fun c3 => ?_) (fun c3 => ?_)
        · have hf := (if_pos c3).symm.trans hf
          obtain rfl := Option.some.inj hf
          exact hj _ _ ls ⟨hP, hD, hS, lv_sub hl [0, 1] rfl⟩
        · have hf := (if_neg c3).symm.trans hf
          refine lv_aload_n hx hb dX2_written_21 rfl (lv_at hl 0 rfl) ?_
          refine x_get hx hb hts inX2_written_2 hown hK hP 0 rfl rfl 4 (by decide) mX2_written_0 rfl dX2_written_22 ?_
          refine lv_aload_n hx hb dX2_written_25 rfl (lv_at hl 0 rfl) ?_
          refine lv_aload_n hx hb dX2_written_26 rfl (lv_at hl 0 rfl) ?_
          refine x_get hx hb hts inX2_written_2 hown hK hP 0 rfl rfl 1 (by decide) mX2_written_2 rfl dX2_written_27 ?_
          refine lv_iload_n hx hb dX2_written_30 rfl (lv_at hl 1 rfl) ?_
          refine lv_iconst (v := 1) hx hb dX2_written_31 (by decide) ?_
          refine lv_isub hx hb dX2_written_32 ?_
          obtain ⟨v4, h4, hf⟩ := ob hf
          refine x_iald hx hb hK hP 1 rfl h4 dX2_written_33 ?_
          refine lv_aload_n hx hb dX2_written_34 rfl (lv_at hl 0 rfl) ?_
          refine x_get hx hb hts inX2_written_2 hown hK hP 0 rfl rfl 1 (by decide) mX2_written_2 rfl dX2_written_35 ?_
          refine lv_iload_n hx hb dX2_written_38 rfl (lv_at hl 1 rfl) ?_
          obtain ⟨v5, h5, hf⟩ := ob hf
          refine x_iald hx hb hK hP 1 rfl h5 dX2_written_39 ?_
          obtain ⟨v6, h6, hf⟩ := ob hf
          refine x_pV (As := [.int v4, .int v5]) (rest := [.ref (h 0)]) S hK (kX2_signBetween l E g h q f li u.2 ev z v4 v5 h6) (cwV 2 hts gX2_written_X2_signBetween rfl rfl rfl (by decide +kernel) ⟨Nat.le_of_ble_eq_true rfl, Nat.le_of_ble_eq_true rfl⟩) hP 0 rfl rfl rfl rfl hl.1 (Nat.le_of_ble_eq_true rfl) dX2_written_40 rfl ⟨Nat.zero_le _, Nat.zero_le _⟩ ?_
          obtain ⟨v7, h7, hf⟩ := ob hf
          refine x_mR (ws' := wL E g h q f li v7 ev z) (As := [.int v6]) (rest := []) S hK (kX4_addSign l E h u.2 v6 h7) (cwV 1 hts gX2_written_X4_addSign rfl rfl rfl (by decide +kernel) ⟨Nat.le_of_ble_eq_true rfl, Nat.le_of_ble_eq_true rfl⟩) hP hD hS 2 2 rfl rfl 0 rfl rfl rfl rfl hl.1 (Nat.le_of_ble_eq_true rfl) dX2_written_43 rfl ⟨Nat.zero_le _, Nat.zero_le _⟩ rfl (fun H locs hP hD hS => ?_)
          obtain rfl := Option.some.inj hf
          exact hj _ _ ls ⟨hP, hD, hS, lv_sub hl [0, 1] rfl⟩
def fX2_written (li : Li) (te : Te) (ev : Ev) (z : Fo) : Option Te :=
  (fX4_makeEmpty te).bind fun v1 =>
  (lp (gX2_written_9 li ev z) 1000 ((0 : Int32), v1)).bind fun v2 =>
  (fX2_wideAbove li v2.2 ev z).bind fun v3 =>
  (fX4_addSign v2.2 (58 : Int32)).bind fun v4 =>
  (fX0_spaceBelow ev z).bind fun v5 =>
  (fX5_aboveOf v3 v5).bind fun v6 =>
  (fX4_addNumber v4 v6).bind fun v7 =>
  (fX4_addSign v7 (47 : Int32)).bind fun v8 =>
  (fX0_spaceBelow ev z).bind fun v9 =>
  (fX5_belowOf v3 v9).bind fun v10 =>
  (fX4_addNumber v8 v10).bind fun v11 =>
  some v11
set_option maxHeartbeats 4000000 in
set_option maxRecDepth 100000 in
theorem kX2_written (l : Launch) (E : xG) (g : Nat → Nat) (h : Nat → Nat) (q : Nat → Nat) (f : Nat → Nat) (li : Li) (te : Te) (ev : Ev) (z : Fo) {r : Te} (hf : fX2_written li te ev z = some r) : xMut l yX2_written wsX2_written rmX2_written E [.ref (g 0)] (wL E g h q f li te ev z) (some (.ref (h 0))) (wL E g h q f li r ev z) := by
  refine Met.ofW (cc := cX2_written) (maxL := 3) (ret := (some (.object "EvenWhite$Text"))) (by decide) rfl ?_
  intro p e s m args below meth c s₁ B hml hv
  obtain ⟨rfl, hP, hK, hD0⟩ := hv
  have hx := B.exec
  have hb := B.bytes
  have hr := B.returns
  have hts := atoms_spec (ws := wsX2_written) B.pre
  have hown : s.vm.findClass RX2 = some m.cls := findClass_of_methodNamed B.named
  have hlk := B.notSynchronized
  have S : CallFix p m c cX2_written 3 s _ wsX2_written RX2 := ⟨hx, hb, hml, hown, hts⟩
  have hl := lv_entry ([.ref (g 0)]) (n := 3) (Nat.le_of_ble_eq_true rfl)
  rw [lg_entry_eq]
  generalize (lg_sl ([.ref (g 0)]) ++ List.replicate (3 - (lg_sl ([.ref (g 0)])).length) Slot.unset).toArray = ls at hl ⊢
  have hl : lv_has ls 3 [(0, .ref (g 0))] := hl
  have hD := xA.self hD0
  have hS : va_S (xA (wL E g h q f li te ev z)) s.heap s.heap [] := va_S.rf
  show W p l e rmX2_written s m _ below meth c s.heap [] 0 0 _ _
  generalize hA : xA (wL E g h q f li te ev z) = A at hD hS ⊢
  unfold fX2_written at hf
  refine lv_aload_n hx hb dX2_written_0 rfl (lv_at hl 0 rfl) ?_
  refine x_get hx hb hts inX2_written_2 hown hK hP 0 rfl rfl 4 (by decide) mX2_written_0 rfl dX2_written_1 ?_
  obtain ⟨v1, h1, hf⟩ := ob hf
  refine x_mR (ws' := wL E g h q f li v1 ev z) (As := []) (rest := []) S hK (kX4_makeEmpty l E h te h1) (cwV 0 hts gX2_written_X4_makeEmpty rfl rfl rfl (by decide +kernel) ⟨Nat.le_of_ble_eq_true rfl, Nat.le_of_ble_eq_true rfl⟩) hP hD hS 2 2 rfl rfl 0 rfl rfl rfl rfl hl.1 (Nat.le_of_ble_eq_true rfl) dX2_written_4 rfl ⟨Nat.zero_le _, Nat.zero_le _⟩ rfl (fun H locs hP hD hS => ?_)
  refine lv_iconst (v := 0) hx hb dX2_written_7 (by decide) ?_
  refine lv_istore_n (lv' := [(1, .int (0 : Int32)), (0, .ref (g 0))]) hx hb dX2_written_8 rfl hl (by decide) rfl (fun ls hl => ?_)
  obtain ⟨v2, h2, hf⟩ := ob hf
  refine wX2_written_9 S E hK g h q f li ev z _ _ 1000 _ _ h2 _ _ hP hD hS ls (lv_sub hl [1, 0] rfl) (fun H locs hP hD hS ls hl => ?_)
  refine lv_aload_n hx hb dX2_written_68 rfl (lv_at hl 0 rfl) ?_
  obtain ⟨v3, h3, hf⟩ := ob hf
  refine x_pV (As := []) (rest := []) S hK (kX2_wideAbove l E g h q f li v2.2 ev z h3) (cwV 0 hts gX2_written_X2_wideAbove rfl rfl rfl (by decide +kernel) ⟨Nat.le_of_ble_eq_true rfl, Nat.le_of_ble_eq_true rfl⟩) hP 0 rfl rfl rfl rfl hl.1 (Nat.le_of_ble_eq_true rfl) dX2_written_69 rfl ⟨Nat.zero_le _, Nat.zero_le _⟩ ?_
  refine lv_lstore_n (lv' := [(1, .long v3), (0, .ref (g 0))]) hx hb dX2_written_72 rfl hl (by decide) rfl (fun ls hl => ?_)
  refine lv_aload_n hx hb dX2_written_73 rfl (lv_at hl 1 rfl) ?_
  refine x_get hx hb hts inX2_written_2 hown hK hP 0 rfl rfl 4 (by decide) mX2_written_0 rfl dX2_written_74 ?_
  refine lv_bipush (v := 58) hx hb dX2_written_77 (by decide) ?_
  obtain ⟨v4, h4, hf⟩ := ob hf
  refine x_mR (ws' := wL E g h q f li v4 ev z) (As := [.int (58 : Int32)]) (rest := []) S hK (kX4_addSign l E h v2.2 (58 : Int32) h4) (cwV 1 hts gX2_written_X4_addSign rfl rfl rfl (by decide +kernel) ⟨Nat.le_of_ble_eq_true rfl, Nat.le_of_ble_eq_true rfl⟩) hP hD hS 2 2 rfl rfl 0 rfl rfl rfl rfl hl.1 (Nat.le_of_ble_eq_true rfl) dX2_written_79 rfl ⟨Nat.zero_le _, Nat.zero_le _⟩ rfl (fun H locs hP hD hS => ?_)
  refine lv_aload_n hx hb dX2_written_82 rfl (lv_at hl 1 rfl) ?_
  refine x_get hx hb hts inX2_written_2 hown hK hP 0 rfl rfl 4 (by decide) mX2_written_0 rfl dX2_written_83 ?_
  refine lv_lload_n hx hb dX2_written_86 rfl (lv_at hl 0 rfl) ?_
  refine lv_aload_n hx hb dX2_written_87 rfl (lv_at hl 1 rfl) ?_
  refine x_get hx hb hts inX2_written_2 hown hK hP 0 rfl rfl 3 (by decide) mX2_written_3 rfl dX2_written_88 ?_
  obtain ⟨v5, h5, hf⟩ := ob hf
  refine x_pV (As := []) (rest := [.long v3, .ref (h 0)]) S hK (kX0_spaceBelow l E q f ev z h5) (cwV 0 hts gX2_written_X0_spaceBelow rfl rfl rfl (by decide +kernel) ⟨Nat.le_of_ble_eq_true rfl, Nat.le_of_ble_eq_true rfl⟩) (hP.sub [4, 5, 6, 7, 8, 9, 10, 11, 12, 13, 14, 15, 16, 17, 18, 19] rfl) 0 rfl rfl rfl rfl hl.1 (Nat.le_of_ble_eq_true rfl) dX2_written_91 rfl ⟨Nat.zero_le _, Nat.zero_le _⟩ ?_
  obtain ⟨v6, h6, hf⟩ := ob hf
  refine x_pN (As := [.long v3, .long v5]) (rest := [.ref (h 0)]) S hK (kX5_aboveOf l E v3 v5 h6) ⟨va_cnB 2 hts gX2_written_X5_aboveOf_n70 rfl rfl rfl hK.2.2.1 (hts _ mX2_written_4) (by decide +kernel) ⟨Nat.le_of_ble_eq_true rfl, Nat.le_of_ble_eq_true rfl⟩, hts _ mX2_written_5, trivial⟩ x_nil rfl hl.1 (Nat.le_of_ble_eq_true rfl) dX2_written_94 rfl ⟨Nat.zero_le _, Nat.zero_le _⟩ ?_
  obtain ⟨v7, h7, hf⟩ := ob hf
  refine x_mR (ws' := wL E g h q f li v7 ev z) (As := [.long v6]) (rest := []) S hK (kX4_addNumber l E h v4 v6 h7) (cwV 1 hts gX2_written_X4_addNumber rfl rfl rfl (by decide +kernel) ⟨Nat.le_of_ble_eq_true rfl, Nat.le_of_ble_eq_true rfl⟩) hP hD hS 2 2 rfl rfl 0 rfl rfl rfl rfl hl.1 (Nat.le_of_ble_eq_true rfl) dX2_written_97 rfl ⟨Nat.zero_le _, Nat.zero_le _⟩ rfl (fun H locs hP hD hS => ?_)
  refine lv_aload_n hx hb dX2_written_100 rfl (lv_at hl 1 rfl) ?_
  refine x_get hx hb hts inX2_written_2 hown hK hP 0 rfl rfl 4 (by decide) mX2_written_0 rfl dX2_written_101 ?_
  refine lv_bipush (v := 47) hx hb dX2_written_104 (by decide) ?_
  obtain ⟨v8, h8, hf⟩ := ob hf
  refine x_mR (ws' := wL E g h q f li v8 ev z) (As := [.int (47 : Int32)]) (rest := []) S hK (kX4_addSign l E h v7 (47 : Int32) h8) (cwV 1 hts gX2_written_X4_addSign rfl rfl rfl (by decide +kernel) ⟨Nat.le_of_ble_eq_true rfl, Nat.le_of_ble_eq_true rfl⟩) hP hD hS 2 2 rfl rfl 0 rfl rfl rfl rfl hl.1 (Nat.le_of_ble_eq_true rfl) dX2_written_106 rfl ⟨Nat.zero_le _, Nat.zero_le _⟩ rfl (fun H locs hP hD hS => ?_)
  refine lv_aload_n hx hb dX2_written_109 rfl (lv_at hl 1 rfl) ?_
  refine x_get hx hb hts inX2_written_2 hown hK hP 0 rfl rfl 4 (by decide) mX2_written_0 rfl dX2_written_110 ?_
  refine lv_lload_n hx hb dX2_written_113 rfl (lv_at hl 0 rfl) ?_
  refine lv_aload_n hx hb dX2_written_114 rfl (lv_at hl 1 rfl) ?_
  refine x_get hx hb hts inX2_written_2 hown hK hP 0 rfl rfl 3 (by decide) mX2_written_3 rfl dX2_written_115 ?_
  obtain ⟨v9, h9, hf⟩ := ob hf
  refine x_pV (As := []) (rest := [.long v3, .ref (h 0)]) S hK (kX0_spaceBelow l E q f ev z h9) (cwV 0 hts gX2_written_X0_spaceBelow rfl rfl rfl (by decide +kernel) ⟨Nat.le_of_ble_eq_true rfl, Nat.le_of_ble_eq_true rfl⟩) (hP.sub [4, 5, 6, 7, 8, 9, 10, 11, 12, 13, 14, 15, 16, 17, 18, 19] rfl) 0 rfl rfl rfl rfl hl.1 (Nat.le_of_ble_eq_true rfl) dX2_written_118 rfl ⟨Nat.zero_le _, Nat.zero_le _⟩ ?_
  obtain ⟨v10, h10, hf⟩ := ob hf
  refine x_pN (As := [.long v3, .long v9]) (rest := [.ref (h 0)]) S hK (kX5_belowOf l E v3 v9 h10) ⟨va_cnB 2 hts gX2_written_X5_belowOf_n78 rfl rfl rfl hK.2.2.2.1 (hts _ mX2_written_4) (by decide +kernel) ⟨Nat.le_of_ble_eq_true rfl, Nat.le_of_ble_eq_true rfl⟩, hts _ mX2_written_6, trivial⟩ x_nil rfl hl.1 (Nat.le_of_ble_eq_true rfl) dX2_written_121 rfl ⟨Nat.zero_le _, Nat.zero_le _⟩ ?_
  obtain ⟨v11, h11, hf⟩ := ob hf
  refine x_mR (ws' := wL E g h q f li v11 ev z) (As := [.long v10]) (rest := []) S hK (kX4_addNumber l E h v8 v10 h11) (cwV 1 hts gX2_written_X4_addNumber rfl rfl rfl (by decide +kernel) ⟨Nat.le_of_ble_eq_true rfl, Nat.le_of_ble_eq_true rfl⟩) hP hD hS 2 2 rfl rfl 0 rfl rfl rfl rfl hl.1 (Nat.le_of_ble_eq_true rfl) dX2_written_124 rfl ⟨Nat.zero_le _, Nat.zero_le _⟩ rfl (fun H locs hP hD hS => ?_)
  refine lv_aload_n hx hb dX2_written_127 rfl (lv_at hl 1 rfl) ?_
  refine x_get hx hb hts inX2_written_2 hown hK hP 0 rfl rfl 4 (by decide) mX2_written_0 rfl dX2_written_128 ?_
  obtain rfl := Option.some.inj hf
  subst hA
  exact W.aret hx hb hr (Or.inl ⟨_, rfl⟩) (Or.inr ⟨_, rfl⟩) (fun t ht _ => ⟨rfl, by rw [ht]; exact hP, hS.F ht⟩) hS.2.2 dX2_written_131 hlk
