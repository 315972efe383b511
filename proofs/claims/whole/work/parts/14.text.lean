abbrev rmX4_makeEmpty : Room := { frames := 0, cells := 0, slots := 0, locals := 0 }
theorem mX4_makeEmpty_0 : Cond.fieldLink RX4 15 "EvenWhite$Text" "many" "I" ∈ wsX4_makeEmpty := by decide +kernel
theorem inX4_makeEmpty_4 : ∀ w ∈ u_ws RX4 TX4 2, w ∈ wsX4_makeEmpty := by decide +kernel
def fX4_makeEmpty (te : Te) : Option Te :=
  some (Te_set_many te (0 : Int32))
set_option maxHeartbeats 4000000 in
set_option maxRecDepth 100000 in
theorem kX4_makeEmpty (l : Launch) (E : xG) (h : Nat → Nat) (te : Te) {r : Te} (hf : fX4_makeEmpty te = some r) : xMut l yX4_makeEmpty wsX4_makeEmpty rmX4_makeEmpty E [.ref (h 0)] (wT E h te) none (wT E h r) := by
  refine Met.ofW (cc := cX4_makeEmpty) (maxL := 1) (ret := none) (by decide) rfl ?_
  intro p e s m args below meth c s₁ B hml hv
  obtain ⟨rfl, hP, hK, hD0⟩ := hv
  have hx := B.exec
  have hb := B.bytes
  have hr := B.returns
  have hts := atoms_spec (ws := wsX4_makeEmpty) B.pre
  have hown : s.vm.findClass RX4 = some m.cls := findClass_of_methodNamed B.named
  have hlk := B.notSynchronized
  have S : CallFix p m c cX4_makeEmpty 1 s _ wsX4_makeEmpty RX4 := ⟨hx, hb, hml, hown, hts⟩
  have hl := lv_entry ([.ref (h 0)]) (n := 1) (Nat.le_of_ble_eq_true rfl)
  rw [lg_entry_eq]
  generalize (lg_sl ([.ref (h 0)]) ++ List.replicate (1 - (lg_sl ([.ref (h 0)])).length) Slot.unset).toArray = ls at hl ⊢
  have hl : lv_has ls 1 [(0, .ref (h 0))] := hl
  have hD := xA.self hD0
  have hS : va_S (xA (wT E h te)) s.heap s.heap [] := va_S.rf
  show W p l e rmX4_makeEmpty s m _ below meth c s.heap [] 0 0 _ _
  generalize hA : xA (wT E h te) = A at hD hS ⊢
  unfold fX4_makeEmpty at hf
  refine lv_aload_n hx hb dX4_makeEmpty_0 rfl (lv_at hl 0 rfl) ?_
  refine lv_iconst (v := 0) hx hb dX4_makeEmpty_1 (by decide) ?_
  refine x_putf hx hb hts inX4_makeEmpty_4 tyX4_ok nmX4 hown hK hP hD hS 0 rfl rfl 0 (by decide) mX4_makeEmpty_0 rfl (vp_nar_int _) rfl (Nat.le_of_ble_eq_true rfl) dX4_makeEmpty_2 (fun H locs hP hD hS => ?_)
  have hP : va_P (xD E) vwCl (wT E h (Te_set_many te (0 : Int32))) H := hP
  have hD : va_D A (wT E h (Te_set_many te (0 : Int32))) := hD
  obtain rfl := Option.some.inj hf
  subst hA
  exact x_vretM hx hb hr hlk hP hS dX4_makeEmpty_5
abbrev rmX4_addSign : Room := { frames := 0, cells := 0, slots := 0, locals := 0 }
theorem mX4_addSign_0 : Cond.fieldLink RX4 15 "EvenWhite$Text" "many" "I" ∈ wsX4_addSign := by decide +kernel
theorem mX4_addSign_1 : Cond.fieldLink RX4 9 "EvenWhite$Text" "signs" "[I" ∈ wsX4_addSign := by decide +kernel
theorem inX4_addSign_4 : ∀ w ∈ u_ws RX4 TX4 2, w ∈ wsX4_addSign := by decide +kernel
def fX4_addSign (te : Te) (x1 : Int32) : Option Te :=
  ((if (96 : Int32) ≤ (Te_many te) then
  some te
  else (wrI (Te_signs te) 96 (Te_many te) x1).bind fun v3 =>
  some (Te_set_many (Te_set_signs te v3) ((Te_many te) + (1 : Int32))))).bind fun v1 =>
  some v1
set_option maxHeartbeats 4000000 in
set_option maxRecDepth 100000 in
theorem kX4_addSign (l : Launch) (E : xG) (h : Nat → Nat) (te : Te) (x1 : Int32) {r : Te} (hf : fX4_addSign te x1 = some r) : xMut l yX4_addSign wsX4_addSign rmX4_addSign E [.ref (h 0), .int x1] (wT E h te) none (wT E h r) := by
  refine Met.ofW (cc := cX4_addSign) (maxL := 2) (ret := none) (by decide) rfl ?_
  intro p e s m args below meth c s₁ B hml hv
  obtain ⟨rfl, hP, hK, hD0⟩ := hv
  have hx := B.exec
  have hb := B.bytes
  have hr := B.returns
  have hts := atoms_spec (ws := wsX4_addSign) B.pre
  have hown : s.vm.findClass RX4 = some m.cls := findClass_of_methodNamed B.named
  have hlk := B.notSynchronized
  have S : CallFix p m c cX4_addSign 2 s _ wsX4_addSign RX4 := ⟨hx, hb, hml, hown, hts⟩
  have hl := lv_entry ([.ref (h 0), .int x1]) (n := 2) (Nat.le_of_ble_eq_true rfl)
  rw [lg_entry_eq]
  generalize (lg_sl ([.ref (h 0), .int x1]) ++ List.replicate (2 - (lg_sl ([.ref (h 0), .int x1])).length) Slot.unset).toArray = ls at hl ⊢
  have hl : lv_has ls 2 [(0, .ref (h 0)), (1, .int x1)] := hl
  have hD := xA.self hD0
  have hS : va_S (xA (wT E h te)) s.heap s.heap [] := va_S.rf
  show W p l e rmX4_addSign s m _ below meth c s.heap [] 0 0 _ _
  generalize hA : xA (wT E h te) = A at hD hS ⊢
  unfold fX4_addSign at hf
  refine lv_aload_n hx hb dX4_addSign_0 rfl (lv_at hl 0 rfl) ?_
  refine x_get hx hb hts inX4_addSign_4 hown hK hP 0 rfl rfl 0 (by decide) mX4_addSign_0 rfl dX4_addSign_1 ?_
  refine lv_aload_n hx hb dX4_addSign_4 rfl (lv_at hl 0 rfl) ?_
  refine x_get hx hb hts inX4_addSign_4 hown hK hP 0 rfl rfl 1 (by decide) mX4_addSign_1 rfl dX4_addSign_5 ?_
  refine va_alen (v := 96) hx hb hK.1 hP 1 0 rfl rfl rfl dX4_addSign_8 ?_
  obtain ⟨v1, h1, hf⟩ := ob hf
  refine x_cutH (fun H locs ls => va_P (xD E) vwCl (wT E h v1) H ∧ va_D A (wT E h v1) ∧ va_S A s.heap H locs ∧ lv_has ls 2 [(0, .ref (h 0)), (1, .int x1)]) (pc := 32) (st := []) (fun H locs ls hq => ?_) (fun hj => ?_)
  · obtain ⟨hP, hD, hS, hl⟩ := hq
    obtain rfl := Option.some.inj hf
    subst hA
    exact x_vretM hx hb hr hlk hP hS dX4_addSign_32
  · have hf := h1
    refine lv_icmp_ge (tgt := 32) hx hb dX4_addSign_9 (by decide) (fun c2 => ?_) (fun c2 => ?_)
    · have hf := (if_pos c2).symm.trans hf
      obtain rfl := Option.some.inj hf
      exact hj _ _ ls ⟨hP, hD, hS, lv_sub hl [0, 1] rfl⟩
    · have hf := (if_neg c2).symm.trans hf
      refine lv_aload_n hx hb dX4_addSign_12 rfl (lv_at hl 0 rfl) ?_
      refine x_get hx hb hts inX4_addSign_4 hown hK hP 0 rfl rfl 1 (by decide) mX4_addSign_1 rfl dX4_addSign_13 ?_
      refine lv_aload_n hx hb dX4_addSign_16 rfl (lv_at hl 0 rfl) ?_
      refine x_get hx hb hts inX4_addSign_4 hown hK hP 0 rfl rfl 0 (by decide) mX4_addSign_0 rfl dX4_addSign_17 ?_
      refine lv_iload_n hx hb dX4_addSign_20 rfl (lv_at hl 1 rfl) ?_
      obtain ⟨v3, h3, hf⟩ := ob hf
      refine x_iast hx hb hK hP hD hS 1 rfl h3 dX4_addSign_21 (fun H locs hP hD hS => ?_)
      have hP : va_P (xD E) vwCl (wT E h (Te_set_signs te v3)) H := hP
      have hD : va_D A (wT E h (Te_set_signs te v3)) := hD
      refine lv_aload_n hx hb dX4_addSign_22 rfl (lv_at hl 0 rfl) ?_
      refine lv_dup hx hb dX4_addSign_23 rfl ?_
      refine x_get hx hb hts inX4_addSign_4 hown hK hP 0 rfl rfl 0 (by decide) mX4_addSign_0 rfl dX4_addSign_24 ?_
      refine lv_iconst (v := 1) hx hb dX4_addSign_27 (by decide) ?_
      refine lv_iadd hx hb dX4_addSign_28 ?_
      refine x_putf hx hb hts inX4_addSign_4 tyX4_ok nmX4 hown hK hP hD hS 0 rfl rfl 0 (by decide) mX4_addSign_0 rfl (vp_nar_int _) rfl (Nat.le_of_ble_eq_true rfl) dX4_addSign_29 (fun H locs hP hD hS => ?_)
      have hP : va_P (xD E) vwCl (wT E h (Te_set_many (Te_set_signs te v3) ((Te_many te) + (1 : Int32)))) H := hP
      have hD : va_D A (wT E h (Te_set_many (Te_set_signs te v3) ((Te_many te) + (1 : Int32)))) := hD
      obtain rfl := Option.some.inj hf
      exact hj _ _ ls ⟨hP, hD, hS, lv_sub hl [0, 1] rfl⟩
abbrev rmX4_addNumber : Room := { frames := 1, cells := 0, slots := 0, locals := 23 }
theorem mX4_addNumber_0 : Cond.methodLink RX4 23 Lib.MathLoose.abs_long.x ∈ wsX4_addNumber := by decide +kernel
theorem mX4_addNumber_1 : Cond.static Lib.MathLoose.abs_long.x ∈ wsX4_addNumber := by decide +kernel
theorem mX4_addNumber_2 : Cond.initialized "java/lang/Math" ∈ wsX4_addNumber := by decide +kernel
theorem mX4_addNumber_3 : Cond.code Lib.MathLoose.abs_long.x Lib.MathLoose.abs_long.code 2 (some .long) ∈ wsX4_addNumber := by decide +kernel
theorem mX4_addNumber_4 : Cond.constantLong RX4 29 (10) ∈ wsX4_addNumber := by decide +kernel
def gX4_addNumber_23 (te : Te) (x1 : Int64) (x3 : Int64) (rec : (Int64 × Int32) → Option (Int64 × Int32)) (u : Int64 × Int32) : Option (Int64 × Int32) :=
  (if (18 : Int32) ≤ u.2 then
  some (u.1, u.2)
  else (dvJ x3 u.1).bind fun v2 =>
  (if v2 < (10 : Int64) then
  some (u.1, u.2)
  else rec ((u.1 * (10 : Int64)), (u.2 + (1 : Int32)))))
set_option maxHeartbeats 4000000 in
set_option maxRecDepth 100000 in
theorem wX4_addNumber_23 {p : Program} {l : Launch} {e : Env} {s : State} {m : MethodId} {args : Array Value} {below : List Frame} {meth : Method} {c : Code} {Q : State → Prop} (S : CallFix p m c cX4_addNumber 8 s args wsX4_addNumber RX4) (E : xG) (hK : xK E s) (h : Nat → Nat) (te : Te) (x1 : Int64) (x3 : Int64) (A : Nat → Prop) (H0 : Heap) : ∀ (n : Nat) (u : Int64 × Int32) (r : Int64 × Int32), lp (gX4_addNumber_23 te x1 x3) n u = some r → ∀ (H : Heap) (locs : List Loc), va_P (xD E) vwCl (wT E h te) H → va_D A (wT E h te) → va_S A H0 H locs → ∀ (ls : Array Slot), lv_has ls 8 [(0, .ref (h 0)), (1, .long x1), (3, .long x3), (5, .long u.1), (7, .int u.2)] → (∀ (H : Heap) (locs : List Loc), va_P (xD E) vwCl (wT E h te) H → va_D A (wT E h te) → va_S A H0 H locs → ∀ (ls : Array Slot), lv_has ls 8 [(0, .ref (h 0)), (1, .long x1), (3, .long x3), (5, .long r.1), (7, .int r.2)] → W p l e rmX4_addNumber s m args below meth c H locs 0 0 Q (F0 m 55 ls [])) → W p l e rmX4_addNumber s m args below meth c H locs 0 0 Q (F0 m 23 ls []) := by
  obtain ⟨hx, hb, hml, hown, hts⟩ := id S
  intro n
  induction n with
  | zero =>
    intro u r hf
    exact absurd (show (none : Option _) = some r from hf) (fun q => by cases q)
  | succ n ih =>
    intro u r hf H locs hP hD hS ls hl kx
    have hf : gX4_addNumber_23 te x1 x3 (lp (gX4_addNumber_23 te x1 x3) n) u = some r := hf
    unfold gX4_addNumber_23 at hf
    refine lv_iload hx hb dX4_addNumber_23 (lv_at hl 4 rfl) ?_
    refine lv_bipush (v := 18) hx hb dX4_addNumber_25 (by decide) ?_
    refine lv_icmp_ge (tgt := 55) hx hb dX4_addNumber_27 (by decide) (fun c1 => ?_) (fun c1 => ?_)
    · have hf := (if_pos c1).symm.trans hf
      obtain rfl := Option.some.inj hf
      exact kx _ _ hP hD hS ls (lv_sub hl [0, 1, 2, 3, 4] rfl)
    · have hf := (if_neg c1).symm.trans hf
      refine lv_lload_n hx hb dX4_addNumber_30 rfl (lv_at hl 2 rfl) ?_
      refine lv_lload hx hb dX4_addNumber_31 (lv_at hl 3 rfl) ?_
      obtain ⟨v2, h2, hf⟩ := ob hf
      refine x_ldiv hx hb h2 dX4_addNumber_33 ?_
      refine lv_ldc2 hx hb hown (hts _ mX4_addNumber_4) dX4_addNumber_34 ?_
      refine x_lif_lt (tgt := 55) hx hb dX4_addNumber_37 dX4_addNumber_38 (by decide) (fun c3 => ?_) (fun c3 => ?_)
      · have hf := (if_pos c3).symm.trans hf
        obtain rfl := Option.some.inj hf
        exact kx _ _ hP hD hS ls (lv_sub hl [0, 1, 2, 3, 4] rfl)
      · have hf := (if_neg c3).symm.trans hf
        refine lv_lload hx hb dX4_addNumber_41 (lv_at hl 3 rfl) ?_
        refine lv_ldc2 hx hb hown (hts _ mX4_addNumber_4) dX4_addNumber_43 ?_
        refine lv_lmul hx hb dX4_addNumber_46 ?_
        refine lv_lstore (lv' := [(5, .long (u.1 * (10 : Int64))), (0, .ref (h 0)), (1, .long x1), (3, .long x3), (7, .int u.2)]) hx hb dX4_addNumber_47 hl (by decide) rfl (fun ls hl => ?_)
        refine lv_iinc (v := (u.2 + (1 : Int32))) (lv' := [(7, .int (u.2 + (1 : Int32))), (5, .long (u.1 * (10 : Int64))), (0, .ref (h 0)), (1, .long x1), (3, .long x3)]) hx hb dX4_addNumber_49 hl (k := 4) rfl rfl (by decide) rfl (fun ls hl => ?_)
        refine lv_goto (tgt := 23) hx hb dX4_addNumber_52 (by decide) ?_
        exact ih ((u.1 * (10 : Int64)), (u.2 + (1 : Int32))) _ hf _ _ hP hD hS ls (lv_sub hl [2, 3, 4, 1, 0] rfl) kx
def gX4_addNumber_58 (x1 : Int64) (x3 : Int64) (rec : (Int64 × Int32 × Te) → Option (Int64 × Int32 × Te)) (u : Int64 × Int32 × Te) : Option (Int64 × Int32 × Te) :=
  (if (19 : Int32) ≤ u.2.1 then
  some (u.1, u.2.1, u.2.2)
  else (if u.1 ≤ (0 : Int64) then
  some (u.1, u.2.1, u.2.2)
  else (dvJ x3 u.1).bind fun v3 =>
  (fX4_addSign u.2.2 ((48 : Int32) + (Int64.toInt32 (v3 - v3 / (10 : Int64) * (10 : Int64))))).bind fun v4 =>
  rec ((u.1 / (10 : Int64)), (u.2.1 + (1 : Int32)), v4)))
set_option maxHeartbeats 4000000 in
set_option maxRecDepth 100000 in
theorem wX4_addNumber_58 {p : Program} {l : Launch} {e : Env} {s : State} {m : MethodId} {args : Array Value} {below : List Frame} {meth : Method} {c : Code} {Q : State → Prop} (S : CallFix p m c cX4_addNumber 8 s args wsX4_addNumber RX4) (E : xG) (hK : xK E s) (h : Nat → Nat) (x1 : Int64) (x3 : Int64) (A : Nat → Prop) (H0 : Heap) : ∀ (n : Nat) (u : Int64 × Int32 × Te) (r : Int64 × Int32 × Te), lp (gX4_addNumber_58 x1 x3) n u = some r → ∀ (H : Heap) (locs : List Loc), va_P (xD E) vwCl (wT E h u.2.2) H → va_D A (wT E h u.2.2) → va_S A H0 H locs → ∀ (ls : Array Slot), lv_has ls 8 [(0, .ref (h 0)), (1, .long x1), (3, .long x3), (5, .long u.1), (7, .int u.2.1)] → (∀ (H : Heap) (locs : List Loc), va_P (xD E) vwCl (wT E h r.2.2) H → va_D A (wT E h r.2.2) → va_S A H0 H locs → ∀ (ls : Array Slot), lv_has ls 8 [(0, .ref (h 0)), (1, .long x1), (3, .long x3), (5, .long r.1), (7, .int r.2.1)] → W p l e rmX4_addNumber s m args below meth c H locs 0 0 Q (F0 m 102 ls [])) → W p l e rmX4_addNumber s m args below meth c H locs 0 0 Q (F0 m 58 ls []) := by
  obtain ⟨hx, hb, hml, hown, hts⟩ := id S
  intro n
  induction n with
  | zero =>
    intro u r hf
    exact absurd (show (none : Option _) = some r from hf) (fun q => by cases q)
  | succ n ih =>
    intro u r hf H locs hP hD hS ls hl kx
    have hf : gX4_addNumber_58 x1 x3 (lp (gX4_addNumber_58 x1 x3) n) u = some r := hf
    unfold gX4_addNumber_58 at hf
    refine lv_iload hx hb dX4_addNumber_58 (lv_at hl 4 rfl) ?_
    refine lv_bipush (v := 19) hx hb dX4_addNumber_60 (by decide) ?_
    refine lv_icmp_ge (tgt := 102) hx hb dX4_addNumber_62 (by decide) (fun c1 => ?_) (fun c1 => ?_)
    · have hf := (if_pos c1).symm.trans hf
      obtain rfl := Option.some.inj hf
      exact kx _ _ hP hD hS ls (lv_sub hl [0, 1, 2, 3, 4] rfl)
    · have hf := (if_neg c1).symm.trans hf
      refine lv_lload hx hb dX4_addNumber_65 (lv_at hl 3 rfl) ?_
      refine lv_lconst (v := 0) hx hb dX4_addNumber_67 (by decide) ?_
      refine x_lif_le (tgt := 102) hx hb dX4_addNumber_68 dX4_addNumber_69 (by decide) (fun c2 => ?_) (fun c2 => ?_)
      · have hf := (if_pos c2).symm.trans hf
        obtain rfl := Option.some.inj hf
        exact kx _ _ hP hD hS ls (lv_sub hl [0, 1, 2, 3, 4] rfl)
      · have hf := (if_neg c2).symm.trans hf
        refine lv_aload_n hx hb dX4_addNumber_72 rfl (lv_at hl 0 rfl) ?_
        refine lv_bipush (v := 48) hx hb dX4_addNumber_73 (by decide) ?_
        refine lv_lload_n hx hb dX4_addNumber_75 rfl (lv_at hl 2 rfl) ?_
        refine lv_lload hx hb dX4_addNumber_76 (lv_at hl 3 rfl) ?_
        obtain ⟨v3, h3, hf⟩ := ob hf
        refine x_ldiv hx hb h3 dX4_addNumber_78 ?_
        refine lv_ldc2 hx hb hown (hts _ mX4_addNumber_4) dX4_addNumber_79 ?_
        refine lv_lrem hx hb dX4_addNumber_82 (by decide) ?_
        refine lv_l2i (v := (Int64.toInt32 (v3 - v3 / (10 : Int64) * (10 : Int64)))) hx hb dX4_addNumber_83 rfl ?_
        refine lv_iadd hx hb dX4_addNumber_84 ?_
        obtain ⟨v4, h4, hf⟩ := ob hf
        refine x_mR (ws' := wT E h v4) (As := [.int ((48 : Int32) + (Int64.toInt32 (v3 - v3 / (10 : Int64) * (10 : Int64))))]) (rest := []) S hK (kX4_addSign l E h u.2.2 ((48 : Int32) + (Int64.toInt32 (v3 - v3 / (10 : Int64) * (10 : Int64)))) h4) (cwV 1 hts gX4_addNumber_X4_addSign rfl rfl rfl (by decide +kernel) ⟨Nat.le_of_ble_eq_true rfl, Nat.le_of_ble_eq_true rfl⟩) hP hD hS 0 2 rfl rfl 0 rfl rfl rfl rfl hl.1 (Nat.le_of_ble_eq_true rfl) dX4_addNumber_85 rfl ⟨Nat.zero_le _, Nat.zero_le _⟩ rfl (fun H locs hP hD hS => ?_)
        refine lv_lload hx hb dX4_addNumber_88 (lv_at hl 3 rfl) ?_
        refine lv_ldc2 hx hb hown (hts _ mX4_addNumber_4) dX4_addNumber_90 ?_
        refine lv_ldiv hx hb dX4_addNumber_93 (by decide) ?_
        refine lv_lstore (lv' := [(5, .long (u.1 / (10 : Int64))), (0, .ref (h 0)), (1, .long x1), (3, .long x3), (7, .int u.2.1)]) hx hb dX4_addNumber_94 hl (by decide) rfl (fun ls hl => ?_)
        refine lv_iinc (v := (u.2.1 + (1 : Int32))) (lv' := [(7, .int (u.2.1 + (1 : Int32))), (5, .long (u.1 / (10 : Int64))), (0, .ref (h 0)), (1, .long x1), (3, .long x3)]) hx hb dX4_addNumber_96 hl (k := 4) rfl rfl (by decide) rfl (fun ls hl => ?_)
        refine lv_goto (tgt := 58) hx hb dX4_addNumber_99 (by decide) ?_
        exact ih ((u.1 / (10 : Int64)), (u.2.1 + (1 : Int32)), v4) _ hf _ _ hP hD hS ls (lv_sub hl [2, 3, 4, 1, 0] rfl) kx
def fX4_addNumber (te : Te) (x1 : Int64) : Option Te :=
  ((if (0 : Int64) ≤ x1 then
  some te
  else (fX4_addSign te (45 : Int32)).bind fun v3 =>
  some v3)).bind fun v1 =>
  (lp (gX4_addNumber_23 v1 x1 (if 0 < x1 then x1 else -x1)) 1000 ((1 : Int64), (0 : Int32))).bind fun v4 =>
  (lp (gX4_addNumber_58 x1 (if 0 < x1 then x1 else -x1)) 1000 (v4.1, (0 : Int32), v1)).bind fun v5 =>
  some v5.2.2
set_option maxHeartbeats 4000000 in
set_option maxRecDepth 100000 in
theorem kX4_addNumber (l : Launch) (E : xG) (h : Nat → Nat) (te : Te) (x1 : Int64) {r : Te} (hf : fX4_addNumber te x1 = some r) : xMut l yX4_addNumber wsX4_addNumber rmX4_addNumber E [.ref (h 0), .long x1] (wT E h te) none (wT E h r) := by
  refine Met.ofW (cc := cX4_addNumber) (maxL := 8) (ret := none) (by decide) rfl ?_
  intro p e s m args below meth c s₁ B hml hv
  obtain ⟨rfl, hP, hK, hD0⟩ := hv
  have hx := B.exec
  have hb := B.bytes
  have hr := B.returns
  have hts := atoms_spec (ws := wsX4_addNumber) B.pre
  have hown : s.vm.findClass RX4 = some m.cls := findClass_of_methodNamed B.named
  have hlk := B.notSynchronized
  have S : CallFix p m c cX4_addNumber 8 s _ wsX4_addNumber RX4 := ⟨hx, hb, hml, hown, hts⟩
  have hl := lv_entry ([.ref (h 0), .long x1]) (n := 8) (Nat.le_of_ble_eq_true rfl)
  rw [lg_entry_eq]
  generalize (lg_sl ([.ref (h 0), .long x1]) ++ List.replicate (8 - (lg_sl ([.ref (h 0), .long x1])).length) Slot.unset).toArray = ls at hl ⊢
  have hl : lv_has ls 8 [(0, .ref (h 0)), (1, .long x1)] := hl
  have hD := xA.self hD0
  have hS : va_S (xA (wT E h te)) s.heap s.heap [] := va_S.rf
  show W p l e rmX4_addNumber s m _ below meth c s.heap [] 0 0 _ _
  generalize hA : xA (wT E h te) = A at hD hS ⊢
  unfold fX4_addNumber at hf
  refine lv_lload_n hx hb dX4_addNumber_0 rfl (lv_at hl 1 rfl) ?_
  refine lv_lconst (v := 0) hx hb dX4_addNumber_1 (by decide) ?_
  obtain ⟨v1, h1, hf⟩ := ob hf
  refine x_cutH (fun H locs ls => va_P (xD E) vwCl (wT E h v1) H ∧ va_D A (wT E h v1) ∧ va_S A s.heap H locs ∧ lv_has ls 8 [(0, .ref (h 0)), (1, .long x1)]) (pc := 12) (st := []) (fun H locs ls hq => ?_) (fun hj => ?_)
  · obtain ⟨hP, hD, hS, hl⟩ := hq
    refine lv_lload_n hx hb dX4_addNumber_12 rfl (lv_at hl 1 rfl) ?_
    refine va_mabs_long hx hb (by rw [hml]; exact hl.1.symm) hown (hts _ mX4_addNumber_0) (hts _ mX4_addNumber_1) (hts _ mX4_addNumber_2) (hts _ mX4_addNumber_3) (Nat.le_of_ble_eq_true rfl) (Nat.le_of_ble_eq_true rfl) (Nat.zero_le _) (Nat.zero_le _) dX4_addNumber_13 ?_
    refine lv_lstore_n (lv' := [(3, .long (if 0 < x1 then x1 else -x1)), (0, .ref (h 0)), (1, .long x1)]) hx hb dX4_addNumber_16 rfl hl (by decide) rfl (fun ls hl => ?_)
    refine lv_lconst (v := 1) hx hb dX4_addNumber_17 (by decide) ?_
    refine lv_lstore (lv' := [(5, .long (1 : Int64)), (3, .long (if 0 < x1 then x1 else -x1)), (0, .ref (h 0)), (1, .long x1)]) hx hb dX4_addNumber_18 hl (by decide) rfl (fun ls hl => ?_)
    refine lv_iconst (v := 0) hx hb dX4_addNumber_20 (by decide) ?_
    refine lv_istore (lv' := [(7, .int (0 : Int32)), (5, .long (1 : Int64)), (3, .long (if 0 < x1 then x1 else -x1)), (0, .ref (h 0)), (1, .long x1)]) hx hb dX4_addNumber_21 hl (by decide) rfl (fun ls hl => ?_)
    obtain ⟨v4, h4, hf⟩ := ob hf
    refine wX4_addNumber_23 S E hK h v1 x1 (if 0 < x1 then x1 else -x1) _ _ 1000 _ _ h4 _ _ hP hD hS ls (lv_sub hl [3, 4, 2, 1, 0] rfl) (fun H locs hP hD hS ls hl => ?_)
    refine lv_iconst (v := 0) hx hb dX4_addNumber_55 (by decide) ?_
    refine lv_istore (lv' := [(7, .int (0 : Int32)), (0, .ref (h 0)), (1, .long x1), (3, .long (if 0 < x1 then x1 else -x1)), (5, .long v4.1)]) hx hb dX4_addNumber_56 hl (by decide) rfl (fun ls hl => ?_)
    obtain ⟨v5, h5, hf⟩ := ob hf
    refine wX4_addNumber_58 S E hK h x1 (if 0 < x1 then x1 else -x1) _ _ 1000 _ _ h5 _ _ hP hD hS ls (lv_sub hl [1, 2, 3, 4, 0] rfl) (fun H locs hP hD hS ls hl => ?_)
    obtain rfl := Option.some.inj hf
    subst hA
    exact x_vretM hx hb hr hlk hP hS dX4_addNumber_102
  · have hf := h1
    refine x_lif_ge (tgt := 12) hx hb dX4_addNumber_2 dX4_addNumber_3 (by decide) (fun c2 => ?_) (fun c2 => ?_)
    · have hf := (if_pos c2).symm.trans hf
      obtain rfl := Option.some.inj hf
      exact hj _ _ ls ⟨hP, hD, hS, lv_sub hl [0, 1] rfl⟩
    · have hf := (if_neg c2).symm.trans hf
      refine lv_aload_n hx hb dX4_addNumber_6 rfl (lv_at hl 0 rfl) ?_
      refine lv_bipush (v := 45) hx hb dX4_addNumber_7 (by decide) ?_
      obtain ⟨v3, h3, hf⟩ := ob hf
      refine x_mR (ws' := wT E h v3) (As := [.int (45 : Int32)]) (rest := []) S hK (kX4_addSign l E h te (45 : Int32) h3) (cwV 1 hts gX4_addNumber_X4_addSign rfl rfl rfl (by decide +kernel) ⟨Nat.le_of_ble_eq_true rfl, Nat.le_of_ble_eq_true rfl⟩) hP hD hS 0 2 rfl rfl 0 rfl rfl rfl rfl hl.1 (Nat.le_of_ble_eq_true rfl) dX4_addNumber_9 rfl ⟨Nat.zero_le _, Nat.zero_le _⟩ rfl (fun H locs hP hD hS => ?_)
      obtain rfl := Option.some.inj hf
      exact hj _ _ ls ⟨hP, hD, hS, lv_sub hl [0, 1] rfl⟩
abbrev rmX4_signAt : Room := { frames := 1, cells := 0, slots := 0, locals := 22 }
theorem mX4_signAt_0 : Cond.fieldLink RX4 15 "EvenWhite$Text" "many" "I" ∈ wsX4_signAt := by decide +kernel
theorem mX4_signAt_1 : Cond.initialized RX5 ∈ wsX4_signAt := by decide +kernel
theorem mX4_signAt_2 : Cond.static yX5_within ∈ wsX4_signAt := by decide +kernel
theorem mX4_signAt_3 : Cond.fieldLink RX4 9 "EvenWhite$Text" "signs" "[I" ∈ wsX4_signAt := by decide +kernel
theorem inX4_signAt_4 : ∀ w ∈ u_ws RX4 TX4 2, w ∈ wsX4_signAt := by decide +kernel
def fX4_signAt (te : Te) (x1 : Int32) : Option Int32 :=
  (fX5_within x1 (0 : Int32) ((Te_many te) - (1 : Int32))).bind fun v1 =>
  ((if v1 = (0 : Int32) then
  some (-1 : Int32)
  else (rdI (Te_signs te) 96 x1).bind fun v4 =>
  some v4)).bind fun v2 =>
  some v2
set_option maxHeartbeats 4000000 in
set_option maxRecDepth 100000 in
theorem kX4_signAt (l : Launch) (E : xG) (h : Nat → Nat) (te : Te) (x1 : Int32) {r : Int32} (hf : fX4_signAt te x1 = some r) : xPure l yX4_signAt wsX4_signAt rmX4_signAt E [.ref (h 0), .int x1] (wT E h te) (.int r) := by
  refine Met.ofW (cc := cX4_signAt) (maxL := 2) (ret := (some .int)) (by decide) rfl ?_
  intro p e s m args below meth c s₁ B hml hv
  obtain ⟨rfl, hP, hK⟩ := hv
  have hx := B.exec
  have hb := B.bytes
  have hr := B.returns
  have hts := atoms_spec (ws := wsX4_signAt) B.pre
  have hown : s.vm.findClass RX4 = some m.cls := findClass_of_methodNamed B.named
  have hlk := B.notSynchronized
  have S : CallFix p m c cX4_signAt 2 s _ wsX4_signAt RX4 := ⟨hx, hb, hml, hown, hts⟩
  have hl := lv_entry ([.ref (h 0), .int x1]) (n := 2) (Nat.le_of_ble_eq_true rfl)
  rw [lg_entry_eq]
  generalize (lg_sl ([.ref (h 0), .int x1]) ++ List.replicate (2 - (lg_sl ([.ref (h 0), .int x1])).length) Slot.unset).toArray = ls at hl ⊢
  have hl : lv_has ls 2 [(0, .ref (h 0)), (1, .int x1)] := hl
  unfold fX4_signAt at hf
  refine lv_iload_n hx hb dX4_signAt_0 rfl (lv_at hl 1 rfl) ?_
  refine lv_iconst (v := 0) hx hb dX4_signAt_1 (by decide) ?_
  refine lv_aload_n hx hb dX4_signAt_2 rfl (lv_at hl 0 rfl) ?_
  refine x_get hx hb hts inX4_signAt_4 hown hK hP 0 rfl rfl 0 (by decide) mX4_signAt_0 rfl dX4_signAt_3 ?_
  refine lv_iconst (v := 1) hx hb dX4_signAt_6 (by decide) ?_
  refine lv_isub hx hb dX4_signAt_7 ?_
  obtain ⟨v1, h1, hf⟩ := ob hf
  refine x_pN (As := [.int x1, .int (0 : Int32), .int ((Te_many te) - (1 : Int32))]) (rest := []) S hK (kX5_within l E x1 (0 : Int32) ((Te_many te) - (1 : Int32)) h1) ⟨va_cnB 3 hts gX4_signAt_X5_within_n31 rfl rfl rfl hK.2.2.2.2.2 (hts _ mX4_signAt_1) (by decide +kernel) ⟨Nat.le_of_ble_eq_true rfl, Nat.le_of_ble_eq_true rfl⟩, hts _ mX4_signAt_2, trivial⟩ x_nil rfl hl.1 (Nat.le_of_ble_eq_true rfl) dX4_signAt_8 rfl ⟨Nat.zero_le _, Nat.zero_le _⟩ ?_
  obtain ⟨v2, h2, hf⟩ := ob hf
  refine x_cutL (fun ls => lv_has ls 2 [(0, .ref (h 0)), (1, .int x1)]) (pc := 24) (st := [.int v2]) (fun ls hl => ?_) (fun hj => ?_)
  · obtain rfl := Option.some.inj hf
    exact x_iret hx hb hr hlk (vp_nar_int _) dX4_signAt_24
  · have hf := h2
    refine lv_if_eq (tgt := 23) hx hb dX4_signAt_11 (by decide) (fun c3 => ?_) (fun c3 => ?_)
    · have hf := (if_pos c3).symm.trans hf
      refine lv_iconst (v := (-1)) hx hb dX4_signAt_23 (by decide) ?_
      obtain rfl := Option.some.inj hf
      exact hj ls (lv_sub hl [0, 1] rfl)
    · have hf := (if_neg c3).symm.trans hf
      refine lv_aload_n hx hb dX4_signAt_14 rfl (lv_at hl 0 rfl) ?_
      refine x_get hx hb hts inX4_signAt_4 hown hK hP 0 rfl rfl 1 (by decide) mX4_signAt_3 rfl dX4_signAt_15 ?_
      refine lv_iload_n hx hb dX4_signAt_18 rfl (lv_at hl 1 rfl) ?_
      obtain ⟨v4, h4, hf⟩ := ob hf
      refine x_iald hx hb hK hP 1 rfl h4 dX4_signAt_19 ?_
      refine lv_goto (tgt := 24) hx hb dX4_signAt_20 (by decide) ?_
      obtain rfl := Option.some.inj hf
      exact hj ls (lv_sub hl [0, 1] rfl)
