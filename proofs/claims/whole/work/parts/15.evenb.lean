
abbrev rmX0_isOpen : Room := { frames := 1, cells := 0, slots := 0, locals := 22 }
theorem mX0_isOpen_0 : Cond.fieldLink RX0 20 "EvenWhite$Even" "open" "[Z" ∈ wsX0_isOpen := by decide +kernel
theorem inX0_isOpen_0 : ∀ w ∈ u_ws RX0 TX0 8, w ∈ wsX0_isOpen := by decide +kernel
def fX0_isOpen (ev : Ev) (z : Fo) (x1 : Int32) (x2 : Int32) : Option Int32 :=
  (fX0_numberOf ev z x1 x2).bind fun v1 =>
  (rdI (Ev_opn ev) 6 v1).bind fun v2 =>
  ckZ v2
set_option maxHeartbeats 4000000 in
set_option maxRecDepth 100000 in
theorem kX0_isOpen (l : Launch) (E : xG) (q : Nat → Nat) (f : Nat → Nat) (ev : Ev) (z : Fo) (x1 : Int32) (x2 : Int32) {r : Int32} (hf : fX0_isOpen ev z x1 x2 = some r) : xPure l yX0_isOpen wsX0_isOpen rmX0_isOpen E [.ref (q 0), .int x1, .int x2] (wE E q f ev z) (.int r) := by
  refine Met.ofW (cc := cX0_isOpen) (maxL := 3) (ret := (some .boolean)) (by decide) rfl ?_
  intro p e s m args below meth c s₁ B hml hv
  obtain ⟨rfl, hP, hK⟩ := hv
  have hx := B.exec
  have hb := B.bytes
  have hr := B.returns
  have hts := atoms_spec (ws := wsX0_isOpen) B.pre
  have hown : s.vm.findClass RX0 = some m.cls := findClass_of_methodNamed B.named
  have hlk := B.notSynchronized
  have S : CallFix p m c cX0_isOpen 3 s _ wsX0_isOpen RX0 := ⟨hx, hb, hml, hown, hts⟩
  have hl := lv_entry ([.ref (q 0), .int x1, .int x2]) (n := 3) (Nat.le_of_ble_eq_true rfl)
  rw [lg_entry_eq]
  generalize (lg_sl ([.ref (q 0), .int x1, .int x2]) ++ List.replicate (3 - (lg_sl ([.ref (q 0), .int x1, .int x2])).length) Slot.unset).toArray = ls at hl ⊢
  have hl : lv_has ls 3 [(0, .ref (q 0)), (1, .int x1), (2, .int x2)] := hl
  unfold fX0_isOpen at hf
  refine lv_aload_n hx hb dX0_isOpen_0 rfl (lv_at hl 0 rfl) ?_
  refine x_get hx hb hts inX0_isOpen_0 hown hK hP 0 rfl rfl 2 (by decide) mX0_isOpen_0 rfl dX0_isOpen_1 ?_
  refine lv_aload_n hx hb dX0_isOpen_4 rfl (lv_at hl 0 rfl) ?_
  refine lv_iload_n hx hb dX0_isOpen_5 rfl (lv_at hl 1 rfl) ?_
  refine lv_iload_n hx hb dX0_isOpen_6 rfl (lv_at hl 2 rfl) ?_
  obtain ⟨v1, h1, hf⟩ := ob hf
  refine x_pV (As := [.int x1, .int x2]) (rest := [.ref (q 8)]) S hK (kX0_numberOf l E q f ev z x1 x2 h1) (cwV 2 hts gX0_isOpen_X0_numberOf rfl rfl rfl (by decide +kernel) ⟨Nat.le_of_ble_eq_true rfl, Nat.le_of_ble_eq_true rfl⟩) hP 0 rfl rfl rfl rfl hl.1 (Nat.le_of_ble_eq_true rfl) dX0_isOpen_7 rfl ⟨Nat.zero_le _, Nat.zero_le _⟩ ?_
  obtain ⟨v2, h2, hf⟩ := ob hf
  refine x_zald hx hb hK hP 8 rfl h2 dX0_isOpen_10 ?_
  obtain ⟨hn, rfl⟩ := ckZ_ok hf
  exact x_iret hx hb hr hlk hn dX0_isOpen_11
abbrev rmX0_openSpaces : Room := { frames := 1, cells := 0, slots := 0, locals := 20 }
theorem mX0_openSpaces_0 : Cond.fieldLink RX0 20 "EvenWhite$Even" "open" "[Z" ∈ wsX0_openSpaces := by decide +kernel
theorem inX0_openSpaces_0 : ∀ w ∈ u_ws RX0 TX0 8, w ∈ wsX0_openSpaces := by decide +kernel
def gX0_openSpaces_4 (ev : Ev) (z : Fo) (rec : (Int32 × Int32) → Option (Int32 × Int32)) (u : Int32 × Int32) : Option (Int32 × Int32) :=
  (fX0_spaces ev z).bind fun v1 =>
  (if v1 ≤ u.2 then
  some (u.1, u.2)
  else (rdI (Ev_opn ev) 6 u.2).bind fun v3 =>
  rec ((u.1 + (if v3 = (0 : Int32) then (0 : Int32) else (1 : Int32))), (u.2 + (1 : Int32))))
set_option maxHeartbeats 4000000 in
set_option maxRecDepth 100000 in
theorem wX0_openSpaces_4 {p : Program} {l : Launch} {e : Env} {s : State} {m : MethodId} {args : Array Value} {below : List Frame} {meth : Method} {c : Code} {Q : State → Prop} (S : CallFix p m c cX0_openSpaces 3 s args wsX0_openSpaces RX0) (E : xG) (hK : xK E s) (q : Nat → Nat) (f : Nat → Nat) (ev : Ev) (z : Fo) (hP : va_P (xD E) vwCl (wE E q f ev z) s.heap) : ∀ (n : Nat) (u : Int32 × Int32) (r : Int32 × Int32), lp (gX0_openSpaces_4 ev z) n u = some r → ∀ (ls : Array Slot), lv_has ls 3 [(0, .ref (q 0)), (1, .int u.1), (2, .int u.2)] → (∀ (ls : Array Slot), lv_has ls 3 [(0, .ref (q 0)), (1, .int r.1), (2, .int r.2)] → W p l e rmX0_openSpaces s m args below meth c s.heap [] 0 0 Q (F0 m 35 ls [])) → W p l e rmX0_openSpaces s m args below meth c s.heap [] 0 0 Q (F0 m 4 ls []) := by
  obtain ⟨hx, hb, hml, hown, hts⟩ := id S
  intro n
  induction n with
  | zero =>
    intro u r hf
    exact absurd (show (none : Option _) = some r from hf) (fun q => by cases q)
  | succ n ih =>
    intro u r hf ls hl kx
    have hf : gX0_openSpaces_4 ev z (lp (gX0_openSpaces_4 ev z) n) u = some r := hf
    unfold gX0_openSpaces_4 at hf
    refine lv_iload_n hx hb dX0_openSpaces_4 rfl (lv_at hl 2 rfl) ?_
    refine lv_aload_n hx hb dX0_openSpaces_5 rfl (lv_at hl 0 rfl) ?_
    obtain ⟨v1, h1, hf⟩ := ob hf
    refine x_pV (As := []) (rest := [.int u.2]) S hK (kX0_spaces l E q f ev z h1) (cwV 0 hts gX0_openSpaces_X0_spaces rfl rfl rfl (by decide +kernel) ⟨Nat.le_of_ble_eq_true rfl, Nat.le_of_ble_eq_true rfl⟩) hP 0 rfl rfl rfl rfl hl.1 (Nat.le_of_ble_eq_true rfl) dX0_openSpaces_6 rfl ⟨Nat.zero_le _, Nat.zero_le _⟩ ?_
    refine lv_icmp_ge (tgt := 35) hx hb dX0_openSpaces_9 (by decide) (fun c2 => ?_) (fun c2 => ?_)
    · have hf := (if_pos c2).symm.trans hf
      obtain rfl := Option.some.inj hf
      exact kx ls (lv_sub hl [0, 1, 2] rfl)
    · have hf := (if_neg c2).symm.trans hf
      refine lv_iload_n hx hb dX0_openSpaces_12 rfl (lv_at hl 1 rfl) ?_
      refine lv_aload_n hx hb dX0_openSpaces_13 rfl (lv_at hl 0 rfl) ?_
      refine x_get hx hb hts inX0_openSpaces_0 hown hK hP 0 rfl rfl 2 (by decide) mX0_openSpaces_0 rfl dX0_openSpaces_14 ?_
      refine lv_iload_n hx hb dX0_openSpaces_17 rfl (lv_at hl 2 rfl) ?_
      obtain ⟨v3, h3, hf⟩ := ob hf
      refine x_zald hx hb hK hP 8 rfl h3 dX0_openSpaces_18 ?_
      refine x_cut (pc := 27) (ls := ls) (st := [.int (if v3 = (0 : Int32) then (0 : Int32) else (1 : Int32)), .int u.1]) ?_ (fun hj => ?_)
      · refine lv_iadd hx hb dX0_openSpaces_27 ?_
        refine lv_istore_n (lv' := [(1, .int (u.1 + (if v3 = (0 : Int32) then (0 : Int32) else (1 : Int32)))), (0, .ref (q 0)), (2, .int u.2)]) hx hb dX0_openSpaces_28 rfl hl (by decide) rfl (fun ls hl => ?_)
        refine lv_iinc (v := (u.2 + (1 : Int32))) (lv' := [(2, .int (u.2 + (1 : Int32))), (1, .int (u.1 + (if v3 = (0 : Int32) then (0 : Int32) else (1 : Int32)))), (0, .ref (q 0))]) hx hb dX0_openSpaces_29 hl (k := 2) rfl rfl (by decide) rfl (fun ls hl => ?_)
        refine lv_goto (tgt := 4) hx hb dX0_openSpaces_32 (by decide) ?_
        exact ih ((u.1 + (if v3 = (0 : Int32) then (0 : Int32) else (1 : Int32))), (u.2 + (1 : Int32))) _ hf ls (lv_sub hl [2, 1, 0] rfl) kx
      · refine lv_if_eq (tgt := 26) hx hb dX0_openSpaces_19 (by decide) (fun c4 => ?_) (fun c4 => ?_)
        · refine lv_iconst (v := 0) hx hb dX0_openSpaces_26 (by decide) ?_
          exact (by rw [if_pos c4] at hj; exact hj)
        · refine lv_iconst (v := 1) hx hb dX0_openSpaces_22 (by decide) ?_
          refine lv_goto (tgt := 27) hx hb dX0_openSpaces_23 (by decide) ?_
          exact (by rw [if_neg c4] at hj; exact hj)
def fX0_openSpaces (ev : Ev) (z : Fo) : Option Int32 :=
  (lp (gX0_openSpaces_4 ev z) 1000 ((0 : Int32), (0 : Int32))).bind fun v1 =>
  some v1.1
set_option maxHeartbeats 4000000 in
set_option maxRecDepth 100000 in
theorem kX0_openSpaces (l : Launch) (E : xG) (q : Nat → Nat) (f : Nat → Nat) (ev : Ev) (z : Fo) {r : Int32} (hf : fX0_openSpaces ev z = some r) : xPure l yX0_openSpaces wsX0_openSpaces rmX0_openSpaces E [.ref (q 0)] (wE E q f ev z) (.int r) := by
  refine Met.ofW (cc := cX0_openSpaces) (maxL := 3) (ret := (some .int)) (by decide) rfl ?_
  intro p e s m args below meth c s₁ B hml hv
  obtain ⟨rfl, hP, hK⟩ := hv
  have hx := B.exec
  have hb := B.bytes
  have hr := B.returns
  have hts := atoms_spec (ws := wsX0_openSpaces) B.pre
  have hown : s.vm.findClass RX0 = some m.cls := findClass_of_methodNamed B.named
  have hlk := B.notSynchronized
  have S : CallFix p m c cX0_openSpaces 3 s _ wsX0_openSpaces RX0 := ⟨hx, hb, hml, hown, hts⟩
  have hl := lv_entry ([.ref (q 0)]) (n := 3) (Nat.le_of_ble_eq_true rfl)
  rw [lg_entry_eq]
  generalize (lg_sl ([.ref (q 0)]) ++ List.replicate (3 - (lg_sl ([.ref (q 0)])).length) Slot.unset).toArray = ls at hl ⊢
  have hl : lv_has ls 3 [(0, .ref (q 0))] := hl
  unfold fX0_openSpaces at hf
  refine lv_iconst (v := 0) hx hb dX0_openSpaces_0 (by decide) ?_
  refine lv_istore_n (lv' := [(1, .int (0 : Int32)), (0, .ref (q 0))]) hx hb dX0_openSpaces_1 rfl hl (by decide) rfl (fun ls hl => ?_)
  refine lv_iconst (v := 0) hx hb dX0_openSpaces_2 (by decide) ?_
  refine lv_istore_n (lv' := [(2, .int (0 : Int32)), (1, .int (0 : Int32)), (0, .ref (q 0))]) hx hb dX0_openSpaces_3 rfl hl (by decide) rfl (fun ls hl => ?_)
  obtain ⟨v1, h1, hf⟩ := ob hf
  refine wX0_openSpaces_4 S E hK q f ev z hP 1000 _ _ h1 ls (lv_sub hl [2, 1, 0] rfl) (fun ls hl => ?_)
  refine lv_iload_n hx hb dX0_openSpaces_35 rfl (lv_at hl 1 rfl) ?_
  obtain rfl := Option.some.inj hf
  exact x_iret hx hb hr hlk (vp_nar_int _) dX0_openSpaces_36
abbrev rmX0_spaceAbove : Room := { frames := 1, cells := 0, slots := 0, locals := 22 }
theorem mX0_spaceAbove_0 : Cond.fieldLink RX0 24 "EvenWhite$Even" "eightfold" "[J" ∈ wsX0_spaceAbove := by decide +kernel
theorem inX0_spaceAbove_0 : ∀ w ∈ u_ws RX0 TX0 8, w ∈ wsX0_spaceAbove := by decide +kernel
def fX0_spaceAbove (ev : Ev) (z : Fo) (x1 : Int32) (x2 : Int32) : Option Int64 :=
  (fX0_numberOf ev z x1 x2).bind fun v1 =>
  (rdJ (Ev_eight ev) 6 v1).bind fun v2 =>
  some v2
set_option maxHeartbeats 4000000 in
set_option maxRecDepth 100000 in
theorem kX0_spaceAbove (l : Launch) (E : xG) (q : Nat → Nat) (f : Nat → Nat) (ev : Ev) (z : Fo) (x1 : Int32) (x2 : Int32) {r : Int64} (hf : fX0_spaceAbove ev z x1 x2 = some r) : xPure l yX0_spaceAbove wsX0_spaceAbove rmX0_spaceAbove E [.ref (q 0), .int x1, .int x2] (wE E q f ev z) (.long r) := by
  refine Met.ofW (cc := cX0_spaceAbove) (maxL := 3) (ret := (some .long)) (by decide) rfl ?_
  intro p e s m args below meth c s₁ B hml hv
  obtain ⟨rfl, hP, hK⟩ := hv
  have hx := B.exec
  have hb := B.bytes
  have hr := B.returns
  have hts := atoms_spec (ws := wsX0_spaceAbove) B.pre
  have hown : s.vm.findClass RX0 = some m.cls := findClass_of_methodNamed B.named
  have hlk := B.notSynchronized
  have S : CallFix p m c cX0_spaceAbove 3 s _ wsX0_spaceAbove RX0 := ⟨hx, hb, hml, hown, hts⟩
  have hl := lv_entry ([.ref (q 0), .int x1, .int x2]) (n := 3) (Nat.le_of_ble_eq_true rfl)
  rw [lg_entry_eq]
  generalize (lg_sl ([.ref (q 0), .int x1, .int x2]) ++ List.replicate (3 - (lg_sl ([.ref (q 0), .int x1, .int x2])).length) Slot.unset).toArray = ls at hl ⊢
  have hl : lv_has ls 3 [(0, .ref (q 0)), (1, .int x1), (2, .int x2)] := hl
  unfold fX0_spaceAbove at hf
  refine lv_aload_n hx hb dX0_spaceAbove_0 rfl (lv_at hl 0 rfl) ?_
  refine x_get hx hb hts inX0_spaceAbove_0 hown hK hP 0 rfl rfl 3 (by decide) mX0_spaceAbove_0 rfl dX0_spaceAbove_1 ?_
  refine lv_aload_n hx hb dX0_spaceAbove_4 rfl (lv_at hl 0 rfl) ?_
  refine lv_iload_n hx hb dX0_spaceAbove_5 rfl (lv_at hl 1 rfl) ?_
  refine lv_iload_n hx hb dX0_spaceAbove_6 rfl (lv_at hl 2 rfl) ?_
  obtain ⟨v1, h1, hf⟩ := ob hf
  refine x_pV (As := [.int x1, .int x2]) (rest := [.ref (q 9)]) S hK (kX0_numberOf l E q f ev z x1 x2 h1) (cwV 2 hts gX0_spaceAbove_X0_numberOf rfl rfl rfl (by decide +kernel) ⟨Nat.le_of_ble_eq_true rfl, Nat.le_of_ble_eq_true rfl⟩) hP 0 rfl rfl rfl rfl hl.1 (Nat.le_of_ble_eq_true rfl) dX0_spaceAbove_7 rfl ⟨Nat.zero_le _, Nat.zero_le _⟩ ?_
  obtain ⟨v2, h2, hf⟩ := ob hf
  refine x_lald hx hb hK hP 9 rfl h2 dX0_spaceAbove_10 ?_
  obtain rfl := Option.some.inj hf
  exact x_lret hx hb hr hlk dX0_spaceAbove_11
abbrev rmX0_spaceBelow : Room := { frames := 0, cells := 0, slots := 0, locals := 0 }
theorem mX0_spaceBelow_0 : Cond.constantLong RX0 88 (8) ∈ wsX0_spaceBelow := by decide +kernel
theorem mX0_spaceBelow_1 : Cond.fieldLink RX0 28 "EvenWhite$Even" "below" "J" ∈ wsX0_spaceBelow := by decide +kernel
theorem inX0_spaceBelow_0 : ∀ w ∈ u_ws RX0 TX0 8, w ∈ wsX0_spaceBelow := by decide +kernel
def fX0_spaceBelow (ev : Ev) (z : Fo) : Option Int64 :=
  some ((8 : Int64) * (Ev_below ev))
set_option maxHeartbeats 4000000 in
set_option maxRecDepth 100000 in
theorem kX0_spaceBelow (l : Launch) (E : xG) (q : Nat → Nat) (f : Nat → Nat) (ev : Ev) (z : Fo) {r : Int64} (hf : fX0_spaceBelow ev z = some r) : xPure l yX0_spaceBelow wsX0_spaceBelow rmX0_spaceBelow E [.ref (q 0)] (wE E q f ev z) (.long r) := by
  refine Met.ofW (cc := cX0_spaceBelow) (maxL := 1) (ret := (some .long)) (by decide) rfl ?_
  intro p e s m args below meth c s₁ B hml hv
  obtain ⟨rfl, hP, hK⟩ := hv
  have hx := B.exec
  have hb := B.bytes
  have hr := B.returns
  have hts := atoms_spec (ws := wsX0_spaceBelow) B.pre
  have hown : s.vm.findClass RX0 = some m.cls := findClass_of_methodNamed B.named
  have hlk := B.notSynchronized
  have S : CallFix p m c cX0_spaceBelow 1 s _ wsX0_spaceBelow RX0 := ⟨hx, hb, hml, hown, hts⟩
  have hl := lv_entry ([.ref (q 0)]) (n := 1) (Nat.le_of_ble_eq_true rfl)
  rw [lg_entry_eq]
  generalize (lg_sl ([.ref (q 0)]) ++ List.replicate (1 - (lg_sl ([.ref (q 0)])).length) Slot.unset).toArray = ls at hl ⊢
  have hl : lv_has ls 1 [(0, .ref (q 0))] := hl
  unfold fX0_spaceBelow at hf
  refine lv_ldc2 hx hb hown (hts _ mX0_spaceBelow_0) dX0_spaceBelow_0 ?_
  refine lv_aload_n hx hb dX0_spaceBelow_3 rfl (lv_at hl 0 rfl) ?_
  refine x_get hx hb hts inX0_spaceBelow_0 hown hK hP 0 rfl rfl 4 (by decide) mX0_spaceBelow_1 rfl dX0_spaceBelow_4 ?_
  refine lv_lmul hx hb dX0_spaceBelow_7 ?_
  obtain rfl := Option.some.inj hf
  exact x_lret hx hb hr hlk dX0_spaceBelow_8
abbrev rmX0_wholeSpace : Room := { frames := 1, cells := 0, slots := 0, locals := 22 }
theorem mX0_wholeSpace_0 : Cond.fieldLink RX0 32 "EvenWhite$Even" "whole" "[J" ∈ wsX0_wholeSpace := by decide +kernel
theorem inX0_wholeSpace_0 : ∀ w ∈ u_ws RX0 TX0 8, w ∈ wsX0_wholeSpace := by decide +kernel
def fX0_wholeSpace (ev : Ev) (z : Fo) (x1 : Int32) (x2 : Int32) : Option Int64 :=
  (fX0_numberOf ev z x1 x2).bind fun v1 =>
  (rdJ (Ev_whole ev) 6 v1).bind fun v2 =>
  some v2
set_option maxHeartbeats 4000000 in
set_option maxRecDepth 100000 in
theorem kX0_wholeSpace (l : Launch) (E : xG) (q : Nat → Nat) (f : Nat → Nat) (ev : Ev) (z : Fo) (x1 : Int32) (x2 : Int32) {r : Int64} (hf : fX0_wholeSpace ev z x1 x2 = some r) : xPure l yX0_wholeSpace wsX0_wholeSpace rmX0_wholeSpace E [.ref (q 0), .int x1, .int x2] (wE E q f ev z) (.long r) := by
  refine Met.ofW (cc := cX0_wholeSpace) (maxL := 3) (ret := (some .long)) (by decide) rfl ?_
  intro p e s m args below meth c s₁ B hml hv
  obtain ⟨rfl, hP, hK⟩ := hv
  have hx := B.exec
  have hb := B.bytes
  have hr := B.returns
  have hts := atoms_spec (ws := wsX0_wholeSpace) B.pre
  have hown : s.vm.findClass RX0 = some m.cls := findClass_of_methodNamed B.named
  have hlk := B.notSynchronized
  have S : CallFix p m c cX0_wholeSpace 3 s _ wsX0_wholeSpace RX0 := ⟨hx, hb, hml, hown, hts⟩
  have hl := lv_entry ([.ref (q 0), .int x1, .int x2]) (n := 3) (Nat.le_of_ble_eq_true rfl)
  rw [lg_entry_eq]
  generalize (lg_sl ([.ref (q 0), .int x1, .int x2]) ++ List.replicate (3 - (lg_sl ([.ref (q 0), .int x1, .int x2])).length) Slot.unset).toArray = ls at hl ⊢
  have hl : lv_has ls 3 [(0, .ref (q 0)), (1, .int x1), (2, .int x2)] := hl
  unfold fX0_wholeSpace at hf
  refine lv_aload_n hx hb dX0_wholeSpace_0 rfl (lv_at hl 0 rfl) ?_
  refine x_get hx hb hts inX0_wholeSpace_0 hown hK hP 0 rfl rfl 5 (by decide) mX0_wholeSpace_0 rfl dX0_wholeSpace_1 ?_
  refine lv_aload_n hx hb dX0_wholeSpace_4 rfl (lv_at hl 0 rfl) ?_
  refine lv_iload_n hx hb dX0_wholeSpace_5 rfl (lv_at hl 1 rfl) ?_
  refine lv_iload_n hx hb dX0_wholeSpace_6 rfl (lv_at hl 2 rfl) ?_
  obtain ⟨v1, h1, hf⟩ := ob hf
  refine x_pV (As := [.int x1, .int x2]) (rest := [.ref (q 10)]) S hK (kX0_numberOf l E q f ev z x1 x2 h1) (cwV 2 hts gX0_wholeSpace_X0_numberOf rfl rfl rfl (by decide +kernel) ⟨Nat.le_of_ble_eq_true rfl, Nat.le_of_ble_eq_true rfl⟩) hP 0 rfl rfl rfl rfl hl.1 (Nat.le_of_ble_eq_true rfl) dX0_wholeSpace_7 rfl ⟨Nat.zero_le _, Nat.zero_le _⟩ ?_
  obtain ⟨v2, h2, hf⟩ := ob hf
  refine x_lald hx hb hK hP 10 rfl h2 dX0_wholeSpace_10 ?_
  obtain rfl := Option.some.inj hf
  exact x_lret hx hb hr hlk dX0_wholeSpace_11
abbrev rmX0_whiteAbove : Room := { frames := 2, cells := 0, slots := 0, locals := 49 }
theorem mX0_whiteAbove_0 : Cond.fieldLink RX0 9 "EvenWhite$Even" "fount" "LEvenWhite$Fount;" ∈ wsX0_whiteAbove := by decide +kernel
theorem mX0_whiteAbove_1 : Cond.fieldLink RX0 28 "EvenWhite$Even" "below" "J" ∈ wsX0_whiteAbove := by decide +kernel
theorem inX0_whiteAbove_0 : ∀ w ∈ u_ws RX0 TX0 8, w ∈ wsX0_whiteAbove := by decide +kernel
def fX0_whiteAbove (ev : Ev) (z : Fo) (x1 : Int32) (x2 : Int32) : Option Int64 :=
  (fX0_spaceAbove ev z x1 (1 : Int32)).bind fun v1 =>
  (fX0_spaceAbove ev z x2 (0 : Int32)).bind fun v2 =>
  (fX1_bareOf z x1 x2).bind fun v3 =>
  some ((v1 + v2) + ((Int32.toInt64 v3) * (Ev_below ev)))
set_option maxHeartbeats 4000000 in
set_option maxRecDepth 100000 in
theorem kX0_whiteAbove (l : Launch) (E : xG) (q : Nat → Nat) (f : Nat → Nat) (ev : Ev) (z : Fo) (x1 : Int32) (x2 : Int32) {r : Int64} (hf : fX0_whiteAbove ev z x1 x2 = some r) : xPure l yX0_whiteAbove wsX0_whiteAbove rmX0_whiteAbove E [.ref (q 0), .int x1, .int x2] (wE E q f ev z) (.long r) := by
  refine Met.ofW (cc := cX0_whiteAbove) (maxL := 3) (ret := (some .long)) (by decide) rfl ?_
  intro p e s m args below meth c s₁ B hml hv
  obtain ⟨rfl, hP, hK⟩ := hv
  have hx := B.exec
  have hb := B.bytes
  have hr := B.returns
  have hts := atoms_spec (ws := wsX0_whiteAbove) B.pre
  have hown : s.vm.findClass RX0 = some m.cls := findClass_of_methodNamed B.named
  have hlk := B.notSynchronized
  have S : CallFix p m c cX0_whiteAbove 3 s _ wsX0_whiteAbove RX0 := ⟨hx, hb, hml, hown, hts⟩
  have hl := lv_entry ([.ref (q 0), .int x1, .int x2]) (n := 3) (Nat.le_of_ble_eq_true rfl)
  rw [lg_entry_eq]
  generalize (lg_sl ([.ref (q 0), .int x1, .int x2]) ++ List.replicate (3 - (lg_sl ([.ref (q 0), .int x1, .int x2])).length) Slot.unset).toArray = ls at hl ⊢
  have hl : lv_has ls 3 [(0, .ref (q 0)), (1, .int x1), (2, .int x2)] := hl
  unfold fX0_whiteAbove at hf
  refine lv_aload_n hx hb dX0_whiteAbove_0 rfl (lv_at hl 0 rfl) ?_
  refine lv_iload_n hx hb dX0_whiteAbove_1 rfl (lv_at hl 1 rfl) ?_
  refine lv_iconst (v := 1) hx hb dX0_whiteAbove_2 (by decide) ?_
  obtain ⟨v1, h1, hf⟩ := ob hf
  refine x_pV (As := [.int x1, .int (1 : Int32)]) (rest := []) S hK (kX0_spaceAbove l E q f ev z x1 (1 : Int32) h1) (cwV 2 hts gX0_whiteAbove_X0_spaceAbove rfl rfl rfl (by decide +kernel) ⟨Nat.le_of_ble_eq_true rfl, Nat.le_of_ble_eq_true rfl⟩) hP 0 rfl rfl rfl rfl hl.1 (Nat.le_of_ble_eq_true rfl) dX0_whiteAbove_3 rfl ⟨Nat.zero_le _, Nat.zero_le _⟩ ?_
  refine lv_aload_n hx hb dX0_whiteAbove_6 rfl (lv_at hl 0 rfl) ?_
  refine lv_iload_n hx hb dX0_whiteAbove_7 rfl (lv_at hl 2 rfl) ?_
  refine lv_iconst (v := 0) hx hb dX0_whiteAbove_8 (by decide) ?_
  obtain ⟨v2, h2, hf⟩ := ob hf
  refine x_pV (As := [.int x2, .int (0 : Int32)]) (rest := [.long v1]) S hK (kX0_spaceAbove l E q f ev z x2 (0 : Int32) h2) (cwV 2 hts gX0_whiteAbove_X0_spaceAbove rfl rfl rfl (by decide +kernel) ⟨Nat.le_of_ble_eq_true rfl, Nat.le_of_ble_eq_true rfl⟩) hP 0 rfl rfl rfl rfl hl.1 (Nat.le_of_ble_eq_true rfl) dX0_whiteAbove_9 rfl ⟨Nat.zero_le _, Nat.zero_le _⟩ ?_
  refine lv_ladd hx hb dX0_whiteAbove_12 ?_
  refine lv_aload_n hx hb dX0_whiteAbove_13 rfl (lv_at hl 0 rfl) ?_
  refine x_get hx hb hts inX0_whiteAbove_0 hown hK hP 0 rfl rfl 0 (by decide) mX0_whiteAbove_0 rfl dX0_whiteAbove_14 ?_
  refine lv_iload_n hx hb dX0_whiteAbove_17 rfl (lv_at hl 1 rfl) ?_
  refine lv_iload_n hx hb dX0_whiteAbove_18 rfl (lv_at hl 2 rfl) ?_
  obtain ⟨v3, h3, hf⟩ := ob hf
  refine x_pV (As := [.int x1, .int x2]) (rest := [.long (v1 + v2)]) S hK (kX1_bareOf l E f z x1 x2 h3) (cwV 2 hts gX0_whiteAbove_X1_bareOf rfl rfl rfl (by decide +kernel) ⟨Nat.le_of_ble_eq_true rfl, Nat.le_of_ble_eq_true rfl⟩) (hP.sub [12, 13, 14, 15] rfl) 0 rfl rfl rfl rfl hl.1 (Nat.le_of_ble_eq_true rfl) dX0_whiteAbove_19 rfl ⟨Nat.zero_le _, Nat.zero_le _⟩ ?_
  refine lv_i2l (v := (Int32.toInt64 v3)) hx hb dX0_whiteAbove_22 rfl ?_
  refine lv_aload_n hx hb dX0_whiteAbove_23 rfl (lv_at hl 0 rfl) ?_
  refine x_get hx hb hts inX0_whiteAbove_0 hown hK hP 0 rfl rfl 4 (by decide) mX0_whiteAbove_1 rfl dX0_whiteAbove_24 ?_
  refine lv_lmul hx hb dX0_whiteAbove_27 ?_
  refine lv_ladd hx hb dX0_whiteAbove_28 ?_
  obtain rfl := Option.some.inj hf
  exact x_lret hx hb hr hlk dX0_whiteAbove_29
abbrev rmX0_whiteBelow : Room := { frames := 0, cells := 0, slots := 0, locals := 0 }
theorem mX0_whiteBelow_0 : Cond.fieldLink RX0 28 "EvenWhite$Even" "below" "J" ∈ wsX0_whiteBelow := by decide +kernel
theorem inX0_whiteBelow_0 : ∀ w ∈ u_ws RX0 TX0 8, w ∈ wsX0_whiteBelow := by decide +kernel
def fX0_whiteBelow (ev : Ev) (z : Fo) : Option Int64 :=
  some (Ev_below ev)
set_option maxHeartbeats 4000000 in
set_option maxRecDepth 100000 in
theorem kX0_whiteBelow (l : Launch) (E : xG) (q : Nat → Nat) (f : Nat → Nat) (ev : Ev) (z : Fo) {r : Int64} (hf : fX0_whiteBelow ev z = some r) : xPure l yX0_whiteBelow wsX0_whiteBelow rmX0_whiteBelow E [.ref (q 0)] (wE E q f ev z) (.long r) := by
  refine Met.ofW (cc := cX0_whiteBelow) (maxL := 1) (ret := (some .long)) (by decide) rfl ?_
  intro p e s m args below meth c s₁ B hml hv
  obtain ⟨rfl, hP, hK⟩ := hv
  have hx := B.exec
  have hb := B.bytes
  have hr := B.returns
  have hts := atoms_spec (ws := wsX0_whiteBelow) B.pre
  have hown : s.vm.findClass RX0 = some m.cls := findClass_of_methodNamed B.named
  have hlk := B.notSynchronized
  have S : CallFix p m c cX0_whiteBelow 1 s _ wsX0_whiteBelow RX0 := ⟨hx, hb, hml, hown, hts⟩
  have hl := lv_entry ([.ref (q 0)]) (n := 1) (Nat.le_of_ble_eq_true rfl)
  rw [lg_entry_eq]
  generalize (lg_sl ([.ref (q 0)]) ++ List.replicate (1 - (lg_sl ([.ref (q 0)])).length) Slot.unset).toArray = ls at hl ⊢
  have hl : lv_has ls 1 [(0, .ref (q 0))] := hl
  unfold fX0_whiteBelow at hf
  refine lv_aload_n hx hb dX0_whiteBelow_0 rfl (lv_at hl 0 rfl) ?_
  refine x_get hx hb hts inX0_whiteBelow_0 hown hK hP 0 rfl rfl 4 (by decide) mX0_whiteBelow_0 rfl dX0_whiteBelow_1 ?_
  obtain rfl := Option.some.inj hf
  exact x_lret hx hb hr hlk dX0_whiteBelow_4
abbrev rmX0_leftOverAbove : Room := { frames := 3, cells := 0, slots := 0, locals := 71 }
theorem mX0_leftOverAbove_0 : Cond.fieldLink RX0 9 "EvenWhite$Even" "fount" "LEvenWhite$Fount;" ∈ wsX0_leftOverAbove := by decide +kernel
theorem mX0_leftOverAbove_1 : Cond.fieldLink RX0 65 "EvenWhite$Fount" "wanted" "I" ∈ wsX0_leftOverAbove := by decide +kernel
theorem mX0_leftOverAbove_2 : Cond.fieldLink RX0 28 "EvenWhite$Even" "below" "J" ∈ wsX0_leftOverAbove := by decide +kernel
theorem inX0_leftOverAbove_0 : ∀ w ∈ u_ws RX0 TX0 8, w ∈ wsX0_leftOverAbove := by decide +kernel
theorem inX0_leftOverAbove_1 : ∀ w ∈ u_ws RX1 TX1 6, w ∈ wsX0_leftOverAbove := by decide +kernel
def fX0_leftOverAbove (ev : Ev) (z : Fo) (x1 : Int32) (x2 : Int32) : Option Int64 :=
  (fX0_whiteAbove ev z x1 x2).bind fun v1 =>
  some (v1 - ((Int32.toInt64 (Fo_wanted z)) * (Ev_below ev)))
set_option maxHeartbeats 4000000 in
set_option maxRecDepth 100000 in
theorem kX0_leftOverAbove (l : Launch) (E : xG) (q : Nat → Nat) (f : Nat → Nat) (ev : Ev) (z : Fo) (x1 : Int32) (x2 : Int32) {r : Int64} (hf : fX0_leftOverAbove ev z x1 x2 = some r) : xPure l yX0_leftOverAbove wsX0_leftOverAbove rmX0_leftOverAbove E [.ref (q 0), .int x1, .int x2] (wE E q f ev z) (.long r) := by
  refine Met.ofW (cc := cX0_leftOverAbove) (maxL := 3) (ret := (some .long)) (by decide) rfl ?_
  intro p e s m args below meth c s₁ B hml hv
  obtain ⟨rfl, hP, hK⟩ := hv
  have hx := B.exec
  have hb := B.bytes
  have hr := B.returns
  have hts := atoms_spec (ws := wsX0_leftOverAbove) B.pre
  have hown : s.vm.findClass RX0 = some m.cls := findClass_of_methodNamed B.named
  have hlk := B.notSynchronized
  have S : CallFix p m c cX0_leftOverAbove 3 s _ wsX0_leftOverAbove RX0 := ⟨hx, hb, hml, hown, hts⟩
  have hl := lv_entry ([.ref (q 0), .int x1, .int x2]) (n := 3) (Nat.le_of_ble_eq_true rfl)
  rw [lg_entry_eq]
  generalize (lg_sl ([.ref (q 0), .int x1, .int x2]) ++ List.replicate (3 - (lg_sl ([.ref (q 0), .int x1, .int x2])).length) Slot.unset).toArray = ls at hl ⊢
  have hl : lv_has ls 3 [(0, .ref (q 0)), (1, .int x1), (2, .int x2)] := hl
  unfold fX0_leftOverAbove at hf
  refine lv_aload_n hx hb dX0_leftOverAbove_0 rfl (lv_at hl 0 rfl) ?_
  refine lv_iload_n hx hb dX0_leftOverAbove_1 rfl (lv_at hl 1 rfl) ?_
  refine lv_iload_n hx hb dX0_leftOverAbove_2 rfl (lv_at hl 2 rfl) ?_
  obtain ⟨v1, h1, hf⟩ := ob hf
  refine x_pV (As := [.int x1, .int x2]) (rest := []) S hK (kX0_whiteAbove l E q f ev z x1 x2 h1) (cwV 2 hts gX0_leftOverAbove_X0_whiteAbove rfl rfl rfl (by decide +kernel) ⟨Nat.le_of_ble_eq_true rfl, Nat.le_of_ble_eq_true rfl⟩) hP 0 rfl rfl rfl rfl hl.1 (Nat.le_of_ble_eq_true rfl) dX0_leftOverAbove_3 rfl ⟨Nat.zero_le _, Nat.zero_le _⟩ ?_
  refine lv_aload_n hx hb dX0_leftOverAbove_6 rfl (lv_at hl 0 rfl) ?_
  refine x_get hx hb hts inX0_leftOverAbove_0 hown hK hP 0 rfl rfl 0 (by decide) mX0_leftOverAbove_0 rfl dX0_leftOverAbove_7 ?_
  refine x_get hx hb hts inX0_leftOverAbove_1 hown hK hP 12 rfl rfl 2 (by decide) mX0_leftOverAbove_1 rfl dX0_leftOverAbove_10 ?_
  refine lv_i2l (v := (Int32.toInt64 (Fo_wanted z))) hx hb dX0_leftOverAbove_13 rfl ?_
  refine lv_aload_n hx hb dX0_leftOverAbove_14 rfl (lv_at hl 0 rfl) ?_
  refine x_get hx hb hts inX0_leftOverAbove_0 hown hK hP 0 rfl rfl 4 (by decide) mX0_leftOverAbove_2 rfl dX0_leftOverAbove_15 ?_
  refine lv_lmul hx hb dX0_leftOverAbove_18 ?_
  refine lv_lsub hx hb dX0_leftOverAbove_19 ?_
  obtain rfl := Option.some.inj hf
  exact x_lret hx hb hr hlk dX0_leftOverAbove_20
abbrev rmX0_squaresAbove : Room := { frames := 4, cells := 0, slots := 0, locals := 93 }
theorem mX0_squaresAbove_0 : Cond.fieldLink RX0 9 "EvenWhite$Even" "fount" "LEvenWhite$Fount;" ∈ wsX0_squaresAbove := by decide +kernel
theorem mX0_squaresAbove_1 : Cond.fieldLink RX0 51 "EvenWhite$Fount" "many" "I" ∈ wsX0_squaresAbove := by decide +kernel
theorem inX0_squaresAbove_0 : ∀ w ∈ u_ws RX0 TX0 8, w ∈ wsX0_squaresAbove := by decide +kernel
theorem inX0_squaresAbove_1 : ∀ w ∈ u_ws RX1 TX1 6, w ∈ wsX0_squaresAbove := by decide +kernel
def gX0_squaresAbove_18 (ev : Ev) (z : Fo) (x3 : Int32) (rec : (Int64 × Int32) → Option (Int64 × Int32)) (u : Int64 × Int32) : Option (Int64 × Int32) :=
  (if (Fo_many z) ≤ u.2 then
  some (u.1, u.2)
  else (fX0_leftOverAbove ev z x3 u.2).bind fun v2 =>
  (fX1_weightOf z x3 u.2).bind fun v3 =>
  rec ((u.1 + (((Int32.toInt64 v3) * v2) * v2)), (u.2 + (1 : Int32))))
set_option maxHeartbeats 4000000 in
set_option maxRecDepth 100000 in
theorem wX0_squaresAbove_18 {p : Program} {l : Launch} {e : Env} {s : State} {m : MethodId} {args : Array Value} {below : List Frame} {meth : Method} {c : Code} {Q : State → Prop} (S : CallFix p m c cX0_squaresAbove 7 s args wsX0_squaresAbove RX0) (E : xG) (hK : xK E s) (q : Nat → Nat) (f : Nat → Nat) (ev : Ev) (z : Fo) (x3 : Int32) (hP : va_P (xD E) vwCl (wE E q f ev z) s.heap) : ∀ (n : Nat) (u : Int64 × Int32) (r : Int64 × Int32), lp (gX0_squaresAbove_18 ev z x3) n u = some r → ∀ (ls : Array Slot), lv_has ls 7 [(0, .ref (q 0)), (1, .long u.1), (3, .int x3), (4, .int u.2)] → (∀ (ls : Array Slot), lv_has ls 7 [(0, .ref (q 0)), (1, .long r.1), (3, .int x3), (4, .int r.2)] → W p l e rmX0_squaresAbove s m args below meth c s.heap [] 0 0 Q (F0 m 65 ls [])) → W p l e rmX0_squaresAbove s m args below meth c s.heap [] 0 0 Q (F0 m 18 ls []) := by
  obtain ⟨hx, hb, hml, hown, hts⟩ := id S
  intro n
  induction n with
  | zero =>
    intro u r hf
    exact absurd (show (none : Option _) = some r from hf) (fun q => by cases q)
  | succ n ih =>
    intro u r hf ls hl kx
    have hf : gX0_squaresAbove_18 ev z x3 (lp (gX0_squaresAbove_18 ev z x3) n) u = some r := hf
    unfold gX0_squaresAbove_18 at hf
    refine lv_iload hx hb dX0_squaresAbove_18 (lv_at hl 3 rfl) ?_
    refine lv_aload_n hx hb dX0_squaresAbove_20 rfl (lv_at hl 0 rfl) ?_
    refine x_get hx hb hts inX0_squaresAbove_0 hown hK hP 0 rfl rfl 0 (by decide) mX0_squaresAbove_0 rfl dX0_squaresAbove_21 ?_
    refine x_get hx hb hts inX0_squaresAbove_1 hown hK hP 12 rfl rfl 0 (by decide) mX0_squaresAbove_1 rfl dX0_squaresAbove_24 ?_
    refine lv_icmp_ge (tgt := 65) hx hb dX0_squaresAbove_27 (by decide) (fun c1 => ?_) (fun c1 => ?_)
    · have hf := (if_pos c1).symm.trans hf
      obtain rfl := Option.some.inj hf
      exact kx ls (lv_sub hl [0, 1, 2, 3] rfl)
    · have hf := (if_neg c1).symm.trans hf
      refine lv_aload_n hx hb dX0_squaresAbove_30 rfl (lv_at hl 0 rfl) ?_
      refine lv_iload_n hx hb dX0_squaresAbove_31 rfl (lv_at hl 2 rfl) ?_
      refine lv_iload hx hb dX0_squaresAbove_32 (lv_at hl 3 rfl) ?_
      obtain ⟨v2, h2, hf⟩ := ob hf
      refine x_pV (As := [.int x3, .int u.2]) (rest := []) S hK (kX0_leftOverAbove l E q f ev z x3 u.2 h2) (cwV 2 hts gX0_squaresAbove_X0_leftOverAbove rfl rfl rfl (by decide +kernel) ⟨Nat.le_of_ble_eq_true rfl, Nat.le_of_ble_eq_true rfl⟩) hP 0 rfl rfl rfl rfl hl.1 (Nat.le_of_ble_eq_true rfl) dX0_squaresAbove_34 rfl ⟨Nat.zero_le _, Nat.zero_le _⟩ ?_
      refine lv_lstore (lv' := [(5, .long v2), (0, .ref (q 0)), (1, .long u.1), (3, .int x3), (4, .int u.2)]) hx hb dX0_squaresAbove_37 hl (by decide) rfl (fun ls hl => ?_)
      refine lv_lload_n hx hb dX0_squaresAbove_39 rfl (lv_at hl 2 rfl) ?_
      refine lv_aload_n hx hb dX0_squaresAbove_40 rfl (lv_at hl 1 rfl) ?_
      refine x_get hx hb hts inX0_squaresAbove_0 hown hK hP 0 rfl rfl 0 (by decide) mX0_squaresAbove_0 rfl dX0_squaresAbove_41 ?_
      refine lv_iload_n hx hb dX0_squaresAbove_44 rfl (lv_at hl 3 rfl) ?_
      refine lv_iload hx hb dX0_squaresAbove_45 (lv_at hl 4 rfl) ?_
      obtain ⟨v3, h3, hf⟩ := ob hf
      refine x_pV (As := [.int x3, .int u.2]) (rest := [.long u.1]) S hK (kX1_weightOf l E f z x3 u.2 h3) (cwV 2 hts gX0_squaresAbove_X1_weightOf rfl rfl rfl (by decide +kernel) ⟨Nat.le_of_ble_eq_true rfl, Nat.le_of_ble_eq_true rfl⟩) (hP.sub [12, 13, 14, 15] rfl) 0 rfl rfl rfl rfl hl.1 (Nat.le_of_ble_eq_true rfl) dX0_squaresAbove_47 rfl ⟨Nat.zero_le _, Nat.zero_le _⟩ ?_
      refine lv_i2l (v := (Int32.toInt64 v3)) hx hb dX0_squaresAbove_50 rfl ?_
      refine lv_lload hx hb dX0_squaresAbove_51 (lv_at hl 0 rfl) ?_
      refine lv_lmul hx hb dX0_squaresAbove_53 ?_
      refine lv_lload hx hb dX0_squaresAbove_54 (lv_at hl 0 rfl) ?_
      refine lv_lmul hx hb dX0_squaresAbove_56 ?_
      refine lv_ladd hx hb dX0_squaresAbove_57 ?_
      refine lv_lstore_n (lv' := [(1, .long (u.1 + (((Int32.toInt64 v3) * v2) * v2))), (5, .long v2), (0, .ref (q 0)), (3, .int x3), (4, .int u.2)]) hx hb dX0_squaresAbove_58 rfl hl (by decide) rfl (fun ls hl => ?_)
      refine lv_iinc (v := (u.2 + (1 : Int32))) (lv' := [(4, .int (u.2 + (1 : Int32))), (1, .long (u.1 + (((Int32.toInt64 v3) * v2) * v2))), (5, .long v2), (0, .ref (q 0)), (3, .int x3)]) hx hb dX0_squaresAbove_59 hl (k := 4) rfl rfl (by decide) rfl (fun ls hl => ?_)
      refine lv_goto (tgt := 18) hx hb dX0_squaresAbove_62 (by decide) ?_
      exact ih ((u.1 + (((Int32.toInt64 v3) * v2) * v2)), (u.2 + (1 : Int32))) _ hf ls (lv_sub hl [3, 1, 4, 0] rfl) kx
def gX0_squaresAbove_4 (ev : Ev) (z : Fo) (rec : (Int64 × Int32) → Option (Int64 × Int32)) (u : Int64 × Int32) : Option (Int64 × Int32) :=
  (if (Fo_many z) ≤ u.2 then
  some (u.1, u.2)
  else (lp (gX0_squaresAbove_18 ev z u.2) 1000 (u.1, (0 : Int32))).bind fun v2 =>
  rec (v2.1, (u.2 + (1 : Int32))))
set_option maxHeartbeats 4000000 in
set_option maxRecDepth 100000 in
theorem wX0_squaresAbove_4 {p : Program} {l : Launch} {e : Env} {s : State} {m : MethodId} {args : Array Value} {below : List Frame} {meth : Method} {c : Code} {Q : State → Prop} (S : CallFix p m c cX0_squaresAbove 7 s args wsX0_squaresAbove RX0) (E : xG) (hK : xK E s) (q : Nat → Nat) (f : Nat → Nat) (ev : Ev) (z : Fo) (hP : va_P (xD E) vwCl (wE E q f ev z) s.heap) : ∀ (n : Nat) (u : Int64 × Int32) (r : Int64 × Int32), lp (gX0_squaresAbove_4 ev z) n u = some r → ∀ (ls : Array Slot), lv_has ls 7 [(0, .ref (q 0)), (1, .long u.1), (3, .int u.2)] → (∀ (ls : Array Slot), lv_has ls 7 [(0, .ref (q 0)), (1, .long r.1), (3, .int r.2)] → W p l e rmX0_squaresAbove s m args below meth c s.heap [] 0 0 Q (F0 m 71 ls [])) → W p l e rmX0_squaresAbove s m args below meth c s.heap [] 0 0 Q (F0 m 4 ls []) := by
  obtain ⟨hx, hb, hml, hown, hts⟩ := id S
  intro n
  induction n with
  | zero =>
    intro u r hf
    exact absurd (show (none : Option _) = some r from hf) (fun q => by cases q)
  | succ n ih =>
    intro u r hf ls hl kx
    have hf : gX0_squaresAbove_4 ev z (lp (gX0_squaresAbove_4 ev z) n) u = some r := hf
    unfold gX0_squaresAbove_4 at hf
    refine lv_iload_n hx hb dX0_squaresAbove_4 rfl (lv_at hl 2 rfl) ?_
    refine lv_aload_n hx hb dX0_squaresAbove_5 rfl (lv_at hl 0 rfl) ?_
    refine x_get hx hb hts inX0_squaresAbove_0 hown hK hP 0 rfl rfl 0 (by decide) mX0_squaresAbove_0 rfl dX0_squaresAbove_6 ?_
    refine x_get hx hb hts inX0_squaresAbove_1 hown hK hP 12 rfl rfl 0 (by decide) mX0_squaresAbove_1 rfl dX0_squaresAbove_9 ?_
    refine lv_icmp_ge (tgt := 71) hx hb dX0_squaresAbove_12 (by decide) (fun c1 => ?_) (fun c1 => ?_)
    · have hf := (if_pos c1).symm.trans hf
      obtain rfl := Option.some.inj hf
      exact kx ls (lv_sub hl [0, 1, 2] rfl)
    · have hf := (if_neg c1).symm.trans hf
      refine lv_iconst (v := 0) hx hb dX0_squaresAbove_15 (by decide) ?_
      refine lv_istore (lv' := [(4, .int (0 : Int32)), (0, .ref (q 0)), (1, .long u.1), (3, .int u.2)]) hx hb dX0_squaresAbove_16 hl (by decide) rfl (fun ls hl => ?_)
      obtain ⟨v2, h2, hf⟩ := ob hf
      refine wX0_squaresAbove_18 S E hK q f ev z u.2 hP 1000 _ _ h2 ls (lv_sub hl [1, 2, 3, 0] rfl) (fun ls hl => ?_)
      refine lv_iinc (v := (u.2 + (1 : Int32))) (lv' := [(3, .int (u.2 + (1 : Int32))), (0, .ref (q 0)), (1, .long v2.1), (4, .int v2.2)]) hx hb dX0_squaresAbove_65 hl (k := 2) rfl rfl (by decide) rfl (fun ls hl => ?_)
      refine lv_goto (tgt := 4) hx hb dX0_squaresAbove_68 (by decide) ?_
      exact ih (v2.1, (u.2 + (1 : Int32))) _ hf ls (lv_sub hl [1, 2, 0] rfl) kx
def fX0_squaresAbove (ev : Ev) (z : Fo) : Option Int64 :=
  (lp (gX0_squaresAbove_4 ev z) 1000 ((0 : Int64), (0 : Int32))).bind fun v1 =>
  some v1.1
set_option maxHeartbeats 4000000 in
set_option maxRecDepth 100000 in
theorem kX0_squaresAbove (l : Launch) (E : xG) (q : Nat → Nat) (f : Nat → Nat) (ev : Ev) (z : Fo) {r : Int64} (hf : fX0_squaresAbove ev z = some r) : xPure l yX0_squaresAbove wsX0_squaresAbove rmX0_squaresAbove E [.ref (q 0)] (wE E q f ev z) (.long r) := by
  refine Met.ofW (cc := cX0_squaresAbove) (maxL := 7) (ret := (some .long)) (by decide) rfl ?_
  intro p e s m args below meth c s₁ B hml hv
  obtain ⟨rfl, hP, hK⟩ := hv
  have hx := B.exec
  have hb := B.bytes
  have hr := B.returns
  have hts := atoms_spec (ws := wsX0_squaresAbove) B.pre
  have hown : s.vm.findClass RX0 = some m.cls := findClass_of_methodNamed B.named
  have hlk := B.notSynchronized
  have S : CallFix p m c cX0_squaresAbove 7 s _ wsX0_squaresAbove RX0 := ⟨hx, hb, hml, hown, hts⟩
  have hl := lv_entry ([.ref (q 0)]) (n := 7) (Nat.le_of_ble_eq_true rfl)
  rw [lg_entry_eq]
  generalize (lg_sl ([.ref (q 0)]) ++ List.replicate (7 - (lg_sl ([.ref (q 0)])).length) Slot.unset).toArray = ls at hl ⊢
  have hl : lv_has ls 7 [(0, .ref (q 0))] := hl
  unfold fX0_squaresAbove at hf
  refine lv_lconst (v := 0) hx hb dX0_squaresAbove_0 (by decide) ?_
  refine lv_lstore_n (lv' := [(1, .long (0 : Int64)), (0, .ref (q 0))]) hx hb dX0_squaresAbove_1 rfl hl (by decide) rfl (fun ls hl => ?_)
  refine lv_iconst (v := 0) hx hb dX0_squaresAbove_2 (by decide) ?_
  refine lv_istore_n (lv' := [(3, .int (0 : Int32)), (1, .long (0 : Int64)), (0, .ref (q 0))]) hx hb dX0_squaresAbove_3 rfl hl (by decide) rfl (fun ls hl => ?_)
  obtain ⟨v1, h1, hf⟩ := ob hf
  refine wX0_squaresAbove_4 S E hK q f ev z hP 1000 _ _ h1 ls (lv_sub hl [2, 1, 0] rfl) (fun ls hl => ?_)
  refine lv_lload_n hx hb dX0_squaresAbove_71 rfl (lv_at hl 1 rfl) ?_
  obtain rfl := Option.some.inj hf
  exact x_lret hx hb hr hlk dX0_squaresAbove_72
abbrev rmX0_squaresBelow : Room := { frames := 0, cells := 0, slots := 0, locals := 0 }
theorem mX0_squaresBelow_0 : Cond.fieldLink RX0 28 "EvenWhite$Even" "below" "J" ∈ wsX0_squaresBelow := by decide +kernel
theorem inX0_squaresBelow_0 : ∀ w ∈ u_ws RX0 TX0 8, w ∈ wsX0_squaresBelow := by decide +kernel
def fX0_squaresBelow (ev : Ev) (z : Fo) : Option Int64 :=
  some ((Ev_below ev) * (Ev_below ev))
set_option maxHeartbeats 4000000 in
set_option maxRecDepth 100000 in
theorem kX0_squaresBelow (l : Launch) (E : xG) (q : Nat → Nat) (f : Nat → Nat) (ev : Ev) (z : Fo) {r : Int64} (hf : fX0_squaresBelow ev z = some r) : xPure l yX0_squaresBelow wsX0_squaresBelow rmX0_squaresBelow E [.ref (q 0)] (wE E q f ev z) (.long r) := by
  refine Met.ofW (cc := cX0_squaresBelow) (maxL := 1) (ret := (some .long)) (by decide) rfl ?_
  intro p e s m args below meth c s₁ B hml hv
  obtain ⟨rfl, hP, hK⟩ := hv
  have hx := B.exec
  have hb := B.bytes
  have hr := B.returns
  have hts := atoms_spec (ws := wsX0_squaresBelow) B.pre
  have hown : s.vm.findClass RX0 = some m.cls := findClass_of_methodNamed B.named
  have hlk := B.notSynchronized
  have S : CallFix p m c cX0_squaresBelow 1 s _ wsX0_squaresBelow RX0 := ⟨hx, hb, hml, hown, hts⟩
  have hl := lv_entry ([.ref (q 0)]) (n := 1) (Nat.le_of_ble_eq_true rfl)
  rw [lg_entry_eq]
  generalize (lg_sl ([.ref (q 0)]) ++ List.replicate (1 - (lg_sl ([.ref (q 0)])).length) Slot.unset).toArray = ls at hl ⊢
  have hl : lv_has ls 1 [(0, .ref (q 0))] := hl
  unfold fX0_squaresBelow at hf
  refine lv_aload_n hx hb dX0_squaresBelow_0 rfl (lv_at hl 0 rfl) ?_
  refine x_get hx hb hts inX0_squaresBelow_0 hown hK hP 0 rfl rfl 4 (by decide) mX0_squaresBelow_0 rfl dX0_squaresBelow_1 ?_
  refine lv_aload_n hx hb dX0_squaresBelow_4 rfl (lv_at hl 0 rfl) ?_
  refine x_get hx hb hts inX0_squaresBelow_0 hown hK hP 0 rfl rfl 4 (by decide) mX0_squaresBelow_0 rfl dX0_squaresBelow_5 ?_
  refine lv_lmul hx hb dX0_squaresBelow_8 ?_
  obtain rfl := Option.some.inj hf
  exact x_lret hx hb hr hlk dX0_squaresBelow_9
abbrev rmX0_worst : Room := { frames := 4, cells := 0, slots := 0, locals := 93 }
theorem mX0_worst_0 : Cond.constantLong RX0 101 (-1) ∈ wsX0_worst := by decide +kernel
theorem mX0_worst_1 : Cond.fieldLink RX0 9 "EvenWhite$Even" "fount" "LEvenWhite$Fount;" ∈ wsX0_worst := by decide +kernel
theorem mX0_worst_2 : Cond.fieldLink RX0 51 "EvenWhite$Fount" "many" "I" ∈ wsX0_worst := by decide +kernel
theorem mX0_worst_3 : Cond.methodLink RX0 113 Lib.MathLoose.abs_long.x ∈ wsX0_worst := by decide +kernel
theorem mX0_worst_4 : Cond.static Lib.MathLoose.abs_long.x ∈ wsX0_worst := by decide +kernel
theorem mX0_worst_5 : Cond.initialized "java/lang/Math" ∈ wsX0_worst := by decide +kernel
theorem mX0_worst_6 : Cond.code Lib.MathLoose.abs_long.x Lib.MathLoose.abs_long.code 2 (some .long) ∈ wsX0_worst := by decide +kernel
theorem inX0_worst_0 : ∀ w ∈ u_ws RX0 TX0 8, w ∈ wsX0_worst := by decide +kernel
theorem inX0_worst_1 : ∀ w ∈ u_ws RX1 TX1 6, w ∈ wsX0_worst := by decide +kernel
def gX0_worst_24 (ev : Ev) (z : Fo) (x4 : Int32) (rec : (Int32 × Int64 × Int32) → Option (Int32 × Int64 × Int32)) (u : Int32 × Int64 × Int32) : Option (Int32 × Int64 × Int32) :=
  (if (Fo_many z) ≤ u.2.2 then
  some (u.1, u.2.1, u.2.2)
  else (fX0_leftOverAbove ev z x4 u.2.2).bind fun v2 =>
  (fX1_weightOf z x4 u.2.2).bind fun v3 =>
  ((if v3 ≤ (0 : Int32) then
  some (u.1, u.2.1)
  else (if (if 0 < v2 then v2 else -v2) ≤ u.2.1 then
  some (u.1, u.2.1)
  else some ((((10 : Int32) * x4) + u.2.2), (if 0 < v2 then v2 else -v2))))).bind fun v4 =>
  rec (v4.1, v4.2, (u.2.2 + (1 : Int32))))
set_option maxHeartbeats 4000000 in
set_option maxRecDepth 100000 in
theorem wX0_worst_24 {p : Program} {l : Launch} {e : Env} {s : State} {m : MethodId} {args : Array Value} {below : List Frame} {meth : Method} {c : Code} {Q : State → Prop} (S : CallFix p m c cX0_worst 8 s args wsX0_worst RX0) (E : xG) (hK : xK E s) (q : Nat → Nat) (f : Nat → Nat) (ev : Ev) (z : Fo) (x4 : Int32) (hP : va_P (xD E) vwCl (wE E q f ev z) s.heap) : ∀ (n : Nat) (u : Int32 × Int64 × Int32) (r : Int32 × Int64 × Int32), lp (gX0_worst_24 ev z x4) n u = some r → ∀ (ls : Array Slot), lv_has ls 8 [(0, .ref (q 0)), (1, .int u.1), (2, .long u.2.1), (4, .int x4), (5, .int u.2.2)] → (∀ (ls : Array Slot), lv_has ls 8 [(0, .ref (q 0)), (1, .int r.1), (2, .long r.2.1), (4, .int x4), (5, .int r.2.2)] → W p l e rmX0_worst s m args below meth c s.heap [] 0 0 Q (F0 m 88 ls [])) → W p l e rmX0_worst s m args below meth c s.heap [] 0 0 Q (F0 m 24 ls []) := by
  obtain ⟨hx, hb, hml, hown, hts⟩ := id S
  intro n
  induction n with
  | zero =>
    intro u r hf
    exact absurd (show (none : Option _) = some r from hf) (fun q => by cases q)
  | succ n ih =>
    intro u r hf ls hl kx
    have hf : gX0_worst_24 ev z x4 (lp (gX0_worst_24 ev z x4) n) u = some r := hf
    unfold gX0_worst_24 at hf
    refine lv_iload hx hb dX0_worst_24 (lv_at hl 4 rfl) ?_
    refine lv_aload_n hx hb dX0_worst_26 rfl (lv_at hl 0 rfl) ?_
    refine x_get hx hb hts inX0_worst_0 hown hK hP 0 rfl rfl 0 (by decide) mX0_worst_1 rfl dX0_worst_27 ?_
    refine x_get hx hb hts inX0_worst_1 hown hK hP 12 rfl rfl 0 (by decide) mX0_worst_2 rfl dX0_worst_30 ?_
    refine lv_icmp_ge (tgt := 88) hx hb dX0_worst_33 (by decide) (fun c1 => ?_) (fun c1 => ?_)
    · have hf := (if_pos c1).symm.trans hf
      obtain rfl := Option.some.inj hf
      exact kx ls (lv_sub hl [0, 1, 2, 3, 4] rfl)
    · have hf := (if_neg c1).symm.trans hf
      refine lv_aload_n hx hb dX0_worst_36 rfl (lv_at hl 0 rfl) ?_
      refine lv_iload hx hb dX0_worst_37 (lv_at hl 3 rfl) ?_
      refine lv_iload hx hb dX0_worst_39 (lv_at hl 4 rfl) ?_
      obtain ⟨v2, h2, hf⟩ := ob hf
      refine x_pV (As := [.int x4, .int u.2.2]) (rest := []) S hK (kX0_leftOverAbove l E q f ev z x4 u.2.2 h2) (cwV 2 hts gX0_worst_X0_leftOverAbove rfl rfl rfl (by decide +kernel) ⟨Nat.le_of_ble_eq_true rfl, Nat.le_of_ble_eq_true rfl⟩) hP 0 rfl rfl rfl rfl hl.1 (Nat.le_of_ble_eq_true rfl) dX0_worst_41 rfl ⟨Nat.zero_le _, Nat.zero_le _⟩ ?_
      refine va_mabs_long hx hb (by rw [hml]; exact hl.1.symm) hown (hts _ mX0_worst_3) (hts _ mX0_worst_4) (hts _ mX0_worst_5) (hts _ mX0_worst_6) (Nat.le_of_ble_eq_true rfl) (Nat.le_of_ble_eq_true rfl) (Nat.zero_le _) (Nat.zero_le _) dX0_worst_44 ?_
      refine lv_lstore (lv' := [(6, .long (if 0 < v2 then v2 else -v2)), (0, .ref (q 0)), (1, .int u.1), (2, .long u.2.1), (4, .int x4), (5, .int u.2.2)]) hx hb dX0_worst_47 hl (by decide) rfl (fun ls hl => ?_)
      refine lv_aload_n hx hb dX0_worst_49 rfl (lv_at hl 1 rfl) ?_
      refine x_get hx hb hts inX0_worst_0 hown hK hP 0 rfl rfl 0 (by decide) mX0_worst_1 rfl dX0_worst_50 ?_
      refine lv_iload hx hb dX0_worst_53 (lv_at hl 4 rfl) ?_
      refine lv_iload hx hb dX0_worst_55 (lv_at hl 5 rfl) ?_
      obtain ⟨v3, h3, hf⟩ := ob hf
      refine x_pV (As := [.int x4, .int u.2.2]) (rest := []) S hK (kX1_weightOf l E f z x4 u.2.2 h3) (cwV 2 hts gX0_worst_X1_weightOf rfl rfl rfl (by decide +kernel) ⟨Nat.le_of_ble_eq_true rfl, Nat.le_of_ble_eq_true rfl⟩) (hP.sub [12, 13, 14, 15] rfl) 0 rfl rfl rfl rfl hl.1 (Nat.le_of_ble_eq_true rfl) dX0_worst_57 rfl ⟨Nat.zero_le _, Nat.zero_le _⟩ ?_
      obtain ⟨v4, h4, hf⟩ := ob hf
      refine x_cutL (fun ls => lv_has ls 8 [(0, .ref (q 0)), (1, .int v4.1), (2, .long v4.2), (4, .int x4), (5, .int u.2.2), (6, .long (if 0 < v2 then v2 else -v2))]) (pc := 82) (st := []) (fun ls hl => ?_) (fun hj => ?_)
      · refine lv_iinc (v := (u.2.2 + (1 : Int32))) (lv' := [(5, .int (u.2.2 + (1 : Int32))), (0, .ref (q 0)), (1, .int v4.1), (2, .long v4.2), (4, .int x4), (6, .long (if 0 < v2 then v2 else -v2))]) hx hb dX0_worst_82 hl (k := 4) rfl rfl (by decide) rfl (fun ls hl => ?_)
        refine lv_goto (tgt := 24) hx hb dX0_worst_85 (by decide) ?_
        exact ih (v4.1, v4.2, (u.2.2 + (1 : Int32))) _ hf ls (lv_sub hl [1, 2, 3, 4, 0] rfl) kx
      · have hf := h4
        refine lv_if_le (tgt := 82) hx hb dX0_worst_60 (by decide) (fun c5 => ?_) (fun c5 => ?_)
        · have hf := (if_pos c5).symm.trans hf
          obtain rfl := Option.some.inj hf
          exact hj ls (lv_sub hl [1, 2, 3, 4, 5, 0] rfl)
        · have hf := (if_neg c5).symm.trans hf
          refine lv_lload hx hb dX0_worst_63 (lv_at hl 0 rfl) ?_
          refine lv_lload_n hx hb dX0_worst_65 rfl (lv_at hl 3 rfl) ?_
          refine x_lif_le (tgt := 82) hx hb dX0_worst_66 dX0_worst_67 (by decide) (fun c6 => ?_) (fun c6 => ?_)
          · have hf := (if_pos c6).symm.trans hf
            obtain rfl := Option.some.inj hf
            exact hj ls (lv_sub hl [1, 2, 3, 4, 5, 0] rfl)
          · have hf := (if_neg c6).symm.trans hf
            refine lv_lload hx hb dX0_worst_70 (lv_at hl 0 rfl) ?_
            refine lv_lstore_n (lv' := [(2, .long (if 0 < v2 then v2 else -v2)), (6, .long (if 0 < v2 then v2 else -v2)), (0, .ref (q 0)), (1, .int u.1), (4, .int x4), (5, .int u.2.2)]) hx hb dX0_worst_72 rfl hl (by decide) rfl (fun ls hl => ?_)
            refine lv_bipush (v := 10) hx hb dX0_worst_73 (by decide) ?_
            refine lv_iload hx hb dX0_worst_75 (lv_at hl 4 rfl) ?_
            refine lv_imul hx hb dX0_worst_77 ?_
            refine lv_iload hx hb dX0_worst_78 (lv_at hl 5 rfl) ?_
            refine lv_iadd hx hb dX0_worst_80 ?_
            refine lv_istore_n (lv' := [(1, .int (((10 : Int32) * x4) + u.2.2)), (2, .long (if 0 < v2 then v2 else -v2)), (6, .long (if 0 < v2 then v2 else -v2)), (0, .ref (q 0)), (4, .int x4), (5, .int u.2.2)]) hx hb dX0_worst_81 rfl hl (by decide) rfl (fun ls hl => ?_)
            obtain rfl := Option.some.inj hf
            exact hj ls (lv_sub hl [3, 0, 1, 4, 5, 2] rfl)
def gX0_worst_9 (ev : Ev) (z : Fo) (rec : (Int32 × Int64 × Int32) → Option (Int32 × Int64 × Int32)) (u : Int32 × Int64 × Int32) : Option (Int32 × Int64 × Int32) :=
  (if (Fo_many z) ≤ u.2.2 then
  some (u.1, u.2.1, u.2.2)
  else (lp (gX0_worst_24 ev z u.2.2) 1000 (u.1, u.2.1, (0 : Int32))).bind fun v2 =>
  rec (v2.1, v2.2.1, (u.2.2 + (1 : Int32))))
set_option maxHeartbeats 4000000 in
set_option maxRecDepth 100000 in
theorem wX0_worst_9 {p : Program} {l : Launch} {e : Env} {s : State} {m : MethodId} {args : Array Value} {below : List Frame} {meth : Method} {c : Code} {Q : State → Prop} (S : CallFix p m c cX0_worst 8 s args wsX0_worst RX0) (E : xG) (hK : xK E s) (q : Nat → Nat) (f : Nat → Nat) (ev : Ev) (z : Fo) (hP : va_P (xD E) vwCl (wE E q f ev z) s.heap) : ∀ (n : Nat) (u : Int32 × Int64 × Int32) (r : Int32 × Int64 × Int32), lp (gX0_worst_9 ev z) n u = some r → ∀ (ls : Array Slot), lv_has ls 8 [(0, .ref (q 0)), (1, .int u.1), (2, .long u.2.1), (4, .int u.2.2)] → (∀ (ls : Array Slot), lv_has ls 8 [(0, .ref (q 0)), (1, .int r.1), (2, .long r.2.1), (4, .int r.2.2)] → W p l e rmX0_worst s m args below meth c s.heap [] 0 0 Q (F0 m 94 ls [])) → W p l e rmX0_worst s m args below meth c s.heap [] 0 0 Q (F0 m 9 ls []) := by
  obtain ⟨hx, hb, hml, hown, hts⟩ := id S
  intro n
  induction n with
  | zero =>
    intro u r hf
    exact absurd (show (none : Option _) = some r from hf) (fun q => by cases q)
  | succ n ih =>
    intro u r hf ls hl kx
    have hf : gX0_worst_9 ev z (lp (gX0_worst_9 ev z) n) u = some r := hf
    unfold gX0_worst_9 at hf
    refine lv_iload hx hb dX0_worst_9 (lv_at hl 3 rfl) ?_
    refine lv_aload_n hx hb dX0_worst_11 rfl (lv_at hl 0 rfl) ?_
    refine x_get hx hb hts inX0_worst_0 hown hK hP 0 rfl rfl 0 (by decide) mX0_worst_1 rfl dX0_worst_12 ?_
    refine x_get hx hb hts inX0_worst_1 hown hK hP 12 rfl rfl 0 (by decide) mX0_worst_2 rfl dX0_worst_15 ?_
    refine lv_icmp_ge (tgt := 94) hx hb dX0_worst_18 (by decide) (fun c1 => ?_) (fun c1 => ?_)
    · have hf := (if_pos c1).symm.trans hf
      obtain rfl := Option.some.inj hf
      exact kx ls (lv_sub hl [0, 1, 2, 3] rfl)
    · have hf := (if_neg c1).symm.trans hf
      refine lv_iconst (v := 0) hx hb dX0_worst_21 (by decide) ?_
      refine lv_istore (lv' := [(5, .int (0 : Int32)), (0, .ref (q 0)), (1, .int u.1), (2, .long u.2.1), (4, .int u.2.2)]) hx hb dX0_worst_22 hl (by decide) rfl (fun ls hl => ?_)
      obtain ⟨v2, h2, hf⟩ := ob hf
      refine wX0_worst_24 S E hK q f ev z u.2.2 hP 1000 _ _ h2 ls (lv_sub hl [1, 2, 3, 4, 0] rfl) (fun ls hl => ?_)
      refine lv_iinc (v := (u.2.2 + (1 : Int32))) (lv' := [(4, .int (u.2.2 + (1 : Int32))), (0, .ref (q 0)), (1, .int v2.1), (2, .long v2.2.1), (5, .int v2.2.2)]) hx hb dX0_worst_88 hl (k := 3) rfl rfl (by decide) rfl (fun ls hl => ?_)
      refine lv_goto (tgt := 9) hx hb dX0_worst_91 (by decide) ?_
      exact ih (v2.1, v2.2.1, (u.2.2 + (1 : Int32))) _ hf ls (lv_sub hl [1, 2, 3, 0] rfl) kx
def fX0_worst (ev : Ev) (z : Fo) : Option Int32 :=
  (lp (gX0_worst_9 ev z) 1000 ((-1 : Int32), (-1 : Int64), (0 : Int32))).bind fun v1 =>
  some v1.1
set_option maxHeartbeats 4000000 in
set_option maxRecDepth 100000 in
theorem kX0_worst (l : Launch) (E : xG) (q : Nat → Nat) (f : Nat → Nat) (ev : Ev) (z : Fo) {r : Int32} (hf : fX0_worst ev z = some r) : xPure l yX0_worst wsX0_worst rmX0_worst E [.ref (q 0)] (wE E q f ev z) (.int r) := by
  refine Met.ofW (cc := cX0_worst) (maxL := 8) (ret := (some .int)) (by decide) rfl ?_
  intro p e s m args below meth c s₁ B hml hv
  obtain ⟨rfl, hP, hK⟩ := hv
  have hx := B.exec
  have hb := B.bytes
  have hr := B.returns
  have hts := atoms_spec (ws := wsX0_worst) B.pre
  have hown : s.vm.findClass RX0 = some m.cls := findClass_of_methodNamed B.named
  have hlk := B.notSynchronized
  have S : CallFix p m c cX0_worst 8 s _ wsX0_worst RX0 := ⟨hx, hb, hml, hown, hts⟩
  have hl := lv_entry ([.ref (q 0)]) (n := 8) (Nat.le_of_ble_eq_true rfl)
  rw [lg_entry_eq]
  generalize (lg_sl ([.ref (q 0)]) ++ List.replicate (8 - (lg_sl ([.ref (q 0)])).length) Slot.unset).toArray = ls at hl ⊢
  have hl : lv_has ls 8 [(0, .ref (q 0))] := hl
  unfold fX0_worst at hf
  refine lv_iconst (v := (-1)) hx hb dX0_worst_0 (by decide) ?_
  refine lv_istore_n (lv' := [(1, .int (-1 : Int32)), (0, .ref (q 0))]) hx hb dX0_worst_1 rfl hl (by decide) rfl (fun ls hl => ?_)
  refine lv_ldc2 hx hb hown (hts _ mX0_worst_0) dX0_worst_2 ?_
  refine lv_lstore_n (lv' := [(2, .long (-1 : Int64)), (1, .int (-1 : Int32)), (0, .ref (q 0))]) hx hb dX0_worst_5 rfl hl (by decide) rfl (fun ls hl => ?_)
  refine lv_iconst (v := 0) hx hb dX0_worst_6 (by decide) ?_
  refine lv_istore (lv' := [(4, .int (0 : Int32)), (2, .long (-1 : Int64)), (1, .int (-1 : Int32)), (0, .ref (q 0))]) hx hb dX0_worst_7 hl (by decide) rfl (fun ls hl => ?_)
  obtain ⟨v1, h1, hf⟩ := ob hf
  refine wX0_worst_9 S E hK q f ev z hP 1000 _ _ h1 ls (lv_sub hl [3, 2, 1, 0] rfl) (fun ls hl => ?_)
  refine lv_iload_n hx hb dX0_worst_94 rfl (lv_at hl 1 rfl) ?_
  obtain rfl := Option.some.inj hf
  exact x_iret hx hb hr hlk (vp_nar_int _) dX0_worst_95
