
abbrev rmX6_isAlike : Room := { frames := 1, cells := 0, slots := 0, locals := 22 }
theorem mX6_isAlike_0 : Cond.fieldLink RX6 7 "EvenWhiteModel" "now" "[I" ∈ wsX6_isAlike := by decide +kernel
theorem inX6_isAlike_6 : ∀ w ∈ u_ws RX6 TX6 17, w ∈ wsX6_isAlike := by decide +kernel
def gX6_isAlike_4 (mo : Mo) (x1 : Int32) (rec : (Int32 × Int32) → Option (Int32 × Int32)) (u : Int32 × Int32) : Option (Int32 × Int32) :=
  (if (8 : Int32) ≤ u.2 then
  some (u.1, u.2)
  else ((if u.1 = (0 : Int32) then
  some (0 : Int32)
  else (fX6_at x1 (0 : Int32) u.2).bind fun v4 =>
  (rdI (Mo_now mo) 63 v4).bind fun v5 =>
  (fX6_at x1 (1 : Int32) u.2).bind fun v6 =>
  (rdI (Mo_now mo) 63 v6).bind fun v7 =>
  (if v5 = v7 then
  some (1 : Int32)
  else some (0 : Int32)))).bind fun v2 =>
  rec (v2, (u.2 + (1 : Int32))))
set_option maxHeartbeats 4000000 in
set_option maxRecDepth 100000 in
theorem wX6_isAlike_4 {p : Program} {l : Launch} {e : Env} {s : State} {m : MethodId} {args : Array Value} {below : List Frame} {meth : Method} {c : Code} {Q : State → Prop} (S : CallFix p m c cX6_isAlike 4 s args wsX6_isAlike RX6) (E : xG) (hK : xK E s) (uq : Nat → Nat) (mo : Mo) (x1 : Int32) (hP : va_P (xD E) vwCl (wM E uq mo) s.heap) : ∀ (n : Nat) (u : Int32 × Int32) (r : Int32 × Int32), lp (gX6_isAlike_4 mo x1) n u = some r → ∀ (ls : Array Slot), lv_has ls 4 [(0, .ref (uq 0)), (1, .int x1), (2, .int u.1), (3, .int u.2)] → (∀ (ls : Array Slot), lv_has ls 4 [(0, .ref (uq 0)), (1, .int x1), (2, .int r.1), (3, .int r.2)] → W p l e rmX6_isAlike s m args below meth c s.heap [] 0 0 Q (F0 m 51 ls [])) → W p l e rmX6_isAlike s m args below meth c s.heap [] 0 0 Q (F0 m 4 ls []) := by
  obtain ⟨hx, hb, hml, hown, hts⟩ := id S
  intro n
  induction n with
  | zero =>
    intro u r hf
    exact absurd (show (none : Option _) = some r from hf) (fun q => by cases q)
  | succ n ih =>
    intro u r hf ls hl kx
    have hf : gX6_isAlike_4 mo x1 (lp (gX6_isAlike_4 mo x1) n) u = some r := hf
    unfold gX6_isAlike_4 at hf
    refine lv_iload_n hx hb dX6_isAlike_4 rfl (lv_at hl 3 rfl) ?_
    refine lv_bipush (v := 8) hx hb dX6_isAlike_5 (by decide) ?_
    refine lv_icmp_ge (tgt := 51) hx hb dX6_isAlike_7 (by decide) (fun c1 => ?_) (fun c1 => ?_)
    · have hf := (if_pos c1).symm.trans hf
      obtain rfl := Option.some.inj hf
      exact kx ls (lv_sub hl [0, 1, 2, 3] rfl)
    · have hf := (if_neg c1).symm.trans hf
      refine lv_iload_n hx hb dX6_isAlike_10 rfl (lv_at hl 2 rfl) ?_
      obtain ⟨v2, h2, hf⟩ := ob hf
      refine x_cutL (fun ls => lv_has ls 4 [(0, .ref (uq 0)), (1, .int x1), (2, .int u.1), (3, .int u.2)]) (pc := 44) (st := [.int v2]) (fun ls hl => ?_) (fun hj => ?_)
      · refine lv_istore_n (lv' := [(2, .int v2), (0, .ref (uq 0)), (1, .int x1), (3, .int u.2)]) hx hb dX6_isAlike_44 rfl hl (by decide) rfl (fun ls hl => ?_)
        refine lv_iinc (v := (u.2 + (1 : Int32))) (lv' := [(3, .int (u.2 + (1 : Int32))), (2, .int v2), (0, .ref (uq 0)), (1, .int x1)]) hx hb dX6_isAlike_45 hl (k := 3) rfl rfl (by decide) rfl (fun ls hl => ?_)
        refine lv_goto (tgt := 4) hx hb dX6_isAlike_48 (by decide) ?_
        exact ih (v2, (u.2 + (1 : Int32))) _ hf ls (lv_sub hl [2, 3, 1, 0] rfl) kx
      · have hf := h2
        refine lv_if_eq (tgt := 43) hx hb dX6_isAlike_11 (by decide) (fun c3 => ?_) (fun c3 => ?_)
        · have hf := (if_pos c3).symm.trans hf
          refine lv_iconst (v := 0) hx hb dX6_isAlike_43 (by decide) ?_
          obtain rfl := Option.some.inj hf
          exact hj ls (lv_sub hl [0, 1, 2, 3] rfl)
        · have hf := (if_neg c3).symm.trans hf
          refine lv_aload_n hx hb dX6_isAlike_14 rfl (lv_at hl 0 rfl) ?_
          refine x_get hx hb hts inX6_isAlike_6 hown hK hP 0 rfl rfl 0 (by decide) mX6_isAlike_0 rfl dX6_isAlike_15 ?_
          refine lv_iload_n hx hb dX6_isAlike_18 rfl (lv_at hl 1 rfl) ?_
          refine lv_iconst (v := 0) hx hb dX6_isAlike_19 (by decide) ?_
          refine lv_iload_n hx hb dX6_isAlike_20 rfl (lv_at hl 3 rfl) ?_
          obtain ⟨v4, h4, hf⟩ := ob hf
          refine x_pS (As := [.int x1, .int (0 : Int32), .int u.2]) (rest := [.ref (uq 1)]) S hK (kX6_at l E x1 (0 : Int32) u.2 h4) (va_cwS 3 hts gX6_isAlike_X6_at rfl rfl rfl (by decide +kernel) ⟨Nat.le_of_ble_eq_true rfl, Nat.le_of_ble_eq_true rfl⟩) x_nil rfl hl.1 (Nat.le_of_ble_eq_true rfl) dX6_isAlike_21 rfl ⟨Nat.zero_le _, Nat.zero_le _⟩ ?_
          obtain ⟨v5, h5, hf⟩ := ob hf
          refine x_iald hx hb hK hP 1 rfl h5 dX6_isAlike_24 ?_
          refine lv_aload_n hx hb dX6_isAlike_25 rfl (lv_at hl 0 rfl) ?_
          refine x_get hx hb hts inX6_isAlike_6 hown hK hP 0 rfl rfl 0 (by decide) mX6_isAlike_0 rfl dX6_isAlike_26 ?_
          refine lv_iload_n hx hb dX6_isAlike_29 rfl (lv_at hl 1 rfl) ?_
          refine lv_iconst (v := 1) hx hb dX6_isAlike_30 (by decide) ?_
          refine lv_iload_n hx hb dX6_isAlike_31 rfl (lv_at hl 3 rfl) ?_
          obtain ⟨v6, h6, hf⟩ := ob hf
          refine x_pS (As := [.int x1, .int (1 : Int32), .int u.2]) (rest := [.ref (uq 1), .int v5]) S hK (kX6_at l E x1 (1 : Int32) u.2 h6) (va_cwS 3 hts gX6_isAlike_X6_at rfl rfl rfl (by decide +kernel) ⟨Nat.le_of_ble_eq_true rfl, Nat.le_of_ble_eq_true rfl⟩) x_nil rfl hl.1 (Nat.le_of_ble_eq_true rfl) dX6_isAlike_32 rfl ⟨Nat.zero_le _, Nat.zero_le _⟩ ?_
          obtain ⟨v7, h7, hf⟩ := ob hf
          refine x_iald hx hb hK hP 1 rfl h7 dX6_isAlike_35 ?_
          refine lv_icmp_ne (tgt := 43) hx hb dX6_isAlike_36 (by decide) (fun c8 => ?_) (fun c8 => ?_)
          · have hf := (if_neg c8).symm.trans hf
            refine lv_iconst (v := 0) hx hb dX6_isAlike_43 (by decide) ?_
            obtain rfl := Option.some.inj hf
            exact hj ls (lv_sub hl [0, 1, 2, 3] rfl)
          · have hf := (if_pos c8).symm.trans hf
            refine lv_iconst (v := 1) hx hb dX6_isAlike_39 (by decide) ?_
            refine lv_goto (tgt := 44) hx hb dX6_isAlike_40 (by decide) ?_
            obtain rfl := Option.some.inj hf
            exact hj ls (lv_sub hl [0, 1, 2, 3] rfl)
def fX6_isAlike (mo : Mo) (x1 : Int32) : Option Int32 :=
  (lp (gX6_isAlike_4 mo x1) 1000 ((1 : Int32), (0 : Int32))).bind fun v1 =>
  ckZ v1.1
set_option maxHeartbeats 4000000 in
set_option maxRecDepth 100000 in
theorem kX6_isAlike (l : Launch) (E : xG) (uq : Nat → Nat) (mo : Mo) (x1 : Int32) {r : Int32} (hf : fX6_isAlike mo x1 = some r) : xPure l yX6_isAlike wsX6_isAlike rmX6_isAlike E [.ref (uq 0), .int x1] (wM E uq mo) (.int r) := by
  refine Met.ofW (cc := cX6_isAlike) (maxL := 4) (ret := (some .boolean)) (by decide) rfl ?_
  intro p e s m args below meth c s₁ B hml hv
  obtain ⟨rfl, hP, hK⟩ := hv
  have hx := B.exec
  have hb := B.bytes
  have hr := B.returns
  have hts := atoms_spec (ws := wsX6_isAlike) B.pre
  have hown : s.vm.findClass RX6 = some m.cls := findClass_of_methodNamed B.named
  have hlk := B.notSynchronized
  have S : CallFix p m c cX6_isAlike 4 s _ wsX6_isAlike RX6 := ⟨hx, hb, hml, hown, hts⟩
  have hl := lv_entry ([.ref (uq 0), .int x1]) (n := 4) (Nat.le_of_ble_eq_true rfl)
  rw [lg_entry_eq]
  generalize (lg_sl ([.ref (uq 0), .int x1]) ++ List.replicate (4 - (lg_sl ([.ref (uq 0), .int x1])).length) Slot.unset).toArray = ls at hl ⊢
  have hl : lv_has ls 4 [(0, .ref (uq 0)), (1, .int x1)] := hl
  unfold fX6_isAlike at hf
  refine lv_iconst (v := 1) hx hb dX6_isAlike_0 (by decide) ?_
  refine lv_istore_n (lv' := [(2, .int (1 : Int32)), (0, .ref (uq 0)), (1, .int x1)]) hx hb dX6_isAlike_1 rfl hl (by decide) rfl (fun ls hl => ?_)
  refine lv_iconst (v := 0) hx hb dX6_isAlike_2 (by decide) ?_
  refine lv_istore_n (lv' := [(3, .int (0 : Int32)), (2, .int (1 : Int32)), (0, .ref (uq 0)), (1, .int x1)]) hx hb dX6_isAlike_3 rfl hl (by decide) rfl (fun ls hl => ?_)
  obtain ⟨v1, h1, hf⟩ := ob hf
  refine wX6_isAlike_4 S E hK uq mo x1 hP 1000 _ _ h1 ls (lv_sub hl [2, 3, 1, 0] rfl) (fun ls hl => ?_)
  refine lv_iload_n hx hb dX6_isAlike_51 rfl (lv_at hl 2 rfl) ?_
  obtain ⟨hn, rfl⟩ := ckZ_ok hf
  exact x_iret hx hb hr hlk hn dX6_isAlike_52
abbrev rmX6_sumOf : Room := { frames := 1, cells := 0, slots := 0, locals := 22 }
theorem mX6_sumOf_0 : Cond.fieldLink RX6 7 "EvenWhiteModel" "now" "[I" ∈ wsX6_sumOf := by decide +kernel
theorem inX6_sumOf_6 : ∀ w ∈ u_ws RX6 TX6 17, w ∈ wsX6_sumOf := by decide +kernel
def gX6_sumOf_5 (mo : Mo) (x1 : Int32) (x2 : Int32) (rec : (Int32 × Int32) → Option (Int32 × Int32)) (u : Int32 × Int32) : Option (Int32 × Int32) :=
  (if (8 : Int32) ≤ u.2 then
  some (u.1, u.2)
  else (fX6_at x1 x2 u.2).bind fun v2 =>
  (rdI (Mo_now mo) 63 v2).bind fun v3 =>
  rec ((u.1 + v3), (u.2 + (1 : Int32))))
set_option maxHeartbeats 4000000 in
set_option maxRecDepth 100000 in
theorem wX6_sumOf_5 {p : Program} {l : Launch} {e : Env} {s : State} {m : MethodId} {args : Array Value} {below : List Frame} {meth : Method} {c : Code} {Q : State → Prop} (S : CallFix p m c cX6_sumOf 5 s args wsX6_sumOf RX6) (E : xG) (hK : xK E s) (uq : Nat → Nat) (mo : Mo) (x1 : Int32) (x2 : Int32) (hP : va_P (xD E) vwCl (wM E uq mo) s.heap) : ∀ (n : Nat) (u : Int32 × Int32) (r : Int32 × Int32), lp (gX6_sumOf_5 mo x1 x2) n u = some r → ∀ (ls : Array Slot), lv_has ls 5 [(0, .ref (uq 0)), (1, .int x1), (2, .int x2), (3, .int u.1), (4, .int u.2)] → (∀ (ls : Array Slot), lv_has ls 5 [(0, .ref (uq 0)), (1, .int x1), (2, .int x2), (3, .int r.1), (4, .int r.2)] → W p l e rmX6_sumOf s m args below meth c s.heap [] 0 0 Q (F0 m 33 ls [])) → W p l e rmX6_sumOf s m args below meth c s.heap [] 0 0 Q (F0 m 5 ls []) := by
  obtain ⟨hx, hb, hml, hown, hts⟩ := id S
  intro n
  induction n with
  | zero =>
    intro u r hf
    exact absurd (show (none : Option _) = some r from hf) (fun q => by cases q)
  | succ n ih =>
    intro u r hf ls hl kx
    have hf : gX6_sumOf_5 mo x1 x2 (lp (gX6_sumOf_5 mo x1 x2) n) u = some r := hf
    unfold gX6_sumOf_5 at hf
    refine lv_iload hx hb dX6_sumOf_5 (lv_at hl 4 rfl) ?_
    refine lv_bipush (v := 8) hx hb dX6_sumOf_7 (by decide) ?_
    refine lv_icmp_ge (tgt := 33) hx hb dX6_sumOf_9 (by decide) (fun c1 => ?_) (fun c1 => ?_)
    · have hf := (if_pos c1).symm.trans hf
      obtain rfl := Option.some.inj hf
      exact kx ls (lv_sub hl [0, 1, 2, 3, 4] rfl)
    · have hf := (if_neg c1).symm.trans hf
      refine lv_iload_n hx hb dX6_sumOf_12 rfl (lv_at hl 3 rfl) ?_
      refine lv_aload_n hx hb dX6_sumOf_13 rfl (lv_at hl 0 rfl) ?_
      refine x_get hx hb hts inX6_sumOf_6 hown hK hP 0 rfl rfl 0 (by decide) mX6_sumOf_0 rfl dX6_sumOf_14 ?_
      refine lv_iload_n hx hb dX6_sumOf_17 rfl (lv_at hl 1 rfl) ?_
      refine lv_iload_n hx hb dX6_sumOf_18 rfl (lv_at hl 2 rfl) ?_
      refine lv_iload hx hb dX6_sumOf_19 (lv_at hl 4 rfl) ?_
      obtain ⟨v2, h2, hf⟩ := ob hf
      refine x_pS (As := [.int x1, .int x2, .int u.2]) (rest := [.ref (uq 1), .int u.1]) S hK (kX6_at l E x1 x2 u.2 h2) (va_cwS 3 hts gX6_sumOf_X6_at rfl rfl rfl (by decide +kernel) ⟨Nat.le_of_ble_eq_true rfl, Nat.le_of_ble_eq_true rfl⟩) x_nil rfl hl.1 (Nat.le_of_ble_eq_true rfl) dX6_sumOf_21 rfl ⟨Nat.zero_le _, Nat.zero_le _⟩ ?_
      obtain ⟨v3, h3, hf⟩ := ob hf
      refine x_iald hx hb hK hP 1 rfl h3 dX6_sumOf_24 ?_
      refine lv_iadd hx hb dX6_sumOf_25 ?_
      refine lv_istore_n (lv' := [(3, .int (u.1 + v3)), (0, .ref (uq 0)), (1, .int x1), (2, .int x2), (4, .int u.2)]) hx hb dX6_sumOf_26 rfl hl (by decide) rfl (fun ls hl => ?_)
      refine lv_iinc (v := (u.2 + (1 : Int32))) (lv' := [(4, .int (u.2 + (1 : Int32))), (3, .int (u.1 + v3)), (0, .ref (uq 0)), (1, .int x1), (2, .int x2)]) hx hb dX6_sumOf_27 hl (k := 4) rfl rfl (by decide) rfl (fun ls hl => ?_)
      refine lv_goto (tgt := 5) hx hb dX6_sumOf_30 (by decide) ?_
      exact ih ((u.1 + v3), (u.2 + (1 : Int32))) _ hf ls (lv_sub hl [2, 3, 4, 1, 0] rfl) kx
def fX6_sumOf (mo : Mo) (x1 : Int32) (x2 : Int32) : Option Int32 :=
  (lp (gX6_sumOf_5 mo x1 x2) 1000 ((0 : Int32), (0 : Int32))).bind fun v1 =>
  some v1.1
set_option maxHeartbeats 4000000 in
set_option maxRecDepth 100000 in
theorem kX6_sumOf (l : Launch) (E : xG) (uq : Nat → Nat) (mo : Mo) (x1 : Int32) (x2 : Int32) {r : Int32} (hf : fX6_sumOf mo x1 x2 = some r) : xPure l yX6_sumOf wsX6_sumOf rmX6_sumOf E [.ref (uq 0), .int x1, .int x2] (wM E uq mo) (.int r) := by
  refine Met.ofW (cc := cX6_sumOf) (maxL := 5) (ret := (some .int)) (by decide) rfl ?_
  intro p e s m args below meth c s₁ B hml hv
  obtain ⟨rfl, hP, hK⟩ := hv
  have hx := B.exec
  have hb := B.bytes
  have hr := B.returns
  have hts := atoms_spec (ws := wsX6_sumOf) B.pre
  have hown : s.vm.findClass RX6 = some m.cls := findClass_of_methodNamed B.named
  have hlk := B.notSynchronized
  have S : CallFix p m c cX6_sumOf 5 s _ wsX6_sumOf RX6 := ⟨hx, hb, hml, hown, hts⟩
  have hl := lv_entry ([.ref (uq 0), .int x1, .int x2]) (n := 5) (Nat.le_of_ble_eq_true rfl)
  rw [lg_entry_eq]
  generalize (lg_sl ([.ref (uq 0), .int x1, .int x2]) ++ List.replicate (5 - (lg_sl ([.ref (uq 0), .int x1, .int x2])).length) Slot.unset).toArray = ls at hl ⊢
  have hl : lv_has ls 5 [(0, .ref (uq 0)), (1, .int x1), (2, .int x2)] := hl
  unfold fX6_sumOf at hf
  refine lv_iconst (v := 0) hx hb dX6_sumOf_0 (by decide) ?_
  refine lv_istore_n (lv' := [(3, .int (0 : Int32)), (0, .ref (uq 0)), (1, .int x1), (2, .int x2)]) hx hb dX6_sumOf_1 rfl hl (by decide) rfl (fun ls hl => ?_)
  refine lv_iconst (v := 0) hx hb dX6_sumOf_2 (by decide) ?_
  refine lv_istore (lv' := [(4, .int (0 : Int32)), (3, .int (0 : Int32)), (0, .ref (uq 0)), (1, .int x1), (2, .int x2)]) hx hb dX6_sumOf_3 hl (by decide) rfl (fun ls hl => ?_)
  obtain ⟨v1, h1, hf⟩ := ob hf
  refine wX6_sumOf_5 S E hK uq mo x1 x2 hP 1000 _ _ h1 ls (lv_sub hl [2, 3, 4, 1, 0] rfl) (fun ls hl => ?_)
  refine lv_iload_n hx hb dX6_sumOf_33 rfl (lv_at hl 3 rfl) ?_
  obtain rfl := Option.some.inj hf
  exact x_iret hx hb hr hlk (vp_nar_int _) dX6_sumOf_34
abbrev rmX6_letter : Room := { frames := 2, cells := 0, slots := 0, locals := 46 }
theorem mX6_letter_0 : Cond.constant RX6 197 (-1000000002) ∈ wsX6_letter := by decide +kernel
theorem mX6_letter_1 : Cond.fieldLink RX6 7 "EvenWhiteModel" "now" "[I" ∈ wsX6_letter := by decide +kernel
theorem mX6_letter_2 : Cond.constant RX6 190 (-1000000001) ∈ wsX6_letter := by decide +kernel
theorem inX6_letter_6 : ∀ w ∈ u_ws RX6 TX6 17, w ∈ wsX6_letter := by decide +kernel
def fX6_letter (mo : Mo) (x1 : Int32) (x2 : Int32) : Option Int32 :=
  (fX6_isLetter mo x1).bind fun v1 =>
  (if v1 = (0 : Int32) then
  some (-1000000001 : Int32)
  else (if x2 = (0 : Int32) then
  (rdI (Mo_now mo) 63 ((48 : Int32) + x1)).bind fun v7 =>
  some v7
  else (if x2 = (1 : Int32) then
  (fX6_isAlike mo x1).bind fun v8 =>
  some (if v8 = (0 : Int32) then (0 : Int32) else (1 : Int32))
  else (if x2 = (2 : Int32) then
  (fX6_sumOf mo x1 (0 : Int32)).bind fun v10 =>
  some v10
  else (if x2 = (3 : Int32) then
  (fX6_sumOf mo x1 (1 : Int32)).bind fun v11 =>
  some v11
  else some (-1000000002 : Int32))))))
set_option maxHeartbeats 4000000 in
set_option maxRecDepth 100000 in
theorem kX6_letter (l : Launch) (E : xG) (uq : Nat → Nat) (mo : Mo) (x1 : Int32) (x2 : Int32) {r : Int32} (hf : fX6_letter mo x1 x2 = some r) : xPure l yX6_letter wsX6_letter rmX6_letter E [.ref (uq 0), .int x1, .int x2] (wM E uq mo) (.int r) := by
  refine Met.ofW (cc := cX6_letter) (maxL := 3) (ret := (some .int)) (by decide) rfl ?_
  intro p e s m args below meth c s₁ B hml hv
  obtain ⟨rfl, hP, hK⟩ := hv
  have hx := B.exec
  have hb := B.bytes
  have hr := B.returns
  have hts := atoms_spec (ws := wsX6_letter) B.pre
  have hown : s.vm.findClass RX6 = some m.cls := findClass_of_methodNamed B.named
  have hlk := B.notSynchronized
  have S : CallFix p m c cX6_letter 3 s _ wsX6_letter RX6 := ⟨hx, hb, hml, hown, hts⟩
  have hl := lv_entry ([.ref (uq 0), .int x1, .int x2]) (n := 3) (Nat.le_of_ble_eq_true rfl)
  rw [lg_entry_eq]
  generalize (lg_sl ([.ref (uq 0), .int x1, .int x2]) ++ List.replicate (3 - (lg_sl ([.ref (uq 0), .int x1, .int x2])).length) Slot.unset).toArray = ls at hl ⊢
  have hl : lv_has ls 3 [(0, .ref (uq 0)), (1, .int x1), (2, .int x2)] := hl
  unfold fX6_letter at hf
  refine lv_aload_n hx hb dX6_letter_0 rfl (lv_at hl 0 rfl) ?_
  refine lv_iload_n hx hb dX6_letter_1 rfl (lv_at hl 1 rfl) ?_
  obtain ⟨v1, h1, hf⟩ := ob hf
  refine x_pV (As := [.int x1]) (rest := []) S hK (kX6_isLetter l E uq mo x1 h1) (cwV 1 hts gX6_letter_X6_isLetter rfl rfl rfl (by decide +kernel) ⟨Nat.le_of_ble_eq_true rfl, Nat.le_of_ble_eq_true rfl⟩) hP 0 rfl rfl rfl rfl hl.1 (Nat.le_of_ble_eq_true rfl) dX6_letter_2 rfl ⟨Nat.zero_le _, Nat.zero_le _⟩ ?_
  refine lv_if_ne (tgt := 11) hx hb dX6_letter_5 (by decide) (fun c2 => ?_) (fun c2 => ?_)
  · have hf := (if_neg c2).symm.trans hf
    refine lv_iload_n hx hb dX6_letter_11 rfl (lv_at hl 2 rfl) ?_
    by_cases c3 : x2 = (0 : Int32)
    · have hf := (if_pos c3).symm.trans hf
      refine lv_tableIn (tgt := 44) hx hb dX6_letter_12 (by rw [c3]; decide) (by rw [c3]; decide) (by rw [c3]; rfl) (by decide) ?_
      refine lv_aload_n hx hb dX6_letter_44 rfl (lv_at hl 0 rfl) ?_
      refine x_get hx hb hts inX6_letter_6 hown hK hP 0 rfl rfl 0 (by decide) mX6_letter_1 rfl dX6_letter_45 ?_
      refine lv_bipush (v := 48) hx hb dX6_letter_48 (by decide) ?_
      refine lv_iload_n hx hb dX6_letter_50 rfl (lv_at hl 1 rfl) ?_
      refine lv_iadd hx hb dX6_letter_51 ?_
      obtain ⟨v7, h7, hf⟩ := ob hf
      refine x_iald hx hb hK hP 1 rfl h7 dX6_letter_52 ?_
      obtain rfl := Option.some.inj hf
      exact x_iret hx hb hr hlk (vp_nar_int _) dX6_letter_53
    have hf := (if_neg c3).symm.trans hf
    by_cases c4 : x2 = (1 : Int32)
    · have hf := (if_pos c4).symm.trans hf
      refine lv_tableIn (tgt := 54) hx hb dX6_letter_12 (by rw [c4]; decide) (by rw [c4]; decide) (by rw [c4]; rfl) (by decide) ?_
      refine lv_aload_n hx hb dX6_letter_54 rfl (lv_at hl 0 rfl) ?_
      refine lv_iload_n hx hb dX6_letter_55 rfl (lv_at hl 1 rfl) ?_
      obtain ⟨v8, h8, hf⟩ := ob hf
      refine x_pV (As := [.int x1]) (rest := []) S hK (kX6_isAlike l E uq mo x1 h8) (cwV 1 hts gX6_letter_X6_isAlike rfl rfl rfl (by decide +kernel) ⟨Nat.le_of_ble_eq_true rfl, Nat.le_of_ble_eq_true rfl⟩) hP 0 rfl rfl rfl rfl hl.1 (Nat.le_of_ble_eq_true rfl) dX6_letter_56 rfl ⟨Nat.zero_le _, Nat.zero_le _⟩ ?_
      refine x_cut (pc := 67) (ls := ls) (st := [.int (if v8 = (0 : Int32) then (0 : Int32) else (1 : Int32))]) ?_ (fun hj => ?_)
      · obtain rfl := Option.some.inj hf
        exact x_iret hx hb hr hlk (vp_nar_int _) dX6_letter_67
      · refine lv_if_eq (tgt := 66) hx hb dX6_letter_59 (by decide) (fun c9 => ?_) (fun c9 => ?_)
        · refine lv_iconst (v := 0) hx hb dX6_letter_66 (by decide) ?_
          exact (by rw [if_pos c9] at hj; exact hj)
        · refine lv_iconst (v := 1) hx hb dX6_letter_62 (by decide) ?_
          refine lv_goto (tgt := 67) hx hb dX6_letter_63 (by decide) ?_
          exact (by rw [if_neg c9] at hj; exact hj)
    have hf := (if_neg c4).symm.trans hf
    by_cases c5 : x2 = (2 : Int32)
    · have hf := (if_pos c5).symm.trans hf
      refine lv_tableIn (tgt := 68) hx hb dX6_letter_12 (by rw [c5]; decide) (by rw [c5]; decide) (by rw [c5]; rfl) (by decide) ?_
      refine lv_aload_n hx hb dX6_letter_68 rfl (lv_at hl 0 rfl) ?_
      refine lv_iload_n hx hb dX6_letter_69 rfl (lv_at hl 1 rfl) ?_
      refine lv_iconst (v := 0) hx hb dX6_letter_70 (by decide) ?_
      obtain ⟨v10, h10, hf⟩ := ob hf
      refine x_pV (As := [.int x1, .int (0 : Int32)]) (rest := []) S hK (kX6_sumOf l E uq mo x1 (0 : Int32) h10) (cwV 2 hts gX6_letter_X6_sumOf rfl rfl rfl (by decide +kernel) ⟨Nat.le_of_ble_eq_true rfl, Nat.le_of_ble_eq_true rfl⟩) hP 0 rfl rfl rfl rfl hl.1 (Nat.le_of_ble_eq_true rfl) dX6_letter_71 rfl ⟨Nat.zero_le _, Nat.zero_le _⟩ ?_
      obtain rfl := Option.some.inj hf
      exact x_iret hx hb hr hlk (vp_nar_int _) dX6_letter_74
    have hf := (if_neg c5).symm.trans hf
    by_cases c6 : x2 = (3 : Int32)
    · have hf := (if_pos c6).symm.trans hf
      refine lv_tableIn (tgt := 75) hx hb dX6_letter_12 (by rw [c6]; decide) (by rw [c6]; decide) (by rw [c6]; rfl) (by decide) ?_
      refine lv_aload_n hx hb dX6_letter_75 rfl (lv_at hl 0 rfl) ?_
      refine lv_iload_n hx hb dX6_letter_76 rfl (lv_at hl 1 rfl) ?_
      refine lv_iconst (v := 1) hx hb dX6_letter_77 (by decide) ?_
      obtain ⟨v11, h11, hf⟩ := ob hf
      refine x_pV (As := [.int x1, .int (1 : Int32)]) (rest := []) S hK (kX6_sumOf l E uq mo x1 (1 : Int32) h11) (cwV 2 hts gX6_letter_X6_sumOf rfl rfl rfl (by decide +kernel) ⟨Nat.le_of_ble_eq_true rfl, Nat.le_of_ble_eq_true rfl⟩) hP 0 rfl rfl rfl rfl hl.1 (Nat.le_of_ble_eq_true rfl) dX6_letter_78 rfl ⟨Nat.zero_le _, Nat.zero_le _⟩ ?_
      obtain rfl := Option.some.inj hf
      exact x_iret hx hb hr hlk (vp_nar_int _) dX6_letter_81
    have hf := (if_neg c6).symm.trans hf
    refine lv_tableOut (tgt := 82) hx hb dX6_letter_12 (x_tab3 c3 c4 c5 c6) (by decide) ?_
    refine lv_ldc hx hb hown (hts _ mX6_letter_0) dX6_letter_82 ?_
    obtain rfl := Option.some.inj hf
    exact x_iret hx hb hr hlk (vp_nar_int _) dX6_letter_84
  · have hf := (if_pos c2).symm.trans hf
    refine lv_ldc hx hb hown (hts _ mX6_letter_2) dX6_letter_8 ?_
    obtain rfl := Option.some.inj hf
    exact x_iret hx hb hr hlk (vp_nar_int _) dX6_letter_10
abbrev rmX6_back : Room := { frames := 2, cells := 0, slots := 0, locals := 46 }
theorem mX6_back_0 : Cond.constant RX6 190 (-1000000001) ∈ wsX6_back := by decide +kernel
theorem mX6_back_1 : Cond.constant RX6 197 (-1000000002) ∈ wsX6_back := by decide +kernel
theorem mX6_back_2 : Cond.fieldLink RX6 7 "EvenWhiteModel" "now" "[I" ∈ wsX6_back := by decide +kernel
theorem inX6_back_6 : ∀ w ∈ u_ws RX6 TX6 17, w ∈ wsX6_back := by decide +kernel
def fX6_back (mo : Mo) (x1 : Int32) (x2 : Int32) (x3 : Int32) : Option Int32 :=
  (fX6_isLetter mo x1).bind fun v1 =>
  (if v1 = (0 : Int32) then
  some (-1000000001 : Int32)
  else (fX6_isHeight x3).bind fun v3 =>
  (if v3 = (0 : Int32) then
  some (-1000000001 : Int32)
  else (fX6_isSide x2).bind fun v5 =>
  ((if v5 = (0 : Int32) then
  some (-1000000002 : Int32)
  else (fX6_at x1 x2 x3).bind fun v8 =>
  (rdI (Mo_now mo) 63 v8).bind fun v9 =>
  some v9)).bind fun v6 =>
  some v6))
set_option maxHeartbeats 4000000 in
set_option maxRecDepth 100000 in
theorem kX6_back (l : Launch) (E : xG) (uq : Nat → Nat) (mo : Mo) (x1 : Int32) (x2 : Int32) (x3 : Int32) {r : Int32} (hf : fX6_back mo x1 x2 x3 = some r) : xPure l yX6_back wsX6_back rmX6_back E [.ref (uq 0), .int x1, .int x2, .int x3] (wM E uq mo) (.int r) := by
  refine Met.ofW (cc := cX6_back) (maxL := 4) (ret := (some .int)) (by decide) rfl ?_
  intro p e s m args below meth c s₁ B hml hv
  obtain ⟨rfl, hP, hK⟩ := hv
  have hx := B.exec
  have hb := B.bytes
  have hr := B.returns
  have hts := atoms_spec (ws := wsX6_back) B.pre
  have hown : s.vm.findClass RX6 = some m.cls := findClass_of_methodNamed B.named
  have hlk := B.notSynchronized
  have S : CallFix p m c cX6_back 4 s _ wsX6_back RX6 := ⟨hx, hb, hml, hown, hts⟩
  have hl := lv_entry ([.ref (uq 0), .int x1, .int x2, .int x3]) (n := 4) (Nat.le_of_ble_eq_true rfl)
  rw [lg_entry_eq]
  generalize (lg_sl ([.ref (uq 0), .int x1, .int x2, .int x3]) ++ List.replicate (4 - (lg_sl ([.ref (uq 0), .int x1, .int x2, .int x3])).length) Slot.unset).toArray = ls at hl ⊢
  have hl : lv_has ls 4 [(0, .ref (uq 0)), (1, .int x1), (2, .int x2), (3, .int x3)] := hl
  unfold fX6_back at hf
  refine lv_aload_n hx hb dX6_back_0 rfl (lv_at hl 0 rfl) ?_
  refine lv_iload_n hx hb dX6_back_1 rfl (lv_at hl 1 rfl) ?_
  obtain ⟨v1, h1, hf⟩ := ob hf
  refine x_pV (As := [.int x1]) (rest := []) S hK (kX6_isLetter l E uq mo x1 h1) (cwV 1 hts gX6_back_X6_isLetter rfl rfl rfl (by decide +kernel) ⟨Nat.le_of_ble_eq_true rfl, Nat.le_of_ble_eq_true rfl⟩) hP 0 rfl rfl rfl rfl hl.1 (Nat.le_of_ble_eq_true rfl) dX6_back_2 rfl ⟨Nat.zero_le _, Nat.zero_le _⟩ ?_
  refine lv_if_eq (tgt := 15) hx hb dX6_back_5 (by decide) (fun c2 => ?_) (fun c2 => ?_)
  · have hf := (if_pos c2).symm.trans hf
    refine lv_ldc hx hb hown (hts _ mX6_back_0) dX6_back_15 ?_
    obtain rfl := Option.some.inj hf
    exact x_iret hx hb hr hlk (vp_nar_int _) dX6_back_17
  · have hf := (if_neg c2).symm.trans hf
    refine lv_iload_n hx hb dX6_back_8 rfl (lv_at hl 3 rfl) ?_
    obtain ⟨v3, h3, hf⟩ := ob hf
    refine x_pS (As := [.int x3]) (rest := []) S hK (kX6_isHeight l E x3 h3) (va_cwS 1 hts gX6_back_X6_isHeight rfl rfl rfl (by decide +kernel) ⟨Nat.le_of_ble_eq_true rfl, Nat.le_of_ble_eq_true rfl⟩) x_nil rfl hl.1 (Nat.le_of_ble_eq_true rfl) dX6_back_9 rfl ⟨Nat.zero_le _, Nat.zero_le _⟩ ?_
    refine lv_if_ne (tgt := 18) hx hb dX6_back_12 (by decide) (fun c4 => ?_) (fun c4 => ?_)
    · have hf := (if_neg c4).symm.trans hf
      refine lv_iload_n hx hb dX6_back_18 rfl (lv_at hl 2 rfl) ?_
      obtain ⟨v5, h5, hf⟩ := ob hf
      refine x_pS (As := [.int x2]) (rest := []) S hK (kX6_isSide l E x2 h5) (va_cwS 1 hts gX6_back_X6_isSide rfl rfl rfl (by decide +kernel) ⟨Nat.le_of_ble_eq_true rfl, Nat.le_of_ble_eq_true rfl⟩) x_nil rfl hl.1 (Nat.le_of_ble_eq_true rfl) dX6_back_19 rfl ⟨Nat.zero_le _, Nat.zero_le _⟩ ?_
      obtain ⟨v6, h6, hf⟩ := ob hf
      refine x_cutL (fun ls => lv_has ls 4 [(0, .ref (uq 0)), (1, .int x1), (2, .int x2), (3, .int x3)]) (pc := 41) (st := [.int v6]) (fun ls hl => ?_) (fun hj => ?_)
      · obtain rfl := Option.some.inj hf
        exact x_iret hx hb hr hlk (vp_nar_int _) dX6_back_41
      · have hf := h6
        refine lv_if_eq (tgt := 39) hx hb dX6_back_22 (by decide) (fun c7 => ?_) (fun c7 => ?_)
        · have hf := (if_pos c7).symm.trans hf
          refine lv_ldc hx hb hown (hts _ mX6_back_1) dX6_back_39 ?_
          obtain rfl := Option.some.inj hf
          exact hj ls (lv_sub hl [0, 1, 2, 3] rfl)
        · have hf := (if_neg c7).symm.trans hf
          refine lv_aload_n hx hb dX6_back_25 rfl (lv_at hl 0 rfl) ?_
          refine x_get hx hb hts inX6_back_6 hown hK hP 0 rfl rfl 0 (by decide) mX6_back_2 rfl dX6_back_26 ?_
          refine lv_iload_n hx hb dX6_back_29 rfl (lv_at hl 1 rfl) ?_
          refine lv_iload_n hx hb dX6_back_30 rfl (lv_at hl 2 rfl) ?_
          refine lv_iload_n hx hb dX6_back_31 rfl (lv_at hl 3 rfl) ?_
          obtain ⟨v8, h8, hf⟩ := ob hf
          refine x_pS (As := [.int x1, .int x2, .int x3]) (rest := [.ref (uq 1)]) S hK (kX6_at l E x1 x2 x3 h8) (va_cwS 3 hts gX6_back_X6_at rfl rfl rfl (by decide +kernel) ⟨Nat.le_of_ble_eq_true rfl, Nat.le_of_ble_eq_true rfl⟩) x_nil rfl hl.1 (Nat.le_of_ble_eq_true rfl) dX6_back_32 rfl ⟨Nat.zero_le _, Nat.zero_le _⟩ ?_
          obtain ⟨v9, h9, hf⟩ := ob hf
          refine x_iald hx hb hK hP 1 rfl h9 dX6_back_35 ?_
          refine lv_goto (tgt := 41) hx hb dX6_back_36 (by decide) ?_
          obtain rfl := Option.some.inj hf
          exact hj ls (lv_sub hl [0, 1, 2, 3] rfl)
    · have hf := (if_pos c4).symm.trans hf
      refine lv_ldc hx hb hown (hts _ mX6_back_0) dX6_back_15 ?_
      obtain rfl := Option.some.inj hf
      exact x_iret hx hb hr hlk (vp_nar_int _) dX6_back_17
abbrev rmX6_space : Room := { frames := 5, cells := 0, slots := 0, locals := 129 }
theorem mX6_space_0 : Cond.constantLong RX6 185 (-1000000002) ∈ wsX6_space := by decide +kernel
theorem mX6_space_1 : Cond.constantLong RX6 206 (3) ∈ wsX6_space := by decide +kernel
theorem mX6_space_2 : Cond.fieldLink RX6 33 "EvenWhiteModel" "wholes" "[J" ∈ wsX6_space := by decide +kernel
theorem mX6_space_3 : Cond.fieldLink RX6 20 "EvenWhiteModel" "spaces" "[J" ∈ wsX6_space := by decide +kernel
theorem mX6_space_4 : Cond.constantLong RX6 125 (8) ∈ wsX6_space := by decide +kernel
theorem mX6_space_5 : Cond.fieldLink RX6 112 "EvenWhiteModel" "whole" "J" ∈ wsX6_space := by decide +kernel
theorem mX6_space_6 : Cond.fieldLink RX6 16 "EvenWhiteModel" "isOpen" "[Z" ∈ wsX6_space := by decide +kernel
theorem mX6_space_7 : Cond.constantLong RX6 204 (-1000000001) ∈ wsX6_space := by decide +kernel
theorem inX6_space_6 : ∀ w ∈ u_ws RX6 TX6 17, w ∈ wsX6_space := by decide +kernel
def fX6_space (mo : Mo) (x1 : Int32) (x2 : Int32) (x3 : Int32) : Option (Int64 × Mo) :=
  (fX6_isLetter mo x1).bind fun v1 =>
  (if v1 = (0 : Int32) then
  some ((-1000000001 : Int64), mo)
  else (fX6_isSide x2).bind fun v3 =>
  (if v3 = (0 : Int32) then
  some ((-1000000002 : Int64), mo)
  else (fX6_in (Int32.toInt64 x3) (0 : Int64) (3 : Int64)).bind fun v5 =>
  (if v5 = (0 : Int32) then
  some ((-1000000002 : Int64), mo)
  else (fX6_solve mo).bind fun v7 =>
  (fX6_layWholes v7).bind fun v8 =>
  (if x3 = (0 : Int32) then
  (rdJ (Mo_spaces v8) 6 (if x2 = (0 : Int32) then ((3 : Int32) + x1) else x1)).bind fun v14 =>
  (fX6_above v14 ((8 : Int64) * (Mo_whole v8))).bind fun v15 =>
  some (v15, v8)
  else (if x3 = (1 : Int32) then
  (rdJ (Mo_spaces v8) 6 (if x2 = (0 : Int32) then ((3 : Int32) + x1) else x1)).bind fun v16 =>
  (fX6_below v16 ((8 : Int64) * (Mo_whole v8))).bind fun v17 =>
  some (v17, v8)
  else (if x3 = (2 : Int32) then
  (rdI (Mo_isOpn v8) 6 (if x2 = (0 : Int32) then ((3 : Int32) + x1) else x1)).bind fun v18 =>
  some ((if v18 = (0 : Int32) then (0 : Int64) else (1 : Int64)), v8)
  else (rdJ (Mo_wholes v8) 6 (if x2 = (0 : Int32) then ((3 : Int32) + x1) else x1)).bind fun v13 =>
  some (v13, v8)))))))
set_option maxHeartbeats 4000000 in
set_option maxRecDepth 100000 in
theorem kX6_space (l : Launch) (E : xG) (uq : Nat → Nat) (mo : Mo) (x1 : Int32) (x2 : Int32) (x3 : Int32) {r : (Int64 × Mo)} (hf : fX6_space mo x1 x2 x3 = some r) : xMut l yX6_space wsX6_space rmX6_space E [.ref (uq 0), .int x1, .int x2, .int x3] (wM E uq mo) (some (.long r.1)) (wM E uq r.2) := by
  refine Met.ofW (cc := cX6_space) (maxL := 5) (ret := (some .long)) (by decide) rfl ?_
  intro p e s m args below meth c s₁ B hml hv
  obtain ⟨rfl, hP, hK, hD0⟩ := hv
  have hx := B.exec
  have hb := B.bytes
  have hr := B.returns
  have hts := atoms_spec (ws := wsX6_space) B.pre
  have hown : s.vm.findClass RX6 = some m.cls := findClass_of_methodNamed B.named
  have hlk := B.notSynchronized
  have S : CallFix p m c cX6_space 5 s _ wsX6_space RX6 := ⟨hx, hb, hml, hown, hts⟩
  have hl := lv_entry ([.ref (uq 0), .int x1, .int x2, .int x3]) (n := 5) (Nat.le_of_ble_eq_true rfl)
  rw [lg_entry_eq]
  generalize (lg_sl ([.ref (uq 0), .int x1, .int x2, .int x3]) ++ List.replicate (5 - (lg_sl ([.ref (uq 0), .int x1, .int x2, .int x3])).length) Slot.unset).toArray = ls at hl ⊢
  have hl : lv_has ls 5 [(0, .ref (uq 0)), (1, .int x1), (2, .int x2), (3, .int x3)] := hl
  have hD := xA.self hD0
  have hS : va_S (xA (wM E uq mo)) s.heap s.heap [] := va_S.rf
  show W p l e rmX6_space s m _ below meth c s.heap [] 0 0 _ _
  generalize hA : xA (wM E uq mo) = A at hD hS ⊢
  unfold fX6_space at hf
  refine lv_aload_n hx hb dX6_space_0 rfl (lv_at hl 0 rfl) ?_
  refine lv_iload_n hx hb dX6_space_1 rfl (lv_at hl 1 rfl) ?_
  obtain ⟨v1, h1, hf⟩ := ob hf
  refine x_pV (As := [.int x1]) (rest := []) S hK (kX6_isLetter l E uq mo x1 h1) (cwV 1 hts gX6_space_X6_isLetter rfl rfl rfl (by decide +kernel) ⟨Nat.le_of_ble_eq_true rfl, Nat.le_of_ble_eq_true rfl⟩) hP 0 rfl rfl rfl rfl hl.1 (Nat.le_of_ble_eq_true rfl) dX6_space_2 rfl ⟨Nat.zero_le _, Nat.zero_le _⟩ ?_
  refine lv_if_ne (tgt := 12) hx hb dX6_space_5 (by decide) (fun c2 => ?_) (fun c2 => ?_)
  · have hf := (if_neg c2).symm.trans hf
    refine lv_iload_n hx hb dX6_space_12 rfl (lv_at hl 2 rfl) ?_
    obtain ⟨v3, h3, hf⟩ := ob hf
    refine x_pS (As := [.int x2]) (rest := []) S hK (kX6_isSide l E x2 h3) (va_cwS 1 hts gX6_space_X6_isSide rfl rfl rfl (by decide +kernel) ⟨Nat.le_of_ble_eq_true rfl, Nat.le_of_ble_eq_true rfl⟩) x_nil rfl hl.1 (Nat.le_of_ble_eq_true rfl) dX6_space_13 rfl ⟨Nat.zero_le _, Nat.zero_le _⟩ ?_
    refine lv_if_eq (tgt := 31) hx hb dX6_space_16 (by decide) (fun c4 => ?_) (fun c4 => ?_)
    · have hf := (if_pos c4).symm.trans hf
      refine lv_ldc2 hx hb hown (hts _ mX6_space_0) dX6_space_31 ?_
      obtain rfl := Option.some.inj hf
      subst hA
      exact x_lretM hx hb hr hlk hP hS dX6_space_34
    · have hf := (if_neg c4).symm.trans hf
      refine lv_iload_n hx hb dX6_space_19 rfl (lv_at hl 3 rfl) ?_
      refine lv_i2l (v := (Int32.toInt64 x3)) hx hb dX6_space_20 rfl ?_
      refine lv_lconst (v := 0) hx hb dX6_space_21 (by decide) ?_
      refine lv_ldc2 hx hb hown (hts _ mX6_space_1) dX6_space_22 ?_
      obtain ⟨v5, h5, hf⟩ := ob hf
      refine x_pS (As := [.long (Int32.toInt64 x3), .long (0 : Int64), .long (3 : Int64)]) (rest := []) S hK (kX6_in l E (Int32.toInt64 x3) (0 : Int64) (3 : Int64) h5) (va_cwS 3 hts gX6_space_X6_in rfl rfl rfl (by decide +kernel) ⟨Nat.le_of_ble_eq_true rfl, Nat.le_of_ble_eq_true rfl⟩) x_nil rfl hl.1 (Nat.le_of_ble_eq_true rfl) dX6_space_25 rfl ⟨Nat.zero_le _, Nat.zero_le _⟩ ?_
      refine lv_if_ne (tgt := 35) hx hb dX6_space_28 (by decide) (fun c6 => ?_) (fun c6 => ?_)
      · have hf := (if_neg c6).symm.trans hf
        refine lv_aload_n hx hb dX6_space_35 rfl (lv_at hl 0 rfl) ?_
        obtain ⟨v7, h7, hf⟩ := ob hf
        refine x_mR (ws' := wM E uq v7) (As := []) (rest := []) S hK (kX6_solve l E uq mo h7) (cwV 0 hts gX6_space_X6_solve rfl rfl rfl (by decide +kernel) ⟨Nat.le_of_ble_eq_true rfl, Nat.le_of_ble_eq_true rfl⟩) hP hD hS 0 14 rfl rfl 0 rfl rfl rfl rfl hl.1 (Nat.le_of_ble_eq_true rfl) dX6_space_36 rfl ⟨Nat.zero_le _, Nat.zero_le _⟩ rfl (fun H locs hP hD hS => ?_)
        refine lv_aload_n hx hb dX6_space_39 rfl (lv_at hl 0 rfl) ?_
        obtain ⟨v8, h8, hf⟩ := ob hf
        refine x_mR (ws' := wM E uq v8) (As := []) (rest := []) S hK (kX6_layWholes l E uq v7 h8) (cwV 0 hts gX6_space_X6_layWholes rfl rfl rfl (by decide +kernel) ⟨Nat.le_of_ble_eq_true rfl, Nat.le_of_ble_eq_true rfl⟩) hP hD hS 0 14 rfl rfl 0 rfl rfl rfl rfl hl.1 (Nat.le_of_ble_eq_true rfl) dX6_space_40 rfl ⟨Nat.zero_le _, Nat.zero_le _⟩ rfl (fun H locs hP hD hS => ?_)
        refine lv_iload_n hx hb dX6_space_43 rfl (lv_at hl 2 rfl) ?_
        refine x_cut (pc := 54) (ls := ls) (st := [.int (if x2 = (0 : Int32) then ((3 : Int32) + x1) else x1)]) ?_ (fun hj => ?_)
        · refine lv_istore (lv' := [(4, .int (if x2 = (0 : Int32) then ((3 : Int32) + x1) else x1)), (0, .ref (uq 0)), (1, .int x1), (2, .int x2), (3, .int x3)]) hx hb dX6_space_54 hl (by decide) rfl (fun ls hl => ?_)
          refine lv_iload_n hx hb dX6_space_56 rfl (lv_at hl 4 rfl) ?_
          by_cases c10 : x3 = (0 : Int32)
          · have hf := (if_pos c10).symm.trans hf
            refine lv_tableIn (tgt := 84) hx hb dX6_space_57 (by rw [c10]; decide) (by rw [c10]; decide) (by rw [c10]; rfl) (by decide) ?_
            refine lv_aload_n hx hb dX6_space_84 rfl (lv_at hl 1 rfl) ?_
            refine x_get hx hb hts inX6_space_6 hown hK hP 0 rfl rfl 4 (by decide) mX6_space_3 rfl dX6_space_85 ?_
            refine lv_iload hx hb dX6_space_88 (lv_at hl 0 rfl) ?_
            obtain ⟨v14, h14, hf⟩ := ob hf
            refine x_lald hx hb hK hP 4 rfl h14 dX6_space_90 ?_
            refine lv_ldc2 hx hb hown (hts _ mX6_space_4) dX6_space_91 ?_
            refine lv_aload_n hx hb dX6_space_94 rfl (lv_at hl 1 rfl) ?_
            refine x_get hx hb hts inX6_space_6 hown hK hP 0 rfl rfl 5 (by decide) mX6_space_5 rfl dX6_space_95 ?_
            refine lv_lmul hx hb dX6_space_98 ?_
            obtain ⟨v15, h15, hf⟩ := ob hf
            refine x_pS (As := [.long v14, .long ((8 : Int64) * (Mo_whole v8))]) (rest := []) S hK (kX6_above l E v14 ((8 : Int64) * (Mo_whole v8)) h15) (va_cwS 2 hts gX6_space_X6_above rfl rfl rfl (by decide +kernel) ⟨Nat.le_of_ble_eq_true rfl, Nat.le_of_ble_eq_true rfl⟩) x_nil rfl hl.1 (Nat.le_of_ble_eq_true rfl) dX6_space_99 rfl ⟨Nat.zero_le _, Nat.zero_le _⟩ ?_
            obtain rfl := Option.some.inj hf
            subst hA
            exact x_lretM hx hb hr hlk hP hS dX6_space_102
          have hf := (if_neg c10).symm.trans hf
          by_cases c11 : x3 = (1 : Int32)
          · have hf := (if_pos c11).symm.trans hf
            refine lv_tableIn (tgt := 103) hx hb dX6_space_57 (by rw [c11]; decide) (by rw [c11]; decide) (by rw [c11]; rfl) (by decide) ?_
            refine lv_aload_n hx hb dX6_space_103 rfl (lv_at hl 1 rfl) ?_
            refine x_get hx hb hts inX6_space_6 hown hK hP 0 rfl rfl 4 (by decide) mX6_space_3 rfl dX6_space_104 ?_
            refine lv_iload hx hb dX6_space_107 (lv_at hl 0 rfl) ?_
            obtain ⟨v16, h16, hf⟩ := ob hf
            refine x_lald hx hb hK hP 4 rfl h16 dX6_space_109 ?_
            refine lv_ldc2 hx hb hown (hts _ mX6_space_4) dX6_space_110 ?_
            refine lv_aload_n hx hb dX6_space_113 rfl (lv_at hl 1 rfl) ?_
            refine x_get hx hb hts inX6_space_6 hown hK hP 0 rfl rfl 5 (by decide) mX6_space_5 rfl dX6_space_114 ?_
            refine lv_lmul hx hb dX6_space_117 ?_
            obtain ⟨v17, h17, hf⟩ := ob hf
            refine x_pS (As := [.long v16, .long ((8 : Int64) * (Mo_whole v8))]) (rest := []) S hK (kX6_below l E v16 ((8 : Int64) * (Mo_whole v8)) h17) (va_cwS 2 hts gX6_space_X6_below rfl rfl rfl (by decide +kernel) ⟨Nat.le_of_ble_eq_true rfl, Nat.le_of_ble_eq_true rfl⟩) x_nil rfl hl.1 (Nat.le_of_ble_eq_true rfl) dX6_space_118 rfl ⟨Nat.zero_le _, Nat.zero_le _⟩ ?_
            obtain rfl := Option.some.inj hf
            subst hA
            exact x_lretM hx hb hr hlk hP hS dX6_space_121
          have hf := (if_neg c11).symm.trans hf
          by_cases c12 : x3 = (2 : Int32)
          · have hf := (if_pos c12).symm.trans hf
            refine lv_tableIn (tgt := 122) hx hb dX6_space_57 (by rw [c12]; decide) (by rw [c12]; decide) (by rw [c12]; rfl) (by decide) ?_
            refine lv_aload_n hx hb dX6_space_122 rfl (lv_at hl 1 rfl) ?_
            refine x_get hx hb hts inX6_space_6 hown hK hP 0 rfl rfl 3 (by decide) mX6_space_6 rfl dX6_space_123 ?_
            refine lv_iload hx hb dX6_space_126 (lv_at hl 0 rfl) ?_
            obtain ⟨v18, h18, hf⟩ := ob hf
            refine x_zald hx hb hK hP 3 rfl h18 dX6_space_128 ?_
            refine x_cut (pc := 137) (ls := ls) (st := [.long (if v18 = (0 : Int32) then (0 : Int64) else (1 : Int64))]) ?_ (fun hj => ?_)
            · obtain rfl := Option.some.inj hf
              subst hA
              exact x_lretM hx hb hr hlk hP hS dX6_space_137
            · refine lv_if_eq (tgt := 136) hx hb dX6_space_129 (by decide) (fun c19 => ?_) (fun c19 => ?_)
              · refine lv_lconst (v := 0) hx hb dX6_space_136 (by decide) ?_
                exact (by rw [if_pos c19] at hj; exact hj)
              · refine lv_lconst (v := 1) hx hb dX6_space_132 (by decide) ?_
                refine lv_goto (tgt := 137) hx hb dX6_space_133 (by decide) ?_
                exact (by rw [if_neg c19] at hj; exact hj)
          have hf := (if_neg c12).symm.trans hf
          refine lv_tableOut (tgt := 138) hx hb dX6_space_57 (x_tab2 c10 c11 c12) (by decide) ?_
          refine lv_aload_n hx hb dX6_space_138 rfl (lv_at hl 1 rfl) ?_
          refine x_get hx hb hts inX6_space_6 hown hK hP 0 rfl rfl 9 (by decide) mX6_space_2 rfl dX6_space_139 ?_
          refine lv_iload hx hb dX6_space_142 (lv_at hl 0 rfl) ?_
          obtain ⟨v13, h13, hf⟩ := ob hf
          refine x_lald hx hb hK hP 8 rfl h13 dX6_space_144 ?_
          obtain rfl := Option.some.inj hf
          subst hA
          exact x_lretM hx hb hr hlk hP hS dX6_space_145
        · refine lv_if_ne (tgt := 53) hx hb dX6_space_44 (by decide) (fun c9 => ?_) (fun c9 => ?_)
          · refine lv_iload_n hx hb dX6_space_53 rfl (lv_at hl 1 rfl) ?_
            exact (by rw [if_neg c9] at hj; exact hj)
          · refine lv_iconst (v := 3) hx hb dX6_space_47 (by decide) ?_
            refine lv_iload_n hx hb dX6_space_48 rfl (lv_at hl 1 rfl) ?_
            refine lv_iadd hx hb dX6_space_49 ?_
            refine lv_goto (tgt := 54) hx hb dX6_space_50 (by decide) ?_
            exact (by rw [if_pos c9] at hj; exact hj)
      · have hf := (if_pos c6).symm.trans hf
        refine lv_ldc2 hx hb hown (hts _ mX6_space_0) dX6_space_31 ?_
        obtain rfl := Option.some.inj hf
        subst hA
        exact x_lretM hx hb hr hlk hP hS dX6_space_34
  · have hf := (if_pos c2).symm.trans hf
    refine lv_ldc2 hx hb hown (hts _ mX6_space_7) dX6_space_8 ?_
    obtain rfl := Option.some.inj hf
    subst hA
    exact x_lretM hx hb hr hlk hP hS dX6_space_11
abbrev rmX6_pair : Room := { frames := 5, cells := 0, slots := 0, locals := 129 }
theorem mX6_pair_0 : Cond.constantLong RX6 204 (-1000000001) ∈ wsX6_pair := by decide +kernel
theorem mX6_pair_1 : Cond.constantLong RX6 185 (-1000000002) ∈ wsX6_pair := by decide +kernel
theorem mX6_pair_2 : Cond.fieldLink RX6 112 "EvenWhiteModel" "whole" "J" ∈ wsX6_pair := by decide +kernel
theorem inX6_pair_6 : ∀ w ∈ u_ws RX6 TX6 17, w ∈ wsX6_pair := by decide +kernel
def fX6_pair (mo : Mo) (x1 : Int32) (x2 : Int32) (x3 : Int32) : Option (Int64 × Mo) :=
  (fX6_isLetter mo x1).bind fun v1 =>
  (if v1 = (0 : Int32) then
  some ((-1000000001 : Int64), mo)
  else (fX6_isLetter mo x2).bind fun v3 =>
  (if v3 = (0 : Int32) then
  some ((-1000000001 : Int64), mo)
  else (fX6_solve mo).bind fun v5 =>
  (if x3 = (0 : Int32) then
  (fX6_weightOf v5 x1 x2).bind fun v12 =>
  some ((Int32.toInt64 v12), v5)
  else (if x3 = (1 : Int32) then
  (fX6_bare v5 x1 x2).bind fun v13 =>
  some ((Int32.toInt64 v13), v5)
  else (if x3 = (2 : Int32) then
  (fX6_whiteOf v5 x1 x2).bind fun v14 =>
  (fX6_above v14 (Mo_whole v5)).bind fun v15 =>
  some (v15, v5)
  else (if x3 = (3 : Int32) then
  (fX6_whiteOf v5 x1 x2).bind fun v16 =>
  (fX6_below v16 (Mo_whole v5)).bind fun v17 =>
  some (v17, v5)
  else (if x3 = (4 : Int32) then
  (fX6_overOf v5 x1 x2).bind fun v18 =>
  (fX6_above v18 (Mo_whole v5)).bind fun v19 =>
  some (v19, v5)
  else (if x3 = (5 : Int32) then
  (fX6_overOf v5 x1 x2).bind fun v20 =>
  (fX6_below v20 (Mo_whole v5)).bind fun v21 =>
  some (v21, v5)
  else some ((-1000000002 : Int64), v5)))))))))
set_option maxHeartbeats 4000000 in
set_option maxRecDepth 100000 in
theorem kX6_pair (l : Launch) (E : xG) (uq : Nat → Nat) (mo : Mo) (x1 : Int32) (x2 : Int32) (x3 : Int32) {r : (Int64 × Mo)} (hf : fX6_pair mo x1 x2 x3 = some r) : xMut l yX6_pair wsX6_pair rmX6_pair E [.ref (uq 0), .int x1, .int x2, .int x3] (wM E uq mo) (some (.long r.1)) (wM E uq r.2) := by
  refine Met.ofW (cc := cX6_pair) (maxL := 4) (ret := (some .long)) (by decide) rfl ?_
  intro p e s m args below meth c s₁ B hml hv
  obtain ⟨rfl, hP, hK, hD0⟩ := hv
  have hx := B.exec
  have hb := B.bytes
  have hr := B.returns
  have hts := atoms_spec (ws := wsX6_pair) B.pre
  have hown : s.vm.findClass RX6 = some m.cls := findClass_of_methodNamed B.named
  have hlk := B.notSynchronized
  have S : CallFix p m c cX6_pair 4 s _ wsX6_pair RX6 := ⟨hx, hb, hml, hown, hts⟩
  have hl := lv_entry ([.ref (uq 0), .int x1, .int x2, .int x3]) (n := 4) (Nat.le_of_ble_eq_true rfl)
  rw [lg_entry_eq]
  generalize (lg_sl ([.ref (uq 0), .int x1, .int x2, .int x3]) ++ List.replicate (4 - (lg_sl ([.ref (uq 0), .int x1, .int x2, .int x3])).length) Slot.unset).toArray = ls at hl ⊢
  have hl : lv_has ls 4 [(0, .ref (uq 0)), (1, .int x1), (2, .int x2), (3, .int x3)] := hl
  have hD := xA.self hD0
  have hS : va_S (xA (wM E uq mo)) s.heap s.heap [] := va_S.rf
  show W p l e rmX6_pair s m _ below meth c s.heap [] 0 0 _ _
  generalize hA : xA (wM E uq mo) = A at hD hS ⊢
  unfold fX6_pair at hf
  refine lv_aload_n hx hb dX6_pair_0 rfl (lv_at hl 0 rfl) ?_
  refine lv_iload_n hx hb dX6_pair_1 rfl (lv_at hl 1 rfl) ?_
  obtain ⟨v1, h1, hf⟩ := ob hf
  refine x_pV (As := [.int x1]) (rest := []) S hK (kX6_isLetter l E uq mo x1 h1) (cwV 1 hts gX6_pair_X6_isLetter rfl rfl rfl (by decide +kernel) ⟨Nat.le_of_ble_eq_true rfl, Nat.le_of_ble_eq_true rfl⟩) hP 0 rfl rfl rfl rfl hl.1 (Nat.le_of_ble_eq_true rfl) dX6_pair_2 rfl ⟨Nat.zero_le _, Nat.zero_le _⟩ ?_
  refine lv_if_eq (tgt := 16) hx hb dX6_pair_5 (by decide) (fun c2 => ?_) (fun c2 => ?_)
  · have hf := (if_pos c2).symm.trans hf
    refine lv_ldc2 hx hb hown (hts _ mX6_pair_0) dX6_pair_16 ?_
    obtain rfl := Option.some.inj hf
    subst hA
    exact x_lretM hx hb hr hlk hP hS dX6_pair_19
  · have hf := (if_neg c2).symm.trans hf
    refine lv_aload_n hx hb dX6_pair_8 rfl (lv_at hl 0 rfl) ?_
    refine lv_iload_n hx hb dX6_pair_9 rfl (lv_at hl 2 rfl) ?_
    obtain ⟨v3, h3, hf⟩ := ob hf
    refine x_pV (As := [.int x2]) (rest := []) S hK (kX6_isLetter l E uq mo x2 h3) (cwV 1 hts gX6_pair_X6_isLetter rfl rfl rfl (by decide +kernel) ⟨Nat.le_of_ble_eq_true rfl, Nat.le_of_ble_eq_true rfl⟩) hP 0 rfl rfl rfl rfl hl.1 (Nat.le_of_ble_eq_true rfl) dX6_pair_10 rfl ⟨Nat.zero_le _, Nat.zero_le _⟩ ?_
    refine lv_if_ne (tgt := 20) hx hb dX6_pair_13 (by decide) (fun c4 => ?_) (fun c4 => ?_)
    · have hf := (if_neg c4).symm.trans hf
      refine lv_aload_n hx hb dX6_pair_20 rfl (lv_at hl 0 rfl) ?_
      obtain ⟨v5, h5, hf⟩ := ob hf
      refine x_mR (ws' := wM E uq v5) (As := []) (rest := []) S hK (kX6_solve l E uq mo h5) (cwV 0 hts gX6_pair_X6_solve rfl rfl rfl (by decide +kernel) ⟨Nat.le_of_ble_eq_true rfl, Nat.le_of_ble_eq_true rfl⟩) hP hD hS 0 14 rfl rfl 0 rfl rfl rfl rfl hl.1 (Nat.le_of_ble_eq_true rfl) dX6_pair_21 rfl ⟨Nat.zero_le _, Nat.zero_le _⟩ rfl (fun H locs hP hD hS => ?_)
      refine lv_iload_n hx hb dX6_pair_24 rfl (lv_at hl 3 rfl) ?_
      by_cases c6 : x3 = (0 : Int32)
      · have hf := (if_pos c6).symm.trans hf
        refine lv_tableIn (tgt := 64) hx hb dX6_pair_25 (by rw [c6]; decide) (by rw [c6]; decide) (by rw [c6]; rfl) (by decide) ?_
        refine lv_aload_n hx hb dX6_pair_64 rfl (lv_at hl 0 rfl) ?_
        refine lv_iload_n hx hb dX6_pair_65 rfl (lv_at hl 1 rfl) ?_
        refine lv_iload_n hx hb dX6_pair_66 rfl (lv_at hl 2 rfl) ?_
        obtain ⟨v12, h12, hf⟩ := ob hf
        refine x_pV (As := [.int x1, .int x2]) (rest := []) S hK (kX6_weightOf l E uq v5 x1 x2 h12) (cwV 2 hts gX6_pair_X6_weightOf rfl rfl rfl (by decide +kernel) ⟨Nat.le_of_ble_eq_true rfl, Nat.le_of_ble_eq_true rfl⟩) hP 0 rfl rfl rfl rfl hl.1 (Nat.le_of_ble_eq_true rfl) dX6_pair_67 rfl ⟨Nat.zero_le _, Nat.zero_le _⟩ ?_
        refine lv_i2l (v := (Int32.toInt64 v12)) hx hb dX6_pair_70 rfl ?_
        obtain rfl := Option.some.inj hf
        subst hA
        exact x_lretM hx hb hr hlk hP hS dX6_pair_71
      have hf := (if_neg c6).symm.trans hf
      by_cases c7 : x3 = (1 : Int32)
      · have hf := (if_pos c7).symm.trans hf
        refine lv_tableIn (tgt := 72) hx hb dX6_pair_25 (by rw [c7]; decide) (by rw [c7]; decide) (by rw [c7]; rfl) (by decide) ?_
        refine lv_aload_n hx hb dX6_pair_72 rfl (lv_at hl 0 rfl) ?_
        refine lv_iload_n hx hb dX6_pair_73 rfl (lv_at hl 1 rfl) ?_
        refine lv_iload_n hx hb dX6_pair_74 rfl (lv_at hl 2 rfl) ?_
        obtain ⟨v13, h13, hf⟩ := ob hf
        refine x_pV (As := [.int x1, .int x2]) (rest := []) S hK (kX6_bare l E uq v5 x1 x2 h13) (cwV 2 hts gX6_pair_X6_bare rfl rfl rfl (by decide +kernel) ⟨Nat.le_of_ble_eq_true rfl, Nat.le_of_ble_eq_true rfl⟩) hP 0 rfl rfl rfl rfl hl.1 (Nat.le_of_ble_eq_true rfl) dX6_pair_75 rfl ⟨Nat.zero_le _, Nat.zero_le _⟩ ?_
        refine lv_i2l (v := (Int32.toInt64 v13)) hx hb dX6_pair_78 rfl ?_
        obtain rfl := Option.some.inj hf
        subst hA
        exact x_lretM hx hb hr hlk hP hS dX6_pair_79
      have hf := (if_neg c7).symm.trans hf
      by_cases c8 : x3 = (2 : Int32)
      · have hf := (if_pos c8).symm.trans hf
        refine lv_tableIn (tgt := 80) hx hb dX6_pair_25 (by rw [c8]; decide) (by rw [c8]; decide) (by rw [c8]; rfl) (by decide) ?_
        refine lv_aload_n hx hb dX6_pair_80 rfl (lv_at hl 0 rfl) ?_
        refine lv_iload_n hx hb dX6_pair_81 rfl (lv_at hl 1 rfl) ?_
        refine lv_iload_n hx hb dX6_pair_82 rfl (lv_at hl 2 rfl) ?_
        obtain ⟨v14, h14, hf⟩ := ob hf
        refine x_pV (As := [.int x1, .int x2]) (rest := []) S hK (kX6_whiteOf l E uq v5 x1 x2 h14) (cwV 2 hts gX6_pair_X6_whiteOf rfl rfl rfl (by decide +kernel) ⟨Nat.le_of_ble_eq_true rfl, Nat.le_of_ble_eq_true rfl⟩) hP 0 rfl rfl rfl rfl hl.1 (Nat.le_of_ble_eq_true rfl) dX6_pair_83 rfl ⟨Nat.zero_le _, Nat.zero_le _⟩ ?_
        refine lv_aload_n hx hb dX6_pair_86 rfl (lv_at hl 0 rfl) ?_
        refine x_get hx hb hts inX6_pair_6 hown hK hP 0 rfl rfl 5 (by decide) mX6_pair_2 rfl dX6_pair_87 ?_
        obtain ⟨v15, h15, hf⟩ := ob hf
        refine x_pS (As := [.long v14, .long (Mo_whole v5)]) (rest := []) S hK (kX6_above l E v14 (Mo_whole v5) h15) (va_cwS 2 hts gX6_pair_X6_above rfl rfl rfl (by decide +kernel) ⟨Nat.le_of_ble_eq_true rfl, Nat.le_of_ble_eq_true rfl⟩) x_nil rfl hl.1 (Nat.le_of_ble_eq_true rfl) dX6_pair_90 rfl ⟨Nat.zero_le _, Nat.zero_le _⟩ ?_
        obtain rfl := Option.some.inj hf
        subst hA
        exact x_lretM hx hb hr hlk hP hS dX6_pair_93
      have hf := (if_neg c8).symm.trans hf
      by_cases c9 : x3 = (3 : Int32)
      · have hf := (if_pos c9).symm.trans hf
        refine lv_tableIn (tgt := 94) hx hb dX6_pair_25 (by rw [c9]; decide) (by rw [c9]; decide) (by rw [c9]; rfl) (by decide) ?_
        refine lv_aload_n hx hb dX6_pair_94 rfl (lv_at hl 0 rfl) ?_
        refine lv_iload_n hx hb dX6_pair_95 rfl (lv_at hl 1 rfl) ?_
        refine lv_iload_n hx hb dX6_pair_96 rfl (lv_at hl 2 rfl) ?_
        obtain ⟨v16, h16, hf⟩ := ob hf
        refine x_pV (As := [.int x1, .int x2]) (rest := []) S hK (kX6_whiteOf l E uq v5 x1 x2 h16) (cwV 2 hts gX6_pair_X6_whiteOf rfl rfl rfl (by decide +kernel) ⟨Nat.le_of_ble_eq_true rfl, Nat.le_of_ble_eq_true rfl⟩) hP 0 rfl rfl rfl rfl hl.1 (Nat.le_of_ble_eq_true rfl) dX6_pair_97 rfl ⟨Nat.zero_le _, Nat.zero_le _⟩ ?_
        refine lv_aload_n hx hb dX6_pair_100 rfl (lv_at hl 0 rfl) ?_
        refine x_get hx hb hts inX6_pair_6 hown hK hP 0 rfl rfl 5 (by decide) mX6_pair_2 rfl dX6_pair_101 ?_
        obtain ⟨v17, h17, hf⟩ := ob hf
        refine x_pS (As := [.long v16, .long (Mo_whole v5)]) (rest := []) S hK (kX6_below l E v16 (Mo_whole v5) h17) (va_cwS 2 hts gX6_pair_X6_below rfl rfl rfl (by decide +kernel) ⟨Nat.le_of_ble_eq_true rfl, Nat.le_of_ble_eq_true rfl⟩) x_nil rfl hl.1 (Nat.le_of_ble_eq_true rfl) dX6_pair_104 rfl ⟨Nat.zero_le _, Nat.zero_le _⟩ ?_
        obtain rfl := Option.some.inj hf
        subst hA
        exact x_lretM hx hb hr hlk hP hS dX6_pair_107
      have hf := (if_neg c9).symm.trans hf
      by_cases c10 : x3 = (4 : Int32)
      · have hf := (if_pos c10).symm.trans hf
        refine lv_tableIn (tgt := 108) hx hb dX6_pair_25 (by rw [c10]; decide) (by rw [c10]; decide) (by rw [c10]; rfl) (by decide) ?_
        refine lv_aload_n hx hb dX6_pair_108 rfl (lv_at hl 0 rfl) ?_
        refine lv_iload_n hx hb dX6_pair_109 rfl (lv_at hl 1 rfl) ?_
        refine lv_iload_n hx hb dX6_pair_110 rfl (lv_at hl 2 rfl) ?_
        obtain ⟨v18, h18, hf⟩ := ob hf
        refine x_pV (As := [.int x1, .int x2]) (rest := []) S hK (kX6_overOf l E uq v5 x1 x2 h18) (cwV 2 hts gX6_pair_X6_overOf rfl rfl rfl (by decide +kernel) ⟨Nat.le_of_ble_eq_true rfl, Nat.le_of_ble_eq_true rfl⟩) hP 0 rfl rfl rfl rfl hl.1 (Nat.le_of_ble_eq_true rfl) dX6_pair_111 rfl ⟨Nat.zero_le _, Nat.zero_le _⟩ ?_
        refine lv_aload_n hx hb dX6_pair_114 rfl (lv_at hl 0 rfl) ?_
        refine x_get hx hb hts inX6_pair_6 hown hK hP 0 rfl rfl 5 (by decide) mX6_pair_2 rfl dX6_pair_115 ?_
        obtain ⟨v19, h19, hf⟩ := ob hf
        refine x_pS (As := [.long v18, .long (Mo_whole v5)]) (rest := []) S hK (kX6_above l E v18 (Mo_whole v5) h19) (va_cwS 2 hts gX6_pair_X6_above rfl rfl rfl (by decide +kernel) ⟨Nat.le_of_ble_eq_true rfl, Nat.le_of_ble_eq_true rfl⟩) x_nil rfl hl.1 (Nat.le_of_ble_eq_true rfl) dX6_pair_118 rfl ⟨Nat.zero_le _, Nat.zero_le _⟩ ?_
        obtain rfl := Option.some.inj hf
        subst hA
        exact x_lretM hx hb hr hlk hP hS dX6_pair_121
      have hf := (if_neg c10).symm.trans hf
      by_cases c11 : x3 = (5 : Int32)
      · have hf := (if_pos c11).symm.trans hf
        refine lv_tableIn (tgt := 122) hx hb dX6_pair_25 (by rw [c11]; decide) (by rw [c11]; decide) (by rw [c11]; rfl) (by decide) ?_
        refine lv_aload_n hx hb dX6_pair_122 rfl (lv_at hl 0 rfl) ?_
        refine lv_iload_n hx hb dX6_pair_123 rfl (lv_at hl 1 rfl) ?_
        refine lv_iload_n hx hb dX6_pair_124 rfl (lv_at hl 2 rfl) ?_
        obtain ⟨v20, h20, hf⟩ := ob hf
        refine x_pV (As := [.int x1, .int x2]) (rest := []) S hK (kX6_overOf l E uq v5 x1 x2 h20) (cwV 2 hts gX6_pair_X6_overOf rfl rfl rfl (by decide +kernel) ⟨Nat.le_of_ble_eq_true rfl, Nat.le_of_ble_eq_true rfl⟩) hP 0 rfl rfl rfl rfl hl.1 (Nat.le_of_ble_eq_true rfl) dX6_pair_125 rfl ⟨Nat.zero_le _, Nat.zero_le _⟩ ?_
        refine lv_aload_n hx hb dX6_pair_128 rfl (lv_at hl 0 rfl) ?_
        refine x_get hx hb hts inX6_pair_6 hown hK hP 0 rfl rfl 5 (by decide) mX6_pair_2 rfl dX6_pair_129 ?_
        obtain ⟨v21, h21, hf⟩ := ob hf
        refine x_pS (As := [.long v20, .long (Mo_whole v5)]) (rest := []) S hK (kX6_below l E v20 (Mo_whole v5) h21) (va_cwS 2 hts gX6_pair_X6_below rfl rfl rfl (by decide +kernel) ⟨Nat.le_of_ble_eq_true rfl, Nat.le_of_ble_eq_true rfl⟩) x_nil rfl hl.1 (Nat.le_of_ble_eq_true rfl) dX6_pair_132 rfl ⟨Nat.zero_le _, Nat.zero_le _⟩ ?_
        obtain rfl := Option.some.inj hf
        subst hA
        exact x_lretM hx hb hr hlk hP hS dX6_pair_135
      have hf := (if_neg c11).symm.trans hf
      refine lv_tableOut (tgt := 136) hx hb dX6_pair_25 (x_tab5 c6 c7 c8 c9 c10 c11) (by decide) ?_
      refine lv_ldc2 hx hb hown (hts _ mX6_pair_1) dX6_pair_136 ?_
      obtain rfl := Option.some.inj hf
      subst hA
      exact x_lretM hx hb hr hlk hP hS dX6_pair_139
    · have hf := (if_pos c4).symm.trans hf
      refine lv_ldc2 hx hb hown (hts _ mX6_pair_0) dX6_pair_16 ?_
      obtain rfl := Option.some.inj hf
      subst hA
      exact x_lretM hx hb hr hlk hP hS dX6_pair_19
abbrev rmX6_white : Room := { frames := 5, cells := 0, slots := 0, locals := 129 }
theorem mX6_white_0 : Cond.constant RX6 190 (-1000000001) ∈ wsX6_white := by decide +kernel
theorem mX6_white_1 : Cond.constantLong RX6 125 (8) ∈ wsX6_white := by decide +kernel
theorem mX6_white_2 : Cond.fieldLink RX6 33 "EvenWhiteModel" "wholes" "[J" ∈ wsX6_white := by decide +kernel
theorem inX6_white_6 : ∀ w ∈ u_ws RX6 TX6 17, w ∈ wsX6_white := by decide +kernel
def fX6_white (mo : Mo) (x1 : Int32) (x2 : Int32) : Option (Int32 × Mo) :=
  (fX6_isLetter mo x1).bind fun v1 =>
  (if v1 = (0 : Int32) then
  some ((-1000000001 : Int32), mo)
  else (fX6_isLetter mo x2).bind fun v3 =>
  (if v3 = (0 : Int32) then
  some ((-1000000001 : Int32), mo)
  else (fX6_solve mo).bind fun v5 =>
  (fX6_layWholes v5).bind fun v6 =>
  (fX6_bare v6 x1 x2).bind fun v7 =>
  (rdJ (Mo_wholes v6) 6 x1).bind fun v8 =>
  (rdJ (Mo_wholes v6) 6 ((3 : Int32) + x2)).bind fun v9 =>
  some ((v7 + (Int64.toInt32 ((8 : Int64) * (v8 + v9)))), v6)))
set_option maxHeartbeats 4000000 in
set_option maxRecDepth 100000 in
theorem kX6_white (l : Launch) (E : xG) (uq : Nat → Nat) (mo : Mo) (x1 : Int32) (x2 : Int32) {r : (Int32 × Mo)} (hf : fX6_white mo x1 x2 = some r) : xMut l yX6_white wsX6_white rmX6_white E [.ref (uq 0), .int x1, .int x2] (wM E uq mo) (some (.int r.1)) (wM E uq r.2) := by
  refine Met.ofW (cc := cX6_white) (maxL := 3) (ret := (some .int)) (by decide) rfl ?_
  intro p e s m args below meth c s₁ B hml hv
  obtain ⟨rfl, hP, hK, hD0⟩ := hv
  have hx := B.exec
  have hb := B.bytes
  have hr := B.returns
  have hts := atoms_spec (ws := wsX6_white) B.pre
  have hown : s.vm.findClass RX6 = some m.cls := findClass_of_methodNamed B.named
  have hlk := B.notSynchronized
  have S : CallFix p m c cX6_white 3 s _ wsX6_white RX6 := ⟨hx, hb, hml, hown, hts⟩
  have hl := lv_entry ([.ref (uq 0), .int x1, .int x2]) (n := 3) (Nat.le_of_ble_eq_true rfl)
  rw [lg_entry_eq]
  generalize (lg_sl ([.ref (uq 0), .int x1, .int x2]) ++ List.replicate (3 - (lg_sl ([.ref (uq 0), .int x1, .int x2])).length) Slot.unset).toArray = ls at hl ⊢
  have hl : lv_has ls 3 [(0, .ref (uq 0)), (1, .int x1), (2, .int x2)] := hl
  have hD := xA.self hD0
  have hS : va_S (xA (wM E uq mo)) s.heap s.heap [] := va_S.rf
  show W p l e rmX6_white s m _ below meth c s.heap [] 0 0 _ _
  generalize hA : xA (wM E uq mo) = A at hD hS ⊢
  unfold fX6_white at hf
  refine lv_aload_n hx hb dX6_white_0 rfl (lv_at hl 0 rfl) ?_
  refine lv_iload_n hx hb dX6_white_1 rfl (lv_at hl 1 rfl) ?_
  obtain ⟨v1, h1, hf⟩ := ob hf
  refine x_pV (As := [.int x1]) (rest := []) S hK (kX6_isLetter l E uq mo x1 h1) (cwV 1 hts gX6_white_X6_isLetter rfl rfl rfl (by decide +kernel) ⟨Nat.le_of_ble_eq_true rfl, Nat.le_of_ble_eq_true rfl⟩) hP 0 rfl rfl rfl rfl hl.1 (Nat.le_of_ble_eq_true rfl) dX6_white_2 rfl ⟨Nat.zero_le _, Nat.zero_le _⟩ ?_
  refine lv_if_eq (tgt := 16) hx hb dX6_white_5 (by decide) (fun c2 => ?_) (fun c2 => ?_)
  · have hf := (if_pos c2).symm.trans hf
    refine lv_ldc hx hb hown (hts _ mX6_white_0) dX6_white_16 ?_
    obtain rfl := Option.some.inj hf
    subst hA
    exact x_iretM hx hb hr hlk (vp_nar_int _) hP hS dX6_white_18
  · have hf := (if_neg c2).symm.trans hf
    refine lv_aload_n hx hb dX6_white_8 rfl (lv_at hl 0 rfl) ?_
    refine lv_iload_n hx hb dX6_white_9 rfl (lv_at hl 2 rfl) ?_
    obtain ⟨v3, h3, hf⟩ := ob hf
    refine x_pV (As := [.int x2]) (rest := []) S hK (kX6_isLetter l E uq mo x2 h3) (cwV 1 hts gX6_white_X6_isLetter rfl rfl rfl (by decide +kernel) ⟨Nat.le_of_ble_eq_true rfl, Nat.le_of_ble_eq_true rfl⟩) hP 0 rfl rfl rfl rfl hl.1 (Nat.le_of_ble_eq_true rfl) dX6_white_10 rfl ⟨Nat.zero_le _, Nat.zero_le _⟩ ?_
    refine lv_if_ne (tgt := 19) hx hb dX6_white_13 (by decide) (fun c4 => ?_) (fun c4 => ?_)
    · have hf := (if_neg c4).symm.trans hf
      refine lv_aload_n hx hb dX6_white_19 rfl (lv_at hl 0 rfl) ?_
      obtain ⟨v5, h5, hf⟩ := ob hf
      refine x_mR (ws' := wM E uq v5) (As := []) (rest := []) S hK (kX6_solve l E uq mo h5) (cwV 0 hts gX6_white_X6_solve rfl rfl rfl (by decide +kernel) ⟨Nat.le_of_ble_eq_true rfl, Nat.le_of_ble_eq_true rfl⟩) hP hD hS 0 14 rfl rfl 0 rfl rfl rfl rfl hl.1 (Nat.le_of_ble_eq_true rfl) dX6_white_20 rfl ⟨Nat.zero_le _, Nat.zero_le _⟩ rfl (fun H locs hP hD hS => ?_)
      refine lv_aload_n hx hb dX6_white_23 rfl (lv_at hl 0 rfl) ?_
      obtain ⟨v6, h6, hf⟩ := ob hf
      refine x_mR (ws' := wM E uq v6) (As := []) (rest := []) S hK (kX6_layWholes l E uq v5 h6) (cwV 0 hts gX6_white_X6_layWholes rfl rfl rfl (by decide +kernel) ⟨Nat.le_of_ble_eq_true rfl, Nat.le_of_ble_eq_true rfl⟩) hP hD hS 0 14 rfl rfl 0 rfl rfl rfl rfl hl.1 (Nat.le_of_ble_eq_true rfl) dX6_white_24 rfl ⟨Nat.zero_le _, Nat.zero_le _⟩ rfl (fun H locs hP hD hS => ?_)
      refine lv_aload_n hx hb dX6_white_27 rfl (lv_at hl 0 rfl) ?_
      refine lv_iload_n hx hb dX6_white_28 rfl (lv_at hl 1 rfl) ?_
      refine lv_iload_n hx hb dX6_white_29 rfl (lv_at hl 2 rfl) ?_
      obtain ⟨v7, h7, hf⟩ := ob hf
      refine x_pV (As := [.int x1, .int x2]) (rest := []) S hK (kX6_bare l E uq v6 x1 x2 h7) (cwV 2 hts gX6_white_X6_bare rfl rfl rfl (by decide +kernel) ⟨Nat.le_of_ble_eq_true rfl, Nat.le_of_ble_eq_true rfl⟩) hP 0 rfl rfl rfl rfl hl.1 (Nat.le_of_ble_eq_true rfl) dX6_white_30 rfl ⟨Nat.zero_le _, Nat.zero_le _⟩ ?_
      refine lv_ldc2 hx hb hown (hts _ mX6_white_1) dX6_white_33 ?_
      refine lv_aload_n hx hb dX6_white_36 rfl (lv_at hl 0 rfl) ?_
      refine x_get hx hb hts inX6_white_6 hown hK hP 0 rfl rfl 9 (by decide) mX6_white_2 rfl dX6_white_37 ?_
      refine lv_iload_n hx hb dX6_white_40 rfl (lv_at hl 1 rfl) ?_
      obtain ⟨v8, h8, hf⟩ := ob hf
      refine x_lald hx hb hK hP 8 rfl h8 dX6_white_41 ?_
      refine lv_aload_n hx hb dX6_white_42 rfl (lv_at hl 0 rfl) ?_
      refine x_get hx hb hts inX6_white_6 hown hK hP 0 rfl rfl 9 (by decide) mX6_white_2 rfl dX6_white_43 ?_
      refine lv_iconst (v := 3) hx hb dX6_white_46 (by decide) ?_
      refine lv_iload_n hx hb dX6_white_47 rfl (lv_at hl 2 rfl) ?_
      refine lv_iadd hx hb dX6_white_48 ?_
      obtain ⟨v9, h9, hf⟩ := ob hf
      refine x_lald hx hb hK hP 8 rfl h9 dX6_white_49 ?_
      refine lv_ladd hx hb dX6_white_50 ?_
      refine lv_lmul hx hb dX6_white_51 ?_
      refine lv_l2i (v := (Int64.toInt32 ((8 : Int64) * (v8 + v9)))) hx hb dX6_white_52 rfl ?_
      refine lv_iadd hx hb dX6_white_53 ?_
      obtain rfl := Option.some.inj hf
      subst hA
      exact x_iretM hx hb hr hlk (vp_nar_int _) hP hS dX6_white_54
    · have hf := (if_pos c4).symm.trans hf
      refine lv_ldc hx hb hown (hts _ mX6_white_0) dX6_white_16 ?_
      obtain rfl := Option.some.inj hf
      subst hA
      exact x_iretM hx hb hr hlk (vp_nar_int _) hP hS dX6_white_18
abbrev rmX6_remember : Room := { frames := 0, cells := 0, slots := 0, locals := 0 }
theorem mX6_remember_0 : Cond.fieldLink RX6 182 "EvenWhiteModel" "undos" "I" ∈ wsX6_remember := by decide +kernel
theorem mX6_remember_1 : Cond.fieldLink RX6 42 "EvenWhiteModel" "past" "[I" ∈ wsX6_remember := by decide +kernel
theorem mX6_remember_2 : Cond.fieldLink RX6 7 "EvenWhiteModel" "now" "[I" ∈ wsX6_remember := by decide +kernel
theorem inX6_remember_6 : ∀ w ∈ u_ws RX6 TX6 17, w ∈ wsX6_remember := by decide +kernel
def gX6_remember_12 (rec : (Int32 × Mo) → Option (Int32 × Mo)) (u : Int32 × Mo) : Option (Int32 × Mo) :=
  (if (504 : Int32) ≤ u.1 then
  some (u.1, u.2)
  else (rdI (Mo_past u.2) 504 u.1).bind fun v2 =>
  (wrI (Mo_past u.2) 504 (u.1 - (63 : Int32)) v2).bind fun v3 =>
  rec ((u.1 + (1 : Int32)), (Mo_set_past u.2 v3)))
set_option maxHeartbeats 4000000 in
set_option maxRecDepth 100000 in
theorem wX6_remember_12 {p : Program} {l : Launch} {e : Env} {s : State} {m : MethodId} {args : Array Value} {below : List Frame} {meth : Method} {c : Code} {Q : State → Prop} (S : CallFix p m c cX6_remember 2 s args wsX6_remember RX6) (E : xG) (hK : xK E s) (uq : Nat → Nat) (A : Nat → Prop) (H0 : Heap) : ∀ (n : Nat) (u : Int32 × Mo) (r : Int32 × Mo), lp (gX6_remember_12) n u = some r → ∀ (H : Heap) (locs : List Loc), va_P (xD E) vwCl (wM E uq u.2) H → va_D A (wM E uq u.2) → va_S A H0 H locs → ∀ (ls : Array Slot), lv_has ls 2 [(0, .ref (uq 0)), (1, .int u.1)] → (∀ (H : Heap) (locs : List Loc), va_P (xD E) vwCl (wM E uq r.2) H → va_D A (wM E uq r.2) → va_S A H0 H locs → ∀ (ls : Array Slot), lv_has ls 2 [(0, .ref (uq 0)), (1, .int r.1)] → W p l e rmX6_remember s m args below meth c H locs 0 0 Q (F0 m 40 ls [])) → W p l e rmX6_remember s m args below meth c H locs 0 0 Q (F0 m 12 ls []) := by
  obtain ⟨hx, hb, hml, hown, hts⟩ := id S
  intro n
  induction n with
  | zero =>
    intro u r hf
    exact absurd (show (none : Option _) = some r from hf) (fun q => by cases q)
  | succ n ih =>
    intro u r hf H locs hP hD hS ls hl kx
    have hf : gX6_remember_12 (lp (gX6_remember_12) n) u = some r := hf
    unfold gX6_remember_12 at hf
    refine lv_iload_n hx hb dX6_remember_12 rfl (lv_at hl 1 rfl) ?_
    refine lv_sipush (v := 504) hx hb dX6_remember_13 (by decide) ?_
    refine lv_icmp_ge (tgt := 40) hx hb dX6_remember_16 (by decide) (fun c1 => ?_) (fun c1 => ?_)
    · have hf := (if_pos c1).symm.trans hf
      obtain rfl := Option.some.inj hf
      exact kx _ _ hP hD hS ls (lv_sub hl [0, 1] rfl)
    · have hf := (if_neg c1).symm.trans hf
      refine lv_aload_n hx hb dX6_remember_19 rfl (lv_at hl 0 rfl) ?_
      refine x_get hx hb hts inX6_remember_6 hown hK hP 0 rfl rfl 14 (by decide) mX6_remember_1 rfl dX6_remember_20 ?_
      refine lv_iload_n hx hb dX6_remember_23 rfl (lv_at hl 1 rfl) ?_
      refine lv_bipush (v := 63) hx hb dX6_remember_24 (by decide) ?_
      refine lv_isub hx hb dX6_remember_26 ?_
      refine lv_aload_n hx hb dX6_remember_27 rfl (lv_at hl 0 rfl) ?_
      refine x_get hx hb hts inX6_remember_6 hown hK hP 0 rfl rfl 14 (by decide) mX6_remember_1 rfl dX6_remember_28 ?_
      refine lv_iload_n hx hb dX6_remember_31 rfl (lv_at hl 1 rfl) ?_
      obtain ⟨v2, h2, hf⟩ := ob hf
      refine x_iald hx hb hK hP 11 rfl h2 dX6_remember_32 ?_
      obtain ⟨v3, h3, hf⟩ := ob hf
      refine x_iast hx hb hK hP hD hS 11 rfl h3 dX6_remember_33 (fun H locs hP hD hS => ?_)
      have hP : va_P (xD E) vwCl (wM E uq (Mo_set_past u.2 v3)) H := hP
      have hD : va_D A (wM E uq (Mo_set_past u.2 v3)) := hD
      refine lv_iinc (v := (u.1 + (1 : Int32))) (lv' := [(1, .int (u.1 + (1 : Int32))), (0, .ref (uq 0))]) hx hb dX6_remember_34 hl (k := 1) rfl rfl (by decide) rfl (fun ls hl => ?_)
      refine lv_goto (tgt := 12) hx hb dX6_remember_37 (by decide) ?_
      exact ih ((u.1 + (1 : Int32)), (Mo_set_past u.2 v3)) _ hf _ _ hP hD hS ls (lv_sub hl [1, 0] rfl) kx
def gX6_remember_52 (rec : (Int32 × Mo) → Option (Int32 × Mo)) (u : Int32 × Mo) : Option (Int32 × Mo) :=
  (if (63 : Int32) ≤ u.1 then
  some (u.1, u.2)
  else (rdI (Mo_now u.2) 63 u.1).bind fun v2 =>
  (wrI (Mo_past u.2) 504 (((63 : Int32) * (Mo_undos u.2)) + u.1) v2).bind fun v3 =>
  rec ((u.1 + (1 : Int32)), (Mo_set_past u.2 v3)))
set_option maxHeartbeats 4000000 in
set_option maxRecDepth 100000 in
theorem wX6_remember_52 {p : Program} {l : Launch} {e : Env} {s : State} {m : MethodId} {args : Array Value} {below : List Frame} {meth : Method} {c : Code} {Q : State → Prop} (S : CallFix p m c cX6_remember 2 s args wsX6_remember RX6) (E : xG) (hK : xK E s) (uq : Nat → Nat) (A : Nat → Prop) (H0 : Heap) : ∀ (n : Nat) (u : Int32 × Mo) (r : Int32 × Mo), lp (gX6_remember_52) n u = some r → ∀ (H : Heap) (locs : List Loc), va_P (xD E) vwCl (wM E uq u.2) H → va_D A (wM E uq u.2) → va_S A H0 H locs → ∀ (ls : Array Slot), lv_has ls 2 [(0, .ref (uq 0)), (1, .int u.1)] → (∀ (H : Heap) (locs : List Loc), va_P (xD E) vwCl (wM E uq r.2) H → va_D A (wM E uq r.2) → va_S A H0 H locs → ∀ (ls : Array Slot), lv_has ls 2 [(0, .ref (uq 0)), (1, .int r.1)] → W p l e rmX6_remember s m args below meth c H locs 0 0 Q (F0 m 84 ls [])) → W p l e rmX6_remember s m args below meth c H locs 0 0 Q (F0 m 52 ls []) := by
  obtain ⟨hx, hb, hml, hown, hts⟩ := id S
  intro n
  induction n with
  | zero =>
    intro u r hf
    exact absurd (show (none : Option _) = some r from hf) (fun q => by cases q)
  | succ n ih =>
    intro u r hf H locs hP hD hS ls hl kx
    have hf : gX6_remember_52 (lp (gX6_remember_52) n) u = some r := hf
    unfold gX6_remember_52 at hf
    refine lv_iload_n hx hb dX6_remember_52 rfl (lv_at hl 1 rfl) ?_
    refine lv_bipush (v := 63) hx hb dX6_remember_53 (by decide) ?_
    refine lv_icmp_ge (tgt := 84) hx hb dX6_remember_55 (by decide) (fun c1 => ?_) (fun c1 => ?_)
    · have hf := (if_pos c1).symm.trans hf
      obtain rfl := Option.some.inj hf
      exact kx _ _ hP hD hS ls (lv_sub hl [0, 1] rfl)
    · have hf := (if_neg c1).symm.trans hf
      refine lv_aload_n hx hb dX6_remember_58 rfl (lv_at hl 0 rfl) ?_
      refine x_get hx hb hts inX6_remember_6 hown hK hP 0 rfl rfl 14 (by decide) mX6_remember_1 rfl dX6_remember_59 ?_
      refine lv_bipush (v := 63) hx hb dX6_remember_62 (by decide) ?_
      refine lv_aload_n hx hb dX6_remember_64 rfl (lv_at hl 0 rfl) ?_
      refine x_get hx hb hts inX6_remember_6 hown hK hP 0 rfl rfl 13 (by decide) mX6_remember_0 rfl dX6_remember_65 ?_
      refine lv_imul hx hb dX6_remember_68 ?_
      refine lv_iload_n hx hb dX6_remember_69 rfl (lv_at hl 1 rfl) ?_
      refine lv_iadd hx hb dX6_remember_70 ?_
      refine lv_aload_n hx hb dX6_remember_71 rfl (lv_at hl 0 rfl) ?_
      refine x_get hx hb hts inX6_remember_6 hown hK hP 0 rfl rfl 0 (by decide) mX6_remember_2 rfl dX6_remember_72 ?_
      refine lv_iload_n hx hb dX6_remember_75 rfl (lv_at hl 1 rfl) ?_
      obtain ⟨v2, h2, hf⟩ := ob hf
      refine x_iald hx hb hK hP 1 rfl h2 dX6_remember_76 ?_
      obtain ⟨v3, h3, hf⟩ := ob hf
      refine x_iast hx hb hK hP hD hS 11 rfl h3 dX6_remember_77 (fun H locs hP hD hS => ?_)
      have hP : va_P (xD E) vwCl (wM E uq (Mo_set_past u.2 v3)) H := hP
      have hD : va_D A (wM E uq (Mo_set_past u.2 v3)) := hD
      refine lv_iinc (v := (u.1 + (1 : Int32))) (lv' := [(1, .int (u.1 + (1 : Int32))), (0, .ref (uq 0))]) hx hb dX6_remember_78 hl (k := 1) rfl rfl (by decide) rfl (fun ls hl => ?_)
      refine lv_goto (tgt := 52) hx hb dX6_remember_81 (by decide) ?_
      exact ih ((u.1 + (1 : Int32)), (Mo_set_past u.2 v3)) _ hf _ _ hP hD hS ls (lv_sub hl [1, 0] rfl) kx
def fX6_remember (mo : Mo) : Option Mo :=
  ((if (Mo_undos mo) = (8 : Int32) then
  (lp (gX6_remember_12) 1000 ((63 : Int32), mo)).bind fun v3 =>
  some (Mo_set_undos v3.2 ((Mo_undos v3.2) - (1 : Int32)))
  else some mo)).bind fun v1 =>
  (lp (gX6_remember_52) 1000 ((0 : Int32), v1)).bind fun v4 =>
  some (Mo_set_undos v4.2 ((Mo_undos v4.2) + (1 : Int32)))
set_option maxHeartbeats 4000000 in
set_option maxRecDepth 100000 in
theorem kX6_remember (l : Launch) (E : xG) (uq : Nat → Nat) (mo : Mo) {r : Mo} (hf : fX6_remember mo = some r) : xMut l yX6_remember wsX6_remember rmX6_remember E [.ref (uq 0)] (wM E uq mo) none (wM E uq r) := by
  refine Met.ofW (cc := cX6_remember) (maxL := 2) (ret := none) (by decide) rfl ?_
  intro p e s m args below meth c s₁ B hml hv
  obtain ⟨rfl, hP, hK, hD0⟩ := hv
  have hx := B.exec
  have hb := B.bytes
  have hr := B.returns
  have hts := atoms_spec (ws := wsX6_remember) B.pre
  have hown : s.vm.findClass RX6 = some m.cls := findClass_of_methodNamed B.named
  have hlk := B.notSynchronized
  have S : CallFix p m c cX6_remember 2 s _ wsX6_remember RX6 := ⟨hx, hb, hml, hown, hts⟩
  have hl := lv_entry ([.ref (uq 0)]) (n := 2) (Nat.le_of_ble_eq_true rfl)
  rw [lg_entry_eq]
  generalize (lg_sl ([.ref (uq 0)]) ++ List.replicate (2 - (lg_sl ([.ref (uq 0)])).length) Slot.unset).toArray = ls at hl ⊢
  have hl : lv_has ls 2 [(0, .ref (uq 0))] := hl
  have hD := xA.self hD0
  have hS : va_S (xA (wM E uq mo)) s.heap s.heap [] := va_S.rf
  show W p l e rmX6_remember s m _ below meth c s.heap [] 0 0 _ _
  generalize hA : xA (wM E uq mo) = A at hD hS ⊢
  unfold fX6_remember at hf
  refine lv_aload_n hx hb dX6_remember_0 rfl (lv_at hl 0 rfl) ?_
  refine x_get hx hb hts inX6_remember_6 hown hK hP 0 rfl rfl 13 (by decide) mX6_remember_0 rfl dX6_remember_1 ?_
  refine lv_bipush (v := 8) hx hb dX6_remember_4 (by decide) ?_
  obtain ⟨v1, h1, hf⟩ := ob hf
  refine x_cutH (fun H locs ls => va_P (xD E) vwCl (wM E uq v1) H ∧ va_D A (wM E uq v1) ∧ va_S A s.heap H locs ∧ lv_has ls 2 [(0, .ref (uq 0))]) (pc := 50) (st := []) (fun H locs ls hq => ?_) (fun hj => ?_)
  · obtain ⟨hP, hD, hS, hl⟩ := hq
    refine lv_iconst (v := 0) hx hb dX6_remember_50 (by decide) ?_
    refine lv_istore_n (lv' := [(1, .int (0 : Int32)), (0, .ref (uq 0))]) hx hb dX6_remember_51 rfl hl (by decide) rfl (fun ls hl => ?_)
    obtain ⟨v4, h4, hf⟩ := ob hf
    refine wX6_remember_52 S E hK uq _ _ 1000 _ _ h4 _ _ hP hD hS ls (lv_sub hl [1, 0] rfl) (fun H locs hP hD hS ls hl => ?_)
    refine lv_aload_n hx hb dX6_remember_84 rfl (lv_at hl 0 rfl) ?_
    refine lv_dup hx hb dX6_remember_85 rfl ?_
    refine x_get hx hb hts inX6_remember_6 hown hK hP 0 rfl rfl 13 (by decide) mX6_remember_0 rfl dX6_remember_86 ?_
    refine lv_iconst (v := 1) hx hb dX6_remember_89 (by decide) ?_
    refine lv_iadd hx hb dX6_remember_90 ?_
    refine x_putf hx hb hts inX6_remember_6 tyX6_ok nmX6 hown hK hP hD hS 0 rfl rfl 13 (by decide) mX6_remember_0 rfl (vp_nar_int _) rfl (Nat.le_of_ble_eq_true rfl) dX6_remember_91 (fun H locs hP hD hS => ?_)
    have hP : va_P (xD E) vwCl (wM E uq (Mo_set_undos v4.2 ((Mo_undos v4.2) + (1 : Int32)))) H := hP
    have hD : va_D A (wM E uq (Mo_set_undos v4.2 ((Mo_undos v4.2) + (1 : Int32)))) := hD
    obtain rfl := Option.some.inj hf
    subst hA
    exact x_vretM hx hb hr hlk hP hS dX6_remember_94
  · have hf := h1
    refine lv_icmp_ne (tgt := 50) hx hb dX6_remember_6 (by decide) (fun c2 => ?_) (fun c2 => ?_)
    · have hf := (if_neg c2).symm.trans hf
      obtain rfl := Option.some.inj hf
      exact hj _ _ ls ⟨hP, hD, hS, lv_sub hl [0] rfl⟩
    · have hf := (if_pos c2).symm.trans hf
      refine lv_bipush (v := 63) hx hb dX6_remember_9 (by decide) ?_
      refine lv_istore_n (lv' := [(1, .int (63 : Int32)), (0, .ref (uq 0))]) hx hb dX6_remember_11 rfl hl (by decide) rfl (fun ls hl => ?_)
      obtain ⟨v3, h3, hf⟩ := ob hf
      refine wX6_remember_12 S E hK uq _ _ 1000 _ _ h3 _ _ hP hD hS ls (lv_sub hl [1, 0] rfl) (fun H locs hP hD hS ls hl => ?_)
      refine lv_aload_n hx hb dX6_remember_40 rfl (lv_at hl 0 rfl) ?_
      refine lv_dup hx hb dX6_remember_41 rfl ?_
      refine x_get hx hb hts inX6_remember_6 hown hK hP 0 rfl rfl 13 (by decide) mX6_remember_0 rfl dX6_remember_42 ?_
      refine lv_iconst (v := 1) hx hb dX6_remember_45 (by decide) ?_
      refine lv_isub hx hb dX6_remember_46 ?_
      refine x_putf hx hb hts inX6_remember_6 tyX6_ok nmX6 hown hK hP hD hS 0 rfl rfl 13 (by decide) mX6_remember_0 rfl (vp_nar_int _) rfl (Nat.le_of_ble_eq_true rfl) dX6_remember_47 (fun H locs hP hD hS => ?_)
      have hP : va_P (xD E) vwCl (wM E uq (Mo_set_undos v3.2 ((Mo_undos v3.2) - (1 : Int32)))) H := hP
      have hD : va_D A (wM E uq (Mo_set_undos v3.2 ((Mo_undos v3.2) - (1 : Int32)))) := hD
      obtain rfl := Option.some.inj hf
      exact hj _ _ ls ⟨hP, hD, hS, lv_sub hl [0] rfl⟩
abbrev rmX6_letters : Room := { frames := 2, cells := 0, slots := 0, locals := 47 }
theorem mX6_letters_0 : Cond.constantLong RX6 206 (3) ∈ wsX6_letters := by decide +kernel
theorem mX6_letters_1 : Cond.fieldLink RX6 7 "EvenWhiteModel" "now" "[I" ∈ wsX6_letters := by decide +kernel
theorem mX6_letters_2 : Cond.fieldLink RX6 51 "EvenWhiteModel" "lined" "I" ∈ wsX6_letters := by decide +kernel
theorem mX6_letters_3 : Cond.constant RX6 197 (-1000000002) ∈ wsX6_letters := by decide +kernel
theorem inX6_letters_6 : ∀ w ∈ u_ws RX6 TX6 17, w ∈ wsX6_letters := by decide +kernel
def fX6_letters (mo : Mo) (x1 : Int32) : Option (Int32 × Mo) :=
  (fX6_in (Int32.toInt64 x1) (1 : Int64) (3 : Int64)).bind fun v1 =>
  (if v1 = (0 : Int32) then
  some ((-1000000002 : Int32), mo)
  else (fX6_remember mo).bind fun v3 =>
  (rdI (Mo_now v3) 63 (60 : Int32)).bind fun v4 =>
  (fX6_beginLetters v3 x1).bind fun v5 =>
  some (v4, (Mo_set_lined v5 (0 : Int32))))
set_option maxHeartbeats 4000000 in
set_option maxRecDepth 100000 in
theorem kX6_letters (l : Launch) (E : xG) (uq : Nat → Nat) (mo : Mo) (x1 : Int32) {r : (Int32 × Mo)} (hf : fX6_letters mo x1 = some r) : xMut l yX6_letters wsX6_letters rmX6_letters E [.ref (uq 0), .int x1] (wM E uq mo) (some (.int r.1)) (wM E uq r.2) := by
  refine Met.ofW (cc := cX6_letters) (maxL := 3) (ret := (some .int)) (by decide) rfl ?_
  intro p e s m args below meth c s₁ B hml hv
  obtain ⟨rfl, hP, hK, hD0⟩ := hv
  have hx := B.exec
  have hb := B.bytes
  have hr := B.returns
  have hts := atoms_spec (ws := wsX6_letters) B.pre
  have hown : s.vm.findClass RX6 = some m.cls := findClass_of_methodNamed B.named
  have hlk := B.notSynchronized
  have S : CallFix p m c cX6_letters 3 s _ wsX6_letters RX6 := ⟨hx, hb, hml, hown, hts⟩
  have hl := lv_entry ([.ref (uq 0), .int x1]) (n := 3) (Nat.le_of_ble_eq_true rfl)
  rw [lg_entry_eq]
  generalize (lg_sl ([.ref (uq 0), .int x1]) ++ List.replicate (3 - (lg_sl ([.ref (uq 0), .int x1])).length) Slot.unset).toArray = ls at hl ⊢
  have hl : lv_has ls 3 [(0, .ref (uq 0)), (1, .int x1)] := hl
  have hD := xA.self hD0
  have hS : va_S (xA (wM E uq mo)) s.heap s.heap [] := va_S.rf
  show W p l e rmX6_letters s m _ below meth c s.heap [] 0 0 _ _
  generalize hA : xA (wM E uq mo) = A at hD hS ⊢
  unfold fX6_letters at hf
  refine lv_iload_n hx hb dX6_letters_0 rfl (lv_at hl 1 rfl) ?_
  refine lv_i2l (v := (Int32.toInt64 x1)) hx hb dX6_letters_1 rfl ?_
  refine lv_lconst (v := 1) hx hb dX6_letters_2 (by decide) ?_
  refine lv_ldc2 hx hb hown (hts _ mX6_letters_0) dX6_letters_3 ?_
  obtain ⟨v1, h1, hf⟩ := ob hf
  refine x_pS (As := [.long (Int32.toInt64 x1), .long (1 : Int64), .long (3 : Int64)]) (rest := []) S hK (kX6_in l E (Int32.toInt64 x1) (1 : Int64) (3 : Int64) h1) (va_cwS 3 hts gX6_letters_X6_in rfl rfl rfl (by decide +kernel) ⟨Nat.le_of_ble_eq_true rfl, Nat.le_of_ble_eq_true rfl⟩) x_nil rfl hl.1 (Nat.le_of_ble_eq_true rfl) dX6_letters_6 rfl ⟨Nat.zero_le _, Nat.zero_le _⟩ ?_
  refine lv_if_ne (tgt := 15) hx hb dX6_letters_9 (by decide) (fun c2 => ?_) (fun c2 => ?_)
  · have hf := (if_neg c2).symm.trans hf
    refine lv_aload_n hx hb dX6_letters_15 rfl (lv_at hl 0 rfl) ?_
    obtain ⟨v3, h3, hf⟩ := ob hf
    refine x_mR (ws' := wM E uq v3) (As := []) (rest := []) S hK (kX6_remember l E uq mo h3) (cwV 0 hts gX6_letters_X6_remember rfl rfl rfl (by decide +kernel) ⟨Nat.le_of_ble_eq_true rfl, Nat.le_of_ble_eq_true rfl⟩) hP hD hS 0 14 rfl rfl 0 rfl rfl rfl rfl hl.1 (Nat.le_of_ble_eq_true rfl) dX6_letters_16 rfl ⟨Nat.zero_le _, Nat.zero_le _⟩ rfl (fun H locs hP hD hS => ?_)
    refine lv_aload_n hx hb dX6_letters_19 rfl (lv_at hl 0 rfl) ?_
    refine x_get hx hb hts inX6_letters_6 hown hK hP 0 rfl rfl 0 (by decide) mX6_letters_1 rfl dX6_letters_20 ?_
    refine lv_bipush (v := 60) hx hb dX6_letters_23 (by decide) ?_
    obtain ⟨v4, h4, hf⟩ := ob hf
    refine x_iald hx hb hK hP 1 rfl h4 dX6_letters_25 ?_
    refine lv_istore_n (lv' := [(2, .int v4), (0, .ref (uq 0)), (1, .int x1)]) hx hb dX6_letters_26 rfl hl (by decide) rfl (fun ls hl => ?_)
    refine lv_aload_n hx hb dX6_letters_27 rfl (lv_at hl 1 rfl) ?_
    refine lv_iload_n hx hb dX6_letters_28 rfl (lv_at hl 2 rfl) ?_
    obtain ⟨v5, h5, hf⟩ := ob hf
    refine x_mR (ws' := wM E uq v5) (As := [.int x1]) (rest := []) S hK (kX6_beginLetters l E uq v3 x1 h5) (cwV 1 hts gX6_letters_X6_beginLetters rfl rfl rfl (by decide +kernel) ⟨Nat.le_of_ble_eq_true rfl, Nat.le_of_ble_eq_true rfl⟩) hP hD hS 0 14 rfl rfl 0 rfl rfl rfl rfl hl.1 (Nat.le_of_ble_eq_true rfl) dX6_letters_29 rfl ⟨Nat.zero_le _, Nat.zero_le _⟩ rfl (fun H locs hP hD hS => ?_)
    refine lv_aload_n hx hb dX6_letters_32 rfl (lv_at hl 1 rfl) ?_
    refine lv_iconst (v := 0) hx hb dX6_letters_33 (by decide) ?_
    refine x_putf hx hb hts inX6_letters_6 tyX6_ok nmX6 hown hK hP hD hS 0 rfl rfl 1 (by decide) mX6_letters_2 rfl (vp_nar_int _) rfl (Nat.le_of_ble_eq_true rfl) dX6_letters_34 (fun H locs hP hD hS => ?_)
    have hP : va_P (xD E) vwCl (wM E uq (Mo_set_lined v5 (0 : Int32))) H := hP
    have hD : va_D A (wM E uq (Mo_set_lined v5 (0 : Int32))) := hD
    refine lv_iload_n hx hb dX6_letters_37 rfl (lv_at hl 0 rfl) ?_
    obtain rfl := Option.some.inj hf
    subst hA
    exact x_iretM hx hb hr hlk (vp_nar_int _) hP hS dX6_letters_38
  · have hf := (if_pos c2).symm.trans hf
    refine lv_ldc hx hb hown (hts _ mX6_letters_3) dX6_letters_12 ?_
    obtain rfl := Option.some.inj hf
    subst hA
    exact x_iretM hx hb hr hlk (vp_nar_int _) hP hS dX6_letters_14
abbrev rmX6_become : Room := { frames := 1, cells := 0, slots := 0, locals := 21 }
theorem mX6_become_0 : Cond.fieldLink RX6 7 "EvenWhiteModel" "now" "[I" ∈ wsX6_become := by decide +kernel
theorem inX6_become_6 : ∀ w ∈ u_ws RX6 TX6 17, w ∈ wsX6_become := by decide +kernel
def fX6_become (mo : Mo) (x1 : Int32) (x2 : Int32) : Option (Int32 × Mo) :=
  (fX6_remember mo).bind fun v1 =>
  (rdI (Mo_now v1) 63 x1).bind fun v2 =>
  (wrI (Mo_now v1) 63 x1 x2).bind fun v3 =>
  some (v2, (Mo_set_now v1 v3))
set_option maxHeartbeats 4000000 in
set_option maxRecDepth 100000 in
theorem kX6_become (l : Launch) (E : xG) (uq : Nat → Nat) (mo : Mo) (x1 : Int32) (x2 : Int32) {r : (Int32 × Mo)} (hf : fX6_become mo x1 x2 = some r) : xMut l yX6_become wsX6_become rmX6_become E [.ref (uq 0), .int x1, .int x2] (wM E uq mo) (some (.int r.1)) (wM E uq r.2) := by
  refine Met.ofW (cc := cX6_become) (maxL := 4) (ret := (some .int)) (by decide) rfl ?_
  intro p e s m args below meth c s₁ B hml hv
  obtain ⟨rfl, hP, hK, hD0⟩ := hv
  have hx := B.exec
  have hb := B.bytes
  have hr := B.returns
  have hts := atoms_spec (ws := wsX6_become) B.pre
  have hown : s.vm.findClass RX6 = some m.cls := findClass_of_methodNamed B.named
  have hlk := B.notSynchronized
  have S : CallFix p m c cX6_become 4 s _ wsX6_become RX6 := ⟨hx, hb, hml, hown, hts⟩
  have hl := lv_entry ([.ref (uq 0), .int x1, .int x2]) (n := 4) (Nat.le_of_ble_eq_true rfl)
  rw [lg_entry_eq]
  generalize (lg_sl ([.ref (uq 0), .int x1, .int x2]) ++ List.replicate (4 - (lg_sl ([.ref (uq 0), .int x1, .int x2])).length) Slot.unset).toArray = ls at hl ⊢
  have hl : lv_has ls 4 [(0, .ref (uq 0)), (1, .int x1), (2, .int x2)] := hl
  have hD := xA.self hD0
  have hS : va_S (xA (wM E uq mo)) s.heap s.heap [] := va_S.rf
  show W p l e rmX6_become s m _ below meth c s.heap [] 0 0 _ _
  generalize hA : xA (wM E uq mo) = A at hD hS ⊢
  unfold fX6_become at hf
  refine lv_aload_n hx hb dX6_become_0 rfl (lv_at hl 0 rfl) ?_
  obtain ⟨v1, h1, hf⟩ := ob hf
  refine x_mR (ws' := wM E uq v1) (As := []) (rest := []) S hK (kX6_remember l E uq mo h1) (cwV 0 hts gX6_become_X6_remember rfl rfl rfl (by decide +kernel) ⟨Nat.le_of_ble_eq_true rfl, Nat.le_of_ble_eq_true rfl⟩) hP hD hS 0 14 rfl rfl 0 rfl rfl rfl rfl hl.1 (Nat.le_of_ble_eq_true rfl) dX6_become_1 rfl ⟨Nat.zero_le _, Nat.zero_le _⟩ rfl (fun H locs hP hD hS => ?_)
  refine lv_aload_n hx hb dX6_become_4 rfl (lv_at hl 0 rfl) ?_
  refine x_get hx hb hts inX6_become_6 hown hK hP 0 rfl rfl 0 (by decide) mX6_become_0 rfl dX6_become_5 ?_
  refine lv_iload_n hx hb dX6_become_8 rfl (lv_at hl 1 rfl) ?_
  obtain ⟨v2, h2, hf⟩ := ob hf
  refine x_iald hx hb hK hP 1 rfl h2 dX6_become_9 ?_
  refine lv_istore_n (lv' := [(3, .int v2), (0, .ref (uq 0)), (1, .int x1), (2, .int x2)]) hx hb dX6_become_10 rfl hl (by decide) rfl (fun ls hl => ?_)
  refine lv_aload_n hx hb dX6_become_11 rfl (lv_at hl 1 rfl) ?_
  refine x_get hx hb hts inX6_become_6 hown hK hP 0 rfl rfl 0 (by decide) mX6_become_0 rfl dX6_become_12 ?_
  refine lv_iload_n hx hb dX6_become_15 rfl (lv_at hl 2 rfl) ?_
  refine lv_iload_n hx hb dX6_become_16 rfl (lv_at hl 3 rfl) ?_
  obtain ⟨v3, h3, hf⟩ := ob hf
  refine x_iast hx hb hK hP hD hS 1 rfl h3 dX6_become_17 (fun H locs hP hD hS => ?_)
  have hP : va_P (xD E) vwCl (wM E uq (Mo_set_now v1 v3)) H := hP
  have hD : va_D A (wM E uq (Mo_set_now v1 v3)) := hD
  refine lv_iload_n hx hb dX6_become_18 rfl (lv_at hl 0 rfl) ?_
  obtain rfl := Option.some.inj hf
  subst hA
  exact x_iretM hx hb hr hlk (vp_nar_int _) hP hS dX6_become_19
abbrev rmX6_side : Room := { frames := 2, cells := 0, slots := 0, locals := 46 }
theorem mX6_side_0 : Cond.constant RX6 190 (-1000000001) ∈ wsX6_side := by decide +kernel
theorem mX6_side_1 : Cond.constant RX6 197 (-1000000002) ∈ wsX6_side := by decide +kernel
theorem mX6_side_2 : Cond.constantLong RX6 214 (30) ∈ wsX6_side := by decide +kernel
def fX6_side (mo : Mo) (x1 : Int32) (x2 : Int32) (x3 : Int32) (x4 : Int32) : Option (Int32 × Mo) :=
  (fX6_isLetter mo x1).bind fun v1 =>
  (if v1 = (0 : Int32) then
  some ((-1000000001 : Int32), mo)
  else (fX6_isHeight x3).bind fun v3 =>
  (if v3 = (0 : Int32) then
  some ((-1000000001 : Int32), mo)
  else (fX6_isSide x2).bind fun v5 =>
  ((if v5 = (0 : Int32) then
  some ((-1000000002 : Int32), mo)
  else (fX6_in (Int32.toInt64 x4) (0 : Int64) (30 : Int64)).bind fun v8 =>
  (if v8 = (0 : Int32) then
  some ((-1000000002 : Int32), mo)
  else (fX6_at x1 x2 x3).bind fun v10 =>
  (fX6_become mo v10 x4).bind fun v11 =>
  some (v11.1, v11.2)))).bind fun v6 =>
  some (v6.1, v6.2)))
set_option maxHeartbeats 4000000 in
set_option maxRecDepth 100000 in
theorem kX6_side (l : Launch) (E : xG) (uq : Nat → Nat) (mo : Mo) (x1 : Int32) (x2 : Int32) (x3 : Int32) (x4 : Int32) {r : (Int32 × Mo)} (hf : fX6_side mo x1 x2 x3 x4 = some r) : xMut l yX6_side wsX6_side rmX6_side E [.ref (uq 0), .int x1, .int x2, .int x3, .int x4] (wM E uq mo) (some (.int r.1)) (wM E uq r.2) := by
  refine Met.ofW (cc := cX6_side) (maxL := 5) (ret := (some .int)) (by decide) rfl ?_
  intro p e s m args below meth c s₁ B hml hv
  obtain ⟨rfl, hP, hK, hD0⟩ := hv
  have hx := B.exec
  have hb := B.bytes
  have hr := B.returns
  have hts := atoms_spec (ws := wsX6_side) B.pre
  have hown : s.vm.findClass RX6 = some m.cls := findClass_of_methodNamed B.named
  have hlk := B.notSynchronized
  have S : CallFix p m c cX6_side 5 s _ wsX6_side RX6 := ⟨hx, hb, hml, hown, hts⟩
  have hl := lv_entry ([.ref (uq 0), .int x1, .int x2, .int x3, .int x4]) (n := 5) (Nat.le_of_ble_eq_true rfl)
  rw [lg_entry_eq]
  generalize (lg_sl ([.ref (uq 0), .int x1, .int x2, .int x3, .int x4]) ++ List.replicate (5 - (lg_sl ([.ref (uq 0), .int x1, .int x2, .int x3, .int x4])).length) Slot.unset).toArray = ls at hl ⊢
  have hl : lv_has ls 5 [(0, .ref (uq 0)), (1, .int x1), (2, .int x2), (3, .int x3), (4, .int x4)] := hl
  have hD := xA.self hD0
  have hS : va_S (xA (wM E uq mo)) s.heap s.heap [] := va_S.rf
  show W p l e rmX6_side s m _ below meth c s.heap [] 0 0 _ _
  generalize hA : xA (wM E uq mo) = A at hD hS ⊢
  unfold fX6_side at hf
  refine lv_aload_n hx hb dX6_side_0 rfl (lv_at hl 0 rfl) ?_
  refine lv_iload_n hx hb dX6_side_1 rfl (lv_at hl 1 rfl) ?_
  obtain ⟨v1, h1, hf⟩ := ob hf
  refine x_pV (As := [.int x1]) (rest := []) S hK (kX6_isLetter l E uq mo x1 h1) (cwV 1 hts gX6_side_X6_isLetter rfl rfl rfl (by decide +kernel) ⟨Nat.le_of_ble_eq_true rfl, Nat.le_of_ble_eq_true rfl⟩) hP 0 rfl rfl rfl rfl hl.1 (Nat.le_of_ble_eq_true rfl) dX6_side_2 rfl ⟨Nat.zero_le _, Nat.zero_le _⟩ ?_
  refine lv_if_eq (tgt := 15) hx hb dX6_side_5 (by decide) (fun c2 => ?_) (fun c2 => ?_)
  · have hf := (if_pos c2).symm.trans hf
    refine lv_ldc hx hb hown (hts _ mX6_side_0) dX6_side_15 ?_
    obtain rfl := Option.some.inj hf
    subst hA
    exact x_iretM hx hb hr hlk (vp_nar_int _) hP hS dX6_side_17
  · have hf := (if_neg c2).symm.trans hf
    refine lv_iload_n hx hb dX6_side_8 rfl (lv_at hl 3 rfl) ?_
    obtain ⟨v3, h3, hf⟩ := ob hf
    refine x_pS (As := [.int x3]) (rest := []) S hK (kX6_isHeight l E x3 h3) (va_cwS 1 hts gX6_side_X6_isHeight rfl rfl rfl (by decide +kernel) ⟨Nat.le_of_ble_eq_true rfl, Nat.le_of_ble_eq_true rfl⟩) x_nil rfl hl.1 (Nat.le_of_ble_eq_true rfl) dX6_side_9 rfl ⟨Nat.zero_le _, Nat.zero_le _⟩ ?_
    refine lv_if_ne (tgt := 18) hx hb dX6_side_12 (by decide) (fun c4 => ?_) (fun c4 => ?_)
    · have hf := (if_neg c4).symm.trans hf
      refine lv_iload_n hx hb dX6_side_18 rfl (lv_at hl 2 rfl) ?_
      obtain ⟨v5, h5, hf⟩ := ob hf
      refine x_pS (As := [.int x2]) (rest := []) S hK (kX6_isSide l E x2 h5) (va_cwS 1 hts gX6_side_X6_isSide rfl rfl rfl (by decide +kernel) ⟨Nat.le_of_ble_eq_true rfl, Nat.le_of_ble_eq_true rfl⟩) x_nil rfl hl.1 (Nat.le_of_ble_eq_true rfl) dX6_side_19 rfl ⟨Nat.zero_le _, Nat.zero_le _⟩ ?_
      obtain ⟨v6, h6, hf⟩ := ob hf
      refine x_cutH (fun H locs ls => va_P (xD E) vwCl (wM E uq v6.2) H ∧ va_D A (wM E uq v6.2) ∧ va_S A s.heap H locs ∧ lv_has ls 5 [(0, .ref (uq 0)), (1, .int x1), (2, .int x2), (3, .int x3), (4, .int x4)]) (pc := 55) (st := [.int v6.1]) (fun H locs ls hq => ?_) (fun hj => ?_)
      · obtain ⟨hP, hD, hS, hl⟩ := hq
        obtain rfl := Option.some.inj hf
        subst hA
        exact x_iretM hx hb hr hlk (vp_nar_int _) hP hS dX6_side_55
      · have hf := h6
        refine lv_if_eq (tgt := 53) hx hb dX6_side_22 (by decide) (fun c7 => ?_) (fun c7 => ?_)
        · have hf := (if_pos c7).symm.trans hf
          refine lv_ldc hx hb hown (hts _ mX6_side_1) dX6_side_53 ?_
          obtain rfl := Option.some.inj hf
          exact hj _ _ ls ⟨hP, hD, hS, lv_sub hl [0, 1, 2, 3, 4] rfl⟩
        · have hf := (if_neg c7).symm.trans hf
          refine lv_iload hx hb dX6_side_25 (lv_at hl 4 rfl) ?_
          refine lv_i2l (v := (Int32.toInt64 x4)) hx hb dX6_side_27 rfl ?_
          refine lv_lconst (v := 0) hx hb dX6_side_28 (by decide) ?_
          refine lv_ldc2 hx hb hown (hts _ mX6_side_2) dX6_side_29 ?_
          obtain ⟨v8, h8, hf⟩ := ob hf
          refine x_pS (As := [.long (Int32.toInt64 x4), .long (0 : Int64), .long (30 : Int64)]) (rest := []) S hK (kX6_in l E (Int32.toInt64 x4) (0 : Int64) (30 : Int64) h8) (va_cwS 3 hts gX6_side_X6_in rfl rfl rfl (by decide +kernel) ⟨Nat.le_of_ble_eq_true rfl, Nat.le_of_ble_eq_true rfl⟩) x_nil rfl hl.1 (Nat.le_of_ble_eq_true rfl) dX6_side_32 rfl ⟨Nat.zero_le _, Nat.zero_le _⟩ ?_
          refine lv_if_eq (tgt := 53) hx hb dX6_side_35 (by decide) (fun c9 => ?_) (fun c9 => ?_)
          · have hf := (if_pos c9).symm.trans hf
            refine lv_ldc hx hb hown (hts _ mX6_side_1) dX6_side_53 ?_
            obtain rfl := Option.some.inj hf
            exact hj _ _ ls ⟨hP, hD, hS, lv_sub hl [0, 1, 2, 3, 4] rfl⟩
          · have hf := (if_neg c9).symm.trans hf
            refine lv_aload_n hx hb dX6_side_38 rfl (lv_at hl 0 rfl) ?_
            refine lv_iload_n hx hb dX6_side_39 rfl (lv_at hl 1 rfl) ?_
            refine lv_iload_n hx hb dX6_side_40 rfl (lv_at hl 2 rfl) ?_
            refine lv_iload_n hx hb dX6_side_41 rfl (lv_at hl 3 rfl) ?_
            obtain ⟨v10, h10, hf⟩ := ob hf
            refine x_pS (As := [.int x1, .int x2, .int x3]) (rest := [.ref (uq 0)]) S hK (kX6_at l E x1 x2 x3 h10) (va_cwS 3 hts gX6_side_X6_at rfl rfl rfl (by decide +kernel) ⟨Nat.le_of_ble_eq_true rfl, Nat.le_of_ble_eq_true rfl⟩) x_nil rfl hl.1 (Nat.le_of_ble_eq_true rfl) dX6_side_42 rfl ⟨Nat.zero_le _, Nat.zero_le _⟩ ?_
            refine lv_iload hx hb dX6_side_45 (lv_at hl 4 rfl) ?_
            obtain ⟨v11, h11, hf⟩ := ob hf
            refine x_mR (ws' := wM E uq v11.2) (As := [.int v10, .int x4]) (rest := []) S hK (kX6_become l E uq mo v10 x4 h11) (cwV 2 hts gX6_side_X6_become rfl rfl rfl (by decide +kernel) ⟨Nat.le_of_ble_eq_true rfl, Nat.le_of_ble_eq_true rfl⟩) hP hD hS 0 14 rfl rfl 0 rfl rfl rfl rfl hl.1 (Nat.le_of_ble_eq_true rfl) dX6_side_47 rfl ⟨Nat.zero_le _, Nat.zero_le _⟩ rfl (fun H locs hP hD hS => ?_)
            refine lv_goto (tgt := 55) hx hb dX6_side_50 (by decide) ?_
            obtain rfl := Option.some.inj hf
            exact hj _ _ ls ⟨hP, hD, hS, lv_sub hl [0, 1, 2, 3, 4] rfl⟩
    · have hf := (if_pos c4).symm.trans hf
      refine lv_ldc hx hb hown (hts _ mX6_side_0) dX6_side_15 ?_
      obtain rfl := Option.some.inj hf
      subst hA
      exact x_iretM hx hb hr hlk (vp_nar_int _) hP hS dX6_side_17
