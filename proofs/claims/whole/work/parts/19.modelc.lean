
abbrev rmX6_openOnes : Room := { frames := 1, cells := 0, slots := 0, locals := 21 }
theorem mX6_openOnes_0 : Cond.fieldLink RX6 16 "EvenWhiteModel" "isOpen" "[Z" ∈ wsX6_openOnes := by decide +kernel
theorem inX6_openOnes_6 : ∀ w ∈ u_ws RX6 TX6 17, w ∈ wsX6_openOnes := by decide +kernel
def gX6_openOnes_4 (mo : Mo) (rec : (Int32 × Int32) → Option (Int32 × Int32)) (u : Int32 × Int32) : Option (Int32 × Int32) :=
  (if (6 : Int32) ≤ u.2 then
  some (u.1, u.2)
  else (fX6_isThere mo u.2).bind fun v2 =>
  ((if v2 = (0 : Int32) then
  some (0 : Int32)
  else (rdI (Mo_isOpn mo) 6 u.2).bind fun v5 =>
  (if v5 = (0 : Int32) then
  some (0 : Int32)
  else some (1 : Int32)))).bind fun v3 =>
  rec ((u.1 + v3), (u.2 + (1 : Int32))))
set_option maxHeartbeats 4000000 in
set_option maxRecDepth 100000 in
theorem wX6_openOnes_4 {p : Program} {l : Launch} {e : Env} {s : State} {m : MethodId} {args : Array Value} {below : List Frame} {meth : Method} {c : Code} {Q : State → Prop} (S : CallFix p m c cX6_openOnes 3 s args wsX6_openOnes RX6) (E : xG) (hK : xK E s) (uq : Nat → Nat) (mo : Mo) (hP : va_P (xD E) vwCl (wM E uq mo) s.heap) : ∀ (n : Nat) (u : Int32 × Int32) (r : Int32 × Int32), lp (gX6_openOnes_4 mo) n u = some r → ∀ (ls : Array Slot), lv_has ls 3 [(0, .ref (uq 0)), (1, .int u.1), (2, .int u.2)] → (∀ (ls : Array Slot), lv_has ls 3 [(0, .ref (uq 0)), (1, .int r.1), (2, .int r.2)] → W p l e rmX6_openOnes s m args below meth c s.heap [] 0 0 Q (F0 m 41 ls [])) → W p l e rmX6_openOnes s m args below meth c s.heap [] 0 0 Q (F0 m 4 ls []) := by
  obtain ⟨hx, hb, hml, hown, hts⟩ := id S
  intro n
  induction n with
  | zero =>
    intro u r hf
    exact absurd (show (none : Option _) = some r from hf) (fun q => by cases q)
  | succ n ih =>
    intro u r hf ls hl kx
    have hf : gX6_openOnes_4 mo (lp (gX6_openOnes_4 mo) n) u = some r := hf
    unfold gX6_openOnes_4 at hf
    refine lv_iload_n hx hb dX6_openOnes_4 rfl (lv_at hl 2 rfl) ?_
    refine lv_bipush (v := 6) hx hb dX6_openOnes_5 (by decide) ?_
    refine lv_icmp_ge (tgt := 41) hx hb dX6_openOnes_7 (by decide) (fun c1 => ?_) (fun c1 => ?_)
    · have hf := (if_pos c1).symm.trans hf
      obtain rfl := Option.some.inj hf
      exact kx ls (lv_sub hl [0, 1, 2] rfl)
    · have hf := (if_neg c1).symm.trans hf
      refine lv_iload_n hx hb dX6_openOnes_10 rfl (lv_at hl 1 rfl) ?_
      refine lv_aload_n hx hb dX6_openOnes_11 rfl (lv_at hl 0 rfl) ?_
      refine lv_iload_n hx hb dX6_openOnes_12 rfl (lv_at hl 2 rfl) ?_
      obtain ⟨v2, h2, hf⟩ := ob hf
      refine x_pV (As := [.int u.2]) (rest := [.int u.1]) S hK (kX6_isThere l E uq mo u.2 h2) (cwV 1 hts gX6_openOnes_X6_isThere rfl rfl rfl (by decide +kernel) ⟨Nat.le_of_ble_eq_true rfl, Nat.le_of_ble_eq_true rfl⟩) hP 0 rfl rfl rfl rfl hl.1 (Nat.le_of_ble_eq_true rfl) dX6_openOnes_13 rfl ⟨Nat.zero_le _, Nat.zero_le _⟩ ?_
      obtain ⟨v3, h3, hf⟩ := ob hf
      refine x_cutL (fun ls => lv_has ls 3 [(0, .ref (uq 0)), (1, .int u.1), (2, .int u.2)]) (pc := 33) (st := [.int v3, .int u.1]) (fun ls hl => ?_) (fun hj => ?_)
      · refine lv_iadd hx hb dX6_openOnes_33 ?_
        refine lv_istore_n (lv' := [(1, .int (u.1 + v3)), (0, .ref (uq 0)), (2, .int u.2)]) hx hb dX6_openOnes_34 rfl hl (by decide) rfl (fun ls hl => ?_)
        refine lv_iinc (v := (u.2 + (1 : Int32))) (lv' := [(2, .int (u.2 + (1 : Int32))), (1, .int (u.1 + v3)), (0, .ref (uq 0))]) hx hb dX6_openOnes_35 hl (k := 2) rfl rfl (by decide) rfl (fun ls hl => ?_)
        refine lv_goto (tgt := 4) hx hb dX6_openOnes_38 (by decide) ?_
        exact ih ((u.1 + v3), (u.2 + (1 : Int32))) _ hf ls (lv_sub hl [2, 1, 0] rfl) kx
      · have hf := h3
        refine lv_if_eq (tgt := 32) hx hb dX6_openOnes_16 (by decide) (fun c4 => ?_) (fun c4 => ?_)
        · have hf := (if_pos c4).symm.trans hf
          refine lv_iconst (v := 0) hx hb dX6_openOnes_32 (by decide) ?_
          obtain rfl := Option.some.inj hf
          exact hj ls (lv_sub hl [0, 1, 2] rfl)
        · have hf := (if_neg c4).symm.trans hf
          refine lv_aload_n hx hb dX6_openOnes_19 rfl (lv_at hl 0 rfl) ?_
          refine x_get hx hb hts inX6_openOnes_6 hown hK hP 0 rfl rfl 3 (by decide) mX6_openOnes_0 rfl dX6_openOnes_20 ?_
          refine lv_iload_n hx hb dX6_openOnes_23 rfl (lv_at hl 2 rfl) ?_
          obtain ⟨v5, h5, hf⟩ := ob hf
          refine x_zald hx hb hK hP 3 rfl h5 dX6_openOnes_24 ?_
          refine lv_if_eq (tgt := 32) hx hb dX6_openOnes_25 (by decide) (fun c6 => ?_) (fun c6 => ?_)
          · have hf := (if_pos c6).symm.trans hf
            refine lv_iconst (v := 0) hx hb dX6_openOnes_32 (by decide) ?_
            obtain rfl := Option.some.inj hf
            exact hj ls (lv_sub hl [0, 1, 2] rfl)
          · have hf := (if_neg c6).symm.trans hf
            refine lv_iconst (v := 1) hx hb dX6_openOnes_28 (by decide) ?_
            refine lv_goto (tgt := 33) hx hb dX6_openOnes_29 (by decide) ?_
            obtain rfl := Option.some.inj hf
            exact hj ls (lv_sub hl [0, 1, 2] rfl)
def fX6_openOnes (mo : Mo) : Option Int32 :=
  (lp (gX6_openOnes_4 mo) 1000 ((0 : Int32), (0 : Int32))).bind fun v1 =>
  some v1.1
set_option maxHeartbeats 4000000 in
set_option maxRecDepth 100000 in
theorem kX6_openOnes (l : Launch) (E : xG) (uq : Nat → Nat) (mo : Mo) {r : Int32} (hf : fX6_openOnes mo = some r) : xPure l yX6_openOnes wsX6_openOnes rmX6_openOnes E [.ref (uq 0)] (wM E uq mo) (.int r) := by
  refine Met.ofW (cc := cX6_openOnes) (maxL := 3) (ret := (some .int)) (by decide) rfl ?_
  intro p e s m args below meth c s₁ B hml hv
  obtain ⟨rfl, hP, hK⟩ := hv
  have hx := B.exec
  have hb := B.bytes
  have hr := B.returns
  have hts := atoms_spec (ws := wsX6_openOnes) B.pre
  have hown : s.vm.findClass RX6 = some m.cls := findClass_of_methodNamed B.named
  have hlk := B.notSynchronized
  have S : CallFix p m c cX6_openOnes 3 s _ wsX6_openOnes RX6 := ⟨hx, hb, hml, hown, hts⟩
  have hl := lv_entry ([.ref (uq 0)]) (n := 3) (Nat.le_of_ble_eq_true rfl)
  rw [lg_entry_eq]
  generalize (lg_sl ([.ref (uq 0)]) ++ List.replicate (3 - (lg_sl ([.ref (uq 0)])).length) Slot.unset).toArray = ls at hl ⊢
  have hl : lv_has ls 3 [(0, .ref (uq 0))] := hl
  unfold fX6_openOnes at hf
  refine lv_iconst (v := 0) hx hb dX6_openOnes_0 (by decide) ?_
  refine lv_istore_n (lv' := [(1, .int (0 : Int32)), (0, .ref (uq 0))]) hx hb dX6_openOnes_1 rfl hl (by decide) rfl (fun ls hl => ?_)
  refine lv_iconst (v := 0) hx hb dX6_openOnes_2 (by decide) ?_
  refine lv_istore_n (lv' := [(2, .int (0 : Int32)), (1, .int (0 : Int32)), (0, .ref (uq 0))]) hx hb dX6_openOnes_3 rfl hl (by decide) rfl (fun ls hl => ?_)
  obtain ⟨v1, h1, hf⟩ := ob hf
  refine wX6_openOnes_4 S E hK uq mo hP 1000 _ _ h1 ls (lv_sub hl [2, 1, 0] rfl) (fun ls hl => ?_)
  refine lv_iload_n hx hb dX6_openOnes_41 rfl (lv_at hl 1 rfl) ?_
  obtain rfl := Option.some.inj hf
  exact x_iret hx hb hr hlk (vp_nar_int _) dX6_openOnes_42
abbrev rmX6_restOf : Room := { frames := 1, cells := 0, slots := 0, locals := 25 }
theorem mX6_restOf_0 : Cond.fieldLink RX6 20 "EvenWhiteModel" "spaces" "[J" ∈ wsX6_restOf := by decide +kernel
theorem mX6_restOf_1 : Cond.constantLong RX6 125 (8) ∈ wsX6_restOf := by decide +kernel
theorem mX6_restOf_2 : Cond.fieldLink RX6 112 "EvenWhiteModel" "whole" "J" ∈ wsX6_restOf := by decide +kernel
theorem inX6_restOf_6 : ∀ w ∈ u_ws RX6 TX6 17, w ∈ wsX6_restOf := by decide +kernel
def fX6_restOf (mo : Mo) (x1 : Int32) : Option Int64 :=
  (rdJ (Mo_spaces mo) 6 x1).bind fun v1 =>
  (rdJ (Mo_spaces mo) 6 x1).bind fun v2 =>
  (fX6_floor v2 ((8 : Int64) * (Mo_whole mo))).bind fun v3 =>
  some (v1 - ((v3 * (8 : Int64)) * (Mo_whole mo)))
set_option maxHeartbeats 4000000 in
set_option maxRecDepth 100000 in
theorem kX6_restOf (l : Launch) (E : xG) (uq : Nat → Nat) (mo : Mo) (x1 : Int32) {r : Int64} (hf : fX6_restOf mo x1 = some r) : xPure l yX6_restOf wsX6_restOf rmX6_restOf E [.ref (uq 0), .int x1] (wM E uq mo) (.long r) := by
  refine Met.ofW (cc := cX6_restOf) (maxL := 2) (ret := (some .long)) (by decide) rfl ?_
  intro p e s m args below meth c s₁ B hml hv
  obtain ⟨rfl, hP, hK⟩ := hv
  have hx := B.exec
  have hb := B.bytes
  have hr := B.returns
  have hts := atoms_spec (ws := wsX6_restOf) B.pre
  have hown : s.vm.findClass RX6 = some m.cls := findClass_of_methodNamed B.named
  have hlk := B.notSynchronized
  have S : CallFix p m c cX6_restOf 2 s _ wsX6_restOf RX6 := ⟨hx, hb, hml, hown, hts⟩
  have hl := lv_entry ([.ref (uq 0), .int x1]) (n := 2) (Nat.le_of_ble_eq_true rfl)
  rw [lg_entry_eq]
  generalize (lg_sl ([.ref (uq 0), .int x1]) ++ List.replicate (2 - (lg_sl ([.ref (uq 0), .int x1])).length) Slot.unset).toArray = ls at hl ⊢
  have hl : lv_has ls 2 [(0, .ref (uq 0)), (1, .int x1)] := hl
  unfold fX6_restOf at hf
  refine lv_aload_n hx hb dX6_restOf_0 rfl (lv_at hl 0 rfl) ?_
  refine x_get hx hb hts inX6_restOf_6 hown hK hP 0 rfl rfl 4 (by decide) mX6_restOf_0 rfl dX6_restOf_1 ?_
  refine lv_iload_n hx hb dX6_restOf_4 rfl (lv_at hl 1 rfl) ?_
  obtain ⟨v1, h1, hf⟩ := ob hf
  refine x_lald hx hb hK hP 4 rfl h1 dX6_restOf_5 ?_
  refine lv_aload_n hx hb dX6_restOf_6 rfl (lv_at hl 0 rfl) ?_
  refine x_get hx hb hts inX6_restOf_6 hown hK hP 0 rfl rfl 4 (by decide) mX6_restOf_0 rfl dX6_restOf_7 ?_
  refine lv_iload_n hx hb dX6_restOf_10 rfl (lv_at hl 1 rfl) ?_
  obtain ⟨v2, h2, hf⟩ := ob hf
  refine x_lald hx hb hK hP 4 rfl h2 dX6_restOf_11 ?_
  refine lv_ldc2 hx hb hown (hts _ mX6_restOf_1) dX6_restOf_12 ?_
  refine lv_aload_n hx hb dX6_restOf_15 rfl (lv_at hl 0 rfl) ?_
  refine x_get hx hb hts inX6_restOf_6 hown hK hP 0 rfl rfl 5 (by decide) mX6_restOf_2 rfl dX6_restOf_16 ?_
  refine lv_lmul hx hb dX6_restOf_19 ?_
  obtain ⟨v3, h3, hf⟩ := ob hf
  refine x_pS (As := [.long v2, .long ((8 : Int64) * (Mo_whole mo))]) (rest := [.long v1]) S hK (kX6_floor l E v2 ((8 : Int64) * (Mo_whole mo)) h3) (va_cwS 2 hts gX6_restOf_X6_floor rfl rfl rfl (by decide +kernel) ⟨Nat.le_of_ble_eq_true rfl, Nat.le_of_ble_eq_true rfl⟩) x_nil rfl hl.1 (Nat.le_of_ble_eq_true rfl) dX6_restOf_20 rfl ⟨Nat.zero_le _, Nat.zero_le _⟩ ?_
  refine lv_ldc2 hx hb hown (hts _ mX6_restOf_1) dX6_restOf_23 ?_
  refine lv_lmul hx hb dX6_restOf_26 ?_
  refine lv_aload_n hx hb dX6_restOf_27 rfl (lv_at hl 0 rfl) ?_
  refine x_get hx hb hts inX6_restOf_6 hown hK hP 0 rfl rfl 5 (by decide) mX6_restOf_2 rfl dX6_restOf_28 ?_
  refine lv_lmul hx hb dX6_restOf_31 ?_
  refine lv_lsub hx hb dX6_restOf_32 ?_
  obtain rfl := Option.some.inj hf
  exact x_lret hx hb hr hlk dX6_restOf_33
abbrev rmX6_layWholes : Room := { frames := 2, cells := 0, slots := 0, locals := 46 }
theorem mX6_layWholes_0 : Cond.fieldLink RX6 33 "EvenWhiteModel" "wholes" "[J" ∈ wsX6_layWholes := by decide +kernel
theorem mX6_layWholes_1 : Cond.fieldLink RX6 20 "EvenWhiteModel" "spaces" "[J" ∈ wsX6_layWholes := by decide +kernel
theorem mX6_layWholes_2 : Cond.constantLong RX6 125 (8) ∈ wsX6_layWholes := by decide +kernel
theorem mX6_layWholes_3 : Cond.fieldLink RX6 112 "EvenWhiteModel" "whole" "J" ∈ wsX6_layWholes := by decide +kernel
theorem mX6_layWholes_4 : Cond.fieldLink RX6 36 "EvenWhiteModel" "isMore" "[Z" ∈ wsX6_layWholes := by decide +kernel
theorem mX6_layWholes_5 : Cond.constantLong RX6 130 (2) ∈ wsX6_layWholes := by decide +kernel
theorem mX6_layWholes_6 : Cond.constantLong RX6 132 (16) ∈ wsX6_layWholes := by decide +kernel
theorem inX6_layWholes_6 : ∀ w ∈ u_ws RX6 TX6 17, w ∈ wsX6_layWholes := by decide +kernel
def gX6_layWholes_7 (rec : (Int64 × Int64 × Int32 × Mo) → Option (Int64 × Int64 × Int32 × Mo)) (u : Int64 × Int64 × Int32 × Mo) : Option (Int64 × Int64 × Int32 × Mo) :=
  (if (6 : Int32) ≤ u.2.2.1 then
  some (u.1, u.2.1, u.2.2.1, u.2.2.2)
  else (fX6_isThere u.2.2.2 u.2.2.1).bind fun v2 =>
  ((if v2 = (0 : Int32) then
  some (0 : Int64)
  else (rdJ (Mo_spaces u.2.2.2) 6 u.2.2.1).bind fun v5 =>
  (fX6_floor v5 ((8 : Int64) * (Mo_whole u.2.2.2))).bind fun v6 =>
  some v6)).bind fun v3 =>
  (wrJ (Mo_wholes u.2.2.2) 6 u.2.2.1 v3).bind fun v7 =>
  (wrZ (Mo_isMore u.2.2.2) 6 u.2.2.1 (0 : Int32)).bind fun v8 =>
  (rdJ (Mo_spaces u.2.2.2) 6 u.2.2.1).bind fun v9 =>
  (rdJ v7 6 u.2.2.1).bind fun v10 =>
  rec ((u.1 + v9), (u.2.1 - v10), (u.2.2.1 + (1 : Int32)), (Mo_set_isMore (Mo_set_wholes u.2.2.2 v7) v8)))
set_option maxHeartbeats 4000000 in
set_option maxRecDepth 100000 in
theorem wX6_layWholes_7 {p : Program} {l : Launch} {e : Env} {s : State} {m : MethodId} {args : Array Value} {below : List Frame} {meth : Method} {c : Code} {Q : State → Prop} (S : CallFix p m c cX6_layWholes 8 s args wsX6_layWholes RX6) (E : xG) (hK : xK E s) (uq : Nat → Nat) (A : Nat → Prop) (H0 : Heap) : ∀ (n : Nat) (u : Int64 × Int64 × Int32 × Mo) (r : Int64 × Int64 × Int32 × Mo), lp (gX6_layWholes_7) n u = some r → ∀ (H : Heap) (locs : List Loc), va_P (xD E) vwCl (wM E uq u.2.2.2) H → va_D A (wM E uq u.2.2.2) → va_S A H0 H locs → ∀ (ls : Array Slot), lv_has ls 8 [(0, .ref (uq 0)), (1, .long u.1), (3, .long u.2.1), (5, .int u.2.2.1)] → (∀ (H : Heap) (locs : List Loc), va_P (xD E) vwCl (wM E uq r.2.2.2) H → va_D A (wM E uq r.2.2.2) → va_S A H0 H locs → ∀ (ls : Array Slot), lv_has ls 8 [(0, .ref (uq 0)), (1, .long r.1), (3, .long r.2.1), (5, .int r.2.2.1)] → W p l e rmX6_layWholes s m args below meth c H locs 0 0 Q (F0 m 86 ls [])) → W p l e rmX6_layWholes s m args below meth c H locs 0 0 Q (F0 m 7 ls []) := by
  obtain ⟨hx, hb, hml, hown, hts⟩ := id S
  intro n
  induction n with
  | zero =>
    intro u r hf
    exact absurd (show (none : Option _) = some r from hf) (fun q => by cases q)
  | succ n ih =>
    intro u r hf H locs hP hD hS ls hl kx
    have hf : gX6_layWholes_7 (lp (gX6_layWholes_7) n) u = some r := hf
    unfold gX6_layWholes_7 at hf
    refine lv_iload hx hb dX6_layWholes_7 (lv_at hl 3 rfl) ?_
    refine lv_bipush (v := 6) hx hb dX6_layWholes_9 (by decide) ?_
    refine lv_icmp_ge (tgt := 86) hx hb dX6_layWholes_11 (by decide) (fun c1 => ?_) (fun c1 => ?_)
    · have hf := (if_pos c1).symm.trans hf
      obtain rfl := Option.some.inj hf
      exact kx _ _ hP hD hS ls (lv_sub hl [0, 1, 2, 3] rfl)
    · have hf := (if_neg c1).symm.trans hf
      refine lv_aload_n hx hb dX6_layWholes_14 rfl (lv_at hl 0 rfl) ?_
      refine x_get hx hb hts inX6_layWholes_6 hown hK hP 0 rfl rfl 9 (by decide) mX6_layWholes_0 rfl dX6_layWholes_15 ?_
      refine lv_iload hx hb dX6_layWholes_18 (lv_at hl 3 rfl) ?_
      refine lv_aload_n hx hb dX6_layWholes_20 rfl (lv_at hl 0 rfl) ?_
      refine lv_iload hx hb dX6_layWholes_21 (lv_at hl 3 rfl) ?_
      obtain ⟨v2, h2, hf⟩ := ob hf
      refine x_pV (As := [.int u.2.2.1]) (rest := [.int u.2.2.1, .ref (uq 8)]) S hK (kX6_isThere l E uq u.2.2.2 u.2.2.1 h2) (cwV 1 hts gX6_layWholes_X6_isThere rfl rfl rfl (by decide +kernel) ⟨Nat.le_of_ble_eq_true rfl, Nat.le_of_ble_eq_true rfl⟩) hP 0 rfl rfl rfl rfl hl.1 (Nat.le_of_ble_eq_true rfl) dX6_layWholes_23 rfl ⟨Nat.zero_le _, Nat.zero_le _⟩ ?_
      obtain ⟨v3, h3, hf⟩ := ob hf
      refine x_cutH (fun H locs ls => va_P (xD E) vwCl (wM E uq u.2.2.2) H ∧ va_D A (wM E uq u.2.2.2) ∧ va_S A H0 H locs ∧ lv_has ls 8 [(0, .ref (uq 0)), (1, .long u.1), (3, .long u.2.1), (5, .int u.2.2.1)]) (pc := 51) (st := [.long v3, .int u.2.2.1, .ref (uq 8)]) (fun H locs ls hq => ?_) (fun hj => ?_)
      · obtain ⟨hP, hD, hS, hl⟩ := hq
        obtain ⟨v7, h7, hf⟩ := ob hf
        refine x_last hx hb hK hP hD hS 8 rfl h7 dX6_layWholes_51 (fun H locs hP hD hS => ?_)
        have hP : va_P (xD E) vwCl (wM E uq (Mo_set_wholes u.2.2.2 v7)) H := hP
        have hD : va_D A (wM E uq (Mo_set_wholes u.2.2.2 v7)) := hD
        refine lv_aload_n hx hb dX6_layWholes_52 rfl (lv_at hl 0 rfl) ?_
        refine x_get hx hb hts inX6_layWholes_6 hown hK hP 0 rfl rfl 10 (by decide) mX6_layWholes_4 rfl dX6_layWholes_53 ?_
        refine lv_iload hx hb dX6_layWholes_56 (lv_at hl 3 rfl) ?_
        refine lv_iconst (v := 0) hx hb dX6_layWholes_58 (by decide) ?_
        obtain ⟨v8, h8, hf⟩ := ob hf
        refine x_zast hx hb hK hP hD hS 9 rfl h8 dX6_layWholes_59 (fun H locs hP hD hS => ?_)
        have hP : va_P (xD E) vwCl (wM E uq (Mo_set_isMore (Mo_set_wholes u.2.2.2 v7) v8)) H := hP
        have hD : va_D A (wM E uq (Mo_set_isMore (Mo_set_wholes u.2.2.2 v7) v8)) := hD
        refine lv_lload_n hx hb dX6_layWholes_60 rfl (lv_at hl 1 rfl) ?_
        refine lv_aload_n hx hb dX6_layWholes_61 rfl (lv_at hl 0 rfl) ?_
        refine x_get hx hb hts inX6_layWholes_6 hown hK hP 0 rfl rfl 4 (by decide) mX6_layWholes_1 rfl dX6_layWholes_62 ?_
        refine lv_iload hx hb dX6_layWholes_65 (lv_at hl 3 rfl) ?_
        obtain ⟨v9, h9, hf⟩ := ob hf
        refine x_lald hx hb hK hP 4 rfl h9 dX6_layWholes_67 ?_
        refine lv_ladd hx hb dX6_layWholes_68 ?_
        refine lv_lstore_n (lv' := [(1, .long (u.1 + v9)), (0, .ref (uq 0)), (3, .long u.2.1), (5, .int u.2.2.1)]) hx hb dX6_layWholes_69 rfl hl (by decide) rfl (fun ls hl => ?_)
        refine lv_lload_n hx hb dX6_layWholes_70 rfl (lv_at hl 2 rfl) ?_
        refine lv_aload_n hx hb dX6_layWholes_71 rfl (lv_at hl 1 rfl) ?_
        refine x_get hx hb hts inX6_layWholes_6 hown hK hP 0 rfl rfl 9 (by decide) mX6_layWholes_0 rfl dX6_layWholes_72 ?_
        refine lv_iload hx hb dX6_layWholes_75 (lv_at hl 3 rfl) ?_
        obtain ⟨v10, h10, hf⟩ := ob hf
        refine x_lald hx hb hK hP 8 rfl h10 dX6_layWholes_77 ?_
        refine lv_lsub hx hb dX6_layWholes_78 ?_
        refine lv_lstore_n (lv' := [(3, .long (u.2.1 - v10)), (1, .long (u.1 + v9)), (0, .ref (uq 0)), (5, .int u.2.2.1)]) hx hb dX6_layWholes_79 rfl hl (by decide) rfl (fun ls hl => ?_)
        refine lv_iinc (v := (u.2.2.1 + (1 : Int32))) (lv' := [(5, .int (u.2.2.1 + (1 : Int32))), (3, .long (u.2.1 - v10)), (1, .long (u.1 + v9)), (0, .ref (uq 0))]) hx hb dX6_layWholes_80 hl (k := 3) rfl rfl (by decide) rfl (fun ls hl => ?_)
        refine lv_goto (tgt := 7) hx hb dX6_layWholes_83 (by decide) ?_
        exact ih ((u.1 + v9), (u.2.1 - v10), (u.2.2.1 + (1 : Int32)), (Mo_set_isMore (Mo_set_wholes u.2.2.2 v7) v8)) _ hf _ _ hP hD hS ls (lv_sub hl [3, 2, 1, 0] rfl) kx
      · have hf := h3
        refine lv_if_eq (tgt := 50) hx hb dX6_layWholes_26 (by decide) (fun c4 => ?_) (fun c4 => ?_)
        · have hf := (if_pos c4).symm.trans hf
          refine lv_lconst (v := 0) hx hb dX6_layWholes_50 (by decide) ?_
          obtain rfl := Option.some.inj hf
          exact hj _ _ ls ⟨hP, hD, hS, lv_sub hl [0, 1, 2, 3] rfl⟩
        · have hf := (if_neg c4).symm.trans hf
          refine lv_aload_n hx hb dX6_layWholes_29 rfl (lv_at hl 0 rfl) ?_
          refine x_get hx hb hts inX6_layWholes_6 hown hK hP 0 rfl rfl 4 (by decide) mX6_layWholes_1 rfl dX6_layWholes_30 ?_
          refine lv_iload hx hb dX6_layWholes_33 (lv_at hl 3 rfl) ?_
          obtain ⟨v5, h5, hf⟩ := ob hf
          refine x_lald hx hb hK hP 4 rfl h5 dX6_layWholes_35 ?_
          refine lv_ldc2 hx hb hown (hts _ mX6_layWholes_2) dX6_layWholes_36 ?_
          refine lv_aload_n hx hb dX6_layWholes_39 rfl (lv_at hl 0 rfl) ?_
          refine x_get hx hb hts inX6_layWholes_6 hown hK hP 0 rfl rfl 5 (by decide) mX6_layWholes_3 rfl dX6_layWholes_40 ?_
          refine lv_lmul hx hb dX6_layWholes_43 ?_
          obtain ⟨v6, h6, hf⟩ := ob hf
          refine x_pS (As := [.long v5, .long ((8 : Int64) * (Mo_whole u.2.2.2))]) (rest := [.int u.2.2.1, .ref (uq 8)]) S hK (kX6_floor l E v5 ((8 : Int64) * (Mo_whole u.2.2.2)) h6) (va_cwS 2 hts gX6_layWholes_X6_floor rfl rfl rfl (by decide +kernel) ⟨Nat.le_of_ble_eq_true rfl, Nat.le_of_ble_eq_true rfl⟩) x_nil rfl hl.1 (Nat.le_of_ble_eq_true rfl) dX6_layWholes_44 rfl ⟨Nat.zero_le _, Nat.zero_le _⟩ ?_
          refine lv_goto (tgt := 51) hx hb dX6_layWholes_47 (by decide) ?_
          obtain rfl := Option.some.inj hf
          exact hj _ _ ls ⟨hP, hD, hS, lv_sub hl [0, 1, 2, 3] rfl⟩
def gX6_layWholes_126 (mo : Mo) (x1 : Int64) (x3 : Int64) (rec : (Int32 × Int32) → Option (Int32 × Int32)) (u : Int32 × Int32) : Option (Int32 × Int32) :=
  (if (6 : Int32) ≤ u.2 then
  some (u.1, u.2)
  else (fX6_isThere mo u.2).bind fun v2 =>
  ((if v2 = (0 : Int32) then
  some (0 : Int32)
  else (rdI (Mo_isMore mo) 6 u.2).bind fun v5 =>
  (if v5 = (0 : Int32) then
  some (1 : Int32)
  else some (0 : Int32)))).bind fun v3 =>
  ((if v3 = (0 : Int32) then
  some u.1
  else (if u.1 < (0 : Int32) then
  some u.2
  else (fX6_restOf mo u.2).bind fun v10 =>
  (fX6_restOf mo u.1).bind fun v11 =>
  (if v10 ≤ v11 then
  some u.1
  else some u.2)))).bind fun v7 =>
  rec (v7, (u.2 + (1 : Int32))))
set_option maxHeartbeats 4000000 in
set_option maxRecDepth 100000 in
theorem wX6_layWholes_126 {p : Program} {l : Launch} {e : Env} {s : State} {m : MethodId} {args : Array Value} {below : List Frame} {meth : Method} {c : Code} {Q : State → Prop} (S : CallFix p m c cX6_layWholes 8 s args wsX6_layWholes RX6) (E : xG) (hK : xK E s) (uq : Nat → Nat) (mo : Mo) (x1 : Int64) (x3 : Int64) (A : Nat → Prop) (H0 : Heap) : ∀ (n : Nat) (u : Int32 × Int32) (r : Int32 × Int32), lp (gX6_layWholes_126 mo x1 x3) n u = some r → ∀ (H : Heap) (locs : List Loc), va_P (xD E) vwCl (wM E uq mo) H → va_D A (wM E uq mo) → va_S A H0 H locs → ∀ (ls : Array Slot), lv_has ls 8 [(0, .ref (uq 0)), (1, .long x1), (3, .long x3), (5, .int u.1), (6, .int u.2)] → (∀ (H : Heap) (locs : List Loc), va_P (xD E) vwCl (wM E uq mo) H → va_D A (wM E uq mo) → va_S A H0 H locs → ∀ (ls : Array Slot), lv_has ls 8 [(0, .ref (uq 0)), (1, .long x1), (3, .long x3), (5, .int r.1), (6, .int r.2)] → W p l e rmX6_layWholes s m args below meth c H locs 0 0 Q (F0 m 200 ls [])) → W p l e rmX6_layWholes s m args below meth c H locs 0 0 Q (F0 m 126 ls []) := by
  obtain ⟨hx, hb, hml, hown, hts⟩ := id S
  intro n
  induction n with
  | zero =>
    intro u r hf
    exact absurd (show (none : Option _) = some r from hf) (fun q => by cases q)
  | succ n ih =>
    intro u r hf H locs hP hD hS ls hl kx
    have hf : gX6_layWholes_126 mo x1 x3 (lp (gX6_layWholes_126 mo x1 x3) n) u = some r := hf
    unfold gX6_layWholes_126 at hf
    refine lv_iload hx hb dX6_layWholes_126 (lv_at hl 4 rfl) ?_
    refine lv_bipush (v := 6) hx hb dX6_layWholes_128 (by decide) ?_
    refine lv_icmp_ge (tgt := 200) hx hb dX6_layWholes_130 (by decide) (fun c1 => ?_) (fun c1 => ?_)
    · have hf := (if_pos c1).symm.trans hf
      obtain rfl := Option.some.inj hf
      exact kx _ _ hP hD hS ls (lv_sub hl [0, 1, 2, 3, 4] rfl)
    · have hf := (if_neg c1).symm.trans hf
      refine lv_aload_n hx hb dX6_layWholes_133 rfl (lv_at hl 0 rfl) ?_
      refine lv_iload hx hb dX6_layWholes_134 (lv_at hl 4 rfl) ?_
      obtain ⟨v2, h2, hf⟩ := ob hf
      refine x_pV (As := [.int u.2]) (rest := []) S hK (kX6_isThere l E uq mo u.2 h2) (cwV 1 hts gX6_layWholes_X6_isThere rfl rfl rfl (by decide +kernel) ⟨Nat.le_of_ble_eq_true rfl, Nat.le_of_ble_eq_true rfl⟩) hP 0 rfl rfl rfl rfl hl.1 (Nat.le_of_ble_eq_true rfl) dX6_layWholes_136 rfl ⟨Nat.zero_le _, Nat.zero_le _⟩ ?_
      obtain ⟨v3, h3, hf⟩ := ob hf
      refine x_cutH (fun H locs ls => va_P (xD E) vwCl (wM E uq mo) H ∧ va_D A (wM E uq mo) ∧ va_S A H0 H locs ∧ lv_has ls 8 [(0, .ref (uq 0)), (1, .long x1), (3, .long x3), (5, .int u.1), (6, .int u.2)]) (pc := 157) (st := [.int v3]) (fun H locs ls hq => ?_) (fun hj => ?_)
      · obtain ⟨hP, hD, hS, hl⟩ := hq
        refine lv_istore (lv' := [(7, .int v3), (0, .ref (uq 0)), (1, .long x1), (3, .long x3), (5, .int u.1), (6, .int u.2)]) hx hb dX6_layWholes_157 hl (by decide) rfl (fun ls hl => ?_)
        refine lv_iload hx hb dX6_layWholes_159 (lv_at hl 0 rfl) ?_
        obtain ⟨v7, h7, hf⟩ := ob hf
        refine x_cutH (fun H locs ls => va_P (xD E) vwCl (wM E uq mo) H ∧ va_D A (wM E uq mo) ∧ va_S A H0 H locs ∧ lv_has ls 8 [(0, .ref (uq 0)), (1, .long x1), (3, .long x3), (5, .int u.1), (6, .int u.2), (7, .int v3)]) (pc := 192) (st := [.int v7]) (fun H locs ls hq => ?_) (fun hj => ?_)
        · obtain ⟨hP, hD, hS, hl⟩ := hq
          refine lv_istore (lv' := [(5, .int v7), (0, .ref (uq 0)), (1, .long x1), (3, .long x3), (6, .int u.2), (7, .int v3)]) hx hb dX6_layWholes_192 hl (by decide) rfl (fun ls hl => ?_)
          refine lv_iinc (v := (u.2 + (1 : Int32))) (lv' := [(6, .int (u.2 + (1 : Int32))), (5, .int v7), (0, .ref (uq 0)), (1, .long x1), (3, .long x3), (7, .int v3)]) hx hb dX6_layWholes_194 hl (k := 4) rfl rfl (by decide) rfl (fun ls hl => ?_)
          refine lv_goto (tgt := 126) hx hb dX6_layWholes_197 (by decide) ?_
          exact ih (v7, (u.2 + (1 : Int32))) _ hf _ _ hP hD hS ls (lv_sub hl [2, 3, 4, 1, 0] rfl) kx
        · have hf := h7
          refine lv_if_eq (tgt := 190) hx hb dX6_layWholes_161 (by decide) (fun c8 => ?_) (fun c8 => ?_)
          · have hf := (if_pos c8).symm.trans hf
            refine lv_iload hx hb dX6_layWholes_190 (lv_at hl 4 rfl) ?_
            obtain rfl := Option.some.inj hf
            exact hj _ _ ls ⟨hP, hD, hS, lv_sub hl [1, 2, 3, 4, 5, 0] rfl⟩
          · have hf := (if_neg c8).symm.trans hf
            refine lv_iload hx hb dX6_layWholes_164 (lv_at hl 4 rfl) ?_
            refine lv_if_lt (tgt := 185) hx hb dX6_layWholes_166 (by decide) (fun c9 => ?_) (fun c9 => ?_)
            · have hf := (if_pos c9).symm.trans hf
              refine lv_iload hx hb dX6_layWholes_185 (lv_at hl 5 rfl) ?_
              refine lv_goto (tgt := 192) hx hb dX6_layWholes_187 (by decide) ?_
              obtain rfl := Option.some.inj hf
              exact hj _ _ ls ⟨hP, hD, hS, lv_sub hl [1, 2, 3, 4, 5, 0] rfl⟩
            · have hf := (if_neg c9).symm.trans hf
              refine lv_aload_n hx hb dX6_layWholes_169 rfl (lv_at hl 1 rfl) ?_
              refine lv_iload hx hb dX6_layWholes_170 (lv_at hl 5 rfl) ?_
              obtain ⟨v10, h10, hf⟩ := ob hf
              refine x_pV (As := [.int u.2]) (rest := []) S hK (kX6_restOf l E uq mo u.2 h10) (cwV 1 hts gX6_layWholes_X6_restOf rfl rfl rfl (by decide +kernel) ⟨Nat.le_of_ble_eq_true rfl, Nat.le_of_ble_eq_true rfl⟩) hP 0 rfl rfl rfl rfl hl.1 (Nat.le_of_ble_eq_true rfl) dX6_layWholes_172 rfl ⟨Nat.zero_le _, Nat.zero_le _⟩ ?_
              refine lv_aload_n hx hb dX6_layWholes_175 rfl (lv_at hl 1 rfl) ?_
              refine lv_iload hx hb dX6_layWholes_176 (lv_at hl 4 rfl) ?_
              obtain ⟨v11, h11, hf⟩ := ob hf
              refine x_pV (As := [.int u.1]) (rest := [.long v10]) S hK (kX6_restOf l E uq mo u.1 h11) (cwV 1 hts gX6_layWholes_X6_restOf rfl rfl rfl (by decide +kernel) ⟨Nat.le_of_ble_eq_true rfl, Nat.le_of_ble_eq_true rfl⟩) hP 0 rfl rfl rfl rfl hl.1 (Nat.le_of_ble_eq_true rfl) dX6_layWholes_178 rfl ⟨Nat.zero_le _, Nat.zero_le _⟩ ?_
              refine x_lif_le (tgt := 190) hx hb dX6_layWholes_181 dX6_layWholes_182 (by decide) (fun c12 => ?_) (fun c12 => ?_)
              · have hf := (if_pos c12).symm.trans hf
                refine lv_iload hx hb dX6_layWholes_190 (lv_at hl 4 rfl) ?_
                obtain rfl := Option.some.inj hf
                exact hj _ _ ls ⟨hP, hD, hS, lv_sub hl [1, 2, 3, 4, 5, 0] rfl⟩
              · have hf := (if_neg c12).symm.trans hf
                refine lv_iload hx hb dX6_layWholes_185 (lv_at hl 5 rfl) ?_
                refine lv_goto (tgt := 192) hx hb dX6_layWholes_187 (by decide) ?_
                obtain rfl := Option.some.inj hf
                exact hj _ _ ls ⟨hP, hD, hS, lv_sub hl [1, 2, 3, 4, 5, 0] rfl⟩
      · have hf := h3
        refine lv_if_eq (tgt := 156) hx hb dX6_layWholes_139 (by decide) (fun c4 => ?_) (fun c4 => ?_)
        · have hf := (if_pos c4).symm.trans hf
          refine lv_iconst (v := 0) hx hb dX6_layWholes_156 (by decide) ?_
          obtain rfl := Option.some.inj hf
          exact hj _ _ ls ⟨hP, hD, hS, lv_sub hl [0, 1, 2, 3, 4] rfl⟩
        · have hf := (if_neg c4).symm.trans hf
          refine lv_aload_n hx hb dX6_layWholes_142 rfl (lv_at hl 0 rfl) ?_
          refine x_get hx hb hts inX6_layWholes_6 hown hK hP 0 rfl rfl 10 (by decide) mX6_layWholes_4 rfl dX6_layWholes_143 ?_
          refine lv_iload hx hb dX6_layWholes_146 (lv_at hl 4 rfl) ?_
          obtain ⟨v5, h5, hf⟩ := ob hf
          refine x_zald hx hb hK hP 9 rfl h5 dX6_layWholes_148 ?_
          refine lv_if_ne (tgt := 156) hx hb dX6_layWholes_149 (by decide) (fun c6 => ?_) (fun c6 => ?_)
          · have hf := (if_neg c6).symm.trans hf
            refine lv_iconst (v := 0) hx hb dX6_layWholes_156 (by decide) ?_
            obtain rfl := Option.some.inj hf
            exact hj _ _ ls ⟨hP, hD, hS, lv_sub hl [0, 1, 2, 3, 4] rfl⟩
          · have hf := (if_pos c6).symm.trans hf
            refine lv_iconst (v := 1) hx hb dX6_layWholes_152 (by decide) ?_
            refine lv_goto (tgt := 157) hx hb dX6_layWholes_153 (by decide) ?_
            obtain rfl := Option.some.inj hf
            exact hj _ _ ls ⟨hP, hD, hS, lv_sub hl [0, 1, 2, 3, 4] rfl⟩
def gX6_layWholes_114 (x1 : Int64) (rec : (Int64 × Int32 × Mo) → Option (Int64 × Int32 × Mo)) (u : Int64 × Int32 × Mo) : Option (Int64 × Int32 × Mo) :=
  (if u.1 ≤ (0 : Int64) then
  some (u.1, u.2.1, u.2.2)
  else (lp (gX6_layWholes_126 u.2.2 x1 u.1) 1000 ((-1 : Int32), (0 : Int32))).bind fun v2 =>
  (wrZ (Mo_isMore u.2.2) 6 v2.1 (1 : Int32)).bind fun v3 =>
  (rdJ (Mo_wholes u.2.2) 6 v2.1).bind fun v4 =>
  (wrJ (Mo_wholes u.2.2) 6 v2.1 (v4 + (1 : Int64))).bind fun v5 =>
  rec ((u.1 - (1 : Int64)), v2.1, (Mo_set_wholes (Mo_set_isMore u.2.2 v3) v5)))
set_option maxHeartbeats 4000000 in
set_option maxRecDepth 100000 in
theorem wX6_layWholes_114 {p : Program} {l : Launch} {e : Env} {s : State} {m : MethodId} {args : Array Value} {below : List Frame} {meth : Method} {c : Code} {Q : State → Prop} (S : CallFix p m c cX6_layWholes 8 s args wsX6_layWholes RX6) (E : xG) (hK : xK E s) (uq : Nat → Nat) (x1 : Int64) (A : Nat → Prop) (H0 : Heap) : ∀ (n : Nat) (u : Int64 × Int32 × Mo) (r : Int64 × Int32 × Mo), lp (gX6_layWholes_114 x1) n u = some r → ∀ (H : Heap) (locs : List Loc), va_P (xD E) vwCl (wM E uq u.2.2) H → va_D A (wM E uq u.2.2) → va_S A H0 H locs → ∀ (ls : Array Slot), lv_has ls 8 [(0, .ref (uq 0)), (1, .long x1), (3, .long u.1), (5, .int u.2.1)] → (∀ (H : Heap) (locs : List Loc), va_P (xD E) vwCl (wM E uq r.2.2) H → va_D A (wM E uq r.2.2) → va_S A H0 H locs → ∀ (ls : Array Slot), lv_has ls 8 [(0, .ref (uq 0)), (1, .long x1), (3, .long r.1), (5, .int r.2.1)] → W p l e rmX6_layWholes s m args below meth c H locs 0 0 Q (F0 m 226 ls [])) → W p l e rmX6_layWholes s m args below meth c H locs 0 0 Q (F0 m 114 ls []) := by
  obtain ⟨hx, hb, hml, hown, hts⟩ := id S
  intro n
  induction n with
  | zero =>
    intro u r hf
    exact absurd (show (none : Option _) = some r from hf) (fun q => by cases q)
  | succ n ih =>
    intro u r hf H locs hP hD hS ls hl kx
    have hf : gX6_layWholes_114 x1 (lp (gX6_layWholes_114 x1) n) u = some r := hf
    unfold gX6_layWholes_114 at hf
    refine lv_lload_n hx hb dX6_layWholes_114 rfl (lv_at hl 2 rfl) ?_
    refine lv_lconst (v := 0) hx hb dX6_layWholes_115 (by decide) ?_
    refine x_lif_le (tgt := 226) hx hb dX6_layWholes_116 dX6_layWholes_117 (by decide) (fun c1 => ?_) (fun c1 => ?_)
    · have hf := (if_pos c1).symm.trans hf
      obtain rfl := Option.some.inj hf
      exact kx _ _ hP hD hS ls (lv_sub hl [0, 1, 2, 3] rfl)
    · have hf := (if_neg c1).symm.trans hf
      refine lv_iconst (v := (-1)) hx hb dX6_layWholes_120 (by decide) ?_
      refine lv_istore (lv' := [(5, .int (-1 : Int32)), (0, .ref (uq 0)), (1, .long x1), (3, .long u.1)]) hx hb dX6_layWholes_121 hl (by decide) rfl (fun ls hl => ?_)
      refine lv_iconst (v := 0) hx hb dX6_layWholes_123 (by decide) ?_
      refine lv_istore (lv' := [(6, .int (0 : Int32)), (5, .int (-1 : Int32)), (0, .ref (uq 0)), (1, .long x1), (3, .long u.1)]) hx hb dX6_layWholes_124 hl (by decide) rfl (fun ls hl => ?_)
      obtain ⟨v2, h2, hf⟩ := ob hf
      refine wX6_layWholes_126 S E hK uq u.2.2 x1 u.1 _ _ 1000 _ _ h2 _ _ hP hD hS ls (lv_sub hl [2, 3, 4, 1, 0] rfl) (fun H locs hP hD hS ls hl => ?_)
      refine lv_aload_n hx hb dX6_layWholes_200 rfl (lv_at hl 0 rfl) ?_
      refine x_get hx hb hts inX6_layWholes_6 hown hK hP 0 rfl rfl 10 (by decide) mX6_layWholes_4 rfl dX6_layWholes_201 ?_
      refine lv_iload hx hb dX6_layWholes_204 (lv_at hl 3 rfl) ?_
      refine lv_iconst (v := 1) hx hb dX6_layWholes_206 (by decide) ?_
      obtain ⟨v3, h3, hf⟩ := ob hf
      refine x_zast hx hb hK hP hD hS 9 rfl h3 dX6_layWholes_207 (fun H locs hP hD hS => ?_)
      have hP : va_P (xD E) vwCl (wM E uq (Mo_set_isMore u.2.2 v3)) H := hP
      have hD : va_D A (wM E uq (Mo_set_isMore u.2.2 v3)) := hD
      refine lv_aload_n hx hb dX6_layWholes_208 rfl (lv_at hl 0 rfl) ?_
      refine x_get hx hb hts inX6_layWholes_6 hown hK hP 0 rfl rfl 9 (by decide) mX6_layWholes_0 rfl dX6_layWholes_209 ?_
      refine lv_iload hx hb dX6_layWholes_212 (lv_at hl 3 rfl) ?_
      refine lv_dup2_11 hx hb dX6_layWholes_214 rfl rfl ?_
      obtain ⟨v4, h4, hf⟩ := ob hf
      refine x_lald hx hb hK hP 8 rfl h4 dX6_layWholes_215 ?_
      refine lv_lconst (v := 1) hx hb dX6_layWholes_216 (by decide) ?_
      refine lv_ladd hx hb dX6_layWholes_217 ?_
      obtain ⟨v5, h5, hf⟩ := ob hf
      refine x_last hx hb hK hP hD hS 8 rfl h5 dX6_layWholes_218 (fun H locs hP hD hS => ?_)
      have hP : va_P (xD E) vwCl (wM E uq (Mo_set_wholes (Mo_set_isMore u.2.2 v3) v5)) H := hP
      have hD : va_D A (wM E uq (Mo_set_wholes (Mo_set_isMore u.2.2 v3) v5)) := hD
      refine lv_lload_n hx hb dX6_layWholes_219 rfl (lv_at hl 2 rfl) ?_
      refine lv_lconst (v := 1) hx hb dX6_layWholes_220 (by decide) ?_
      refine lv_lsub hx hb dX6_layWholes_221 ?_
      refine lv_lstore_n (lv' := [(3, .long (u.1 - (1 : Int64))), (0, .ref (uq 0)), (1, .long x1), (5, .int v2.1), (6, .int v2.2)]) hx hb dX6_layWholes_222 rfl hl (by decide) rfl (fun ls hl => ?_)
      refine lv_goto (tgt := 114) hx hb dX6_layWholes_223 (by decide) ?_
      exact ih ((u.1 - (1 : Int64)), v2.1, (Mo_set_wholes (Mo_set_isMore u.2.2 v3) v5)) _ hf _ _ hP hD hS ls (lv_sub hl [1, 2, 0, 3] rfl) kx
def fX6_layWholes (mo : Mo) : Option Mo :=
  (lp (gX6_layWholes_7) 1000 ((0 : Int64), (0 : Int64), (0 : Int32), mo)).bind fun v1 =>
  (fX6_floor (((2 : Int64) * v1.1) + ((8 : Int64) * (Mo_whole v1.2.2.2))) ((16 : Int64) * (Mo_whole v1.2.2.2))).bind fun v2 =>
  (lp (gX6_layWholes_114 v1.1) 1000 ((v1.2.1 + v2), v1.2.2.1, v1.2.2.2)).bind fun v3 =>
  some v3.2.2
set_option maxHeartbeats 4000000 in
set_option maxRecDepth 100000 in
theorem kX6_layWholes (l : Launch) (E : xG) (uq : Nat → Nat) (mo : Mo) {r : Mo} (hf : fX6_layWholes mo = some r) : xMut l yX6_layWholes wsX6_layWholes rmX6_layWholes E [.ref (uq 0)] (wM E uq mo) none (wM E uq r) := by
  refine Met.ofW (cc := cX6_layWholes) (maxL := 8) (ret := none) (by decide) rfl ?_
  intro p e s m args below meth c s₁ B hml hv
  obtain ⟨rfl, hP, hK, hD0⟩ := hv
  have hx := B.exec
  have hb := B.bytes
  have hr := B.returns
  have hts := atoms_spec (ws := wsX6_layWholes) B.pre
  have hown : s.vm.findClass RX6 = some m.cls := findClass_of_methodNamed B.named
  have hlk := B.notSynchronized
  have S : CallFix p m c cX6_layWholes 8 s _ wsX6_layWholes RX6 := ⟨hx, hb, hml, hown, hts⟩
  have hl := lv_entry ([.ref (uq 0)]) (n := 8) (Nat.le_of_ble_eq_true rfl)
  rw [lg_entry_eq]
  generalize (lg_sl ([.ref (uq 0)]) ++ List.replicate (8 - (lg_sl ([.ref (uq 0)])).length) Slot.unset).toArray = ls at hl ⊢
  have hl : lv_has ls 8 [(0, .ref (uq 0))] := hl
  have hD := xA.self hD0
  have hS : va_S (xA (wM E uq mo)) s.heap s.heap [] := va_S.rf
  show W p l e rmX6_layWholes s m _ below meth c s.heap [] 0 0 _ _
  generalize hA : xA (wM E uq mo) = A at hD hS ⊢
  unfold fX6_layWholes at hf
  refine lv_lconst (v := 0) hx hb dX6_layWholes_0 (by decide) ?_
  refine lv_lstore_n (lv' := [(1, .long (0 : Int64)), (0, .ref (uq 0))]) hx hb dX6_layWholes_1 rfl hl (by decide) rfl (fun ls hl => ?_)
  refine lv_lconst (v := 0) hx hb dX6_layWholes_2 (by decide) ?_
  refine lv_lstore_n (lv' := [(3, .long (0 : Int64)), (1, .long (0 : Int64)), (0, .ref (uq 0))]) hx hb dX6_layWholes_3 rfl hl (by decide) rfl (fun ls hl => ?_)
  refine lv_iconst (v := 0) hx hb dX6_layWholes_4 (by decide) ?_
  refine lv_istore (lv' := [(5, .int (0 : Int32)), (3, .long (0 : Int64)), (1, .long (0 : Int64)), (0, .ref (uq 0))]) hx hb dX6_layWholes_5 hl (by decide) rfl (fun ls hl => ?_)
  obtain ⟨v1, h1, hf⟩ := ob hf
  refine wX6_layWholes_7 S E hK uq _ _ 1000 _ _ h1 _ _ hP hD hS ls (lv_sub hl [3, 2, 1, 0] rfl) (fun H locs hP hD hS ls hl => ?_)
  refine lv_lload_n hx hb dX6_layWholes_86 rfl (lv_at hl 2 rfl) ?_
  refine lv_ldc2 hx hb hown (hts _ mX6_layWholes_5) dX6_layWholes_87 ?_
  refine lv_lload_n hx hb dX6_layWholes_90 rfl (lv_at hl 1 rfl) ?_
  refine lv_lmul hx hb dX6_layWholes_91 ?_
  refine lv_ldc2 hx hb hown (hts _ mX6_layWholes_2) dX6_layWholes_92 ?_
  refine lv_aload_n hx hb dX6_layWholes_95 rfl (lv_at hl 0 rfl) ?_
  refine x_get hx hb hts inX6_layWholes_6 hown hK hP 0 rfl rfl 5 (by decide) mX6_layWholes_3 rfl dX6_layWholes_96 ?_
  refine lv_lmul hx hb dX6_layWholes_99 ?_
  refine lv_ladd hx hb dX6_layWholes_100 ?_
  refine lv_ldc2 hx hb hown (hts _ mX6_layWholes_6) dX6_layWholes_101 ?_
  refine lv_aload_n hx hb dX6_layWholes_104 rfl (lv_at hl 0 rfl) ?_
  refine x_get hx hb hts inX6_layWholes_6 hown hK hP 0 rfl rfl 5 (by decide) mX6_layWholes_3 rfl dX6_layWholes_105 ?_
  refine lv_lmul hx hb dX6_layWholes_108 ?_
  obtain ⟨v2, h2, hf⟩ := ob hf
  refine x_pS (As := [.long (((2 : Int64) * v1.1) + ((8 : Int64) * (Mo_whole v1.2.2.2))), .long ((16 : Int64) * (Mo_whole v1.2.2.2))]) (rest := [.long v1.2.1]) S hK (kX6_floor l E (((2 : Int64) * v1.1) + ((8 : Int64) * (Mo_whole v1.2.2.2))) ((16 : Int64) * (Mo_whole v1.2.2.2)) h2) (va_cwS 2 hts gX6_layWholes_X6_floor rfl rfl rfl (by decide +kernel) ⟨Nat.le_of_ble_eq_true rfl, Nat.le_of_ble_eq_true rfl⟩) x_nil rfl hl.1 (Nat.le_of_ble_eq_true rfl) dX6_layWholes_109 rfl ⟨Nat.zero_le _, Nat.zero_le _⟩ ?_
  refine lv_ladd hx hb dX6_layWholes_112 ?_
  refine lv_lstore_n (lv' := [(3, .long (v1.2.1 + v2)), (0, .ref (uq 0)), (1, .long v1.1), (5, .int v1.2.2.1)]) hx hb dX6_layWholes_113 rfl hl (by decide) rfl (fun ls hl => ?_)
  obtain ⟨v3, h3, hf⟩ := ob hf
  refine wX6_layWholes_114 S E hK uq v1.1 _ _ 1000 _ _ h3 _ _ hP hD hS ls (lv_sub hl [1, 2, 0, 3] rfl) (fun H locs hP hD hS ls hl => ?_)
  obtain rfl := Option.some.inj hf
  subst hA
  exact x_vretM hx hb hr hlk hP hS dX6_layWholes_226
abbrev rmX6_wide : Room := { frames := 0, cells := 0, slots := 0, locals := 0 }
theorem mX6_wide_0 : Cond.fieldLink RX6 51 "EvenWhiteModel" "lined" "I" ∈ wsX6_wide := by decide +kernel
theorem mX6_wide_1 : Cond.fieldLink RX6 13 "EvenWhiteModel" "line" "[I" ∈ wsX6_wide := by decide +kernel
theorem mX6_wide_2 : Cond.constantLong RX6 125 (8) ∈ wsX6_wide := by decide +kernel
theorem mX6_wide_3 : Cond.fieldLink RX6 112 "EvenWhiteModel" "whole" "J" ∈ wsX6_wide := by decide +kernel
theorem mX6_wide_4 : Cond.fieldLink RX6 7 "EvenWhiteModel" "now" "[I" ∈ wsX6_wide := by decide +kernel
theorem mX6_wide_5 : Cond.fieldLink RX6 20 "EvenWhiteModel" "spaces" "[J" ∈ wsX6_wide := by decide +kernel
theorem inX6_wide_6 : ∀ w ∈ u_ws RX6 TX6 17, w ∈ wsX6_wide := by decide +kernel
def gX6_wide_4 (mo : Mo) (rec : (Int64 × Int32) → Option (Int64 × Int32)) (u : Int64 × Int32) : Option (Int64 × Int32) :=
  (if (Mo_lined mo) ≤ u.2 then
  some (u.1, u.2)
  else (rdI (Mo_line mo) 16 u.2).bind fun v2 =>
  (rdI (Mo_now mo) 63 ((48 : Int32) + v2)).bind fun v3 =>
  ((if u.2 ≤ (0 : Int32) then
  some (0 : Int64)
  else (rdJ (Mo_spaces mo) 6 ((3 : Int32) + v2)).bind fun v6 =>
  some v6)).bind fun v4 =>
  ((if (Mo_lined mo) ≤ (u.2 + (1 : Int32)) then
  some (0 : Int64)
  else (rdJ (Mo_spaces mo) 6 v2).bind fun v9 =>
  some v9)).bind fun v7 =>
  rec ((((u.1 + (((8 : Int64) * (Mo_whole mo)) * (Int32.toInt64 v3))) + v4) + v7), (u.2 + (1 : Int32))))
set_option maxHeartbeats 4000000 in
set_option maxRecDepth 100000 in
theorem wX6_wide_4 {p : Program} {l : Launch} {e : Env} {s : State} {m : MethodId} {args : Array Value} {below : List Frame} {meth : Method} {c : Code} {Q : State → Prop} (S : CallFix p m c cX6_wide 5 s args wsX6_wide RX6) (E : xG) (hK : xK E s) (uq : Nat → Nat) (mo : Mo) (hP : va_P (xD E) vwCl (wM E uq mo) s.heap) : ∀ (n : Nat) (u : Int64 × Int32) (r : Int64 × Int32), lp (gX6_wide_4 mo) n u = some r → ∀ (ls : Array Slot), lv_has ls 5 [(0, .ref (uq 0)), (1, .long u.1), (3, .int u.2)] → (∀ (ls : Array Slot), lv_has ls 5 [(0, .ref (uq 0)), (1, .long r.1), (3, .int r.2)] → W p l e rmX6_wide s m args below meth c s.heap [] 0 0 Q (F0 m 93 ls [])) → W p l e rmX6_wide s m args below meth c s.heap [] 0 0 Q (F0 m 4 ls []) := by
  obtain ⟨hx, hb, hml, hown, hts⟩ := id S
  intro n
  induction n with
  | zero =>
    intro u r hf
    exact absurd (show (none : Option _) = some r from hf) (fun q => by cases q)
  | succ n ih =>
    intro u r hf ls hl kx
    have hf : gX6_wide_4 mo (lp (gX6_wide_4 mo) n) u = some r := hf
    unfold gX6_wide_4 at hf
    refine lv_iload_n hx hb dX6_wide_4 rfl (lv_at hl 2 rfl) ?_
    refine lv_aload_n hx hb dX6_wide_5 rfl (lv_at hl 0 rfl) ?_
    refine x_get hx hb hts inX6_wide_6 hown hK hP 0 rfl rfl 1 (by decide) mX6_wide_0 rfl dX6_wide_6 ?_
    refine lv_icmp_ge (tgt := 93) hx hb dX6_wide_9 (by decide) (fun c1 => ?_) (fun c1 => ?_)
    · have hf := (if_pos c1).symm.trans hf
      obtain rfl := Option.some.inj hf
      exact kx ls (lv_sub hl [0, 1, 2] rfl)
    · have hf := (if_neg c1).symm.trans hf
      refine lv_aload_n hx hb dX6_wide_12 rfl (lv_at hl 0 rfl) ?_
      refine x_get hx hb hts inX6_wide_6 hown hK hP 0 rfl rfl 2 (by decide) mX6_wide_1 rfl dX6_wide_13 ?_
      refine lv_iload_n hx hb dX6_wide_16 rfl (lv_at hl 2 rfl) ?_
      obtain ⟨v2, h2, hf⟩ := ob hf
      refine x_iald hx hb hK hP 2 rfl h2 dX6_wide_17 ?_
      refine lv_istore (lv' := [(4, .int v2), (0, .ref (uq 0)), (1, .long u.1), (3, .int u.2)]) hx hb dX6_wide_18 hl (by decide) rfl (fun ls hl => ?_)
      refine lv_lload_n hx hb dX6_wide_20 rfl (lv_at hl 2 rfl) ?_
      refine lv_ldc2 hx hb hown (hts _ mX6_wide_2) dX6_wide_21 ?_
      refine lv_aload_n hx hb dX6_wide_24 rfl (lv_at hl 1 rfl) ?_
      refine x_get hx hb hts inX6_wide_6 hown hK hP 0 rfl rfl 5 (by decide) mX6_wide_3 rfl dX6_wide_25 ?_
      refine lv_lmul hx hb dX6_wide_28 ?_
      refine lv_aload_n hx hb dX6_wide_29 rfl (lv_at hl 1 rfl) ?_
      refine x_get hx hb hts inX6_wide_6 hown hK hP 0 rfl rfl 0 (by decide) mX6_wide_4 rfl dX6_wide_30 ?_
      refine lv_bipush (v := 48) hx hb dX6_wide_33 (by decide) ?_
      refine lv_iload hx hb dX6_wide_35 (lv_at hl 0 rfl) ?_
      refine lv_iadd hx hb dX6_wide_37 ?_
      obtain ⟨v3, h3, hf⟩ := ob hf
      refine x_iald hx hb hK hP 1 rfl h3 dX6_wide_38 ?_
      refine lv_i2l (v := (Int32.toInt64 v3)) hx hb dX6_wide_39 rfl ?_
      refine lv_lmul hx hb dX6_wide_40 ?_
      refine lv_ladd hx hb dX6_wide_41 ?_
      refine lv_lstore_n (lv' := [(1, .long (u.1 + (((8 : Int64) * (Mo_whole mo)) * (Int32.toInt64 v3)))), (4, .int v2), (0, .ref (uq 0)), (3, .int u.2)]) hx hb dX6_wide_42 rfl hl (by decide) rfl (fun ls hl => ?_)
      refine lv_lload_n hx hb dX6_wide_43 rfl (lv_at hl 0 rfl) ?_
      refine lv_iload_n hx hb dX6_wide_44 rfl (lv_at hl 3 rfl) ?_
      obtain ⟨v4, h4, hf⟩ := ob hf
      refine x_cutL (fun ls => lv_has ls 5 [(0, .ref (uq 0)), (1, .long (u.1 + (((8 : Int64) * (Mo_whole mo)) * (Int32.toInt64 v3)))), (3, .int u.2), (4, .int v2)]) (pc := 61) (st := [.long v4, .long (u.1 + (((8 : Int64) * (Mo_whole mo)) * (Int32.toInt64 v3)))]) (fun ls hl => ?_) (fun hj => ?_)
      · refine lv_ladd hx hb dX6_wide_61 ?_
        refine lv_lstore_n (lv' := [(1, .long ((u.1 + (((8 : Int64) * (Mo_whole mo)) * (Int32.toInt64 v3))) + v4)), (0, .ref (uq 0)), (3, .int u.2), (4, .int v2)]) hx hb dX6_wide_62 rfl hl (by decide) rfl (fun ls hl => ?_)
        refine lv_lload_n hx hb dX6_wide_63 rfl (lv_at hl 0 rfl) ?_
        refine lv_iload_n hx hb dX6_wide_64 rfl (lv_at hl 2 rfl) ?_
        refine lv_iconst (v := 1) hx hb dX6_wide_65 (by decide) ?_
        refine lv_iadd hx hb dX6_wide_66 ?_
        refine lv_aload_n hx hb dX6_wide_67 rfl (lv_at hl 1 rfl) ?_
        refine x_get hx hb hts inX6_wide_6 hown hK hP 0 rfl rfl 1 (by decide) mX6_wide_0 rfl dX6_wide_68 ?_
        obtain ⟨v7, h7, hf⟩ := ob hf
        refine x_cutL (fun ls => lv_has ls 5 [(0, .ref (uq 0)), (1, .long ((u.1 + (((8 : Int64) * (Mo_whole mo)) * (Int32.toInt64 v3))) + v4)), (3, .int u.2), (4, .int v2)]) (pc := 85) (st := [.long v7, .long ((u.1 + (((8 : Int64) * (Mo_whole mo)) * (Int32.toInt64 v3))) + v4)]) (fun ls hl => ?_) (fun hj => ?_)
        · refine lv_ladd hx hb dX6_wide_85 ?_
          refine lv_lstore_n (lv' := [(1, .long (((u.1 + (((8 : Int64) * (Mo_whole mo)) * (Int32.toInt64 v3))) + v4) + v7)), (0, .ref (uq 0)), (3, .int u.2), (4, .int v2)]) hx hb dX6_wide_86 rfl hl (by decide) rfl (fun ls hl => ?_)
          refine lv_iinc (v := (u.2 + (1 : Int32))) (lv' := [(3, .int (u.2 + (1 : Int32))), (1, .long (((u.1 + (((8 : Int64) * (Mo_whole mo)) * (Int32.toInt64 v3))) + v4) + v7)), (0, .ref (uq 0)), (4, .int v2)]) hx hb dX6_wide_87 hl (k := 2) rfl rfl (by decide) rfl (fun ls hl => ?_)
          refine lv_goto (tgt := 4) hx hb dX6_wide_90 (by decide) ?_
          exact ih ((((u.1 + (((8 : Int64) * (Mo_whole mo)) * (Int32.toInt64 v3))) + v4) + v7), (u.2 + (1 : Int32))) _ hf ls (lv_sub hl [2, 1, 0] rfl) kx
        · have hf := h7
          refine lv_icmp_ge (tgt := 84) hx hb dX6_wide_71 (by decide) (fun c8 => ?_) (fun c8 => ?_)
          · have hf := (if_pos c8).symm.trans hf
            refine lv_lconst (v := 0) hx hb dX6_wide_84 (by decide) ?_
            obtain rfl := Option.some.inj hf
            exact hj ls (lv_sub hl [1, 0, 2, 3] rfl)
          · have hf := (if_neg c8).symm.trans hf
            refine lv_aload_n hx hb dX6_wide_74 rfl (lv_at hl 1 rfl) ?_
            refine x_get hx hb hts inX6_wide_6 hown hK hP 0 rfl rfl 4 (by decide) mX6_wide_5 rfl dX6_wide_75 ?_
            refine lv_iload hx hb dX6_wide_78 (lv_at hl 3 rfl) ?_
            obtain ⟨v9, h9, hf⟩ := ob hf
            refine x_lald hx hb hK hP 4 rfl h9 dX6_wide_80 ?_
            refine lv_goto (tgt := 85) hx hb dX6_wide_81 (by decide) ?_
            obtain rfl := Option.some.inj hf
            exact hj ls (lv_sub hl [1, 0, 2, 3] rfl)
      · have hf := h4
        refine lv_if_le (tgt := 60) hx hb dX6_wide_45 (by decide) (fun c5 => ?_) (fun c5 => ?_)
        · have hf := (if_pos c5).symm.trans hf
          refine lv_lconst (v := 0) hx hb dX6_wide_60 (by decide) ?_
          obtain rfl := Option.some.inj hf
          exact hj ls (lv_sub hl [2, 0, 3, 1] rfl)
        · have hf := (if_neg c5).symm.trans hf
          refine lv_aload_n hx hb dX6_wide_48 rfl (lv_at hl 2 rfl) ?_
          refine x_get hx hb hts inX6_wide_6 hown hK hP 0 rfl rfl 4 (by decide) mX6_wide_5 rfl dX6_wide_49 ?_
          refine lv_iconst (v := 3) hx hb dX6_wide_52 (by decide) ?_
          refine lv_iload hx hb dX6_wide_53 (lv_at hl 1 rfl) ?_
          refine lv_iadd hx hb dX6_wide_55 ?_
          obtain ⟨v6, h6, hf⟩ := ob hf
          refine x_lald hx hb hK hP 4 rfl h6 dX6_wide_56 ?_
          refine lv_goto (tgt := 61) hx hb dX6_wide_57 (by decide) ?_
          obtain rfl := Option.some.inj hf
          exact hj ls (lv_sub hl [2, 0, 3, 1] rfl)
def fX6_wide (mo : Mo) : Option Int64 :=
  (lp (gX6_wide_4 mo) 1000 ((0 : Int64), (0 : Int32))).bind fun v1 =>
  some v1.1
set_option maxHeartbeats 4000000 in
set_option maxRecDepth 100000 in
theorem kX6_wide (l : Launch) (E : xG) (uq : Nat → Nat) (mo : Mo) {r : Int64} (hf : fX6_wide mo = some r) : xPure l yX6_wide wsX6_wide rmX6_wide E [.ref (uq 0)] (wM E uq mo) (.long r) := by
  refine Met.ofW (cc := cX6_wide) (maxL := 5) (ret := (some .long)) (by decide) rfl ?_
  intro p e s m args below meth c s₁ B hml hv
  obtain ⟨rfl, hP, hK⟩ := hv
  have hx := B.exec
  have hb := B.bytes
  have hr := B.returns
  have hts := atoms_spec (ws := wsX6_wide) B.pre
  have hown : s.vm.findClass RX6 = some m.cls := findClass_of_methodNamed B.named
  have hlk := B.notSynchronized
  have S : CallFix p m c cX6_wide 5 s _ wsX6_wide RX6 := ⟨hx, hb, hml, hown, hts⟩
  have hl := lv_entry ([.ref (uq 0)]) (n := 5) (Nat.le_of_ble_eq_true rfl)
  rw [lg_entry_eq]
  generalize (lg_sl ([.ref (uq 0)]) ++ List.replicate (5 - (lg_sl ([.ref (uq 0)])).length) Slot.unset).toArray = ls at hl ⊢
  have hl : lv_has ls 5 [(0, .ref (uq 0))] := hl
  unfold fX6_wide at hf
  refine lv_lconst (v := 0) hx hb dX6_wide_0 (by decide) ?_
  refine lv_lstore_n (lv' := [(1, .long (0 : Int64)), (0, .ref (uq 0))]) hx hb dX6_wide_1 rfl hl (by decide) rfl (fun ls hl => ?_)
  refine lv_iconst (v := 0) hx hb dX6_wide_2 (by decide) ?_
  refine lv_istore_n (lv' := [(3, .int (0 : Int32)), (1, .long (0 : Int64)), (0, .ref (uq 0))]) hx hb dX6_wide_3 rfl hl (by decide) rfl (fun ls hl => ?_)
  obtain ⟨v1, h1, hf⟩ := ob hf
  refine wX6_wide_4 S E hK uq mo hP 1000 _ _ h1 ls (lv_sub hl [2, 1, 0] rfl) (fun ls hl => ?_)
  refine lv_lload_n hx hb dX6_wide_93 rfl (lv_at hl 1 rfl) ?_
  obtain rfl := Option.some.inj hf
  exact x_lret hx hb hr hlk dX6_wide_94
abbrev rmX6_thin : Room := { frames := 3, cells := 0, slots := 0, locals := 69 }
theorem mX6_thin_0 : Cond.fieldLink RX6 51 "EvenWhiteModel" "lined" "I" ∈ wsX6_thin := by decide +kernel
theorem mX6_thin_1 : Cond.fieldLink RX6 13 "EvenWhiteModel" "line" "[I" ∈ wsX6_thin := by decide +kernel
theorem inX6_thin_6 : ∀ w ∈ u_ws RX6 TX6 17, w ∈ wsX6_thin := by decide +kernel
def gX6_thin_4 (mo : Mo) (rec : (Int32 × Int32) → Option (Int32 × Int32)) (u : Int32 × Int32) : Option (Int32 × Int32) :=
  (if (Mo_lined mo) ≤ (u.2 + (1 : Int32)) then
  some (u.1, u.2)
  else ((if u.1 < (0 : Int32) then
  some (1 : Int32)
  else (rdI (Mo_line mo) 16 u.2).bind fun v4 =>
  (rdI (Mo_line mo) 16 (u.2 + (1 : Int32))).bind fun v5 =>
  (fX6_whiteOf mo v4 v5).bind fun v6 =>
  (rdI (Mo_line mo) 16 u.1).bind fun v7 =>
  (rdI (Mo_line mo) 16 (u.1 + (1 : Int32))).bind fun v8 =>
  (fX6_whiteOf mo v7 v8).bind fun v9 =>
  (if v9 ≤ v6 then
  some (0 : Int32)
  else some (1 : Int32)))).bind fun v2 =>
  rec ((if v2 = (0 : Int32) then u.1 else u.2), (u.2 + (1 : Int32))))
set_option maxHeartbeats 4000000 in
set_option maxRecDepth 100000 in
theorem wX6_thin_4 {p : Program} {l : Launch} {e : Env} {s : State} {m : MethodId} {args : Array Value} {below : List Frame} {meth : Method} {c : Code} {Q : State → Prop} (S : CallFix p m c cX6_thin 4 s args wsX6_thin RX6) (E : xG) (hK : xK E s) (uq : Nat → Nat) (mo : Mo) (hP : va_P (xD E) vwCl (wM E uq mo) s.heap) : ∀ (n : Nat) (u : Int32 × Int32) (r : Int32 × Int32), lp (gX6_thin_4 mo) n u = some r → ∀ (ls : Array Slot), lv_has ls 4 [(0, .ref (uq 0)), (1, .int u.1), (2, .int u.2)] → (∀ (ls : Array Slot), lv_has ls 4 [(0, .ref (uq 0)), (1, .int r.1), (2, .int r.2)] → W p l e rmX6_thin s m args below meth c s.heap [] 0 0 Q (F0 m 80 ls [])) → W p l e rmX6_thin s m args below meth c s.heap [] 0 0 Q (F0 m 4 ls []) := by
  obtain ⟨hx, hb, hml, hown, hts⟩ := id S
  intro n
  induction n with
  | zero =>
    intro u r hf
    exact absurd (show (none : Option _) = some r from hf) (fun q => by cases q)
  | succ n ih =>
    intro u r hf ls hl kx
    have hf : gX6_thin_4 mo (lp (gX6_thin_4 mo) n) u = some r := hf
    unfold gX6_thin_4 at hf
    refine lv_iload_n hx hb dX6_thin_4 rfl (lv_at hl 2 rfl) ?_
    refine lv_iconst (v := 1) hx hb dX6_thin_5 (by decide) ?_
    refine lv_iadd hx hb dX6_thin_6 ?_
    refine lv_aload_n hx hb dX6_thin_7 rfl (lv_at hl 0 rfl) ?_
    refine x_get hx hb hts inX6_thin_6 hown hK hP 0 rfl rfl 1 (by decide) mX6_thin_0 rfl dX6_thin_8 ?_
    refine lv_icmp_ge (tgt := 80) hx hb dX6_thin_11 (by decide) (fun c1 => ?_) (fun c1 => ?_)
    · have hf := (if_pos c1).symm.trans hf
      obtain rfl := Option.some.inj hf
      exact kx ls (lv_sub hl [0, 1, 2] rfl)
    · have hf := (if_neg c1).symm.trans hf
      refine lv_iload_n hx hb dX6_thin_14 rfl (lv_at hl 1 rfl) ?_
      obtain ⟨v2, h2, hf⟩ := ob hf
      refine x_cutL (fun ls => lv_has ls 4 [(0, .ref (uq 0)), (1, .int u.1), (2, .int u.2)]) (pc := 63) (st := [.int v2]) (fun ls hl => ?_) (fun hj => ?_)
      · refine lv_istore_n (lv' := [(3, .int v2), (0, .ref (uq 0)), (1, .int u.1), (2, .int u.2)]) hx hb dX6_thin_63 rfl hl (by decide) rfl (fun ls hl => ?_)
        refine lv_iload_n hx hb dX6_thin_64 rfl (lv_at hl 0 rfl) ?_
        refine x_cut (pc := 73) (ls := ls) (st := [.int (if v2 = (0 : Int32) then u.1 else u.2)]) ?_ (fun hj => ?_)
        · refine lv_istore_n (lv' := [(1, .int (if v2 = (0 : Int32) then u.1 else u.2)), (3, .int v2), (0, .ref (uq 0)), (2, .int u.2)]) hx hb dX6_thin_73 rfl hl (by decide) rfl (fun ls hl => ?_)
          refine lv_iinc (v := (u.2 + (1 : Int32))) (lv' := [(2, .int (u.2 + (1 : Int32))), (1, .int (if v2 = (0 : Int32) then u.1 else u.2)), (3, .int v2), (0, .ref (uq 0))]) hx hb dX6_thin_74 hl (k := 3) rfl rfl (by decide) rfl (fun ls hl => ?_)
          refine lv_goto (tgt := 4) hx hb dX6_thin_77 (by decide) ?_
          exact ih ((if v2 = (0 : Int32) then u.1 else u.2), (u.2 + (1 : Int32))) _ hf ls (lv_sub hl [3, 1, 0] rfl) kx
        · refine lv_if_eq (tgt := 72) hx hb dX6_thin_65 (by decide) (fun c11 => ?_) (fun c11 => ?_)
          · refine lv_iload_n hx hb dX6_thin_72 rfl (lv_at hl 2 rfl) ?_
            exact (by rw [if_pos c11] at hj; exact hj)
          · refine lv_iload_n hx hb dX6_thin_68 rfl (lv_at hl 3 rfl) ?_
            refine lv_goto (tgt := 73) hx hb dX6_thin_69 (by decide) ?_
            exact (by rw [if_neg c11] at hj; exact hj)
      · have hf := h2
        refine lv_if_lt (tgt := 58) hx hb dX6_thin_15 (by decide) (fun c3 => ?_) (fun c3 => ?_)
        · have hf := (if_pos c3).symm.trans hf
          refine lv_iconst (v := 1) hx hb dX6_thin_58 (by decide) ?_
          refine lv_goto (tgt := 63) hx hb dX6_thin_59 (by decide) ?_
          obtain rfl := Option.some.inj hf
          exact hj ls (lv_sub hl [0, 1, 2] rfl)
        · have hf := (if_neg c3).symm.trans hf
          refine lv_aload_n hx hb dX6_thin_18 rfl (lv_at hl 0 rfl) ?_
          refine lv_aload_n hx hb dX6_thin_19 rfl (lv_at hl 0 rfl) ?_
          refine x_get hx hb hts inX6_thin_6 hown hK hP 0 rfl rfl 2 (by decide) mX6_thin_1 rfl dX6_thin_20 ?_
          refine lv_iload_n hx hb dX6_thin_23 rfl (lv_at hl 2 rfl) ?_
          obtain ⟨v4, h4, hf⟩ := ob hf
          refine x_iald hx hb hK hP 2 rfl h4 dX6_thin_24 ?_
          refine lv_aload_n hx hb dX6_thin_25 rfl (lv_at hl 0 rfl) ?_
          refine x_get hx hb hts inX6_thin_6 hown hK hP 0 rfl rfl 2 (by decide) mX6_thin_1 rfl dX6_thin_26 ?_
          refine lv_iload_n hx hb dX6_thin_29 rfl (lv_at hl 2 rfl) ?_
          refine lv_iconst (v := 1) hx hb dX6_thin_30 (by decide) ?_
          refine lv_iadd hx hb dX6_thin_31 ?_
          obtain ⟨v5, h5, hf⟩ := ob hf
          refine x_iald hx hb hK hP 2 rfl h5 dX6_thin_32 ?_
          obtain ⟨v6, h6, hf⟩ := ob hf
          refine x_pV (As := [.int v4, .int v5]) (rest := []) S hK (kX6_whiteOf l E uq mo v4 v5 h6) (cwV 2 hts gX6_thin_X6_whiteOf rfl rfl rfl (by decide +kernel) ⟨Nat.le_of_ble_eq_true rfl, Nat.le_of_ble_eq_true rfl⟩) hP 0 rfl rfl rfl rfl hl.1 (Nat.le_of_ble_eq_true rfl) dX6_thin_33 rfl ⟨Nat.zero_le _, Nat.zero_le _⟩ ?_
          refine lv_aload_n hx hb dX6_thin_36 rfl (lv_at hl 0 rfl) ?_
          refine lv_aload_n hx hb dX6_thin_37 rfl (lv_at hl 0 rfl) ?_
          refine x_get hx hb hts inX6_thin_6 hown hK hP 0 rfl rfl 2 (by decide) mX6_thin_1 rfl dX6_thin_38 ?_
          refine lv_iload_n hx hb dX6_thin_41 rfl (lv_at hl 1 rfl) ?_
          obtain ⟨v7, h7, hf⟩ := ob hf
          refine x_iald hx hb hK hP 2 rfl h7 dX6_thin_42 ?_
          refine lv_aload_n hx hb dX6_thin_43 rfl (lv_at hl 0 rfl) ?_
          refine x_get hx hb hts inX6_thin_6 hown hK hP 0 rfl rfl 2 (by decide) mX6_thin_1 rfl dX6_thin_44 ?_
          refine lv_iload_n hx hb dX6_thin_47 rfl (lv_at hl 1 rfl) ?_
          refine lv_iconst (v := 1) hx hb dX6_thin_48 (by decide) ?_
          refine lv_iadd hx hb dX6_thin_49 ?_
          obtain ⟨v8, h8, hf⟩ := ob hf
          refine x_iald hx hb hK hP 2 rfl h8 dX6_thin_50 ?_
          obtain ⟨v9, h9, hf⟩ := ob hf
          refine x_pV (As := [.int v7, .int v8]) (rest := [.long v6]) S hK (kX6_whiteOf l E uq mo v7 v8 h9) (cwV 2 hts gX6_thin_X6_whiteOf rfl rfl rfl (by decide +kernel) ⟨Nat.le_of_ble_eq_true rfl, Nat.le_of_ble_eq_true rfl⟩) hP 0 rfl rfl rfl rfl hl.1 (Nat.le_of_ble_eq_true rfl) dX6_thin_51 rfl ⟨Nat.zero_le _, Nat.zero_le _⟩ ?_
          refine x_lif_ge (tgt := 62) hx hb dX6_thin_54 dX6_thin_55 (by decide) (fun c10 => ?_) (fun c10 => ?_)
          · have hf := (if_pos c10).symm.trans hf
            refine lv_iconst (v := 0) hx hb dX6_thin_62 (by decide) ?_
            obtain rfl := Option.some.inj hf
            exact hj ls (lv_sub hl [0, 1, 2] rfl)
          · have hf := (if_neg c10).symm.trans hf
            refine lv_iconst (v := 1) hx hb dX6_thin_58 (by decide) ?_
            refine lv_goto (tgt := 63) hx hb dX6_thin_59 (by decide) ?_
            obtain rfl := Option.some.inj hf
            exact hj ls (lv_sub hl [0, 1, 2] rfl)
def fX6_thin (mo : Mo) : Option Int32 :=
  (lp (gX6_thin_4 mo) 1000 ((-1 : Int32), (0 : Int32))).bind fun v1 =>
  some v1.1
set_option maxHeartbeats 4000000 in
set_option maxRecDepth 100000 in
theorem kX6_thin (l : Launch) (E : xG) (uq : Nat → Nat) (mo : Mo) {r : Int32} (hf : fX6_thin mo = some r) : xPure l yX6_thin wsX6_thin rmX6_thin E [.ref (uq 0)] (wM E uq mo) (.int r) := by
  refine Met.ofW (cc := cX6_thin) (maxL := 4) (ret := (some .int)) (by decide) rfl ?_
  intro p e s m args below meth c s₁ B hml hv
  obtain ⟨rfl, hP, hK⟩ := hv
  have hx := B.exec
  have hb := B.bytes
  have hr := B.returns
  have hts := atoms_spec (ws := wsX6_thin) B.pre
  have hown : s.vm.findClass RX6 = some m.cls := findClass_of_methodNamed B.named
  have hlk := B.notSynchronized
  have S : CallFix p m c cX6_thin 4 s _ wsX6_thin RX6 := ⟨hx, hb, hml, hown, hts⟩
  have hl := lv_entry ([.ref (uq 0)]) (n := 4) (Nat.le_of_ble_eq_true rfl)
  rw [lg_entry_eq]
  generalize (lg_sl ([.ref (uq 0)]) ++ List.replicate (4 - (lg_sl ([.ref (uq 0)])).length) Slot.unset).toArray = ls at hl ⊢
  have hl : lv_has ls 4 [(0, .ref (uq 0))] := hl
  unfold fX6_thin at hf
  refine lv_iconst (v := (-1)) hx hb dX6_thin_0 (by decide) ?_
  refine lv_istore_n (lv' := [(1, .int (-1 : Int32)), (0, .ref (uq 0))]) hx hb dX6_thin_1 rfl hl (by decide) rfl (fun ls hl => ?_)
  refine lv_iconst (v := 0) hx hb dX6_thin_2 (by decide) ?_
  refine lv_istore_n (lv' := [(2, .int (0 : Int32)), (1, .int (-1 : Int32)), (0, .ref (uq 0))]) hx hb dX6_thin_3 rfl hl (by decide) rfl (fun ls hl => ?_)
  obtain ⟨v1, h1, hf⟩ := ob hf
  refine wX6_thin_4 S E hK uq mo hP 1000 _ _ h1 ls (lv_sub hl [2, 1, 0] rfl) (fun ls hl => ?_)
  refine lv_iload_n hx hb dX6_thin_80 rfl (lv_at hl 1 rfl) ?_
  obtain rfl := Option.some.inj hf
  exact x_iret hx hb hr hlk (vp_nar_int _) dX6_thin_81
abbrev rmX6_write : Room := { frames := 0, cells := 0, slots := 0, locals := 0 }
theorem mX6_write_0 : Cond.fieldLink RX6 39 "EvenWhiteModel" "signs" "[I" ∈ wsX6_write := by decide +kernel
theorem mX6_write_1 : Cond.fieldLink RX6 137 "EvenWhiteModel" "signed" "I" ∈ wsX6_write := by decide +kernel
theorem inX6_write_6 : ∀ w ∈ u_ws RX6 TX6 17, w ∈ wsX6_write := by decide +kernel
def fX6_write (mo : Mo) (x1 : Int32) : Option Mo :=
  (wrI (Mo_signs mo) 80 (Mo_signed mo) x1).bind fun v1 =>
  some (Mo_set_signed (Mo_set_signs mo v1) ((Mo_signed mo) + (1 : Int32)))
set_option maxHeartbeats 4000000 in
set_option maxRecDepth 100000 in
theorem kX6_write (l : Launch) (E : xG) (uq : Nat → Nat) (mo : Mo) (x1 : Int32) {r : Mo} (hf : fX6_write mo x1 = some r) : xMut l yX6_write wsX6_write rmX6_write E [.ref (uq 0), .int x1] (wM E uq mo) none (wM E uq r) := by
  refine Met.ofW (cc := cX6_write) (maxL := 2) (ret := none) (by decide) rfl ?_
  intro p e s m args below meth c s₁ B hml hv
  obtain ⟨rfl, hP, hK, hD0⟩ := hv
  have hx := B.exec
  have hb := B.bytes
  have hr := B.returns
  have hts := atoms_spec (ws := wsX6_write) B.pre
  have hown : s.vm.findClass RX6 = some m.cls := findClass_of_methodNamed B.named
  have hlk := B.notSynchronized
  have S : CallFix p m c cX6_write 2 s _ wsX6_write RX6 := ⟨hx, hb, hml, hown, hts⟩
  have hl := lv_entry ([.ref (uq 0), .int x1]) (n := 2) (Nat.le_of_ble_eq_true rfl)
  rw [lg_entry_eq]
  generalize (lg_sl ([.ref (uq 0), .int x1]) ++ List.replicate (2 - (lg_sl ([.ref (uq 0), .int x1])).length) Slot.unset).toArray = ls at hl ⊢
  have hl : lv_has ls 2 [(0, .ref (uq 0)), (1, .int x1)] := hl
  have hD := xA.self hD0
  have hS : va_S (xA (wM E uq mo)) s.heap s.heap [] := va_S.rf
  show W p l e rmX6_write s m _ below meth c s.heap [] 0 0 _ _
  generalize hA : xA (wM E uq mo) = A at hD hS ⊢
  unfold fX6_write at hf
  refine lv_aload_n hx hb dX6_write_0 rfl (lv_at hl 0 rfl) ?_
  refine x_get hx hb hts inX6_write_6 hown hK hP 0 rfl rfl 11 (by decide) mX6_write_0 rfl dX6_write_1 ?_
  refine lv_aload_n hx hb dX6_write_4 rfl (lv_at hl 0 rfl) ?_
  refine x_get hx hb hts inX6_write_6 hown hK hP 0 rfl rfl 12 (by decide) mX6_write_1 rfl dX6_write_5 ?_
  refine lv_iload_n hx hb dX6_write_8 rfl (lv_at hl 1 rfl) ?_
  obtain ⟨v1, h1, hf⟩ := ob hf
  refine x_iast hx hb hK hP hD hS 10 rfl h1 dX6_write_9 (fun H locs hP hD hS => ?_)
  have hP : va_P (xD E) vwCl (wM E uq (Mo_set_signs mo v1)) H := hP
  have hD : va_D A (wM E uq (Mo_set_signs mo v1)) := hD
  refine lv_aload_n hx hb dX6_write_10 rfl (lv_at hl 0 rfl) ?_
  refine lv_dup hx hb dX6_write_11 rfl ?_
  refine x_get hx hb hts inX6_write_6 hown hK hP 0 rfl rfl 12 (by decide) mX6_write_1 rfl dX6_write_12 ?_
  refine lv_iconst (v := 1) hx hb dX6_write_15 (by decide) ?_
  refine lv_iadd hx hb dX6_write_16 ?_
  refine x_putf hx hb hts inX6_write_6 tyX6_ok nmX6 hown hK hP hD hS 0 rfl rfl 12 (by decide) mX6_write_1 rfl (vp_nar_int _) rfl (Nat.le_of_ble_eq_true rfl) dX6_write_17 (fun H locs hP hD hS => ?_)
  have hP : va_P (xD E) vwCl (wM E uq (Mo_set_signed (Mo_set_signs mo v1) ((Mo_signed mo) + (1 : Int32)))) H := hP
  have hD : va_D A (wM E uq (Mo_set_signed (Mo_set_signs mo v1) ((Mo_signed mo) + (1 : Int32)))) := hD
  obtain rfl := Option.some.inj hf
  subst hA
  exact x_vretM hx hb hr hlk hP hS dX6_write_20
abbrev rmX6_writeNumber : Room := { frames := 1, cells := 0, slots := 0, locals := 21 }
theorem mX6_writeNumber_0 : Cond.constantLong RX6 143 (9) ∈ wsX6_writeNumber := by decide +kernel
theorem mX6_writeNumber_1 : Cond.constantLong RX6 145 (10) ∈ wsX6_writeNumber := by decide +kernel
def gX6_writeNumber_28 (mo : Mo) (x1 : Int64) (x3 : Int64) (rec : Int64 → Option (Int64)) (u : Int64) : Option (Int64) :=
  (dvJ x3 u).bind fun v1 =>
  (if v1 ≤ (9 : Int64) then
  some u
  else rec (u * (10 : Int64)))
set_option maxHeartbeats 4000000 in
set_option maxRecDepth 100000 in
theorem wX6_writeNumber_28 {p : Program} {l : Launch} {e : Env} {s : State} {m : MethodId} {args : Array Value} {below : List Frame} {meth : Method} {c : Code} {Q : State → Prop} (S : CallFix p m c cX6_writeNumber 7 s args wsX6_writeNumber RX6) (E : xG) (hK : xK E s) (uq : Nat → Nat) (mo : Mo) (x1 : Int64) (x3 : Int64) (A : Nat → Prop) (H0 : Heap) : ∀ (n : Nat) (u : Int64) (r : Int64), lp (gX6_writeNumber_28 mo x1 x3) n u = some r → ∀ (H : Heap) (locs : List Loc), va_P (xD E) vwCl (wM E uq mo) H → va_D A (wM E uq mo) → va_S A H0 H locs → ∀ (ls : Array Slot), lv_has ls 7 [(0, .ref (uq 0)), (1, .long x1), (3, .long x3), (5, .long u)] → (∀ (H : Heap) (locs : List Loc), va_P (xD E) vwCl (wM E uq mo) H → va_D A (wM E uq mo) → va_S A H0 H locs → ∀ (ls : Array Slot), lv_has ls 7 [(0, .ref (uq 0)), (1, .long x1), (3, .long x3), (5, .long r)] → W p l e rmX6_writeNumber s m args below meth c H locs 0 0 Q (F0 m 50 ls [])) → W p l e rmX6_writeNumber s m args below meth c H locs 0 0 Q (F0 m 28 ls []) := by
  obtain ⟨hx, hb, hml, hown, hts⟩ := id S
  intro n
  induction n with
  | zero =>
    intro u r hf
    exact absurd (show (none : Option _) = some r from hf) (fun q => by cases q)
  | succ n ih =>
    intro u r hf H locs hP hD hS ls hl kx
    have hf : gX6_writeNumber_28 mo x1 x3 (lp (gX6_writeNumber_28 mo x1 x3) n) u = some r := hf
    unfold gX6_writeNumber_28 at hf
    refine lv_lload_n hx hb dX6_writeNumber_28 rfl (lv_at hl 2 rfl) ?_
    refine lv_lload hx hb dX6_writeNumber_29 (lv_at hl 3 rfl) ?_
    obtain ⟨v1, h1, hf⟩ := ob hf
    refine x_ldiv hx hb h1 dX6_writeNumber_31 ?_
    refine lv_ldc2 hx hb hown (hts _ mX6_writeNumber_0) dX6_writeNumber_32 ?_
    refine x_lif_le (tgt := 50) hx hb dX6_writeNumber_35 dX6_writeNumber_36 (by decide) (fun c2 => ?_) (fun c2 => ?_)
    · have hf := (if_pos c2).symm.trans hf
      obtain rfl := Option.some.inj hf
      exact kx _ _ hP hD hS ls (lv_sub hl [0, 1, 2, 3] rfl)
    · have hf := (if_neg c2).symm.trans hf
      refine lv_lload hx hb dX6_writeNumber_39 (lv_at hl 3 rfl) ?_
      refine lv_ldc2 hx hb hown (hts _ mX6_writeNumber_1) dX6_writeNumber_41 ?_
      refine lv_lmul hx hb dX6_writeNumber_44 ?_
      refine lv_lstore (lv' := [(5, .long (u * (10 : Int64))), (0, .ref (uq 0)), (1, .long x1), (3, .long x3)]) hx hb dX6_writeNumber_45 hl (by decide) rfl (fun ls hl => ?_)
      refine lv_goto (tgt := 28) hx hb dX6_writeNumber_47 (by decide) ?_
      exact ih (u * (10 : Int64)) _ hf _ _ hP hD hS ls (lv_sub hl [1, 2, 3, 0] rfl) kx
def gX6_writeNumber_50 (x1 : Int64) (x3 : Int64) (rec : (Int64 × Mo) → Option (Int64 × Mo)) (u : Int64 × Mo) : Option (Int64 × Mo) :=
  (if u.1 ≤ (0 : Int64) then
  some (u.1, u.2)
  else (dvJ x3 u.1).bind fun v2 =>
  (fX6_write u.2 ((48 : Int32) + (Int64.toInt32 (v2 - v2 / (10 : Int64) * (10 : Int64))))).bind fun v3 =>
  rec ((u.1 / (10 : Int64)), v3))
set_option maxHeartbeats 4000000 in
set_option maxRecDepth 100000 in
theorem wX6_writeNumber_50 {p : Program} {l : Launch} {e : Env} {s : State} {m : MethodId} {args : Array Value} {below : List Frame} {meth : Method} {c : Code} {Q : State → Prop} (S : CallFix p m c cX6_writeNumber 7 s args wsX6_writeNumber RX6) (E : xG) (hK : xK E s) (uq : Nat → Nat) (x1 : Int64) (x3 : Int64) (A : Nat → Prop) (H0 : Heap) : ∀ (n : Nat) (u : Int64 × Mo) (r : Int64 × Mo), lp (gX6_writeNumber_50 x1 x3) n u = some r → ∀ (H : Heap) (locs : List Loc), va_P (xD E) vwCl (wM E uq u.2) H → va_D A (wM E uq u.2) → va_S A H0 H locs → ∀ (ls : Array Slot), lv_has ls 7 [(0, .ref (uq 0)), (1, .long x1), (3, .long x3), (5, .long u.1)] → (∀ (H : Heap) (locs : List Loc), va_P (xD E) vwCl (wM E uq r.2) H → va_D A (wM E uq r.2) → va_S A H0 H locs → ∀ (ls : Array Slot), lv_has ls 7 [(0, .ref (uq 0)), (1, .long x1), (3, .long x3), (5, .long r.1)] → W p l e rmX6_writeNumber s m args below meth c H locs 0 0 Q (F0 m 84 ls [])) → W p l e rmX6_writeNumber s m args below meth c H locs 0 0 Q (F0 m 50 ls []) := by
  obtain ⟨hx, hb, hml, hown, hts⟩ := id S
  intro n
  induction n with
  | zero =>
    intro u r hf
    exact absurd (show (none : Option _) = some r from hf) (fun q => by cases q)
  | succ n ih =>
    intro u r hf H locs hP hD hS ls hl kx
    have hf : gX6_writeNumber_50 x1 x3 (lp (gX6_writeNumber_50 x1 x3) n) u = some r := hf
    unfold gX6_writeNumber_50 at hf
    refine lv_lload hx hb dX6_writeNumber_50 (lv_at hl 3 rfl) ?_
    refine lv_lconst (v := 0) hx hb dX6_writeNumber_52 (by decide) ?_
    refine x_lif_le (tgt := 84) hx hb dX6_writeNumber_53 dX6_writeNumber_54 (by decide) (fun c1 => ?_) (fun c1 => ?_)
    · have hf := (if_pos c1).symm.trans hf
      obtain rfl := Option.some.inj hf
      exact kx _ _ hP hD hS ls (lv_sub hl [0, 1, 2, 3] rfl)
    · have hf := (if_neg c1).symm.trans hf
      refine lv_aload_n hx hb dX6_writeNumber_57 rfl (lv_at hl 0 rfl) ?_
      refine lv_bipush (v := 48) hx hb dX6_writeNumber_58 (by decide) ?_
      refine lv_lload_n hx hb dX6_writeNumber_60 rfl (lv_at hl 2 rfl) ?_
      refine lv_lload hx hb dX6_writeNumber_61 (lv_at hl 3 rfl) ?_
      obtain ⟨v2, h2, hf⟩ := ob hf
      refine x_ldiv hx hb h2 dX6_writeNumber_63 ?_
      refine lv_ldc2 hx hb hown (hts _ mX6_writeNumber_1) dX6_writeNumber_64 ?_
      refine lv_lrem hx hb dX6_writeNumber_67 (by decide) ?_
      refine lv_l2i (v := (Int64.toInt32 (v2 - v2 / (10 : Int64) * (10 : Int64)))) hx hb dX6_writeNumber_68 rfl ?_
      refine lv_iadd hx hb dX6_writeNumber_69 ?_
      obtain ⟨v3, h3, hf⟩ := ob hf
      refine x_mR (ws' := wM E uq v3) (As := [.int ((48 : Int32) + (Int64.toInt32 (v2 - v2 / (10 : Int64) * (10 : Int64))))]) (rest := []) S hK (kX6_write l E uq u.2 ((48 : Int32) + (Int64.toInt32 (v2 - v2 / (10 : Int64) * (10 : Int64)))) h3) (cwV 1 hts gX6_writeNumber_X6_write rfl rfl rfl (by decide +kernel) ⟨Nat.le_of_ble_eq_true rfl, Nat.le_of_ble_eq_true rfl⟩) hP hD hS 0 14 rfl rfl 0 rfl rfl rfl rfl hl.1 (Nat.le_of_ble_eq_true rfl) dX6_writeNumber_70 rfl ⟨Nat.zero_le _, Nat.zero_le _⟩ rfl (fun H locs hP hD hS => ?_)
      refine lv_lload hx hb dX6_writeNumber_73 (lv_at hl 3 rfl) ?_
      refine lv_ldc2 hx hb hown (hts _ mX6_writeNumber_1) dX6_writeNumber_75 ?_
      refine lv_ldiv hx hb dX6_writeNumber_78 (by decide) ?_
      refine lv_lstore (lv' := [(5, .long (u.1 / (10 : Int64))), (0, .ref (uq 0)), (1, .long x1), (3, .long x3)]) hx hb dX6_writeNumber_79 hl (by decide) rfl (fun ls hl => ?_)
      refine lv_goto (tgt := 50) hx hb dX6_writeNumber_81 (by decide) ?_
      exact ih ((u.1 / (10 : Int64)), v3) _ hf _ _ hP hD hS ls (lv_sub hl [1, 2, 3, 0] rfl) kx
def fX6_writeNumber (mo : Mo) (x1 : Int64) : Option Mo :=
  ((if (0 : Int64) ≤ x1 then
  some mo
  else (fX6_write mo (45 : Int32)).bind fun v3 =>
  some v3)).bind fun v1 =>
  (lp (gX6_writeNumber_28 v1 x1 (if (0 : Int64) ≤ x1 then x1 else (-x1))) 1000 (1 : Int64)).bind fun v5 =>
  (lp (gX6_writeNumber_50 x1 (if (0 : Int64) ≤ x1 then x1 else (-x1))) 1000 (v5, v1)).bind fun v6 =>
  some v6.2
set_option maxHeartbeats 4000000 in
set_option maxRecDepth 100000 in
theorem kX6_writeNumber (l : Launch) (E : xG) (uq : Nat → Nat) (mo : Mo) (x1 : Int64) {r : Mo} (hf : fX6_writeNumber mo x1 = some r) : xMut l yX6_writeNumber wsX6_writeNumber rmX6_writeNumber E [.ref (uq 0), .long x1] (wM E uq mo) none (wM E uq r) := by
  refine Met.ofW (cc := cX6_writeNumber) (maxL := 7) (ret := none) (by decide) rfl ?_
  intro p e s m args below meth c s₁ B hml hv
  obtain ⟨rfl, hP, hK, hD0⟩ := hv
  have hx := B.exec
  have hb := B.bytes
  have hr := B.returns
  have hts := atoms_spec (ws := wsX6_writeNumber) B.pre
  have hown : s.vm.findClass RX6 = some m.cls := findClass_of_methodNamed B.named
  have hlk := B.notSynchronized
  have S : CallFix p m c cX6_writeNumber 7 s _ wsX6_writeNumber RX6 := ⟨hx, hb, hml, hown, hts⟩
  have hl := lv_entry ([.ref (uq 0), .long x1]) (n := 7) (Nat.le_of_ble_eq_true rfl)
  rw [lg_entry_eq]
  generalize (lg_sl ([.ref (uq 0), .long x1]) ++ List.replicate (7 - (lg_sl ([.ref (uq 0), .long x1])).length) Slot.unset).toArray = ls at hl ⊢
  have hl : lv_has ls 7 [(0, .ref (uq 0)), (1, .long x1)] := hl
  have hD := xA.self hD0
  have hS : va_S (xA (wM E uq mo)) s.heap s.heap [] := va_S.rf
  show W p l e rmX6_writeNumber s m _ below meth c s.heap [] 0 0 _ _
  generalize hA : xA (wM E uq mo) = A at hD hS ⊢
  unfold fX6_writeNumber at hf
  refine lv_lload_n hx hb dX6_writeNumber_0 rfl (lv_at hl 1 rfl) ?_
  refine lv_lconst (v := 0) hx hb dX6_writeNumber_1 (by decide) ?_
  obtain ⟨v1, h1, hf⟩ := ob hf
  refine x_cutH (fun H locs ls => va_P (xD E) vwCl (wM E uq v1) H ∧ va_D A (wM E uq v1) ∧ va_S A s.heap H locs ∧ lv_has ls 7 [(0, .ref (uq 0)), (1, .long x1)]) (pc := 12) (st := []) (fun H locs ls hq => ?_) (fun hj => ?_)
  · obtain ⟨hP, hD, hS, hl⟩ := hq
    refine lv_lload_n hx hb dX6_writeNumber_12 rfl (lv_at hl 1 rfl) ?_
    refine lv_lconst (v := 0) hx hb dX6_writeNumber_13 (by decide) ?_
    refine x_cut (pc := 24) (ls := ls) (st := [.long (if (0 : Int64) ≤ x1 then x1 else (-x1))]) ?_ (fun hj => ?_)
    · refine lv_lstore_n (lv' := [(3, .long (if (0 : Int64) ≤ x1 then x1 else (-x1))), (0, .ref (uq 0)), (1, .long x1)]) hx hb dX6_writeNumber_24 rfl hl (by decide) rfl (fun ls hl => ?_)
      refine lv_lconst (v := 1) hx hb dX6_writeNumber_25 (by decide) ?_
      refine lv_lstore (lv' := [(5, .long (1 : Int64)), (3, .long (if (0 : Int64) ≤ x1 then x1 else (-x1))), (0, .ref (uq 0)), (1, .long x1)]) hx hb dX6_writeNumber_26 hl (by decide) rfl (fun ls hl => ?_)
      obtain ⟨v5, h5, hf⟩ := ob hf
      refine wX6_writeNumber_28 S E hK uq v1 x1 (if (0 : Int64) ≤ x1 then x1 else (-x1)) _ _ 1000 _ _ h5 _ _ hP hD hS ls (lv_sub hl [2, 3, 1, 0] rfl) (fun H locs hP hD hS ls hl => ?_)
      obtain ⟨v6, h6, hf⟩ := ob hf
      refine wX6_writeNumber_50 S E hK uq x1 (if (0 : Int64) ≤ x1 then x1 else (-x1)) _ _ 1000 _ _ h6 _ _ hP hD hS ls (lv_sub hl [0, 1, 2, 3] rfl) (fun H locs hP hD hS ls hl => ?_)
      obtain rfl := Option.some.inj hf
      subst hA
      exact x_vretM hx hb hr hlk hP hS dX6_writeNumber_84
    · refine x_lif_ge (tgt := 23) hx hb dX6_writeNumber_14 dX6_writeNumber_15 (by decide) (fun c4 => ?_) (fun c4 => ?_)
      · refine lv_lload_n hx hb dX6_writeNumber_23 rfl (lv_at hl 1 rfl) ?_
        exact (by rw [if_pos c4] at hj; exact hj)
      · refine lv_lload_n hx hb dX6_writeNumber_18 rfl (lv_at hl 1 rfl) ?_
        refine lv_lneg hx hb dX6_writeNumber_19 ?_
        refine lv_goto (tgt := 24) hx hb dX6_writeNumber_20 (by decide) ?_
        exact (by rw [if_neg c4] at hj; exact hj)
  · have hf := h1
    refine x_lif_ge (tgt := 12) hx hb dX6_writeNumber_2 dX6_writeNumber_3 (by decide) (fun c2 => ?_) (fun c2 => ?_)
    · have hf := (if_pos c2).symm.trans hf
      obtain rfl := Option.some.inj hf
      exact hj _ _ ls ⟨hP, hD, hS, lv_sub hl [0, 1] rfl⟩
    · have hf := (if_neg c2).symm.trans hf
      refine lv_aload_n hx hb dX6_writeNumber_6 rfl (lv_at hl 0 rfl) ?_
      refine lv_bipush (v := 45) hx hb dX6_writeNumber_7 (by decide) ?_
      obtain ⟨v3, h3, hf⟩ := ob hf
      refine x_mR (ws' := wM E uq v3) (As := [.int (45 : Int32)]) (rest := []) S hK (kX6_write l E uq mo (45 : Int32) h3) (cwV 1 hts gX6_writeNumber_X6_write rfl rfl rfl (by decide +kernel) ⟨Nat.le_of_ble_eq_true rfl, Nat.le_of_ble_eq_true rfl⟩) hP hD hS 0 14 rfl rfl 0 rfl rfl rfl rfl hl.1 (Nat.le_of_ble_eq_true rfl) dX6_writeNumber_9 rfl ⟨Nat.zero_le _, Nat.zero_le _⟩ rfl (fun H locs hP hD hS => ?_)
      obtain rfl := Option.some.inj hf
      exact hj _ _ ls ⟨hP, hD, hS, lv_sub hl [0, 1] rfl⟩
abbrev rmX6_writeLine : Room := { frames := 5, cells := 0, slots := 0, locals := 129 }
theorem mX6_writeLine_0 : Cond.fieldLink RX6 137 "EvenWhiteModel" "signed" "I" ∈ wsX6_writeLine := by decide +kernel
theorem mX6_writeLine_1 : Cond.fieldLink RX6 51 "EvenWhiteModel" "lined" "I" ∈ wsX6_writeLine := by decide +kernel
theorem mX6_writeLine_2 : Cond.fieldLink RX6 13 "EvenWhiteModel" "line" "[I" ∈ wsX6_writeLine := by decide +kernel
theorem mX6_writeLine_3 : Cond.constantLong RX6 125 (8) ∈ wsX6_writeLine := by decide +kernel
theorem mX6_writeLine_4 : Cond.fieldLink RX6 112 "EvenWhiteModel" "whole" "J" ∈ wsX6_writeLine := by decide +kernel
theorem inX6_writeLine_6 : ∀ w ∈ u_ws RX6 TX6 17, w ∈ wsX6_writeLine := by decide +kernel
def gX6_writeLine_11 (rec : (Int32 × Mo) → Option (Int32 × Mo)) (u : Int32 × Mo) : Option (Int32 × Mo) :=
  (if (Mo_lined u.2) ≤ u.1 then
  some (u.1, u.2)
  else (rdI (Mo_line u.2) 16 u.1).bind fun v2 =>
  (fX6_write u.2 ((97 : Int32) + v2)).bind fun v3 =>
  ((if (Mo_lined v3) ≤ (u.1 + (1 : Int32)) then
  some v3
  else (rdI (Mo_line v3) 16 u.1).bind fun v6 =>
  (rdI (Mo_line v3) 16 (u.1 + (1 : Int32))).bind fun v7 =>
  (fX6_overOf v3 v6 v7).bind fun v8 =>
  (fX6_write v3 (if v8 ≤ (0 : Int64) then (if (0 : Int64) ≤ v8 then (61 : Int32) else (45 : Int32)) else (43 : Int32))).bind fun v11 =>
  some v11)).bind fun v4 =>
  rec ((u.1 + (1 : Int32)), v4))
set_option maxHeartbeats 4000000 in
set_option maxRecDepth 100000 in
theorem wX6_writeLine_11 {p : Program} {l : Launch} {e : Env} {s : State} {m : MethodId} {args : Array Value} {below : List Frame} {meth : Method} {c : Code} {Q : State → Prop} (S : CallFix p m c cX6_writeLine 4 s args wsX6_writeLine RX6) (E : xG) (hK : xK E s) (uq : Nat → Nat) (A : Nat → Prop) (H0 : Heap) : ∀ (n : Nat) (u : Int32 × Mo) (r : Int32 × Mo), lp (gX6_writeLine_11) n u = some r → ∀ (H : Heap) (locs : List Loc), va_P (xD E) vwCl (wM E uq u.2) H → va_D A (wM E uq u.2) → va_S A H0 H locs → ∀ (ls : Array Slot), lv_has ls 4 [(0, .ref (uq 0)), (1, .int u.1)] → (∀ (H : Heap) (locs : List Loc), va_P (xD E) vwCl (wM E uq r.2) H → va_D A (wM E uq r.2) → va_S A H0 H locs → ∀ (ls : Array Slot), lv_has ls 4 [(0, .ref (uq 0)), (1, .int r.1)] → W p l e rmX6_writeLine s m args below meth c H locs 0 0 Q (F0 m 95 ls [])) → W p l e rmX6_writeLine s m args below meth c H locs 0 0 Q (F0 m 11 ls []) := by
  obtain ⟨hx, hb, hml, hown, hts⟩ := id S
  intro n
  induction n with
  | zero =>
    intro u r hf
    exact absurd (show (none : Option _) = some r from hf) (fun q => by cases q)
  | succ n ih =>
    intro u r hf H locs hP hD hS ls hl kx
    have hf : gX6_writeLine_11 (lp (gX6_writeLine_11) n) u = some r := hf
    unfold gX6_writeLine_11 at hf
    refine lv_iload_n hx hb dX6_writeLine_11 rfl (lv_at hl 1 rfl) ?_
    refine lv_aload_n hx hb dX6_writeLine_12 rfl (lv_at hl 0 rfl) ?_
    refine x_get hx hb hts inX6_writeLine_6 hown hK hP 0 rfl rfl 1 (by decide) mX6_writeLine_1 rfl dX6_writeLine_13 ?_
    refine lv_icmp_ge (tgt := 95) hx hb dX6_writeLine_16 (by decide) (fun c1 => ?_) (fun c1 => ?_)
    · have hf := (if_pos c1).symm.trans hf
      obtain rfl := Option.some.inj hf
      exact kx _ _ hP hD hS ls (lv_sub hl [0, 1] rfl)
    · have hf := (if_neg c1).symm.trans hf
      refine lv_aload_n hx hb dX6_writeLine_19 rfl (lv_at hl 0 rfl) ?_
      refine lv_bipush (v := 97) hx hb dX6_writeLine_20 (by decide) ?_
      refine lv_aload_n hx hb dX6_writeLine_22 rfl (lv_at hl 0 rfl) ?_
      refine x_get hx hb hts inX6_writeLine_6 hown hK hP 0 rfl rfl 2 (by decide) mX6_writeLine_2 rfl dX6_writeLine_23 ?_
      refine lv_iload_n hx hb dX6_writeLine_26 rfl (lv_at hl 1 rfl) ?_
      obtain ⟨v2, h2, hf⟩ := ob hf
      refine x_iald hx hb hK hP 2 rfl h2 dX6_writeLine_27 ?_
      refine lv_iadd hx hb dX6_writeLine_28 ?_
      obtain ⟨v3, h3, hf⟩ := ob hf
      refine x_mR (ws' := wM E uq v3) (As := [.int ((97 : Int32) + v2)]) (rest := []) S hK (kX6_write l E uq u.2 ((97 : Int32) + v2) h3) (cwV 1 hts gX6_writeLine_X6_write rfl rfl rfl (by decide +kernel) ⟨Nat.le_of_ble_eq_true rfl, Nat.le_of_ble_eq_true rfl⟩) hP hD hS 0 14 rfl rfl 0 rfl rfl rfl rfl hl.1 (Nat.le_of_ble_eq_true rfl) dX6_writeLine_29 rfl ⟨Nat.zero_le _, Nat.zero_le _⟩ rfl (fun H locs hP hD hS => ?_)
      refine lv_iload_n hx hb dX6_writeLine_32 rfl (lv_at hl 1 rfl) ?_
      refine lv_iconst (v := 1) hx hb dX6_writeLine_33 (by decide) ?_
      refine lv_iadd hx hb dX6_writeLine_34 ?_
      refine lv_aload_n hx hb dX6_writeLine_35 rfl (lv_at hl 0 rfl) ?_
      refine x_get hx hb hts inX6_writeLine_6 hown hK hP 0 rfl rfl 1 (by decide) mX6_writeLine_1 rfl dX6_writeLine_36 ?_
      obtain ⟨v4, h4, hf⟩ := ob hf
      refine x_cutH (fun H locs ls => va_P (xD E) vwCl (wM E uq v4) H ∧ va_D A (wM E uq v4) ∧ va_S A H0 H locs ∧ lv_has ls 4 [(0, .ref (uq 0)), (1, .int u.1)]) (pc := 89) (st := []) (fun H locs ls hq => ?_) (fun hj => ?_)
      · obtain ⟨hP, hD, hS, hl⟩ := hq
        refine lv_iinc (v := (u.1 + (1 : Int32))) (lv' := [(1, .int (u.1 + (1 : Int32))), (0, .ref (uq 0))]) hx hb dX6_writeLine_89 hl (k := 1) rfl rfl (by decide) rfl (fun ls hl => ?_)
        refine lv_goto (tgt := 11) hx hb dX6_writeLine_92 (by decide) ?_
        exact ih ((u.1 + (1 : Int32)), v4) _ hf _ _ hP hD hS ls (lv_sub hl [1, 0] rfl) kx
      · have hf := h4
        refine lv_icmp_ge (tgt := 89) hx hb dX6_writeLine_39 (by decide) (fun c5 => ?_) (fun c5 => ?_)
        · have hf := (if_pos c5).symm.trans hf
          obtain rfl := Option.some.inj hf
          exact hj _ _ ls ⟨hP, hD, hS, lv_sub hl [0, 1] rfl⟩
        · have hf := (if_neg c5).symm.trans hf
          refine lv_aload_n hx hb dX6_writeLine_42 rfl (lv_at hl 0 rfl) ?_
          refine lv_aload_n hx hb dX6_writeLine_43 rfl (lv_at hl 0 rfl) ?_
          refine x_get hx hb hts inX6_writeLine_6 hown hK hP 0 rfl rfl 2 (by decide) mX6_writeLine_2 rfl dX6_writeLine_44 ?_
          refine lv_iload_n hx hb dX6_writeLine_47 rfl (lv_at hl 1 rfl) ?_
          obtain ⟨v6, h6, hf⟩ := ob hf
          refine x_iald hx hb hK hP 2 rfl h6 dX6_writeLine_48 ?_
          refine lv_aload_n hx hb dX6_writeLine_49 rfl (lv_at hl 0 rfl) ?_
          refine x_get hx hb hts inX6_writeLine_6 hown hK hP 0 rfl rfl 2 (by decide) mX6_writeLine_2 rfl dX6_writeLine_50 ?_
          refine lv_iload_n hx hb dX6_writeLine_53 rfl (lv_at hl 1 rfl) ?_
          refine lv_iconst (v := 1) hx hb dX6_writeLine_54 (by decide) ?_
          refine lv_iadd hx hb dX6_writeLine_55 ?_
          obtain ⟨v7, h7, hf⟩ := ob hf
          refine x_iald hx hb hK hP 2 rfl h7 dX6_writeLine_56 ?_
          obtain ⟨v8, h8, hf⟩ := ob hf
          refine x_pV (As := [.int v6, .int v7]) (rest := []) S hK (kX6_overOf l E uq v3 v6 v7 h8) (cwV 2 hts gX6_writeLine_X6_overOf rfl rfl rfl (by decide +kernel) ⟨Nat.le_of_ble_eq_true rfl, Nat.le_of_ble_eq_true rfl⟩) hP 0 rfl rfl rfl rfl hl.1 (Nat.le_of_ble_eq_true rfl) dX6_writeLine_57 rfl ⟨Nat.zero_le _, Nat.zero_le _⟩ ?_
          refine lv_lstore_n (lv' := [(2, .long v8), (0, .ref (uq 0)), (1, .int u.1)]) hx hb dX6_writeLine_60 rfl hl (by decide) rfl (fun ls hl => ?_)
          refine lv_aload_n hx hb dX6_writeLine_61 rfl (lv_at hl 1 rfl) ?_
          refine lv_lload_n hx hb dX6_writeLine_62 rfl (lv_at hl 0 rfl) ?_
          refine lv_lconst (v := 0) hx hb dX6_writeLine_63 (by decide) ?_
          refine x_cut (pc := 86) (ls := ls) (st := [.int (if v8 ≤ (0 : Int64) then (if (0 : Int64) ≤ v8 then (61 : Int32) else (45 : Int32)) else (43 : Int32)), .ref (uq 0)]) ?_ (fun hj => ?_)
          · obtain ⟨v11, h11, hf⟩ := ob hf
            refine x_mR (ws' := wM E uq v11) (As := [.int (if v8 ≤ (0 : Int64) then (if (0 : Int64) ≤ v8 then (61 : Int32) else (45 : Int32)) else (43 : Int32))]) (rest := []) S hK (kX6_write l E uq v3 (if v8 ≤ (0 : Int64) then (if (0 : Int64) ≤ v8 then (61 : Int32) else (45 : Int32)) else (43 : Int32)) h11) (cwV 1 hts gX6_writeLine_X6_write rfl rfl rfl (by decide +kernel) ⟨Nat.le_of_ble_eq_true rfl, Nat.le_of_ble_eq_true rfl⟩) hP hD hS 0 14 rfl rfl 0 rfl rfl rfl rfl hl.1 (Nat.le_of_ble_eq_true rfl) dX6_writeLine_86 rfl ⟨Nat.zero_le _, Nat.zero_le _⟩ rfl (fun H locs hP hD hS => ?_)
            obtain rfl := Option.some.inj hf
            exact hj _ _ ls ⟨hP, hD, hS, lv_sub hl [1, 2] rfl⟩
          · refine x_lif_le (tgt := 73) hx hb dX6_writeLine_64 dX6_writeLine_65 (by decide) (fun c9 => ?_) (fun c9 => ?_)
            · refine lv_lload_n hx hb dX6_writeLine_73 rfl (lv_at hl 0 rfl) ?_
              refine lv_lconst (v := 0) hx hb dX6_writeLine_74 (by decide) ?_
              refine x_lif_ge (tgt := 84) hx hb dX6_writeLine_75 dX6_writeLine_76 (by decide) (fun c10 => ?_) (fun c10 => ?_)
              · refine lv_bipush (v := 61) hx hb dX6_writeLine_84 (by decide) ?_
                exact (by rw [if_pos c9, if_pos c10] at hj; exact hj)
              · refine lv_bipush (v := 45) hx hb dX6_writeLine_79 (by decide) ?_
                refine lv_goto (tgt := 86) hx hb dX6_writeLine_81 (by decide) ?_
                exact (by rw [if_pos c9, if_neg c10] at hj; exact hj)
            · refine lv_bipush (v := 43) hx hb dX6_writeLine_68 (by decide) ?_
              refine lv_goto (tgt := 86) hx hb dX6_writeLine_70 (by decide) ?_
              exact (by rw [if_neg c9] at hj; exact hj)
def fX6_writeLine (mo : Mo) : Option Mo :=
  (fX6_solve mo).bind fun v1 =>
  (lp (gX6_writeLine_11) 1000 ((0 : Int32), (Mo_set_signed v1 (0 : Int32)))).bind fun v2 =>
  (fX6_write v2.2 (58 : Int32)).bind fun v3 =>
  (fX6_wide v3).bind fun v4 =>
  (fX6_above v4 ((8 : Int64) * (Mo_whole v3))).bind fun v5 =>
  (fX6_writeNumber v3 v5).bind fun v6 =>
  (fX6_write v6 (47 : Int32)).bind fun v7 =>
  (fX6_wide v7).bind fun v8 =>
  (fX6_below v8 ((8 : Int64) * (Mo_whole v7))).bind fun v9 =>
  (fX6_writeNumber v7 v9).bind fun v10 =>
  some v10
set_option maxHeartbeats 4000000 in
set_option maxRecDepth 100000 in
theorem kX6_writeLine (l : Launch) (E : xG) (uq : Nat → Nat) (mo : Mo) {r : Mo} (hf : fX6_writeLine mo = some r) : xMut l yX6_writeLine wsX6_writeLine rmX6_writeLine E [.ref (uq 0)] (wM E uq mo) none (wM E uq r) := by
  refine Met.ofW (cc := cX6_writeLine) (maxL := 4) (ret := none) (by decide) rfl ?_
  intro p e s m args below meth c s₁ B hml hv
  obtain ⟨rfl, hP, hK, hD0⟩ := hv
  have hx := B.exec
  have hb := B.bytes
  have hr := B.returns
  have hts := atoms_spec (ws := wsX6_writeLine) B.pre
  have hown : s.vm.findClass RX6 = some m.cls := findClass_of_methodNamed B.named
  have hlk := B.notSynchronized
  have S : CallFix p m c cX6_writeLine 4 s _ wsX6_writeLine RX6 := ⟨hx, hb, hml, hown, hts⟩
  have hl := lv_entry ([.ref (uq 0)]) (n := 4) (Nat.le_of_ble_eq_true rfl)
  rw [lg_entry_eq]
  generalize (lg_sl ([.ref (uq 0)]) ++ List.replicate (4 - (lg_sl ([.ref (uq 0)])).length) Slot.unset).toArray = ls at hl ⊢
  have hl : lv_has ls 4 [(0, .ref (uq 0))] := hl
  have hD := xA.self hD0
  have hS : va_S (xA (wM E uq mo)) s.heap s.heap [] := va_S.rf
  show W p l e rmX6_writeLine s m _ below meth c s.heap [] 0 0 _ _
  generalize hA : xA (wM E uq mo) = A at hD hS ⊢
  unfold fX6_writeLine at hf
  refine lv_aload_n hx hb dX6_writeLine_0 rfl (lv_at hl 0 rfl) ?_
  obtain ⟨v1, h1, hf⟩ := ob hf
  refine x_mR (ws' := wM E uq v1) (As := []) (rest := []) S hK (kX6_solve l E uq mo h1) (cwV 0 hts gX6_writeLine_X6_solve rfl rfl rfl (by decide +kernel) ⟨Nat.le_of_ble_eq_true rfl, Nat.le_of_ble_eq_true rfl⟩) hP hD hS 0 14 rfl rfl 0 rfl rfl rfl rfl hl.1 (Nat.le_of_ble_eq_true rfl) dX6_writeLine_1 rfl ⟨Nat.zero_le _, Nat.zero_le _⟩ rfl (fun H locs hP hD hS => ?_)
  refine lv_aload_n hx hb dX6_writeLine_4 rfl (lv_at hl 0 rfl) ?_
  refine lv_iconst (v := 0) hx hb dX6_writeLine_5 (by decide) ?_
  refine x_putf hx hb hts inX6_writeLine_6 tyX6_ok nmX6 hown hK hP hD hS 0 rfl rfl 12 (by decide) mX6_writeLine_0 rfl (vp_nar_int _) rfl (Nat.le_of_ble_eq_true rfl) dX6_writeLine_6 (fun H locs hP hD hS => ?_)
  have hP : va_P (xD E) vwCl (wM E uq (Mo_set_signed v1 (0 : Int32))) H := hP
  have hD : va_D A (wM E uq (Mo_set_signed v1 (0 : Int32))) := hD
  refine lv_iconst (v := 0) hx hb dX6_writeLine_9 (by decide) ?_
  refine lv_istore_n (lv' := [(1, .int (0 : Int32)), (0, .ref (uq 0))]) hx hb dX6_writeLine_10 rfl hl (by decide) rfl (fun ls hl => ?_)
  obtain ⟨v2, h2, hf⟩ := ob hf
  refine wX6_writeLine_11 S E hK uq _ _ 1000 _ _ h2 _ _ hP hD hS ls (lv_sub hl [1, 0] rfl) (fun H locs hP hD hS ls hl => ?_)
  refine lv_aload_n hx hb dX6_writeLine_95 rfl (lv_at hl 0 rfl) ?_
  refine lv_bipush (v := 58) hx hb dX6_writeLine_96 (by decide) ?_
  obtain ⟨v3, h3, hf⟩ := ob hf
  refine x_mR (ws' := wM E uq v3) (As := [.int (58 : Int32)]) (rest := []) S hK (kX6_write l E uq v2.2 (58 : Int32) h3) (cwV 1 hts gX6_writeLine_X6_write rfl rfl rfl (by decide +kernel) ⟨Nat.le_of_ble_eq_true rfl, Nat.le_of_ble_eq_true rfl⟩) hP hD hS 0 14 rfl rfl 0 rfl rfl rfl rfl hl.1 (Nat.le_of_ble_eq_true rfl) dX6_writeLine_98 rfl ⟨Nat.zero_le _, Nat.zero_le _⟩ rfl (fun H locs hP hD hS => ?_)
  refine lv_aload_n hx hb dX6_writeLine_101 rfl (lv_at hl 0 rfl) ?_
  refine lv_aload_n hx hb dX6_writeLine_102 rfl (lv_at hl 0 rfl) ?_
  obtain ⟨v4, h4, hf⟩ := ob hf
  refine x_pV (As := []) (rest := [.ref (uq 0)]) S hK (kX6_wide l E uq v3 h4) (cwV 0 hts gX6_writeLine_X6_wide rfl rfl rfl (by decide +kernel) ⟨Nat.le_of_ble_eq_true rfl, Nat.le_of_ble_eq_true rfl⟩) hP 0 rfl rfl rfl rfl hl.1 (Nat.le_of_ble_eq_true rfl) dX6_writeLine_103 rfl ⟨Nat.zero_le _, Nat.zero_le _⟩ ?_
  refine lv_ldc2 hx hb hown (hts _ mX6_writeLine_3) dX6_writeLine_106 ?_
  refine lv_aload_n hx hb dX6_writeLine_109 rfl (lv_at hl 0 rfl) ?_
  refine x_get hx hb hts inX6_writeLine_6 hown hK hP 0 rfl rfl 5 (by decide) mX6_writeLine_4 rfl dX6_writeLine_110 ?_
  refine lv_lmul hx hb dX6_writeLine_113 ?_
  obtain ⟨v5, h5, hf⟩ := ob hf
  refine x_pS (As := [.long v4, .long ((8 : Int64) * (Mo_whole v3))]) (rest := [.ref (uq 0)]) S hK (kX6_above l E v4 ((8 : Int64) * (Mo_whole v3)) h5) (va_cwS 2 hts gX6_writeLine_X6_above rfl rfl rfl (by decide +kernel) ⟨Nat.le_of_ble_eq_true rfl, Nat.le_of_ble_eq_true rfl⟩) x_nil rfl hl.1 (Nat.le_of_ble_eq_true rfl) dX6_writeLine_114 rfl ⟨Nat.zero_le _, Nat.zero_le _⟩ ?_
  obtain ⟨v6, h6, hf⟩ := ob hf
  refine x_mR (ws' := wM E uq v6) (As := [.long v5]) (rest := []) S hK (kX6_writeNumber l E uq v3 v5 h6) (cwV 1 hts gX6_writeLine_X6_writeNumber rfl rfl rfl (by decide +kernel) ⟨Nat.le_of_ble_eq_true rfl, Nat.le_of_ble_eq_true rfl⟩) hP hD hS 0 14 rfl rfl 0 rfl rfl rfl rfl hl.1 (Nat.le_of_ble_eq_true rfl) dX6_writeLine_117 rfl ⟨Nat.zero_le _, Nat.zero_le _⟩ rfl (fun H locs hP hD hS => ?_)
  refine lv_aload_n hx hb dX6_writeLine_120 rfl (lv_at hl 0 rfl) ?_
  refine lv_bipush (v := 47) hx hb dX6_writeLine_121 (by decide) ?_
  obtain ⟨v7, h7, hf⟩ := ob hf
  refine x_mR (ws' := wM E uq v7) (As := [.int (47 : Int32)]) (rest := []) S hK (kX6_write l E uq v6 (47 : Int32) h7) (cwV 1 hts gX6_writeLine_X6_write rfl rfl rfl (by decide +kernel) ⟨Nat.le_of_ble_eq_true rfl, Nat.le_of_ble_eq_true rfl⟩) hP hD hS 0 14 rfl rfl 0 rfl rfl rfl rfl hl.1 (Nat.le_of_ble_eq_true rfl) dX6_writeLine_123 rfl ⟨Nat.zero_le _, Nat.zero_le _⟩ rfl (fun H locs hP hD hS => ?_)
  refine lv_aload_n hx hb dX6_writeLine_126 rfl (lv_at hl 0 rfl) ?_
  refine lv_aload_n hx hb dX6_writeLine_127 rfl (lv_at hl 0 rfl) ?_
  obtain ⟨v8, h8, hf⟩ := ob hf
  refine x_pV (As := []) (rest := [.ref (uq 0)]) S hK (kX6_wide l E uq v7 h8) (cwV 0 hts gX6_writeLine_X6_wide rfl rfl rfl (by decide +kernel) ⟨Nat.le_of_ble_eq_true rfl, Nat.le_of_ble_eq_true rfl⟩) hP 0 rfl rfl rfl rfl hl.1 (Nat.le_of_ble_eq_true rfl) dX6_writeLine_128 rfl ⟨Nat.zero_le _, Nat.zero_le _⟩ ?_
  refine lv_ldc2 hx hb hown (hts _ mX6_writeLine_3) dX6_writeLine_131 ?_
  refine lv_aload_n hx hb dX6_writeLine_134 rfl (lv_at hl 0 rfl) ?_
  refine x_get hx hb hts inX6_writeLine_6 hown hK hP 0 rfl rfl 5 (by decide) mX6_writeLine_4 rfl dX6_writeLine_135 ?_
  refine lv_lmul hx hb dX6_writeLine_138 ?_
  obtain ⟨v9, h9, hf⟩ := ob hf
  refine x_pS (As := [.long v8, .long ((8 : Int64) * (Mo_whole v7))]) (rest := [.ref (uq 0)]) S hK (kX6_below l E v8 ((8 : Int64) * (Mo_whole v7)) h9) (va_cwS 2 hts gX6_writeLine_X6_below rfl rfl rfl (by decide +kernel) ⟨Nat.le_of_ble_eq_true rfl, Nat.le_of_ble_eq_true rfl⟩) x_nil rfl hl.1 (Nat.le_of_ble_eq_true rfl) dX6_writeLine_139 rfl ⟨Nat.zero_le _, Nat.zero_le _⟩ ?_
  obtain ⟨v10, h10, hf⟩ := ob hf
  refine x_mR (ws' := wM E uq v10) (As := [.long v9]) (rest := []) S hK (kX6_writeNumber l E uq v7 v9 h10) (cwV 1 hts gX6_writeLine_X6_writeNumber rfl rfl rfl (by decide +kernel) ⟨Nat.le_of_ble_eq_true rfl, Nat.le_of_ble_eq_true rfl⟩) hP hD hS 0 14 rfl rfl 0 rfl rfl rfl rfl hl.1 (Nat.le_of_ble_eq_true rfl) dX6_writeLine_142 rfl ⟨Nat.zero_le _, Nat.zero_le _⟩ rfl (fun H locs hP hD hS => ?_)
  obtain rfl := Option.some.inj hf
  subst hA
  exact x_vretM hx hb hr hlk hP hS dX6_writeLine_145
abbrev rmX6_told : Room := { frames := 6, cells := 0, slots := 0, locals := 152 }
theorem mX6_told_0 : Cond.constantLong RX6 185 (-1000000002) ∈ wsX6_told := by decide +kernel
theorem mX6_told_1 : Cond.fieldLink RX6 7 "EvenWhiteModel" "now" "[I" ∈ wsX6_told := by decide +kernel
theorem mX6_told_2 : Cond.fieldLink RX6 112 "EvenWhiteModel" "whole" "J" ∈ wsX6_told := by decide +kernel
theorem mX6_told_3 : Cond.fieldLink RX6 51 "EvenWhiteModel" "lined" "I" ∈ wsX6_told := by decide +kernel
theorem mX6_told_4 : Cond.constantLong RX6 125 (8) ∈ wsX6_told := by decide +kernel
theorem mX6_told_5 : Cond.fieldLink RX6 137 "EvenWhiteModel" "signed" "I" ∈ wsX6_told := by decide +kernel
theorem mX6_told_6 : Cond.fieldLink RX6 182 "EvenWhiteModel" "undos" "I" ∈ wsX6_told := by decide +kernel
theorem inX6_told_6 : ∀ w ∈ u_ws RX6 TX6 17, w ∈ wsX6_told := by decide +kernel
def fX6_told (mo : Mo) (x1 : Int32) : Option (Int64 × Mo) :=
  (fX6_solve mo).bind fun v1 =>
  (fX6_writeLine v1).bind fun v2 =>
  (if x1 = (0 : Int32) then
  (rdI (Mo_now v2) 63 (60 : Int32)).bind fun v17 =>
  some ((Int32.toInt64 v17), v2)
  else (if x1 = (1 : Int32) then
  (rdI (Mo_now v2) 63 (61 : Int32)).bind fun v18 =>
  some ((Int32.toInt64 v18), v2)
  else (if x1 = (2 : Int32) then
  (rdI (Mo_now v2) 63 (62 : Int32)).bind fun v19 =>
  some ((Int32.toInt64 v19), v2)
  else (if x1 = (3 : Int32) then
  (fX6_weighted v2).bind fun v20 =>
  some ((Int32.toInt64 v20), v2)
  else (if x1 = (4 : Int32) then
  (fX6_worst v2).bind fun v21 =>
  some ((Int32.toInt64 v21), v2)
  else (if x1 = (5 : Int32) then
  (fX6_squares v2).bind fun v22 =>
  (fX6_above v22 ((Mo_whole v2) * (Mo_whole v2))).bind fun v23 =>
  some (v23, v2)
  else (if x1 = (6 : Int32) then
  (fX6_squares v2).bind fun v24 =>
  (fX6_below v24 ((Mo_whole v2) * (Mo_whole v2))).bind fun v25 =>
  some (v25, v2)
  else (if x1 = (7 : Int32) then
  (fX6_openOnes v2).bind fun v26 =>
  some ((Int32.toInt64 v26), v2)
  else (if x1 = (8 : Int32) then
  some ((Int32.toInt64 (Mo_lined v2)), v2)
  else (if x1 = (9 : Int32) then
  (fX6_wide v2).bind fun v27 =>
  (fX6_above v27 ((8 : Int64) * (Mo_whole v2))).bind fun v28 =>
  some (v28, v2)
  else (if x1 = (10 : Int32) then
  (fX6_wide v2).bind fun v29 =>
  (fX6_below v29 ((8 : Int64) * (Mo_whole v2))).bind fun v30 =>
  some (v30, v2)
  else (if x1 = (11 : Int32) then
  (fX6_thin v2).bind fun v31 =>
  some ((Int32.toInt64 v31), v2)
  else (if x1 = (12 : Int32) then
  some ((Int32.toInt64 (Mo_signed v2)), v2)
  else (if x1 = (13 : Int32) then
  some ((Int32.toInt64 (Mo_undos v2)), v2)
  else some ((-1000000002 : Int64), v2)))))))))))))))
set_option maxHeartbeats 4000000 in
set_option maxRecDepth 100000 in
theorem kX6_told (l : Launch) (E : xG) (uq : Nat → Nat) (mo : Mo) (x1 : Int32) {r : (Int64 × Mo)} (hf : fX6_told mo x1 = some r) : xMut l yX6_told wsX6_told rmX6_told E [.ref (uq 0), .int x1] (wM E uq mo) (some (.long r.1)) (wM E uq r.2) := by
  refine Met.ofW (cc := cX6_told) (maxL := 2) (ret := (some .long)) (by decide) rfl ?_
  intro p e s m args below meth c s₁ B hml hv
  obtain ⟨rfl, hP, hK, hD0⟩ := hv
  have hx := B.exec
  have hb := B.bytes
  have hr := B.returns
  have hts := atoms_spec (ws := wsX6_told) B.pre
  have hown : s.vm.findClass RX6 = some m.cls := findClass_of_methodNamed B.named
  have hlk := B.notSynchronized
  have S : CallFix p m c cX6_told 2 s _ wsX6_told RX6 := ⟨hx, hb, hml, hown, hts⟩
  have hl := lv_entry ([.ref (uq 0), .int x1]) (n := 2) (Nat.le_of_ble_eq_true rfl)
  rw [lg_entry_eq]
  generalize (lg_sl ([.ref (uq 0), .int x1]) ++ List.replicate (2 - (lg_sl ([.ref (uq 0), .int x1])).length) Slot.unset).toArray = ls at hl ⊢
  have hl : lv_has ls 2 [(0, .ref (uq 0)), (1, .int x1)] := hl
  have hD := xA.self hD0
  have hS : va_S (xA (wM E uq mo)) s.heap s.heap [] := va_S.rf
  show W p l e rmX6_told s m _ below meth c s.heap [] 0 0 _ _
  generalize hA : xA (wM E uq mo) = A at hD hS ⊢
  unfold fX6_told at hf
  refine lv_aload_n hx hb dX6_told_0 rfl (lv_at hl 0 rfl) ?_
  obtain ⟨v1, h1, hf⟩ := ob hf
  refine x_mR (ws' := wM E uq v1) (As := []) (rest := []) S hK (kX6_solve l E uq mo h1) (cwV 0 hts gX6_told_X6_solve rfl rfl rfl (by decide +kernel) ⟨Nat.le_of_ble_eq_true rfl, Nat.le_of_ble_eq_true rfl⟩) hP hD hS 0 14 rfl rfl 0 rfl rfl rfl rfl hl.1 (Nat.le_of_ble_eq_true rfl) dX6_told_1 rfl ⟨Nat.zero_le _, Nat.zero_le _⟩ rfl (fun H locs hP hD hS => ?_)
  refine lv_aload_n hx hb dX6_told_4 rfl (lv_at hl 0 rfl) ?_
  obtain ⟨v2, h2, hf⟩ := ob hf
  refine x_mR (ws' := wM E uq v2) (As := []) (rest := []) S hK (kX6_writeLine l E uq v1 h2) (cwV 0 hts gX6_told_X6_writeLine rfl rfl rfl (by decide +kernel) ⟨Nat.le_of_ble_eq_true rfl, Nat.le_of_ble_eq_true rfl⟩) hP hD hS 0 14 rfl rfl 0 rfl rfl rfl rfl hl.1 (Nat.le_of_ble_eq_true rfl) dX6_told_5 rfl ⟨Nat.zero_le _, Nat.zero_le _⟩ rfl (fun H locs hP hD hS => ?_)
  refine lv_iload_n hx hb dX6_told_8 rfl (lv_at hl 1 rfl) ?_
  by_cases c3 : x1 = (0 : Int32)
  · have hf := (if_pos c3).symm.trans hf
    refine lv_tableIn (tgt := 80) hx hb dX6_told_9 (by rw [c3]; decide) (by rw [c3]; decide) (by rw [c3]; rfl) (by decide) ?_
    refine lv_aload_n hx hb dX6_told_80 rfl (lv_at hl 0 rfl) ?_
    refine x_get hx hb hts inX6_told_6 hown hK hP 0 rfl rfl 0 (by decide) mX6_told_1 rfl dX6_told_81 ?_
    refine lv_bipush (v := 60) hx hb dX6_told_84 (by decide) ?_
    obtain ⟨v17, h17, hf⟩ := ob hf
    refine x_iald hx hb hK hP 1 rfl h17 dX6_told_86 ?_
    refine lv_i2l (v := (Int32.toInt64 v17)) hx hb dX6_told_87 rfl ?_
    obtain rfl := Option.some.inj hf
    subst hA
    exact x_lretM hx hb hr hlk hP hS dX6_told_88
  have hf := (if_neg c3).symm.trans hf
  by_cases c4 : x1 = (1 : Int32)
  · have hf := (if_pos c4).symm.trans hf
    refine lv_tableIn (tgt := 89) hx hb dX6_told_9 (by rw [c4]; decide) (by rw [c4]; decide) (by rw [c4]; rfl) (by decide) ?_
    refine lv_aload_n hx hb dX6_told_89 rfl (lv_at hl 0 rfl) ?_
    refine x_get hx hb hts inX6_told_6 hown hK hP 0 rfl rfl 0 (by decide) mX6_told_1 rfl dX6_told_90 ?_
    refine lv_bipush (v := 61) hx hb dX6_told_93 (by decide) ?_
    obtain ⟨v18, h18, hf⟩ := ob hf
    refine x_iald hx hb hK hP 1 rfl h18 dX6_told_95 ?_
    refine lv_i2l (v := (Int32.toInt64 v18)) hx hb dX6_told_96 rfl ?_
    obtain rfl := Option.some.inj hf
    subst hA
    exact x_lretM hx hb hr hlk hP hS dX6_told_97
  have hf := (if_neg c4).symm.trans hf
  by_cases c5 : x1 = (2 : Int32)
  · have hf := (if_pos c5).symm.trans hf
    refine lv_tableIn (tgt := 98) hx hb dX6_told_9 (by rw [c5]; decide) (by rw [c5]; decide) (by rw [c5]; rfl) (by decide) ?_
    refine lv_aload_n hx hb dX6_told_98 rfl (lv_at hl 0 rfl) ?_
    refine x_get hx hb hts inX6_told_6 hown hK hP 0 rfl rfl 0 (by decide) mX6_told_1 rfl dX6_told_99 ?_
    refine lv_bipush (v := 62) hx hb dX6_told_102 (by decide) ?_
    obtain ⟨v19, h19, hf⟩ := ob hf
    refine x_iald hx hb hK hP 1 rfl h19 dX6_told_104 ?_
    refine lv_i2l (v := (Int32.toInt64 v19)) hx hb dX6_told_105 rfl ?_
    obtain rfl := Option.some.inj hf
    subst hA
    exact x_lretM hx hb hr hlk hP hS dX6_told_106
  have hf := (if_neg c5).symm.trans hf
  by_cases c6 : x1 = (3 : Int32)
  · have hf := (if_pos c6).symm.trans hf
    refine lv_tableIn (tgt := 107) hx hb dX6_told_9 (by rw [c6]; decide) (by rw [c6]; decide) (by rw [c6]; rfl) (by decide) ?_
    refine lv_aload_n hx hb dX6_told_107 rfl (lv_at hl 0 rfl) ?_
    obtain ⟨v20, h20, hf⟩ := ob hf
    refine x_pV (As := []) (rest := []) S hK (kX6_weighted l E uq v2 h20) (cwV 0 hts gX6_told_X6_weighted rfl rfl rfl (by decide +kernel) ⟨Nat.le_of_ble_eq_true rfl, Nat.le_of_ble_eq_true rfl⟩) hP 0 rfl rfl rfl rfl hl.1 (Nat.le_of_ble_eq_true rfl) dX6_told_108 rfl ⟨Nat.zero_le _, Nat.zero_le _⟩ ?_
    refine lv_i2l (v := (Int32.toInt64 v20)) hx hb dX6_told_111 rfl ?_
    obtain rfl := Option.some.inj hf
    subst hA
    exact x_lretM hx hb hr hlk hP hS dX6_told_112
  have hf := (if_neg c6).symm.trans hf
  by_cases c7 : x1 = (4 : Int32)
  · have hf := (if_pos c7).symm.trans hf
    refine lv_tableIn (tgt := 113) hx hb dX6_told_9 (by rw [c7]; decide) (by rw [c7]; decide) (by rw [c7]; rfl) (by decide) ?_
    refine lv_aload_n hx hb dX6_told_113 rfl (lv_at hl 0 rfl) ?_
    obtain ⟨v21, h21, hf⟩ := ob hf
    refine x_pV (As := []) (rest := []) S hK (kX6_worst l E uq v2 h21) (cwV 0 hts gX6_told_X6_worst rfl rfl rfl (by decide +kernel) ⟨Nat.le_of_ble_eq_true rfl, Nat.le_of_ble_eq_true rfl⟩) hP 0 rfl rfl rfl rfl hl.1 (Nat.le_of_ble_eq_true rfl) dX6_told_114 rfl ⟨Nat.zero_le _, Nat.zero_le _⟩ ?_
    refine lv_i2l (v := (Int32.toInt64 v21)) hx hb dX6_told_117 rfl ?_
    obtain rfl := Option.some.inj hf
    subst hA
    exact x_lretM hx hb hr hlk hP hS dX6_told_118
  have hf := (if_neg c7).symm.trans hf
  by_cases c8 : x1 = (5 : Int32)
  · have hf := (if_pos c8).symm.trans hf
    refine lv_tableIn (tgt := 119) hx hb dX6_told_9 (by rw [c8]; decide) (by rw [c8]; decide) (by rw [c8]; rfl) (by decide) ?_
    refine lv_aload_n hx hb dX6_told_119 rfl (lv_at hl 0 rfl) ?_
    obtain ⟨v22, h22, hf⟩ := ob hf
    refine x_pV (As := []) (rest := []) S hK (kX6_squares l E uq v2 h22) (cwV 0 hts gX6_told_X6_squares rfl rfl rfl (by decide +kernel) ⟨Nat.le_of_ble_eq_true rfl, Nat.le_of_ble_eq_true rfl⟩) hP 0 rfl rfl rfl rfl hl.1 (Nat.le_of_ble_eq_true rfl) dX6_told_120 rfl ⟨Nat.zero_le _, Nat.zero_le _⟩ ?_
    refine lv_aload_n hx hb dX6_told_123 rfl (lv_at hl 0 rfl) ?_
    refine x_get hx hb hts inX6_told_6 hown hK hP 0 rfl rfl 5 (by decide) mX6_told_2 rfl dX6_told_124 ?_
    refine lv_aload_n hx hb dX6_told_127 rfl (lv_at hl 0 rfl) ?_
    refine x_get hx hb hts inX6_told_6 hown hK hP 0 rfl rfl 5 (by decide) mX6_told_2 rfl dX6_told_128 ?_
    refine lv_lmul hx hb dX6_told_131 ?_
    obtain ⟨v23, h23, hf⟩ := ob hf
    refine x_pS (As := [.long v22, .long ((Mo_whole v2) * (Mo_whole v2))]) (rest := []) S hK (kX6_above l E v22 ((Mo_whole v2) * (Mo_whole v2)) h23) (va_cwS 2 hts gX6_told_X6_above rfl rfl rfl (by decide +kernel) ⟨Nat.le_of_ble_eq_true rfl, Nat.le_of_ble_eq_true rfl⟩) x_nil rfl hl.1 (Nat.le_of_ble_eq_true rfl) dX6_told_132 rfl ⟨Nat.zero_le _, Nat.zero_le _⟩ ?_
    obtain rfl := Option.some.inj hf
    subst hA
    exact x_lretM hx hb hr hlk hP hS dX6_told_135
  have hf := (if_neg c8).symm.trans hf
  by_cases c9 : x1 = (6 : Int32)
  · have hf := (if_pos c9).symm.trans hf
    refine lv_tableIn (tgt := 136) hx hb dX6_told_9 (by rw [c9]; decide) (by rw [c9]; decide) (by rw [c9]; rfl) (by decide) ?_
    refine lv_aload_n hx hb dX6_told_136 rfl (lv_at hl 0 rfl) ?_
    obtain ⟨v24, h24, hf⟩ := ob hf
    refine x_pV (As := []) (rest := []) S hK (kX6_squares l E uq v2 h24) (cwV 0 hts gX6_told_X6_squares rfl rfl rfl (by decide +kernel) ⟨Nat.le_of_ble_eq_true rfl, Nat.le_of_ble_eq_true rfl⟩) hP 0 rfl rfl rfl rfl hl.1 (Nat.le_of_ble_eq_true rfl) dX6_told_137 rfl ⟨Nat.zero_le _, Nat.zero_le _⟩ ?_
    refine lv_aload_n hx hb dX6_told_140 rfl (lv_at hl 0 rfl) ?_
    refine x_get hx hb hts inX6_told_6 hown hK hP 0 rfl rfl 5 (by decide) mX6_told_2 rfl dX6_told_141 ?_
    refine lv_aload_n hx hb dX6_told_144 rfl (lv_at hl 0 rfl) ?_
    refine x_get hx hb hts inX6_told_6 hown hK hP 0 rfl rfl 5 (by decide) mX6_told_2 rfl dX6_told_145 ?_
    refine lv_lmul hx hb dX6_told_148 ?_
    obtain ⟨v25, h25, hf⟩ := ob hf
    refine x_pS (As := [.long v24, .long ((Mo_whole v2) * (Mo_whole v2))]) (rest := []) S hK (kX6_below l E v24 ((Mo_whole v2) * (Mo_whole v2)) h25) (va_cwS 2 hts gX6_told_X6_below rfl rfl rfl (by decide +kernel) ⟨Nat.le_of_ble_eq_true rfl, Nat.le_of_ble_eq_true rfl⟩) x_nil rfl hl.1 (Nat.le_of_ble_eq_true rfl) dX6_told_149 rfl ⟨Nat.zero_le _, Nat.zero_le _⟩ ?_
    obtain rfl := Option.some.inj hf
    subst hA
    exact x_lretM hx hb hr hlk hP hS dX6_told_152
  have hf := (if_neg c9).symm.trans hf
  by_cases c10 : x1 = (7 : Int32)
  · have hf := (if_pos c10).symm.trans hf
    refine lv_tableIn (tgt := 153) hx hb dX6_told_9 (by rw [c10]; decide) (by rw [c10]; decide) (by rw [c10]; rfl) (by decide) ?_
    refine lv_aload_n hx hb dX6_told_153 rfl (lv_at hl 0 rfl) ?_
    obtain ⟨v26, h26, hf⟩ := ob hf
    refine x_pV (As := []) (rest := []) S hK (kX6_openOnes l E uq v2 h26) (cwV 0 hts gX6_told_X6_openOnes rfl rfl rfl (by decide +kernel) ⟨Nat.le_of_ble_eq_true rfl, Nat.le_of_ble_eq_true rfl⟩) hP 0 rfl rfl rfl rfl hl.1 (Nat.le_of_ble_eq_true rfl) dX6_told_154 rfl ⟨Nat.zero_le _, Nat.zero_le _⟩ ?_
    refine lv_i2l (v := (Int32.toInt64 v26)) hx hb dX6_told_157 rfl ?_
    obtain rfl := Option.some.inj hf
    subst hA
    exact x_lretM hx hb hr hlk hP hS dX6_told_158
  have hf := (if_neg c10).symm.trans hf
  by_cases c11 : x1 = (8 : Int32)
  · have hf := (if_pos c11).symm.trans hf
    refine lv_tableIn (tgt := 159) hx hb dX6_told_9 (by rw [c11]; decide) (by rw [c11]; decide) (by rw [c11]; rfl) (by decide) ?_
    refine lv_aload_n hx hb dX6_told_159 rfl (lv_at hl 0 rfl) ?_
    refine x_get hx hb hts inX6_told_6 hown hK hP 0 rfl rfl 1 (by decide) mX6_told_3 rfl dX6_told_160 ?_
    refine lv_i2l (v := (Int32.toInt64 (Mo_lined v2))) hx hb dX6_told_163 rfl ?_
    obtain rfl := Option.some.inj hf
    subst hA
    exact x_lretM hx hb hr hlk hP hS dX6_told_164
  have hf := (if_neg c11).symm.trans hf
  by_cases c12 : x1 = (9 : Int32)
  · have hf := (if_pos c12).symm.trans hf
    refine lv_tableIn (tgt := 165) hx hb dX6_told_9 (by rw [c12]; decide) (by rw [c12]; decide) (by rw [c12]; rfl) (by decide) ?_
    refine lv_aload_n hx hb dX6_told_165 rfl (lv_at hl 0 rfl) ?_
    obtain ⟨v27, h27, hf⟩ := ob hf
    refine x_pV (As := []) (rest := []) S hK (kX6_wide l E uq v2 h27) (cwV 0 hts gX6_told_X6_wide rfl rfl rfl (by decide +kernel) ⟨Nat.le_of_ble_eq_true rfl, Nat.le_of_ble_eq_true rfl⟩) hP 0 rfl rfl rfl rfl hl.1 (Nat.le_of_ble_eq_true rfl) dX6_told_166 rfl ⟨Nat.zero_le _, Nat.zero_le _⟩ ?_
    refine lv_ldc2 hx hb hown (hts _ mX6_told_4) dX6_told_169 ?_
    refine lv_aload_n hx hb dX6_told_172 rfl (lv_at hl 0 rfl) ?_
    refine x_get hx hb hts inX6_told_6 hown hK hP 0 rfl rfl 5 (by decide) mX6_told_2 rfl dX6_told_173 ?_
    refine lv_lmul hx hb dX6_told_176 ?_
    obtain ⟨v28, h28, hf⟩ := ob hf
    refine x_pS (As := [.long v27, .long ((8 : Int64) * (Mo_whole v2))]) (rest := []) S hK (kX6_above l E v27 ((8 : Int64) * (Mo_whole v2)) h28) (va_cwS 2 hts gX6_told_X6_above rfl rfl rfl (by decide +kernel) ⟨Nat.le_of_ble_eq_true rfl, Nat.le_of_ble_eq_true rfl⟩) x_nil rfl hl.1 (Nat.le_of_ble_eq_true rfl) dX6_told_177 rfl ⟨Nat.zero_le _, Nat.zero_le _⟩ ?_
    obtain rfl := Option.some.inj hf
    subst hA
    exact x_lretM hx hb hr hlk hP hS dX6_told_180
  have hf := (if_neg c12).symm.trans hf
  by_cases c13 : x1 = (10 : Int32)
  · have hf := (if_pos c13).symm.trans hf
    refine lv_tableIn (tgt := 181) hx hb dX6_told_9 (by rw [c13]; decide) (by rw [c13]; decide) (by rw [c13]; rfl) (by decide) ?_
    refine lv_aload_n hx hb dX6_told_181 rfl (lv_at hl 0 rfl) ?_
    obtain ⟨v29, h29, hf⟩ := ob hf
    refine x_pV (As := []) (rest := []) S hK (kX6_wide l E uq v2 h29) (cwV 0 hts gX6_told_X6_wide rfl rfl rfl (by decide +kernel) ⟨Nat.le_of_ble_eq_true rfl, Nat.le_of_ble_eq_true rfl⟩) hP 0 rfl rfl rfl rfl hl.1 (Nat.le_of_ble_eq_true rfl) dX6_told_182 rfl ⟨Nat.zero_le _, Nat.zero_le _⟩ ?_
    refine lv_ldc2 hx hb hown (hts _ mX6_told_4) dX6_told_185 ?_
    refine lv_aload_n hx hb dX6_told_188 rfl (lv_at hl 0 rfl) ?_
    refine x_get hx hb hts inX6_told_6 hown hK hP 0 rfl rfl 5 (by decide) mX6_told_2 rfl dX6_told_189 ?_
    refine lv_lmul hx hb dX6_told_192 ?_
    obtain ⟨v30, h30, hf⟩ := ob hf
    refine x_pS (As := [.long v29, .long ((8 : Int64) * (Mo_whole v2))]) (rest := []) S hK (kX6_below l E v29 ((8 : Int64) * (Mo_whole v2)) h30) (va_cwS 2 hts gX6_told_X6_below rfl rfl rfl (by decide +kernel) ⟨Nat.le_of_ble_eq_true rfl, Nat.le_of_ble_eq_true rfl⟩) x_nil rfl hl.1 (Nat.le_of_ble_eq_true rfl) dX6_told_193 rfl ⟨Nat.zero_le _, Nat.zero_le _⟩ ?_
    obtain rfl := Option.some.inj hf
    subst hA
    exact x_lretM hx hb hr hlk hP hS dX6_told_196
  have hf := (if_neg c13).symm.trans hf
  by_cases c14 : x1 = (11 : Int32)
  · have hf := (if_pos c14).symm.trans hf
    refine lv_tableIn (tgt := 197) hx hb dX6_told_9 (by rw [c14]; decide) (by rw [c14]; decide) (by rw [c14]; rfl) (by decide) ?_
    refine lv_aload_n hx hb dX6_told_197 rfl (lv_at hl 0 rfl) ?_
    obtain ⟨v31, h31, hf⟩ := ob hf
    refine x_pV (As := []) (rest := []) S hK (kX6_thin l E uq v2 h31) (cwV 0 hts gX6_told_X6_thin rfl rfl rfl (by decide +kernel) ⟨Nat.le_of_ble_eq_true rfl, Nat.le_of_ble_eq_true rfl⟩) hP 0 rfl rfl rfl rfl hl.1 (Nat.le_of_ble_eq_true rfl) dX6_told_198 rfl ⟨Nat.zero_le _, Nat.zero_le _⟩ ?_
    refine lv_i2l (v := (Int32.toInt64 v31)) hx hb dX6_told_201 rfl ?_
    obtain rfl := Option.some.inj hf
    subst hA
    exact x_lretM hx hb hr hlk hP hS dX6_told_202
  have hf := (if_neg c14).symm.trans hf
  by_cases c15 : x1 = (12 : Int32)
  · have hf := (if_pos c15).symm.trans hf
    refine lv_tableIn (tgt := 203) hx hb dX6_told_9 (by rw [c15]; decide) (by rw [c15]; decide) (by rw [c15]; rfl) (by decide) ?_
    refine lv_aload_n hx hb dX6_told_203 rfl (lv_at hl 0 rfl) ?_
    refine x_get hx hb hts inX6_told_6 hown hK hP 0 rfl rfl 12 (by decide) mX6_told_5 rfl dX6_told_204 ?_
    refine lv_i2l (v := (Int32.toInt64 (Mo_signed v2))) hx hb dX6_told_207 rfl ?_
    obtain rfl := Option.some.inj hf
    subst hA
    exact x_lretM hx hb hr hlk hP hS dX6_told_208
  have hf := (if_neg c15).symm.trans hf
  by_cases c16 : x1 = (13 : Int32)
  · have hf := (if_pos c16).symm.trans hf
    refine lv_tableIn (tgt := 209) hx hb dX6_told_9 (by rw [c16]; decide) (by rw [c16]; decide) (by rw [c16]; rfl) (by decide) ?_
    refine lv_aload_n hx hb dX6_told_209 rfl (lv_at hl 0 rfl) ?_
    refine x_get hx hb hts inX6_told_6 hown hK hP 0 rfl rfl 13 (by decide) mX6_told_6 rfl dX6_told_210 ?_
    refine lv_i2l (v := (Int32.toInt64 (Mo_undos v2))) hx hb dX6_told_213 rfl ?_
    obtain rfl := Option.some.inj hf
    subst hA
    exact x_lretM hx hb hr hlk hP hS dX6_told_214
  have hf := (if_neg c16).symm.trans hf
  refine lv_tableOut (tgt := 215) hx hb dX6_told_9 (x_tab13 c3 c4 c5 c6 c7 c8 c9 c10 c11 c12 c13 c14 c15 c16) (by decide) ?_
  refine lv_ldc2 hx hb hown (hts _ mX6_told_0) dX6_told_215 ?_
  obtain rfl := Option.some.inj hf
  subst hA
  exact x_lretM hx hb hr hlk hP hS dX6_told_218
