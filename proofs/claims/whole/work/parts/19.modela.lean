abbrev rmX6_in : Room := { frames := 0, cells := 0, slots := 0, locals := 0 }
def fX6_in (x0 : Int64) (x2 : Int64) (x4 : Int64) : Option Int32 :=
  ckZ (if x0 < x2 then (0 : Int32) else (if x4 < x0 then (0 : Int32) else (1 : Int32)))
set_option maxHeartbeats 4000000 in
set_option maxRecDepth 100000 in
theorem kX6_in (l : Launch) (E : xG) (x0 : Int64) (x2 : Int64) (x4 : Int64) {r : Int32} (hf : fX6_in x0 x2 x4 = some r) : xPure l yX6_in wsX6_in rmX6_in E [.long x0, .long x2, .long x4] ([]) (.int r) := by
  refine Met.ofW (cc := cX6_in) (maxL := 6) (ret := (some .boolean)) (by decide) rfl ?_
  intro p e s m args below meth c s₁ B hml hv
  obtain ⟨rfl, hP, hK⟩ := hv
  have hx := B.exec
  have hb := B.bytes
  have hr := B.returns
  have hts := atoms_spec (ws := wsX6_in) B.pre
  have hown : s.vm.findClass RX6 = some m.cls := findClass_of_methodNamed B.named
  have hlk := B.notSynchronized
  have S : CallFix p m c cX6_in 6 s _ wsX6_in RX6 := ⟨hx, hb, hml, hown, hts⟩
  have hl := lv_entry ([.long x0, .long x2, .long x4]) (n := 6) (Nat.le_of_ble_eq_true rfl)
  rw [lg_entry_eq]
  generalize (lg_sl ([.long x0, .long x2, .long x4]) ++ List.replicate (6 - (lg_sl ([.long x0, .long x2, .long x4])).length) Slot.unset).toArray = ls at hl ⊢
  have hl : lv_has ls 6 [(0, .long x0), (2, .long x2), (4, .long x4)] := hl
  unfold fX6_in at hf
  refine lv_lload_n hx hb dX6_in_0 rfl (lv_at hl 0 rfl) ?_
  refine lv_lload_n hx hb dX6_in_1 rfl (lv_at hl 1 rfl) ?_
  refine x_cut (pc := 18) (ls := ls) (st := [.int (if x0 < x2 then (0 : Int32) else (if x4 < x0 then (0 : Int32) else (1 : Int32)))]) ?_ (fun hj => ?_)
  · obtain ⟨hn, rfl⟩ := ckZ_ok hf
    exact x_iret hx hb hr hlk hn dX6_in_18
  · refine x_lif_lt (tgt := 17) hx hb dX6_in_2 dX6_in_3 (by decide) (fun c1 => ?_) (fun c1 => ?_)
    · refine lv_iconst (v := 0) hx hb dX6_in_17 (by decide) ?_
      exact (by rw [if_pos c1] at hj; exact hj)
    · refine lv_lload_n hx hb dX6_in_6 rfl (lv_at hl 0 rfl) ?_
      refine lv_lload hx hb dX6_in_7 (lv_at hl 2 rfl) ?_
      refine x_lif_gt (tgt := 17) hx hb dX6_in_9 dX6_in_10 (by decide) (fun c2 => ?_) (fun c2 => ?_)
      · refine lv_iconst (v := 0) hx hb dX6_in_17 (by decide) ?_
        exact (by rw [if_neg c1, if_pos c2] at hj; exact hj)
      · refine lv_iconst (v := 1) hx hb dX6_in_13 (by decide) ?_
        refine lv_goto (tgt := 18) hx hb dX6_in_14 (by decide) ?_
        exact (by rw [if_neg c1, if_neg c2] at hj; exact hj)
abbrev rmX6_isHeight : Room := { frames := 1, cells := 0, slots := 0, locals := 25 }
theorem mX6_isHeight_0 : Cond.constantLong RX6 67 (7) ∈ wsX6_isHeight := by decide +kernel
def fX6_isHeight (x0 : Int32) : Option Int32 :=
  (fX6_in (Int32.toInt64 x0) (0 : Int64) (7 : Int64)).bind fun v1 =>
  ckZ v1
set_option maxHeartbeats 4000000 in
set_option maxRecDepth 100000 in
theorem kX6_isHeight (l : Launch) (E : xG) (x0 : Int32) {r : Int32} (hf : fX6_isHeight x0 = some r) : xPure l yX6_isHeight wsX6_isHeight rmX6_isHeight E [.int x0] ([]) (.int r) := by
  refine Met.ofW (cc := cX6_isHeight) (maxL := 1) (ret := (some .boolean)) (by decide) rfl ?_
  intro p e s m args below meth c s₁ B hml hv
  obtain ⟨rfl, hP, hK⟩ := hv
  have hx := B.exec
  have hb := B.bytes
  have hr := B.returns
  have hts := atoms_spec (ws := wsX6_isHeight) B.pre
  have hown : s.vm.findClass RX6 = some m.cls := findClass_of_methodNamed B.named
  have hlk := B.notSynchronized
  have S : CallFix p m c cX6_isHeight 1 s _ wsX6_isHeight RX6 := ⟨hx, hb, hml, hown, hts⟩
  have hl := lv_entry ([.int x0]) (n := 1) (Nat.le_of_ble_eq_true rfl)
  rw [lg_entry_eq]
  generalize (lg_sl ([.int x0]) ++ List.replicate (1 - (lg_sl ([.int x0])).length) Slot.unset).toArray = ls at hl ⊢
  have hl : lv_has ls 1 [(0, .int x0)] := hl
  unfold fX6_isHeight at hf
  refine lv_iload_n hx hb dX6_isHeight_0 rfl (lv_at hl 0 rfl) ?_
  refine lv_i2l (v := (Int32.toInt64 x0)) hx hb dX6_isHeight_1 rfl ?_
  refine lv_lconst (v := 0) hx hb dX6_isHeight_2 (by decide) ?_
  refine lv_ldc2 hx hb hown (hts _ mX6_isHeight_0) dX6_isHeight_3 ?_
  obtain ⟨v1, h1, hf⟩ := ob hf
  refine x_pS (As := [.long (Int32.toInt64 x0), .long (0 : Int64), .long (7 : Int64)]) (rest := []) S hK (kX6_in l E (Int32.toInt64 x0) (0 : Int64) (7 : Int64) h1) (va_cwS 3 hts gX6_isHeight_X6_in rfl rfl rfl (by decide +kernel) ⟨Nat.le_of_ble_eq_true rfl, Nat.le_of_ble_eq_true rfl⟩) x_nil rfl hl.1 (Nat.le_of_ble_eq_true rfl) dX6_isHeight_6 rfl ⟨Nat.zero_le _, Nat.zero_le _⟩ ?_
  obtain ⟨hn, rfl⟩ := ckZ_ok hf
  exact x_iret hx hb hr hlk hn dX6_isHeight_9
abbrev rmX6_isSide : Room := { frames := 1, cells := 0, slots := 0, locals := 25 }
def fX6_isSide (x0 : Int32) : Option Int32 :=
  (fX6_in (Int32.toInt64 x0) (0 : Int64) (1 : Int64)).bind fun v1 =>
  ckZ v1
set_option maxHeartbeats 4000000 in
set_option maxRecDepth 100000 in
theorem kX6_isSide (l : Launch) (E : xG) (x0 : Int32) {r : Int32} (hf : fX6_isSide x0 = some r) : xPure l yX6_isSide wsX6_isSide rmX6_isSide E [.int x0] ([]) (.int r) := by
  refine Met.ofW (cc := cX6_isSide) (maxL := 1) (ret := (some .boolean)) (by decide) rfl ?_
  intro p e s m args below meth c s₁ B hml hv
  obtain ⟨rfl, hP, hK⟩ := hv
  have hx := B.exec
  have hb := B.bytes
  have hr := B.returns
  have hts := atoms_spec (ws := wsX6_isSide) B.pre
  have hown : s.vm.findClass RX6 = some m.cls := findClass_of_methodNamed B.named
  have hlk := B.notSynchronized
  have S : CallFix p m c cX6_isSide 1 s _ wsX6_isSide RX6 := ⟨hx, hb, hml, hown, hts⟩
  have hl := lv_entry ([.int x0]) (n := 1) (Nat.le_of_ble_eq_true rfl)
  rw [lg_entry_eq]
  generalize (lg_sl ([.int x0]) ++ List.replicate (1 - (lg_sl ([.int x0])).length) Slot.unset).toArray = ls at hl ⊢
  have hl : lv_has ls 1 [(0, .int x0)] := hl
  unfold fX6_isSide at hf
  refine lv_iload_n hx hb dX6_isSide_0 rfl (lv_at hl 0 rfl) ?_
  refine lv_i2l (v := (Int32.toInt64 x0)) hx hb dX6_isSide_1 rfl ?_
  refine lv_lconst (v := 0) hx hb dX6_isSide_2 (by decide) ?_
  refine lv_lconst (v := 1) hx hb dX6_isSide_3 (by decide) ?_
  obtain ⟨v1, h1, hf⟩ := ob hf
  refine x_pS (As := [.long (Int32.toInt64 x0), .long (0 : Int64), .long (1 : Int64)]) (rest := []) S hK (kX6_in l E (Int32.toInt64 x0) (0 : Int64) (1 : Int64) h1) (va_cwS 3 hts gX6_isSide_X6_in rfl rfl rfl (by decide +kernel) ⟨Nat.le_of_ble_eq_true rfl, Nat.le_of_ble_eq_true rfl⟩) x_nil rfl hl.1 (Nat.le_of_ble_eq_true rfl) dX6_isSide_4 rfl ⟨Nat.zero_le _, Nat.zero_le _⟩ ?_
  obtain ⟨hn, rfl⟩ := ckZ_ok hf
  exact x_iret hx hb hr hlk hn dX6_isSide_7
abbrev rmX6_at : Room := { frames := 0, cells := 0, slots := 0, locals := 0 }
def fX6_at (x0 : Int32) (x1 : Int32) (x2 : Int32) : Option Int32 :=
  some ((((16 : Int32) * x0) + ((8 : Int32) * x1)) + x2)
set_option maxHeartbeats 4000000 in
set_option maxRecDepth 100000 in
theorem kX6_at (l : Launch) (E : xG) (x0 : Int32) (x1 : Int32) (x2 : Int32) {r : Int32} (hf : fX6_at x0 x1 x2 = some r) : xPure l yX6_at wsX6_at rmX6_at E [.int x0, .int x1, .int x2] ([]) (.int r) := by
  refine Met.ofW (cc := cX6_at) (maxL := 3) (ret := (some .int)) (by decide) rfl ?_
  intro p e s m args below meth c s₁ B hml hv
  obtain ⟨rfl, hP, hK⟩ := hv
  have hx := B.exec
  have hb := B.bytes
  have hr := B.returns
  have hts := atoms_spec (ws := wsX6_at) B.pre
  have hown : s.vm.findClass RX6 = some m.cls := findClass_of_methodNamed B.named
  have hlk := B.notSynchronized
  have S : CallFix p m c cX6_at 3 s _ wsX6_at RX6 := ⟨hx, hb, hml, hown, hts⟩
  have hl := lv_entry ([.int x0, .int x1, .int x2]) (n := 3) (Nat.le_of_ble_eq_true rfl)
  rw [lg_entry_eq]
  generalize (lg_sl ([.int x0, .int x1, .int x2]) ++ List.replicate (3 - (lg_sl ([.int x0, .int x1, .int x2])).length) Slot.unset).toArray = ls at hl ⊢
  have hl : lv_has ls 3 [(0, .int x0), (1, .int x1), (2, .int x2)] := hl
  unfold fX6_at at hf
  refine lv_bipush (v := 16) hx hb dX6_at_0 (by decide) ?_
  refine lv_iload_n hx hb dX6_at_2 rfl (lv_at hl 0 rfl) ?_
  refine lv_imul hx hb dX6_at_3 ?_
  refine lv_bipush (v := 8) hx hb dX6_at_4 (by decide) ?_
  refine lv_iload_n hx hb dX6_at_6 rfl (lv_at hl 1 rfl) ?_
  refine lv_imul hx hb dX6_at_7 ?_
  refine lv_iadd hx hb dX6_at_8 ?_
  refine lv_iload_n hx hb dX6_at_9 rfl (lv_at hl 2 rfl) ?_
  refine lv_iadd hx hb dX6_at_10 ?_
  obtain rfl := Option.some.inj hf
  exact x_iret hx hb hr hlk (vp_nar_int _) dX6_at_11
abbrev rmX6_divisor : Room := { frames := 0, cells := 0, slots := 0, locals := 0 }
def gX6_divisor_17 (x0 : Int64) (x2 : Int64) (rec : (Int64 × Int64) → Option (Int64 × Int64)) (u : Int64 × Int64) : Option (Int64 × Int64) :=
  (if u.2 = (0 : Int64) then
  some (u.1, u.2)
  else (rmJ u.1 u.2).bind fun v2 =>
  rec (u.2, v2))
set_option maxHeartbeats 4000000 in
set_option maxRecDepth 100000 in
theorem wX6_divisor_17 {p : Program} {l : Launch} {e : Env} {s : State} {m : MethodId} {args : Array Value} {below : List Frame} {meth : Method} {c : Code} {Q : State → Prop} (S : CallFix p m c cX6_divisor 10 s args wsX6_divisor RX6) (E : xG) (hK : xK E s) (x0 : Int64) (x2 : Int64) (hP : va_P (xD E) vwCl ([]) s.heap) : ∀ (n : Nat) (u : Int64 × Int64) (r : Int64 × Int64), lp (gX6_divisor_17 x0 x2) n u = some r → ∀ (ls : Array Slot), lv_has ls 10 [(0, .long x0), (2, .long x2), (4, .long u.1), (6, .long u.2)] → (∀ (ls : Array Slot), lv_has ls 10 [(0, .long x0), (2, .long x2), (4, .long r.1), (6, .long r.2)] → W p l e rmX6_divisor s m args below meth c s.heap [] 0 0 Q (F0 m 42 ls [])) → W p l e rmX6_divisor s m args below meth c s.heap [] 0 0 Q (F0 m 17 ls []) := by
  obtain ⟨hx, hb, hml, hown, hts⟩ := id S
  intro n
  induction n with
  | zero =>
    intro u r hf
    exact absurd (show (none : Option _) = some r from hf) (fun q => by cases q)
  | succ n ih =>
    intro u r hf ls hl kx
    have hf : gX6_divisor_17 x0 x2 (lp (gX6_divisor_17 x0 x2) n) u = some r := hf
    unfold gX6_divisor_17 at hf
    refine lv_lload hx hb dX6_divisor_17 (lv_at hl 3 rfl) ?_
    refine lv_lconst (v := 0) hx hb dX6_divisor_19 (by decide) ?_
    refine x_lif_eq (tgt := 42) hx hb dX6_divisor_20 dX6_divisor_21 (by decide) (fun c1 => ?_) (fun c1 => ?_)
    · have hf := (if_pos c1).symm.trans hf
      obtain rfl := Option.some.inj hf
      exact kx ls (lv_sub hl [0, 1, 2, 3] rfl)
    · have hf := (if_neg c1).symm.trans hf
      refine lv_lload hx hb dX6_divisor_24 (lv_at hl 2 rfl) ?_
      refine lv_lload hx hb dX6_divisor_26 (lv_at hl 3 rfl) ?_
      obtain ⟨v2, h2, hf⟩ := ob hf
      refine x_lrem hx hb h2 dX6_divisor_28 ?_
      refine lv_lstore (lv' := [(8, .long v2), (0, .long x0), (2, .long x2), (4, .long u.1), (6, .long u.2)]) hx hb dX6_divisor_29 hl (by decide) rfl (fun ls hl => ?_)
      refine lv_lload hx hb dX6_divisor_31 (lv_at hl 4 rfl) ?_
      refine lv_lstore (lv' := [(4, .long u.2), (8, .long v2), (0, .long x0), (2, .long x2), (6, .long u.2)]) hx hb dX6_divisor_33 hl (by decide) rfl (fun ls hl => ?_)
      refine lv_lload hx hb dX6_divisor_35 (lv_at hl 1 rfl) ?_
      refine lv_lstore (lv' := [(6, .long v2), (4, .long u.2), (8, .long v2), (0, .long x0), (2, .long x2)]) hx hb dX6_divisor_37 hl (by decide) rfl (fun ls hl => ?_)
      refine lv_goto (tgt := 17) hx hb dX6_divisor_39 (by decide) ?_
      exact ih (u.2, v2) _ hf ls (lv_sub hl [3, 4, 1, 0] rfl) kx
def fX6_divisor (x0 : Int64) (x2 : Int64) : Option Int64 :=
  (lp (gX6_divisor_17 x0 x2) 1000 ((if (0 : Int64) ≤ x0 then x0 else (-x0)), x2)).bind fun v2 =>
  some v2.1
set_option maxHeartbeats 4000000 in
set_option maxRecDepth 100000 in
theorem kX6_divisor (l : Launch) (E : xG) (x0 : Int64) (x2 : Int64) {r : Int64} (hf : fX6_divisor x0 x2 = some r) : xPure l yX6_divisor wsX6_divisor rmX6_divisor E [.long x0, .long x2] ([]) (.long r) := by
  refine Met.ofW (cc := cX6_divisor) (maxL := 10) (ret := (some .long)) (by decide) rfl ?_
  intro p e s m args below meth c s₁ B hml hv
  obtain ⟨rfl, hP, hK⟩ := hv
  have hx := B.exec
  have hb := B.bytes
  have hr := B.returns
  have hts := atoms_spec (ws := wsX6_divisor) B.pre
  have hown : s.vm.findClass RX6 = some m.cls := findClass_of_methodNamed B.named
  have hlk := B.notSynchronized
  have S : CallFix p m c cX6_divisor 10 s _ wsX6_divisor RX6 := ⟨hx, hb, hml, hown, hts⟩
  have hl := lv_entry ([.long x0, .long x2]) (n := 10) (Nat.le_of_ble_eq_true rfl)
  rw [lg_entry_eq]
  generalize (lg_sl ([.long x0, .long x2]) ++ List.replicate (10 - (lg_sl ([.long x0, .long x2])).length) Slot.unset).toArray = ls at hl ⊢
  have hl : lv_has ls 10 [(0, .long x0), (2, .long x2)] := hl
  unfold fX6_divisor at hf
  refine lv_lload_n hx hb dX6_divisor_0 rfl (lv_at hl 0 rfl) ?_
  refine lv_lconst (v := 0) hx hb dX6_divisor_1 (by decide) ?_
  refine x_cut (pc := 12) (ls := ls) (st := [.long (if (0 : Int64) ≤ x0 then x0 else (-x0))]) ?_ (fun hj => ?_)
  · refine lv_lstore (lv' := [(4, .long (if (0 : Int64) ≤ x0 then x0 else (-x0))), (0, .long x0), (2, .long x2)]) hx hb dX6_divisor_12 hl (by decide) rfl (fun ls hl => ?_)
    refine lv_lload_n hx hb dX6_divisor_14 rfl (lv_at hl 2 rfl) ?_
    refine lv_lstore (lv' := [(6, .long x2), (4, .long (if (0 : Int64) ≤ x0 then x0 else (-x0))), (0, .long x0), (2, .long x2)]) hx hb dX6_divisor_15 hl (by decide) rfl (fun ls hl => ?_)
    obtain ⟨v2, h2, hf⟩ := ob hf
    refine wX6_divisor_17 S E hK x0 x2 hP 1000 _ _ h2 ls (lv_sub hl [2, 3, 1, 0] rfl) (fun ls hl => ?_)
    refine lv_lload hx hb dX6_divisor_42 (lv_at hl 2 rfl) ?_
    obtain rfl := Option.some.inj hf
    exact x_lret hx hb hr hlk dX6_divisor_44
  · refine x_lif_ge (tgt := 11) hx hb dX6_divisor_2 dX6_divisor_3 (by decide) (fun c1 => ?_) (fun c1 => ?_)
    · refine lv_lload_n hx hb dX6_divisor_11 rfl (lv_at hl 0 rfl) ?_
      exact (by rw [if_pos c1] at hj; exact hj)
    · refine lv_lload_n hx hb dX6_divisor_6 rfl (lv_at hl 0 rfl) ?_
      refine lv_lneg hx hb dX6_divisor_7 ?_
      refine lv_goto (tgt := 12) hx hb dX6_divisor_8 (by decide) ?_
      exact (by rw [if_neg c1] at hj; exact hj)
abbrev rmX6_above : Room := { frames := 1, cells := 0, slots := 0, locals := 29 }
def fX6_above (x0 : Int64) (x2 : Int64) : Option Int64 :=
  (fX6_divisor x0 x2).bind fun v1 =>
  (dvJ x0 v1).bind fun v2 =>
  some v2
set_option maxHeartbeats 4000000 in
set_option maxRecDepth 100000 in
theorem kX6_above (l : Launch) (E : xG) (x0 : Int64) (x2 : Int64) {r : Int64} (hf : fX6_above x0 x2 = some r) : xPure l yX6_above wsX6_above rmX6_above E [.long x0, .long x2] ([]) (.long r) := by
  refine Met.ofW (cc := cX6_above) (maxL := 4) (ret := (some .long)) (by decide) rfl ?_
  intro p e s m args below meth c s₁ B hml hv
  obtain ⟨rfl, hP, hK⟩ := hv
  have hx := B.exec
  have hb := B.bytes
  have hr := B.returns
  have hts := atoms_spec (ws := wsX6_above) B.pre
  have hown : s.vm.findClass RX6 = some m.cls := findClass_of_methodNamed B.named
  have hlk := B.notSynchronized
  have S : CallFix p m c cX6_above 4 s _ wsX6_above RX6 := ⟨hx, hb, hml, hown, hts⟩
  have hl := lv_entry ([.long x0, .long x2]) (n := 4) (Nat.le_of_ble_eq_true rfl)
  rw [lg_entry_eq]
  generalize (lg_sl ([.long x0, .long x2]) ++ List.replicate (4 - (lg_sl ([.long x0, .long x2])).length) Slot.unset).toArray = ls at hl ⊢
  have hl : lv_has ls 4 [(0, .long x0), (2, .long x2)] := hl
  unfold fX6_above at hf
  refine lv_lload_n hx hb dX6_above_0 rfl (lv_at hl 0 rfl) ?_
  refine lv_lload_n hx hb dX6_above_1 rfl (lv_at hl 0 rfl) ?_
  refine lv_lload_n hx hb dX6_above_2 rfl (lv_at hl 1 rfl) ?_
  obtain ⟨v1, h1, hf⟩ := ob hf
  refine x_pS (As := [.long x0, .long x2]) (rest := [.long x0]) S hK (kX6_divisor l E x0 x2 h1) (va_cwS 2 hts gX6_above_X6_divisor rfl rfl rfl (by decide +kernel) ⟨Nat.le_of_ble_eq_true rfl, Nat.le_of_ble_eq_true rfl⟩) x_nil rfl hl.1 (Nat.le_of_ble_eq_true rfl) dX6_above_3 rfl ⟨Nat.zero_le _, Nat.zero_le _⟩ ?_
  obtain ⟨v2, h2, hf⟩ := ob hf
  refine x_ldiv hx hb h2 dX6_above_6 ?_
  obtain rfl := Option.some.inj hf
  exact x_lret hx hb hr hlk dX6_above_7
abbrev rmX6_below : Room := { frames := 1, cells := 0, slots := 0, locals := 29 }
def fX6_below (x0 : Int64) (x2 : Int64) : Option Int64 :=
  (fX6_divisor x0 x2).bind fun v1 =>
  (dvJ x2 v1).bind fun v2 =>
  some v2
set_option maxHeartbeats 4000000 in
set_option maxRecDepth 100000 in
theorem kX6_below (l : Launch) (E : xG) (x0 : Int64) (x2 : Int64) {r : Int64} (hf : fX6_below x0 x2 = some r) : xPure l yX6_below wsX6_below rmX6_below E [.long x0, .long x2] ([]) (.long r) := by
  refine Met.ofW (cc := cX6_below) (maxL := 4) (ret := (some .long)) (by decide) rfl ?_
  intro p e s m args below meth c s₁ B hml hv
  obtain ⟨rfl, hP, hK⟩ := hv
  have hx := B.exec
  have hb := B.bytes
  have hr := B.returns
  have hts := atoms_spec (ws := wsX6_below) B.pre
  have hown : s.vm.findClass RX6 = some m.cls := findClass_of_methodNamed B.named
  have hlk := B.notSynchronized
  have S : CallFix p m c cX6_below 4 s _ wsX6_below RX6 := ⟨hx, hb, hml, hown, hts⟩
  have hl := lv_entry ([.long x0, .long x2]) (n := 4) (Nat.le_of_ble_eq_true rfl)
  rw [lg_entry_eq]
  generalize (lg_sl ([.long x0, .long x2]) ++ List.replicate (4 - (lg_sl ([.long x0, .long x2])).length) Slot.unset).toArray = ls at hl ⊢
  have hl : lv_has ls 4 [(0, .long x0), (2, .long x2)] := hl
  unfold fX6_below at hf
  refine lv_lload_n hx hb dX6_below_0 rfl (lv_at hl 1 rfl) ?_
  refine lv_lload_n hx hb dX6_below_1 rfl (lv_at hl 0 rfl) ?_
  refine lv_lload_n hx hb dX6_below_2 rfl (lv_at hl 1 rfl) ?_
  obtain ⟨v1, h1, hf⟩ := ob hf
  refine x_pS (As := [.long x0, .long x2]) (rest := [.long x2]) S hK (kX6_divisor l E x0 x2 h1) (va_cwS 2 hts gX6_below_X6_divisor rfl rfl rfl (by decide +kernel) ⟨Nat.le_of_ble_eq_true rfl, Nat.le_of_ble_eq_true rfl⟩) x_nil rfl hl.1 (Nat.le_of_ble_eq_true rfl) dX6_below_3 rfl ⟨Nat.zero_le _, Nat.zero_le _⟩ ?_
  obtain ⟨v2, h2, hf⟩ := ob hf
  refine x_ldiv hx hb h2 dX6_below_6 ?_
  obtain rfl := Option.some.inj hf
  exact x_lret hx hb hr hlk dX6_below_7
abbrev rmX6_floor : Room := { frames := 0, cells := 0, slots := 0, locals := 0 }
def fX6_floor (x0 : Int64) (x2 : Int64) : Option Int64 :=
  (dvJ x0 x2).bind fun v1 =>
  some (if (v1 * x2) ≤ x0 then v1 else (v1 - (1 : Int64)))
set_option maxHeartbeats 4000000 in
set_option maxRecDepth 100000 in
theorem kX6_floor (l : Launch) (E : xG) (x0 : Int64) (x2 : Int64) {r : Int64} (hf : fX6_floor x0 x2 = some r) : xPure l yX6_floor wsX6_floor rmX6_floor E [.long x0, .long x2] ([]) (.long r) := by
  refine Met.ofW (cc := cX6_floor) (maxL := 6) (ret := (some .long)) (by decide) rfl ?_
  intro p e s m args below meth c s₁ B hml hv
  obtain ⟨rfl, hP, hK⟩ := hv
  have hx := B.exec
  have hb := B.bytes
  have hr := B.returns
  have hts := atoms_spec (ws := wsX6_floor) B.pre
  have hown : s.vm.findClass RX6 = some m.cls := findClass_of_methodNamed B.named
  have hlk := B.notSynchronized
  have S : CallFix p m c cX6_floor 6 s _ wsX6_floor RX6 := ⟨hx, hb, hml, hown, hts⟩
  have hl := lv_entry ([.long x0, .long x2]) (n := 6) (Nat.le_of_ble_eq_true rfl)
  rw [lg_entry_eq]
  generalize (lg_sl ([.long x0, .long x2]) ++ List.replicate (6 - (lg_sl ([.long x0, .long x2])).length) Slot.unset).toArray = ls at hl ⊢
  have hl : lv_has ls 6 [(0, .long x0), (2, .long x2)] := hl
  unfold fX6_floor at hf
  refine lv_lload_n hx hb dX6_floor_0 rfl (lv_at hl 0 rfl) ?_
  refine lv_lload_n hx hb dX6_floor_1 rfl (lv_at hl 1 rfl) ?_
  obtain ⟨v1, h1, hf⟩ := ob hf
  refine x_ldiv hx hb h1 dX6_floor_2 ?_
  refine lv_lstore (lv' := [(4, .long v1), (0, .long x0), (2, .long x2)]) hx hb dX6_floor_3 hl (by decide) rfl (fun ls hl => ?_)
  refine lv_lload hx hb dX6_floor_5 (lv_at hl 0 rfl) ?_
  refine lv_lload_n hx hb dX6_floor_7 rfl (lv_at hl 2 rfl) ?_
  refine lv_lmul hx hb dX6_floor_8 ?_
  refine lv_lload_n hx hb dX6_floor_9 rfl (lv_at hl 1 rfl) ?_
  refine x_cut (pc := 23) (ls := ls) (st := [.long (if (v1 * x2) ≤ x0 then v1 else (v1 - (1 : Int64)))]) ?_ (fun hj => ?_)
  · obtain rfl := Option.some.inj hf
    exact x_lret hx hb hr hlk dX6_floor_23
  · refine x_lif_le (tgt := 21) hx hb dX6_floor_10 dX6_floor_11 (by decide) (fun c2 => ?_) (fun c2 => ?_)
    · refine lv_lload hx hb dX6_floor_21 (lv_at hl 0 rfl) ?_
      exact (by rw [if_pos c2] at hj; exact hj)
    · refine lv_lload hx hb dX6_floor_14 (lv_at hl 0 rfl) ?_
      refine lv_lconst (v := 1) hx hb dX6_floor_16 (by decide) ?_
      refine lv_lsub hx hb dX6_floor_17 ?_
      refine lv_goto (tgt := 23) hx hb dX6_floor_18 (by decide) ?_
      exact (by rw [if_neg c2] at hj; exact hj)
abbrev rmX6_isLetter : Room := { frames := 1, cells := 0, slots := 0, locals := 25 }
theorem mX6_isLetter_0 : Cond.fieldLink RX6 7 "EvenWhiteModel" "now" "[I" ∈ wsX6_isLetter := by decide +kernel
theorem inX6_isLetter_6 : ∀ w ∈ u_ws RX6 TX6 17, w ∈ wsX6_isLetter := by decide +kernel
def fX6_isLetter (mo : Mo) (x1 : Int32) : Option Int32 :=
  (rdI (Mo_now mo) 63 (60 : Int32)).bind fun v1 =>
  (fX6_in (Int32.toInt64 x1) (0 : Int64) (Int32.toInt64 (v1 - (1 : Int32)))).bind fun v2 =>
  ckZ v2
set_option maxHeartbeats 4000000 in
set_option maxRecDepth 100000 in
theorem kX6_isLetter (l : Launch) (E : xG) (uq : Nat → Nat) (mo : Mo) (x1 : Int32) {r : Int32} (hf : fX6_isLetter mo x1 = some r) : xPure l yX6_isLetter wsX6_isLetter rmX6_isLetter E [.ref (uq 0), .int x1] (wM E uq mo) (.int r) := by
  refine Met.ofW (cc := cX6_isLetter) (maxL := 2) (ret := (some .boolean)) (by decide) rfl ?_
  intro p e s m args below meth c s₁ B hml hv
  obtain ⟨rfl, hP, hK⟩ := hv
  have hx := B.exec
  have hb := B.bytes
  have hr := B.returns
  have hts := atoms_spec (ws := wsX6_isLetter) B.pre
  have hown : s.vm.findClass RX6 = some m.cls := findClass_of_methodNamed B.named
  have hlk := B.notSynchronized
  have S : CallFix p m c cX6_isLetter 2 s _ wsX6_isLetter RX6 := ⟨hx, hb, hml, hown, hts⟩
  have hl := lv_entry ([.ref (uq 0), .int x1]) (n := 2) (Nat.le_of_ble_eq_true rfl)
  rw [lg_entry_eq]
  generalize (lg_sl ([.ref (uq 0), .int x1]) ++ List.replicate (2 - (lg_sl ([.ref (uq 0), .int x1])).length) Slot.unset).toArray = ls at hl ⊢
  have hl : lv_has ls 2 [(0, .ref (uq 0)), (1, .int x1)] := hl
  unfold fX6_isLetter at hf
  refine lv_iload_n hx hb dX6_isLetter_0 rfl (lv_at hl 1 rfl) ?_
  refine lv_i2l (v := (Int32.toInt64 x1)) hx hb dX6_isLetter_1 rfl ?_
  refine lv_lconst (v := 0) hx hb dX6_isLetter_2 (by decide) ?_
  refine lv_aload_n hx hb dX6_isLetter_3 rfl (lv_at hl 0 rfl) ?_
  refine x_get hx hb hts inX6_isLetter_6 hown hK hP 0 rfl rfl 0 (by decide) mX6_isLetter_0 rfl dX6_isLetter_4 ?_
  refine lv_bipush (v := 60) hx hb dX6_isLetter_7 (by decide) ?_
  obtain ⟨v1, h1, hf⟩ := ob hf
  refine x_iald hx hb hK hP 1 rfl h1 dX6_isLetter_9 ?_
  refine lv_iconst (v := 1) hx hb dX6_isLetter_10 (by decide) ?_
  refine lv_isub hx hb dX6_isLetter_11 ?_
  refine lv_i2l (v := (Int32.toInt64 (v1 - (1 : Int32)))) hx hb dX6_isLetter_12 rfl ?_
  obtain ⟨v2, h2, hf⟩ := ob hf
  refine x_pS (As := [.long (Int32.toInt64 x1), .long (0 : Int64), .long (Int32.toInt64 (v1 - (1 : Int32)))]) (rest := []) S hK (kX6_in l E (Int32.toInt64 x1) (0 : Int64) (Int32.toInt64 (v1 - (1 : Int32))) h2) (va_cwS 3 hts gX6_isLetter_X6_in rfl rfl rfl (by decide +kernel) ⟨Nat.le_of_ble_eq_true rfl, Nat.le_of_ble_eq_true rfl⟩) x_nil rfl hl.1 (Nat.le_of_ble_eq_true rfl) dX6_isLetter_13 rfl ⟨Nat.zero_le _, Nat.zero_le _⟩ ?_
  obtain ⟨hn, rfl⟩ := ckZ_ok hf
  exact x_iret hx hb hr hlk hn dX6_isLetter_16
abbrev rmX6_weightOf : Room := { frames := 0, cells := 0, slots := 0, locals := 0 }
theorem mX6_weightOf_0 : Cond.fieldLink RX6 7 "EvenWhiteModel" "now" "[I" ∈ wsX6_weightOf := by decide +kernel
theorem inX6_weightOf_6 : ∀ w ∈ u_ws RX6 TX6 17, w ∈ wsX6_weightOf := by decide +kernel
def fX6_weightOf (mo : Mo) (x1 : Int32) (x2 : Int32) : Option Int32 :=
  (rdI (Mo_now mo) 63 (((51 : Int32) + ((3 : Int32) * x1)) + x2)).bind fun v1 =>
  some v1
set_option maxHeartbeats 4000000 in
set_option maxRecDepth 100000 in
theorem kX6_weightOf (l : Launch) (E : xG) (uq : Nat → Nat) (mo : Mo) (x1 : Int32) (x2 : Int32) {r : Int32} (hf : fX6_weightOf mo x1 x2 = some r) : xPure l yX6_weightOf wsX6_weightOf rmX6_weightOf E [.ref (uq 0), .int x1, .int x2] (wM E uq mo) (.int r) := by
  refine Met.ofW (cc := cX6_weightOf) (maxL := 3) (ret := (some .int)) (by decide) rfl ?_
  intro p e s m args below meth c s₁ B hml hv
  obtain ⟨rfl, hP, hK⟩ := hv
  have hx := B.exec
  have hb := B.bytes
  have hr := B.returns
  have hts := atoms_spec (ws := wsX6_weightOf) B.pre
  have hown : s.vm.findClass RX6 = some m.cls := findClass_of_methodNamed B.named
  have hlk := B.notSynchronized
  have S : CallFix p m c cX6_weightOf 3 s _ wsX6_weightOf RX6 := ⟨hx, hb, hml, hown, hts⟩
  have hl := lv_entry ([.ref (uq 0), .int x1, .int x2]) (n := 3) (Nat.le_of_ble_eq_true rfl)
  rw [lg_entry_eq]
  generalize (lg_sl ([.ref (uq 0), .int x1, .int x2]) ++ List.replicate (3 - (lg_sl ([.ref (uq 0), .int x1, .int x2])).length) Slot.unset).toArray = ls at hl ⊢
  have hl : lv_has ls 3 [(0, .ref (uq 0)), (1, .int x1), (2, .int x2)] := hl
  unfold fX6_weightOf at hf
  refine lv_aload_n hx hb dX6_weightOf_0 rfl (lv_at hl 0 rfl) ?_
  refine x_get hx hb hts inX6_weightOf_6 hown hK hP 0 rfl rfl 0 (by decide) mX6_weightOf_0 rfl dX6_weightOf_1 ?_
  refine lv_bipush (v := 51) hx hb dX6_weightOf_4 (by decide) ?_
  refine lv_iconst (v := 3) hx hb dX6_weightOf_6 (by decide) ?_
  refine lv_iload_n hx hb dX6_weightOf_7 rfl (lv_at hl 1 rfl) ?_
  refine lv_imul hx hb dX6_weightOf_8 ?_
  refine lv_iadd hx hb dX6_weightOf_9 ?_
  refine lv_iload_n hx hb dX6_weightOf_10 rfl (lv_at hl 2 rfl) ?_
  refine lv_iadd hx hb dX6_weightOf_11 ?_
  obtain ⟨v1, h1, hf⟩ := ob hf
  refine x_iald hx hb hK hP 1 rfl h1 dX6_weightOf_12 ?_
  obtain rfl := Option.some.inj hf
  exact x_iret hx hb hr hlk (vp_nar_int _) dX6_weightOf_13
abbrev rmX6_bare : Room := { frames := 1, cells := 0, slots := 0, locals := 22 }
theorem mX6_bare_0 : Cond.fieldLink RX6 7 "EvenWhiteModel" "now" "[I" ∈ wsX6_bare := by decide +kernel
theorem inX6_bare_6 : ∀ w ∈ u_ws RX6 TX6 17, w ∈ wsX6_bare := by decide +kernel
def gX6_bare_5 (mo : Mo) (x1 : Int32) (x2 : Int32) (rec : (Int32 × Int32) → Option (Int32 × Int32)) (u : Int32 × Int32) : Option (Int32 × Int32) :=
  (if (8 : Int32) ≤ u.2 then
  some (u.1, u.2)
  else (fX6_at x1 (1 : Int32) u.2).bind fun v2 =>
  (rdI (Mo_now mo) 63 v2).bind fun v3 =>
  (fX6_at x2 (0 : Int32) u.2).bind fun v4 =>
  (rdI (Mo_now mo) 63 v4).bind fun v5 =>
  (rdI (Mo_now mo) 63 (61 : Int32)).bind fun v6 =>
  ((if v6 ≤ (v3 + v5) then
  (rdI (Mo_now mo) 63 (61 : Int32)).bind fun v9 =>
  some v9
  else some (v3 + v5))).bind fun v7 =>
  rec ((u.1 + v7), (u.2 + (1 : Int32))))
set_option maxHeartbeats 4000000 in
set_option maxRecDepth 100000 in
theorem wX6_bare_5 {p : Program} {l : Launch} {e : Env} {s : State} {m : MethodId} {args : Array Value} {below : List Frame} {meth : Method} {c : Code} {Q : State → Prop} (S : CallFix p m c cX6_bare 6 s args wsX6_bare RX6) (E : xG) (hK : xK E s) (uq : Nat → Nat) (mo : Mo) (x1 : Int32) (x2 : Int32) (hP : va_P (xD E) vwCl (wM E uq mo) s.heap) : ∀ (n : Nat) (u : Int32 × Int32) (r : Int32 × Int32), lp (gX6_bare_5 mo x1 x2) n u = some r → ∀ (ls : Array Slot), lv_has ls 6 [(0, .ref (uq 0)), (1, .int x1), (2, .int x2), (3, .int u.1), (4, .int u.2)] → (∀ (ls : Array Slot), lv_has ls 6 [(0, .ref (uq 0)), (1, .int x1), (2, .int x2), (3, .int r.1), (4, .int r.2)] → W p l e rmX6_bare s m args below meth c s.heap [] 0 0 Q (F0 m 72 ls [])) → W p l e rmX6_bare s m args below meth c s.heap [] 0 0 Q (F0 m 5 ls []) := by
  obtain ⟨hx, hb, hml, hown, hts⟩ := id S
  intro n
  induction n with
  | zero =>
    intro u r hf
    exact absurd (show (none : Option _) = some r from hf) (fun q => by cases q)
  | succ n ih =>
    intro u r hf ls hl kx
    have hf : gX6_bare_5 mo x1 x2 (lp (gX6_bare_5 mo x1 x2) n) u = some r := hf
    unfold gX6_bare_5 at hf
    refine lv_iload hx hb dX6_bare_5 (lv_at hl 4 rfl) ?_
    refine lv_bipush (v := 8) hx hb dX6_bare_7 (by decide) ?_
    refine lv_icmp_ge (tgt := 72) hx hb dX6_bare_9 (by decide) (fun c1 => ?_) (fun c1 => ?_)
    · have hf := (if_pos c1).symm.trans hf
      obtain rfl := Option.some.inj hf
      exact kx ls (lv_sub hl [0, 1, 2, 3, 4] rfl)
    · have hf := (if_neg c1).symm.trans hf
      refine lv_aload_n hx hb dX6_bare_12 rfl (lv_at hl 0 rfl) ?_
      refine x_get hx hb hts inX6_bare_6 hown hK hP 0 rfl rfl 0 (by decide) mX6_bare_0 rfl dX6_bare_13 ?_
      refine lv_iload_n hx hb dX6_bare_16 rfl (lv_at hl 1 rfl) ?_
      refine lv_iconst (v := 1) hx hb dX6_bare_17 (by decide) ?_
      refine lv_iload hx hb dX6_bare_18 (lv_at hl 4 rfl) ?_
      obtain ⟨v2, h2, hf⟩ := ob hf
      refine x_pS (As := [.int x1, .int (1 : Int32), .int u.2]) (rest := [.ref (uq 1)]) S hK (kX6_at l E x1 (1 : Int32) u.2 h2) (va_cwS 3 hts gX6_bare_X6_at rfl rfl rfl (by decide +kernel) ⟨Nat.le_of_ble_eq_true rfl, Nat.le_of_ble_eq_true rfl⟩) x_nil rfl hl.1 (Nat.le_of_ble_eq_true rfl) dX6_bare_20 rfl ⟨Nat.zero_le _, Nat.zero_le _⟩ ?_
      obtain ⟨v3, h3, hf⟩ := ob hf
      refine x_iald hx hb hK hP 1 rfl h3 dX6_bare_23 ?_
      refine lv_aload_n hx hb dX6_bare_24 rfl (lv_at hl 0 rfl) ?_
      refine x_get hx hb hts inX6_bare_6 hown hK hP 0 rfl rfl 0 (by decide) mX6_bare_0 rfl dX6_bare_25 ?_
      refine lv_iload_n hx hb dX6_bare_28 rfl (lv_at hl 2 rfl) ?_
      refine lv_iconst (v := 0) hx hb dX6_bare_29 (by decide) ?_
      refine lv_iload hx hb dX6_bare_30 (lv_at hl 4 rfl) ?_
      obtain ⟨v4, h4, hf⟩ := ob hf
      refine x_pS (As := [.int x2, .int (0 : Int32), .int u.2]) (rest := [.ref (uq 1), .int v3]) S hK (kX6_at l E x2 (0 : Int32) u.2 h4) (va_cwS 3 hts gX6_bare_X6_at rfl rfl rfl (by decide +kernel) ⟨Nat.le_of_ble_eq_true rfl, Nat.le_of_ble_eq_true rfl⟩) x_nil rfl hl.1 (Nat.le_of_ble_eq_true rfl) dX6_bare_32 rfl ⟨Nat.zero_le _, Nat.zero_le _⟩ ?_
      obtain ⟨v5, h5, hf⟩ := ob hf
      refine x_iald hx hb hK hP 1 rfl h5 dX6_bare_35 ?_
      refine lv_iadd hx hb dX6_bare_36 ?_
      refine lv_istore (lv' := [(5, .int (v3 + v5)), (0, .ref (uq 0)), (1, .int x1), (2, .int x2), (3, .int u.1), (4, .int u.2)]) hx hb dX6_bare_37 hl (by decide) rfl (fun ls hl => ?_)
      refine lv_iload_n hx hb dX6_bare_39 rfl (lv_at hl 4 rfl) ?_
      refine lv_iload hx hb dX6_bare_40 (lv_at hl 0 rfl) ?_
      refine lv_aload_n hx hb dX6_bare_42 rfl (lv_at hl 1 rfl) ?_
      refine x_get hx hb hts inX6_bare_6 hown hK hP 0 rfl rfl 0 (by decide) mX6_bare_0 rfl dX6_bare_43 ?_
      refine lv_bipush (v := 61) hx hb dX6_bare_46 (by decide) ?_
      obtain ⟨v6, h6, hf⟩ := ob hf
      refine x_iald hx hb hK hP 1 rfl h6 dX6_bare_48 ?_
      obtain ⟨v7, h7, hf⟩ := ob hf
      refine x_cutL (fun ls => lv_has ls 6 [(0, .ref (uq 0)), (1, .int x1), (2, .int x2), (3, .int u.1), (4, .int u.2), (5, .int (v3 + v5))]) (pc := 64) (st := [.int v7, .int u.1]) (fun ls hl => ?_) (fun hj => ?_)
      · refine lv_iadd hx hb dX6_bare_64 ?_
        refine lv_istore_n (lv' := [(3, .int (u.1 + v7)), (0, .ref (uq 0)), (1, .int x1), (2, .int x2), (4, .int u.2), (5, .int (v3 + v5))]) hx hb dX6_bare_65 rfl hl (by decide) rfl (fun ls hl => ?_)
        refine lv_iinc (v := (u.2 + (1 : Int32))) (lv' := [(4, .int (u.2 + (1 : Int32))), (3, .int (u.1 + v7)), (0, .ref (uq 0)), (1, .int x1), (2, .int x2), (5, .int (v3 + v5))]) hx hb dX6_bare_66 hl (k := 4) rfl rfl (by decide) rfl (fun ls hl => ?_)
        refine lv_goto (tgt := 5) hx hb dX6_bare_69 (by decide) ?_
        exact ih ((u.1 + v7), (u.2 + (1 : Int32))) _ hf ls (lv_sub hl [2, 3, 4, 1, 0] rfl) kx
      · have hf := h7
        refine lv_icmp_ge (tgt := 57) hx hb dX6_bare_49 (by decide) (fun c8 => ?_) (fun c8 => ?_)
        · have hf := (if_pos c8).symm.trans hf
          refine lv_aload_n hx hb dX6_bare_57 rfl (lv_at hl 1 rfl) ?_
          refine x_get hx hb hts inX6_bare_6 hown hK hP 0 rfl rfl 0 (by decide) mX6_bare_0 rfl dX6_bare_58 ?_
          refine lv_bipush (v := 61) hx hb dX6_bare_61 (by decide) ?_
          obtain ⟨v9, h9, hf⟩ := ob hf
          refine x_iald hx hb hK hP 1 rfl h9 dX6_bare_63 ?_
          obtain rfl := Option.some.inj hf
          exact hj ls (lv_sub hl [1, 2, 3, 4, 5, 0] rfl)
        · have hf := (if_neg c8).symm.trans hf
          refine lv_iload hx hb dX6_bare_52 (lv_at hl 0 rfl) ?_
          refine lv_goto (tgt := 64) hx hb dX6_bare_54 (by decide) ?_
          obtain rfl := Option.some.inj hf
          exact hj ls (lv_sub hl [1, 2, 3, 4, 5, 0] rfl)
def fX6_bare (mo : Mo) (x1 : Int32) (x2 : Int32) : Option Int32 :=
  (lp (gX6_bare_5 mo x1 x2) 1000 ((0 : Int32), (0 : Int32))).bind fun v1 =>
  some v1.1
set_option maxHeartbeats 4000000 in
set_option maxRecDepth 100000 in
theorem kX6_bare (l : Launch) (E : xG) (uq : Nat → Nat) (mo : Mo) (x1 : Int32) (x2 : Int32) {r : Int32} (hf : fX6_bare mo x1 x2 = some r) : xPure l yX6_bare wsX6_bare rmX6_bare E [.ref (uq 0), .int x1, .int x2] (wM E uq mo) (.int r) := by
  refine Met.ofW (cc := cX6_bare) (maxL := 6) (ret := (some .int)) (by decide) rfl ?_
  intro p e s m args below meth c s₁ B hml hv
  obtain ⟨rfl, hP, hK⟩ := hv
  have hx := B.exec
  have hb := B.bytes
  have hr := B.returns
  have hts := atoms_spec (ws := wsX6_bare) B.pre
  have hown : s.vm.findClass RX6 = some m.cls := findClass_of_methodNamed B.named
  have hlk := B.notSynchronized
  have S : CallFix p m c cX6_bare 6 s _ wsX6_bare RX6 := ⟨hx, hb, hml, hown, hts⟩
  have hl := lv_entry ([.ref (uq 0), .int x1, .int x2]) (n := 6) (Nat.le_of_ble_eq_true rfl)
  rw [lg_entry_eq]
  generalize (lg_sl ([.ref (uq 0), .int x1, .int x2]) ++ List.replicate (6 - (lg_sl ([.ref (uq 0), .int x1, .int x2])).length) Slot.unset).toArray = ls at hl ⊢
  have hl : lv_has ls 6 [(0, .ref (uq 0)), (1, .int x1), (2, .int x2)] := hl
  unfold fX6_bare at hf
  refine lv_iconst (v := 0) hx hb dX6_bare_0 (by decide) ?_
  refine lv_istore_n (lv' := [(3, .int (0 : Int32)), (0, .ref (uq 0)), (1, .int x1), (2, .int x2)]) hx hb dX6_bare_1 rfl hl (by decide) rfl (fun ls hl => ?_)
  refine lv_iconst (v := 0) hx hb dX6_bare_2 (by decide) ?_
  refine lv_istore (lv' := [(4, .int (0 : Int32)), (3, .int (0 : Int32)), (0, .ref (uq 0)), (1, .int x1), (2, .int x2)]) hx hb dX6_bare_3 hl (by decide) rfl (fun ls hl => ?_)
  obtain ⟨v1, h1, hf⟩ := ob hf
  refine wX6_bare_5 S E hK uq mo x1 x2 hP 1000 _ _ h1 ls (lv_sub hl [2, 3, 4, 1, 0] rfl) (fun ls hl => ?_)
  refine lv_iload_n hx hb dX6_bare_72 rfl (lv_at hl 3 rfl) ?_
  obtain rfl := Option.some.inj hf
  exact x_iret hx hb hr hlk (vp_nar_int _) dX6_bare_73
abbrev rmX6_isThere : Room := { frames := 0, cells := 0, slots := 0, locals := 0 }
theorem mX6_isThere_0 : Cond.fieldLink RX6 7 "EvenWhiteModel" "now" "[I" ∈ wsX6_isThere := by decide +kernel
theorem inX6_isThere_6 : ∀ w ∈ u_ws RX6 TX6 17, w ∈ wsX6_isThere := by decide +kernel
def fX6_isThere (mo : Mo) (x1 : Int32) : Option Int32 :=
  (rdI (Mo_now mo) 63 (60 : Int32)).bind fun v1 =>
  ckZ (if v1 ≤ (x1 - x1 / (3 : Int32) * (3 : Int32)) then (0 : Int32) else (1 : Int32))
set_option maxHeartbeats 4000000 in
set_option maxRecDepth 100000 in
theorem kX6_isThere (l : Launch) (E : xG) (uq : Nat → Nat) (mo : Mo) (x1 : Int32) {r : Int32} (hf : fX6_isThere mo x1 = some r) : xPure l yX6_isThere wsX6_isThere rmX6_isThere E [.ref (uq 0), .int x1] (wM E uq mo) (.int r) := by
  refine Met.ofW (cc := cX6_isThere) (maxL := 2) (ret := (some .boolean)) (by decide) rfl ?_
  intro p e s m args below meth c s₁ B hml hv
  obtain ⟨rfl, hP, hK⟩ := hv
  have hx := B.exec
  have hb := B.bytes
  have hr := B.returns
  have hts := atoms_spec (ws := wsX6_isThere) B.pre
  have hown : s.vm.findClass RX6 = some m.cls := findClass_of_methodNamed B.named
  have hlk := B.notSynchronized
  have S : CallFix p m c cX6_isThere 2 s _ wsX6_isThere RX6 := ⟨hx, hb, hml, hown, hts⟩
  have hl := lv_entry ([.ref (uq 0), .int x1]) (n := 2) (Nat.le_of_ble_eq_true rfl)
  rw [lg_entry_eq]
  generalize (lg_sl ([.ref (uq 0), .int x1]) ++ List.replicate (2 - (lg_sl ([.ref (uq 0), .int x1])).length) Slot.unset).toArray = ls at hl ⊢
  have hl : lv_has ls 2 [(0, .ref (uq 0)), (1, .int x1)] := hl
  unfold fX6_isThere at hf
  refine lv_iload_n hx hb dX6_isThere_0 rfl (lv_at hl 1 rfl) ?_
  refine lv_iconst (v := 3) hx hb dX6_isThere_1 (by decide) ?_
  refine lv_irem hx hb dX6_isThere_2 (by decide) ?_
  refine lv_aload_n hx hb dX6_isThere_3 rfl (lv_at hl 0 rfl) ?_
  refine x_get hx hb hts inX6_isThere_6 hown hK hP 0 rfl rfl 0 (by decide) mX6_isThere_0 rfl dX6_isThere_4 ?_
  refine lv_bipush (v := 60) hx hb dX6_isThere_7 (by decide) ?_
  obtain ⟨v1, h1, hf⟩ := ob hf
  refine x_iald hx hb hK hP 1 rfl h1 dX6_isThere_9 ?_
  refine x_cut (pc := 18) (ls := ls) (st := [.int (if v1 ≤ (x1 - x1 / (3 : Int32) * (3 : Int32)) then (0 : Int32) else (1 : Int32))]) ?_ (fun hj => ?_)
  · obtain ⟨hn, rfl⟩ := ckZ_ok hf
    exact x_iret hx hb hr hlk hn dX6_isThere_18
  · refine lv_icmp_ge (tgt := 17) hx hb dX6_isThere_10 (by decide) (fun c2 => ?_) (fun c2 => ?_)
    · refine lv_iconst (v := 0) hx hb dX6_isThere_17 (by decide) ?_
      exact (by rw [if_pos c2] at hj; exact hj)
    · refine lv_iconst (v := 1) hx hb dX6_isThere_13 (by decide) ?_
      refine lv_goto (tgt := 18) hx hb dX6_isThere_14 (by decide) ?_
      exact (by rw [if_neg c2] at hj; exact hj)
abbrev rmX6_joins : Room := { frames := 1, cells := 0, slots := 0, locals := 22 }
def fX6_joins (mo : Mo) (x1 : Int32) (x2 : Int32) : Option Int32 :=
  (fX6_isThere mo x1).bind fun v1 =>
  ((if v1 = (0 : Int32) then
  some (0 : Int32)
  else (fX6_isThere mo x2).bind fun v4 =>
  (if v4 = (0 : Int32) then
  some (0 : Int32)
  else (fX6_weightOf mo x1 (x2 - (3 : Int32))).bind fun v6 =>
  some v6))).bind fun v2 =>
  some v2
set_option maxHeartbeats 4000000 in
set_option maxRecDepth 100000 in
theorem kX6_joins (l : Launch) (E : xG) (uq : Nat → Nat) (mo : Mo) (x1 : Int32) (x2 : Int32) {r : Int32} (hf : fX6_joins mo x1 x2 = some r) : xPure l yX6_joins wsX6_joins rmX6_joins E [.ref (uq 0), .int x1, .int x2] (wM E uq mo) (.int r) := by
  refine Met.ofW (cc := cX6_joins) (maxL := 3) (ret := (some .int)) (by decide) rfl ?_
  intro p e s m args below meth c s₁ B hml hv
  obtain ⟨rfl, hP, hK⟩ := hv
  have hx := B.exec
  have hb := B.bytes
  have hr := B.returns
  have hts := atoms_spec (ws := wsX6_joins) B.pre
  have hown : s.vm.findClass RX6 = some m.cls := findClass_of_methodNamed B.named
  have hlk := B.notSynchronized
  have S : CallFix p m c cX6_joins 3 s _ wsX6_joins RX6 := ⟨hx, hb, hml, hown, hts⟩
  have hl := lv_entry ([.ref (uq 0), .int x1, .int x2]) (n := 3) (Nat.le_of_ble_eq_true rfl)
  rw [lg_entry_eq]
  generalize (lg_sl ([.ref (uq 0), .int x1, .int x2]) ++ List.replicate (3 - (lg_sl ([.ref (uq 0), .int x1, .int x2])).length) Slot.unset).toArray = ls at hl ⊢
  have hl : lv_has ls 3 [(0, .ref (uq 0)), (1, .int x1), (2, .int x2)] := hl
  unfold fX6_joins at hf
  refine lv_aload_n hx hb dX6_joins_0 rfl (lv_at hl 0 rfl) ?_
  refine lv_iload_n hx hb dX6_joins_1 rfl (lv_at hl 1 rfl) ?_
  obtain ⟨v1, h1, hf⟩ := ob hf
  refine x_pV (As := [.int x1]) (rest := []) S hK (kX6_isThere l E uq mo x1 h1) (cwV 1 hts gX6_joins_X6_isThere rfl rfl rfl (by decide +kernel) ⟨Nat.le_of_ble_eq_true rfl, Nat.le_of_ble_eq_true rfl⟩) hP 0 rfl rfl rfl rfl hl.1 (Nat.le_of_ble_eq_true rfl) dX6_joins_2 rfl ⟨Nat.zero_le _, Nat.zero_le _⟩ ?_
  obtain ⟨v2, h2, hf⟩ := ob hf
  refine x_cutL (fun ls => lv_has ls 3 [(0, .ref (uq 0)), (1, .int x1), (2, .int x2)]) (pc := 28) (st := [.int v2]) (fun ls hl => ?_) (fun hj => ?_)
  · obtain rfl := Option.some.inj hf
    exact x_iret hx hb hr hlk (vp_nar_int _) dX6_joins_28
  · have hf := h2
    refine lv_if_eq (tgt := 27) hx hb dX6_joins_5 (by decide) (fun c3 => ?_) (fun c3 => ?_)
    · have hf := (if_pos c3).symm.trans hf
      refine lv_iconst (v := 0) hx hb dX6_joins_27 (by decide) ?_
      obtain rfl := Option.some.inj hf
      exact hj ls (lv_sub hl [0, 1, 2] rfl)
    · have hf := (if_neg c3).symm.trans hf
      refine lv_aload_n hx hb dX6_joins_8 rfl (lv_at hl 0 rfl) ?_
      refine lv_iload_n hx hb dX6_joins_9 rfl (lv_at hl 2 rfl) ?_
      obtain ⟨v4, h4, hf⟩ := ob hf
      refine x_pV (As := [.int x2]) (rest := []) S hK (kX6_isThere l E uq mo x2 h4) (cwV 1 hts gX6_joins_X6_isThere rfl rfl rfl (by decide +kernel) ⟨Nat.le_of_ble_eq_true rfl, Nat.le_of_ble_eq_true rfl⟩) hP 0 rfl rfl rfl rfl hl.1 (Nat.le_of_ble_eq_true rfl) dX6_joins_10 rfl ⟨Nat.zero_le _, Nat.zero_le _⟩ ?_
      refine lv_if_eq (tgt := 27) hx hb dX6_joins_13 (by decide) (fun c5 => ?_) (fun c5 => ?_)
      · have hf := (if_pos c5).symm.trans hf
        refine lv_iconst (v := 0) hx hb dX6_joins_27 (by decide) ?_
        obtain rfl := Option.some.inj hf
        exact hj ls (lv_sub hl [0, 1, 2] rfl)
      · have hf := (if_neg c5).symm.trans hf
        refine lv_aload_n hx hb dX6_joins_16 rfl (lv_at hl 0 rfl) ?_
        refine lv_iload_n hx hb dX6_joins_17 rfl (lv_at hl 1 rfl) ?_
        refine lv_iload_n hx hb dX6_joins_18 rfl (lv_at hl 2 rfl) ?_
        refine lv_iconst (v := 3) hx hb dX6_joins_19 (by decide) ?_
        refine lv_isub hx hb dX6_joins_20 ?_
        obtain ⟨v6, h6, hf⟩ := ob hf
        refine x_pV (As := [.int x1, .int (x2 - (3 : Int32))]) (rest := []) S hK (kX6_weightOf l E uq mo x1 (x2 - (3 : Int32)) h6) (cwV 2 hts gX6_joins_X6_weightOf rfl rfl rfl (by decide +kernel) ⟨Nat.le_of_ble_eq_true rfl, Nat.le_of_ble_eq_true rfl⟩) hP 0 rfl rfl rfl rfl hl.1 (Nat.le_of_ble_eq_true rfl) dX6_joins_21 rfl ⟨Nat.zero_le _, Nat.zero_le _⟩ ?_
        refine lv_goto (tgt := 28) hx hb dX6_joins_24 (by decide) ?_
        obtain rfl := Option.some.inj hf
        exact hj ls (lv_sub hl [0, 1, 2] rfl)
abbrev rmX6_isJoined : Room := { frames := 2, cells := 0, slots := 0, locals := 44 }
def gX6_isJoined_4 (mo : Mo) (x1 : Int32) (rec : (Int32 × Int32) → Option (Int32 × Int32)) (u : Int32 × Int32) : Option (Int32 × Int32) :=
  (if (3 : Int32) ≤ u.2 then
  some (u.1, u.2)
  else ((if u.1 = (0 : Int32) then
  ((if (3 : Int32) ≤ x1 then
  (fX6_joins mo u.2 x1).bind fun v6 =>
  some v6
  else (fX6_joins mo x1 ((3 : Int32) + u.2)).bind fun v7 =>
  some v7)).bind fun v4 =>
  (if v4 ≤ (0 : Int32) then
  some (0 : Int32)
  else some (1 : Int32))
  else some (1 : Int32))).bind fun v2 =>
  rec (v2, (u.2 + (1 : Int32))))
set_option maxHeartbeats 4000000 in
set_option maxRecDepth 100000 in
theorem wX6_isJoined_4 {p : Program} {l : Launch} {e : Env} {s : State} {m : MethodId} {args : Array Value} {below : List Frame} {meth : Method} {c : Code} {Q : State → Prop} (S : CallFix p m c cX6_isJoined 4 s args wsX6_isJoined RX6) (E : xG) (hK : xK E s) (uq : Nat → Nat) (mo : Mo) (x1 : Int32) (hP : va_P (xD E) vwCl (wM E uq mo) s.heap) : ∀ (n : Nat) (u : Int32 × Int32) (r : Int32 × Int32), lp (gX6_isJoined_4 mo x1) n u = some r → ∀ (ls : Array Slot), lv_has ls 4 [(0, .ref (uq 0)), (1, .int x1), (2, .int u.1), (3, .int u.2)] → (∀ (ls : Array Slot), lv_has ls 4 [(0, .ref (uq 0)), (1, .int x1), (2, .int r.1), (3, .int r.2)] → W p l e rmX6_isJoined s m args below meth c s.heap [] 0 0 Q (F0 m 50 ls [])) → W p l e rmX6_isJoined s m args below meth c s.heap [] 0 0 Q (F0 m 4 ls []) := by
  obtain ⟨hx, hb, hml, hown, hts⟩ := id S
  intro n
  induction n with
  | zero =>
    intro u r hf
    exact absurd (show (none : Option _) = some r from hf) (fun q => by cases q)
  | succ n ih =>
    intro u r hf ls hl kx
    have hf : gX6_isJoined_4 mo x1 (lp (gX6_isJoined_4 mo x1) n) u = some r := hf
    unfold gX6_isJoined_4 at hf
    refine lv_iload_n hx hb dX6_isJoined_4 rfl (lv_at hl 3 rfl) ?_
    refine lv_iconst (v := 3) hx hb dX6_isJoined_5 (by decide) ?_
    refine lv_icmp_ge (tgt := 50) hx hb dX6_isJoined_6 (by decide) (fun c1 => ?_) (fun c1 => ?_)
    · have hf := (if_pos c1).symm.trans hf
      obtain rfl := Option.some.inj hf
      exact kx ls (lv_sub hl [0, 1, 2, 3] rfl)
    · have hf := (if_neg c1).symm.trans hf
      refine lv_iload_n hx hb dX6_isJoined_9 rfl (lv_at hl 2 rfl) ?_
      obtain ⟨v2, h2, hf⟩ := ob hf
      refine x_cutL (fun ls => lv_has ls 4 [(0, .ref (uq 0)), (1, .int x1), (2, .int u.1), (3, .int u.2)]) (pc := 43) (st := [.int v2]) (fun ls hl => ?_) (fun hj => ?_)
      · refine lv_istore_n (lv' := [(2, .int v2), (0, .ref (uq 0)), (1, .int x1), (3, .int u.2)]) hx hb dX6_isJoined_43 rfl hl (by decide) rfl (fun ls hl => ?_)
        refine lv_iinc (v := (u.2 + (1 : Int32))) (lv' := [(3, .int (u.2 + (1 : Int32))), (2, .int v2), (0, .ref (uq 0)), (1, .int x1)]) hx hb dX6_isJoined_44 hl (k := 3) rfl rfl (by decide) rfl (fun ls hl => ?_)
        refine lv_goto (tgt := 4) hx hb dX6_isJoined_47 (by decide) ?_
        exact ih (v2, (u.2 + (1 : Int32))) _ hf ls (lv_sub hl [2, 3, 1, 0] rfl) kx
      · have hf := h2
        refine lv_if_ne (tgt := 38) hx hb dX6_isJoined_10 (by decide) (fun c3 => ?_) (fun c3 => ?_)
        · have hf := (if_neg c3).symm.trans hf
          refine lv_iconst (v := 1) hx hb dX6_isJoined_38 (by decide) ?_
          refine lv_goto (tgt := 43) hx hb dX6_isJoined_39 (by decide) ?_
          obtain rfl := Option.some.inj hf
          exact hj ls (lv_sub hl [0, 1, 2, 3] rfl)
        · have hf := (if_pos c3).symm.trans hf
          refine lv_iload_n hx hb dX6_isJoined_13 rfl (lv_at hl 1 rfl) ?_
          refine lv_iconst (v := 3) hx hb dX6_isJoined_14 (by decide) ?_
          obtain ⟨v4, h4, hf⟩ := ob hf
          refine x_cutL (fun ls => lv_has ls 4 [(0, .ref (uq 0)), (1, .int x1), (2, .int u.1), (3, .int u.2)]) (pc := 35) (st := [.int v4]) (fun ls hl => ?_) (fun hj => ?_)
          · refine lv_if_le (tgt := 42) hx hb dX6_isJoined_35 (by decide) (fun c8 => ?_) (fun c8 => ?_)
            · have hf := (if_pos c8).symm.trans hf
              refine lv_iconst (v := 0) hx hb dX6_isJoined_42 (by decide) ?_
              obtain rfl := Option.some.inj hf
              exact hj ls (lv_sub hl [0, 1, 2, 3] rfl)
            · have hf := (if_neg c8).symm.trans hf
              refine lv_iconst (v := 1) hx hb dX6_isJoined_38 (by decide) ?_
              refine lv_goto (tgt := 43) hx hb dX6_isJoined_39 (by decide) ?_
              obtain rfl := Option.some.inj hf
              exact hj ls (lv_sub hl [0, 1, 2, 3] rfl)
          · have hf := h4
            refine lv_icmp_ge (tgt := 29) hx hb dX6_isJoined_15 (by decide) (fun c5 => ?_) (fun c5 => ?_)
            · have hf := (if_pos c5).symm.trans hf
              refine lv_aload_n hx hb dX6_isJoined_29 rfl (lv_at hl 0 rfl) ?_
              refine lv_iload_n hx hb dX6_isJoined_30 rfl (lv_at hl 3 rfl) ?_
              refine lv_iload_n hx hb dX6_isJoined_31 rfl (lv_at hl 1 rfl) ?_
              obtain ⟨v6, h6, hf⟩ := ob hf
              refine x_pV (As := [.int u.2, .int x1]) (rest := []) S hK (kX6_joins l E uq mo u.2 x1 h6) (cwV 2 hts gX6_isJoined_X6_joins rfl rfl rfl (by decide +kernel) ⟨Nat.le_of_ble_eq_true rfl, Nat.le_of_ble_eq_true rfl⟩) hP 0 rfl rfl rfl rfl hl.1 (Nat.le_of_ble_eq_true rfl) dX6_isJoined_32 rfl ⟨Nat.zero_le _, Nat.zero_le _⟩ ?_
              obtain rfl := Option.some.inj hf
              exact hj ls (lv_sub hl [0, 1, 2, 3] rfl)
            · have hf := (if_neg c5).symm.trans hf
              refine lv_aload_n hx hb dX6_isJoined_18 rfl (lv_at hl 0 rfl) ?_
              refine lv_iload_n hx hb dX6_isJoined_19 rfl (lv_at hl 1 rfl) ?_
              refine lv_iconst (v := 3) hx hb dX6_isJoined_20 (by decide) ?_
              refine lv_iload_n hx hb dX6_isJoined_21 rfl (lv_at hl 3 rfl) ?_
              refine lv_iadd hx hb dX6_isJoined_22 ?_
              obtain ⟨v7, h7, hf⟩ := ob hf
              refine x_pV (As := [.int x1, .int ((3 : Int32) + u.2)]) (rest := []) S hK (kX6_joins l E uq mo x1 ((3 : Int32) + u.2) h7) (cwV 2 hts gX6_isJoined_X6_joins rfl rfl rfl (by decide +kernel) ⟨Nat.le_of_ble_eq_true rfl, Nat.le_of_ble_eq_true rfl⟩) hP 0 rfl rfl rfl rfl hl.1 (Nat.le_of_ble_eq_true rfl) dX6_isJoined_23 rfl ⟨Nat.zero_le _, Nat.zero_le _⟩ ?_
              refine lv_goto (tgt := 35) hx hb dX6_isJoined_26 (by decide) ?_
              obtain rfl := Option.some.inj hf
              exact hj ls (lv_sub hl [0, 1, 2, 3] rfl)
def fX6_isJoined (mo : Mo) (x1 : Int32) : Option Int32 :=
  (lp (gX6_isJoined_4 mo x1) 1000 ((0 : Int32), (0 : Int32))).bind fun v1 =>
  ckZ v1.1
set_option maxHeartbeats 4000000 in
set_option maxRecDepth 100000 in
theorem kX6_isJoined (l : Launch) (E : xG) (uq : Nat → Nat) (mo : Mo) (x1 : Int32) {r : Int32} (hf : fX6_isJoined mo x1 = some r) : xPure l yX6_isJoined wsX6_isJoined rmX6_isJoined E [.ref (uq 0), .int x1] (wM E uq mo) (.int r) := by
  refine Met.ofW (cc := cX6_isJoined) (maxL := 4) (ret := (some .boolean)) (by decide) rfl ?_
  intro p e s m args below meth c s₁ B hml hv
  obtain ⟨rfl, hP, hK⟩ := hv
  have hx := B.exec
  have hb := B.bytes
  have hr := B.returns
  have hts := atoms_spec (ws := wsX6_isJoined) B.pre
  have hown : s.vm.findClass RX6 = some m.cls := findClass_of_methodNamed B.named
  have hlk := B.notSynchronized
  have S : CallFix p m c cX6_isJoined 4 s _ wsX6_isJoined RX6 := ⟨hx, hb, hml, hown, hts⟩
  have hl := lv_entry ([.ref (uq 0), .int x1]) (n := 4) (Nat.le_of_ble_eq_true rfl)
  rw [lg_entry_eq]
  generalize (lg_sl ([.ref (uq 0), .int x1]) ++ List.replicate (4 - (lg_sl ([.ref (uq 0), .int x1])).length) Slot.unset).toArray = ls at hl ⊢
  have hl : lv_has ls 4 [(0, .ref (uq 0)), (1, .int x1)] := hl
  unfold fX6_isJoined at hf
  refine lv_iconst (v := 0) hx hb dX6_isJoined_0 (by decide) ?_
  refine lv_istore_n (lv' := [(2, .int (0 : Int32)), (0, .ref (uq 0)), (1, .int x1)]) hx hb dX6_isJoined_1 rfl hl (by decide) rfl (fun ls hl => ?_)
  refine lv_iconst (v := 0) hx hb dX6_isJoined_2 (by decide) ?_
  refine lv_istore_n (lv' := [(3, .int (0 : Int32)), (2, .int (0 : Int32)), (0, .ref (uq 0)), (1, .int x1)]) hx hb dX6_isJoined_3 rfl hl (by decide) rfl (fun ls hl => ?_)
  obtain ⟨v1, h1, hf⟩ := ob hf
  refine wX6_isJoined_4 S E hK uq mo x1 hP 1000 _ _ h1 ls (lv_sub hl [2, 3, 1, 0] rfl) (fun ls hl => ?_)
  refine lv_iload_n hx hb dX6_isJoined_50 rfl (lv_at hl 2 rfl) ?_
  obtain ⟨hn, rfl⟩ := ckZ_ok hf
  exact x_iret hx hb hr hlk hn dX6_isJoined_51
abbrev rmX6_sumOfWeights : Room := { frames := 2, cells := 0, slots := 0, locals := 44 }
def gX6_sumOfWeights_4 (mo : Mo) (x1 : Int32) (rec : (Int32 × Int32) → Option (Int32 × Int32)) (u : Int32 × Int32) : Option (Int32 × Int32) :=
  (if (3 : Int32) ≤ u.2 then
  some (u.1, u.2)
  else ((if (3 : Int32) ≤ x1 then
  (fX6_joins mo u.2 x1).bind fun v4 =>
  some v4
  else (fX6_joins mo x1 ((3 : Int32) + u.2)).bind fun v5 =>
  some v5)).bind fun v2 =>
  rec ((u.1 + v2), (u.2 + (1 : Int32))))
set_option maxHeartbeats 4000000 in
set_option maxRecDepth 100000 in
theorem wX6_sumOfWeights_4 {p : Program} {l : Launch} {e : Env} {s : State} {m : MethodId} {args : Array Value} {below : List Frame} {meth : Method} {c : Code} {Q : State → Prop} (S : CallFix p m c cX6_sumOfWeights 4 s args wsX6_sumOfWeights RX6) (E : xG) (hK : xK E s) (uq : Nat → Nat) (mo : Mo) (x1 : Int32) (hP : va_P (xD E) vwCl (wM E uq mo) s.heap) : ∀ (n : Nat) (u : Int32 × Int32) (r : Int32 × Int32), lp (gX6_sumOfWeights_4 mo x1) n u = some r → ∀ (ls : Array Slot), lv_has ls 4 [(0, .ref (uq 0)), (1, .int x1), (2, .int u.1), (3, .int u.2)] → (∀ (ls : Array Slot), lv_has ls 4 [(0, .ref (uq 0)), (1, .int x1), (2, .int r.1), (3, .int r.2)] → W p l e rmX6_sumOfWeights s m args below meth c s.heap [] 0 0 Q (F0 m 40 ls [])) → W p l e rmX6_sumOfWeights s m args below meth c s.heap [] 0 0 Q (F0 m 4 ls []) := by
  obtain ⟨hx, hb, hml, hown, hts⟩ := id S
  intro n
  induction n with
  | zero =>
    intro u r hf
    exact absurd (show (none : Option _) = some r from hf) (fun q => by cases q)
  | succ n ih =>
    intro u r hf ls hl kx
    have hf : gX6_sumOfWeights_4 mo x1 (lp (gX6_sumOfWeights_4 mo x1) n) u = some r := hf
    unfold gX6_sumOfWeights_4 at hf
    refine lv_iload_n hx hb dX6_sumOfWeights_4 rfl (lv_at hl 3 rfl) ?_
    refine lv_iconst (v := 3) hx hb dX6_sumOfWeights_5 (by decide) ?_
    refine lv_icmp_ge (tgt := 40) hx hb dX6_sumOfWeights_6 (by decide) (fun c1 => ?_) (fun c1 => ?_)
    · have hf := (if_pos c1).symm.trans hf
      obtain rfl := Option.some.inj hf
      exact kx ls (lv_sub hl [0, 1, 2, 3] rfl)
    · have hf := (if_neg c1).symm.trans hf
      refine lv_iload_n hx hb dX6_sumOfWeights_9 rfl (lv_at hl 2 rfl) ?_
      refine lv_iload_n hx hb dX6_sumOfWeights_10 rfl (lv_at hl 1 rfl) ?_
      refine lv_iconst (v := 3) hx hb dX6_sumOfWeights_11 (by decide) ?_
      obtain ⟨v2, h2, hf⟩ := ob hf
      refine x_cutL (fun ls => lv_has ls 4 [(0, .ref (uq 0)), (1, .int x1), (2, .int u.1), (3, .int u.2)]) (pc := 32) (st := [.int v2, .int u.1]) (fun ls hl => ?_) (fun hj => ?_)
      · refine lv_iadd hx hb dX6_sumOfWeights_32 ?_
        refine lv_istore_n (lv' := [(2, .int (u.1 + v2)), (0, .ref (uq 0)), (1, .int x1), (3, .int u.2)]) hx hb dX6_sumOfWeights_33 rfl hl (by decide) rfl (fun ls hl => ?_)
        refine lv_iinc (v := (u.2 + (1 : Int32))) (lv' := [(3, .int (u.2 + (1 : Int32))), (2, .int (u.1 + v2)), (0, .ref (uq 0)), (1, .int x1)]) hx hb dX6_sumOfWeights_34 hl (k := 3) rfl rfl (by decide) rfl (fun ls hl => ?_)
        refine lv_goto (tgt := 4) hx hb dX6_sumOfWeights_37 (by decide) ?_
        exact ih ((u.1 + v2), (u.2 + (1 : Int32))) _ hf ls (lv_sub hl [2, 3, 1, 0] rfl) kx
      · have hf := h2
        refine lv_icmp_ge (tgt := 26) hx hb dX6_sumOfWeights_12 (by decide) (fun c3 => ?_) (fun c3 => ?_)
        · have hf := (if_pos c3).symm.trans hf
          refine lv_aload_n hx hb dX6_sumOfWeights_26 rfl (lv_at hl 0 rfl) ?_
          refine lv_iload_n hx hb dX6_sumOfWeights_27 rfl (lv_at hl 3 rfl) ?_
          refine lv_iload_n hx hb dX6_sumOfWeights_28 rfl (lv_at hl 1 rfl) ?_
          obtain ⟨v4, h4, hf⟩ := ob hf
          refine x_pV (As := [.int u.2, .int x1]) (rest := [.int u.1]) S hK (kX6_joins l E uq mo u.2 x1 h4) (cwV 2 hts gX6_sumOfWeights_X6_joins rfl rfl rfl (by decide +kernel) ⟨Nat.le_of_ble_eq_true rfl, Nat.le_of_ble_eq_true rfl⟩) hP 0 rfl rfl rfl rfl hl.1 (Nat.le_of_ble_eq_true rfl) dX6_sumOfWeights_29 rfl ⟨Nat.zero_le _, Nat.zero_le _⟩ ?_
          obtain rfl := Option.some.inj hf
          exact hj ls (lv_sub hl [0, 1, 2, 3] rfl)
        · have hf := (if_neg c3).symm.trans hf
          refine lv_aload_n hx hb dX6_sumOfWeights_15 rfl (lv_at hl 0 rfl) ?_
          refine lv_iload_n hx hb dX6_sumOfWeights_16 rfl (lv_at hl 1 rfl) ?_
          refine lv_iconst (v := 3) hx hb dX6_sumOfWeights_17 (by decide) ?_
          refine lv_iload_n hx hb dX6_sumOfWeights_18 rfl (lv_at hl 3 rfl) ?_
          refine lv_iadd hx hb dX6_sumOfWeights_19 ?_
          obtain ⟨v5, h5, hf⟩ := ob hf
          refine x_pV (As := [.int x1, .int ((3 : Int32) + u.2)]) (rest := [.int u.1]) S hK (kX6_joins l E uq mo x1 ((3 : Int32) + u.2) h5) (cwV 2 hts gX6_sumOfWeights_X6_joins rfl rfl rfl (by decide +kernel) ⟨Nat.le_of_ble_eq_true rfl, Nat.le_of_ble_eq_true rfl⟩) hP 0 rfl rfl rfl rfl hl.1 (Nat.le_of_ble_eq_true rfl) dX6_sumOfWeights_20 rfl ⟨Nat.zero_le _, Nat.zero_le _⟩ ?_
          refine lv_goto (tgt := 32) hx hb dX6_sumOfWeights_23 (by decide) ?_
          obtain rfl := Option.some.inj hf
          exact hj ls (lv_sub hl [0, 1, 2, 3] rfl)
def fX6_sumOfWeights (mo : Mo) (x1 : Int32) : Option Int32 :=
  (lp (gX6_sumOfWeights_4 mo x1) 1000 ((0 : Int32), (0 : Int32))).bind fun v1 =>
  some v1.1
set_option maxHeartbeats 4000000 in
set_option maxRecDepth 100000 in
theorem kX6_sumOfWeights (l : Launch) (E : xG) (uq : Nat → Nat) (mo : Mo) (x1 : Int32) {r : Int32} (hf : fX6_sumOfWeights mo x1 = some r) : xPure l yX6_sumOfWeights wsX6_sumOfWeights rmX6_sumOfWeights E [.ref (uq 0), .int x1] (wM E uq mo) (.int r) := by
  refine Met.ofW (cc := cX6_sumOfWeights) (maxL := 4) (ret := (some .int)) (by decide) rfl ?_
  intro p e s m args below meth c s₁ B hml hv
  obtain ⟨rfl, hP, hK⟩ := hv
  have hx := B.exec
  have hb := B.bytes
  have hr := B.returns
  have hts := atoms_spec (ws := wsX6_sumOfWeights) B.pre
  have hown : s.vm.findClass RX6 = some m.cls := findClass_of_methodNamed B.named
  have hlk := B.notSynchronized
  have S : CallFix p m c cX6_sumOfWeights 4 s _ wsX6_sumOfWeights RX6 := ⟨hx, hb, hml, hown, hts⟩
  have hl := lv_entry ([.ref (uq 0), .int x1]) (n := 4) (Nat.le_of_ble_eq_true rfl)
  rw [lg_entry_eq]
  generalize (lg_sl ([.ref (uq 0), .int x1]) ++ List.replicate (4 - (lg_sl ([.ref (uq 0), .int x1])).length) Slot.unset).toArray = ls at hl ⊢
  have hl : lv_has ls 4 [(0, .ref (uq 0)), (1, .int x1)] := hl
  unfold fX6_sumOfWeights at hf
  refine lv_iconst (v := 0) hx hb dX6_sumOfWeights_0 (by decide) ?_
  refine lv_istore_n (lv' := [(2, .int (0 : Int32)), (0, .ref (uq 0)), (1, .int x1)]) hx hb dX6_sumOfWeights_1 rfl hl (by decide) rfl (fun ls hl => ?_)
  refine lv_iconst (v := 0) hx hb dX6_sumOfWeights_2 (by decide) ?_
  refine lv_istore_n (lv' := [(3, .int (0 : Int32)), (2, .int (0 : Int32)), (0, .ref (uq 0)), (1, .int x1)]) hx hb dX6_sumOfWeights_3 rfl hl (by decide) rfl (fun ls hl => ?_)
  obtain ⟨v1, h1, hf⟩ := ob hf
  refine wX6_sumOfWeights_4 S E hK uq mo x1 hP 1000 _ _ h1 ls (lv_sub hl [2, 3, 1, 0] rfl) (fun ls hl => ?_)
  refine lv_iload_n hx hb dX6_sumOfWeights_40 rfl (lv_at hl 2 rfl) ?_
  obtain rfl := Option.some.inj hf
  exact x_iret hx hb hr hlk (vp_nar_int _) dX6_sumOfWeights_41
abbrev rmX6_wantedOf : Room := { frames := 2, cells := 0, slots := 0, locals := 47 }
theorem mX6_wantedOf_0 : Cond.fieldLink RX6 7 "EvenWhiteModel" "now" "[I" ∈ wsX6_wantedOf := by decide +kernel
theorem inX6_wantedOf_6 : ∀ w ∈ u_ws RX6 TX6 17, w ∈ wsX6_wantedOf := by decide +kernel
def gX6_wantedOf_5 (mo : Mo) (x1 : Int32) (rec : (Int64 × Int32) → Option (Int64 × Int32)) (u : Int64 × Int32) : Option (Int64 × Int32) :=
  (if (3 : Int32) ≤ u.2 then
  some (u.1, u.2)
  else (fX6_joins mo (if (3 : Int32) ≤ x1 then u.2 else x1) (if (3 : Int32) ≤ x1 then x1 else ((3 : Int32) + u.2))).bind fun v4 =>
  ((if v4 ≤ (0 : Int32) then
  some (0 : Int64)
  else (rdI (Mo_now mo) 63 (62 : Int32)).bind fun v7 =>
  (fX6_bare mo (if (3 : Int32) ≤ x1 then u.2 else x1) ((if (3 : Int32) ≤ x1 then x1 else ((3 : Int32) + u.2)) - (3 : Int32))).bind fun v8 =>
  some (Int32.toInt64 (v4 * (v7 - v8))))).bind fun v5 =>
  rec ((u.1 + v5), (u.2 + (1 : Int32))))
set_option maxHeartbeats 4000000 in
set_option maxRecDepth 100000 in
theorem wX6_wantedOf_5 {p : Program} {l : Launch} {e : Env} {s : State} {m : MethodId} {args : Array Value} {below : List Frame} {meth : Method} {c : Code} {Q : State → Prop} (S : CallFix p m c cX6_wantedOf 8 s args wsX6_wantedOf RX6) (E : xG) (hK : xK E s) (uq : Nat → Nat) (mo : Mo) (x1 : Int32) (hP : va_P (xD E) vwCl (wM E uq mo) s.heap) : ∀ (n : Nat) (u : Int64 × Int32) (r : Int64 × Int32), lp (gX6_wantedOf_5 mo x1) n u = some r → ∀ (ls : Array Slot), lv_has ls 8 [(0, .ref (uq 0)), (1, .int x1), (2, .long u.1), (4, .int u.2)] → (∀ (ls : Array Slot), lv_has ls 8 [(0, .ref (uq 0)), (1, .int x1), (2, .long r.1), (4, .int r.2)] → W p l e rmX6_wantedOf s m args below meth c s.heap [] 0 0 Q (F0 m 89 ls [])) → W p l e rmX6_wantedOf s m args below meth c s.heap [] 0 0 Q (F0 m 5 ls []) := by
  obtain ⟨hx, hb, hml, hown, hts⟩ := id S
  intro n
  induction n with
  | zero =>
    intro u r hf
    exact absurd (show (none : Option _) = some r from hf) (fun q => by cases q)
  | succ n ih =>
    intro u r hf ls hl kx
    have hf : gX6_wantedOf_5 mo x1 (lp (gX6_wantedOf_5 mo x1) n) u = some r := hf
    unfold gX6_wantedOf_5 at hf
    refine lv_iload hx hb dX6_wantedOf_5 (lv_at hl 3 rfl) ?_
    refine lv_iconst (v := 3) hx hb dX6_wantedOf_7 (by decide) ?_
    refine lv_icmp_ge (tgt := 89) hx hb dX6_wantedOf_8 (by decide) (fun c1 => ?_) (fun c1 => ?_)
    · have hf := (if_pos c1).symm.trans hf
      obtain rfl := Option.some.inj hf
      exact kx ls (lv_sub hl [0, 1, 2, 3] rfl)
    · have hf := (if_neg c1).symm.trans hf
      refine lv_iload_n hx hb dX6_wantedOf_11 rfl (lv_at hl 1 rfl) ?_
      refine lv_iconst (v := 3) hx hb dX6_wantedOf_12 (by decide) ?_
      refine x_cut (pc := 22) (ls := ls) (st := [.int (if (3 : Int32) ≤ x1 then u.2 else x1)]) ?_ (fun hj => ?_)
      · refine lv_istore (lv' := [(5, .int (if (3 : Int32) ≤ x1 then u.2 else x1)), (0, .ref (uq 0)), (1, .int x1), (2, .long u.1), (4, .int u.2)]) hx hb dX6_wantedOf_22 hl (by decide) rfl (fun ls hl => ?_)
        refine lv_iload_n hx hb dX6_wantedOf_24 rfl (lv_at hl 2 rfl) ?_
        refine lv_iconst (v := 3) hx hb dX6_wantedOf_25 (by decide) ?_
        refine x_cut (pc := 37) (ls := ls) (st := [.int (if (3 : Int32) ≤ x1 then x1 else ((3 : Int32) + u.2))]) ?_ (fun hj => ?_)
        · refine lv_istore (lv' := [(6, .int (if (3 : Int32) ≤ x1 then x1 else ((3 : Int32) + u.2))), (5, .int (if (3 : Int32) ≤ x1 then u.2 else x1)), (0, .ref (uq 0)), (1, .int x1), (2, .long u.1), (4, .int u.2)]) hx hb dX6_wantedOf_37 hl (by decide) rfl (fun ls hl => ?_)
          refine lv_aload_n hx hb dX6_wantedOf_39 rfl (lv_at hl 2 rfl) ?_
          refine lv_iload hx hb dX6_wantedOf_40 (lv_at hl 1 rfl) ?_
          refine lv_iload hx hb dX6_wantedOf_42 (lv_at hl 0 rfl) ?_
          obtain ⟨v4, h4, hf⟩ := ob hf
          refine x_pV (As := [.int (if (3 : Int32) ≤ x1 then u.2 else x1), .int (if (3 : Int32) ≤ x1 then x1 else ((3 : Int32) + u.2))]) (rest := []) S hK (kX6_joins l E uq mo (if (3 : Int32) ≤ x1 then u.2 else x1) (if (3 : Int32) ≤ x1 then x1 else ((3 : Int32) + u.2)) h4) (cwV 2 hts gX6_wantedOf_X6_joins rfl rfl rfl (by decide +kernel) ⟨Nat.le_of_ble_eq_true rfl, Nat.le_of_ble_eq_true rfl⟩) hP 0 rfl rfl rfl rfl hl.1 (Nat.le_of_ble_eq_true rfl) dX6_wantedOf_44 rfl ⟨Nat.zero_le _, Nat.zero_le _⟩ ?_
          refine lv_istore (lv' := [(7, .int v4), (6, .int (if (3 : Int32) ≤ x1 then x1 else ((3 : Int32) + u.2))), (5, .int (if (3 : Int32) ≤ x1 then u.2 else x1)), (0, .ref (uq 0)), (1, .int x1), (2, .long u.1), (4, .int u.2)]) hx hb dX6_wantedOf_47 hl (by decide) rfl (fun ls hl => ?_)
          refine lv_lload_n hx hb dX6_wantedOf_49 rfl (lv_at hl 5 rfl) ?_
          refine lv_iload hx hb dX6_wantedOf_50 (lv_at hl 0 rfl) ?_
          obtain ⟨v5, h5, hf⟩ := ob hf
          refine x_cutL (fun ls => lv_has ls 8 [(0, .ref (uq 0)), (1, .int x1), (2, .long u.1), (4, .int u.2), (5, .int (if (3 : Int32) ≤ x1 then u.2 else x1)), (6, .int (if (3 : Int32) ≤ x1 then x1 else ((3 : Int32) + u.2))), (7, .int v4)]) (pc := 81) (st := [.long v5, .long u.1]) (fun ls hl => ?_) (fun hj => ?_)
          · refine lv_ladd hx hb dX6_wantedOf_81 ?_
            refine lv_lstore_n (lv' := [(2, .long (u.1 + v5)), (0, .ref (uq 0)), (1, .int x1), (4, .int u.2), (5, .int (if (3 : Int32) ≤ x1 then u.2 else x1)), (6, .int (if (3 : Int32) ≤ x1 then x1 else ((3 : Int32) + u.2))), (7, .int v4)]) hx hb dX6_wantedOf_82 rfl hl (by decide) rfl (fun ls hl => ?_)
            refine lv_iinc (v := (u.2 + (1 : Int32))) (lv' := [(4, .int (u.2 + (1 : Int32))), (2, .long (u.1 + v5)), (0, .ref (uq 0)), (1, .int x1), (5, .int (if (3 : Int32) ≤ x1 then u.2 else x1)), (6, .int (if (3 : Int32) ≤ x1 then x1 else ((3 : Int32) + u.2))), (7, .int v4)]) hx hb dX6_wantedOf_83 hl (k := 3) rfl rfl (by decide) rfl (fun ls hl => ?_)
            refine lv_goto (tgt := 5) hx hb dX6_wantedOf_86 (by decide) ?_
            exact ih ((u.1 + v5), (u.2 + (1 : Int32))) _ hf ls (lv_sub hl [2, 3, 1, 0] rfl) kx
          · have hf := h5
            refine lv_if_le (tgt := 80) hx hb dX6_wantedOf_52 (by decide) (fun c6 => ?_) (fun c6 => ?_)
            · have hf := (if_pos c6).symm.trans hf
              refine lv_lconst (v := 0) hx hb dX6_wantedOf_80 (by decide) ?_
              obtain rfl := Option.some.inj hf
              exact hj ls (lv_sub hl [3, 4, 5, 6, 2, 1, 0] rfl)
            · have hf := (if_neg c6).symm.trans hf
              refine lv_iload hx hb dX6_wantedOf_55 (lv_at hl 0 rfl) ?_
              refine lv_aload_n hx hb dX6_wantedOf_57 rfl (lv_at hl 3 rfl) ?_
              refine x_get hx hb hts inX6_wantedOf_6 hown hK hP 0 rfl rfl 0 (by decide) mX6_wantedOf_0 rfl dX6_wantedOf_58 ?_
              refine lv_bipush (v := 62) hx hb dX6_wantedOf_61 (by decide) ?_
              obtain ⟨v7, h7, hf⟩ := ob hf
              refine x_iald hx hb hK hP 1 rfl h7 dX6_wantedOf_63 ?_
              refine lv_aload_n hx hb dX6_wantedOf_64 rfl (lv_at hl 3 rfl) ?_
              refine lv_iload hx hb dX6_wantedOf_65 (lv_at hl 2 rfl) ?_
              refine lv_iload hx hb dX6_wantedOf_67 (lv_at hl 1 rfl) ?_
              refine lv_iconst (v := 3) hx hb dX6_wantedOf_69 (by decide) ?_
              refine lv_isub hx hb dX6_wantedOf_70 ?_
              obtain ⟨v8, h8, hf⟩ := ob hf
              refine x_pV (As := [.int (if (3 : Int32) ≤ x1 then u.2 else x1), .int ((if (3 : Int32) ≤ x1 then x1 else ((3 : Int32) + u.2)) - (3 : Int32))]) (rest := [.int v7, .int v4, .long u.1]) S hK (kX6_bare l E uq mo (if (3 : Int32) ≤ x1 then u.2 else x1) ((if (3 : Int32) ≤ x1 then x1 else ((3 : Int32) + u.2)) - (3 : Int32)) h8) (cwV 2 hts gX6_wantedOf_X6_bare rfl rfl rfl (by decide +kernel) ⟨Nat.le_of_ble_eq_true rfl, Nat.le_of_ble_eq_true rfl⟩) hP 0 rfl rfl rfl rfl hl.1 (Nat.le_of_ble_eq_true rfl) dX6_wantedOf_71 rfl ⟨Nat.zero_le _, Nat.zero_le _⟩ ?_
              refine lv_isub hx hb dX6_wantedOf_74 ?_
              refine lv_imul hx hb dX6_wantedOf_75 ?_
              refine lv_i2l (v := (Int32.toInt64 (v4 * (v7 - v8)))) hx hb dX6_wantedOf_76 rfl ?_
              refine lv_goto (tgt := 81) hx hb dX6_wantedOf_77 (by decide) ?_
              obtain rfl := Option.some.inj hf
              exact hj ls (lv_sub hl [3, 4, 5, 6, 2, 1, 0] rfl)
        · refine lv_icmp_ge (tgt := 36) hx hb dX6_wantedOf_26 (by decide) (fun c3 => ?_) (fun c3 => ?_)
          · refine lv_iload_n hx hb dX6_wantedOf_36 rfl (lv_at hl 2 rfl) ?_
            exact (by rw [if_pos c3] at hj; exact hj)
          · refine lv_iconst (v := 3) hx hb dX6_wantedOf_29 (by decide) ?_
            refine lv_iload hx hb dX6_wantedOf_30 (lv_at hl 4 rfl) ?_
            refine lv_iadd hx hb dX6_wantedOf_32 ?_
            refine lv_goto (tgt := 37) hx hb dX6_wantedOf_33 (by decide) ?_
            exact (by rw [if_neg c3] at hj; exact hj)
      · refine lv_icmp_ge (tgt := 20) hx hb dX6_wantedOf_13 (by decide) (fun c2 => ?_) (fun c2 => ?_)
        · refine lv_iload hx hb dX6_wantedOf_20 (lv_at hl 3 rfl) ?_
          exact (by rw [if_pos c2] at hj; exact hj)
        · refine lv_iload_n hx hb dX6_wantedOf_16 rfl (lv_at hl 1 rfl) ?_
          refine lv_goto (tgt := 22) hx hb dX6_wantedOf_17 (by decide) ?_
          exact (by rw [if_neg c2] at hj; exact hj)
def fX6_wantedOf (mo : Mo) (x1 : Int32) : Option Int64 :=
  (lp (gX6_wantedOf_5 mo x1) 1000 ((0 : Int64), (0 : Int32))).bind fun v1 =>
  some v1.1
set_option maxHeartbeats 4000000 in
set_option maxRecDepth 100000 in
theorem kX6_wantedOf (l : Launch) (E : xG) (uq : Nat → Nat) (mo : Mo) (x1 : Int32) {r : Int64} (hf : fX6_wantedOf mo x1 = some r) : xPure l yX6_wantedOf wsX6_wantedOf rmX6_wantedOf E [.ref (uq 0), .int x1] (wM E uq mo) (.long r) := by
  refine Met.ofW (cc := cX6_wantedOf) (maxL := 8) (ret := (some .long)) (by decide) rfl ?_
  intro p e s m args below meth c s₁ B hml hv
  obtain ⟨rfl, hP, hK⟩ := hv
  have hx := B.exec
  have hb := B.bytes
  have hr := B.returns
  have hts := atoms_spec (ws := wsX6_wantedOf) B.pre
  have hown : s.vm.findClass RX6 = some m.cls := findClass_of_methodNamed B.named
  have hlk := B.notSynchronized
  have S : CallFix p m c cX6_wantedOf 8 s _ wsX6_wantedOf RX6 := ⟨hx, hb, hml, hown, hts⟩
  have hl := lv_entry ([.ref (uq 0), .int x1]) (n := 8) (Nat.le_of_ble_eq_true rfl)
  rw [lg_entry_eq]
  generalize (lg_sl ([.ref (uq 0), .int x1]) ++ List.replicate (8 - (lg_sl ([.ref (uq 0), .int x1])).length) Slot.unset).toArray = ls at hl ⊢
  have hl : lv_has ls 8 [(0, .ref (uq 0)), (1, .int x1)] := hl
  unfold fX6_wantedOf at hf
  refine lv_lconst (v := 0) hx hb dX6_wantedOf_0 (by decide) ?_
  refine lv_lstore_n (lv' := [(2, .long (0 : Int64)), (0, .ref (uq 0)), (1, .int x1)]) hx hb dX6_wantedOf_1 rfl hl (by decide) rfl (fun ls hl => ?_)
  refine lv_iconst (v := 0) hx hb dX6_wantedOf_2 (by decide) ?_
  refine lv_istore (lv' := [(4, .int (0 : Int32)), (2, .long (0 : Int64)), (0, .ref (uq 0)), (1, .int x1)]) hx hb dX6_wantedOf_3 hl (by decide) rfl (fun ls hl => ?_)
  obtain ⟨v1, h1, hf⟩ := ob hf
  refine wX6_wantedOf_5 S E hK uq mo x1 hP 1000 _ _ h1 ls (lv_sub hl [2, 3, 1, 0] rfl) (fun ls hl => ?_)
  refine lv_lload_n hx hb dX6_wantedOf_89 rfl (lv_at hl 2 rfl) ?_
  obtain rfl := Option.some.inj hf
  exact x_lret hx hb hr hlk dX6_wantedOf_90
abbrev rmX6_beginLetters : Room := { frames := 1, cells := 0, slots := 0, locals := 25 }
theorem mX6_beginLetters_0 : Cond.fieldLink RX6 7 "EvenWhiteModel" "now" "[I" ∈ wsX6_beginLetters := by decide +kernel
theorem mX6_beginLetters_1 : Cond.constantLong RX6 59 (48) ∈ wsX6_beginLetters := by decide +kernel
theorem mX6_beginLetters_2 : Cond.constantLong RX6 61 (50) ∈ wsX6_beginLetters := by decide +kernel
theorem inX6_beginLetters_6 : ∀ w ∈ u_ws RX6 TX6 17, w ∈ wsX6_beginLetters := by decide +kernel
def gX6_beginLetters_2 (x1 : Int32) (rec : (Int32 × Mo) → Option (Int32 × Mo)) (u : Int32 × Mo) : Option (Int32 × Mo) :=
  (if (60 : Int32) ≤ u.1 then
  some (u.1, u.2)
  else (fX6_in (Int32.toInt64 u.1) (48 : Int64) (50 : Int64)).bind fun v2 =>
  (wrI (Mo_now u.2) 63 u.1 (if v2 = (0 : Int32) then (0 : Int32) else (10 : Int32))).bind fun v4 =>
  rec ((u.1 + (1 : Int32)), (Mo_set_now u.2 v4)))
set_option maxHeartbeats 4000000 in
set_option maxRecDepth 100000 in
theorem wX6_beginLetters_2 {p : Program} {l : Launch} {e : Env} {s : State} {m : MethodId} {args : Array Value} {below : List Frame} {meth : Method} {c : Code} {Q : State → Prop} (S : CallFix p m c cX6_beginLetters 3 s args wsX6_beginLetters RX6) (E : xG) (hK : xK E s) (uq : Nat → Nat) (x1 : Int32) (A : Nat → Prop) (H0 : Heap) : ∀ (n : Nat) (u : Int32 × Mo) (r : Int32 × Mo), lp (gX6_beginLetters_2 x1) n u = some r → ∀ (H : Heap) (locs : List Loc), va_P (xD E) vwCl (wM E uq u.2) H → va_D A (wM E uq u.2) → va_S A H0 H locs → ∀ (ls : Array Slot), lv_has ls 3 [(0, .ref (uq 0)), (1, .int x1), (2, .int u.1)] → (∀ (H : Heap) (locs : List Loc), va_P (xD E) vwCl (wM E uq r.2) H → va_D A (wM E uq r.2) → va_S A H0 H locs → ∀ (ls : Array Slot), lv_has ls 3 [(0, .ref (uq 0)), (1, .int x1), (2, .int r.1)] → W p l e rmX6_beginLetters s m args below meth c H locs 0 0 Q (F0 m 40 ls [])) → W p l e rmX6_beginLetters s m args below meth c H locs 0 0 Q (F0 m 2 ls []) := by
  obtain ⟨hx, hb, hml, hown, hts⟩ := id S
  intro n
  induction n with
  | zero =>
    intro u r hf
    exact absurd (show (none : Option _) = some r from hf) (fun q => by cases q)
  | succ n ih =>
    intro u r hf H locs hP hD hS ls hl kx
    have hf : gX6_beginLetters_2 x1 (lp (gX6_beginLetters_2 x1) n) u = some r := hf
    unfold gX6_beginLetters_2 at hf
    refine lv_iload_n hx hb dX6_beginLetters_2 rfl (lv_at hl 2 rfl) ?_
    refine lv_bipush (v := 60) hx hb dX6_beginLetters_3 (by decide) ?_
    refine lv_icmp_ge (tgt := 40) hx hb dX6_beginLetters_5 (by decide) (fun c1 => ?_) (fun c1 => ?_)
    · have hf := (if_pos c1).symm.trans hf
      obtain rfl := Option.some.inj hf
      exact kx _ _ hP hD hS ls (lv_sub hl [0, 1, 2] rfl)
    · have hf := (if_neg c1).symm.trans hf
      refine lv_aload_n hx hb dX6_beginLetters_8 rfl (lv_at hl 0 rfl) ?_
      refine x_get hx hb hts inX6_beginLetters_6 hown hK hP 0 rfl rfl 0 (by decide) mX6_beginLetters_0 rfl dX6_beginLetters_9 ?_
      refine lv_iload_n hx hb dX6_beginLetters_12 rfl (lv_at hl 2 rfl) ?_
      refine lv_iload_n hx hb dX6_beginLetters_13 rfl (lv_at hl 2 rfl) ?_
      refine lv_i2l (v := (Int32.toInt64 u.1)) hx hb dX6_beginLetters_14 rfl ?_
      refine lv_ldc2 hx hb hown (hts _ mX6_beginLetters_1) dX6_beginLetters_15 ?_
      refine lv_ldc2 hx hb hown (hts _ mX6_beginLetters_2) dX6_beginLetters_18 ?_
      obtain ⟨v2, h2, hf⟩ := ob hf
      refine x_pS (As := [.long (Int32.toInt64 u.1), .long (48 : Int64), .long (50 : Int64)]) (rest := [.int u.1, .ref (uq 1)]) S hK (kX6_in l E (Int32.toInt64 u.1) (48 : Int64) (50 : Int64) h2) (va_cwS 3 hts gX6_beginLetters_X6_in rfl rfl rfl (by decide +kernel) ⟨Nat.le_of_ble_eq_true rfl, Nat.le_of_ble_eq_true rfl⟩) x_nil rfl hl.1 (Nat.le_of_ble_eq_true rfl) dX6_beginLetters_21 rfl ⟨Nat.zero_le _, Nat.zero_le _⟩ ?_
      refine x_cut (pc := 33) (ls := ls) (st := [.int (if v2 = (0 : Int32) then (0 : Int32) else (10 : Int32)), .int u.1, .ref (uq 1)]) ?_ (fun hj => ?_)
      · obtain ⟨v4, h4, hf⟩ := ob hf
        refine x_iast hx hb hK hP hD hS 1 rfl h4 dX6_beginLetters_33 (fun H locs hP hD hS => ?_)
        have hP : va_P (xD E) vwCl (wM E uq (Mo_set_now u.2 v4)) H := hP
        have hD : va_D A (wM E uq (Mo_set_now u.2 v4)) := hD
        refine lv_iinc (v := (u.1 + (1 : Int32))) (lv' := [(2, .int (u.1 + (1 : Int32))), (0, .ref (uq 0)), (1, .int x1)]) hx hb dX6_beginLetters_34 hl (k := 2) rfl rfl (by decide) rfl (fun ls hl => ?_)
        refine lv_goto (tgt := 2) hx hb dX6_beginLetters_37 (by decide) ?_
        exact ih ((u.1 + (1 : Int32)), (Mo_set_now u.2 v4)) _ hf _ _ hP hD hS ls (lv_sub hl [1, 2, 0] rfl) kx
      · refine lv_if_eq (tgt := 32) hx hb dX6_beginLetters_24 (by decide) (fun c3 => ?_) (fun c3 => ?_)
        · refine lv_iconst (v := 0) hx hb dX6_beginLetters_32 (by decide) ?_
          exact (by rw [if_pos c3] at hj; exact hj)
        · refine lv_bipush (v := 10) hx hb dX6_beginLetters_27 (by decide) ?_
          refine lv_goto (tgt := 33) hx hb dX6_beginLetters_29 (by decide) ?_
          exact (by rw [if_neg c3] at hj; exact hj)
def fX6_beginLetters (mo : Mo) (x1 : Int32) : Option Mo :=
  (lp (gX6_beginLetters_2 x1) 1000 ((0 : Int32), mo)).bind fun v1 =>
  (wrI (Mo_now v1.2) 63 (60 : Int32) x1).bind fun v2 =>
  some (Mo_set_now v1.2 v2)
set_option maxHeartbeats 4000000 in
set_option maxRecDepth 100000 in
theorem kX6_beginLetters (l : Launch) (E : xG) (uq : Nat → Nat) (mo : Mo) (x1 : Int32) {r : Mo} (hf : fX6_beginLetters mo x1 = some r) : xMut l yX6_beginLetters wsX6_beginLetters rmX6_beginLetters E [.ref (uq 0), .int x1] (wM E uq mo) none (wM E uq r) := by
  refine Met.ofW (cc := cX6_beginLetters) (maxL := 3) (ret := none) (by decide) rfl ?_
  intro p e s m args below meth c s₁ B hml hv
  obtain ⟨rfl, hP, hK, hD0⟩ := hv
  have hx := B.exec
  have hb := B.bytes
  have hr := B.returns
  have hts := atoms_spec (ws := wsX6_beginLetters) B.pre
  have hown : s.vm.findClass RX6 = some m.cls := findClass_of_methodNamed B.named
  have hlk := B.notSynchronized
  have S : CallFix p m c cX6_beginLetters 3 s _ wsX6_beginLetters RX6 := ⟨hx, hb, hml, hown, hts⟩
  have hl := lv_entry ([.ref (uq 0), .int x1]) (n := 3) (Nat.le_of_ble_eq_true rfl)
  rw [lg_entry_eq]
  generalize (lg_sl ([.ref (uq 0), .int x1]) ++ List.replicate (3 - (lg_sl ([.ref (uq 0), .int x1])).length) Slot.unset).toArray = ls at hl ⊢
  have hl : lv_has ls 3 [(0, .ref (uq 0)), (1, .int x1)] := hl
  have hD := xA.self hD0
  have hS : va_S (xA (wM E uq mo)) s.heap s.heap [] := va_S.rf
  show W p l e rmX6_beginLetters s m _ below meth c s.heap [] 0 0 _ _
  generalize hA : xA (wM E uq mo) = A at hD hS ⊢
  unfold fX6_beginLetters at hf
  refine lv_iconst (v := 0) hx hb dX6_beginLetters_0 (by decide) ?_
  refine lv_istore_n (lv' := [(2, .int (0 : Int32)), (0, .ref (uq 0)), (1, .int x1)]) hx hb dX6_beginLetters_1 rfl hl (by decide) rfl (fun ls hl => ?_)
  obtain ⟨v1, h1, hf⟩ := ob hf
  refine wX6_beginLetters_2 S E hK uq x1 _ _ 1000 _ _ h1 _ _ hP hD hS ls (lv_sub hl [1, 2, 0] rfl) (fun H locs hP hD hS ls hl => ?_)
  refine lv_aload_n hx hb dX6_beginLetters_40 rfl (lv_at hl 0 rfl) ?_
  refine x_get hx hb hts inX6_beginLetters_6 hown hK hP 0 rfl rfl 0 (by decide) mX6_beginLetters_0 rfl dX6_beginLetters_41 ?_
  refine lv_bipush (v := 60) hx hb dX6_beginLetters_44 (by decide) ?_
  refine lv_iload_n hx hb dX6_beginLetters_46 rfl (lv_at hl 1 rfl) ?_
  obtain ⟨v2, h2, hf⟩ := ob hf
  refine x_iast hx hb hK hP hD hS 1 rfl h2 dX6_beginLetters_47 (fun H locs hP hD hS => ?_)
  have hP : va_P (xD E) vwCl (wM E uq (Mo_set_now v1.2 v2)) H := hP
  have hD : va_D A (wM E uq (Mo_set_now v1.2 v2)) := hD
  obtain rfl := Option.some.inj hf
  subst hA
  exact x_vretM hx hb hr hlk hP hS dX6_beginLetters_48
abbrev rmX6_layGroups : Room := { frames := 2, cells := 0, slots := 0, locals := 44 }
theorem mX6_layGroups_0 : Cond.fieldLink RX6 24 "EvenWhiteModel" "group" "[I" ∈ wsX6_layGroups := by decide +kernel
theorem inX6_layGroups_6 : ∀ w ∈ u_ws RX6 TX6 17, w ∈ wsX6_layGroups := by decide +kernel
def gX6_layGroups_2 (rec : (Int32 × Mo) → Option (Int32 × Mo)) (u : Int32 × Mo) : Option (Int32 × Mo) :=
  (if (6 : Int32) ≤ u.1 then
  some (u.1, u.2)
  else (wrI (Mo_grp u.2) 6 u.1 u.1).bind fun v2 =>
  rec ((u.1 + (1 : Int32)), (Mo_set_grp u.2 v2)))
set_option maxHeartbeats 4000000 in
set_option maxRecDepth 100000 in
theorem wX6_layGroups_2 {p : Program} {l : Launch} {e : Env} {s : State} {m : MethodId} {args : Array Value} {below : List Frame} {meth : Method} {c : Code} {Q : State → Prop} (S : CallFix p m c cX6_layGroups 7 s args wsX6_layGroups RX6) (E : xG) (hK : xK E s) (uq : Nat → Nat) (A : Nat → Prop) (H0 : Heap) : ∀ (n : Nat) (u : Int32 × Mo) (r : Int32 × Mo), lp (gX6_layGroups_2) n u = some r → ∀ (H : Heap) (locs : List Loc), va_P (xD E) vwCl (wM E uq u.2) H → va_D A (wM E uq u.2) → va_S A H0 H locs → ∀ (ls : Array Slot), lv_has ls 7 [(0, .ref (uq 0)), (1, .int u.1)] → (∀ (H : Heap) (locs : List Loc), va_P (xD E) vwCl (wM E uq r.2) H → va_D A (wM E uq r.2) → va_S A H0 H locs → ∀ (ls : Array Slot), lv_has ls 7 [(0, .ref (uq 0)), (1, .int r.1)] → W p l e rmX6_layGroups s m args below meth c H locs 0 0 Q (F0 m 21 ls [])) → W p l e rmX6_layGroups s m args below meth c H locs 0 0 Q (F0 m 2 ls []) := by
  obtain ⟨hx, hb, hml, hown, hts⟩ := id S
  intro n
  induction n with
  | zero =>
    intro u r hf
    exact absurd (show (none : Option _) = some r from hf) (fun q => by cases q)
  | succ n ih =>
    intro u r hf H locs hP hD hS ls hl kx
    have hf : gX6_layGroups_2 (lp (gX6_layGroups_2) n) u = some r := hf
    unfold gX6_layGroups_2 at hf
    refine lv_iload_n hx hb dX6_layGroups_2 rfl (lv_at hl 1 rfl) ?_
    refine lv_bipush (v := 6) hx hb dX6_layGroups_3 (by decide) ?_
    refine lv_icmp_ge (tgt := 21) hx hb dX6_layGroups_5 (by decide) (fun c1 => ?_) (fun c1 => ?_)
    · have hf := (if_pos c1).symm.trans hf
      obtain rfl := Option.some.inj hf
      exact kx _ _ hP hD hS ls (lv_sub hl [0, 1] rfl)
    · have hf := (if_neg c1).symm.trans hf
      refine lv_aload_n hx hb dX6_layGroups_8 rfl (lv_at hl 0 rfl) ?_
      refine x_get hx hb hts inX6_layGroups_6 hown hK hP 0 rfl rfl 6 (by decide) mX6_layGroups_0 rfl dX6_layGroups_9 ?_
      refine lv_iload_n hx hb dX6_layGroups_12 rfl (lv_at hl 1 rfl) ?_
      refine lv_iload_n hx hb dX6_layGroups_13 rfl (lv_at hl 1 rfl) ?_
      obtain ⟨v2, h2, hf⟩ := ob hf
      refine x_iast hx hb hK hP hD hS 5 rfl h2 dX6_layGroups_14 (fun H locs hP hD hS => ?_)
      have hP : va_P (xD E) vwCl (wM E uq (Mo_set_grp u.2 v2)) H := hP
      have hD : va_D A (wM E uq (Mo_set_grp u.2 v2)) := hD
      refine lv_iinc (v := (u.1 + (1 : Int32))) (lv' := [(1, .int (u.1 + (1 : Int32))), (0, .ref (uq 0))]) hx hb dX6_layGroups_15 hl (k := 1) rfl rfl (by decide) rfl (fun ls hl => ?_)
      refine lv_goto (tgt := 2) hx hb dX6_layGroups_18 (by decide) ?_
      exact ih ((u.1 + (1 : Int32)), (Mo_set_grp u.2 v2)) _ hf _ _ hP hD hS ls (lv_sub hl [1, 0] rfl) kx
def gX6_layGroups_31 (x1 : Int32) (rec : (Int32 × Mo) → Option (Int32 × Mo)) (u : Int32 × Mo) : Option (Int32 × Mo) :=
  (if (9 : Int32) ≤ u.1 then
  some (u.1, u.2)
  else (rdI (Mo_grp u.2) 6 (u.1 / (3 : Int32))).bind fun v2 =>
  (rdI (Mo_grp u.2) 6 ((3 : Int32) + (u.1 - u.1 / (3 : Int32) * (3 : Int32)))).bind fun v3 =>
  ((if v3 ≤ v2 then
  (rdI (Mo_grp u.2) 6 ((3 : Int32) + (u.1 - u.1 / (3 : Int32) * (3 : Int32)))).bind fun v6 =>
  some v6
  else (rdI (Mo_grp u.2) 6 (u.1 / (3 : Int32))).bind fun v7 =>
  some v7)).bind fun v4 =>
  (fX6_joins u.2 (u.1 / (3 : Int32)) ((3 : Int32) + (u.1 - u.1 / (3 : Int32) * (3 : Int32)))).bind fun v8 =>
  ((if (if v8 ≤ (0 : Int32) then (0 : Int32) else (1 : Int32)) = (0 : Int32) then
  (rdI (Mo_grp u.2) 6 (u.1 / (3 : Int32))).bind fun v12 =>
  some v12
  else some v4)).bind fun v10 =>
  (wrI (Mo_grp u.2) 6 (u.1 / (3 : Int32)) v10).bind fun v13 =>
  ((if (if v8 ≤ (0 : Int32) then (0 : Int32) else (1 : Int32)) = (0 : Int32) then
  (rdI v13 6 ((3 : Int32) + (u.1 - u.1 / (3 : Int32) * (3 : Int32)))).bind fun v16 =>
  some v16
  else some v4)).bind fun v14 =>
  (wrI v13 6 ((3 : Int32) + (u.1 - u.1 / (3 : Int32) * (3 : Int32))) v14).bind fun v17 =>
  rec ((u.1 + (1 : Int32)), (Mo_set_grp u.2 v17)))
set_option maxHeartbeats 4000000 in
set_option maxRecDepth 100000 in
theorem wX6_layGroups_31 {p : Program} {l : Launch} {e : Env} {s : State} {m : MethodId} {args : Array Value} {below : List Frame} {meth : Method} {c : Code} {Q : State → Prop} (S : CallFix p m c cX6_layGroups 7 s args wsX6_layGroups RX6) (E : xG) (hK : xK E s) (uq : Nat → Nat) (x1 : Int32) (A : Nat → Prop) (H0 : Heap) : ∀ (n : Nat) (u : Int32 × Mo) (r : Int32 × Mo), lp (gX6_layGroups_31 x1) n u = some r → ∀ (H : Heap) (locs : List Loc), va_P (xD E) vwCl (wM E uq u.2) H → va_D A (wM E uq u.2) → va_S A H0 H locs → ∀ (ls : Array Slot), lv_has ls 7 [(0, .ref (uq 0)), (1, .int x1), (2, .int u.1)] → (∀ (H : Heap) (locs : List Loc), va_P (xD E) vwCl (wM E uq r.2) H → va_D A (wM E uq r.2) → va_S A H0 H locs → ∀ (ls : Array Slot), lv_has ls 7 [(0, .ref (uq 0)), (1, .int x1), (2, .int r.1)] → W p l e rmX6_layGroups s m args below meth c H locs 0 0 Q (F0 m 151 ls [])) → W p l e rmX6_layGroups s m args below meth c H locs 0 0 Q (F0 m 31 ls []) := by
  obtain ⟨hx, hb, hml, hown, hts⟩ := id S
  intro n
  induction n with
  | zero =>
    intro u r hf
    exact absurd (show (none : Option _) = some r from hf) (fun q => by cases q)
  | succ n ih =>
    intro u r hf H locs hP hD hS ls hl kx
    have hf : gX6_layGroups_31 x1 (lp (gX6_layGroups_31 x1) n) u = some r := hf
    unfold gX6_layGroups_31 at hf
    refine lv_iload_n hx hb dX6_layGroups_31 rfl (lv_at hl 2 rfl) ?_
    refine lv_bipush (v := 9) hx hb dX6_layGroups_32 (by decide) ?_
    refine lv_icmp_ge (tgt := 151) hx hb dX6_layGroups_34 (by decide) (fun c1 => ?_) (fun c1 => ?_)
    · have hf := (if_pos c1).symm.trans hf
      obtain rfl := Option.some.inj hf
      exact kx _ _ hP hD hS ls (lv_sub hl [0, 1, 2] rfl)
    · have hf := (if_neg c1).symm.trans hf
      refine lv_iload_n hx hb dX6_layGroups_37 rfl (lv_at hl 2 rfl) ?_
      refine lv_iconst (v := 3) hx hb dX6_layGroups_38 (by decide) ?_
      refine lv_idiv hx hb dX6_layGroups_39 (by decide) ?_
      refine lv_istore_n (lv' := [(3, .int (u.1 / (3 : Int32))), (0, .ref (uq 0)), (1, .int x1), (2, .int u.1)]) hx hb dX6_layGroups_40 rfl hl (by decide) rfl (fun ls hl => ?_)
      refine lv_iconst (v := 3) hx hb dX6_layGroups_41 (by decide) ?_
      refine lv_iload_n hx hb dX6_layGroups_42 rfl (lv_at hl 3 rfl) ?_
      refine lv_iconst (v := 3) hx hb dX6_layGroups_43 (by decide) ?_
      refine lv_irem hx hb dX6_layGroups_44 (by decide) ?_
      refine lv_iadd hx hb dX6_layGroups_45 ?_
      refine lv_istore (lv' := [(4, .int ((3 : Int32) + (u.1 - u.1 / (3 : Int32) * (3 : Int32)))), (3, .int (u.1 / (3 : Int32))), (0, .ref (uq 0)), (1, .int x1), (2, .int u.1)]) hx hb dX6_layGroups_46 hl (by decide) rfl (fun ls hl => ?_)
      refine lv_aload_n hx hb dX6_layGroups_48 rfl (lv_at hl 2 rfl) ?_
      refine x_get hx hb hts inX6_layGroups_6 hown hK hP 0 rfl rfl 6 (by decide) mX6_layGroups_0 rfl dX6_layGroups_49 ?_
      refine lv_iload_n hx hb dX6_layGroups_52 rfl (lv_at hl 1 rfl) ?_
      obtain ⟨v2, h2, hf⟩ := ob hf
      refine x_iald hx hb hK hP 5 rfl h2 dX6_layGroups_53 ?_
      refine lv_aload_n hx hb dX6_layGroups_54 rfl (lv_at hl 2 rfl) ?_
      refine x_get hx hb hts inX6_layGroups_6 hown hK hP 0 rfl rfl 6 (by decide) mX6_layGroups_0 rfl dX6_layGroups_55 ?_
      refine lv_iload hx hb dX6_layGroups_58 (lv_at hl 0 rfl) ?_
      obtain ⟨v3, h3, hf⟩ := ob hf
      refine x_iald hx hb hK hP 5 rfl h3 dX6_layGroups_60 ?_
      obtain ⟨v4, h4, hf⟩ := ob hf
      refine x_cutH (fun H locs ls => va_P (xD E) vwCl (wM E uq u.2) H ∧ va_D A (wM E uq u.2) ∧ va_S A H0 H locs ∧ lv_has ls 7 [(0, .ref (uq 0)), (1, .int x1), (2, .int u.1), (3, .int (u.1 / (3 : Int32))), (4, .int ((3 : Int32) + (u.1 - u.1 / (3 : Int32) * (3 : Int32))))]) (pc := 80) (st := [.int v4]) (fun H locs ls hq => ?_) (fun hj => ?_)
      · obtain ⟨hP, hD, hS, hl⟩ := hq
        refine lv_istore (lv' := [(5, .int v4), (0, .ref (uq 0)), (1, .int x1), (2, .int u.1), (3, .int (u.1 / (3 : Int32))), (4, .int ((3 : Int32) + (u.1 - u.1 / (3 : Int32) * (3 : Int32))))]) hx hb dX6_layGroups_80 hl (by decide) rfl (fun ls hl => ?_)
        refine lv_aload_n hx hb dX6_layGroups_82 rfl (lv_at hl 1 rfl) ?_
        refine lv_iload_n hx hb dX6_layGroups_83 rfl (lv_at hl 4 rfl) ?_
        refine lv_iload hx hb dX6_layGroups_84 (lv_at hl 5 rfl) ?_
        obtain ⟨v8, h8, hf⟩ := ob hf
        refine x_pV (As := [.int (u.1 / (3 : Int32)), .int ((3 : Int32) + (u.1 - u.1 / (3 : Int32) * (3 : Int32)))]) (rest := []) S hK (kX6_joins l E uq u.2 (u.1 / (3 : Int32)) ((3 : Int32) + (u.1 - u.1 / (3 : Int32) * (3 : Int32))) h8) (cwV 2 hts gX6_layGroups_X6_joins rfl rfl rfl (by decide +kernel) ⟨Nat.le_of_ble_eq_true rfl, Nat.le_of_ble_eq_true rfl⟩) hP 0 rfl rfl rfl rfl hl.1 (Nat.le_of_ble_eq_true rfl) dX6_layGroups_86 rfl ⟨Nat.zero_le _, Nat.zero_le _⟩ ?_
        refine x_cut (pc := 97) (ls := ls) (st := [.int (if v8 ≤ (0 : Int32) then (0 : Int32) else (1 : Int32))]) ?_ (fun hj => ?_)
        · refine lv_istore (lv' := [(6, .int (if v8 ≤ (0 : Int32) then (0 : Int32) else (1 : Int32))), (5, .int v4), (0, .ref (uq 0)), (1, .int x1), (2, .int u.1), (3, .int (u.1 / (3 : Int32))), (4, .int ((3 : Int32) + (u.1 - u.1 / (3 : Int32) * (3 : Int32))))]) hx hb dX6_layGroups_97 hl (by decide) rfl (fun ls hl => ?_)
          refine lv_aload_n hx hb dX6_layGroups_99 rfl (lv_at hl 2 rfl) ?_
          refine x_get hx hb hts inX6_layGroups_6 hown hK hP 0 rfl rfl 6 (by decide) mX6_layGroups_0 rfl dX6_layGroups_100 ?_
          refine lv_iload_n hx hb dX6_layGroups_103 rfl (lv_at hl 5 rfl) ?_
          refine lv_iload hx hb dX6_layGroups_104 (lv_at hl 0 rfl) ?_
          obtain ⟨v10, h10, hf⟩ := ob hf
          refine x_cutH (fun H locs ls => va_P (xD E) vwCl (wM E uq u.2) H ∧ va_D A (wM E uq u.2) ∧ va_S A H0 H locs ∧ lv_has ls 7 [(0, .ref (uq 0)), (1, .int x1), (2, .int u.1), (3, .int (u.1 / (3 : Int32))), (4, .int ((3 : Int32) + (u.1 - u.1 / (3 : Int32) * (3 : Int32)))), (5, .int v4), (6, .int (if v8 ≤ (0 : Int32) then (0 : Int32) else (1 : Int32)))]) (pc := 120) (st := [.int v10, .int (u.1 / (3 : Int32)), .ref (uq 5)]) (fun H locs ls hq => ?_) (fun hj => ?_)
          · obtain ⟨hP, hD, hS, hl⟩ := hq
            obtain ⟨v13, h13, hf⟩ := ob hf
            refine x_iast hx hb hK hP hD hS 5 rfl h13 dX6_layGroups_120 (fun H locs hP hD hS => ?_)
            have hP : va_P (xD E) vwCl (wM E uq (Mo_set_grp u.2 v13)) H := hP
            have hD : va_D A (wM E uq (Mo_set_grp u.2 v13)) := hD
            refine lv_aload_n hx hb dX6_layGroups_121 rfl (lv_at hl 0 rfl) ?_
            refine x_get hx hb hts inX6_layGroups_6 hown hK hP 0 rfl rfl 6 (by decide) mX6_layGroups_0 rfl dX6_layGroups_122 ?_
            refine lv_iload hx hb dX6_layGroups_125 (lv_at hl 4 rfl) ?_
            refine lv_iload hx hb dX6_layGroups_127 (lv_at hl 6 rfl) ?_
            obtain ⟨v14, h14, hf⟩ := ob hf
            refine x_cutH (fun H locs ls => va_P (xD E) vwCl (wM E uq (Mo_set_grp u.2 v13)) H ∧ va_D A (wM E uq (Mo_set_grp u.2 v13)) ∧ va_S A H0 H locs ∧ lv_has ls 7 [(0, .ref (uq 0)), (1, .int x1), (2, .int u.1), (3, .int (u.1 / (3 : Int32))), (4, .int ((3 : Int32) + (u.1 - u.1 / (3 : Int32) * (3 : Int32)))), (5, .int v4), (6, .int (if v8 ≤ (0 : Int32) then (0 : Int32) else (1 : Int32)))]) (pc := 144) (st := [.int v14, .int ((3 : Int32) + (u.1 - u.1 / (3 : Int32) * (3 : Int32))), .ref (uq 5)]) (fun H locs ls hq => ?_) (fun hj => ?_)
            · obtain ⟨hP, hD, hS, hl⟩ := hq
              obtain ⟨v17, h17, hf⟩ := ob hf
              refine x_iast hx hb hK hP hD hS 5 rfl h17 dX6_layGroups_144 (fun H locs hP hD hS => ?_)
              have hP : va_P (xD E) vwCl (wM E uq (Mo_set_grp u.2 v17)) H := hP
              have hD : va_D A (wM E uq (Mo_set_grp u.2 v17)) := hD
              refine lv_iinc (v := (u.1 + (1 : Int32))) (lv' := [(2, .int (u.1 + (1 : Int32))), (0, .ref (uq 0)), (1, .int x1), (3, .int (u.1 / (3 : Int32))), (4, .int ((3 : Int32) + (u.1 - u.1 / (3 : Int32) * (3 : Int32)))), (5, .int v4), (6, .int (if v8 ≤ (0 : Int32) then (0 : Int32) else (1 : Int32)))]) hx hb dX6_layGroups_145 hl (k := 2) rfl rfl (by decide) rfl (fun ls hl => ?_)
              refine lv_goto (tgt := 31) hx hb dX6_layGroups_148 (by decide) ?_
              exact ih ((u.1 + (1 : Int32)), (Mo_set_grp u.2 v17)) _ hf _ _ hP hD hS ls (lv_sub hl [1, 2, 0] rfl) kx
            · have hf := h14
              refine lv_if_eq (tgt := 137) hx hb dX6_layGroups_129 (by decide) (fun c15 => ?_) (fun c15 => ?_)
              · have hf := (if_pos c15).symm.trans hf
                refine lv_aload_n hx hb dX6_layGroups_137 rfl (lv_at hl 0 rfl) ?_
                refine x_get hx hb hts inX6_layGroups_6 hown hK hP 0 rfl rfl 6 (by decide) mX6_layGroups_0 rfl dX6_layGroups_138 ?_
                refine lv_iload hx hb dX6_layGroups_141 (lv_at hl 4 rfl) ?_
                obtain ⟨v16, h16, hf⟩ := ob hf
                refine x_iald hx hb hK hP 5 rfl h16 dX6_layGroups_143 ?_
                obtain rfl := Option.some.inj hf
                exact hj _ _ ls ⟨hP, hD, hS, lv_sub hl [0, 1, 2, 3, 4, 5, 6] rfl⟩
              · have hf := (if_neg c15).symm.trans hf
                refine lv_iload hx hb dX6_layGroups_132 (lv_at hl 5 rfl) ?_
                refine lv_goto (tgt := 144) hx hb dX6_layGroups_134 (by decide) ?_
                obtain rfl := Option.some.inj hf
                exact hj _ _ ls ⟨hP, hD, hS, lv_sub hl [0, 1, 2, 3, 4, 5, 6] rfl⟩
          · have hf := h10
            refine lv_if_eq (tgt := 114) hx hb dX6_layGroups_106 (by decide) (fun c11 => ?_) (fun c11 => ?_)
            · have hf := (if_pos c11).symm.trans hf
              refine lv_aload_n hx hb dX6_layGroups_114 rfl (lv_at hl 2 rfl) ?_
              refine x_get hx hb hts inX6_layGroups_6 hown hK hP 0 rfl rfl 6 (by decide) mX6_layGroups_0 rfl dX6_layGroups_115 ?_
              refine lv_iload_n hx hb dX6_layGroups_118 rfl (lv_at hl 5 rfl) ?_
              obtain ⟨v12, h12, hf⟩ := ob hf
              refine x_iald hx hb hK hP 5 rfl h12 dX6_layGroups_119 ?_
              obtain rfl := Option.some.inj hf
              exact hj _ _ ls ⟨hP, hD, hS, lv_sub hl [2, 3, 4, 5, 6, 1, 0] rfl⟩
            · have hf := (if_neg c11).symm.trans hf
              refine lv_iload hx hb dX6_layGroups_109 (lv_at hl 1 rfl) ?_
              refine lv_goto (tgt := 120) hx hb dX6_layGroups_111 (by decide) ?_
              obtain rfl := Option.some.inj hf
              exact hj _ _ ls ⟨hP, hD, hS, lv_sub hl [2, 3, 4, 5, 6, 1, 0] rfl⟩
        · refine lv_if_le (tgt := 96) hx hb dX6_layGroups_89 (by decide) (fun c9 => ?_) (fun c9 => ?_)
          · refine lv_iconst (v := 0) hx hb dX6_layGroups_96 (by decide) ?_
            exact (by rw [if_pos c9] at hj; exact hj)
          · refine lv_iconst (v := 1) hx hb dX6_layGroups_92 (by decide) ?_
            refine lv_goto (tgt := 97) hx hb dX6_layGroups_93 (by decide) ?_
            exact (by rw [if_neg c9] at hj; exact hj)
      · have hf := h4
        refine lv_icmp_ge (tgt := 73) hx hb dX6_layGroups_61 (by decide) (fun c5 => ?_) (fun c5 => ?_)
        · have hf := (if_pos c5).symm.trans hf
          refine lv_aload_n hx hb dX6_layGroups_73 rfl (lv_at hl 2 rfl) ?_
          refine x_get hx hb hts inX6_layGroups_6 hown hK hP 0 rfl rfl 6 (by decide) mX6_layGroups_0 rfl dX6_layGroups_74 ?_
          refine lv_iload hx hb dX6_layGroups_77 (lv_at hl 0 rfl) ?_
          obtain ⟨v6, h6, hf⟩ := ob hf
          refine x_iald hx hb hK hP 5 rfl h6 dX6_layGroups_79 ?_
          obtain rfl := Option.some.inj hf
          exact hj _ _ ls ⟨hP, hD, hS, lv_sub hl [2, 3, 4, 1, 0] rfl⟩
        · have hf := (if_neg c5).symm.trans hf
          refine lv_aload_n hx hb dX6_layGroups_64 rfl (lv_at hl 2 rfl) ?_
          refine x_get hx hb hts inX6_layGroups_6 hown hK hP 0 rfl rfl 6 (by decide) mX6_layGroups_0 rfl dX6_layGroups_65 ?_
          refine lv_iload_n hx hb dX6_layGroups_68 rfl (lv_at hl 1 rfl) ?_
          obtain ⟨v7, h7, hf⟩ := ob hf
          refine x_iald hx hb hK hP 5 rfl h7 dX6_layGroups_69 ?_
          refine lv_goto (tgt := 80) hx hb dX6_layGroups_70 (by decide) ?_
          obtain rfl := Option.some.inj hf
          exact hj _ _ ls ⟨hP, hD, hS, lv_sub hl [2, 3, 4, 1, 0] rfl⟩
def gX6_layGroups_23 (rec : (Int32 × Mo) → Option (Int32 × Mo)) (u : Int32 × Mo) : Option (Int32 × Mo) :=
  (if (6 : Int32) ≤ u.1 then
  some (u.1, u.2)
  else (lp (gX6_layGroups_31 u.1) 1000 ((0 : Int32), u.2)).bind fun v2 =>
  rec ((u.1 + (1 : Int32)), v2.2))
set_option maxHeartbeats 4000000 in
set_option maxRecDepth 100000 in
theorem wX6_layGroups_23 {p : Program} {l : Launch} {e : Env} {s : State} {m : MethodId} {args : Array Value} {below : List Frame} {meth : Method} {c : Code} {Q : State → Prop} (S : CallFix p m c cX6_layGroups 7 s args wsX6_layGroups RX6) (E : xG) (hK : xK E s) (uq : Nat → Nat) (A : Nat → Prop) (H0 : Heap) : ∀ (n : Nat) (u : Int32 × Mo) (r : Int32 × Mo), lp (gX6_layGroups_23) n u = some r → ∀ (H : Heap) (locs : List Loc), va_P (xD E) vwCl (wM E uq u.2) H → va_D A (wM E uq u.2) → va_S A H0 H locs → ∀ (ls : Array Slot), lv_has ls 7 [(0, .ref (uq 0)), (1, .int u.1)] → (∀ (H : Heap) (locs : List Loc), va_P (xD E) vwCl (wM E uq r.2) H → va_D A (wM E uq r.2) → va_S A H0 H locs → ∀ (ls : Array Slot), lv_has ls 7 [(0, .ref (uq 0)), (1, .int r.1)] → W p l e rmX6_layGroups s m args below meth c H locs 0 0 Q (F0 m 157 ls [])) → W p l e rmX6_layGroups s m args below meth c H locs 0 0 Q (F0 m 23 ls []) := by
  obtain ⟨hx, hb, hml, hown, hts⟩ := id S
  intro n
  induction n with
  | zero =>
    intro u r hf
    exact absurd (show (none : Option _) = some r from hf) (fun q => by cases q)
  | succ n ih =>
    intro u r hf H locs hP hD hS ls hl kx
    have hf : gX6_layGroups_23 (lp (gX6_layGroups_23) n) u = some r := hf
    unfold gX6_layGroups_23 at hf
    refine lv_iload_n hx hb dX6_layGroups_23 rfl (lv_at hl 1 rfl) ?_
    refine lv_bipush (v := 6) hx hb dX6_layGroups_24 (by decide) ?_
    refine lv_icmp_ge (tgt := 157) hx hb dX6_layGroups_26 (by decide) (fun c1 => ?_) (fun c1 => ?_)
    · have hf := (if_pos c1).symm.trans hf
      obtain rfl := Option.some.inj hf
      exact kx _ _ hP hD hS ls (lv_sub hl [0, 1] rfl)
    · have hf := (if_neg c1).symm.trans hf
      refine lv_iconst (v := 0) hx hb dX6_layGroups_29 (by decide) ?_
      refine lv_istore_n (lv' := [(2, .int (0 : Int32)), (0, .ref (uq 0)), (1, .int u.1)]) hx hb dX6_layGroups_30 rfl hl (by decide) rfl (fun ls hl => ?_)
      obtain ⟨v2, h2, hf⟩ := ob hf
      refine wX6_layGroups_31 S E hK uq u.1 _ _ 1000 _ _ h2 _ _ hP hD hS ls (lv_sub hl [1, 2, 0] rfl) (fun H locs hP hD hS ls hl => ?_)
      refine lv_iinc (v := (u.1 + (1 : Int32))) (lv' := [(1, .int (u.1 + (1 : Int32))), (0, .ref (uq 0)), (2, .int v2.1)]) hx hb dX6_layGroups_151 hl (k := 1) rfl rfl (by decide) rfl (fun ls hl => ?_)
      refine lv_goto (tgt := 23) hx hb dX6_layGroups_154 (by decide) ?_
      exact ih ((u.1 + (1 : Int32)), v2.2) _ hf _ _ hP hD hS ls (lv_sub hl [1, 0] rfl) kx
def fX6_layGroups (mo : Mo) : Option Mo :=
  (lp (gX6_layGroups_2) 1000 ((0 : Int32), mo)).bind fun v1 =>
  (lp (gX6_layGroups_23) 1000 ((0 : Int32), v1.2)).bind fun v2 =>
  some v2.2
set_option maxHeartbeats 4000000 in
set_option maxRecDepth 100000 in
theorem kX6_layGroups (l : Launch) (E : xG) (uq : Nat → Nat) (mo : Mo) {r : Mo} (hf : fX6_layGroups mo = some r) : xMut l yX6_layGroups wsX6_layGroups rmX6_layGroups E [.ref (uq 0)] (wM E uq mo) none (wM E uq r) := by
  refine Met.ofW (cc := cX6_layGroups) (maxL := 7) (ret := none) (by decide) rfl ?_
  intro p e s m args below meth c s₁ B hml hv
  obtain ⟨rfl, hP, hK, hD0⟩ := hv
  have hx := B.exec
  have hb := B.bytes
  have hr := B.returns
  have hts := atoms_spec (ws := wsX6_layGroups) B.pre
  have hown : s.vm.findClass RX6 = some m.cls := findClass_of_methodNamed B.named
  have hlk := B.notSynchronized
  have S : CallFix p m c cX6_layGroups 7 s _ wsX6_layGroups RX6 := ⟨hx, hb, hml, hown, hts⟩
  have hl := lv_entry ([.ref (uq 0)]) (n := 7) (Nat.le_of_ble_eq_true rfl)
  rw [lg_entry_eq]
  generalize (lg_sl ([.ref (uq 0)]) ++ List.replicate (7 - (lg_sl ([.ref (uq 0)])).length) Slot.unset).toArray = ls at hl ⊢
  have hl : lv_has ls 7 [(0, .ref (uq 0))] := hl
  have hD := xA.self hD0
  have hS : va_S (xA (wM E uq mo)) s.heap s.heap [] := va_S.rf
  show W p l e rmX6_layGroups s m _ below meth c s.heap [] 0 0 _ _
  generalize hA : xA (wM E uq mo) = A at hD hS ⊢
  unfold fX6_layGroups at hf
  refine lv_iconst (v := 0) hx hb dX6_layGroups_0 (by decide) ?_
  refine lv_istore_n (lv' := [(1, .int (0 : Int32)), (0, .ref (uq 0))]) hx hb dX6_layGroups_1 rfl hl (by decide) rfl (fun ls hl => ?_)
  obtain ⟨v1, h1, hf⟩ := ob hf
  refine wX6_layGroups_2 S E hK uq _ _ 1000 _ _ h1 _ _ hP hD hS ls (lv_sub hl [1, 0] rfl) (fun H locs hP hD hS ls hl => ?_)
  refine lv_iconst (v := 0) hx hb dX6_layGroups_21 (by decide) ?_
  refine lv_istore_n (lv' := [(1, .int (0 : Int32)), (0, .ref (uq 0))]) hx hb dX6_layGroups_22 rfl hl (by decide) rfl (fun ls hl => ?_)
  obtain ⟨v2, h2, hf⟩ := ob hf
  refine wX6_layGroups_23 S E hK uq _ _ 1000 _ _ h2 _ _ hP hD hS ls (lv_sub hl [1, 0] rfl) (fun H locs hP hD hS ls hl => ?_)
  obtain rfl := Option.some.inj hf
  subst hA
  exact x_vretM hx hb hr hlk hP hS dX6_layGroups_157
