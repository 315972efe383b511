abbrev rmJ9_floorDiv_f86c9 : Room := { frames := 0, cells := 0, slots := 0, locals := 0 }
def fJ9_floorDiv_f86c9 (x0 : Int64) (x2 : Int64) : Option Int64 :=
  (dvJ x0 x2).bind fun v1 =>
  (if (0 : Int64) ≤ (x0 ^^^ x2) then
  some v1
  else (if (v1 * x2) = x0 then
  some v1
  else some (v1 - (1 : Int64))))
set_option maxHeartbeats 4000000 in
set_option maxRecDepth 100000 in
theorem kJ9_floorDiv_f86c9 (l : Launch) (E : xG) (x0 : Int64) (x2 : Int64) {r : Int64} (hf : fJ9_floorDiv_f86c9 x0 x2 = some r) : xPure l yJ9_floorDiv_f86c9 wsJ9_floorDiv_f86c9 rmJ9_floorDiv_f86c9 E [.long x0, .long x2] ([]) (.long r) := by
  refine x_ofWF (cc := cJ9_floorDiv_f86c9) (maxL := 6) (ret := (some .long)) (by decide +kernel) rfl ?_
  intro p e s m args below meth c s₁ B hml hv
  obtain ⟨rfl, hP, hK⟩ := hv
  have hx := B.exec
  have hb := B.bytes
  have hr := B.returns
  have hts := atoms_spec (ws := wsJ9_floorDiv_f86c9) B.pre
  have hown : s.vm.findClass RJ9 = some m.cls := findClass_of_methodNamed B.named
  have hlk := B.notSynchronized
  have S : CallFix p m c cJ9_floorDiv_f86c9 6 s _ wsJ9_floorDiv_f86c9 RJ9 := ⟨hx, hb, hml, hown, hts⟩
  have hl := lv_entry ([.long x0, .long x2]) (n := 6) (Nat.le_of_ble_eq_true rfl)
  rw [lg_entry_eq]
  generalize (lg_sl ([.long x0, .long x2]) ++ List.replicate (6 - (lg_sl ([.long x0, .long x2])).length) Slot.unset).toArray = ls at hl ⊢
  have hl : lv_has ls 6 [(0, .long x0), (2, .long x2)] := hl
  unfold fJ9_floorDiv_f86c9 at hf
  refine lv_lload_n hx hb dJ9_floorDiv_f86c9_0 rfl (lv_at hl 0 rfl) ?_
  refine lv_lload_n hx hb dJ9_floorDiv_f86c9_1 rfl (lv_at hl 1 rfl) ?_
  obtain ⟨v1, h1, hf⟩ := ob hf
  refine x_ldiv hx hb h1 dJ9_floorDiv_f86c9_2 ?_
  refine lv_lstore (lv' := [(4, .long v1), (0, .long x0), (2, .long x2)]) hx hb dJ9_floorDiv_f86c9_3 hl (by decide) rfl (fun ls hl => ?_)
  refine lv_lload_n hx hb dJ9_floorDiv_f86c9_5 rfl (lv_at hl 1 rfl) ?_
  refine lv_lload_n hx hb dJ9_floorDiv_f86c9_6 rfl (lv_at hl 2 rfl) ?_
  refine lv_lxor hx hb dJ9_floorDiv_f86c9_7 ?_
  refine lv_lconst (v := 0) hx hb dJ9_floorDiv_f86c9_8 (by decide) ?_
  refine x_lif_ge (tgt := 27) hx hb dJ9_floorDiv_f86c9_9 dJ9_floorDiv_f86c9_10 (by decide) (fun c2 => ?_) (fun c2 => ?_)
  · have hf := (if_pos c2).symm.trans hf
    refine lv_lload hx hb dJ9_floorDiv_f86c9_27 (lv_at hl 0 rfl) ?_
    obtain rfl := Option.some.inj hf
    exact x_lret hx hb hr hlk dJ9_floorDiv_f86c9_29
  · have hf := (if_neg c2).symm.trans hf
    refine lv_lload hx hb dJ9_floorDiv_f86c9_13 (lv_at hl 0 rfl) ?_
    refine lv_lload_n hx hb dJ9_floorDiv_f86c9_15 rfl (lv_at hl 2 rfl) ?_
    refine lv_lmul hx hb dJ9_floorDiv_f86c9_16 ?_
    refine lv_lload_n hx hb dJ9_floorDiv_f86c9_17 rfl (lv_at hl 1 rfl) ?_
    refine x_lif_eq (tgt := 27) hx hb dJ9_floorDiv_f86c9_18 dJ9_floorDiv_f86c9_19 (by decide) (fun c3 => ?_) (fun c3 => ?_)
    · have hf := (if_pos c3).symm.trans hf
      refine lv_lload hx hb dJ9_floorDiv_f86c9_27 (lv_at hl 0 rfl) ?_
      obtain rfl := Option.some.inj hf
      exact x_lret hx hb hr hlk dJ9_floorDiv_f86c9_29
    · have hf := (if_neg c3).symm.trans hf
      refine lv_lload hx hb dJ9_floorDiv_f86c9_22 (lv_at hl 0 rfl) ?_
      refine lv_lconst (v := 1) hx hb dJ9_floorDiv_f86c9_24 (by decide) ?_
      refine lv_lsub hx hb dJ9_floorDiv_f86c9_25 ?_
      obtain rfl := Option.some.inj hf
      exact x_lret hx hb hr hlk dJ9_floorDiv_f86c9_26
abbrev rmJ9_floorMod_f86c9 : Room := { frames := 0, cells := 0, slots := 0, locals := 0 }
def fJ9_floorMod_f86c9 (x0 : Int64) (x2 : Int64) : Option Int64 :=
  (rmJ x0 x2).bind fun v1 =>
  (if (0 : Int64) ≤ (x0 ^^^ x2) then
  some v1
  else (if v1 = (0 : Int64) then
  some v1
  else some (v1 + x2)))
set_option maxHeartbeats 4000000 in
set_option maxRecDepth 100000 in
theorem kJ9_floorMod_f86c9 (l : Launch) (E : xG) (x0 : Int64) (x2 : Int64) {r : Int64} (hf : fJ9_floorMod_f86c9 x0 x2 = some r) : xPure l yJ9_floorMod_f86c9 wsJ9_floorMod_f86c9 rmJ9_floorMod_f86c9 E [.long x0, .long x2] ([]) (.long r) := by
  refine x_ofWF (cc := cJ9_floorMod_f86c9) (maxL := 6) (ret := (some .long)) (by decide +kernel) rfl ?_
  intro p e s m args below meth c s₁ B hml hv
  obtain ⟨rfl, hP, hK⟩ := hv
  have hx := B.exec
  have hb := B.bytes
  have hr := B.returns
  have hts := atoms_spec (ws := wsJ9_floorMod_f86c9) B.pre
  have hown : s.vm.findClass RJ9 = some m.cls := findClass_of_methodNamed B.named
  have hlk := B.notSynchronized
  have S : CallFix p m c cJ9_floorMod_f86c9 6 s _ wsJ9_floorMod_f86c9 RJ9 := ⟨hx, hb, hml, hown, hts⟩
  have hl := lv_entry ([.long x0, .long x2]) (n := 6) (Nat.le_of_ble_eq_true rfl)
  rw [lg_entry_eq]
  generalize (lg_sl ([.long x0, .long x2]) ++ List.replicate (6 - (lg_sl ([.long x0, .long x2])).length) Slot.unset).toArray = ls at hl ⊢
  have hl : lv_has ls 6 [(0, .long x0), (2, .long x2)] := hl
  unfold fJ9_floorMod_f86c9 at hf
  refine lv_lload_n hx hb dJ9_floorMod_f86c9_0 rfl (lv_at hl 0 rfl) ?_
  refine lv_lload_n hx hb dJ9_floorMod_f86c9_1 rfl (lv_at hl 1 rfl) ?_
  obtain ⟨v1, h1, hf⟩ := ob hf
  refine x_lrem hx hb h1 dJ9_floorMod_f86c9_2 ?_
  refine lv_lstore (lv' := [(4, .long v1), (0, .long x0), (2, .long x2)]) hx hb dJ9_floorMod_f86c9_3 hl (by decide) rfl (fun ls hl => ?_)
  refine lv_lload_n hx hb dJ9_floorMod_f86c9_5 rfl (lv_at hl 1 rfl) ?_
  refine lv_lload_n hx hb dJ9_floorMod_f86c9_6 rfl (lv_at hl 2 rfl) ?_
  refine lv_lxor hx hb dJ9_floorMod_f86c9_7 ?_
  refine lv_lconst (v := 0) hx hb dJ9_floorMod_f86c9_8 (by decide) ?_
  refine x_lif_ge (tgt := 25) hx hb dJ9_floorMod_f86c9_9 dJ9_floorMod_f86c9_10 (by decide) (fun c2 => ?_) (fun c2 => ?_)
  · have hf := (if_pos c2).symm.trans hf
    refine lv_lload hx hb dJ9_floorMod_f86c9_25 (lv_at hl 0 rfl) ?_
    obtain rfl := Option.some.inj hf
    exact x_lret hx hb hr hlk dJ9_floorMod_f86c9_27
  · have hf := (if_neg c2).symm.trans hf
    refine lv_lload hx hb dJ9_floorMod_f86c9_13 (lv_at hl 0 rfl) ?_
    refine lv_lconst (v := 0) hx hb dJ9_floorMod_f86c9_15 (by decide) ?_
    refine x_lif_eq (tgt := 25) hx hb dJ9_floorMod_f86c9_16 dJ9_floorMod_f86c9_17 (by decide) (fun c3 => ?_) (fun c3 => ?_)
    · have hf := (if_pos c3).symm.trans hf
      refine lv_lload hx hb dJ9_floorMod_f86c9_25 (lv_at hl 0 rfl) ?_
      obtain rfl := Option.some.inj hf
      exact x_lret hx hb hr hlk dJ9_floorMod_f86c9_27
    · have hf := (if_neg c3).symm.trans hf
      refine lv_lload hx hb dJ9_floorMod_f86c9_20 (lv_at hl 0 rfl) ?_
      refine lv_lload_n hx hb dJ9_floorMod_f86c9_22 rfl (lv_at hl 2 rfl) ?_
      refine lv_ladd hx hb dJ9_floorMod_f86c9_23 ?_
      obtain rfl := Option.some.inj hf
      exact x_lret hx hb hr hlk dJ9_floorMod_f86c9_24
abbrev rmX5_within : Room := { frames := 0, cells := 0, slots := 0, locals := 0 }
def fX5_within (x0 : Int32) (x1 : Int32) (x2 : Int32) : Option Int32 :=
  ckZ (if x0 < x1 then (0 : Int32) else (if x2 < x0 then (0 : Int32) else (1 : Int32)))
set_option maxHeartbeats 4000000 in
set_option maxRecDepth 100000 in
theorem kX5_within (l : Launch) (E : xG) (x0 : Int32) (x1 : Int32) (x2 : Int32) {r : Int32} (hf : fX5_within x0 x1 x2 = some r) : xPure l yX5_within wsX5_within rmX5_within E [.int x0, .int x1, .int x2] ([]) (.int r) := by
  refine Met.ofW (cc := cX5_within) (maxL := 3) (ret := (some .boolean)) (by decide) rfl ?_
  intro p e s m args below meth c s₁ B hml hv
  obtain ⟨rfl, hP, hK⟩ := hv
  have hx := B.exec
  have hb := B.bytes
  have hr := B.returns
  have hts := atoms_spec (ws := wsX5_within) B.pre
  have hown : s.vm.findClass RX5 = some m.cls := findClass_of_methodNamed B.named
  have hlk := B.notSynchronized
  have S : CallFix p m c cX5_within 3 s _ wsX5_within RX5 := ⟨hx, hb, hml, hown, hts⟩
  have hl := lv_entry ([.int x0, .int x1, .int x2]) (n := 3) (Nat.le_of_ble_eq_true rfl)
  rw [lg_entry_eq]
  generalize (lg_sl ([.int x0, .int x1, .int x2]) ++ List.replicate (3 - (lg_sl ([.int x0, .int x1, .int x2])).length) Slot.unset).toArray = ls at hl ⊢
  have hl : lv_has ls 3 [(0, .int x0), (1, .int x1), (2, .int x2)] := hl
  unfold fX5_within at hf
  refine lv_iload_n hx hb dX5_within_0 rfl (lv_at hl 0 rfl) ?_
  refine lv_iload_n hx hb dX5_within_1 rfl (lv_at hl 1 rfl) ?_
  refine x_cut (pc := 15) (ls := ls) (st := [.int (if x0 < x1 then (0 : Int32) else (if x2 < x0 then (0 : Int32) else (1 : Int32)))]) ?_ (fun hj => ?_)
  · obtain ⟨hn, rfl⟩ := ckZ_ok hf
    exact x_iret hx hb hr hlk hn dX5_within_15
  · refine lv_icmp_lt (tgt := 14) hx hb dX5_within_2 (by decide) (fun c1 => ?_) (fun c1 => ?_)
    · refine lv_iconst (v := 0) hx hb dX5_within_14 (by decide) ?_
      exact (by rw [if_pos c1] at hj; exact hj)
    · refine lv_iload_n hx hb dX5_within_5 rfl (lv_at hl 0 rfl) ?_
      refine lv_iload_n hx hb dX5_within_6 rfl (lv_at hl 2 rfl) ?_
      refine lv_icmp_gt (tgt := 14) hx hb dX5_within_7 (by decide) (fun c2 => ?_) (fun c2 => ?_)
      · refine lv_iconst (v := 0) hx hb dX5_within_14 (by decide) ?_
        exact (by rw [if_neg c1, if_pos c2] at hj; exact hj)
      · refine lv_iconst (v := 1) hx hb dX5_within_10 (by decide) ?_
        refine lv_goto (tgt := 15) hx hb dX5_within_11 (by decide) ?_
        exact (by rw [if_neg c1, if_neg c2] at hj; exact hj)
abbrev rmX5_isSide : Room := { frames := 1, cells := 0, slots := 0, locals := 22 }
def fX5_isSide (x0 : Int32) : Option Int32 :=
  (fX5_within x0 (0 : Int32) (1 : Int32)).bind fun v1 =>
  ckZ v1
set_option maxHeartbeats 4000000 in
set_option maxRecDepth 100000 in
theorem kX5_isSide (l : Launch) (E : xG) (x0 : Int32) {r : Int32} (hf : fX5_isSide x0 = some r) : xPure l yX5_isSide wsX5_isSide rmX5_isSide E [.int x0] ([]) (.int r) := by
  refine Met.ofW (cc := cX5_isSide) (maxL := 1) (ret := (some .boolean)) (by decide) rfl ?_
  intro p e s m args below meth c s₁ B hml hv
  obtain ⟨rfl, hP, hK⟩ := hv
  have hx := B.exec
  have hb := B.bytes
  have hr := B.returns
  have hts := atoms_spec (ws := wsX5_isSide) B.pre
  have hown : s.vm.findClass RX5 = some m.cls := findClass_of_methodNamed B.named
  have hlk := B.notSynchronized
  have S : CallFix p m c cX5_isSide 1 s _ wsX5_isSide RX5 := ⟨hx, hb, hml, hown, hts⟩
  have hl := lv_entry ([.int x0]) (n := 1) (Nat.le_of_ble_eq_true rfl)
  rw [lg_entry_eq]
  generalize (lg_sl ([.int x0]) ++ List.replicate (1 - (lg_sl ([.int x0])).length) Slot.unset).toArray = ls at hl ⊢
  have hl : lv_has ls 1 [(0, .int x0)] := hl
  unfold fX5_isSide at hf
  refine lv_iload_n hx hb dX5_isSide_0 rfl (lv_at hl 0 rfl) ?_
  refine lv_iconst (v := 0) hx hb dX5_isSide_1 (by decide) ?_
  refine lv_iconst (v := 1) hx hb dX5_isSide_2 (by decide) ?_
  obtain ⟨v1, h1, hf⟩ := ob hf
  refine x_pS (As := [.int x0, .int (0 : Int32), .int (1 : Int32)]) (rest := []) S hK (kX5_within l E x0 (0 : Int32) (1 : Int32) h1) (va_cwS 3 hts gX5_isSide_X5_within rfl rfl rfl (by decide +kernel) ⟨Nat.le_of_ble_eq_true rfl, Nat.le_of_ble_eq_true rfl⟩) x_nil rfl hl.1 (Nat.le_of_ble_eq_true rfl) dX5_isSide_3 rfl ⟨Nat.zero_le _, Nat.zero_le _⟩ ?_
  obtain ⟨hn, rfl⟩ := ckZ_ok hf
  exact x_iret hx hb hr hlk hn dX5_isSide_6
abbrev rmX5_isHeight : Room := { frames := 1, cells := 0, slots := 0, locals := 22 }
def fX5_isHeight (x0 : Int32) : Option Int32 :=
  (fX5_within x0 (0 : Int32) (7 : Int32)).bind fun v1 =>
  ckZ v1
set_option maxHeartbeats 4000000 in
set_option maxRecDepth 100000 in
theorem kX5_isHeight (l : Launch) (E : xG) (x0 : Int32) {r : Int32} (hf : fX5_isHeight x0 = some r) : xPure l yX5_isHeight wsX5_isHeight rmX5_isHeight E [.int x0] ([]) (.int r) := by
  refine Met.ofW (cc := cX5_isHeight) (maxL := 1) (ret := (some .boolean)) (by decide) rfl ?_
  intro p e s m args below meth c s₁ B hml hv
  obtain ⟨rfl, hP, hK⟩ := hv
  have hx := B.exec
  have hb := B.bytes
  have hr := B.returns
  have hts := atoms_spec (ws := wsX5_isHeight) B.pre
  have hown : s.vm.findClass RX5 = some m.cls := findClass_of_methodNamed B.named
  have hlk := B.notSynchronized
  have S : CallFix p m c cX5_isHeight 1 s _ wsX5_isHeight RX5 := ⟨hx, hb, hml, hown, hts⟩
  have hl := lv_entry ([.int x0]) (n := 1) (Nat.le_of_ble_eq_true rfl)
  rw [lg_entry_eq]
  generalize (lg_sl ([.int x0]) ++ List.replicate (1 - (lg_sl ([.int x0])).length) Slot.unset).toArray = ls at hl ⊢
  have hl : lv_has ls 1 [(0, .int x0)] := hl
  unfold fX5_isHeight at hf
  refine lv_iload_n hx hb dX5_isHeight_0 rfl (lv_at hl 0 rfl) ?_
  refine lv_iconst (v := 0) hx hb dX5_isHeight_1 (by decide) ?_
  refine lv_bipush (v := 7) hx hb dX5_isHeight_2 (by decide) ?_
  obtain ⟨v1, h1, hf⟩ := ob hf
  refine x_pS (As := [.int x0, .int (0 : Int32), .int (7 : Int32)]) (rest := []) S hK (kX5_within l E x0 (0 : Int32) (7 : Int32) h1) (va_cwS 3 hts gX5_isHeight_X5_within rfl rfl rfl (by decide +kernel) ⟨Nat.le_of_ble_eq_true rfl, Nat.le_of_ble_eq_true rfl⟩) x_nil rfl hl.1 (Nat.le_of_ble_eq_true rfl) dX5_isHeight_4 rfl ⟨Nat.zero_le _, Nat.zero_le _⟩ ?_
  obtain ⟨hn, rfl⟩ := ckZ_ok hf
  exact x_iret hx hb hr hlk hn dX5_isHeight_7
abbrev rmX5_isImage : Room := { frames := 1, cells := 0, slots := 0, locals := 22 }
def fX5_isImage (x0 : Int32) : Option Int32 :=
  (fX5_within x0 (0 : Int32) (1 : Int32)).bind fun v1 =>
  ckZ v1
set_option maxHeartbeats 4000000 in
set_option maxRecDepth 100000 in
theorem kX5_isImage (l : Launch) (E : xG) (x0 : Int32) {r : Int32} (hf : fX5_isImage x0 = some r) : xPure l yX5_isImage wsX5_isImage rmX5_isImage E [.int x0] ([]) (.int r) := by
  refine Met.ofW (cc := cX5_isImage) (maxL := 1) (ret := (some .boolean)) (by decide) rfl ?_
  intro p e s m args below meth c s₁ B hml hv
  obtain ⟨rfl, hP, hK⟩ := hv
  have hx := B.exec
  have hb := B.bytes
  have hr := B.returns
  have hts := atoms_spec (ws := wsX5_isImage) B.pre
  have hown : s.vm.findClass RX5 = some m.cls := findClass_of_methodNamed B.named
  have hlk := B.notSynchronized
  have S : CallFix p m c cX5_isImage 1 s _ wsX5_isImage RX5 := ⟨hx, hb, hml, hown, hts⟩
  have hl := lv_entry ([.int x0]) (n := 1) (Nat.le_of_ble_eq_true rfl)
  rw [lg_entry_eq]
  generalize (lg_sl ([.int x0]) ++ List.replicate (1 - (lg_sl ([.int x0])).length) Slot.unset).toArray = ls at hl ⊢
  have hl : lv_has ls 1 [(0, .int x0)] := hl
  unfold fX5_isImage at hf
  refine lv_iload_n hx hb dX5_isImage_0 rfl (lv_at hl 0 rfl) ?_
  refine lv_iconst (v := 0) hx hb dX5_isImage_1 (by decide) ?_
  refine lv_iconst (v := 1) hx hb dX5_isImage_2 (by decide) ?_
  obtain ⟨v1, h1, hf⟩ := ob hf
  refine x_pS (As := [.int x0, .int (0 : Int32), .int (1 : Int32)]) (rest := []) S hK (kX5_within l E x0 (0 : Int32) (1 : Int32) h1) (va_cwS 3 hts gX5_isImage_X5_within rfl rfl rfl (by decide +kernel) ⟨Nat.le_of_ble_eq_true rfl, Nat.le_of_ble_eq_true rfl⟩) x_nil rfl hl.1 (Nat.le_of_ble_eq_true rfl) dX5_isImage_3 rfl ⟨Nat.zero_le _, Nat.zero_le _⟩ ?_
  obtain ⟨hn, rfl⟩ := ckZ_ok hf
  exact x_iret hx hb hr hlk hn dX5_isImage_6
abbrev rmX5_commonDivisor : Room := { frames := 1, cells := 0, slots := 0, locals := 23 }
theorem mX5_commonDivisor_0 : Cond.methodLink RX5 235 Lib.MathLoose.abs_long.x ∈ wsX5_commonDivisor := by decide +kernel
theorem mX5_commonDivisor_1 : Cond.static Lib.MathLoose.abs_long.x ∈ wsX5_commonDivisor := by decide +kernel
theorem mX5_commonDivisor_2 : Cond.initialized "java/lang/Math" ∈ wsX5_commonDivisor := by decide +kernel
theorem mX5_commonDivisor_3 : Cond.code Lib.MathLoose.abs_long.x Lib.MathLoose.abs_long.code 2 (some .long) ∈ wsX5_commonDivisor := by decide +kernel
theorem mX5_commonDivisor_4 : Cond.methodLink RX5 241 Lib.MathLoose.max_long.x ∈ wsX5_commonDivisor := by decide +kernel
theorem mX5_commonDivisor_5 : Cond.static Lib.MathLoose.max_long.x ∈ wsX5_commonDivisor := by decide +kernel
theorem mX5_commonDivisor_6 : Cond.code Lib.MathLoose.max_long.x Lib.MathLoose.max_long.code 4 (some .long) ∈ wsX5_commonDivisor := by decide +kernel
def gX5_commonDivisor_15 (x0 : Int64) (x2 : Int64) (rec : (Int64 × Int64 × Int32) → Option (Int64 × Int64 × Int32)) (u : Int64 × Int64 × Int32) : Option (Int64 × Int64 × Int32) :=
  (if (100 : Int32) ≤ u.2.2 then
  some (u.1, u.2.1, u.2.2)
  else (if u.2.1 ≤ (0 : Int64) then
  some (u.1, u.2.1, u.2.2)
  else (rmJ u.1 u.2.1).bind fun v3 =>
  rec (u.2.1, v3, (u.2.2 + (1 : Int32)))))
set_option maxHeartbeats 4000000 in
set_option maxRecDepth 100000 in
theorem wX5_commonDivisor_15 {p : Program} {l : Launch} {e : Env} {s : State} {m : MethodId} {args : Array Value} {below : List Frame} {meth : Method} {c : Code} {Q : State → Prop} (S : CallFix p m c cX5_commonDivisor 11 s args wsX5_commonDivisor RX5) (E : xG) (hK : xK E s) (x0 : Int64) (x2 : Int64) (hP : va_P (xD E) vwCl ([]) s.heap) : ∀ (n : Nat) (u : Int64 × Int64 × Int32) (r : Int64 × Int64 × Int32), lp (gX5_commonDivisor_15 x0 x2) n u = some r → ∀ (ls : Array Slot), lv_has ls 11 [(0, .long x0), (2, .long x2), (4, .long u.1), (6, .long u.2.1), (8, .int u.2.2)] → (∀ (ls : Array Slot), lv_has ls 11 [(0, .long x0), (2, .long x2), (4, .long r.1), (6, .long r.2.1), (8, .int r.2.2)] → W p l e rmX5_commonDivisor s m args below meth c s.heap [] 0 0 Q (F0 m 50 ls [])) → W p l e rmX5_commonDivisor s m args below meth c s.heap [] 0 0 Q (F0 m 15 ls []) := by
  obtain ⟨hx, hb, hml, hown, hts⟩ := id S
  intro n
  induction n with
  | zero =>
    intro u r hf
    exact absurd (show (none : Option _) = some r from hf) (fun q => by cases q)
  | succ n ih =>
    intro u r hf ls hl kx
    have hf : gX5_commonDivisor_15 x0 x2 (lp (gX5_commonDivisor_15 x0 x2) n) u = some r := hf
    unfold gX5_commonDivisor_15 at hf
    refine lv_iload hx hb dX5_commonDivisor_15 (lv_at hl 4 rfl) ?_
    refine lv_bipush (v := 100) hx hb dX5_commonDivisor_17 (by decide) ?_
    refine lv_icmp_ge (tgt := 50) hx hb dX5_commonDivisor_19 (by decide) (fun c1 => ?_) (fun c1 => ?_)
    · have hf := (if_pos c1).symm.trans hf
      obtain rfl := Option.some.inj hf
      exact kx ls (lv_sub hl [0, 1, 2, 3, 4] rfl)
    · have hf := (if_neg c1).symm.trans hf
      refine lv_lload hx hb dX5_commonDivisor_22 (lv_at hl 3 rfl) ?_
      refine lv_lconst (v := 0) hx hb dX5_commonDivisor_24 (by decide) ?_
      refine x_lif_le (tgt := 50) hx hb dX5_commonDivisor_25 dX5_commonDivisor_26 (by decide) (fun c2 => ?_) (fun c2 => ?_)
      · have hf := (if_pos c2).symm.trans hf
        obtain rfl := Option.some.inj hf
        exact kx ls (lv_sub hl [0, 1, 2, 3, 4] rfl)
      · have hf := (if_neg c2).symm.trans hf
        refine lv_lload hx hb dX5_commonDivisor_29 (lv_at hl 2 rfl) ?_
        refine lv_lload hx hb dX5_commonDivisor_31 (lv_at hl 3 rfl) ?_
        obtain ⟨v3, h3, hf⟩ := ob hf
        refine x_lrem hx hb h3 dX5_commonDivisor_33 ?_
        refine lv_lstore (lv' := [(9, .long v3), (0, .long x0), (2, .long x2), (4, .long u.1), (6, .long u.2.1), (8, .int u.2.2)]) hx hb dX5_commonDivisor_34 hl (by decide) rfl (fun ls hl => ?_)
        refine lv_lload hx hb dX5_commonDivisor_36 (lv_at hl 4 rfl) ?_
        refine lv_lstore (lv' := [(4, .long u.2.1), (9, .long v3), (0, .long x0), (2, .long x2), (6, .long u.2.1), (8, .int u.2.2)]) hx hb dX5_commonDivisor_38 hl (by decide) rfl (fun ls hl => ?_)
        refine lv_lload hx hb dX5_commonDivisor_40 (lv_at hl 1 rfl) ?_
        refine lv_lstore (lv' := [(6, .long v3), (4, .long u.2.1), (9, .long v3), (0, .long x0), (2, .long x2), (8, .int u.2.2)]) hx hb dX5_commonDivisor_42 hl (by decide) rfl (fun ls hl => ?_)
        refine lv_iinc (v := (u.2.2 + (1 : Int32))) (lv' := [(8, .int (u.2.2 + (1 : Int32))), (6, .long v3), (4, .long u.2.1), (9, .long v3), (0, .long x0), (2, .long x2)]) hx hb dX5_commonDivisor_44 hl (k := 5) rfl rfl (by decide) rfl (fun ls hl => ?_)
        refine lv_goto (tgt := 15) hx hb dX5_commonDivisor_47 (by decide) ?_
        exact ih (u.2.1, v3, (u.2.2 + (1 : Int32))) _ hf ls (lv_sub hl [4, 5, 2, 1, 0] rfl) kx
def fX5_commonDivisor (x0 : Int64) (x2 : Int64) : Option Int64 :=
  (lp (gX5_commonDivisor_15 x0 x2) 1000 ((if 0 < x0 then x0 else -x0), (if 0 < x2 then x2 else -x2), (0 : Int32))).bind fun v1 =>
  some (if v1.1 < (1 : Int64) then (1 : Int64) else v1.1)
set_option maxHeartbeats 4000000 in
set_option maxRecDepth 100000 in
theorem kX5_commonDivisor (l : Launch) (E : xG) (x0 : Int64) (x2 : Int64) {r : Int64} (hf : fX5_commonDivisor x0 x2 = some r) : xPure l yX5_commonDivisor wsX5_commonDivisor rmX5_commonDivisor E [.long x0, .long x2] ([]) (.long r) := by
  refine Met.ofW (cc := cX5_commonDivisor) (maxL := 11) (ret := (some .long)) (by decide) rfl ?_
  intro p e s m args below meth c s₁ B hml hv
  obtain ⟨rfl, hP, hK⟩ := hv
  have hx := B.exec
  have hb := B.bytes
  have hr := B.returns
  have hts := atoms_spec (ws := wsX5_commonDivisor) B.pre
  have hown : s.vm.findClass RX5 = some m.cls := findClass_of_methodNamed B.named
  have hlk := B.notSynchronized
  have S : CallFix p m c cX5_commonDivisor 11 s _ wsX5_commonDivisor RX5 := ⟨hx, hb, hml, hown, hts⟩
  have hl := lv_entry ([.long x0, .long x2]) (n := 11) (Nat.le_of_ble_eq_true rfl)
  rw [lg_entry_eq]
  generalize (lg_sl ([.long x0, .long x2]) ++ List.replicate (11 - (lg_sl ([.long x0, .long x2])).length) Slot.unset).toArray = ls at hl ⊢
  have hl : lv_has ls 11 [(0, .long x0), (2, .long x2)] := hl
  unfold fX5_commonDivisor at hf
  refine lv_lload_n hx hb dX5_commonDivisor_0 rfl (lv_at hl 0 rfl) ?_
  refine va_mabs_long hx hb (by rw [hml]; exact hl.1.symm) hown (hts _ mX5_commonDivisor_0) (hts _ mX5_commonDivisor_1) (hts _ mX5_commonDivisor_2) (hts _ mX5_commonDivisor_3) (Nat.le_of_ble_eq_true rfl) (Nat.le_of_ble_eq_true rfl) (Nat.zero_le _) (Nat.zero_le _) dX5_commonDivisor_1 ?_
  refine lv_lstore (lv' := [(4, .long (if 0 < x0 then x0 else -x0)), (0, .long x0), (2, .long x2)]) hx hb dX5_commonDivisor_4 hl (by decide) rfl (fun ls hl => ?_)
  refine lv_lload_n hx hb dX5_commonDivisor_6 rfl (lv_at hl 2 rfl) ?_
  refine va_mabs_long hx hb (by rw [hml]; exact hl.1.symm) hown (hts _ mX5_commonDivisor_0) (hts _ mX5_commonDivisor_1) (hts _ mX5_commonDivisor_2) (hts _ mX5_commonDivisor_3) (Nat.le_of_ble_eq_true rfl) (Nat.le_of_ble_eq_true rfl) (Nat.zero_le _) (Nat.zero_le _) dX5_commonDivisor_7 ?_
  refine lv_lstore (lv' := [(6, .long (if 0 < x2 then x2 else -x2)), (4, .long (if 0 < x0 then x0 else -x0)), (0, .long x0), (2, .long x2)]) hx hb dX5_commonDivisor_10 hl (by decide) rfl (fun ls hl => ?_)
  refine lv_iconst (v := 0) hx hb dX5_commonDivisor_12 (by decide) ?_
  refine lv_istore (lv' := [(8, .int (0 : Int32)), (6, .long (if 0 < x2 then x2 else -x2)), (4, .long (if 0 < x0 then x0 else -x0)), (0, .long x0), (2, .long x2)]) hx hb dX5_commonDivisor_13 hl (by decide) rfl (fun ls hl => ?_)
  obtain ⟨v1, h1, hf⟩ := ob hf
  refine wX5_commonDivisor_15 S E hK x0 x2 hP 1000 _ _ h1 ls (lv_sub hl [3, 4, 2, 1, 0] rfl) (fun ls hl => ?_)
  refine lv_lconst (v := 1) hx hb dX5_commonDivisor_50 (by decide) ?_
  refine lv_lload hx hb dX5_commonDivisor_51 (lv_at hl 2 rfl) ?_
  refine va_mmax_long hx hb (by rw [hml]; exact hl.1.symm) hown (hts _ mX5_commonDivisor_4) (hts _ mX5_commonDivisor_5) (hts _ mX5_commonDivisor_2) (hts _ mX5_commonDivisor_6) (Nat.le_of_ble_eq_true rfl) (Nat.le_of_ble_eq_true rfl) (Nat.zero_le _) (Nat.zero_le _) dX5_commonDivisor_53 ?_
  obtain rfl := Option.some.inj hf
  exact x_lret hx hb hr hlk dX5_commonDivisor_56
abbrev rmX5_aboveOf : Room := { frames := 2, cells := 0, slots := 0, locals := 53 }
def fX5_aboveOf (x0 : Int64) (x2 : Int64) : Option Int64 :=
  (fX5_commonDivisor x0 x2).bind fun v1 =>
  (dvJ x0 v1).bind fun v2 =>
  some v2
set_option maxHeartbeats 4000000 in
set_option maxRecDepth 100000 in
theorem kX5_aboveOf (l : Launch) (E : xG) (x0 : Int64) (x2 : Int64) {r : Int64} (hf : fX5_aboveOf x0 x2 = some r) : xPure l yX5_aboveOf wsX5_aboveOf rmX5_aboveOf E [.long x0, .long x2] ([]) (.long r) := by
  refine Met.ofW (cc := cX5_aboveOf) (maxL := 4) (ret := (some .long)) (by decide) rfl ?_
  intro p e s m args below meth c s₁ B hml hv
  obtain ⟨rfl, hP, hK⟩ := hv
  have hx := B.exec
  have hb := B.bytes
  have hr := B.returns
  have hts := atoms_spec (ws := wsX5_aboveOf) B.pre
  have hown : s.vm.findClass RX5 = some m.cls := findClass_of_methodNamed B.named
  have hlk := B.notSynchronized
  have S : CallFix p m c cX5_aboveOf 4 s _ wsX5_aboveOf RX5 := ⟨hx, hb, hml, hown, hts⟩
  have hl := lv_entry ([.long x0, .long x2]) (n := 4) (Nat.le_of_ble_eq_true rfl)
  rw [lg_entry_eq]
  generalize (lg_sl ([.long x0, .long x2]) ++ List.replicate (4 - (lg_sl ([.long x0, .long x2])).length) Slot.unset).toArray = ls at hl ⊢
  have hl : lv_has ls 4 [(0, .long x0), (2, .long x2)] := hl
  unfold fX5_aboveOf at hf
  refine lv_lload_n hx hb dX5_aboveOf_0 rfl (lv_at hl 0 rfl) ?_
  refine lv_lload_n hx hb dX5_aboveOf_1 rfl (lv_at hl 0 rfl) ?_
  refine lv_lload_n hx hb dX5_aboveOf_2 rfl (lv_at hl 1 rfl) ?_
  obtain ⟨v1, h1, hf⟩ := ob hf
  refine x_pS (As := [.long x0, .long x2]) (rest := [.long x0]) S hK (kX5_commonDivisor l E x0 x2 h1) (va_cwS 2 hts gX5_aboveOf_X5_commonDivisor rfl rfl rfl (by decide +kernel) ⟨Nat.le_of_ble_eq_true rfl, Nat.le_of_ble_eq_true rfl⟩) x_nil rfl hl.1 (Nat.le_of_ble_eq_true rfl) dX5_aboveOf_3 rfl ⟨Nat.zero_le _, Nat.zero_le _⟩ ?_
  obtain ⟨v2, h2, hf⟩ := ob hf
  refine x_ldiv hx hb h2 dX5_aboveOf_6 ?_
  obtain rfl := Option.some.inj hf
  exact x_lret hx hb hr hlk dX5_aboveOf_7
abbrev rmX5_belowOf : Room := { frames := 2, cells := 0, slots := 0, locals := 53 }
def fX5_belowOf (x0 : Int64) (x2 : Int64) : Option Int64 :=
  (fX5_commonDivisor x0 x2).bind fun v1 =>
  (dvJ x2 v1).bind fun v2 =>
  some v2
set_option maxHeartbeats 4000000 in
set_option maxRecDepth 100000 in
theorem kX5_belowOf (l : Launch) (E : xG) (x0 : Int64) (x2 : Int64) {r : Int64} (hf : fX5_belowOf x0 x2 = some r) : xPure l yX5_belowOf wsX5_belowOf rmX5_belowOf E [.long x0, .long x2] ([]) (.long r) := by
  refine Met.ofW (cc := cX5_belowOf) (maxL := 4) (ret := (some .long)) (by decide) rfl ?_
  intro p e s m args below meth c s₁ B hml hv
  obtain ⟨rfl, hP, hK⟩ := hv
  have hx := B.exec
  have hb := B.bytes
  have hr := B.returns
  have hts := atoms_spec (ws := wsX5_belowOf) B.pre
  have hown : s.vm.findClass RX5 = some m.cls := findClass_of_methodNamed B.named
  have hlk := B.notSynchronized
  have S : CallFix p m c cX5_belowOf 4 s _ wsX5_belowOf RX5 := ⟨hx, hb, hml, hown, hts⟩
  have hl := lv_entry ([.long x0, .long x2]) (n := 4) (Nat.le_of_ble_eq_true rfl)
  rw [lg_entry_eq]
  generalize (lg_sl ([.long x0, .long x2]) ++ List.replicate (4 - (lg_sl ([.long x0, .long x2])).length) Slot.unset).toArray = ls at hl ⊢
  have hl : lv_has ls 4 [(0, .long x0), (2, .long x2)] := hl
  unfold fX5_belowOf at hf
  refine lv_lload_n hx hb dX5_belowOf_0 rfl (lv_at hl 1 rfl) ?_
  refine lv_lload_n hx hb dX5_belowOf_1 rfl (lv_at hl 0 rfl) ?_
  refine lv_lload_n hx hb dX5_belowOf_2 rfl (lv_at hl 1 rfl) ?_
  obtain ⟨v1, h1, hf⟩ := ob hf
  refine x_pS (As := [.long x0, .long x2]) (rest := [.long x2]) S hK (kX5_commonDivisor l E x0 x2 h1) (va_cwS 2 hts gX5_belowOf_X5_commonDivisor rfl rfl rfl (by decide +kernel) ⟨Nat.le_of_ble_eq_true rfl, Nat.le_of_ble_eq_true rfl⟩) x_nil rfl hl.1 (Nat.le_of_ble_eq_true rfl) dX5_belowOf_3 rfl ⟨Nat.zero_le _, Nat.zero_le _⟩ ?_
  obtain ⟨v2, h2, hf⟩ := ob hf
  refine x_ldiv hx hb h2 dX5_belowOf_6 ?_
  obtain rfl := Option.some.inj hf
  exact x_lret hx hb hr hlk dX5_belowOf_7
abbrev rmX1_placeOfBack : Room := { frames := 0, cells := 0, slots := 0, locals := 0 }
def fX1_placeOfBack (x0 : Int32) (x1 : Int32) (x2 : Int32) : Option Int32 :=
  some ((((x0 * (2 : Int32)) + x1) * (8 : Int32)) + x2)
set_option maxHeartbeats 4000000 in
set_option maxRecDepth 100000 in
theorem kX1_placeOfBack (l : Launch) (E : xG) (x0 : Int32) (x1 : Int32) (x2 : Int32) {r : Int32} (hf : fX1_placeOfBack x0 x1 x2 = some r) : xPure l yX1_placeOfBack wsX1_placeOfBack rmX1_placeOfBack E [.int x0, .int x1, .int x2] ([]) (.int r) := by
  refine Met.ofW (cc := cX1_placeOfBack) (maxL := 3) (ret := (some .int)) (by decide) rfl ?_
  intro p e s m args below meth c s₁ B hml hv
  obtain ⟨rfl, hP, hK⟩ := hv
  have hx := B.exec
  have hb := B.bytes
  have hr := B.returns
  have hts := atoms_spec (ws := wsX1_placeOfBack) B.pre
  have hown : s.vm.findClass RX1 = some m.cls := findClass_of_methodNamed B.named
  have hlk := B.notSynchronized
  have S : CallFix p m c cX1_placeOfBack 3 s _ wsX1_placeOfBack RX1 := ⟨hx, hb, hml, hown, hts⟩
  have hl := lv_entry ([.int x0, .int x1, .int x2]) (n := 3) (Nat.le_of_ble_eq_true rfl)
  rw [lg_entry_eq]
  generalize (lg_sl ([.int x0, .int x1, .int x2]) ++ List.replicate (3 - (lg_sl ([.int x0, .int x1, .int x2])).length) Slot.unset).toArray = ls at hl ⊢
  have hl : lv_has ls 3 [(0, .int x0), (1, .int x1), (2, .int x2)] := hl
  unfold fX1_placeOfBack at hf
  refine lv_iload_n hx hb dX1_placeOfBack_0 rfl (lv_at hl 0 rfl) ?_
  refine lv_iconst (v := 2) hx hb dX1_placeOfBack_1 (by decide) ?_
  refine lv_imul hx hb dX1_placeOfBack_2 ?_
  refine lv_iload_n hx hb dX1_placeOfBack_3 rfl (lv_at hl 1 rfl) ?_
  refine lv_iadd hx hb dX1_placeOfBack_4 ?_
  refine lv_bipush (v := 8) hx hb dX1_placeOfBack_5 (by decide) ?_
  refine lv_imul hx hb dX1_placeOfBack_7 ?_
  refine lv_iload_n hx hb dX1_placeOfBack_8 rfl (lv_at hl 2 rfl) ?_
  refine lv_iadd hx hb dX1_placeOfBack_9 ?_
  obtain rfl := Option.some.inj hf
  exact x_iret hx hb hr hlk (vp_nar_int _) dX1_placeOfBack_10
abbrev rmX1_nextLot : Room := { frames := 0, cells := 0, slots := 0, locals := 0 }
theorem mX1_nextLot_0 : Cond.constantLong RX1 87 (16807) ∈ wsX1_nextLot := by decide +kernel
theorem mX1_nextLot_1 : Cond.constantLong RX1 89 (2147483647) ∈ wsX1_nextLot := by decide +kernel
def fX1_nextLot (x0 : Int64) : Option Int64 :=
  some ((x0 * (16807 : Int64)) - (x0 * (16807 : Int64)) / (2147483647 : Int64) * (2147483647 : Int64))
set_option maxHeartbeats 4000000 in
set_option maxRecDepth 100000 in
theorem kX1_nextLot (l : Launch) (E : xG) (x0 : Int64) {r : Int64} (hf : fX1_nextLot x0 = some r) : xPure l yX1_nextLot wsX1_nextLot rmX1_nextLot E [.long x0] ([]) (.long r) := by
  refine Met.ofW (cc := cX1_nextLot) (maxL := 2) (ret := (some .long)) (by decide) rfl ?_
  intro p e s m args below meth c s₁ B hml hv
  obtain ⟨rfl, hP, hK⟩ := hv
  have hx := B.exec
  have hb := B.bytes
  have hr := B.returns
  have hts := atoms_spec (ws := wsX1_nextLot) B.pre
  have hown : s.vm.findClass RX1 = some m.cls := findClass_of_methodNamed B.named
  have hlk := B.notSynchronized
  have S : CallFix p m c cX1_nextLot 2 s _ wsX1_nextLot RX1 := ⟨hx, hb, hml, hown, hts⟩
  have hl := lv_entry ([.long x0]) (n := 2) (Nat.le_of_ble_eq_true rfl)
  rw [lg_entry_eq]
  generalize (lg_sl ([.long x0]) ++ List.replicate (2 - (lg_sl ([.long x0])).length) Slot.unset).toArray = ls at hl ⊢
  have hl : lv_has ls 2 [(0, .long x0)] := hl
  unfold fX1_nextLot at hf
  refine lv_lload_n hx hb dX1_nextLot_0 rfl (lv_at hl 0 rfl) ?_
  refine lv_ldc2 hx hb hown (hts _ mX1_nextLot_0) dX1_nextLot_1 ?_
  refine lv_lmul hx hb dX1_nextLot_4 ?_
  refine lv_ldc2 hx hb hown (hts _ mX1_nextLot_1) dX1_nextLot_5 ?_
  refine lv_lrem hx hb dX1_nextLot_8 (by decide) ?_
  obtain rfl := Option.some.inj hf
  exact x_lret hx hb hr hlk dX1_nextLot_9
