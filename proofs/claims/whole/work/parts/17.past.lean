abbrev rmX1_takeAll : Room := { frames := 1, cells := 0, slots := 0, locals := 60 }
theorem mX1_takeAll_0 : Cond.fieldLink RX1 32 "EvenWhite$Fount" "many" "I" ∈ wsX1_takeAll := by decide +kernel
theorem mX1_takeAll_1 : Cond.fieldLink RX1 9 "EvenWhite$Fount" "depth" "I" ∈ wsX1_takeAll := by decide +kernel
theorem mX1_takeAll_2 : Cond.fieldLink RX1 15 "EvenWhite$Fount" "wanted" "I" ∈ wsX1_takeAll := by decide +kernel
theorem mX1_takeAll_3 : Cond.fieldLink RX1 18 "EvenWhite$Fount" "bodies" "[I" ∈ wsX1_takeAll := by decide +kernel
theorem mX1_takeAll_4 : Cond.methodLink RX1 35 arraycopyName ∈ wsX1_takeAll := by decide +kernel
theorem mX1_takeAll_5 : Cond.native arraycopyName ∈ wsX1_takeAll := by decide +kernel
theorem mX1_takeAll_6 : Cond.static arraycopyName ∈ wsX1_takeAll := by decide +kernel
theorem mX1_takeAll_7 : Cond.initialized "java/lang/System" ∈ wsX1_takeAll := by decide +kernel
theorem mX1_takeAll_8 : Cond.fieldLink RX1 22 "EvenWhite$Fount" "backs" "[I" ∈ wsX1_takeAll := by decide +kernel
theorem mX1_takeAll_9 : Cond.fieldLink RX1 25 "EvenWhite$Fount" "weights" "[I" ∈ wsX1_takeAll := by decide +kernel
theorem inX1_takeAll_1 : ∀ w ∈ u_ws RX1 TX1 6, w ∈ wsX1_takeAll := by decide +kernel
def fX1_takeAll (z : Fo) (y : Fo) : Option Fo :=
  some (Fo_set_weights (Fo_set_backs (Fo_set_bodies (Fo_set_wanted (Fo_set_depth (Fo_set_many z (Fo_many y)) (Fo_depth y)) (Fo_wanted y)) (va_cpy (Fo_bodies y) (Fo_bodies z) 0 0 3)) (va_cpy (Fo_backs y) (Fo_backs z) 0 0 48)) (va_cpy (Fo_weights y) (Fo_weights z) 0 0 9))
set_option maxHeartbeats 4000000 in
set_option maxRecDepth 100000 in
theorem kX1_takeAll (l : Launch) (E : xG) (f : Nat → Nat) (k : Nat → Nat) (z : Fo) (y : Fo) {r : Fo} (hf : fX1_takeAll z y = some r) : xMut l yX1_takeAll wsX1_takeAll rmX1_takeAll E [.ref (f 0), .ref (k 0)] (wFF E f k z y) none (wFF E f k r y) := by
  refine Met.ofW (cc := cX1_takeAll) (maxL := 2) (ret := none) (by decide) rfl ?_
  intro p e s m args below meth c s₁ B hml hv
  obtain ⟨rfl, hP, hK, hD0⟩ := hv
  have hx := B.exec
  have hb := B.bytes
  have hr := B.returns
  have hts := atoms_spec (ws := wsX1_takeAll) B.pre
  have hown : s.vm.findClass RX1 = some m.cls := findClass_of_methodNamed B.named
  have hlk := B.notSynchronized
  have S : CallFix p m c cX1_takeAll 2 s _ wsX1_takeAll RX1 := ⟨hx, hb, hml, hown, hts⟩
  have hl := lv_entry ([.ref (f 0), .ref (k 0)]) (n := 2) (Nat.le_of_ble_eq_true rfl)
  rw [lg_entry_eq]
  generalize (lg_sl ([.ref (f 0), .ref (k 0)]) ++ List.replicate (2 - (lg_sl ([.ref (f 0), .ref (k 0)])).length) Slot.unset).toArray = ls at hl ⊢
  have hl : lv_has ls 2 [(0, .ref (f 0)), (1, .ref (k 0))] := hl
  have hD := xA.self hD0
  have hS : va_S (xA (wFF E f k z y)) s.heap s.heap [] := va_S.rf
  show W p l e rmX1_takeAll s m _ below meth c s.heap [] 0 0 _ _
  generalize hA : xA (wFF E f k z y) = A at hD hS ⊢
  unfold fX1_takeAll at hf
  refine lv_aload_n hx hb dX1_takeAll_0 rfl (lv_at hl 0 rfl) ?_
  refine lv_aload_n hx hb dX1_takeAll_1 rfl (lv_at hl 1 rfl) ?_
  refine x_get hx hb hts inX1_takeAll_1 hown hK hP 4 rfl rfl 0 (by decide) mX1_takeAll_0 rfl dX1_takeAll_2 ?_
  refine x_putf hx hb hts inX1_takeAll_1 tyX1_ok nmX1 hown hK hP hD hS 0 rfl rfl 0 (by decide) mX1_takeAll_0 rfl (vp_nar_int _) rfl (Nat.le_of_ble_eq_true rfl) dX1_takeAll_5 (fun H locs hP hD hS => ?_)
  have hP : va_P (xD E) vwCl (wFF E f k (Fo_set_many z (Fo_many y)) y) H := hP
  have hD : va_D A (wFF E f k (Fo_set_many z (Fo_many y)) y) := hD
  refine lv_aload_n hx hb dX1_takeAll_8 rfl (lv_at hl 0 rfl) ?_
  refine lv_aload_n hx hb dX1_takeAll_9 rfl (lv_at hl 1 rfl) ?_
  refine x_get hx hb hts inX1_takeAll_1 hown hK hP 4 rfl rfl 1 (by decide) mX1_takeAll_1 rfl dX1_takeAll_10 ?_
  refine x_putf hx hb hts inX1_takeAll_1 tyX1_ok nmX1 hown hK hP hD hS 0 rfl rfl 1 (by decide) mX1_takeAll_1 rfl (vp_nar_int _) rfl (Nat.le_of_ble_eq_true rfl) dX1_takeAll_13 (fun H locs hP hD hS => ?_)
  have hP : va_P (xD E) vwCl (wFF E f k (Fo_set_depth (Fo_set_many z (Fo_many y)) (Fo_depth y)) y) H := hP
  have hD : va_D A (wFF E f k (Fo_set_depth (Fo_set_many z (Fo_many y)) (Fo_depth y)) y) := hD
  refine lv_aload_n hx hb dX1_takeAll_16 rfl (lv_at hl 0 rfl) ?_
  refine lv_aload_n hx hb dX1_takeAll_17 rfl (lv_at hl 1 rfl) ?_
  refine x_get hx hb hts inX1_takeAll_1 hown hK hP 4 rfl rfl 2 (by decide) mX1_takeAll_2 rfl dX1_takeAll_18 ?_
  refine x_putf hx hb hts inX1_takeAll_1 tyX1_ok nmX1 hown hK hP hD hS 0 rfl rfl 2 (by decide) mX1_takeAll_2 rfl (vp_nar_int _) rfl (Nat.le_of_ble_eq_true rfl) dX1_takeAll_21 (fun H locs hP hD hS => ?_)
  have hP : va_P (xD E) vwCl (wFF E f k (Fo_set_wanted (Fo_set_depth (Fo_set_many z (Fo_many y)) (Fo_depth y)) (Fo_wanted y)) y) H := hP
  have hD : va_D A (wFF E f k (Fo_set_wanted (Fo_set_depth (Fo_set_many z (Fo_many y)) (Fo_depth y)) (Fo_wanted y)) y) := hD
  refine lv_aload_n hx hb dX1_takeAll_24 rfl (lv_at hl 1 rfl) ?_
  refine x_get hx hb hts inX1_takeAll_1 hown hK hP 4 rfl rfl 3 (by decide) mX1_takeAll_3 rfl dX1_takeAll_25 ?_
  refine lv_iconst (v := 0) hx hb dX1_takeAll_28 (by decide) ?_
  refine lv_aload_n hx hb dX1_takeAll_29 rfl (lv_at hl 0 rfl) ?_
  refine x_get hx hb hts inX1_takeAll_1 hown hK hP 0 rfl rfl 3 (by decide) mX1_takeAll_3 rfl dX1_takeAll_30 ?_
  refine lv_iconst (v := 0) hx hb dX1_takeAll_33 (by decide) ?_
  refine lv_aload_n hx hb dX1_takeAll_34 rfl (lv_at hl 0 rfl) ?_
  refine x_get hx hb hts inX1_takeAll_1 hown hK hP 0 rfl rfl 3 (by decide) mX1_takeAll_3 rfl dX1_takeAll_35 ?_
  refine va_alen (v := 3) hx hb hK.1 hP 1 0 rfl rfl rfl dX1_takeAll_38 ?_
  refine va_copyi hx hb (by rw [hml]; exact hl.1.symm) hown (hts _ mX1_takeAll_4) (hts _ mX1_takeAll_5) (hts _ mX1_takeAll_6) (hts _ mX1_takeAll_7) hK.1 hP hD hS 5 1 0 0 rfl rfl rfl rfl rfl (by decide) (by decide) (by decide) (by decide) (by decide) (fun _ _ => rfl) (Nat.le_of_ble_eq_true rfl) (Nat.le_of_ble_eq_true rfl) dX1_takeAll_39 (fun H locs hP hD hS => ?_)
  have hP : va_P (xD E) vwCl (wFF E f k (Fo_set_bodies (Fo_set_wanted (Fo_set_depth (Fo_set_many z (Fo_many y)) (Fo_depth y)) (Fo_wanted y)) (va_cpy (Fo_bodies y) (Fo_bodies z) 0 0 3)) y) H := hP
  have hD : va_D A (wFF E f k (Fo_set_bodies (Fo_set_wanted (Fo_set_depth (Fo_set_many z (Fo_many y)) (Fo_depth y)) (Fo_wanted y)) (va_cpy (Fo_bodies y) (Fo_bodies z) 0 0 3)) y) := hD
  refine lv_aload_n hx hb dX1_takeAll_42 rfl (lv_at hl 1 rfl) ?_
  refine x_get hx hb hts inX1_takeAll_1 hown hK hP 4 rfl rfl 4 (by decide) mX1_takeAll_8 rfl dX1_takeAll_43 ?_
  refine lv_iconst (v := 0) hx hb dX1_takeAll_46 (by decide) ?_
  refine lv_aload_n hx hb dX1_takeAll_47 rfl (lv_at hl 0 rfl) ?_
  refine x_get hx hb hts inX1_takeAll_1 hown hK hP 0 rfl rfl 4 (by decide) mX1_takeAll_8 rfl dX1_takeAll_48 ?_
  refine lv_iconst (v := 0) hx hb dX1_takeAll_51 (by decide) ?_
  refine lv_aload_n hx hb dX1_takeAll_52 rfl (lv_at hl 0 rfl) ?_
  refine x_get hx hb hts inX1_takeAll_1 hown hK hP 0 rfl rfl 4 (by decide) mX1_takeAll_8 rfl dX1_takeAll_53 ?_
  refine va_alen (v := 48) hx hb hK.1 hP 2 0 rfl rfl rfl dX1_takeAll_56 ?_
  refine va_copyi hx hb (by rw [hml]; exact hl.1.symm) hown (hts _ mX1_takeAll_4) (hts _ mX1_takeAll_5) (hts _ mX1_takeAll_6) (hts _ mX1_takeAll_7) hK.1 hP hD hS 6 2 0 0 rfl rfl rfl rfl rfl (by decide) (by decide) (by decide) (by decide) (by decide) (fun _ _ => rfl) (Nat.le_of_ble_eq_true rfl) (Nat.le_of_ble_eq_true rfl) dX1_takeAll_57 (fun H locs hP hD hS => ?_)
  have hP : va_P (xD E) vwCl (wFF E f k (Fo_set_backs (Fo_set_bodies (Fo_set_wanted (Fo_set_depth (Fo_set_many z (Fo_many y)) (Fo_depth y)) (Fo_wanted y)) (va_cpy (Fo_bodies y) (Fo_bodies z) 0 0 3)) (va_cpy (Fo_backs y) (Fo_backs z) 0 0 48)) y) H := hP
  have hD : va_D A (wFF E f k (Fo_set_backs (Fo_set_bodies (Fo_set_wanted (Fo_set_depth (Fo_set_many z (Fo_many y)) (Fo_depth y)) (Fo_wanted y)) (va_cpy (Fo_bodies y) (Fo_bodies z) 0 0 3)) (va_cpy (Fo_backs y) (Fo_backs z) 0 0 48)) y) := hD
  refine lv_aload_n hx hb dX1_takeAll_60 rfl (lv_at hl 1 rfl) ?_
  refine x_get hx hb hts inX1_takeAll_1 hown hK hP 4 rfl rfl 5 (by decide) mX1_takeAll_9 rfl dX1_takeAll_61 ?_
  refine lv_iconst (v := 0) hx hb dX1_takeAll_64 (by decide) ?_
  refine lv_aload_n hx hb dX1_takeAll_65 rfl (lv_at hl 0 rfl) ?_
  refine x_get hx hb hts inX1_takeAll_1 hown hK hP 0 rfl rfl 5 (by decide) mX1_takeAll_9 rfl dX1_takeAll_66 ?_
  refine lv_iconst (v := 0) hx hb dX1_takeAll_69 (by decide) ?_
  refine lv_aload_n hx hb dX1_takeAll_70 rfl (lv_at hl 0 rfl) ?_
  refine x_get hx hb hts inX1_takeAll_1 hown hK hP 0 rfl rfl 5 (by decide) mX1_takeAll_9 rfl dX1_takeAll_71 ?_
  refine va_alen (v := 9) hx hb hK.1 hP 3 0 rfl rfl rfl dX1_takeAll_74 ?_
  refine va_copyi hx hb (by rw [hml]; exact hl.1.symm) hown (hts _ mX1_takeAll_4) (hts _ mX1_takeAll_5) (hts _ mX1_takeAll_6) (hts _ mX1_takeAll_7) hK.1 hP hD hS 7 3 0 0 rfl rfl rfl rfl rfl (by decide) (by decide) (by decide) (by decide) (by decide) (fun _ _ => rfl) (Nat.le_of_ble_eq_true rfl) (Nat.le_of_ble_eq_true rfl) dX1_takeAll_75 (fun H locs hP hD hS => ?_)
  have hP : va_P (xD E) vwCl (wFF E f k (Fo_set_weights (Fo_set_backs (Fo_set_bodies (Fo_set_wanted (Fo_set_depth (Fo_set_many z (Fo_many y)) (Fo_depth y)) (Fo_wanted y)) (va_cpy (Fo_bodies y) (Fo_bodies z) 0 0 3)) (va_cpy (Fo_backs y) (Fo_backs z) 0 0 48)) (va_cpy (Fo_weights y) (Fo_weights z) 0 0 9)) y) H := hP
  have hD : va_D A (wFF E f k (Fo_set_weights (Fo_set_backs (Fo_set_bodies (Fo_set_wanted (Fo_set_depth (Fo_set_many z (Fo_many y)) (Fo_depth y)) (Fo_wanted y)) (va_cpy (Fo_bodies y) (Fo_bodies z) 0 0 3)) (va_cpy (Fo_backs y) (Fo_backs z) 0 0 48)) (va_cpy (Fo_weights y) (Fo_weights z) 0 0 9)) y) := hD
  obtain rfl := Option.some.inj hf
  subst hA
  exact x_vretM hx hb hr hlk hP hS dX1_takeAll_78
set_option maxHeartbeats 4000000 in
set_option maxRecDepth 100000 in
theorem xP_takeIrq {p : Program} {l : Launch} {e : Env} {R : Room} {s : State} {m : MethodId} {args : Array Value} {below : List Frame} {meth : Method} {c : Code} {H : Heap} {locs : List Loc} {cells slots : Nat} {Q : State → Prop} {cc : ByteArray} {pc : Nat} {ls : Array Slot} {rest st0 : List Value} {E : xG} {A : Nat → Prop} {H0 : Heap} {bytes : ByteArray} {maxL nL index : Nat} {ret : Option FieldType} {wsY : List Cond} {rm : Room} {Ts : List Cond} {own : String} {pq : Nat → Nat} {rq : Nat → Nat → Nat} {f : Nat → Nat} {pa : Pa} {z : Fo} {v : Fo} (S : CallFix p m c cc nL s args Ts own) (hK : xK E s) {j : Nat} (hj : j < 8) (hM : xMut l yX1_takeAll wsY rm E [.ref (rq j 0), .ref (f 0)] (wFF E (rq j) f (Pa_ring pa j) z) none (wFF E (rq j) f v z)) (cw : CallW R s args own RX1 index yX1_takeAll bytes maxL ret wsY rm 0 0 1) (hP : va_P (xD E) vwCl (wP E pq rq f pa z) H) (hD : va_D A (wP E pq rq f pa z)) (hS : va_S A H0 H locs) (hsize : ls.size = nL) (hW : (rest.map fun v => v.category).sum ≤ 8) (hdg : decode cc pc = .ok (.invokevirtual index, 3)) (hst : st0 = .ref (f 0) :: .ref (rq j 0) :: rest) (hf : cells ≤ R.cells ∧ slots ≤ R.slots)
    (kk : ∀ (H1 : Heap) (locs1 : List Loc), va_P (xD E) vwCl (wP E pq rq f (Pa_set_ring pa (up2 (Pa_ring pa) j v)) z) H1 → va_D A (wP E pq rq f (Pa_set_ring pa (up2 (Pa_ring pa) j v)) z) → va_S A H0 H1 locs1 → W p l e R s m args below meth c H1 locs1 cells slots Q (F0 m (pc + 3) ls rest)) : W p l e R s m args below meth c H locs cells slots Q (F0 m pc ls st0) := by
  match j, hj with
  | 0, _ => exact x_mV (As := [.ref (f 0)]) (rest := rest) S hK hM cw hP hD hS [6, 7, 8, 9, 0, 1, 2, 3] rfl rfl rfl 0 rfl rfl rfl rfl hsize hW hdg hst hf rfl kk
  | 1, _ => exact x_mV (As := [.ref (f 0)]) (rest := rest) S hK hM cw hP hD hS [10, 11, 12, 13, 0, 1, 2, 3] rfl rfl rfl 0 rfl rfl rfl rfl hsize hW hdg hst hf rfl kk
  | 2, _ => exact x_mV (As := [.ref (f 0)]) (rest := rest) S hK hM cw hP hD hS [14, 15, 16, 17, 0, 1, 2, 3] rfl rfl rfl 0 rfl rfl rfl rfl hsize hW hdg hst hf rfl kk
  | 3, _ => exact x_mV (As := [.ref (f 0)]) (rest := rest) S hK hM cw hP hD hS [18, 19, 20, 21, 0, 1, 2, 3] rfl rfl rfl 0 rfl rfl rfl rfl hsize hW hdg hst hf rfl kk
  | 4, _ => exact x_mV (As := [.ref (f 0)]) (rest := rest) S hK hM cw hP hD hS [22, 23, 24, 25, 0, 1, 2, 3] rfl rfl rfl 0 rfl rfl rfl rfl hsize hW hdg hst hf rfl kk
  | 5, _ => exact x_mV (As := [.ref (f 0)]) (rest := rest) S hK hM cw hP hD hS [26, 27, 28, 29, 0, 1, 2, 3] rfl rfl rfl 0 rfl rfl rfl rfl hsize hW hdg hst hf rfl kk
  | 6, _ => exact x_mV (As := [.ref (f 0)]) (rest := rest) S hK hM cw hP hD hS [30, 31, 32, 33, 0, 1, 2, 3] rfl rfl rfl 0 rfl rfl rfl rfl hsize hW hdg hst hf rfl kk
  | 7, _ => exact x_mV (As := [.ref (f 0)]) (rest := rest) S hK hM cw hP hD hS [34, 35, 36, 37, 0, 1, 2, 3] rfl rfl rfl 0 rfl rfl rfl rfl hsize hW hdg hst hf rfl kk
set_option maxHeartbeats 4000000 in
set_option maxRecDepth 100000 in
theorem xP_takeOrq {p : Program} {l : Launch} {e : Env} {R : Room} {s : State} {m : MethodId} {args : Array Value} {below : List Frame} {meth : Method} {c : Code} {H : Heap} {locs : List Loc} {cells slots : Nat} {Q : State → Prop} {cc : ByteArray} {pc : Nat} {ls : Array Slot} {rest st0 : List Value} {E : xG} {A : Nat → Prop} {H0 : Heap} {bytes : ByteArray} {maxL nL index : Nat} {ret : Option FieldType} {wsY : List Cond} {rm : Room} {Ts : List Cond} {own : String} {pq : Nat → Nat} {rq : Nat → Nat → Nat} {f : Nat → Nat} {pa : Pa} {z : Fo} {v : Fo} (S : CallFix p m c cc nL s args Ts own) (hK : xK E s) {j : Nat} (hj : j < 8) (hM : xMut l yX1_takeAll wsY rm E [.ref (f 0), .ref (rq j 0)] (wFF E f (rq j) z (Pa_ring pa j)) none (wFF E f (rq j) v (Pa_ring pa j))) (cw : CallW R s args own RX1 index yX1_takeAll bytes maxL ret wsY rm 0 0 1) (hP : va_P (xD E) vwCl (wP E pq rq f pa z) H) (hD : va_D A (wP E pq rq f pa z)) (hS : va_S A H0 H locs) (hsize : ls.size = nL) (hW : (rest.map fun v => v.category).sum ≤ 8) (hdg : decode cc pc = .ok (.invokevirtual index, 3)) (hst : st0 = .ref (rq j 0) :: .ref (f 0) :: rest) (hf : cells ≤ R.cells ∧ slots ≤ R.slots)
    (kk : ∀ (H1 : Heap) (locs1 : List Loc), va_P (xD E) vwCl (wP E pq rq f pa v) H1 → va_D A (wP E pq rq f pa v) → va_S A H0 H1 locs1 → W p l e R s m args below meth c H1 locs1 cells slots Q (F0 m (pc + 3) ls rest)) : W p l e R s m args below meth c H locs cells slots Q (F0 m pc ls st0) := by
  match j, hj with
  | 0, _ => exact x_mV (As := [.ref (rq 0 0)]) (rest := rest) S hK hM cw hP hD hS [0, 1, 2, 3, 6, 7, 8, 9] rfl rfl rfl 0 rfl rfl rfl rfl hsize hW hdg hst hf rfl kk
  | 1, _ => exact x_mV (As := [.ref (rq 1 0)]) (rest := rest) S hK hM cw hP hD hS [0, 1, 2, 3, 10, 11, 12, 13] rfl rfl rfl 0 rfl rfl rfl rfl hsize hW hdg hst hf rfl kk
  | 2, _ => exact x_mV (As := [.ref (rq 2 0)]) (rest := rest) S hK hM cw hP hD hS [0, 1, 2, 3, 14, 15, 16, 17] rfl rfl rfl 0 rfl rfl rfl rfl hsize hW hdg hst hf rfl kk
  | 3, _ => exact x_mV (As := [.ref (rq 3 0)]) (rest := rest) S hK hM cw hP hD hS [0, 1, 2, 3, 18, 19, 20, 21] rfl rfl rfl 0 rfl rfl rfl rfl hsize hW hdg hst hf rfl kk
  | 4, _ => exact x_mV (As := [.ref (rq 4 0)]) (rest := rest) S hK hM cw hP hD hS [0, 1, 2, 3, 22, 23, 24, 25] rfl rfl rfl 0 rfl rfl rfl rfl hsize hW hdg hst hf rfl kk
  | 5, _ => exact x_mV (As := [.ref (rq 5 0)]) (rest := rest) S hK hM cw hP hD hS [0, 1, 2, 3, 26, 27, 28, 29] rfl rfl rfl 0 rfl rfl rfl rfl hsize hW hdg hst hf rfl kk
  | 6, _ => exact x_mV (As := [.ref (rq 6 0)]) (rest := rest) S hK hM cw hP hD hS [0, 1, 2, 3, 30, 31, 32, 33] rfl rfl rfl 0 rfl rfl rfl rfl hsize hW hdg hst hf rfl kk
  | 7, _ => exact x_mV (As := [.ref (rq 7 0)]) (rest := rest) S hK hM cw hP hD hS [0, 1, 2, 3, 34, 35, 36, 37] rfl rfl rfl 0 rfl rfl rfl rfl hsize hW hdg hst hf rfl kk
set_option maxHeartbeats 4000000 in
set_option maxRecDepth 100000 in
theorem xW_takeIbq {p : Program} {l : Launch} {e : Env} {R : Room} {s : State} {m : MethodId} {args : Array Value} {below : List Frame} {meth : Method} {c : Code} {H : Heap} {locs : List Loc} {cells slots : Nat} {Q : State → Prop} {cc : ByteArray} {pc : Nat} {ls : Array Slot} {rest st0 : List Value} {E : xG} {A : Nat → Prop} {H0 : Heap} {bytes : ByteArray} {maxL nL index : Nat} {ret : Option FieldType} {wsY : List Cond} {rm : Room} {Ts : List Cond} {own : String} {tq : Nat → Nat} {f : Nat → Nat} {q : Nat → Nat} {g : Nat → Nat} {h : Nat → Nat} {pq : Nat → Nat} {rq : Nat → Nat → Nat} {bq : Nat → Nat → Nat} {z : Fo} {ev : Ev} {li : Li} {te : Te} {pa : Pa} {im : Im} {v : Fo} (S : CallFix p m c cc nL s args Ts own) (hK : xK E s) {j : Nat} (hj : j < 2) (hM : xMut l yX1_takeAll wsY rm E [.ref (bq j 0), .ref (f 0)] (wFF E (bq j) f (Im_imgs im j) z) none (wFF E (bq j) f v z)) (cw : CallW R s args own RX1 index yX1_takeAll bytes maxL ret wsY rm 0 0 1) (hP : va_P (xD E) vwCl (wW E tq f q g h pq rq bq z ev li te pa im) H) (hD : va_D A (wW E tq f q g h pq rq bq z ev li te pa im)) (hS : va_S A H0 H locs) (hsize : ls.size = nL) (hW : (rest.map fun v => v.category).sum ≤ 8) (hdg : decode cc pc = .ok (.invokevirtual index, 3)) (hst : st0 = .ref (f 0) :: .ref (bq j 0) :: rest) (hf : cells ≤ R.cells ∧ slots ≤ R.slots)
    (kk : ∀ (H1 : Heap) (locs1 : List Loc), va_P (xD E) vwCl (wW E tq f q g h pq rq bq z ev li te pa (Im_set_imgs im (up2 (Im_imgs im) j v))) H1 → va_D A (wW E tq f q g h pq rq bq z ev li te pa (Im_set_imgs im (up2 (Im_imgs im) j v))) → va_S A H0 H1 locs1 → W p l e R s m args below meth c H1 locs1 cells slots Q (F0 m (pc + 3) ls rest)) : W p l e R s m args below meth c H locs cells slots Q (F0 m pc ls st0) := by
  match j, hj with
  | 0, _ => exact x_mV (As := [.ref (f 0)]) (rest := rest) S hK hM cw hP hD hS [57, 58, 59, 60, 19, 20, 21, 22] rfl rfl rfl 0 rfl rfl rfl rfl hsize hW hdg hst hf rfl kk
  | 1, _ => exact x_mV (As := [.ref (f 0)]) (rest := rest) S hK hM cw hP hD hS [61, 62, 63, 64, 19, 20, 21, 22] rfl rfl rfl 0 rfl rfl rfl rfl hsize hW hdg hst hf rfl kk
set_option maxHeartbeats 4000000 in
set_option maxRecDepth 100000 in
theorem xW_takeObq {p : Program} {l : Launch} {e : Env} {R : Room} {s : State} {m : MethodId} {args : Array Value} {below : List Frame} {meth : Method} {c : Code} {H : Heap} {locs : List Loc} {cells slots : Nat} {Q : State → Prop} {cc : ByteArray} {pc : Nat} {ls : Array Slot} {rest st0 : List Value} {E : xG} {A : Nat → Prop} {H0 : Heap} {bytes : ByteArray} {maxL nL index : Nat} {ret : Option FieldType} {wsY : List Cond} {rm : Room} {Ts : List Cond} {own : String} {tq : Nat → Nat} {f : Nat → Nat} {q : Nat → Nat} {g : Nat → Nat} {h : Nat → Nat} {pq : Nat → Nat} {rq : Nat → Nat → Nat} {bq : Nat → Nat → Nat} {z : Fo} {ev : Ev} {li : Li} {te : Te} {pa : Pa} {im : Im} {v : Fo} (S : CallFix p m c cc nL s args Ts own) (hK : xK E s) {j : Nat} (hj : j < 2) (hM : xMut l yX1_takeAll wsY rm E [.ref (f 0), .ref (bq j 0)] (wFF E f (bq j) z (Im_imgs im j)) none (wFF E f (bq j) v (Im_imgs im j))) (cw : CallW R s args own RX1 index yX1_takeAll bytes maxL ret wsY rm 0 0 1) (hP : va_P (xD E) vwCl (wW E tq f q g h pq rq bq z ev li te pa im) H) (hD : va_D A (wW E tq f q g h pq rq bq z ev li te pa im)) (hS : va_S A H0 H locs) (hsize : ls.size = nL) (hW : (rest.map fun v => v.category).sum ≤ 8) (hdg : decode cc pc = .ok (.invokevirtual index, 3)) (hst : st0 = .ref (bq j 0) :: .ref (f 0) :: rest) (hf : cells ≤ R.cells ∧ slots ≤ R.slots)
    (kk : ∀ (H1 : Heap) (locs1 : List Loc), va_P (xD E) vwCl (wW E tq f q g h pq rq bq v ev li te pa im) H1 → va_D A (wW E tq f q g h pq rq bq v ev li te pa im) → va_S A H0 H1 locs1 → W p l e R s m args below meth c H1 locs1 cells slots Q (F0 m (pc + 3) ls rest)) : W p l e R s m args below meth c H locs cells slots Q (F0 m pc ls st0) := by
  match j, hj with
  | 0, _ => exact x_mV (As := [.ref (bq 0 0)]) (rest := rest) S hK hM cw hP hD hS [19, 20, 21, 22, 57, 58, 59, 60] rfl rfl rfl 0 rfl rfl rfl rfl hsize hW hdg hst hf rfl kk
  | 1, _ => exact x_mV (As := [.ref (bq 1 0)]) (rest := rest) S hK hM cw hP hD hS [19, 20, 21, 22, 61, 62, 63, 64] rfl rfl rfl 0 rfl rfl rfl rfl hsize hW hdg hst hf rfl kk
abbrev rmX3_forget : Room := { frames := 0, cells := 0, slots := 0, locals := 0 }
theorem mX3_forget_0 : Cond.fieldLink RX3 26 "EvenWhite$Past" "many" "I" ∈ wsX3_forget := by decide +kernel
theorem inX3_forget_3 : ∀ w ∈ u_ws RX3 TX3 3, w ∈ wsX3_forget := by decide +kernel
def fX3_forget (pa : Pa) : Option Pa :=
  some (Pa_set_many pa (0 : Int32))
set_option maxHeartbeats 4000000 in
set_option maxRecDepth 100000 in
theorem kX3_forget (l : Launch) (E : xG) (pq : Nat → Nat) (pa : Pa) {r : Pa} (hf : fX3_forget pa = some r) : xMut l yX3_forget wsX3_forget rmX3_forget E [.ref (pq 0)] (wQ E pq pa) none (wQ E pq r) := by
  refine Met.ofW (cc := cX3_forget) (maxL := 1) (ret := none) (by decide) rfl ?_
  intro p e s m args below meth c s₁ B hml hv
  obtain ⟨rfl, hP, hK, hD0⟩ := hv
  have hx := B.exec
  have hb := B.bytes
  have hr := B.returns
  have hts := atoms_spec (ws := wsX3_forget) B.pre
  have hown : s.vm.findClass RX3 = some m.cls := findClass_of_methodNamed B.named
  have hlk := B.notSynchronized
  have S : CallFix p m c cX3_forget 1 s _ wsX3_forget RX3 := ⟨hx, hb, hml, hown, hts⟩
  have hl := lv_entry ([.ref (pq 0)]) (n := 1) (Nat.le_of_ble_eq_true rfl)
  rw [lg_entry_eq]
  generalize (lg_sl ([.ref (pq 0)]) ++ List.replicate (1 - (lg_sl ([.ref (pq 0)])).length) Slot.unset).toArray = ls at hl ⊢
  have hl : lv_has ls 1 [(0, .ref (pq 0))] := hl
  have hD := xA.self hD0
  have hS : va_S (xA (wQ E pq pa)) s.heap s.heap [] := va_S.rf
  show W p l e rmX3_forget s m _ below meth c s.heap [] 0 0 _ _
  generalize hA : xA (wQ E pq pa) = A at hD hS ⊢
  unfold fX3_forget at hf
  refine lv_aload_n hx hb dX3_forget_0 rfl (lv_at hl 0 rfl) ?_
  refine lv_iconst (v := 0) hx hb dX3_forget_1 (by decide) ?_
  refine x_putf hx hb hts inX3_forget_3 tyX3_ok nmX3 hown hK hP hD hS 0 rfl rfl 0 (by decide) mX3_forget_0 rfl (vp_nar_int _) rfl (Nat.le_of_ble_eq_true rfl) dX3_forget_2 (fun H locs hP hD hS => ?_)
  have hP : va_P (xD E) vwCl (wQ E pq (Pa_set_many pa (0 : Int32))) H := hP
  have hD : va_D A (wQ E pq (Pa_set_many pa (0 : Int32))) := hD
  obtain rfl := Option.some.inj hf
  subst hA
  exact x_vretM hx hb hr hlk hP hS dX3_forget_5
abbrev rmX3_remember : Room := { frames := 2, cells := 0, slots := 0, locals := 81 }
theorem mX3_remember_0 : Cond.fieldLink RX3 11 "EvenWhite$Past" "ring" "[LEvenWhite$Fount;" ∈ wsX3_remember := by decide +kernel
theorem mX3_remember_1 : Cond.fieldLink RX3 18 "EvenWhite$Past" "next" "I" ∈ wsX3_remember := by decide +kernel
theorem mX3_remember_2 : Cond.fieldLink RX3 26 "EvenWhite$Past" "many" "I" ∈ wsX3_remember := by decide +kernel
theorem mX3_remember_3 : Cond.methodLink RX3 29 Lib.Math.min.name ∈ wsX3_remember := by decide +kernel
theorem mX3_remember_4 : Cond.static Lib.Math.min.name ∈ wsX3_remember := by decide +kernel
theorem mX3_remember_5 : Cond.initialized "java/lang/Math" ∈ wsX3_remember := by decide +kernel
theorem mX3_remember_6 : Cond.code Lib.Math.min.name Lib.Math.min.code 2 (some .int) ∈ wsX3_remember := by decide +kernel
theorem inX3_remember_3 : ∀ w ∈ u_ws RX3 TX3 3, w ∈ wsX3_remember := by decide +kernel
def fX3_remember (pa : Pa) (z : Fo) : Option Pa :=
  (rdX 8 (Pa_next pa)).bind fun v2 =>
  (fX1_takeAll ((Pa_ring pa) v2) z).bind fun v3 =>
  some (Pa_set_many (Pa_set_next (Pa_set_ring pa (up2 (Pa_ring pa) v2 v3)) (((Pa_next pa) + (1 : Int32)) - ((Pa_next pa) + (1 : Int32)) / (8 : Int32) * (8 : Int32))) (if (8 : Int32) < ((Pa_many pa) + (1 : Int32)) then (8 : Int32) else ((Pa_many pa) + (1 : Int32))))
set_option maxHeartbeats 4000000 in
set_option maxRecDepth 100000 in
theorem kX3_remember (l : Launch) (E : xG) (pq : Nat → Nat) (rq : Nat → Nat → Nat) (f : Nat → Nat) (pa : Pa) (z : Fo) {r : Pa} (hf : fX3_remember pa z = some r) : xMut l yX3_remember wsX3_remember rmX3_remember E [.ref (pq 0), .ref (f 0)] (wP E pq rq f pa z) none (wP E pq rq f r z) := by
  refine Met.ofW (cc := cX3_remember) (maxL := 2) (ret := none) (by decide) rfl ?_
  intro p e s m args below meth c s₁ B hml hv
  obtain ⟨rfl, hP, hK, hD0⟩ := hv
  have hx := B.exec
  have hb := B.bytes
  have hr := B.returns
  have hts := atoms_spec (ws := wsX3_remember) B.pre
  have hown : s.vm.findClass RX3 = some m.cls := findClass_of_methodNamed B.named
  have hlk := B.notSynchronized
  have S : CallFix p m c cX3_remember 2 s _ wsX3_remember RX3 := ⟨hx, hb, hml, hown, hts⟩
  have hl := lv_entry ([.ref (pq 0), .ref (f 0)]) (n := 2) (Nat.le_of_ble_eq_true rfl)
  rw [lg_entry_eq]
  generalize (lg_sl ([.ref (pq 0), .ref (f 0)]) ++ List.replicate (2 - (lg_sl ([.ref (pq 0), .ref (f 0)])).length) Slot.unset).toArray = ls at hl ⊢
  have hl : lv_has ls 2 [(0, .ref (pq 0)), (1, .ref (f 0))] := hl
  have hD := xA.self hD0
  have hS : va_S (xA (wP E pq rq f pa z)) s.heap s.heap [] := va_S.rf
  show W p l e rmX3_remember s m _ below meth c s.heap [] 0 0 _ _
  generalize hA : xA (wP E pq rq f pa z) = A at hD hS ⊢
  unfold fX3_remember at hf
  refine lv_aload_n hx hb dX3_remember_0 rfl (lv_at hl 0 rfl) ?_
  refine x_get hx hb hts inX3_remember_3 hown hK hP 4 rfl rfl 2 (by decide) mX3_remember_0 rfl dX3_remember_1 ?_
  refine lv_aload_n hx hb dX3_remember_4 rfl (lv_at hl 0 rfl) ?_
  refine x_get hx hb hts inX3_remember_3 hown hK hP 4 rfl rfl 1 (by decide) mX3_remember_1 rfl dX3_remember_5 ?_
  obtain ⟨v2, h2, hf⟩ := ob hf
  refine x_aald hx hb hK hP 5 rfl (fun _ h9 => if_pos h9) h2 dX3_remember_8 (fun hj1 => ?_)
  refine lv_aload_n hx hb dX3_remember_9 rfl (lv_at hl 1 rfl) ?_
  obtain ⟨v3, h3, hf⟩ := ob hf
  refine xP_takeIrq (pa := pa) (z := z) (rest := []) S hK hj1 (kX1_takeAll l E (rq v2) f ((Pa_ring pa) v2) z h3) (cwV 1 hts gX3_remember_X1_takeAll rfl rfl rfl (by decide +kernel) ⟨Nat.le_of_ble_eq_true rfl, Nat.le_of_ble_eq_true rfl⟩) hP hD hS hl.1 (Nat.le_of_ble_eq_true rfl) dX3_remember_10 rfl ⟨Nat.zero_le _, Nat.zero_le _⟩ (fun H locs hP hD hS => ?_)
  have hP : va_P (xD E) vwCl (wP E pq rq f (Pa_set_ring pa (up2 (Pa_ring pa) v2 v3)) z) H := hP
  have hD : va_D A (wP E pq rq f (Pa_set_ring pa (up2 (Pa_ring pa) v2 v3)) z) := hD
  refine lv_aload_n hx hb dX3_remember_13 rfl (lv_at hl 0 rfl) ?_
  refine lv_aload_n hx hb dX3_remember_14 rfl (lv_at hl 0 rfl) ?_
  refine x_get hx hb hts inX3_remember_3 hown hK hP 4 rfl rfl 1 (by decide) mX3_remember_1 rfl dX3_remember_15 ?_
  refine lv_iconst (v := 1) hx hb dX3_remember_18 (by decide) ?_
  refine lv_iadd hx hb dX3_remember_19 ?_
  refine lv_bipush (v := 8) hx hb dX3_remember_20 (by decide) ?_
  refine lv_irem hx hb dX3_remember_22 (by decide) ?_
  refine x_putf hx hb hts inX3_remember_3 tyX3_ok nmX3 hown hK hP hD hS 4 rfl rfl 1 (by decide) mX3_remember_1 rfl (vp_nar_int _) rfl (Nat.le_of_ble_eq_true rfl) dX3_remember_23 (fun H locs hP hD hS => ?_)
  have hP : va_P (xD E) vwCl (wP E pq rq f (Pa_set_next (Pa_set_ring pa (up2 (Pa_ring pa) v2 v3)) (((Pa_next pa) + (1 : Int32)) - ((Pa_next pa) + (1 : Int32)) / (8 : Int32) * (8 : Int32))) z) H := hP
  have hD : va_D A (wP E pq rq f (Pa_set_next (Pa_set_ring pa (up2 (Pa_ring pa) v2 v3)) (((Pa_next pa) + (1 : Int32)) - ((Pa_next pa) + (1 : Int32)) / (8 : Int32) * (8 : Int32))) z) := hD
  refine lv_aload_n hx hb dX3_remember_26 rfl (lv_at hl 0 rfl) ?_
  refine lv_aload_n hx hb dX3_remember_27 rfl (lv_at hl 0 rfl) ?_
  refine x_get hx hb hts inX3_remember_3 hown hK hP 4 rfl rfl 0 (by decide) mX3_remember_2 rfl dX3_remember_28 ?_
  refine lv_iconst (v := 1) hx hb dX3_remember_31 (by decide) ?_
  refine lv_iadd hx hb dX3_remember_32 ?_
  refine lv_bipush (v := 8) hx hb dX3_remember_33 (by decide) ?_
  refine va_mmin hx hb (by rw [hml]; exact hl.1.symm) hown (hts _ mX3_remember_3) (hts _ mX3_remember_4) (hts _ mX3_remember_5) (hts _ mX3_remember_6) (Nat.le_of_ble_eq_true rfl) (Nat.le_of_ble_eq_true rfl) (Nat.zero_le _) (Nat.zero_le _) dX3_remember_35 ?_
  refine x_putf hx hb hts inX3_remember_3 tyX3_ok nmX3 hown hK hP hD hS 4 rfl rfl 0 (by decide) mX3_remember_2 rfl (vp_nar_int _) rfl (Nat.le_of_ble_eq_true rfl) dX3_remember_38 (fun H locs hP hD hS => ?_)
  have hP : va_P (xD E) vwCl (wP E pq rq f (Pa_set_many (Pa_set_next (Pa_set_ring pa (up2 (Pa_ring pa) v2 v3)) (((Pa_next pa) + (1 : Int32)) - ((Pa_next pa) + (1 : Int32)) / (8 : Int32) * (8 : Int32))) (if (8 : Int32) < ((Pa_many pa) + (1 : Int32)) then (8 : Int32) else ((Pa_many pa) + (1 : Int32)))) z) H := hP
  have hD : va_D A (wP E pq rq f (Pa_set_many (Pa_set_next (Pa_set_ring pa (up2 (Pa_ring pa) v2 v3)) (((Pa_next pa) + (1 : Int32)) - ((Pa_next pa) + (1 : Int32)) / (8 : Int32) * (8 : Int32))) (if (8 : Int32) < ((Pa_many pa) + (1 : Int32)) then (8 : Int32) else ((Pa_many pa) + (1 : Int32)))) z) := hD
  obtain rfl := Option.some.inj hf
  subst hA
  exact x_vretM hx hb hr hlk hP hS dX3_remember_41
abbrev rmX3_giveBack : Room := { frames := 2, cells := 0, slots := 0, locals := 81 }
theorem mX3_giveBack_0 : Cond.fieldLink RX3 18 "EvenWhite$Past" "next" "I" ∈ wsX3_giveBack := by decide +kernel
theorem mX3_giveBack_1 : Cond.fieldLink RX3 26 "EvenWhite$Past" "many" "I" ∈ wsX3_giveBack := by decide +kernel
theorem mX3_giveBack_2 : Cond.methodLink RX3 35 Lib.Math.max.name ∈ wsX3_giveBack := by decide +kernel
theorem mX3_giveBack_3 : Cond.static Lib.Math.max.name ∈ wsX3_giveBack := by decide +kernel
theorem mX3_giveBack_4 : Cond.initialized "java/lang/Math" ∈ wsX3_giveBack := by decide +kernel
theorem mX3_giveBack_5 : Cond.code Lib.Math.max.name Lib.Math.max.code 2 (some .int) ∈ wsX3_giveBack := by decide +kernel
theorem mX3_giveBack_6 : Cond.fieldLink RX3 11 "EvenWhite$Past" "ring" "[LEvenWhite$Fount;" ∈ wsX3_giveBack := by decide +kernel
theorem inX3_giveBack_3 : ∀ w ∈ u_ws RX3 TX3 3, w ∈ wsX3_giveBack := by decide +kernel
def fX3_giveBack (pa : Pa) (z : Fo) : Option (Fo × Pa) :=
  (rdX 8 ((((Pa_next pa) + (8 : Int32)) - (1 : Int32)) - (((Pa_next pa) + (8 : Int32)) - (1 : Int32)) / (8 : Int32) * (8 : Int32))).bind fun v2 =>
  (fX1_takeAll z ((Pa_ring pa) v2)).bind fun v3 =>
  some (v3, (Pa_set_many (Pa_set_next pa ((((Pa_next pa) + (8 : Int32)) - (1 : Int32)) - (((Pa_next pa) + (8 : Int32)) - (1 : Int32)) / (8 : Int32) * (8 : Int32))) (if ((Pa_many pa) - (1 : Int32)) < (0 : Int32) then (0 : Int32) else ((Pa_many pa) - (1 : Int32)))))
set_option maxHeartbeats 4000000 in
set_option maxRecDepth 100000 in
theorem kX3_giveBack (l : Launch) (E : xG) (pq : Nat → Nat) (rq : Nat → Nat → Nat) (f : Nat → Nat) (pa : Pa) (z : Fo) {r : (Fo × Pa)} (hf : fX3_giveBack pa z = some r) : xMut l yX3_giveBack wsX3_giveBack rmX3_giveBack E [.ref (pq 0), .ref (f 0)] (wP E pq rq f pa z) none (wP E pq rq f r.2 r.1) := by
  refine Met.ofW (cc := cX3_giveBack) (maxL := 2) (ret := none) (by decide) rfl ?_
  intro p e s m args below meth c s₁ B hml hv
  obtain ⟨rfl, hP, hK, hD0⟩ := hv
  have hx := B.exec
  have hb := B.bytes
  have hr := B.returns
  have hts := atoms_spec (ws := wsX3_giveBack) B.pre
  have hown : s.vm.findClass RX3 = some m.cls := findClass_of_methodNamed B.named
  have hlk := B.notSynchronized
  have S : CallFix p m c cX3_giveBack 2 s _ wsX3_giveBack RX3 := ⟨hx, hb, hml, hown, hts⟩
  have hl := lv_entry ([.ref (pq 0), .ref (f 0)]) (n := 2) (Nat.le_of_ble_eq_true rfl)
  rw [lg_entry_eq]
  generalize (lg_sl ([.ref (pq 0), .ref (f 0)]) ++ List.replicate (2 - (lg_sl ([.ref (pq 0), .ref (f 0)])).length) Slot.unset).toArray = ls at hl ⊢
  have hl : lv_has ls 2 [(0, .ref (pq 0)), (1, .ref (f 0))] := hl
  have hD := xA.self hD0
  have hS : va_S (xA (wP E pq rq f pa z)) s.heap s.heap [] := va_S.rf
  show W p l e rmX3_giveBack s m _ below meth c s.heap [] 0 0 _ _
  generalize hA : xA (wP E pq rq f pa z) = A at hD hS ⊢
  unfold fX3_giveBack at hf
  refine lv_aload_n hx hb dX3_giveBack_0 rfl (lv_at hl 0 rfl) ?_
  refine lv_aload_n hx hb dX3_giveBack_1 rfl (lv_at hl 0 rfl) ?_
  refine x_get hx hb hts inX3_giveBack_3 hown hK hP 4 rfl rfl 1 (by decide) mX3_giveBack_0 rfl dX3_giveBack_2 ?_
  refine lv_bipush (v := 8) hx hb dX3_giveBack_5 (by decide) ?_
  refine lv_iadd hx hb dX3_giveBack_7 ?_
  refine lv_iconst (v := 1) hx hb dX3_giveBack_8 (by decide) ?_
  refine lv_isub hx hb dX3_giveBack_9 ?_
  refine lv_bipush (v := 8) hx hb dX3_giveBack_10 (by decide) ?_
  refine lv_irem hx hb dX3_giveBack_12 (by decide) ?_
  refine x_putf hx hb hts inX3_giveBack_3 tyX3_ok nmX3 hown hK hP hD hS 4 rfl rfl 1 (by decide) mX3_giveBack_0 rfl (vp_nar_int _) rfl (Nat.le_of_ble_eq_true rfl) dX3_giveBack_13 (fun H locs hP hD hS => ?_)
  have hP : va_P (xD E) vwCl (wP E pq rq f (Pa_set_next pa ((((Pa_next pa) + (8 : Int32)) - (1 : Int32)) - (((Pa_next pa) + (8 : Int32)) - (1 : Int32)) / (8 : Int32) * (8 : Int32))) z) H := hP
  have hD : va_D A (wP E pq rq f (Pa_set_next pa ((((Pa_next pa) + (8 : Int32)) - (1 : Int32)) - (((Pa_next pa) + (8 : Int32)) - (1 : Int32)) / (8 : Int32) * (8 : Int32))) z) := hD
  refine lv_aload_n hx hb dX3_giveBack_16 rfl (lv_at hl 0 rfl) ?_
  refine lv_aload_n hx hb dX3_giveBack_17 rfl (lv_at hl 0 rfl) ?_
  refine x_get hx hb hts inX3_giveBack_3 hown hK hP 4 rfl rfl 0 (by decide) mX3_giveBack_1 rfl dX3_giveBack_18 ?_
  refine lv_iconst (v := 1) hx hb dX3_giveBack_21 (by decide) ?_
  refine lv_isub hx hb dX3_giveBack_22 ?_
  refine lv_iconst (v := 0) hx hb dX3_giveBack_23 (by decide) ?_
  refine va_mmax hx hb (by rw [hml]; exact hl.1.symm) hown (hts _ mX3_giveBack_2) (hts _ mX3_giveBack_3) (hts _ mX3_giveBack_4) (hts _ mX3_giveBack_5) (Nat.le_of_ble_eq_true rfl) (Nat.le_of_ble_eq_true rfl) (Nat.zero_le _) (Nat.zero_le _) dX3_giveBack_24 ?_
  refine x_putf hx hb hts inX3_giveBack_3 tyX3_ok nmX3 hown hK hP hD hS 4 rfl rfl 0 (by decide) mX3_giveBack_1 rfl (vp_nar_int _) rfl (Nat.le_of_ble_eq_true rfl) dX3_giveBack_27 (fun H locs hP hD hS => ?_)
  have hP : va_P (xD E) vwCl (wP E pq rq f (Pa_set_many (Pa_set_next pa ((((Pa_next pa) + (8 : Int32)) - (1 : Int32)) - (((Pa_next pa) + (8 : Int32)) - (1 : Int32)) / (8 : Int32) * (8 : Int32))) (if ((Pa_many pa) - (1 : Int32)) < (0 : Int32) then (0 : Int32) else ((Pa_many pa) - (1 : Int32)))) z) H := hP
  have hD : va_D A (wP E pq rq f (Pa_set_many (Pa_set_next pa ((((Pa_next pa) + (8 : Int32)) - (1 : Int32)) - (((Pa_next pa) + (8 : Int32)) - (1 : Int32)) / (8 : Int32) * (8 : Int32))) (if ((Pa_many pa) - (1 : Int32)) < (0 : Int32) then (0 : Int32) else ((Pa_many pa) - (1 : Int32)))) z) := hD
  refine lv_aload_n hx hb dX3_giveBack_30 rfl (lv_at hl 1 rfl) ?_
  refine lv_aload_n hx hb dX3_giveBack_31 rfl (lv_at hl 0 rfl) ?_
  refine x_get hx hb hts inX3_giveBack_3 hown hK hP 4 rfl rfl 2 (by decide) mX3_giveBack_6 rfl dX3_giveBack_32 ?_
  refine lv_aload_n hx hb dX3_giveBack_35 rfl (lv_at hl 0 rfl) ?_
  refine x_get hx hb hts inX3_giveBack_3 hown hK hP 4 rfl rfl 1 (by decide) mX3_giveBack_0 rfl dX3_giveBack_36 ?_
  obtain ⟨v2, h2, hf⟩ := ob hf
  refine x_aald hx hb hK hP 5 rfl (fun _ h9 => if_pos h9) h2 dX3_giveBack_39 (fun hj1 => ?_)
  obtain ⟨v3, h3, hf⟩ := ob hf
  refine xP_takeOrq (pa := (Pa_set_many (Pa_set_next pa ((((Pa_next pa) + (8 : Int32)) - (1 : Int32)) - (((Pa_next pa) + (8 : Int32)) - (1 : Int32)) / (8 : Int32) * (8 : Int32))) (if ((Pa_many pa) - (1 : Int32)) < (0 : Int32) then (0 : Int32) else ((Pa_many pa) - (1 : Int32))))) (z := z) (rest := []) S hK hj1 (kX1_takeAll l E f (rq v2) z ((Pa_ring pa) v2) h3) (cwV 1 hts gX3_giveBack_X1_takeAll rfl rfl rfl (by decide +kernel) ⟨Nat.le_of_ble_eq_true rfl, Nat.le_of_ble_eq_true rfl⟩) hP hD hS hl.1 (Nat.le_of_ble_eq_true rfl) dX3_giveBack_40 rfl ⟨Nat.zero_le _, Nat.zero_le _⟩ (fun H locs hP hD hS => ?_)
  have hP : va_P (xD E) vwCl (wP E pq rq f (Pa_set_many (Pa_set_next pa ((((Pa_next pa) + (8 : Int32)) - (1 : Int32)) - (((Pa_next pa) + (8 : Int32)) - (1 : Int32)) / (8 : Int32) * (8 : Int32))) (if ((Pa_many pa) - (1 : Int32)) < (0 : Int32) then (0 : Int32) else ((Pa_many pa) - (1 : Int32)))) v3) H := hP
  have hD : va_D A (wP E pq rq f (Pa_set_many (Pa_set_next pa ((((Pa_next pa) + (8 : Int32)) - (1 : Int32)) - (((Pa_next pa) + (8 : Int32)) - (1 : Int32)) / (8 : Int32) * (8 : Int32))) (if ((Pa_many pa) - (1 : Int32)) < (0 : Int32) then (0 : Int32) else ((Pa_many pa) - (1 : Int32)))) v3) := hD
  obtain rfl := Option.some.inj hf
  subst hA
  exact x_vretM hx hb hr hlk hP hS dX3_giveBack_43
