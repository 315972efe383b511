
abbrev rmX1_startAnew : Room := { frames := 0, cells := 0, slots := 0, locals := 0 }
theorem mX1_startAnew_0 : Cond.fieldLink RX1 32 "EvenWhite$Fount" "many" "I" ∈ wsX1_startAnew := by decide +kernel
theorem mX1_startAnew_1 : Cond.fieldLink RX1 18 "EvenWhite$Fount" "bodies" "[I" ∈ wsX1_startAnew := by decide +kernel
theorem mX1_startAnew_2 : Cond.fieldLink RX1 22 "EvenWhite$Fount" "backs" "[I" ∈ wsX1_startAnew := by decide +kernel
theorem mX1_startAnew_3 : Cond.fieldLink RX1 25 "EvenWhite$Fount" "weights" "[I" ∈ wsX1_startAnew := by decide +kernel
theorem inX1_startAnew_1 : ∀ w ∈ u_ws RX1 TX1 6, w ∈ wsX1_startAnew := by decide +kernel
def gX1_startAnew_7 (x1 : Int32) (rec : (Int32 × Fo) → Option (Int32 × Fo)) (u : Int32 × Fo) : Option (Int32 × Fo) :=
  (if (3 : Int32) ≤ u.1 then
  some (u.1, u.2)
  else (wrI (Fo_bodies u.2) 3 u.1 (10 : Int32)).bind fun v2 =>
  rec ((u.1 + (1 : Int32)), (Fo_set_bodies u.2 v2)))
set_option maxHeartbeats 4000000 in
set_option maxRecDepth 100000 in
theorem wX1_startAnew_7 {p : Program} {l : Launch} {e : Env} {s : State} {m : MethodId} {args : Array Value} {below : List Frame} {meth : Method} {c : Code} {Q : State → Prop} (S : CallFix p m c cX1_startAnew 3 s args wsX1_startAnew RX1) (E : xG) (hK : xK E s) (f : Nat → Nat) (x1 : Int32) (A : Nat → Prop) (H0 : Heap) : ∀ (n : Nat) (u : Int32 × Fo) (r : Int32 × Fo), lp (gX1_startAnew_7 x1) n u = some r → ∀ (H : Heap) (locs : List Loc), va_P (xD E) vwCl (wF E f u.2) H → va_D A (wF E f u.2) → va_S A H0 H locs → ∀ (ls : Array Slot), lv_has ls 3 [(0, .ref (f 0)), (1, .int x1), (2, .int u.1)] → (∀ (H : Heap) (locs : List Loc), va_P (xD E) vwCl (wF E f r.2) H → va_D A (wF E f r.2) → va_S A H0 H locs → ∀ (ls : Array Slot), lv_has ls 3 [(0, .ref (f 0)), (1, .int x1), (2, .int r.1)] → W p l e rmX1_startAnew s m args below meth c H locs 0 0 Q (F0 m 30 ls [])) → W p l e rmX1_startAnew s m args below meth c H locs 0 0 Q (F0 m 7 ls []) := by
  obtain ⟨hx, hb, hml, hown, hts⟩ := id S
  intro n
  induction n with
  | zero =>
    intro u r hf
    exact absurd (show (none : Option _) = some r from hf) (fun q => by cases q)
  | succ n ih =>
    intro u r hf H locs hP hD hS ls hl kx
    have hf : gX1_startAnew_7 x1 (lp (gX1_startAnew_7 x1) n) u = some r := hf
    unfold gX1_startAnew_7 at hf
    refine lv_iload_n hx hb dX1_startAnew_7 rfl (lv_at hl 2 rfl) ?_
    refine lv_aload_n hx hb dX1_startAnew_8 rfl (lv_at hl 0 rfl) ?_
    refine x_get hx hb hts inX1_startAnew_1 hown hK hP 0 rfl rfl 3 (by decide) mX1_startAnew_1 rfl dX1_startAnew_9 ?_
    refine va_alen (v := 3) hx hb hK.1 hP 1 0 rfl rfl rfl dX1_startAnew_12 ?_
    refine lv_icmp_ge (tgt := 30) hx hb dX1_startAnew_13 (by decide) (fun c1 => ?_) (fun c1 => ?_)
    · have hf := (if_pos c1).symm.trans hf
      obtain rfl := Option.some.inj hf
      exact kx _ _ hP hD hS ls (lv_sub hl [0, 1, 2] rfl)
    · have hf := (if_neg c1).symm.trans hf
      refine lv_aload_n hx hb dX1_startAnew_16 rfl (lv_at hl 0 rfl) ?_
      refine x_get hx hb hts inX1_startAnew_1 hown hK hP 0 rfl rfl 3 (by decide) mX1_startAnew_1 rfl dX1_startAnew_17 ?_
      refine lv_iload_n hx hb dX1_startAnew_20 rfl (lv_at hl 2 rfl) ?_
      refine lv_bipush (v := 10) hx hb dX1_startAnew_21 (by decide) ?_
      obtain ⟨v2, h2, hf⟩ := ob hf
      refine x_iast hx hb hK hP hD hS 1 rfl h2 dX1_startAnew_23 (fun H locs hP hD hS => ?_)
      have hP : va_P (xD E) vwCl (wF E f (Fo_set_bodies u.2 v2)) H := hP
      have hD : va_D A (wF E f (Fo_set_bodies u.2 v2)) := hD
      refine lv_iinc (v := (u.1 + (1 : Int32))) (lv' := [(2, .int (u.1 + (1 : Int32))), (0, .ref (f 0)), (1, .int x1)]) hx hb dX1_startAnew_24 hl (k := 2) rfl rfl (by decide) rfl (fun ls hl => ?_)
      refine lv_goto (tgt := 7) hx hb dX1_startAnew_27 (by decide) ?_
      exact ih ((u.1 + (1 : Int32)), (Fo_set_bodies u.2 v2)) _ hf _ _ hP hD hS ls (lv_sub hl [1, 2, 0] rfl) kx
def gX1_startAnew_32 (x1 : Int32) (rec : (Int32 × Fo) → Option (Int32 × Fo)) (u : Int32 × Fo) : Option (Int32 × Fo) :=
  (if (48 : Int32) ≤ u.1 then
  some (u.1, u.2)
  else (wrI (Fo_backs u.2) 48 u.1 (0 : Int32)).bind fun v2 =>
  rec ((u.1 + (1 : Int32)), (Fo_set_backs u.2 v2)))
set_option maxHeartbeats 4000000 in
set_option maxRecDepth 100000 in
theorem wX1_startAnew_32 {p : Program} {l : Launch} {e : Env} {s : State} {m : MethodId} {args : Array Value} {below : List Frame} {meth : Method} {c : Code} {Q : State → Prop} (S : CallFix p m c cX1_startAnew 3 s args wsX1_startAnew RX1) (E : xG) (hK : xK E s) (f : Nat → Nat) (x1 : Int32) (A : Nat → Prop) (H0 : Heap) : ∀ (n : Nat) (u : Int32 × Fo) (r : Int32 × Fo), lp (gX1_startAnew_32 x1) n u = some r → ∀ (H : Heap) (locs : List Loc), va_P (xD E) vwCl (wF E f u.2) H → va_D A (wF E f u.2) → va_S A H0 H locs → ∀ (ls : Array Slot), lv_has ls 3 [(0, .ref (f 0)), (1, .int x1), (2, .int u.1)] → (∀ (H : Heap) (locs : List Loc), va_P (xD E) vwCl (wF E f r.2) H → va_D A (wF E f r.2) → va_S A H0 H locs → ∀ (ls : Array Slot), lv_has ls 3 [(0, .ref (f 0)), (1, .int x1), (2, .int r.1)] → W p l e rmX1_startAnew s m args below meth c H locs 0 0 Q (F0 m 54 ls [])) → W p l e rmX1_startAnew s m args below meth c H locs 0 0 Q (F0 m 32 ls []) := by
  obtain ⟨hx, hb, hml, hown, hts⟩ := id S
  intro n
  induction n with
  | zero =>
    intro u r hf
    exact absurd (show (none : Option _) = some r from hf) (fun q => by cases q)
  | succ n ih =>
    intro u r hf H locs hP hD hS ls hl kx
    have hf : gX1_startAnew_32 x1 (lp (gX1_startAnew_32 x1) n) u = some r := hf
    unfold gX1_startAnew_32 at hf
    refine lv_iload_n hx hb dX1_startAnew_32 rfl (lv_at hl 2 rfl) ?_
    refine lv_aload_n hx hb dX1_startAnew_33 rfl (lv_at hl 0 rfl) ?_
    refine x_get hx hb hts inX1_startAnew_1 hown hK hP 0 rfl rfl 4 (by decide) mX1_startAnew_2 rfl dX1_startAnew_34 ?_
    refine va_alen (v := 48) hx hb hK.1 hP 2 0 rfl rfl rfl dX1_startAnew_37 ?_
    refine lv_icmp_ge (tgt := 54) hx hb dX1_startAnew_38 (by decide) (fun c1 => ?_) (fun c1 => ?_)
    · have hf := (if_pos c1).symm.trans hf
      obtain rfl := Option.some.inj hf
      exact kx _ _ hP hD hS ls (lv_sub hl [0, 1, 2] rfl)
    · have hf := (if_neg c1).symm.trans hf
      refine lv_aload_n hx hb dX1_startAnew_41 rfl (lv_at hl 0 rfl) ?_
      refine x_get hx hb hts inX1_startAnew_1 hown hK hP 0 rfl rfl 4 (by decide) mX1_startAnew_2 rfl dX1_startAnew_42 ?_
      refine lv_iload_n hx hb dX1_startAnew_45 rfl (lv_at hl 2 rfl) ?_
      refine lv_iconst (v := 0) hx hb dX1_startAnew_46 (by decide) ?_
      obtain ⟨v2, h2, hf⟩ := ob hf
      refine x_iast hx hb hK hP hD hS 2 rfl h2 dX1_startAnew_47 (fun H locs hP hD hS => ?_)
      have hP : va_P (xD E) vwCl (wF E f (Fo_set_backs u.2 v2)) H := hP
      have hD : va_D A (wF E f (Fo_set_backs u.2 v2)) := hD
      refine lv_iinc (v := (u.1 + (1 : Int32))) (lv' := [(2, .int (u.1 + (1 : Int32))), (0, .ref (f 0)), (1, .int x1)]) hx hb dX1_startAnew_48 hl (k := 2) rfl rfl (by decide) rfl (fun ls hl => ?_)
      refine lv_goto (tgt := 32) hx hb dX1_startAnew_51 (by decide) ?_
      exact ih ((u.1 + (1 : Int32)), (Fo_set_backs u.2 v2)) _ hf _ _ hP hD hS ls (lv_sub hl [1, 2, 0] rfl) kx
def gX1_startAnew_56 (x1 : Int32) (rec : (Int32 × Fo) → Option (Int32 × Fo)) (u : Int32 × Fo) : Option (Int32 × Fo) :=
  (if (9 : Int32) ≤ u.1 then
  some (u.1, u.2)
  else (wrI (Fo_weights u.2) 9 u.1 (0 : Int32)).bind fun v2 =>
  rec ((u.1 + (1 : Int32)), (Fo_set_weights u.2 v2)))
set_option maxHeartbeats 4000000 in
set_option maxRecDepth 100000 in
theorem wX1_startAnew_56 {p : Program} {l : Launch} {e : Env} {s : State} {m : MethodId} {args : Array Value} {below : List Frame} {meth : Method} {c : Code} {Q : State → Prop} (S : CallFix p m c cX1_startAnew 3 s args wsX1_startAnew RX1) (E : xG) (hK : xK E s) (f : Nat → Nat) (x1 : Int32) (A : Nat → Prop) (H0 : Heap) : ∀ (n : Nat) (u : Int32 × Fo) (r : Int32 × Fo), lp (gX1_startAnew_56 x1) n u = some r → ∀ (H : Heap) (locs : List Loc), va_P (xD E) vwCl (wF E f u.2) H → va_D A (wF E f u.2) → va_S A H0 H locs → ∀ (ls : Array Slot), lv_has ls 3 [(0, .ref (f 0)), (1, .int x1), (2, .int u.1)] → (∀ (H : Heap) (locs : List Loc), va_P (xD E) vwCl (wF E f r.2) H → va_D A (wF E f r.2) → va_S A H0 H locs → ∀ (ls : Array Slot), lv_has ls 3 [(0, .ref (f 0)), (1, .int x1), (2, .int r.1)] → W p l e rmX1_startAnew s m args below meth c H locs 0 0 Q (F0 m 78 ls [])) → W p l e rmX1_startAnew s m args below meth c H locs 0 0 Q (F0 m 56 ls []) := by
  obtain ⟨hx, hb, hml, hown, hts⟩ := id S
  intro n
  induction n with
  | zero =>
    intro u r hf
    exact absurd (show (none : Option _) = some r from hf) (fun q => by cases q)
  | succ n ih =>
    intro u r hf H locs hP hD hS ls hl kx
    have hf : gX1_startAnew_56 x1 (lp (gX1_startAnew_56 x1) n) u = some r := hf
    unfold gX1_startAnew_56 at hf
    refine lv_iload_n hx hb dX1_startAnew_56 rfl (lv_at hl 2 rfl) ?_
    refine lv_aload_n hx hb dX1_startAnew_57 rfl (lv_at hl 0 rfl) ?_
    refine x_get hx hb hts inX1_startAnew_1 hown hK hP 0 rfl rfl 5 (by decide) mX1_startAnew_3 rfl dX1_startAnew_58 ?_
    refine va_alen (v := 9) hx hb hK.1 hP 3 0 rfl rfl rfl dX1_startAnew_61 ?_
    refine lv_icmp_ge (tgt := 78) hx hb dX1_startAnew_62 (by decide) (fun c1 => ?_) (fun c1 => ?_)
    · have hf := (if_pos c1).symm.trans hf
      obtain rfl := Option.some.inj hf
      exact kx _ _ hP hD hS ls (lv_sub hl [0, 1, 2] rfl)
    · have hf := (if_neg c1).symm.trans hf
      refine lv_aload_n hx hb dX1_startAnew_65 rfl (lv_at hl 0 rfl) ?_
      refine x_get hx hb hts inX1_startAnew_1 hown hK hP 0 rfl rfl 5 (by decide) mX1_startAnew_3 rfl dX1_startAnew_66 ?_
      refine lv_iload_n hx hb dX1_startAnew_69 rfl (lv_at hl 2 rfl) ?_
      refine lv_iconst (v := 0) hx hb dX1_startAnew_70 (by decide) ?_
      obtain ⟨v2, h2, hf⟩ := ob hf
      refine x_iast hx hb hK hP hD hS 3 rfl h2 dX1_startAnew_71 (fun H locs hP hD hS => ?_)
      have hP : va_P (xD E) vwCl (wF E f (Fo_set_weights u.2 v2)) H := hP
      have hD : va_D A (wF E f (Fo_set_weights u.2 v2)) := hD
      refine lv_iinc (v := (u.1 + (1 : Int32))) (lv' := [(2, .int (u.1 + (1 : Int32))), (0, .ref (f 0)), (1, .int x1)]) hx hb dX1_startAnew_72 hl (k := 2) rfl rfl (by decide) rfl (fun ls hl => ?_)
      refine lv_goto (tgt := 56) hx hb dX1_startAnew_75 (by decide) ?_
      exact ih ((u.1 + (1 : Int32)), (Fo_set_weights u.2 v2)) _ hf _ _ hP hD hS ls (lv_sub hl [1, 2, 0] rfl) kx
def fX1_startAnew (z : Fo) (x1 : Int32) : Option Fo :=
  (lp (gX1_startAnew_7 x1) 1000 ((0 : Int32), (Fo_set_many z x1))).bind fun v1 =>
  (lp (gX1_startAnew_32 x1) 1000 ((0 : Int32), v1.2)).bind fun v2 =>
  (lp (gX1_startAnew_56 x1) 1000 ((0 : Int32), v2.2)).bind fun v3 =>
  some v3.2
set_option maxHeartbeats 4000000 in
set_option maxRecDepth 100000 in
theorem kX1_startAnew (l : Launch) (E : xG) (f : Nat → Nat) (z : Fo) (x1 : Int32) {r : Fo} (hf : fX1_startAnew z x1 = some r) : xMut l yX1_startAnew wsX1_startAnew rmX1_startAnew E [.ref (f 0), .int x1] (wF E f z) none (wF E f r) := by
  refine Met.ofW (cc := cX1_startAnew) (maxL := 3) (ret := none) (by decide) rfl ?_
  intro p e s m args below meth c s₁ B hml hv
  obtain ⟨rfl, hP, hK, hD0⟩ := hv
  have hx := B.exec
  have hb := B.bytes
  have hr := B.returns
  have hts := atoms_spec (ws := wsX1_startAnew) B.pre
  have hown : s.vm.findClass RX1 = some m.cls := findClass_of_methodNamed B.named
  have hlk := B.notSynchronized
  have S : CallFix p m c cX1_startAnew 3 s _ wsX1_startAnew RX1 := ⟨hx, hb, hml, hown, hts⟩
  have hl := lv_entry ([.ref (f 0), .int x1]) (n := 3) (Nat.le_of_ble_eq_true rfl)
  rw [lg_entry_eq]
  generalize (lg_sl ([.ref (f 0), .int x1]) ++ List.replicate (3 - (lg_sl ([.ref (f 0), .int x1])).length) Slot.unset).toArray = ls at hl ⊢
  have hl : lv_has ls 3 [(0, .ref (f 0)), (1, .int x1)] := hl
  have hD := xA.self hD0
  have hS : va_S (xA (wF E f z)) s.heap s.heap [] := va_S.rf
  show W p l e rmX1_startAnew s m _ below meth c s.heap [] 0 0 _ _
  generalize hA : xA (wF E f z) = A at hD hS ⊢
  unfold fX1_startAnew at hf
  refine lv_aload_n hx hb dX1_startAnew_0 rfl (lv_at hl 0 rfl) ?_
  refine lv_iload_n hx hb dX1_startAnew_1 rfl (lv_at hl 1 rfl) ?_
  refine x_putf hx hb hts inX1_startAnew_1 tyX1_ok nmX1 hown hK hP hD hS 0 rfl rfl 0 (by decide) mX1_startAnew_0 rfl (vp_nar_int _) rfl (Nat.le_of_ble_eq_true rfl) dX1_startAnew_2 (fun H locs hP hD hS => ?_)
  have hP : va_P (xD E) vwCl (wF E f (Fo_set_many z x1)) H := hP
  have hD : va_D A (wF E f (Fo_set_many z x1)) := hD
  refine lv_iconst (v := 0) hx hb dX1_startAnew_5 (by decide) ?_
  refine lv_istore_n (lv' := [(2, .int (0 : Int32)), (0, .ref (f 0)), (1, .int x1)]) hx hb dX1_startAnew_6 rfl hl (by decide) rfl (fun ls hl => ?_)
  obtain ⟨v1, h1, hf⟩ := ob hf
  refine wX1_startAnew_7 S E hK f x1 _ _ 1000 _ _ h1 _ _ hP hD hS ls (lv_sub hl [1, 2, 0] rfl) (fun H locs hP hD hS ls hl => ?_)
  refine lv_iconst (v := 0) hx hb dX1_startAnew_30 (by decide) ?_
  refine lv_istore_n (lv' := [(2, .int (0 : Int32)), (0, .ref (f 0)), (1, .int x1)]) hx hb dX1_startAnew_31 rfl hl (by decide) rfl (fun ls hl => ?_)
  obtain ⟨v2, h2, hf⟩ := ob hf
  refine wX1_startAnew_32 S E hK f x1 _ _ 1000 _ _ h2 _ _ hP hD hS ls (lv_sub hl [1, 2, 0] rfl) (fun H locs hP hD hS ls hl => ?_)
  refine lv_iconst (v := 0) hx hb dX1_startAnew_54 (by decide) ?_
  refine lv_istore_n (lv' := [(2, .int (0 : Int32)), (0, .ref (f 0)), (1, .int x1)]) hx hb dX1_startAnew_55 rfl hl (by decide) rfl (fun ls hl => ?_)
  obtain ⟨v3, h3, hf⟩ := ob hf
  refine wX1_startAnew_56 S E hK f x1 _ _ 1000 _ _ h3 _ _ hP hD hS ls (lv_sub hl [1, 2, 0] rfl) (fun H locs hP hD hS ls hl => ?_)
  obtain rfl := Option.some.inj hf
  subst hA
  exact x_vretM hx hb hr hlk hP hS dX1_startAnew_78
