
abbrev rmX6_layOpen : Room := { frames := 3, cells := 0, slots := 0, locals := 70 }
theorem mX6_layOpen_0 : Cond.fieldLink RX6 24 "EvenWhiteModel" "group" "[I" ∈ wsX6_layOpen := by decide +kernel
theorem mX6_layOpen_1 : Cond.fieldLink RX6 16 "EvenWhiteModel" "isOpen" "[Z" ∈ wsX6_layOpen := by decide +kernel
theorem inX6_layOpen_6 : ∀ w ∈ u_ws RX6 TX6 17, w ∈ wsX6_layOpen := by decide +kernel
def gX6_layOpen_27 (mo : Mo) (x1 : Int32) (rec : (Int32 × Int32) → Option (Int32 × Int32)) (u : Int32 × Int32) : Option (Int32 × Int32) :=
  (if (6 : Int32) ≤ u.2 then
  some (u.1, u.2)
  else ((if u.1 = (0 : Int32) then
  some (0 : Int32)
  else (rdI (Mo_grp mo) 6 u.2).bind fun v4 =>
  (rdI (Mo_grp mo) 6 x1).bind fun v5 =>
  (if v4 = v5 then
  some (0 : Int32)
  else some (1 : Int32)))).bind fun v2 =>
  rec (v2, (u.2 + (1 : Int32))))
set_option maxHeartbeats 4000000 in
set_option maxRecDepth 100000 in
theorem wX6_layOpen_27 {p : Program} {l : Launch} {e : Env} {s : State} {m : MethodId} {args : Array Value} {below : List Frame} {meth : Method} {c : Code} {Q : State → Prop} (S : CallFix p m c cX6_layOpen 4 s args wsX6_layOpen RX6) (E : xG) (hK : xK E s) (uq : Nat → Nat) (mo : Mo) (x1 : Int32) (A : Nat → Prop) (H0 : Heap) : ∀ (n : Nat) (u : Int32 × Int32) (r : Int32 × Int32), lp (gX6_layOpen_27 mo x1) n u = some r → ∀ (H : Heap) (locs : List Loc), va_P (xD E) vwCl (wM E uq mo) H → va_D A (wM E uq mo) → va_S A H0 H locs → ∀ (ls : Array Slot), lv_has ls 4 [(0, .ref (uq 0)), (1, .int x1), (2, .int u.1), (3, .int u.2)] → (∀ (H : Heap) (locs : List Loc), va_P (xD E) vwCl (wM E uq mo) H → va_D A (wM E uq mo) → va_S A H0 H locs → ∀ (ls : Array Slot), lv_has ls 4 [(0, .ref (uq 0)), (1, .int x1), (2, .int r.1), (3, .int r.2)] → W p l e rmX6_layOpen s m args below meth c H locs 0 0 Q (F0 m 64 ls [])) → W p l e rmX6_layOpen s m args below meth c H locs 0 0 Q (F0 m 27 ls []) := by
  obtain ⟨hx, hb, hml, hown, hts⟩ := id S
  intro n
  induction n with
  | zero =>
    intro u r hf
    exact absurd (show (none : Option _) = some r from hf) (fun q => by cases q)
  | succ n ih =>
    intro u r hf H locs hP hD hS ls hl kx
    have hf : gX6_layOpen_27 mo x1 (lp (gX6_layOpen_27 mo x1) n) u = some r := hf
    unfold gX6_layOpen_27 at hf
    refine lv_iload_n hx hb dX6_layOpen_27 rfl (lv_at hl 3 rfl) ?_
    refine lv_bipush (v := 6) hx hb dX6_layOpen_28 (by decide) ?_
    refine lv_icmp_ge (tgt := 64) hx hb dX6_layOpen_30 (by decide) (fun c1 => ?_) (fun c1 => ?_)
    · have hf := (if_pos c1).symm.trans hf
      obtain rfl := Option.some.inj hf
      exact kx _ _ hP hD hS ls (lv_sub hl [0, 1, 2, 3] rfl)
    · have hf := (if_neg c1).symm.trans hf
      refine lv_iload_n hx hb dX6_layOpen_33 rfl (lv_at hl 2 rfl) ?_
      obtain ⟨v2, h2, hf⟩ := ob hf
      refine x_cutH (fun H locs ls => va_P (xD E) vwCl (wM E uq mo) H ∧ va_D A (wM E uq mo) ∧ va_S A H0 H locs ∧ lv_has ls 4 [(0, .ref (uq 0)), (1, .int x1), (2, .int u.1), (3, .int u.2)]) (pc := 57) (st := [.int v2]) (fun H locs ls hq => ?_) (fun hj => ?_)
      · obtain ⟨hP, hD, hS, hl⟩ := hq
        refine lv_istore_n (lv' := [(2, .int v2), (0, .ref (uq 0)), (1, .int x1), (3, .int u.2)]) hx hb dX6_layOpen_57 rfl hl (by decide) rfl (fun ls hl => ?_)
        refine lv_iinc (v := (u.2 + (1 : Int32))) (lv' := [(3, .int (u.2 + (1 : Int32))), (2, .int v2), (0, .ref (uq 0)), (1, .int x1)]) hx hb dX6_layOpen_58 hl (k := 3) rfl rfl (by decide) rfl (fun ls hl => ?_)
        refine lv_goto (tgt := 27) hx hb dX6_layOpen_61 (by decide) ?_
        exact ih (v2, (u.2 + (1 : Int32))) _ hf _ _ hP hD hS ls (lv_sub hl [2, 3, 1, 0] rfl) kx
      · have hf := h2
        refine lv_if_eq (tgt := 56) hx hb dX6_layOpen_34 (by decide) (fun c3 => ?_) (fun c3 => ?_)
        · have hf := (if_pos c3).symm.trans hf
          refine lv_iconst (v := 0) hx hb dX6_layOpen_56 (by decide) ?_
          obtain rfl := Option.some.inj hf
          exact hj _ _ ls ⟨hP, hD, hS, lv_sub hl [0, 1, 2, 3] rfl⟩
        · have hf := (if_neg c3).symm.trans hf
          refine lv_aload_n hx hb dX6_layOpen_37 rfl (lv_at hl 0 rfl) ?_
          refine x_get hx hb hts inX6_layOpen_6 hown hK hP 0 rfl rfl 6 (by decide) mX6_layOpen_0 rfl dX6_layOpen_38 ?_
          refine lv_iload_n hx hb dX6_layOpen_41 rfl (lv_at hl 3 rfl) ?_
          obtain ⟨v4, h4, hf⟩ := ob hf
          refine x_iald hx hb hK hP 5 rfl h4 dX6_layOpen_42 ?_
          refine lv_aload_n hx hb dX6_layOpen_43 rfl (lv_at hl 0 rfl) ?_
          refine x_get hx hb hts inX6_layOpen_6 hown hK hP 0 rfl rfl 6 (by decide) mX6_layOpen_0 rfl dX6_layOpen_44 ?_
          refine lv_iload_n hx hb dX6_layOpen_47 rfl (lv_at hl 1 rfl) ?_
          obtain ⟨v5, h5, hf⟩ := ob hf
          refine x_iald hx hb hK hP 5 rfl h5 dX6_layOpen_48 ?_
          refine lv_icmp_eq (tgt := 56) hx hb dX6_layOpen_49 (by decide) (fun c6 => ?_) (fun c6 => ?_)
          · have hf := (if_pos c6).symm.trans hf
            refine lv_iconst (v := 0) hx hb dX6_layOpen_56 (by decide) ?_
            obtain rfl := Option.some.inj hf
            exact hj _ _ ls ⟨hP, hD, hS, lv_sub hl [0, 1, 2, 3] rfl⟩
          · have hf := (if_neg c6).symm.trans hf
            refine lv_iconst (v := 1) hx hb dX6_layOpen_52 (by decide) ?_
            refine lv_goto (tgt := 57) hx hb dX6_layOpen_53 (by decide) ?_
            obtain rfl := Option.some.inj hf
            exact hj _ _ ls ⟨hP, hD, hS, lv_sub hl [0, 1, 2, 3] rfl⟩
def gX6_layOpen_6 (rec : (Int32 × Mo) → Option (Int32 × Mo)) (u : Int32 × Mo) : Option (Int32 × Mo) :=
  (if (6 : Int32) ≤ u.1 then
  some (u.1, u.2)
  else (lp (gX6_layOpen_27 u.2 u.1) 1000 ((if u.1 ≤ (2 : Int32) then (0 : Int32) else (1 : Int32)), (u.1 + (1 : Int32)))).bind fun v3 =>
  (fX6_isJoined u.2 u.1).bind fun v4 =>
  (wrZ (Mo_isOpn u.2) 6 u.1 (if v4 = (0 : Int32) then (1 : Int32) else (if v3.1 = (0 : Int32) then (0 : Int32) else (1 : Int32)))).bind fun v7 =>
  rec ((u.1 + (1 : Int32)), (Mo_set_isOpn u.2 v7)))
set_option maxHeartbeats 4000000 in
set_option maxRecDepth 100000 in
theorem wX6_layOpen_6 {p : Program} {l : Launch} {e : Env} {s : State} {m : MethodId} {args : Array Value} {below : List Frame} {meth : Method} {c : Code} {Q : State → Prop} (S : CallFix p m c cX6_layOpen 4 s args wsX6_layOpen RX6) (E : xG) (hK : xK E s) (uq : Nat → Nat) (A : Nat → Prop) (H0 : Heap) : ∀ (n : Nat) (u : Int32 × Mo) (r : Int32 × Mo), lp (gX6_layOpen_6) n u = some r → ∀ (H : Heap) (locs : List Loc), va_P (xD E) vwCl (wM E uq u.2) H → va_D A (wM E uq u.2) → va_S A H0 H locs → ∀ (ls : Array Slot), lv_has ls 4 [(0, .ref (uq 0)), (1, .int u.1)] → (∀ (H : Heap) (locs : List Loc), va_P (xD E) vwCl (wM E uq r.2) H → va_D A (wM E uq r.2) → va_S A H0 H locs → ∀ (ls : Array Slot), lv_has ls 4 [(0, .ref (uq 0)), (1, .int r.1)] → W p l e rmX6_layOpen s m args below meth c H locs 0 0 Q (F0 m 93 ls [])) → W p l e rmX6_layOpen s m args below meth c H locs 0 0 Q (F0 m 6 ls []) := by
  obtain ⟨hx, hb, hml, hown, hts⟩ := id S
  intro n
  induction n with
  | zero =>
    intro u r hf
    exact absurd (show (none : Option _) = some r from hf) (fun q => by cases q)
  | succ n ih =>
    intro u r hf H locs hP hD hS ls hl kx
    have hf : gX6_layOpen_6 (lp (gX6_layOpen_6) n) u = some r := hf
    unfold gX6_layOpen_6 at hf
    refine lv_iload_n hx hb dX6_layOpen_6 rfl (lv_at hl 1 rfl) ?_
    refine lv_bipush (v := 6) hx hb dX6_layOpen_7 (by decide) ?_
    refine lv_icmp_ge (tgt := 93) hx hb dX6_layOpen_9 (by decide) (fun c1 => ?_) (fun c1 => ?_)
    · have hf := (if_pos c1).symm.trans hf
      obtain rfl := Option.some.inj hf
      exact kx _ _ hP hD hS ls (lv_sub hl [0, 1] rfl)
    · have hf := (if_neg c1).symm.trans hf
      refine lv_iload_n hx hb dX6_layOpen_12 rfl (lv_at hl 1 rfl) ?_
      refine lv_iconst (v := 2) hx hb dX6_layOpen_13 (by decide) ?_
      refine x_cut (pc := 22) (ls := ls) (st := [.int (if u.1 ≤ (2 : Int32) then (0 : Int32) else (1 : Int32))]) ?_ (fun hj => ?_)
      · refine lv_istore_n (lv' := [(2, .int (if u.1 ≤ (2 : Int32) then (0 : Int32) else (1 : Int32))), (0, .ref (uq 0)), (1, .int u.1)]) hx hb dX6_layOpen_22 rfl hl (by decide) rfl (fun ls hl => ?_)
        refine lv_iload_n hx hb dX6_layOpen_23 rfl (lv_at hl 2 rfl) ?_
        refine lv_iconst (v := 1) hx hb dX6_layOpen_24 (by decide) ?_
        refine lv_iadd hx hb dX6_layOpen_25 ?_
        refine lv_istore_n (lv' := [(3, .int (u.1 + (1 : Int32))), (2, .int (if u.1 ≤ (2 : Int32) then (0 : Int32) else (1 : Int32))), (0, .ref (uq 0)), (1, .int u.1)]) hx hb dX6_layOpen_26 rfl hl (by decide) rfl (fun ls hl => ?_)
        obtain ⟨v3, h3, hf⟩ := ob hf
        refine wX6_layOpen_27 S E hK uq u.2 u.1 _ _ 1000 _ _ h3 _ _ hP hD hS ls (lv_sub hl [2, 3, 1, 0] rfl) (fun H locs hP hD hS ls hl => ?_)
        refine lv_aload_n hx hb dX6_layOpen_64 rfl (lv_at hl 0 rfl) ?_
        refine x_get hx hb hts inX6_layOpen_6 hown hK hP 0 rfl rfl 3 (by decide) mX6_layOpen_1 rfl dX6_layOpen_65 ?_
        refine lv_iload_n hx hb dX6_layOpen_68 rfl (lv_at hl 1 rfl) ?_
        refine lv_aload_n hx hb dX6_layOpen_69 rfl (lv_at hl 0 rfl) ?_
        refine lv_iload_n hx hb dX6_layOpen_70 rfl (lv_at hl 1 rfl) ?_
        obtain ⟨v4, h4, hf⟩ := ob hf
        refine x_pV (As := [.int u.1]) (rest := [.int u.1, .ref (uq 3)]) S hK (kX6_isJoined l E uq u.2 u.1 h4) (cwV 1 hts gX6_layOpen_X6_isJoined rfl rfl rfl (by decide +kernel) ⟨Nat.le_of_ble_eq_true rfl, Nat.le_of_ble_eq_true rfl⟩) hP 0 rfl rfl rfl rfl hl.1 (Nat.le_of_ble_eq_true rfl) dX6_layOpen_71 rfl ⟨Nat.zero_le _, Nat.zero_le _⟩ ?_
        refine x_cut (pc := 86) (ls := ls) (st := [.int (if v4 = (0 : Int32) then (1 : Int32) else (if v3.1 = (0 : Int32) then (0 : Int32) else (1 : Int32))), .int u.1, .ref (uq 3)]) ?_ (fun hj => ?_)
        · obtain ⟨v7, h7, hf⟩ := ob hf
          refine x_zast hx hb hK hP hD hS 3 rfl h7 dX6_layOpen_86 (fun H locs hP hD hS => ?_)
          have hP : va_P (xD E) vwCl (wM E uq (Mo_set_isOpn u.2 v7)) H := hP
          have hD : va_D A (wM E uq (Mo_set_isOpn u.2 v7)) := hD
          refine lv_iinc (v := (u.1 + (1 : Int32))) (lv' := [(1, .int (u.1 + (1 : Int32))), (0, .ref (uq 0)), (2, .int v3.1), (3, .int v3.2)]) hx hb dX6_layOpen_87 hl (k := 1) rfl rfl (by decide) rfl (fun ls hl => ?_)
          refine lv_goto (tgt := 6) hx hb dX6_layOpen_90 (by decide) ?_
          exact ih ((u.1 + (1 : Int32)), (Mo_set_isOpn u.2 v7)) _ hf _ _ hP hD hS ls (lv_sub hl [1, 0] rfl) kx
        · refine lv_if_eq (tgt := 81) hx hb dX6_layOpen_74 (by decide) (fun c5 => ?_) (fun c5 => ?_)
          · refine lv_iconst (v := 1) hx hb dX6_layOpen_81 (by decide) ?_
            refine lv_goto (tgt := 86) hx hb dX6_layOpen_82 (by decide) ?_
            exact (by rw [if_pos c5] at hj; exact hj)
          · refine lv_iload_n hx hb dX6_layOpen_77 rfl (lv_at hl 2 rfl) ?_
            refine lv_if_eq (tgt := 85) hx hb dX6_layOpen_78 (by decide) (fun c6 => ?_) (fun c6 => ?_)
            · refine lv_iconst (v := 0) hx hb dX6_layOpen_85 (by decide) ?_
              exact (by rw [if_neg c5, if_pos c6] at hj; exact hj)
            · refine lv_iconst (v := 1) hx hb dX6_layOpen_81 (by decide) ?_
              refine lv_goto (tgt := 86) hx hb dX6_layOpen_82 (by decide) ?_
              exact (by rw [if_neg c5, if_neg c6] at hj; exact hj)
      · refine lv_icmp_le (tgt := 21) hx hb dX6_layOpen_14 (by decide) (fun c2 => ?_) (fun c2 => ?_)
        · refine lv_iconst (v := 0) hx hb dX6_layOpen_21 (by decide) ?_
          exact (by rw [if_pos c2] at hj; exact hj)
        · refine lv_iconst (v := 1) hx hb dX6_layOpen_17 (by decide) ?_
          refine lv_goto (tgt := 22) hx hb dX6_layOpen_18 (by decide) ?_
          exact (by rw [if_neg c2] at hj; exact hj)
def fX6_layOpen (mo : Mo) : Option Mo :=
  (fX6_layGroups mo).bind fun v1 =>
  (lp (gX6_layOpen_6) 1000 ((0 : Int32), v1)).bind fun v2 =>
  some v2.2
set_option maxHeartbeats 4000000 in
set_option maxRecDepth 100000 in
theorem kX6_layOpen (l : Launch) (E : xG) (uq : Nat → Nat) (mo : Mo) {r : Mo} (hf : fX6_layOpen mo = some r) : xMut l yX6_layOpen wsX6_layOpen rmX6_layOpen E [.ref (uq 0)] (wM E uq mo) none (wM E uq r) := by
  refine Met.ofW (cc := cX6_layOpen) (maxL := 4) (ret := none) (by decide) rfl ?_
  intro p e s m args below meth c s₁ B hml hv
  obtain ⟨rfl, hP, hK, hD0⟩ := hv
  have hx := B.exec
  have hb := B.bytes
  have hr := B.returns
  have hts := atoms_spec (ws := wsX6_layOpen) B.pre
  have hown : s.vm.findClass RX6 = some m.cls := findClass_of_methodNamed B.named
  have hlk := B.notSynchronized
  have S : CallFix p m c cX6_layOpen 4 s _ wsX6_layOpen RX6 := ⟨hx, hb, hml, hown, hts⟩
  have hl := lv_entry ([.ref (uq 0)]) (n := 4) (Nat.le_of_ble_eq_true rfl)
  rw [lg_entry_eq]
  generalize (lg_sl ([.ref (uq 0)]) ++ List.replicate (4 - (lg_sl ([.ref (uq 0)])).length) Slot.unset).toArray = ls at hl ⊢
  have hl : lv_has ls 4 [(0, .ref (uq 0))] := hl
  have hD := xA.self hD0
  have hS : va_S (xA (wM E uq mo)) s.heap s.heap [] := va_S.rf
  show W p l e rmX6_layOpen s m _ below meth c s.heap [] 0 0 _ _
  generalize hA : xA (wM E uq mo) = A at hD hS ⊢
  unfold fX6_layOpen at hf
  refine lv_aload_n hx hb dX6_layOpen_0 rfl (lv_at hl 0 rfl) ?_
  obtain ⟨v1, h1, hf⟩ := ob hf
  refine x_mR (ws' := wM E uq v1) (As := []) (rest := []) S hK (kX6_layGroups l E uq mo h1) (cwV 0 hts gX6_layOpen_X6_layGroups rfl rfl rfl (by decide +kernel) ⟨Nat.le_of_ble_eq_true rfl, Nat.le_of_ble_eq_true rfl⟩) hP hD hS 0 14 rfl rfl 0 rfl rfl rfl rfl hl.1 (Nat.le_of_ble_eq_true rfl) dX6_layOpen_1 rfl ⟨Nat.zero_le _, Nat.zero_le _⟩ rfl (fun H locs hP hD hS => ?_)
  refine lv_iconst (v := 0) hx hb dX6_layOpen_4 (by decide) ?_
  refine lv_istore_n (lv' := [(1, .int (0 : Int32)), (0, .ref (uq 0))]) hx hb dX6_layOpen_5 rfl hl (by decide) rfl (fun ls hl => ?_)
  obtain ⟨v2, h2, hf⟩ := ob hf
  refine wX6_layOpen_6 S E hK uq _ _ 1000 _ _ h2 _ _ hP hD hS ls (lv_sub hl [1, 0] rfl) (fun H locs hP hD hS ls hl => ?_)
  obtain rfl := Option.some.inj hf
  subst hA
  exact x_vretM hx hb hr hlk hP hS dX6_layOpen_93
abbrev rmX6_layEquations : Room := { frames := 3, cells := 0, slots := 0, locals := 74 }
theorem mX6_layEquations_0 : Cond.fieldLink RX6 16 "EvenWhiteModel" "isOpen" "[Z" ∈ wsX6_layEquations := by decide +kernel
theorem mX6_layEquations_1 : Cond.fieldLink RX6 30 "EvenWhiteModel" "unknown" "[I" ∈ wsX6_layEquations := by decide +kernel
theorem mX6_layEquations_2 : Cond.fieldLink RX6 27 "EvenWhiteModel" "cells" "[J" ∈ wsX6_layEquations := by decide +kernel
theorem inX6_layEquations_6 : ∀ w ∈ u_ws RX6 TX6 17, w ∈ wsX6_layEquations := by decide +kernel
def gX6_layEquations_4 (rec : (Int32 × Int32 × Mo) → Option (Int32 × Int32 × Mo)) (u : Int32 × Int32 × Mo) : Option (Int32 × Int32 × Mo) :=
  (if (6 : Int32) ≤ u.2.1 then
  some (u.1, u.2.1, u.2.2)
  else (rdI (Mo_isOpn u.2.2) 6 u.2.1).bind fun v2 =>
  ((if v2 = (0 : Int32) then
  (wrI (Mo_unk u.2.2) 6 u.1 u.2.1).bind fun v5 =>
  some ((u.1 + (1 : Int32)), (Mo_set_unk u.2.2 v5))
  else some (u.1, u.2.2))).bind fun v3 =>
  rec (v3.1, (u.2.1 + (1 : Int32)), v3.2))
set_option maxHeartbeats 4000000 in
set_option maxRecDepth 100000 in
theorem wX6_layEquations_4 {p : Program} {l : Launch} {e : Env} {s : State} {m : MethodId} {args : Array Value} {below : List Frame} {meth : Method} {c : Code} {Q : State → Prop} (S : CallFix p m c cX6_layEquations 6 s args wsX6_layEquations RX6) (E : xG) (hK : xK E s) (uq : Nat → Nat) (A : Nat → Prop) (H0 : Heap) : ∀ (n : Nat) (u : Int32 × Int32 × Mo) (r : Int32 × Int32 × Mo), lp (gX6_layEquations_4) n u = some r → ∀ (H : Heap) (locs : List Loc), va_P (xD E) vwCl (wM E uq u.2.2) H → va_D A (wM E uq u.2.2) → va_S A H0 H locs → ∀ (ls : Array Slot), lv_has ls 6 [(0, .ref (uq 0)), (1, .int u.1), (2, .int u.2.1)] → (∀ (H : Heap) (locs : List Loc), va_P (xD E) vwCl (wM E uq r.2.2) H → va_D A (wM E uq r.2.2) → va_S A H0 H locs → ∀ (ls : Array Slot), lv_has ls 6 [(0, .ref (uq 0)), (1, .int r.1), (2, .int r.2.1)] → W p l e rmX6_layEquations s m args below meth c H locs 0 0 Q (F0 m 35 ls [])) → W p l e rmX6_layEquations s m args below meth c H locs 0 0 Q (F0 m 4 ls []) := by
  obtain ⟨hx, hb, hml, hown, hts⟩ := id S
  intro n
  induction n with
  | zero =>
    intro u r hf
    exact absurd (show (none : Option _) = some r from hf) (fun q => by cases q)
  | succ n ih =>
    intro u r hf H locs hP hD hS ls hl kx
    have hf : gX6_layEquations_4 (lp (gX6_layEquations_4) n) u = some r := hf
    unfold gX6_layEquations_4 at hf
    refine lv_iload_n hx hb dX6_layEquations_4 rfl (lv_at hl 2 rfl) ?_
    refine lv_bipush (v := 6) hx hb dX6_layEquations_5 (by decide) ?_
    refine lv_icmp_ge (tgt := 35) hx hb dX6_layEquations_7 (by decide) (fun c1 => ?_) (fun c1 => ?_)
    · have hf := (if_pos c1).symm.trans hf
      obtain rfl := Option.some.inj hf
      exact kx _ _ hP hD hS ls (lv_sub hl [0, 1, 2] rfl)
    · have hf := (if_neg c1).symm.trans hf
      refine lv_aload_n hx hb dX6_layEquations_10 rfl (lv_at hl 0 rfl) ?_
      refine x_get hx hb hts inX6_layEquations_6 hown hK hP 0 rfl rfl 3 (by decide) mX6_layEquations_0 rfl dX6_layEquations_11 ?_
      refine lv_iload_n hx hb dX6_layEquations_14 rfl (lv_at hl 2 rfl) ?_
      obtain ⟨v2, h2, hf⟩ := ob hf
      refine x_zald hx hb hK hP 3 rfl h2 dX6_layEquations_15 ?_
      obtain ⟨v3, h3, hf⟩ := ob hf
      refine x_cutH (fun H locs ls => va_P (xD E) vwCl (wM E uq v3.2) H ∧ va_D A (wM E uq v3.2) ∧ va_S A H0 H locs ∧ lv_has ls 6 [(0, .ref (uq 0)), (1, .int v3.1), (2, .int u.2.1)]) (pc := 29) (st := []) (fun H locs ls hq => ?_) (fun hj => ?_)
      · obtain ⟨hP, hD, hS, hl⟩ := hq
        refine lv_iinc (v := (u.2.1 + (1 : Int32))) (lv' := [(2, .int (u.2.1 + (1 : Int32))), (0, .ref (uq 0)), (1, .int v3.1)]) hx hb dX6_layEquations_29 hl (k := 2) rfl rfl (by decide) rfl (fun ls hl => ?_)
        refine lv_goto (tgt := 4) hx hb dX6_layEquations_32 (by decide) ?_
        exact ih (v3.1, (u.2.1 + (1 : Int32)), v3.2) _ hf _ _ hP hD hS ls (lv_sub hl [1, 2, 0] rfl) kx
      · have hf := h3
        refine lv_if_ne (tgt := 29) hx hb dX6_layEquations_16 (by decide) (fun c4 => ?_) (fun c4 => ?_)
        · have hf := (if_neg c4).symm.trans hf
          obtain rfl := Option.some.inj hf
          exact hj _ _ ls ⟨hP, hD, hS, lv_sub hl [0, 1, 2] rfl⟩
        · have hf := (if_pos c4).symm.trans hf
          refine lv_aload_n hx hb dX6_layEquations_19 rfl (lv_at hl 0 rfl) ?_
          refine x_get hx hb hts inX6_layEquations_6 hown hK hP 0 rfl rfl 8 (by decide) mX6_layEquations_1 rfl dX6_layEquations_20 ?_
          refine lv_iload_n hx hb dX6_layEquations_23 rfl (lv_at hl 1 rfl) ?_
          refine lv_iload_n hx hb dX6_layEquations_24 rfl (lv_at hl 2 rfl) ?_
          obtain ⟨v5, h5, hf⟩ := ob hf
          refine x_iast hx hb hK hP hD hS 7 rfl h5 dX6_layEquations_25 (fun H locs hP hD hS => ?_)
          have hP : va_P (xD E) vwCl (wM E uq (Mo_set_unk u.2.2 v5)) H := hP
          have hD : va_D A (wM E uq (Mo_set_unk u.2.2 v5)) := hD
          refine lv_iinc (v := (u.1 + (1 : Int32))) (lv' := [(1, .int (u.1 + (1 : Int32))), (0, .ref (uq 0)), (2, .int u.2.1)]) hx hb dX6_layEquations_26 hl (k := 1) rfl rfl (by decide) rfl (fun ls hl => ?_)
          obtain rfl := Option.some.inj hf
          exact hj _ _ ls ⟨hP, hD, hS, lv_sub hl [1, 0, 2] rfl⟩
def gX6_layEquations_44 (x1 : Int32) (x2 : Int32) (rec : (Int32 × Mo) → Option (Int32 × Mo)) (u : Int32 × Mo) : Option (Int32 × Mo) :=
  (if x1 ≤ u.1 then
  some (u.1, u.2)
  else (rdI (Mo_unk u.2) 6 x2).bind fun v2 =>
  (rdI (Mo_unk u.2) 6 u.1).bind fun v3 =>
  ((if v2 = v3 then
  (fX6_sumOfWeights u.2 v2).bind fun v15 =>
  some (Int32.toInt64 v15)
  else (if (3 : Int32) ≤ v2 then
  (if v2 ≤ (2 : Int32) then
  some (0 : Int64)
  else (if (3 : Int32) ≤ v3 then
  some (0 : Int64)
  else (fX6_joins u.2 v3 v2).bind fun v9 =>
  some (Int32.toInt64 v9)))
  else (if v3 ≤ (2 : Int32) then
  (if v2 ≤ (2 : Int32) then
  some (0 : Int64)
  else (if (3 : Int32) ≤ v3 then
  some (0 : Int64)
  else (fX6_joins u.2 v3 v2).bind fun v13 =>
  some (Int32.toInt64 v13)))
  else (fX6_joins u.2 v2 v3).bind fun v14 =>
  some (Int32.toInt64 v14))))).bind fun v4 =>
  (wrJ (Mo_cells u.2) 42 (((7 : Int32) * x2) + u.1) v4).bind fun v16 =>
  rec ((u.1 + (1 : Int32)), (Mo_set_cells u.2 v16)))
set_option maxHeartbeats 4000000 in
set_option maxRecDepth 100000 in
theorem wX6_layEquations_44 {p : Program} {l : Launch} {e : Env} {s : State} {m : MethodId} {args : Array Value} {below : List Frame} {meth : Method} {c : Code} {Q : State → Prop} (S : CallFix p m c cX6_layEquations 6 s args wsX6_layEquations RX6) (E : xG) (hK : xK E s) (uq : Nat → Nat) (x1 : Int32) (x2 : Int32) (A : Nat → Prop) (H0 : Heap) : ∀ (n : Nat) (u : Int32 × Mo) (r : Int32 × Mo), lp (gX6_layEquations_44 x1 x2) n u = some r → ∀ (H : Heap) (locs : List Loc), va_P (xD E) vwCl (wM E uq u.2) H → va_D A (wM E uq u.2) → va_S A H0 H locs → ∀ (ls : Array Slot), lv_has ls 6 [(0, .ref (uq 0)), (1, .int x1), (2, .int x2), (3, .int u.1)] → (∀ (H : Heap) (locs : List Loc), va_P (xD E) vwCl (wM E uq r.2) H → va_D A (wM E uq r.2) → va_S A H0 H locs → ∀ (ls : Array Slot), lv_has ls 6 [(0, .ref (uq 0)), (1, .int x1), (2, .int x2), (3, .int r.1)] → W p l e rmX6_layEquations s m args below meth c H locs 0 0 Q (F0 m 148 ls [])) → W p l e rmX6_layEquations s m args below meth c H locs 0 0 Q (F0 m 44 ls []) := by
  obtain ⟨hx, hb, hml, hown, hts⟩ := id S
  intro n
  induction n with
  | zero =>
    intro u r hf
    exact absurd (show (none : Option _) = some r from hf) (fun q => by cases q)
  | succ n ih =>
    intro u r hf H locs hP hD hS ls hl kx
    have hf : gX6_layEquations_44 x1 x2 (lp (gX6_layEquations_44 x1 x2) n) u = some r := hf
    unfold gX6_layEquations_44 at hf
    refine lv_iload_n hx hb dX6_layEquations_44 rfl (lv_at hl 3 rfl) ?_
    refine lv_iload_n hx hb dX6_layEquations_45 rfl (lv_at hl 1 rfl) ?_
    refine lv_icmp_ge (tgt := 148) hx hb dX6_layEquations_46 (by decide) (fun c1 => ?_) (fun c1 => ?_)
    · have hf := (if_pos c1).symm.trans hf
      obtain rfl := Option.some.inj hf
      exact kx _ _ hP hD hS ls (lv_sub hl [0, 1, 2, 3] rfl)
    · have hf := (if_neg c1).symm.trans hf
      refine lv_aload_n hx hb dX6_layEquations_49 rfl (lv_at hl 0 rfl) ?_
      refine x_get hx hb hts inX6_layEquations_6 hown hK hP 0 rfl rfl 8 (by decide) mX6_layEquations_1 rfl dX6_layEquations_50 ?_
      refine lv_iload_n hx hb dX6_layEquations_53 rfl (lv_at hl 2 rfl) ?_
      obtain ⟨v2, h2, hf⟩ := ob hf
      refine x_iald hx hb hK hP 7 rfl h2 dX6_layEquations_54 ?_
      refine lv_istore (lv' := [(4, .int v2), (0, .ref (uq 0)), (1, .int x1), (2, .int x2), (3, .int u.1)]) hx hb dX6_layEquations_55 hl (by decide) rfl (fun ls hl => ?_)
      refine lv_aload_n hx hb dX6_layEquations_57 rfl (lv_at hl 1 rfl) ?_
      refine x_get hx hb hts inX6_layEquations_6 hown hK hP 0 rfl rfl 8 (by decide) mX6_layEquations_1 rfl dX6_layEquations_58 ?_
      refine lv_iload_n hx hb dX6_layEquations_61 rfl (lv_at hl 4 rfl) ?_
      obtain ⟨v3, h3, hf⟩ := ob hf
      refine x_iald hx hb hK hP 7 rfl h3 dX6_layEquations_62 ?_
      refine lv_istore (lv' := [(5, .int v3), (4, .int v2), (0, .ref (uq 0)), (1, .int x1), (2, .int x2), (3, .int u.1)]) hx hb dX6_layEquations_63 hl (by decide) rfl (fun ls hl => ?_)
      refine lv_aload_n hx hb dX6_layEquations_65 rfl (lv_at hl 2 rfl) ?_
      refine x_get hx hb hts inX6_layEquations_6 hown hK hP 0 rfl rfl 7 (by decide) mX6_layEquations_2 rfl dX6_layEquations_66 ?_
      refine lv_bipush (v := 7) hx hb dX6_layEquations_69 (by decide) ?_
      refine lv_iload_n hx hb dX6_layEquations_71 rfl (lv_at hl 4 rfl) ?_
      refine lv_imul hx hb dX6_layEquations_72 ?_
      refine lv_iload_n hx hb dX6_layEquations_73 rfl (lv_at hl 5 rfl) ?_
      refine lv_iadd hx hb dX6_layEquations_74 ?_
      refine lv_iload hx hb dX6_layEquations_75 (lv_at hl 1 rfl) ?_
      refine lv_iload hx hb dX6_layEquations_77 (lv_at hl 0 rfl) ?_
      obtain ⟨v4, h4, hf⟩ := ob hf
      refine x_cutH (fun H locs ls => va_P (xD E) vwCl (wM E uq u.2) H ∧ va_D A (wM E uq u.2) ∧ va_S A H0 H locs ∧ lv_has ls 6 [(0, .ref (uq 0)), (1, .int x1), (2, .int x2), (3, .int u.1), (4, .int v2), (5, .int v3)]) (pc := 141) (st := [.long v4, .int (((7 : Int32) * x2) + u.1), .ref (uq 6)]) (fun H locs ls hq => ?_) (fun hj => ?_)
      · obtain ⟨hP, hD, hS, hl⟩ := hq
        obtain ⟨v16, h16, hf⟩ := ob hf
        refine x_last hx hb hK hP hD hS 6 rfl h16 dX6_layEquations_141 (fun H locs hP hD hS => ?_)
        have hP : va_P (xD E) vwCl (wM E uq (Mo_set_cells u.2 v16)) H := hP
        have hD : va_D A (wM E uq (Mo_set_cells u.2 v16)) := hD
        refine lv_iinc (v := (u.1 + (1 : Int32))) (lv' := [(3, .int (u.1 + (1 : Int32))), (0, .ref (uq 0)), (1, .int x1), (2, .int x2), (4, .int v2), (5, .int v3)]) hx hb dX6_layEquations_142 hl (k := 3) rfl rfl (by decide) rfl (fun ls hl => ?_)
        refine lv_goto (tgt := 44) hx hb dX6_layEquations_145 (by decide) ?_
        exact ih ((u.1 + (1 : Int32)), (Mo_set_cells u.2 v16)) _ hf _ _ hP hD hS ls (lv_sub hl [1, 2, 3, 0] rfl) kx
      · have hf := h4
        refine lv_icmp_ne (tgt := 92) hx hb dX6_layEquations_79 (by decide) (fun c5 => ?_) (fun c5 => ?_)
        · have hf := (if_neg c5).symm.trans hf
          refine lv_iload hx hb dX6_layEquations_92 (lv_at hl 1 rfl) ?_
          refine lv_iconst (v := 3) hx hb dX6_layEquations_94 (by decide) ?_
          refine lv_icmp_ge (tgt := 116) hx hb dX6_layEquations_95 (by decide) (fun c6 => ?_) (fun c6 => ?_)
          · have hf := (if_pos c6).symm.trans hf
            refine lv_iload hx hb dX6_layEquations_116 (lv_at hl 1 rfl) ?_
            refine lv_iconst (v := 2) hx hb dX6_layEquations_118 (by decide) ?_
            refine lv_icmp_le (tgt := 140) hx hb dX6_layEquations_119 (by decide) (fun c7 => ?_) (fun c7 => ?_)
            · have hf := (if_pos c7).symm.trans hf
              refine lv_lconst (v := 0) hx hb dX6_layEquations_140 (by decide) ?_
              obtain rfl := Option.some.inj hf
              exact hj _ _ ls ⟨hP, hD, hS, lv_sub hl [2, 3, 4, 5, 1, 0] rfl⟩
            · have hf := (if_neg c7).symm.trans hf
              refine lv_iload hx hb dX6_layEquations_122 (lv_at hl 0 rfl) ?_
              refine lv_iconst (v := 3) hx hb dX6_layEquations_124 (by decide) ?_
              refine lv_icmp_ge (tgt := 140) hx hb dX6_layEquations_125 (by decide) (fun c8 => ?_) (fun c8 => ?_)
              · have hf := (if_pos c8).symm.trans hf
                refine lv_lconst (v := 0) hx hb dX6_layEquations_140 (by decide) ?_
                obtain rfl := Option.some.inj hf
                exact hj _ _ ls ⟨hP, hD, hS, lv_sub hl [2, 3, 4, 5, 1, 0] rfl⟩
              · have hf := (if_neg c8).symm.trans hf
                refine lv_aload_n hx hb dX6_layEquations_128 rfl (lv_at hl 2 rfl) ?_
                refine lv_iload hx hb dX6_layEquations_129 (lv_at hl 0 rfl) ?_
                refine lv_iload hx hb dX6_layEquations_131 (lv_at hl 1 rfl) ?_
                obtain ⟨v9, h9, hf⟩ := ob hf
                refine x_pV (As := [.int v3, .int v2]) (rest := [.int (((7 : Int32) * x2) + u.1), .ref (uq 6)]) S hK (kX6_joins l E uq u.2 v3 v2 h9) (cwV 2 hts gX6_layEquations_X6_joins rfl rfl rfl (by decide +kernel) ⟨Nat.le_of_ble_eq_true rfl, Nat.le_of_ble_eq_true rfl⟩) hP 0 rfl rfl rfl rfl hl.1 (Nat.le_of_ble_eq_true rfl) dX6_layEquations_133 rfl ⟨Nat.zero_le _, Nat.zero_le _⟩ ?_
                refine lv_i2l (v := (Int32.toInt64 v9)) hx hb dX6_layEquations_136 rfl ?_
                refine lv_goto (tgt := 141) hx hb dX6_layEquations_137 (by decide) ?_
                obtain rfl := Option.some.inj hf
                exact hj _ _ ls ⟨hP, hD, hS, lv_sub hl [2, 3, 4, 5, 1, 0] rfl⟩
          · have hf := (if_neg c6).symm.trans hf
            refine lv_iload hx hb dX6_layEquations_98 (lv_at hl 0 rfl) ?_
            refine lv_iconst (v := 2) hx hb dX6_layEquations_100 (by decide) ?_
            refine lv_icmp_le (tgt := 116) hx hb dX6_layEquations_101 (by decide) (fun c10 => ?_) (fun c10 => ?_)
            · have hf := (if_pos c10).symm.trans hf
              refine lv_iload hx hb dX6_layEquations_116 (lv_at hl 1 rfl) ?_
              refine lv_iconst (v := 2) hx hb dX6_layEquations_118 (by decide) ?_
              refine lv_icmp_le (tgt := 140) hx hb dX6_layEquations_119 (by decide) (fun c11 => ?_) (fun c11 => ?_)
              · have hf := (if_pos c11).symm.trans hf
                refine lv_lconst (v := 0) hx hb dX6_layEquations_140 (by decide) ?_
                obtain rfl := Option.some.inj hf
                exact hj _ _ ls ⟨hP, hD, hS, lv_sub hl [2, 3, 4, 5, 1, 0] rfl⟩
              · have hf := (if_neg c11).symm.trans hf
                refine lv_iload hx hb dX6_layEquations_122 (lv_at hl 0 rfl) ?_
                refine lv_iconst (v := 3) hx hb dX6_layEquations_124 (by decide) ?_
                refine lv_icmp_ge (tgt := 140) hx hb dX6_layEquations_125 (by decide) (fun c12 => ?_) (fun c12 => ?_)
                · have hf := (if_pos c12).symm.trans hf
                  refine lv_lconst (v := 0) hx hb dX6_layEquations_140 (by decide) ?_
                  obtain rfl := Option.some.inj hf
                  exact hj _ _ ls ⟨hP, hD, hS, lv_sub hl [2, 3, 4, 5, 1, 0] rfl⟩
                · have hf := (if_neg c12).symm.trans hf
                  refine lv_aload_n hx hb dX6_layEquations_128 rfl (lv_at hl 2 rfl) ?_
                  refine lv_iload hx hb dX6_layEquations_129 (lv_at hl 0 rfl) ?_
                  refine lv_iload hx hb dX6_layEquations_131 (lv_at hl 1 rfl) ?_
                  obtain ⟨v13, h13, hf⟩ := ob hf
                  refine x_pV (As := [.int v3, .int v2]) (rest := [.int (((7 : Int32) * x2) + u.1), .ref (uq 6)]) S hK (kX6_joins l E uq u.2 v3 v2 h13) (cwV 2 hts gX6_layEquations_X6_joins rfl rfl rfl (by decide +kernel) ⟨Nat.le_of_ble_eq_true rfl, Nat.le_of_ble_eq_true rfl⟩) hP 0 rfl rfl rfl rfl hl.1 (Nat.le_of_ble_eq_true rfl) dX6_layEquations_133 rfl ⟨Nat.zero_le _, Nat.zero_le _⟩ ?_
                  refine lv_i2l (v := (Int32.toInt64 v13)) hx hb dX6_layEquations_136 rfl ?_
                  refine lv_goto (tgt := 141) hx hb dX6_layEquations_137 (by decide) ?_
                  obtain rfl := Option.some.inj hf
                  exact hj _ _ ls ⟨hP, hD, hS, lv_sub hl [2, 3, 4, 5, 1, 0] rfl⟩
            · have hf := (if_neg c10).symm.trans hf
              refine lv_aload_n hx hb dX6_layEquations_104 rfl (lv_at hl 2 rfl) ?_
              refine lv_iload hx hb dX6_layEquations_105 (lv_at hl 1 rfl) ?_
              refine lv_iload hx hb dX6_layEquations_107 (lv_at hl 0 rfl) ?_
              obtain ⟨v14, h14, hf⟩ := ob hf
              refine x_pV (As := [.int v2, .int v3]) (rest := [.int (((7 : Int32) * x2) + u.1), .ref (uq 6)]) S hK (kX6_joins l E uq u.2 v2 v3 h14) (cwV 2 hts gX6_layEquations_X6_joins rfl rfl rfl (by decide +kernel) ⟨Nat.le_of_ble_eq_true rfl, Nat.le_of_ble_eq_true rfl⟩) hP 0 rfl rfl rfl rfl hl.1 (Nat.le_of_ble_eq_true rfl) dX6_layEquations_109 rfl ⟨Nat.zero_le _, Nat.zero_le _⟩ ?_
              refine lv_i2l (v := (Int32.toInt64 v14)) hx hb dX6_layEquations_112 rfl ?_
              refine lv_goto (tgt := 141) hx hb dX6_layEquations_113 (by decide) ?_
              obtain rfl := Option.some.inj hf
              exact hj _ _ ls ⟨hP, hD, hS, lv_sub hl [2, 3, 4, 5, 1, 0] rfl⟩
        · have hf := (if_pos c5).symm.trans hf
          refine lv_aload_n hx hb dX6_layEquations_82 rfl (lv_at hl 2 rfl) ?_
          refine lv_iload hx hb dX6_layEquations_83 (lv_at hl 1 rfl) ?_
          obtain ⟨v15, h15, hf⟩ := ob hf
          refine x_pV (As := [.int v2]) (rest := [.int (((7 : Int32) * x2) + u.1), .ref (uq 6)]) S hK (kX6_sumOfWeights l E uq u.2 v2 h15) (cwV 1 hts gX6_layEquations_X6_sumOfWeights rfl rfl rfl (by decide +kernel) ⟨Nat.le_of_ble_eq_true rfl, Nat.le_of_ble_eq_true rfl⟩) hP 0 rfl rfl rfl rfl hl.1 (Nat.le_of_ble_eq_true rfl) dX6_layEquations_85 rfl ⟨Nat.zero_le _, Nat.zero_le _⟩ ?_
          refine lv_i2l (v := (Int32.toInt64 v15)) hx hb dX6_layEquations_88 rfl ?_
          refine lv_goto (tgt := 141) hx hb dX6_layEquations_89 (by decide) ?_
          obtain rfl := Option.some.inj hf
          exact hj _ _ ls ⟨hP, hD, hS, lv_sub hl [2, 3, 4, 5, 1, 0] rfl⟩
def gX6_layEquations_37 (x1 : Int32) (rec : (Int32 × Mo) → Option (Int32 × Mo)) (u : Int32 × Mo) : Option (Int32 × Mo) :=
  (if x1 ≤ u.1 then
  some (u.1, u.2)
  else (lp (gX6_layEquations_44 x1 u.1) 1000 ((0 : Int32), u.2)).bind fun v2 =>
  (rdI (Mo_unk v2.2) 6 u.1).bind fun v3 =>
  (fX6_wantedOf v2.2 v3).bind fun v4 =>
  (wrJ (Mo_cells v2.2) 42 (((7 : Int32) * u.1) + (6 : Int32)) v4).bind fun v5 =>
  rec ((u.1 + (1 : Int32)), (Mo_set_cells v2.2 v5)))
set_option maxHeartbeats 4000000 in
set_option maxRecDepth 100000 in
theorem wX6_layEquations_37 {p : Program} {l : Launch} {e : Env} {s : State} {m : MethodId} {args : Array Value} {below : List Frame} {meth : Method} {c : Code} {Q : State → Prop} (S : CallFix p m c cX6_layEquations 6 s args wsX6_layEquations RX6) (E : xG) (hK : xK E s) (uq : Nat → Nat) (x1 : Int32) (A : Nat → Prop) (H0 : Heap) : ∀ (n : Nat) (u : Int32 × Mo) (r : Int32 × Mo), lp (gX6_layEquations_37 x1) n u = some r → ∀ (H : Heap) (locs : List Loc), va_P (xD E) vwCl (wM E uq u.2) H → va_D A (wM E uq u.2) → va_S A H0 H locs → ∀ (ls : Array Slot), lv_has ls 6 [(0, .ref (uq 0)), (1, .int x1), (2, .int u.1)] → (∀ (H : Heap) (locs : List Loc), va_P (xD E) vwCl (wM E uq r.2) H → va_D A (wM E uq r.2) → va_S A H0 H locs → ∀ (ls : Array Slot), lv_has ls 6 [(0, .ref (uq 0)), (1, .int x1), (2, .int r.1)] → W p l e rmX6_layEquations s m args below meth c H locs 0 0 Q (F0 m 176 ls [])) → W p l e rmX6_layEquations s m args below meth c H locs 0 0 Q (F0 m 37 ls []) := by
  obtain ⟨hx, hb, hml, hown, hts⟩ := id S
  intro n
  induction n with
  | zero =>
    intro u r hf
    exact absurd (show (none : Option _) = some r from hf) (fun q => by cases q)
  | succ n ih =>
    intro u r hf H locs hP hD hS ls hl kx
    have hf : gX6_layEquations_37 x1 (lp (gX6_layEquations_37 x1) n) u = some r := hf
    unfold gX6_layEquations_37 at hf
    refine lv_iload_n hx hb dX6_layEquations_37 rfl (lv_at hl 2 rfl) ?_
    refine lv_iload_n hx hb dX6_layEquations_38 rfl (lv_at hl 1 rfl) ?_
    refine lv_icmp_ge (tgt := 176) hx hb dX6_layEquations_39 (by decide) (fun c1 => ?_) (fun c1 => ?_)
    · have hf := (if_pos c1).symm.trans hf
      obtain rfl := Option.some.inj hf
      exact kx _ _ hP hD hS ls (lv_sub hl [0, 1, 2] rfl)
    · have hf := (if_neg c1).symm.trans hf
      refine lv_iconst (v := 0) hx hb dX6_layEquations_42 (by decide) ?_
      refine lv_istore_n (lv' := [(3, .int (0 : Int32)), (0, .ref (uq 0)), (1, .int x1), (2, .int u.1)]) hx hb dX6_layEquations_43 rfl hl (by decide) rfl (fun ls hl => ?_)
      obtain ⟨v2, h2, hf⟩ := ob hf
      refine wX6_layEquations_44 S E hK uq x1 u.1 _ _ 1000 _ _ h2 _ _ hP hD hS ls (lv_sub hl [1, 2, 3, 0] rfl) (fun H locs hP hD hS ls hl => ?_)
      refine lv_aload_n hx hb dX6_layEquations_148 rfl (lv_at hl 0 rfl) ?_
      refine x_get hx hb hts inX6_layEquations_6 hown hK hP 0 rfl rfl 7 (by decide) mX6_layEquations_2 rfl dX6_layEquations_149 ?_
      refine lv_bipush (v := 7) hx hb dX6_layEquations_152 (by decide) ?_
      refine lv_iload_n hx hb dX6_layEquations_154 rfl (lv_at hl 2 rfl) ?_
      refine lv_imul hx hb dX6_layEquations_155 ?_
      refine lv_bipush (v := 6) hx hb dX6_layEquations_156 (by decide) ?_
      refine lv_iadd hx hb dX6_layEquations_158 ?_
      refine lv_aload_n hx hb dX6_layEquations_159 rfl (lv_at hl 0 rfl) ?_
      refine lv_aload_n hx hb dX6_layEquations_160 rfl (lv_at hl 0 rfl) ?_
      refine x_get hx hb hts inX6_layEquations_6 hown hK hP 0 rfl rfl 8 (by decide) mX6_layEquations_1 rfl dX6_layEquations_161 ?_
      refine lv_iload_n hx hb dX6_layEquations_164 rfl (lv_at hl 2 rfl) ?_
      obtain ⟨v3, h3, hf⟩ := ob hf
      refine x_iald hx hb hK hP 7 rfl h3 dX6_layEquations_165 ?_
      obtain ⟨v4, h4, hf⟩ := ob hf
      refine x_pV (As := [.int v3]) (rest := [.int (((7 : Int32) * u.1) + (6 : Int32)), .ref (uq 6)]) S hK (kX6_wantedOf l E uq v2.2 v3 h4) (cwV 1 hts gX6_layEquations_X6_wantedOf rfl rfl rfl (by decide +kernel) ⟨Nat.le_of_ble_eq_true rfl, Nat.le_of_ble_eq_true rfl⟩) hP 0 rfl rfl rfl rfl hl.1 (Nat.le_of_ble_eq_true rfl) dX6_layEquations_166 rfl ⟨Nat.zero_le _, Nat.zero_le _⟩ ?_
      obtain ⟨v5, h5, hf⟩ := ob hf
      refine x_last hx hb hK hP hD hS 6 rfl h5 dX6_layEquations_169 (fun H locs hP hD hS => ?_)
      have hP : va_P (xD E) vwCl (wM E uq (Mo_set_cells v2.2 v5)) H := hP
      have hD : va_D A (wM E uq (Mo_set_cells v2.2 v5)) := hD
      refine lv_iinc (v := (u.1 + (1 : Int32))) (lv' := [(2, .int (u.1 + (1 : Int32))), (0, .ref (uq 0)), (1, .int x1), (3, .int v2.1)]) hx hb dX6_layEquations_170 hl (k := 2) rfl rfl (by decide) rfl (fun ls hl => ?_)
      refine lv_goto (tgt := 37) hx hb dX6_layEquations_173 (by decide) ?_
      exact ih ((u.1 + (1 : Int32)), (Mo_set_cells v2.2 v5)) _ hf _ _ hP hD hS ls (lv_sub hl [1, 2, 0] rfl) kx
def fX6_layEquations (mo : Mo) : Option (Int32 × Mo) :=
  (lp (gX6_layEquations_4) 1000 ((0 : Int32), (0 : Int32), mo)).bind fun v1 =>
  (lp (gX6_layEquations_37 v1.1) 1000 ((0 : Int32), v1.2.2)).bind fun v2 =>
  some (v1.1, v2.2)
set_option maxHeartbeats 4000000 in
set_option maxRecDepth 100000 in
theorem kX6_layEquations (l : Launch) (E : xG) (uq : Nat → Nat) (mo : Mo) {r : (Int32 × Mo)} (hf : fX6_layEquations mo = some r) : xMut l yX6_layEquations wsX6_layEquations rmX6_layEquations E [.ref (uq 0)] (wM E uq mo) (some (.int r.1)) (wM E uq r.2) := by
  refine Met.ofW (cc := cX6_layEquations) (maxL := 6) (ret := (some .int)) (by decide) rfl ?_
  intro p e s m args below meth c s₁ B hml hv
  obtain ⟨rfl, hP, hK, hD0⟩ := hv
  have hx := B.exec
  have hb := B.bytes
  have hr := B.returns
  have hts := atoms_spec (ws := wsX6_layEquations) B.pre
  have hown : s.vm.findClass RX6 = some m.cls := findClass_of_methodNamed B.named
  have hlk := B.notSynchronized
  have S : CallFix p m c cX6_layEquations 6 s _ wsX6_layEquations RX6 := ⟨hx, hb, hml, hown, hts⟩
  have hl := lv_entry ([.ref (uq 0)]) (n := 6) (Nat.le_of_ble_eq_true rfl)
  rw [lg_entry_eq]
  generalize (lg_sl ([.ref (uq 0)]) ++ List.replicate (6 - (lg_sl ([.ref (uq 0)])).length) Slot.unset).toArray = ls at hl ⊢
  have hl : lv_has ls 6 [(0, .ref (uq 0))] := hl
  have hD := xA.self hD0
  have hS : va_S (xA (wM E uq mo)) s.heap s.heap [] := va_S.rf
  show W p l e rmX6_layEquations s m _ below meth c s.heap [] 0 0 _ _
  generalize hA : xA (wM E uq mo) = A at hD hS ⊢
  unfold fX6_layEquations at hf
  refine lv_iconst (v := 0) hx hb dX6_layEquations_0 (by decide) ?_
  refine lv_istore_n (lv' := [(1, .int (0 : Int32)), (0, .ref (uq 0))]) hx hb dX6_layEquations_1 rfl hl (by decide) rfl (fun ls hl => ?_)
  refine lv_iconst (v := 0) hx hb dX6_layEquations_2 (by decide) ?_
  refine lv_istore_n (lv' := [(2, .int (0 : Int32)), (1, .int (0 : Int32)), (0, .ref (uq 0))]) hx hb dX6_layEquations_3 rfl hl (by decide) rfl (fun ls hl => ?_)
  obtain ⟨v1, h1, hf⟩ := ob hf
  refine wX6_layEquations_4 S E hK uq _ _ 1000 _ _ h1 _ _ hP hD hS ls (lv_sub hl [2, 1, 0] rfl) (fun H locs hP hD hS ls hl => ?_)
  refine lv_iconst (v := 0) hx hb dX6_layEquations_35 (by decide) ?_
  refine lv_istore_n (lv' := [(2, .int (0 : Int32)), (0, .ref (uq 0)), (1, .int v1.1)]) hx hb dX6_layEquations_36 rfl hl (by decide) rfl (fun ls hl => ?_)
  obtain ⟨v2, h2, hf⟩ := ob hf
  refine wX6_layEquations_37 S E hK uq v1.1 _ _ 1000 _ _ h2 _ _ hP hD hS ls (lv_sub hl [1, 2, 0] rfl) (fun H locs hP hD hS ls hl => ?_)
  refine lv_iload_n hx hb dX6_layEquations_176 rfl (lv_at hl 1 rfl) ?_
  obtain rfl := Option.some.inj hf
  subst hA
  exact x_iretM hx hb hr hlk (vp_nar_int _) hP hS dX6_layEquations_177
abbrev rmX6_solve : Room := { frames := 4, cells := 0, slots := 0, locals := 99 }
theorem mX6_solve_0 : Cond.fieldLink RX6 27 "EvenWhiteModel" "cells" "[J" ∈ wsX6_solve := by decide +kernel
theorem mX6_solve_1 : Cond.fieldLink RX6 112 "EvenWhiteModel" "whole" "J" ∈ wsX6_solve := by decide +kernel
theorem mX6_solve_2 : Cond.fieldLink RX6 20 "EvenWhiteModel" "spaces" "[J" ∈ wsX6_solve := by decide +kernel
theorem mX6_solve_3 : Cond.fieldLink RX6 30 "EvenWhiteModel" "unknown" "[I" ∈ wsX6_solve := by decide +kernel
theorem inX6_solve_6 : ∀ w ∈ u_ws RX6 TX6 17, w ∈ wsX6_solve := by decide +kernel
def gX6_solve_59 (x1 : Int32) (x2 : Int64) (x4 : Int32) (x5 : Int64) (x7 : Int32) (x8 : Int64) (rec : (Int32 × Mo) → Option (Int32 × Mo)) (u : Int32 × Mo) : Option (Int32 × Mo) :=
  (if (7 : Int32) ≤ u.1 then
  some (u.1, u.2)
  else (if x7 = x4 then
  some (u.1, u.2)
  else (rdJ (Mo_cells u.2) 42 (((7 : Int32) * x7) + u.1)).bind fun v3 =>
  (rdJ (Mo_cells u.2) 42 (((7 : Int32) * x4) + u.1)).bind fun v4 =>
  (dvJ ((v3 * x5) - (x8 * v4)) x2).bind fun v5 =>
  (wrJ (Mo_cells u.2) 42 (((7 : Int32) * x7) + u.1) v5).bind fun v6 =>
  rec ((u.1 + (1 : Int32)), (Mo_set_cells u.2 v6))))
set_option maxHeartbeats 4000000 in
set_option maxRecDepth 100000 in
theorem wX6_solve_59 {p : Program} {l : Launch} {e : Env} {s : State} {m : MethodId} {args : Array Value} {below : List Frame} {meth : Method} {c : Code} {Q : State → Prop} (S : CallFix p m c cX6_solve 11 s args wsX6_solve RX6) (E : xG) (hK : xK E s) (uq : Nat → Nat) (x1 : Int32) (x2 : Int64) (x4 : Int32) (x5 : Int64) (x7 : Int32) (x8 : Int64) (A : Nat → Prop) (H0 : Heap) : ∀ (n : Nat) (u : Int32 × Mo) (r : Int32 × Mo), lp (gX6_solve_59 x1 x2 x4 x5 x7 x8) n u = some r → ∀ (H : Heap) (locs : List Loc), va_P (xD E) vwCl (wM E uq u.2) H → va_D A (wM E uq u.2) → va_S A H0 H locs → ∀ (ls : Array Slot), lv_has ls 11 [(0, .ref (uq 0)), (1, .int x1), (2, .long x2), (4, .int x4), (5, .long x5), (7, .int x7), (8, .long x8), (10, .int u.1)] → (∀ (H : Heap) (locs : List Loc), va_P (xD E) vwCl (wM E uq r.2) H → va_D A (wM E uq r.2) → va_S A H0 H locs → ∀ (ls : Array Slot), lv_has ls 11 [(0, .ref (uq 0)), (1, .int x1), (2, .long x2), (4, .int x4), (5, .long x5), (7, .int x7), (8, .long x8), (10, .int r.1)] → W p l e rmX6_solve s m args below meth c H locs 0 0 Q (F0 m 127 ls [])) → W p l e rmX6_solve s m args below meth c H locs 0 0 Q (F0 m 59 ls []) := by
  obtain ⟨hx, hb, hml, hown, hts⟩ := id S
  intro n
  induction n with
  | zero =>
    intro u r hf
    exact absurd (show (none : Option _) = some r from hf) (fun q => by cases q)
  | succ n ih =>
    intro u r hf H locs hP hD hS ls hl kx
    have hf : gX6_solve_59 x1 x2 x4 x5 x7 x8 (lp (gX6_solve_59 x1 x2 x4 x5 x7 x8) n) u = some r := hf
    unfold gX6_solve_59 at hf
    refine lv_iload hx hb dX6_solve_59 (lv_at hl 7 rfl) ?_
    refine lv_bipush (v := 7) hx hb dX6_solve_61 (by decide) ?_
    refine lv_icmp_ge (tgt := 127) hx hb dX6_solve_63 (by decide) (fun c1 => ?_) (fun c1 => ?_)
    · have hf := (if_pos c1).symm.trans hf
      obtain rfl := Option.some.inj hf
      exact kx _ _ hP hD hS ls (lv_sub hl [0, 1, 2, 3, 4, 5, 6, 7] rfl)
    · have hf := (if_neg c1).symm.trans hf
      refine lv_iload hx hb dX6_solve_66 (lv_at hl 5 rfl) ?_
      refine lv_iload hx hb dX6_solve_68 (lv_at hl 3 rfl) ?_
      refine lv_icmp_eq (tgt := 127) hx hb dX6_solve_70 (by decide) (fun c2 => ?_) (fun c2 => ?_)
      · have hf := (if_pos c2).symm.trans hf
        obtain rfl := Option.some.inj hf
        exact kx _ _ hP hD hS ls (lv_sub hl [0, 1, 2, 3, 4, 5, 6, 7] rfl)
      · have hf := (if_neg c2).symm.trans hf
        refine lv_aload_n hx hb dX6_solve_73 rfl (lv_at hl 0 rfl) ?_
        refine x_get hx hb hts inX6_solve_6 hown hK hP 0 rfl rfl 7 (by decide) mX6_solve_0 rfl dX6_solve_74 ?_
        refine lv_bipush (v := 7) hx hb dX6_solve_77 (by decide) ?_
        refine lv_iload hx hb dX6_solve_79 (lv_at hl 5 rfl) ?_
        refine lv_imul hx hb dX6_solve_81 ?_
        refine lv_iload hx hb dX6_solve_82 (lv_at hl 7 rfl) ?_
        refine lv_iadd hx hb dX6_solve_84 ?_
        refine lv_aload_n hx hb dX6_solve_85 rfl (lv_at hl 0 rfl) ?_
        refine x_get hx hb hts inX6_solve_6 hown hK hP 0 rfl rfl 7 (by decide) mX6_solve_0 rfl dX6_solve_86 ?_
        refine lv_bipush (v := 7) hx hb dX6_solve_89 (by decide) ?_
        refine lv_iload hx hb dX6_solve_91 (lv_at hl 5 rfl) ?_
        refine lv_imul hx hb dX6_solve_93 ?_
        refine lv_iload hx hb dX6_solve_94 (lv_at hl 7 rfl) ?_
        refine lv_iadd hx hb dX6_solve_96 ?_
        obtain ⟨v3, h3, hf⟩ := ob hf
        refine x_lald hx hb hK hP 6 rfl h3 dX6_solve_97 ?_
        refine lv_lload hx hb dX6_solve_98 (lv_at hl 4 rfl) ?_
        refine lv_lmul hx hb dX6_solve_100 ?_
        refine lv_lload hx hb dX6_solve_101 (lv_at hl 6 rfl) ?_
        refine lv_aload_n hx hb dX6_solve_103 rfl (lv_at hl 0 rfl) ?_
        refine x_get hx hb hts inX6_solve_6 hown hK hP 0 rfl rfl 7 (by decide) mX6_solve_0 rfl dX6_solve_104 ?_
        refine lv_bipush (v := 7) hx hb dX6_solve_107 (by decide) ?_
        refine lv_iload hx hb dX6_solve_109 (lv_at hl 3 rfl) ?_
        refine lv_imul hx hb dX6_solve_111 ?_
        refine lv_iload hx hb dX6_solve_112 (lv_at hl 7 rfl) ?_
        refine lv_iadd hx hb dX6_solve_114 ?_
        obtain ⟨v4, h4, hf⟩ := ob hf
        refine x_lald hx hb hK hP 6 rfl h4 dX6_solve_115 ?_
        refine lv_lmul hx hb dX6_solve_116 ?_
        refine lv_lsub hx hb dX6_solve_117 ?_
        refine lv_lload_n hx hb dX6_solve_118 rfl (lv_at hl 2 rfl) ?_
        obtain ⟨v5, h5, hf⟩ := ob hf
        refine x_ldiv hx hb h5 dX6_solve_119 ?_
        obtain ⟨v6, h6, hf⟩ := ob hf
        refine x_last hx hb hK hP hD hS 6 rfl h6 dX6_solve_120 (fun H locs hP hD hS => ?_)
        have hP : va_P (xD E) vwCl (wM E uq (Mo_set_cells u.2 v6)) H := hP
        have hD : va_D A (wM E uq (Mo_set_cells u.2 v6)) := hD
        refine lv_iinc (v := (u.1 + (1 : Int32))) (lv' := [(10, .int (u.1 + (1 : Int32))), (0, .ref (uq 0)), (1, .int x1), (2, .long x2), (4, .int x4), (5, .long x5), (7, .int x7), (8, .long x8)]) hx hb dX6_solve_121 hl (k := 7) rfl rfl (by decide) rfl (fun ls hl => ?_)
        refine lv_goto (tgt := 59) hx hb dX6_solve_124 (by decide) ?_
        exact ih ((u.1 + (1 : Int32)), (Mo_set_cells u.2 v6)) _ hf _ _ hP hD hS ls (lv_sub hl [1, 2, 3, 4, 5, 6, 7, 0] rfl) kx
def gX6_solve_35 (x1 : Int32) (x2 : Int64) (x4 : Int32) (x5 : Int64) (rec : (Int32 × Mo) → Option (Int32 × Mo)) (u : Int32 × Mo) : Option (Int32 × Mo) :=
  (if x1 ≤ u.1 then
  some (u.1, u.2)
  else (rdJ (Mo_cells u.2) 42 (((7 : Int32) * u.1) + x4)).bind fun v2 =>
  (lp (gX6_solve_59 x1 x2 x4 x5 u.1 v2) 1000 ((0 : Int32), u.2)).bind fun v3 =>
  rec ((u.1 + (1 : Int32)), v3.2))
set_option maxHeartbeats 4000000 in
set_option maxRecDepth 100000 in
theorem wX6_solve_35 {p : Program} {l : Launch} {e : Env} {s : State} {m : MethodId} {args : Array Value} {below : List Frame} {meth : Method} {c : Code} {Q : State → Prop} (S : CallFix p m c cX6_solve 11 s args wsX6_solve RX6) (E : xG) (hK : xK E s) (uq : Nat → Nat) (x1 : Int32) (x2 : Int64) (x4 : Int32) (x5 : Int64) (A : Nat → Prop) (H0 : Heap) : ∀ (n : Nat) (u : Int32 × Mo) (r : Int32 × Mo), lp (gX6_solve_35 x1 x2 x4 x5) n u = some r → ∀ (H : Heap) (locs : List Loc), va_P (xD E) vwCl (wM E uq u.2) H → va_D A (wM E uq u.2) → va_S A H0 H locs → ∀ (ls : Array Slot), lv_has ls 11 [(0, .ref (uq 0)), (1, .int x1), (2, .long x2), (4, .int x4), (5, .long x5), (7, .int u.1)] → (∀ (H : Heap) (locs : List Loc), va_P (xD E) vwCl (wM E uq r.2) H → va_D A (wM E uq r.2) → va_S A H0 H locs → ∀ (ls : Array Slot), lv_has ls 11 [(0, .ref (uq 0)), (1, .int x1), (2, .long x2), (4, .int x4), (5, .long x5), (7, .int r.1)] → W p l e rmX6_solve s m args below meth c H locs 0 0 Q (F0 m 133 ls [])) → W p l e rmX6_solve s m args below meth c H locs 0 0 Q (F0 m 35 ls []) := by
  obtain ⟨hx, hb, hml, hown, hts⟩ := id S
  intro n
  induction n with
  | zero =>
    intro u r hf
    exact absurd (show (none : Option _) = some r from hf) (fun q => by cases q)
  | succ n ih =>
    intro u r hf H locs hP hD hS ls hl kx
    have hf : gX6_solve_35 x1 x2 x4 x5 (lp (gX6_solve_35 x1 x2 x4 x5) n) u = some r := hf
    unfold gX6_solve_35 at hf
    refine lv_iload hx hb dX6_solve_35 (lv_at hl 5 rfl) ?_
    refine lv_iload_n hx hb dX6_solve_37 rfl (lv_at hl 1 rfl) ?_
    refine lv_icmp_ge (tgt := 133) hx hb dX6_solve_38 (by decide) (fun c1 => ?_) (fun c1 => ?_)
    · have hf := (if_pos c1).symm.trans hf
      obtain rfl := Option.some.inj hf
      exact kx _ _ hP hD hS ls (lv_sub hl [0, 1, 2, 3, 4, 5] rfl)
    · have hf := (if_neg c1).symm.trans hf
      refine lv_aload_n hx hb dX6_solve_41 rfl (lv_at hl 0 rfl) ?_
      refine x_get hx hb hts inX6_solve_6 hown hK hP 0 rfl rfl 7 (by decide) mX6_solve_0 rfl dX6_solve_42 ?_
      refine lv_bipush (v := 7) hx hb dX6_solve_45 (by decide) ?_
      refine lv_iload hx hb dX6_solve_47 (lv_at hl 5 rfl) ?_
      refine lv_imul hx hb dX6_solve_49 ?_
      refine lv_iload hx hb dX6_solve_50 (lv_at hl 3 rfl) ?_
      refine lv_iadd hx hb dX6_solve_52 ?_
      obtain ⟨v2, h2, hf⟩ := ob hf
      refine x_lald hx hb hK hP 6 rfl h2 dX6_solve_53 ?_
      refine lv_lstore (lv' := [(8, .long v2), (0, .ref (uq 0)), (1, .int x1), (2, .long x2), (4, .int x4), (5, .long x5), (7, .int u.1)]) hx hb dX6_solve_54 hl (by decide) rfl (fun ls hl => ?_)
      refine lv_iconst (v := 0) hx hb dX6_solve_56 (by decide) ?_
      refine lv_istore (lv' := [(10, .int (0 : Int32)), (8, .long v2), (0, .ref (uq 0)), (1, .int x1), (2, .long x2), (4, .int x4), (5, .long x5), (7, .int u.1)]) hx hb dX6_solve_57 hl (by decide) rfl (fun ls hl => ?_)
      obtain ⟨v3, h3, hf⟩ := ob hf
      refine wX6_solve_59 S E hK uq x1 x2 x4 x5 u.1 v2 _ _ 1000 _ _ h3 _ _ hP hD hS ls (lv_sub hl [2, 3, 4, 5, 6, 7, 1, 0] rfl) (fun H locs hP hD hS ls hl => ?_)
      refine lv_iinc (v := (u.1 + (1 : Int32))) (lv' := [(7, .int (u.1 + (1 : Int32))), (0, .ref (uq 0)), (1, .int x1), (2, .long x2), (4, .int x4), (5, .long x5), (8, .long v2), (10, .int v3.1)]) hx hb dX6_solve_127 hl (k := 5) rfl rfl (by decide) rfl (fun ls hl => ?_)
      refine lv_goto (tgt := 35) hx hb dX6_solve_130 (by decide) ?_
      exact ih ((u.1 + (1 : Int32)), v3.2) _ hf _ _ hP hD hS ls (lv_sub hl [1, 2, 3, 4, 5, 0] rfl) kx
def gX6_solve_14 (x1 : Int32) (rec : (Int64 × Int32 × Mo) → Option (Int64 × Int32 × Mo)) (u : Int64 × Int32 × Mo) : Option (Int64 × Int32 × Mo) :=
  (if x1 ≤ u.2.1 then
  some (u.1, u.2.1, u.2.2)
  else (rdJ (Mo_cells u.2.2) 42 ((8 : Int32) * u.2.1)).bind fun v2 =>
  (lp (gX6_solve_35 x1 u.1 u.2.1 v2) 1000 ((0 : Int32), u.2.2)).bind fun v3 =>
  rec (v2, (u.2.1 + (1 : Int32)), v3.2))
set_option maxHeartbeats 4000000 in
set_option maxRecDepth 100000 in
theorem wX6_solve_14 {p : Program} {l : Launch} {e : Env} {s : State} {m : MethodId} {args : Array Value} {below : List Frame} {meth : Method} {c : Code} {Q : State → Prop} (S : CallFix p m c cX6_solve 11 s args wsX6_solve RX6) (E : xG) (hK : xK E s) (uq : Nat → Nat) (x1 : Int32) (A : Nat → Prop) (H0 : Heap) : ∀ (n : Nat) (u : Int64 × Int32 × Mo) (r : Int64 × Int32 × Mo), lp (gX6_solve_14 x1) n u = some r → ∀ (H : Heap) (locs : List Loc), va_P (xD E) vwCl (wM E uq u.2.2) H → va_D A (wM E uq u.2.2) → va_S A H0 H locs → ∀ (ls : Array Slot), lv_has ls 11 [(0, .ref (uq 0)), (1, .int x1), (2, .long u.1), (4, .int u.2.1)] → (∀ (H : Heap) (locs : List Loc), va_P (xD E) vwCl (wM E uq r.2.2) H → va_D A (wM E uq r.2.2) → va_S A H0 H locs → ∀ (ls : Array Slot), lv_has ls 11 [(0, .ref (uq 0)), (1, .int x1), (2, .long r.1), (4, .int r.2.1)] → W p l e rmX6_solve s m args below meth c H locs 0 0 Q (F0 m 142 ls [])) → W p l e rmX6_solve s m args below meth c H locs 0 0 Q (F0 m 14 ls []) := by
  obtain ⟨hx, hb, hml, hown, hts⟩ := id S
  intro n
  induction n with
  | zero =>
    intro u r hf
    exact absurd (show (none : Option _) = some r from hf) (fun q => by cases q)
  | succ n ih =>
    intro u r hf H locs hP hD hS ls hl kx
    have hf : gX6_solve_14 x1 (lp (gX6_solve_14 x1) n) u = some r := hf
    unfold gX6_solve_14 at hf
    refine lv_iload hx hb dX6_solve_14 (lv_at hl 3 rfl) ?_
    refine lv_iload_n hx hb dX6_solve_16 rfl (lv_at hl 1 rfl) ?_
    refine lv_icmp_ge (tgt := 142) hx hb dX6_solve_17 (by decide) (fun c1 => ?_) (fun c1 => ?_)
    · have hf := (if_pos c1).symm.trans hf
      obtain rfl := Option.some.inj hf
      exact kx _ _ hP hD hS ls (lv_sub hl [0, 1, 2, 3] rfl)
    · have hf := (if_neg c1).symm.trans hf
      refine lv_aload_n hx hb dX6_solve_20 rfl (lv_at hl 0 rfl) ?_
      refine x_get hx hb hts inX6_solve_6 hown hK hP 0 rfl rfl 7 (by decide) mX6_solve_0 rfl dX6_solve_21 ?_
      refine lv_bipush (v := 8) hx hb dX6_solve_24 (by decide) ?_
      refine lv_iload hx hb dX6_solve_26 (lv_at hl 3 rfl) ?_
      refine lv_imul hx hb dX6_solve_28 ?_
      obtain ⟨v2, h2, hf⟩ := ob hf
      refine x_lald hx hb hK hP 6 rfl h2 dX6_solve_29 ?_
      refine lv_lstore (lv' := [(5, .long v2), (0, .ref (uq 0)), (1, .int x1), (2, .long u.1), (4, .int u.2.1)]) hx hb dX6_solve_30 hl (by decide) rfl (fun ls hl => ?_)
      refine lv_iconst (v := 0) hx hb dX6_solve_32 (by decide) ?_
      refine lv_istore (lv' := [(7, .int (0 : Int32)), (5, .long v2), (0, .ref (uq 0)), (1, .int x1), (2, .long u.1), (4, .int u.2.1)]) hx hb dX6_solve_33 hl (by decide) rfl (fun ls hl => ?_)
      obtain ⟨v3, h3, hf⟩ := ob hf
      refine wX6_solve_35 S E hK uq x1 u.1 u.2.1 v2 _ _ 1000 _ _ h3 _ _ hP hD hS ls (lv_sub hl [2, 3, 4, 5, 1, 0] rfl) (fun H locs hP hD hS ls hl => ?_)
      refine lv_lload hx hb dX6_solve_133 (lv_at hl 4 rfl) ?_
      refine lv_lstore_n (lv' := [(2, .long v2), (0, .ref (uq 0)), (1, .int x1), (4, .int u.2.1), (5, .long v2), (7, .int v3.1)]) hx hb dX6_solve_135 rfl hl (by decide) rfl (fun ls hl => ?_)
      refine lv_iinc (v := (u.2.1 + (1 : Int32))) (lv' := [(4, .int (u.2.1 + (1 : Int32))), (2, .long v2), (0, .ref (uq 0)), (1, .int x1), (5, .long v2), (7, .int v3.1)]) hx hb dX6_solve_136 hl (k := 3) rfl rfl (by decide) rfl (fun ls hl => ?_)
      refine lv_goto (tgt := 14) hx hb dX6_solve_139 (by decide) ?_
      exact ih (v2, (u.2.1 + (1 : Int32)), v3.2) _ hf _ _ hP hD hS ls (lv_sub hl [2, 3, 1, 0] rfl) kx
def gX6_solve_150 (x1 : Int32) (x2 : Int64) (rec : (Int32 × Mo) → Option (Int32 × Mo)) (u : Int32 × Mo) : Option (Int32 × Mo) :=
  (if (6 : Int32) ≤ u.1 then
  some (u.1, u.2)
  else (wrJ (Mo_spaces u.2) 6 u.1 (0 : Int64)).bind fun v2 =>
  rec ((u.1 + (1 : Int32)), (Mo_set_spaces u.2 v2)))
set_option maxHeartbeats 4000000 in
set_option maxRecDepth 100000 in
theorem wX6_solve_150 {p : Program} {l : Launch} {e : Env} {s : State} {m : MethodId} {args : Array Value} {below : List Frame} {meth : Method} {c : Code} {Q : State → Prop} (S : CallFix p m c cX6_solve 11 s args wsX6_solve RX6) (E : xG) (hK : xK E s) (uq : Nat → Nat) (x1 : Int32) (x2 : Int64) (A : Nat → Prop) (H0 : Heap) : ∀ (n : Nat) (u : Int32 × Mo) (r : Int32 × Mo), lp (gX6_solve_150 x1 x2) n u = some r → ∀ (H : Heap) (locs : List Loc), va_P (xD E) vwCl (wM E uq u.2) H → va_D A (wM E uq u.2) → va_S A H0 H locs → ∀ (ls : Array Slot), lv_has ls 11 [(0, .ref (uq 0)), (1, .int x1), (2, .long x2), (4, .int u.1)] → (∀ (H : Heap) (locs : List Loc), va_P (xD E) vwCl (wM E uq r.2) H → va_D A (wM E uq r.2) → va_S A H0 H locs → ∀ (ls : Array Slot), lv_has ls 11 [(0, .ref (uq 0)), (1, .int x1), (2, .long x2), (4, .int r.1)] → W p l e rmX6_solve s m args below meth c H locs 0 0 Q (F0 m 171 ls [])) → W p l e rmX6_solve s m args below meth c H locs 0 0 Q (F0 m 150 ls []) := by
  obtain ⟨hx, hb, hml, hown, hts⟩ := id S
  intro n
  induction n with
  | zero =>
    intro u r hf
    exact absurd (show (none : Option _) = some r from hf) (fun q => by cases q)
  | succ n ih =>
    intro u r hf H locs hP hD hS ls hl kx
    have hf : gX6_solve_150 x1 x2 (lp (gX6_solve_150 x1 x2) n) u = some r := hf
    unfold gX6_solve_150 at hf
    refine lv_iload hx hb dX6_solve_150 (lv_at hl 3 rfl) ?_
    refine lv_bipush (v := 6) hx hb dX6_solve_152 (by decide) ?_
    refine lv_icmp_ge (tgt := 171) hx hb dX6_solve_154 (by decide) (fun c1 => ?_) (fun c1 => ?_)
    · have hf := (if_pos c1).symm.trans hf
      obtain rfl := Option.some.inj hf
      exact kx _ _ hP hD hS ls (lv_sub hl [0, 1, 2, 3] rfl)
    · have hf := (if_neg c1).symm.trans hf
      refine lv_aload_n hx hb dX6_solve_157 rfl (lv_at hl 0 rfl) ?_
      refine x_get hx hb hts inX6_solve_6 hown hK hP 0 rfl rfl 4 (by decide) mX6_solve_2 rfl dX6_solve_158 ?_
      refine lv_iload hx hb dX6_solve_161 (lv_at hl 3 rfl) ?_
      refine lv_lconst (v := 0) hx hb dX6_solve_163 (by decide) ?_
      obtain ⟨v2, h2, hf⟩ := ob hf
      refine x_last hx hb hK hP hD hS 4 rfl h2 dX6_solve_164 (fun H locs hP hD hS => ?_)
      have hP : va_P (xD E) vwCl (wM E uq (Mo_set_spaces u.2 v2)) H := hP
      have hD : va_D A (wM E uq (Mo_set_spaces u.2 v2)) := hD
      refine lv_iinc (v := (u.1 + (1 : Int32))) (lv' := [(4, .int (u.1 + (1 : Int32))), (0, .ref (uq 0)), (1, .int x1), (2, .long x2)]) hx hb dX6_solve_165 hl (k := 3) rfl rfl (by decide) rfl (fun ls hl => ?_)
      refine lv_goto (tgt := 150) hx hb dX6_solve_168 (by decide) ?_
      exact ih ((u.1 + (1 : Int32)), (Mo_set_spaces u.2 v2)) _ hf _ _ hP hD hS ls (lv_sub hl [1, 2, 3, 0] rfl) kx
def gX6_solve_174 (x1 : Int32) (x2 : Int64) (rec : (Int32 × Mo) → Option (Int32 × Mo)) (u : Int32 × Mo) : Option (Int32 × Mo) :=
  (if x1 ≤ u.1 then
  some (u.1, u.2)
  else (rdI (Mo_unk u.2) 6 u.1).bind fun v2 =>
  (rdJ (Mo_cells u.2) 42 (((7 : Int32) * u.1) + (6 : Int32))).bind fun v3 =>
  (wrJ (Mo_spaces u.2) 6 v2 v3).bind fun v4 =>
  rec ((u.1 + (1 : Int32)), (Mo_set_spaces u.2 v4)))
set_option maxHeartbeats 4000000 in
set_option maxRecDepth 100000 in
theorem wX6_solve_174 {p : Program} {l : Launch} {e : Env} {s : State} {m : MethodId} {args : Array Value} {below : List Frame} {meth : Method} {c : Code} {Q : State → Prop} (S : CallFix p m c cX6_solve 11 s args wsX6_solve RX6) (E : xG) (hK : xK E s) (uq : Nat → Nat) (x1 : Int32) (x2 : Int64) (A : Nat → Prop) (H0 : Heap) : ∀ (n : Nat) (u : Int32 × Mo) (r : Int32 × Mo), lp (gX6_solve_174 x1 x2) n u = some r → ∀ (H : Heap) (locs : List Loc), va_P (xD E) vwCl (wM E uq u.2) H → va_D A (wM E uq u.2) → va_S A H0 H locs → ∀ (ls : Array Slot), lv_has ls 11 [(0, .ref (uq 0)), (1, .int x1), (2, .long x2), (4, .int u.1)] → (∀ (H : Heap) (locs : List Loc), va_P (xD E) vwCl (wM E uq r.2) H → va_D A (wM E uq r.2) → va_S A H0 H locs → ∀ (ls : Array Slot), lv_has ls 11 [(0, .ref (uq 0)), (1, .int x1), (2, .long x2), (4, .int r.1)] → W p l e rmX6_solve s m args below meth c H locs 0 0 Q (F0 m 211 ls [])) → W p l e rmX6_solve s m args below meth c H locs 0 0 Q (F0 m 174 ls []) := by
  obtain ⟨hx, hb, hml, hown, hts⟩ := id S
  intro n
  induction n with
  | zero =>
    intro u r hf
    exact absurd (show (none : Option _) = some r from hf) (fun q => by cases q)
  | succ n ih =>
    intro u r hf H locs hP hD hS ls hl kx
    have hf : gX6_solve_174 x1 x2 (lp (gX6_solve_174 x1 x2) n) u = some r := hf
    unfold gX6_solve_174 at hf
    refine lv_iload hx hb dX6_solve_174 (lv_at hl 3 rfl) ?_
    refine lv_iload_n hx hb dX6_solve_176 rfl (lv_at hl 1 rfl) ?_
    refine lv_icmp_ge (tgt := 211) hx hb dX6_solve_177 (by decide) (fun c1 => ?_) (fun c1 => ?_)
    · have hf := (if_pos c1).symm.trans hf
      obtain rfl := Option.some.inj hf
      exact kx _ _ hP hD hS ls (lv_sub hl [0, 1, 2, 3] rfl)
    · have hf := (if_neg c1).symm.trans hf
      refine lv_aload_n hx hb dX6_solve_180 rfl (lv_at hl 0 rfl) ?_
      refine x_get hx hb hts inX6_solve_6 hown hK hP 0 rfl rfl 4 (by decide) mX6_solve_2 rfl dX6_solve_181 ?_
      refine lv_aload_n hx hb dX6_solve_184 rfl (lv_at hl 0 rfl) ?_
      refine x_get hx hb hts inX6_solve_6 hown hK hP 0 rfl rfl 8 (by decide) mX6_solve_3 rfl dX6_solve_185 ?_
      refine lv_iload hx hb dX6_solve_188 (lv_at hl 3 rfl) ?_
      obtain ⟨v2, h2, hf⟩ := ob hf
      refine x_iald hx hb hK hP 7 rfl h2 dX6_solve_190 ?_
      refine lv_aload_n hx hb dX6_solve_191 rfl (lv_at hl 0 rfl) ?_
      refine x_get hx hb hts inX6_solve_6 hown hK hP 0 rfl rfl 7 (by decide) mX6_solve_0 rfl dX6_solve_192 ?_
      refine lv_bipush (v := 7) hx hb dX6_solve_195 (by decide) ?_
      refine lv_iload hx hb dX6_solve_197 (lv_at hl 3 rfl) ?_
      refine lv_imul hx hb dX6_solve_199 ?_
      refine lv_bipush (v := 6) hx hb dX6_solve_200 (by decide) ?_
      refine lv_iadd hx hb dX6_solve_202 ?_
      obtain ⟨v3, h3, hf⟩ := ob hf
      refine x_lald hx hb hK hP 6 rfl h3 dX6_solve_203 ?_
      obtain ⟨v4, h4, hf⟩ := ob hf
      refine x_last hx hb hK hP hD hS 4 rfl h4 dX6_solve_204 (fun H locs hP hD hS => ?_)
      have hP : va_P (xD E) vwCl (wM E uq (Mo_set_spaces u.2 v4)) H := hP
      have hD : va_D A (wM E uq (Mo_set_spaces u.2 v4)) := hD
      refine lv_iinc (v := (u.1 + (1 : Int32))) (lv' := [(4, .int (u.1 + (1 : Int32))), (0, .ref (uq 0)), (1, .int x1), (2, .long x2)]) hx hb dX6_solve_205 hl (k := 3) rfl rfl (by decide) rfl (fun ls hl => ?_)
      refine lv_goto (tgt := 174) hx hb dX6_solve_208 (by decide) ?_
      exact ih ((u.1 + (1 : Int32)), (Mo_set_spaces u.2 v4)) _ hf _ _ hP hD hS ls (lv_sub hl [1, 2, 3, 0] rfl) kx
def fX6_solve (mo : Mo) : Option Mo :=
  (fX6_layOpen mo).bind fun v1 =>
  (fX6_layEquations v1).bind fun v2 =>
  (lp (gX6_solve_14 v2.1) 1000 ((1 : Int64), (0 : Int32), v2.2)).bind fun v3 =>
  (lp (gX6_solve_150 v2.1 v3.1) 1000 ((0 : Int32), (Mo_set_whole v3.2.2 v3.1))).bind fun v4 =>
  (lp (gX6_solve_174 v2.1 v3.1) 1000 ((0 : Int32), v4.2)).bind fun v5 =>
  some v5.2
set_option maxHeartbeats 4000000 in
set_option maxRecDepth 100000 in
theorem kX6_solve (l : Launch) (E : xG) (uq : Nat → Nat) (mo : Mo) {r : Mo} (hf : fX6_solve mo = some r) : xMut l yX6_solve wsX6_solve rmX6_solve E [.ref (uq 0)] (wM E uq mo) none (wM E uq r) := by
  refine Met.ofW (cc := cX6_solve) (maxL := 11) (ret := none) (by decide) rfl ?_
  intro p e s m args below meth c s₁ B hml hv
  obtain ⟨rfl, hP, hK, hD0⟩ := hv
  have hx := B.exec
  have hb := B.bytes
  have hr := B.returns
  have hts := atoms_spec (ws := wsX6_solve) B.pre
  have hown : s.vm.findClass RX6 = some m.cls := findClass_of_methodNamed B.named
  have hlk := B.notSynchronized
  have S : CallFix p m c cX6_solve 11 s _ wsX6_solve RX6 := ⟨hx, hb, hml, hown, hts⟩
  have hl := lv_entry ([.ref (uq 0)]) (n := 11) (Nat.le_of_ble_eq_true rfl)
  rw [lg_entry_eq]
  generalize (lg_sl ([.ref (uq 0)]) ++ List.replicate (11 - (lg_sl ([.ref (uq 0)])).length) Slot.unset).toArray = ls at hl ⊢
  have hl : lv_has ls 11 [(0, .ref (uq 0))] := hl
  have hD := xA.self hD0
  have hS : va_S (xA (wM E uq mo)) s.heap s.heap [] := va_S.rf
  show W p l e rmX6_solve s m _ below meth c s.heap [] 0 0 _ _
  generalize hA : xA (wM E uq mo) = A at hD hS ⊢
  unfold fX6_solve at hf
  refine lv_aload_n hx hb dX6_solve_0 rfl (lv_at hl 0 rfl) ?_
  obtain ⟨v1, h1, hf⟩ := ob hf
  refine x_mR (ws' := wM E uq v1) (As := []) (rest := []) S hK (kX6_layOpen l E uq mo h1) (cwV 0 hts gX6_solve_X6_layOpen rfl rfl rfl (by decide +kernel) ⟨Nat.le_of_ble_eq_true rfl, Nat.le_of_ble_eq_true rfl⟩) hP hD hS 0 14 rfl rfl 0 rfl rfl rfl rfl hl.1 (Nat.le_of_ble_eq_true rfl) dX6_solve_1 rfl ⟨Nat.zero_le _, Nat.zero_le _⟩ rfl (fun H locs hP hD hS => ?_)
  refine lv_aload_n hx hb dX6_solve_4 rfl (lv_at hl 0 rfl) ?_
  obtain ⟨v2, h2, hf⟩ := ob hf
  refine x_mR (ws' := wM E uq v2.2) (As := []) (rest := []) S hK (kX6_layEquations l E uq v1 h2) (cwV 0 hts gX6_solve_X6_layEquations rfl rfl rfl (by decide +kernel) ⟨Nat.le_of_ble_eq_true rfl, Nat.le_of_ble_eq_true rfl⟩) hP hD hS 0 14 rfl rfl 0 rfl rfl rfl rfl hl.1 (Nat.le_of_ble_eq_true rfl) dX6_solve_5 rfl ⟨Nat.zero_le _, Nat.zero_le _⟩ rfl (fun H locs hP hD hS => ?_)
  refine lv_istore_n (lv' := [(1, .int v2.1), (0, .ref (uq 0))]) hx hb dX6_solve_8 rfl hl (by decide) rfl (fun ls hl => ?_)
  refine lv_lconst (v := 1) hx hb dX6_solve_9 (by decide) ?_
  refine lv_lstore_n (lv' := [(2, .long (1 : Int64)), (1, .int v2.1), (0, .ref (uq 0))]) hx hb dX6_solve_10 rfl hl (by decide) rfl (fun ls hl => ?_)
  refine lv_iconst (v := 0) hx hb dX6_solve_11 (by decide) ?_
  refine lv_istore (lv' := [(4, .int (0 : Int32)), (2, .long (1 : Int64)), (1, .int v2.1), (0, .ref (uq 0))]) hx hb dX6_solve_12 hl (by decide) rfl (fun ls hl => ?_)
  obtain ⟨v3, h3, hf⟩ := ob hf
  refine wX6_solve_14 S E hK uq v2.1 _ _ 1000 _ _ h3 _ _ hP hD hS ls (lv_sub hl [3, 2, 1, 0] rfl) (fun H locs hP hD hS ls hl => ?_)
  refine lv_aload_n hx hb dX6_solve_142 rfl (lv_at hl 0 rfl) ?_
  refine lv_lload_n hx hb dX6_solve_143 rfl (lv_at hl 2 rfl) ?_
  refine x_putf hx hb hts inX6_solve_6 tyX6_ok nmX6 hown hK hP hD hS 0 rfl rfl 5 (by decide) mX6_solve_1 rfl rfl rfl (Nat.le_of_ble_eq_true rfl) dX6_solve_144 (fun H locs hP hD hS => ?_)
  have hP : va_P (xD E) vwCl (wM E uq (Mo_set_whole v3.2.2 v3.1)) H := hP
  have hD : va_D A (wM E uq (Mo_set_whole v3.2.2 v3.1)) := hD
  refine lv_iconst (v := 0) hx hb dX6_solve_147 (by decide) ?_
  refine lv_istore (lv' := [(4, .int (0 : Int32)), (0, .ref (uq 0)), (1, .int v2.1), (2, .long v3.1)]) hx hb dX6_solve_148 hl (by decide) rfl (fun ls hl => ?_)
  obtain ⟨v4, h4, hf⟩ := ob hf
  refine wX6_solve_150 S E hK uq v2.1 v3.1 _ _ 1000 _ _ h4 _ _ hP hD hS ls (lv_sub hl [1, 2, 3, 0] rfl) (fun H locs hP hD hS ls hl => ?_)
  refine lv_iconst (v := 0) hx hb dX6_solve_171 (by decide) ?_
  refine lv_istore (lv' := [(4, .int (0 : Int32)), (0, .ref (uq 0)), (1, .int v2.1), (2, .long v3.1)]) hx hb dX6_solve_172 hl (by decide) rfl (fun ls hl => ?_)
  obtain ⟨v5, h5, hf⟩ := ob hf
  refine wX6_solve_174 S E hK uq v2.1 v3.1 _ _ 1000 _ _ h5 _ _ hP hD hS ls (lv_sub hl [1, 2, 3, 0] rfl) (fun H locs hP hD hS ls hl => ?_)
  obtain rfl := Option.some.inj hf
  subst hA
  exact x_vretM hx hb hr hlk hP hS dX6_solve_211
abbrev rmX6_whiteOf : Room := { frames := 2, cells := 0, slots := 0, locals := 47 }
theorem mX6_whiteOf_0 : Cond.fieldLink RX6 112 "EvenWhiteModel" "whole" "J" ∈ wsX6_whiteOf := by decide +kernel
theorem mX6_whiteOf_1 : Cond.fieldLink RX6 20 "EvenWhiteModel" "spaces" "[J" ∈ wsX6_whiteOf := by decide +kernel
theorem inX6_whiteOf_6 : ∀ w ∈ u_ws RX6 TX6 17, w ∈ wsX6_whiteOf := by decide +kernel
def fX6_whiteOf (mo : Mo) (x1 : Int32) (x2 : Int32) : Option Int64 :=
  (fX6_bare mo x1 x2).bind fun v1 =>
  (rdJ (Mo_spaces mo) 6 x1).bind fun v2 =>
  (rdJ (Mo_spaces mo) 6 ((3 : Int32) + x2)).bind fun v3 =>
  some ((((Int32.toInt64 v1) * (Mo_whole mo)) + v2) + v3)
set_option maxHeartbeats 4000000 in
set_option maxRecDepth 100000 in
theorem kX6_whiteOf (l : Launch) (E : xG) (uq : Nat → Nat) (mo : Mo) (x1 : Int32) (x2 : Int32) {r : Int64} (hf : fX6_whiteOf mo x1 x2 = some r) : xPure l yX6_whiteOf wsX6_whiteOf rmX6_whiteOf E [.ref (uq 0), .int x1, .int x2] (wM E uq mo) (.long r) := by
  refine Met.ofW (cc := cX6_whiteOf) (maxL := 3) (ret := (some .long)) (by decide) rfl ?_
  intro p e s m args below meth c s₁ B hml hv
  obtain ⟨rfl, hP, hK⟩ := hv
  have hx := B.exec
  have hb := B.bytes
  have hr := B.returns
  have hts := atoms_spec (ws := wsX6_whiteOf) B.pre
  have hown : s.vm.findClass RX6 = some m.cls := findClass_of_methodNamed B.named
  have hlk := B.notSynchronized
  have S : CallFix p m c cX6_whiteOf 3 s _ wsX6_whiteOf RX6 := ⟨hx, hb, hml, hown, hts⟩
  have hl := lv_entry ([.ref (uq 0), .int x1, .int x2]) (n := 3) (Nat.le_of_ble_eq_true rfl)
  rw [lg_entry_eq]
  generalize (lg_sl ([.ref (uq 0), .int x1, .int x2]) ++ List.replicate (3 - (lg_sl ([.ref (uq 0), .int x1, .int x2])).length) Slot.unset).toArray = ls at hl ⊢
  have hl : lv_has ls 3 [(0, .ref (uq 0)), (1, .int x1), (2, .int x2)] := hl
  unfold fX6_whiteOf at hf
  refine lv_aload_n hx hb dX6_whiteOf_0 rfl (lv_at hl 0 rfl) ?_
  refine lv_iload_n hx hb dX6_whiteOf_1 rfl (lv_at hl 1 rfl) ?_
  refine lv_iload_n hx hb dX6_whiteOf_2 rfl (lv_at hl 2 rfl) ?_
  obtain ⟨v1, h1, hf⟩ := ob hf
  refine x_pV (As := [.int x1, .int x2]) (rest := []) S hK (kX6_bare l E uq mo x1 x2 h1) (cwV 2 hts gX6_whiteOf_X6_bare rfl rfl rfl (by decide +kernel) ⟨Nat.le_of_ble_eq_true rfl, Nat.le_of_ble_eq_true rfl⟩) hP 0 rfl rfl rfl rfl hl.1 (Nat.le_of_ble_eq_true rfl) dX6_whiteOf_3 rfl ⟨Nat.zero_le _, Nat.zero_le _⟩ ?_
  refine lv_i2l (v := (Int32.toInt64 v1)) hx hb dX6_whiteOf_6 rfl ?_
  refine lv_aload_n hx hb dX6_whiteOf_7 rfl (lv_at hl 0 rfl) ?_
  refine x_get hx hb hts inX6_whiteOf_6 hown hK hP 0 rfl rfl 5 (by decide) mX6_whiteOf_0 rfl dX6_whiteOf_8 ?_
  refine lv_lmul hx hb dX6_whiteOf_11 ?_
  refine lv_aload_n hx hb dX6_whiteOf_12 rfl (lv_at hl 0 rfl) ?_
  refine x_get hx hb hts inX6_whiteOf_6 hown hK hP 0 rfl rfl 4 (by decide) mX6_whiteOf_1 rfl dX6_whiteOf_13 ?_
  refine lv_iload_n hx hb dX6_whiteOf_16 rfl (lv_at hl 1 rfl) ?_
  obtain ⟨v2, h2, hf⟩ := ob hf
  refine x_lald hx hb hK hP 4 rfl h2 dX6_whiteOf_17 ?_
  refine lv_ladd hx hb dX6_whiteOf_18 ?_
  refine lv_aload_n hx hb dX6_whiteOf_19 rfl (lv_at hl 0 rfl) ?_
  refine x_get hx hb hts inX6_whiteOf_6 hown hK hP 0 rfl rfl 4 (by decide) mX6_whiteOf_1 rfl dX6_whiteOf_20 ?_
  refine lv_iconst (v := 3) hx hb dX6_whiteOf_23 (by decide) ?_
  refine lv_iload_n hx hb dX6_whiteOf_24 rfl (lv_at hl 2 rfl) ?_
  refine lv_iadd hx hb dX6_whiteOf_25 ?_
  obtain ⟨v3, h3, hf⟩ := ob hf
  refine x_lald hx hb hK hP 4 rfl h3 dX6_whiteOf_26 ?_
  refine lv_ladd hx hb dX6_whiteOf_27 ?_
  obtain rfl := Option.some.inj hf
  exact x_lret hx hb hr hlk dX6_whiteOf_28
abbrev rmX6_overOf : Room := { frames := 3, cells := 0, slots := 0, locals := 69 }
theorem mX6_overOf_0 : Cond.fieldLink RX6 7 "EvenWhiteModel" "now" "[I" ∈ wsX6_overOf := by decide +kernel
theorem mX6_overOf_1 : Cond.fieldLink RX6 112 "EvenWhiteModel" "whole" "J" ∈ wsX6_overOf := by decide +kernel
theorem inX6_overOf_6 : ∀ w ∈ u_ws RX6 TX6 17, w ∈ wsX6_overOf := by decide +kernel
def fX6_overOf (mo : Mo) (x1 : Int32) (x2 : Int32) : Option Int64 :=
  (fX6_whiteOf mo x1 x2).bind fun v1 =>
  (rdI (Mo_now mo) 63 (62 : Int32)).bind fun v2 =>
  some (v1 - ((Int32.toInt64 v2) * (Mo_whole mo)))
set_option maxHeartbeats 4000000 in
set_option maxRecDepth 100000 in
theorem kX6_overOf (l : Launch) (E : xG) (uq : Nat → Nat) (mo : Mo) (x1 : Int32) (x2 : Int32) {r : Int64} (hf : fX6_overOf mo x1 x2 = some r) : xPure l yX6_overOf wsX6_overOf rmX6_overOf E [.ref (uq 0), .int x1, .int x2] (wM E uq mo) (.long r) := by
  refine Met.ofW (cc := cX6_overOf) (maxL := 3) (ret := (some .long)) (by decide) rfl ?_
  intro p e s m args below meth c s₁ B hml hv
  obtain ⟨rfl, hP, hK⟩ := hv
  have hx := B.exec
  have hb := B.bytes
  have hr := B.returns
  have hts := atoms_spec (ws := wsX6_overOf) B.pre
  have hown : s.vm.findClass RX6 = some m.cls := findClass_of_methodNamed B.named
  have hlk := B.notSynchronized
  have S : CallFix p m c cX6_overOf 3 s _ wsX6_overOf RX6 := ⟨hx, hb, hml, hown, hts⟩
  have hl := lv_entry ([.ref (uq 0), .int x1, .int x2]) (n := 3) (Nat.le_of_ble_eq_true rfl)
  rw [lg_entry_eq]
  generalize (lg_sl ([.ref (uq 0), .int x1, .int x2]) ++ List.replicate (3 - (lg_sl ([.ref (uq 0), .int x1, .int x2])).length) Slot.unset).toArray = ls at hl ⊢
  have hl : lv_has ls 3 [(0, .ref (uq 0)), (1, .int x1), (2, .int x2)] := hl
  unfold fX6_overOf at hf
  refine lv_aload_n hx hb dX6_overOf_0 rfl (lv_at hl 0 rfl) ?_
  refine lv_iload_n hx hb dX6_overOf_1 rfl (lv_at hl 1 rfl) ?_
  refine lv_iload_n hx hb dX6_overOf_2 rfl (lv_at hl 2 rfl) ?_
  obtain ⟨v1, h1, hf⟩ := ob hf
  refine x_pV (As := [.int x1, .int x2]) (rest := []) S hK (kX6_whiteOf l E uq mo x1 x2 h1) (cwV 2 hts gX6_overOf_X6_whiteOf rfl rfl rfl (by decide +kernel) ⟨Nat.le_of_ble_eq_true rfl, Nat.le_of_ble_eq_true rfl⟩) hP 0 rfl rfl rfl rfl hl.1 (Nat.le_of_ble_eq_true rfl) dX6_overOf_3 rfl ⟨Nat.zero_le _, Nat.zero_le _⟩ ?_
  refine lv_aload_n hx hb dX6_overOf_6 rfl (lv_at hl 0 rfl) ?_
  refine x_get hx hb hts inX6_overOf_6 hown hK hP 0 rfl rfl 0 (by decide) mX6_overOf_0 rfl dX6_overOf_7 ?_
  refine lv_bipush (v := 62) hx hb dX6_overOf_10 (by decide) ?_
  obtain ⟨v2, h2, hf⟩ := ob hf
  refine x_iald hx hb hK hP 1 rfl h2 dX6_overOf_12 ?_
  refine lv_i2l (v := (Int32.toInt64 v2)) hx hb dX6_overOf_13 rfl ?_
  refine lv_aload_n hx hb dX6_overOf_14 rfl (lv_at hl 0 rfl) ?_
  refine x_get hx hb hts inX6_overOf_6 hown hK hP 0 rfl rfl 5 (by decide) mX6_overOf_1 rfl dX6_overOf_15 ?_
  refine lv_lmul hx hb dX6_overOf_18 ?_
  refine lv_lsub hx hb dX6_overOf_19 ?_
  obtain rfl := Option.some.inj hf
  exact x_lret hx hb hr hlk dX6_overOf_20
abbrev rmX6_squares : Room := { frames := 4, cells := 0, slots := 0, locals := 91 }
def gX6_squares_4 (mo : Mo) (rec : (Int64 × Int32) → Option (Int64 × Int32)) (u : Int64 × Int32) : Option (Int64 × Int32) :=
  (if (9 : Int32) ≤ u.2 then
  some (u.1, u.2)
  else (fX6_joins mo (u.2 / (3 : Int32)) ((3 : Int32) + (u.2 - u.2 / (3 : Int32) * (3 : Int32)))).bind fun v2 =>
  ((if v2 ≤ (0 : Int32) then
  some (0 : Int64)
  else (fX6_overOf mo (u.2 / (3 : Int32)) (u.2 - u.2 / (3 : Int32) * (3 : Int32))).bind fun v5 =>
  some v5)).bind fun v3 =>
  rec ((u.1 + (((Int32.toInt64 v2) * v3) * v3)), (u.2 + (1 : Int32))))
set_option maxHeartbeats 4000000 in
set_option maxRecDepth 100000 in
theorem wX6_squares_4 {p : Program} {l : Launch} {e : Env} {s : State} {m : MethodId} {args : Array Value} {below : List Frame} {meth : Method} {c : Code} {Q : State → Prop} (S : CallFix p m c cX6_squares 7 s args wsX6_squares RX6) (E : xG) (hK : xK E s) (uq : Nat → Nat) (mo : Mo) (hP : va_P (xD E) vwCl (wM E uq mo) s.heap) : ∀ (n : Nat) (u : Int64 × Int32) (r : Int64 × Int32), lp (gX6_squares_4 mo) n u = some r → ∀ (ls : Array Slot), lv_has ls 7 [(0, .ref (uq 0)), (1, .long u.1), (3, .int u.2)] → (∀ (ls : Array Slot), lv_has ls 7 [(0, .ref (uq 0)), (1, .long r.1), (3, .int r.2)] → W p l e rmX6_squares s m args below meth c s.heap [] 0 0 Q (F0 m 63 ls [])) → W p l e rmX6_squares s m args below meth c s.heap [] 0 0 Q (F0 m 4 ls []) := by
  obtain ⟨hx, hb, hml, hown, hts⟩ := id S
  intro n
  induction n with
  | zero =>
    intro u r hf
    exact absurd (show (none : Option _) = some r from hf) (fun q => by cases q)
  | succ n ih =>
    intro u r hf ls hl kx
    have hf : gX6_squares_4 mo (lp (gX6_squares_4 mo) n) u = some r := hf
    unfold gX6_squares_4 at hf
    refine lv_iload_n hx hb dX6_squares_4 rfl (lv_at hl 2 rfl) ?_
    refine lv_bipush (v := 9) hx hb dX6_squares_5 (by decide) ?_
    refine lv_icmp_ge (tgt := 63) hx hb dX6_squares_7 (by decide) (fun c1 => ?_) (fun c1 => ?_)
    · have hf := (if_pos c1).symm.trans hf
      obtain rfl := Option.some.inj hf
      exact kx ls (lv_sub hl [0, 1, 2] rfl)
    · have hf := (if_neg c1).symm.trans hf
      refine lv_aload_n hx hb dX6_squares_10 rfl (lv_at hl 0 rfl) ?_
      refine lv_iload_n hx hb dX6_squares_11 rfl (lv_at hl 2 rfl) ?_
      refine lv_iconst (v := 3) hx hb dX6_squares_12 (by decide) ?_
      refine lv_idiv hx hb dX6_squares_13 (by decide) ?_
      refine lv_iconst (v := 3) hx hb dX6_squares_14 (by decide) ?_
      refine lv_iload_n hx hb dX6_squares_15 rfl (lv_at hl 2 rfl) ?_
      refine lv_iconst (v := 3) hx hb dX6_squares_16 (by decide) ?_
      refine lv_irem hx hb dX6_squares_17 (by decide) ?_
      refine lv_iadd hx hb dX6_squares_18 ?_
      obtain ⟨v2, h2, hf⟩ := ob hf
      refine x_pV (As := [.int (u.2 / (3 : Int32)), .int ((3 : Int32) + (u.2 - u.2 / (3 : Int32) * (3 : Int32)))]) (rest := []) S hK (kX6_joins l E uq mo (u.2 / (3 : Int32)) ((3 : Int32) + (u.2 - u.2 / (3 : Int32) * (3 : Int32))) h2) (cwV 2 hts gX6_squares_X6_joins rfl rfl rfl (by decide +kernel) ⟨Nat.le_of_ble_eq_true rfl, Nat.le_of_ble_eq_true rfl⟩) hP 0 rfl rfl rfl rfl hl.1 (Nat.le_of_ble_eq_true rfl) dX6_squares_19 rfl ⟨Nat.zero_le _, Nat.zero_le _⟩ ?_
      refine lv_istore (lv' := [(4, .int v2), (0, .ref (uq 0)), (1, .long u.1), (3, .int u.2)]) hx hb dX6_squares_22 hl (by decide) rfl (fun ls hl => ?_)
      refine lv_iload hx hb dX6_squares_24 (lv_at hl 0 rfl) ?_
      obtain ⟨v3, h3, hf⟩ := ob hf
      refine x_cutL (fun ls => lv_has ls 7 [(0, .ref (uq 0)), (1, .long u.1), (3, .int u.2), (4, .int v2)]) (pc := 43) (st := [.long v3]) (fun ls hl => ?_) (fun hj => ?_)
      · refine lv_lstore (lv' := [(5, .long v3), (0, .ref (uq 0)), (1, .long u.1), (3, .int u.2), (4, .int v2)]) hx hb dX6_squares_43 hl (by decide) rfl (fun ls hl => ?_)
        refine lv_lload_n hx hb dX6_squares_45 rfl (lv_at hl 2 rfl) ?_
        refine lv_iload hx hb dX6_squares_46 (lv_at hl 4 rfl) ?_
        refine lv_i2l (v := (Int32.toInt64 v2)) hx hb dX6_squares_48 rfl ?_
        refine lv_lload hx hb dX6_squares_49 (lv_at hl 0 rfl) ?_
        refine lv_lmul hx hb dX6_squares_51 ?_
        refine lv_lload hx hb dX6_squares_52 (lv_at hl 0 rfl) ?_
        refine lv_lmul hx hb dX6_squares_54 ?_
        refine lv_ladd hx hb dX6_squares_55 ?_
        refine lv_lstore_n (lv' := [(1, .long (u.1 + (((Int32.toInt64 v2) * v3) * v3))), (5, .long v3), (0, .ref (uq 0)), (3, .int u.2), (4, .int v2)]) hx hb dX6_squares_56 rfl hl (by decide) rfl (fun ls hl => ?_)
        refine lv_iinc (v := (u.2 + (1 : Int32))) (lv' := [(3, .int (u.2 + (1 : Int32))), (1, .long (u.1 + (((Int32.toInt64 v2) * v3) * v3))), (5, .long v3), (0, .ref (uq 0)), (4, .int v2)]) hx hb dX6_squares_57 hl (k := 3) rfl rfl (by decide) rfl (fun ls hl => ?_)
        refine lv_goto (tgt := 4) hx hb dX6_squares_60 (by decide) ?_
        exact ih ((u.1 + (((Int32.toInt64 v2) * v3) * v3)), (u.2 + (1 : Int32))) _ hf ls (lv_sub hl [3, 1, 0] rfl) kx
      · have hf := h3
        refine lv_if_le (tgt := 42) hx hb dX6_squares_26 (by decide) (fun c4 => ?_) (fun c4 => ?_)
        · have hf := (if_pos c4).symm.trans hf
          refine lv_lconst (v := 0) hx hb dX6_squares_42 (by decide) ?_
          obtain rfl := Option.some.inj hf
          exact hj ls (lv_sub hl [1, 2, 3, 0] rfl)
        · have hf := (if_neg c4).symm.trans hf
          refine lv_aload_n hx hb dX6_squares_29 rfl (lv_at hl 1 rfl) ?_
          refine lv_iload_n hx hb dX6_squares_30 rfl (lv_at hl 3 rfl) ?_
          refine lv_iconst (v := 3) hx hb dX6_squares_31 (by decide) ?_
          refine lv_idiv hx hb dX6_squares_32 (by decide) ?_
          refine lv_iload_n hx hb dX6_squares_33 rfl (lv_at hl 3 rfl) ?_
          refine lv_iconst (v := 3) hx hb dX6_squares_34 (by decide) ?_
          refine lv_irem hx hb dX6_squares_35 (by decide) ?_
          obtain ⟨v5, h5, hf⟩ := ob hf
          refine x_pV (As := [.int (u.2 / (3 : Int32)), .int (u.2 - u.2 / (3 : Int32) * (3 : Int32))]) (rest := []) S hK (kX6_overOf l E uq mo (u.2 / (3 : Int32)) (u.2 - u.2 / (3 : Int32) * (3 : Int32)) h5) (cwV 2 hts gX6_squares_X6_overOf rfl rfl rfl (by decide +kernel) ⟨Nat.le_of_ble_eq_true rfl, Nat.le_of_ble_eq_true rfl⟩) hP 0 rfl rfl rfl rfl hl.1 (Nat.le_of_ble_eq_true rfl) dX6_squares_36 rfl ⟨Nat.zero_le _, Nat.zero_le _⟩ ?_
          refine lv_goto (tgt := 43) hx hb dX6_squares_39 (by decide) ?_
          obtain rfl := Option.some.inj hf
          exact hj ls (lv_sub hl [1, 2, 3, 0] rfl)
def fX6_squares (mo : Mo) : Option Int64 :=
  (lp (gX6_squares_4 mo) 1000 ((0 : Int64), (0 : Int32))).bind fun v1 =>
  some v1.1
set_option maxHeartbeats 4000000 in
set_option maxRecDepth 100000 in
theorem kX6_squares (l : Launch) (E : xG) (uq : Nat → Nat) (mo : Mo) {r : Int64} (hf : fX6_squares mo = some r) : xPure l yX6_squares wsX6_squares rmX6_squares E [.ref (uq 0)] (wM E uq mo) (.long r) := by
  refine Met.ofW (cc := cX6_squares) (maxL := 7) (ret := (some .long)) (by decide) rfl ?_
  intro p e s m args below meth c s₁ B hml hv
  obtain ⟨rfl, hP, hK⟩ := hv
  have hx := B.exec
  have hb := B.bytes
  have hr := B.returns
  have hts := atoms_spec (ws := wsX6_squares) B.pre
  have hown : s.vm.findClass RX6 = some m.cls := findClass_of_methodNamed B.named
  have hlk := B.notSynchronized
  have S : CallFix p m c cX6_squares 7 s _ wsX6_squares RX6 := ⟨hx, hb, hml, hown, hts⟩
  have hl := lv_entry ([.ref (uq 0)]) (n := 7) (Nat.le_of_ble_eq_true rfl)
  rw [lg_entry_eq]
  generalize (lg_sl ([.ref (uq 0)]) ++ List.replicate (7 - (lg_sl ([.ref (uq 0)])).length) Slot.unset).toArray = ls at hl ⊢
  have hl : lv_has ls 7 [(0, .ref (uq 0))] := hl
  unfold fX6_squares at hf
  refine lv_lconst (v := 0) hx hb dX6_squares_0 (by decide) ?_
  refine lv_lstore_n (lv' := [(1, .long (0 : Int64)), (0, .ref (uq 0))]) hx hb dX6_squares_1 rfl hl (by decide) rfl (fun ls hl => ?_)
  refine lv_iconst (v := 0) hx hb dX6_squares_2 (by decide) ?_
  refine lv_istore_n (lv' := [(3, .int (0 : Int32)), (1, .long (0 : Int64)), (0, .ref (uq 0))]) hx hb dX6_squares_3 rfl hl (by decide) rfl (fun ls hl => ?_)
  obtain ⟨v1, h1, hf⟩ := ob hf
  refine wX6_squares_4 S E hK uq mo hP 1000 _ _ h1 ls (lv_sub hl [2, 1, 0] rfl) (fun ls hl => ?_)
  refine lv_lload_n hx hb dX6_squares_63 rfl (lv_at hl 1 rfl) ?_
  obtain rfl := Option.some.inj hf
  exact x_lret hx hb hr hlk dX6_squares_64
abbrev rmX6_worst : Room := { frames := 4, cells := 0, slots := 0, locals := 91 }
theorem mX6_worst_0 : Cond.constantLong RX6 123 (-1) ∈ wsX6_worst := by decide +kernel
def gX6_worst_9 (mo : Mo) (rec : (Int32 × Int64 × Int32) → Option (Int32 × Int64 × Int32)) (u : Int32 × Int64 × Int32) : Option (Int32 × Int64 × Int32) :=
  (if (9 : Int32) ≤ u.2.2 then
  some (u.1, u.2.1, u.2.2)
  else (fX6_joins mo (u.2.2 / (3 : Int32)) ((3 : Int32) + (u.2.2 - u.2.2 / (3 : Int32) * (3 : Int32)))).bind fun v2 =>
  ((if (if v2 ≤ (0 : Int32) then (0 : Int32) else (1 : Int32)) = (0 : Int32) then
  some (-1 : Int64)
  else (fX6_overOf mo (u.2.2 / (3 : Int32)) (u.2.2 - u.2.2 / (3 : Int32) * (3 : Int32))).bind fun v6 =>
  some v6)).bind fun v4 =>
  rec ((if (if (if v2 ≤ (0 : Int32) then (0 : Int32) else (1 : Int32)) = (0 : Int32) then v4 else (if (0 : Int64) ≤ v4 then v4 else (-v4))) ≤ u.2.1 then u.1 else (((10 : Int32) * (u.2.2 / (3 : Int32))) + (u.2.2 - u.2.2 / (3 : Int32) * (3 : Int32)))), (if (if (if v2 ≤ (0 : Int32) then (0 : Int32) else (1 : Int32)) = (0 : Int32) then v4 else (if (0 : Int64) ≤ v4 then v4 else (-v4))) ≤ u.2.1 then u.2.1 else (if (if v2 ≤ (0 : Int32) then (0 : Int32) else (1 : Int32)) = (0 : Int32) then v4 else (if (0 : Int64) ≤ v4 then v4 else (-v4)))), (u.2.2 + (1 : Int32))))
set_option maxHeartbeats 4000000 in
set_option maxRecDepth 100000 in
theorem wX6_worst_9 {p : Program} {l : Launch} {e : Env} {s : State} {m : MethodId} {args : Array Value} {below : List Frame} {meth : Method} {c : Code} {Q : State → Prop} (S : CallFix p m c cX6_worst 8 s args wsX6_worst RX6) (E : xG) (hK : xK E s) (uq : Nat → Nat) (mo : Mo) (hP : va_P (xD E) vwCl (wM E uq mo) s.heap) : ∀ (n : Nat) (u : Int32 × Int64 × Int32) (r : Int32 × Int64 × Int32), lp (gX6_worst_9 mo) n u = some r → ∀ (ls : Array Slot), lv_has ls 8 [(0, .ref (uq 0)), (1, .int u.1), (2, .long u.2.1), (4, .int u.2.2)] → (∀ (ls : Array Slot), lv_has ls 8 [(0, .ref (uq 0)), (1, .int r.1), (2, .long r.2.1), (4, .int r.2.2)] → W p l e rmX6_worst s m args below meth c s.heap [] 0 0 Q (F0 m 131 ls [])) → W p l e rmX6_worst s m args below meth c s.heap [] 0 0 Q (F0 m 9 ls []) := by
  obtain ⟨hx, hb, hml, hown, hts⟩ := id S
  intro n
  induction n with
  | zero =>
    intro u r hf
    exact absurd (show (none : Option _) = some r from hf) (fun q => by cases q)
  | succ n ih =>
    intro u r hf ls hl kx
    have hf : gX6_worst_9 mo (lp (gX6_worst_9 mo) n) u = some r := hf
    unfold gX6_worst_9 at hf
    refine lv_iload hx hb dX6_worst_9 (lv_at hl 3 rfl) ?_
    refine lv_bipush (v := 9) hx hb dX6_worst_11 (by decide) ?_
    refine lv_icmp_ge (tgt := 131) hx hb dX6_worst_13 (by decide) (fun c1 => ?_) (fun c1 => ?_)
    · have hf := (if_pos c1).symm.trans hf
      obtain rfl := Option.some.inj hf
      exact kx ls (lv_sub hl [0, 1, 2, 3] rfl)
    · have hf := (if_neg c1).symm.trans hf
      refine lv_aload_n hx hb dX6_worst_16 rfl (lv_at hl 0 rfl) ?_
      refine lv_iload hx hb dX6_worst_17 (lv_at hl 3 rfl) ?_
      refine lv_iconst (v := 3) hx hb dX6_worst_19 (by decide) ?_
      refine lv_idiv hx hb dX6_worst_20 (by decide) ?_
      refine lv_iconst (v := 3) hx hb dX6_worst_21 (by decide) ?_
      refine lv_iload hx hb dX6_worst_22 (lv_at hl 3 rfl) ?_
      refine lv_iconst (v := 3) hx hb dX6_worst_24 (by decide) ?_
      refine lv_irem hx hb dX6_worst_25 (by decide) ?_
      refine lv_iadd hx hb dX6_worst_26 ?_
      obtain ⟨v2, h2, hf⟩ := ob hf
      refine x_pV (As := [.int (u.2.2 / (3 : Int32)), .int ((3 : Int32) + (u.2.2 - u.2.2 / (3 : Int32) * (3 : Int32)))]) (rest := []) S hK (kX6_joins l E uq mo (u.2.2 / (3 : Int32)) ((3 : Int32) + (u.2.2 - u.2.2 / (3 : Int32) * (3 : Int32))) h2) (cwV 2 hts gX6_worst_X6_joins rfl rfl rfl (by decide +kernel) ⟨Nat.le_of_ble_eq_true rfl, Nat.le_of_ble_eq_true rfl⟩) hP 0 rfl rfl rfl rfl hl.1 (Nat.le_of_ble_eq_true rfl) dX6_worst_27 rfl ⟨Nat.zero_le _, Nat.zero_le _⟩ ?_
      refine x_cut (pc := 38) (ls := ls) (st := [.int (if v2 ≤ (0 : Int32) then (0 : Int32) else (1 : Int32))]) ?_ (fun hj => ?_)
      · refine lv_istore (lv' := [(5, .int (if v2 ≤ (0 : Int32) then (0 : Int32) else (1 : Int32))), (0, .ref (uq 0)), (1, .int u.1), (2, .long u.2.1), (4, .int u.2.2)]) hx hb dX6_worst_38 hl (by decide) rfl (fun ls hl => ?_)
        refine lv_iload hx hb dX6_worst_40 (lv_at hl 0 rfl) ?_
        obtain ⟨v4, h4, hf⟩ := ob hf
        refine x_cutL (fun ls => lv_has ls 8 [(0, .ref (uq 0)), (1, .int u.1), (2, .long u.2.1), (4, .int u.2.2), (5, .int (if v2 ≤ (0 : Int32) then (0 : Int32) else (1 : Int32)))]) (pc := 63) (st := [.long v4]) (fun ls hl => ?_) (fun hj => ?_)
        · refine lv_lstore (lv' := [(6, .long v4), (0, .ref (uq 0)), (1, .int u.1), (2, .long u.2.1), (4, .int u.2.2), (5, .int (if v2 ≤ (0 : Int32) then (0 : Int32) else (1 : Int32)))]) hx hb dX6_worst_63 hl (by decide) rfl (fun ls hl => ?_)
          refine lv_iload hx hb dX6_worst_65 (lv_at hl 5 rfl) ?_
          refine x_cut (pc := 85) (ls := ls) (st := [.long (if (if v2 ≤ (0 : Int32) then (0 : Int32) else (1 : Int32)) = (0 : Int32) then v4 else (if (0 : Int64) ≤ v4 then v4 else (-v4)))]) ?_ (fun hj => ?_)
          · refine lv_lstore (lv' := [(6, .long (if (if v2 ≤ (0 : Int32) then (0 : Int32) else (1 : Int32)) = (0 : Int32) then v4 else (if (0 : Int64) ≤ v4 then v4 else (-v4)))), (0, .ref (uq 0)), (1, .int u.1), (2, .long u.2.1), (4, .int u.2.2), (5, .int (if v2 ≤ (0 : Int32) then (0 : Int32) else (1 : Int32)))]) hx hb dX6_worst_85 hl (by decide) rfl (fun ls hl => ?_)
            refine lv_lload hx hb dX6_worst_87 (lv_at hl 0 rfl) ?_
            refine lv_lload_n hx hb dX6_worst_89 rfl (lv_at hl 3 rfl) ?_
            refine x_cut (pc := 110) (ls := ls) (st := [.int (if (if (if v2 ≤ (0 : Int32) then (0 : Int32) else (1 : Int32)) = (0 : Int32) then v4 else (if (0 : Int64) ≤ v4 then v4 else (-v4))) ≤ u.2.1 then u.1 else (((10 : Int32) * (u.2.2 / (3 : Int32))) + (u.2.2 - u.2.2 / (3 : Int32) * (3 : Int32))))]) ?_ (fun hj => ?_)
            · refine lv_istore_n (lv' := [(1, .int (if (if (if v2 ≤ (0 : Int32) then (0 : Int32) else (1 : Int32)) = (0 : Int32) then v4 else (if (0 : Int64) ≤ v4 then v4 else (-v4))) ≤ u.2.1 then u.1 else (((10 : Int32) * (u.2.2 / (3 : Int32))) + (u.2.2 - u.2.2 / (3 : Int32) * (3 : Int32))))), (6, .long (if (if v2 ≤ (0 : Int32) then (0 : Int32) else (1 : Int32)) = (0 : Int32) then v4 else (if (0 : Int64) ≤ v4 then v4 else (-v4)))), (0, .ref (uq 0)), (2, .long u.2.1), (4, .int u.2.2), (5, .int (if v2 ≤ (0 : Int32) then (0 : Int32) else (1 : Int32)))]) hx hb dX6_worst_110 rfl hl (by decide) rfl (fun ls hl => ?_)
              refine lv_lload hx hb dX6_worst_111 (lv_at hl 1 rfl) ?_
              refine lv_lload_n hx hb dX6_worst_113 rfl (lv_at hl 3 rfl) ?_
              refine x_cut (pc := 124) (ls := ls) (st := [.long (if (if (if v2 ≤ (0 : Int32) then (0 : Int32) else (1 : Int32)) = (0 : Int32) then v4 else (if (0 : Int64) ≤ v4 then v4 else (-v4))) ≤ u.2.1 then u.2.1 else (if (if v2 ≤ (0 : Int32) then (0 : Int32) else (1 : Int32)) = (0 : Int32) then v4 else (if (0 : Int64) ≤ v4 then v4 else (-v4))))]) ?_ (fun hj => ?_)
              · refine lv_lstore_n (lv' := [(2, .long (if (if (if v2 ≤ (0 : Int32) then (0 : Int32) else (1 : Int32)) = (0 : Int32) then v4 else (if (0 : Int64) ≤ v4 then v4 else (-v4))) ≤ u.2.1 then u.2.1 else (if (if v2 ≤ (0 : Int32) then (0 : Int32) else (1 : Int32)) = (0 : Int32) then v4 else (if (0 : Int64) ≤ v4 then v4 else (-v4))))), (1, .int (if (if (if v2 ≤ (0 : Int32) then (0 : Int32) else (1 : Int32)) = (0 : Int32) then v4 else (if (0 : Int64) ≤ v4 then v4 else (-v4))) ≤ u.2.1 then u.1 else (((10 : Int32) * (u.2.2 / (3 : Int32))) + (u.2.2 - u.2.2 / (3 : Int32) * (3 : Int32))))), (6, .long (if (if v2 ≤ (0 : Int32) then (0 : Int32) else (1 : Int32)) = (0 : Int32) then v4 else (if (0 : Int64) ≤ v4 then v4 else (-v4)))), (0, .ref (uq 0)), (4, .int u.2.2), (5, .int (if v2 ≤ (0 : Int32) then (0 : Int32) else (1 : Int32)))]) hx hb dX6_worst_124 rfl hl (by decide) rfl (fun ls hl => ?_)
                refine lv_iinc (v := (u.2.2 + (1 : Int32))) (lv' := [(4, .int (u.2.2 + (1 : Int32))), (2, .long (if (if (if v2 ≤ (0 : Int32) then (0 : Int32) else (1 : Int32)) = (0 : Int32) then v4 else (if (0 : Int64) ≤ v4 then v4 else (-v4))) ≤ u.2.1 then u.2.1 else (if (if v2 ≤ (0 : Int32) then (0 : Int32) else (1 : Int32)) = (0 : Int32) then v4 else (if (0 : Int64) ≤ v4 then v4 else (-v4))))), (1, .int (if (if (if v2 ≤ (0 : Int32) then (0 : Int32) else (1 : Int32)) = (0 : Int32) then v4 else (if (0 : Int64) ≤ v4 then v4 else (-v4))) ≤ u.2.1 then u.1 else (((10 : Int32) * (u.2.2 / (3 : Int32))) + (u.2.2 - u.2.2 / (3 : Int32) * (3 : Int32))))), (6, .long (if (if v2 ≤ (0 : Int32) then (0 : Int32) else (1 : Int32)) = (0 : Int32) then v4 else (if (0 : Int64) ≤ v4 then v4 else (-v4)))), (0, .ref (uq 0)), (5, .int (if v2 ≤ (0 : Int32) then (0 : Int32) else (1 : Int32)))]) hx hb dX6_worst_125 hl (k := 4) rfl rfl (by decide) rfl (fun ls hl => ?_)
                refine lv_goto (tgt := 9) hx hb dX6_worst_128 (by decide) ?_
                exact ih ((if (if (if v2 ≤ (0 : Int32) then (0 : Int32) else (1 : Int32)) = (0 : Int32) then v4 else (if (0 : Int64) ≤ v4 then v4 else (-v4))) ≤ u.2.1 then u.1 else (((10 : Int32) * (u.2.2 / (3 : Int32))) + (u.2.2 - u.2.2 / (3 : Int32) * (3 : Int32)))), (if (if (if v2 ≤ (0 : Int32) then (0 : Int32) else (1 : Int32)) = (0 : Int32) then v4 else (if (0 : Int64) ≤ v4 then v4 else (-v4))) ≤ u.2.1 then u.2.1 else (if (if v2 ≤ (0 : Int32) then (0 : Int32) else (1 : Int32)) = (0 : Int32) then v4 else (if (0 : Int64) ≤ v4 then v4 else (-v4)))), (u.2.2 + (1 : Int32))) _ hf ls (lv_sub hl [4, 2, 1, 0] rfl) kx
              · refine x_lif_le (tgt := 123) hx hb dX6_worst_114 dX6_worst_115 (by decide) (fun c10 => ?_) (fun c10 => ?_)
                · refine lv_lload_n hx hb dX6_worst_123 rfl (lv_at hl 3 rfl) ?_
                  exact (by rw [if_pos c10] at hj; exact hj)
                · refine lv_lload hx hb dX6_worst_118 (lv_at hl 1 rfl) ?_
                  refine lv_goto (tgt := 124) hx hb dX6_worst_120 (by decide) ?_
                  exact (by rw [if_neg c10] at hj; exact hj)
            · refine x_lif_le (tgt := 109) hx hb dX6_worst_90 dX6_worst_91 (by decide) (fun c9 => ?_) (fun c9 => ?_)
              · refine lv_iload_n hx hb dX6_worst_109 rfl (lv_at hl 2 rfl) ?_
                exact (by rw [if_pos c9] at hj; exact hj)
              · refine lv_bipush (v := 10) hx hb dX6_worst_94 (by decide) ?_
                refine lv_iload hx hb dX6_worst_96 (lv_at hl 4 rfl) ?_
                refine lv_iconst (v := 3) hx hb dX6_worst_98 (by decide) ?_
                refine lv_idiv hx hb dX6_worst_99 (by decide) ?_
                refine lv_imul hx hb dX6_worst_100 ?_
                refine lv_iload hx hb dX6_worst_101 (lv_at hl 4 rfl) ?_
                refine lv_iconst (v := 3) hx hb dX6_worst_103 (by decide) ?_
                refine lv_irem hx hb dX6_worst_104 (by decide) ?_
                refine lv_iadd hx hb dX6_worst_105 ?_
                refine lv_goto (tgt := 110) hx hb dX6_worst_106 (by decide) ?_
                exact (by rw [if_neg c9] at hj; exact hj)
          · refine lv_if_eq (tgt := 83) hx hb dX6_worst_67 (by decide) (fun c7 => ?_) (fun c7 => ?_)
            · refine lv_lload hx hb dX6_worst_83 (lv_at hl 0 rfl) ?_
              exact (by rw [if_pos c7] at hj; exact hj)
            · refine lv_lload hx hb dX6_worst_70 (lv_at hl 0 rfl) ?_
              refine lv_lconst (v := 0) hx hb dX6_worst_72 (by decide) ?_
              refine x_lif_ge (tgt := 83) hx hb dX6_worst_73 dX6_worst_74 (by decide) (fun c8 => ?_) (fun c8 => ?_)
              · refine lv_lload hx hb dX6_worst_83 (lv_at hl 0 rfl) ?_
                exact (by rw [if_neg c7, if_pos c8] at hj; exact hj)
              · refine lv_lload hx hb dX6_worst_77 (lv_at hl 0 rfl) ?_
                refine lv_lneg hx hb dX6_worst_79 ?_
                refine lv_goto (tgt := 85) hx hb dX6_worst_80 (by decide) ?_
                exact (by rw [if_neg c7, if_neg c8] at hj; exact hj)
        · have hf := h4
          refine lv_if_eq (tgt := 60) hx hb dX6_worst_42 (by decide) (fun c5 => ?_) (fun c5 => ?_)
          · have hf := (if_pos c5).symm.trans hf
            refine lv_ldc2 hx hb hown (hts _ mX6_worst_0) dX6_worst_60 ?_
            obtain rfl := Option.some.inj hf
            exact hj ls (lv_sub hl [1, 2, 3, 4, 0] rfl)
          · have hf := (if_neg c5).symm.trans hf
            refine lv_aload_n hx hb dX6_worst_45 rfl (lv_at hl 1 rfl) ?_
            refine lv_iload hx hb dX6_worst_46 (lv_at hl 4 rfl) ?_
            refine lv_iconst (v := 3) hx hb dX6_worst_48 (by decide) ?_
            refine lv_idiv hx hb dX6_worst_49 (by decide) ?_
            refine lv_iload hx hb dX6_worst_50 (lv_at hl 4 rfl) ?_
            refine lv_iconst (v := 3) hx hb dX6_worst_52 (by decide) ?_
            refine lv_irem hx hb dX6_worst_53 (by decide) ?_
            obtain ⟨v6, h6, hf⟩ := ob hf
            refine x_pV (As := [.int (u.2.2 / (3 : Int32)), .int (u.2.2 - u.2.2 / (3 : Int32) * (3 : Int32))]) (rest := []) S hK (kX6_overOf l E uq mo (u.2.2 / (3 : Int32)) (u.2.2 - u.2.2 / (3 : Int32) * (3 : Int32)) h6) (cwV 2 hts gX6_worst_X6_overOf rfl rfl rfl (by decide +kernel) ⟨Nat.le_of_ble_eq_true rfl, Nat.le_of_ble_eq_true rfl⟩) hP 0 rfl rfl rfl rfl hl.1 (Nat.le_of_ble_eq_true rfl) dX6_worst_54 rfl ⟨Nat.zero_le _, Nat.zero_le _⟩ ?_
            refine lv_goto (tgt := 63) hx hb dX6_worst_57 (by decide) ?_
            obtain rfl := Option.some.inj hf
            exact hj ls (lv_sub hl [1, 2, 3, 4, 0] rfl)
      · refine lv_if_le (tgt := 37) hx hb dX6_worst_30 (by decide) (fun c3 => ?_) (fun c3 => ?_)
        · refine lv_iconst (v := 0) hx hb dX6_worst_37 (by decide) ?_
          exact (by rw [if_pos c3] at hj; exact hj)
        · refine lv_iconst (v := 1) hx hb dX6_worst_33 (by decide) ?_
          refine lv_goto (tgt := 38) hx hb dX6_worst_34 (by decide) ?_
          exact (by rw [if_neg c3] at hj; exact hj)
def fX6_worst (mo : Mo) : Option Int32 :=
  (lp (gX6_worst_9 mo) 1000 ((-1 : Int32), (-1 : Int64), (0 : Int32))).bind fun v1 =>
  some v1.1
set_option maxHeartbeats 4000000 in
set_option maxRecDepth 100000 in
theorem kX6_worst (l : Launch) (E : xG) (uq : Nat → Nat) (mo : Mo) {r : Int32} (hf : fX6_worst mo = some r) : xPure l yX6_worst wsX6_worst rmX6_worst E [.ref (uq 0)] (wM E uq mo) (.int r) := by
  refine Met.ofW (cc := cX6_worst) (maxL := 8) (ret := (some .int)) (by decide) rfl ?_
  intro p e s m args below meth c s₁ B hml hv
  obtain ⟨rfl, hP, hK⟩ := hv
  have hx := B.exec
  have hb := B.bytes
  have hr := B.returns
  have hts := atoms_spec (ws := wsX6_worst) B.pre
  have hown : s.vm.findClass RX6 = some m.cls := findClass_of_methodNamed B.named
  have hlk := B.notSynchronized
  have S : CallFix p m c cX6_worst 8 s _ wsX6_worst RX6 := ⟨hx, hb, hml, hown, hts⟩
  have hl := lv_entry ([.ref (uq 0)]) (n := 8) (Nat.le_of_ble_eq_true rfl)
  rw [lg_entry_eq]
  generalize (lg_sl ([.ref (uq 0)]) ++ List.replicate (8 - (lg_sl ([.ref (uq 0)])).length) Slot.unset).toArray = ls at hl ⊢
  have hl : lv_has ls 8 [(0, .ref (uq 0))] := hl
  unfold fX6_worst at hf
  refine lv_iconst (v := (-1)) hx hb dX6_worst_0 (by decide) ?_
  refine lv_istore_n (lv' := [(1, .int (-1 : Int32)), (0, .ref (uq 0))]) hx hb dX6_worst_1 rfl hl (by decide) rfl (fun ls hl => ?_)
  refine lv_ldc2 hx hb hown (hts _ mX6_worst_0) dX6_worst_2 ?_
  refine lv_lstore_n (lv' := [(2, .long (-1 : Int64)), (1, .int (-1 : Int32)), (0, .ref (uq 0))]) hx hb dX6_worst_5 rfl hl (by decide) rfl (fun ls hl => ?_)
  refine lv_iconst (v := 0) hx hb dX6_worst_6 (by decide) ?_
  refine lv_istore (lv' := [(4, .int (0 : Int32)), (2, .long (-1 : Int64)), (1, .int (-1 : Int32)), (0, .ref (uq 0))]) hx hb dX6_worst_7 hl (by decide) rfl (fun ls hl => ?_)
  obtain ⟨v1, h1, hf⟩ := ob hf
  refine wX6_worst_9 S E hK uq mo hP 1000 _ _ h1 ls (lv_sub hl [3, 2, 1, 0] rfl) (fun ls hl => ?_)
  refine lv_iload_n hx hb dX6_worst_131 rfl (lv_at hl 1 rfl) ?_
  obtain rfl := Option.some.inj hf
  exact x_iret hx hb hr hlk (vp_nar_int _) dX6_worst_132
abbrev rmX6_weighted : Room := { frames := 2, cells := 0, slots := 0, locals := 44 }
def gX6_weighted_4 (mo : Mo) (rec : (Int32 × Int32) → Option (Int32 × Int32)) (u : Int32 × Int32) : Option (Int32 × Int32) :=
  (if (9 : Int32) ≤ u.2 then
  some (u.1, u.2)
  else (fX6_joins mo (u.2 / (3 : Int32)) ((3 : Int32) + (u.2 - u.2 / (3 : Int32) * (3 : Int32)))).bind fun v2 =>
  rec ((u.1 + (if v2 ≤ (0 : Int32) then (0 : Int32) else (1 : Int32))), (u.2 + (1 : Int32))))
set_option maxHeartbeats 4000000 in
set_option maxRecDepth 100000 in
theorem wX6_weighted_4 {p : Program} {l : Launch} {e : Env} {s : State} {m : MethodId} {args : Array Value} {below : List Frame} {meth : Method} {c : Code} {Q : State → Prop} (S : CallFix p m c cX6_weighted 3 s args wsX6_weighted RX6) (E : xG) (hK : xK E s) (uq : Nat → Nat) (mo : Mo) (hP : va_P (xD E) vwCl (wM E uq mo) s.heap) : ∀ (n : Nat) (u : Int32 × Int32) (r : Int32 × Int32), lp (gX6_weighted_4 mo) n u = some r → ∀ (ls : Array Slot), lv_has ls 3 [(0, .ref (uq 0)), (1, .int u.1), (2, .int u.2)] → (∀ (ls : Array Slot), lv_has ls 3 [(0, .ref (uq 0)), (1, .int r.1), (2, .int r.2)] → W p l e rmX6_weighted s m args below meth c s.heap [] 0 0 Q (F0 m 39 ls [])) → W p l e rmX6_weighted s m args below meth c s.heap [] 0 0 Q (F0 m 4 ls []) := by
  obtain ⟨hx, hb, hml, hown, hts⟩ := id S
  intro n
  induction n with
  | zero =>
    intro u r hf
    exact absurd (show (none : Option _) = some r from hf) (fun q => by cases q)
  | succ n ih =>
    intro u r hf ls hl kx
    have hf : gX6_weighted_4 mo (lp (gX6_weighted_4 mo) n) u = some r := hf
    unfold gX6_weighted_4 at hf
    refine lv_iload_n hx hb dX6_weighted_4 rfl (lv_at hl 2 rfl) ?_
    refine lv_bipush (v := 9) hx hb dX6_weighted_5 (by decide) ?_
    refine lv_icmp_ge (tgt := 39) hx hb dX6_weighted_7 (by decide) (fun c1 => ?_) (fun c1 => ?_)
    · have hf := (if_pos c1).symm.trans hf
      obtain rfl := Option.some.inj hf
      exact kx ls (lv_sub hl [0, 1, 2] rfl)
    · have hf := (if_neg c1).symm.trans hf
      refine lv_iload_n hx hb dX6_weighted_10 rfl (lv_at hl 1 rfl) ?_
      refine lv_aload_n hx hb dX6_weighted_11 rfl (lv_at hl 0 rfl) ?_
      refine lv_iload_n hx hb dX6_weighted_12 rfl (lv_at hl 2 rfl) ?_
      refine lv_iconst (v := 3) hx hb dX6_weighted_13 (by decide) ?_
      refine lv_idiv hx hb dX6_weighted_14 (by decide) ?_
      refine lv_iconst (v := 3) hx hb dX6_weighted_15 (by decide) ?_
      refine lv_iload_n hx hb dX6_weighted_16 rfl (lv_at hl 2 rfl) ?_
      refine lv_iconst (v := 3) hx hb dX6_weighted_17 (by decide) ?_
      refine lv_irem hx hb dX6_weighted_18 (by decide) ?_
      refine lv_iadd hx hb dX6_weighted_19 ?_
      obtain ⟨v2, h2, hf⟩ := ob hf
      refine x_pV (As := [.int (u.2 / (3 : Int32)), .int ((3 : Int32) + (u.2 - u.2 / (3 : Int32) * (3 : Int32)))]) (rest := [.int u.1]) S hK (kX6_joins l E uq mo (u.2 / (3 : Int32)) ((3 : Int32) + (u.2 - u.2 / (3 : Int32) * (3 : Int32))) h2) (cwV 2 hts gX6_weighted_X6_joins rfl rfl rfl (by decide +kernel) ⟨Nat.le_of_ble_eq_true rfl, Nat.le_of_ble_eq_true rfl⟩) hP 0 rfl rfl rfl rfl hl.1 (Nat.le_of_ble_eq_true rfl) dX6_weighted_20 rfl ⟨Nat.zero_le _, Nat.zero_le _⟩ ?_
      refine x_cut (pc := 31) (ls := ls) (st := [.int (if v2 ≤ (0 : Int32) then (0 : Int32) else (1 : Int32)), .int u.1]) ?_ (fun hj => ?_)
      · refine lv_iadd hx hb dX6_weighted_31 ?_
        refine lv_istore_n (lv' := [(1, .int (u.1 + (if v2 ≤ (0 : Int32) then (0 : Int32) else (1 : Int32)))), (0, .ref (uq 0)), (2, .int u.2)]) hx hb dX6_weighted_32 rfl hl (by decide) rfl (fun ls hl => ?_)
        refine lv_iinc (v := (u.2 + (1 : Int32))) (lv' := [(2, .int (u.2 + (1 : Int32))), (1, .int (u.1 + (if v2 ≤ (0 : Int32) then (0 : Int32) else (1 : Int32)))), (0, .ref (uq 0))]) hx hb dX6_weighted_33 hl (k := 2) rfl rfl (by decide) rfl (fun ls hl => ?_)
        refine lv_goto (tgt := 4) hx hb dX6_weighted_36 (by decide) ?_
        exact ih ((u.1 + (if v2 ≤ (0 : Int32) then (0 : Int32) else (1 : Int32))), (u.2 + (1 : Int32))) _ hf ls (lv_sub hl [2, 1, 0] rfl) kx
      · refine lv_if_le (tgt := 30) hx hb dX6_weighted_23 (by decide) (fun c3 => ?_) (fun c3 => ?_)
        · refine lv_iconst (v := 0) hx hb dX6_weighted_30 (by decide) ?_
          exact (by rw [if_pos c3] at hj; exact hj)
        · refine lv_iconst (v := 1) hx hb dX6_weighted_26 (by decide) ?_
          refine lv_goto (tgt := 31) hx hb dX6_weighted_27 (by decide) ?_
          exact (by rw [if_neg c3] at hj; exact hj)
def fX6_weighted (mo : Mo) : Option Int32 :=
  (lp (gX6_weighted_4 mo) 1000 ((0 : Int32), (0 : Int32))).bind fun v1 =>
  some v1.1
set_option maxHeartbeats 4000000 in
set_option maxRecDepth 100000 in
theorem kX6_weighted (l : Launch) (E : xG) (uq : Nat → Nat) (mo : Mo) {r : Int32} (hf : fX6_weighted mo = some r) : xPure l yX6_weighted wsX6_weighted rmX6_weighted E [.ref (uq 0)] (wM E uq mo) (.int r) := by
  refine Met.ofW (cc := cX6_weighted) (maxL := 3) (ret := (some .int)) (by decide) rfl ?_
  intro p e s m args below meth c s₁ B hml hv
  obtain ⟨rfl, hP, hK⟩ := hv
  have hx := B.exec
  have hb := B.bytes
  have hr := B.returns
  have hts := atoms_spec (ws := wsX6_weighted) B.pre
  have hown : s.vm.findClass RX6 = some m.cls := findClass_of_methodNamed B.named
  have hlk := B.notSynchronized
  have S : CallFix p m c cX6_weighted 3 s _ wsX6_weighted RX6 := ⟨hx, hb, hml, hown, hts⟩
  have hl := lv_entry ([.ref (uq 0)]) (n := 3) (Nat.le_of_ble_eq_true rfl)
  rw [lg_entry_eq]
  generalize (lg_sl ([.ref (uq 0)]) ++ List.replicate (3 - (lg_sl ([.ref (uq 0)])).length) Slot.unset).toArray = ls at hl ⊢
  have hl : lv_has ls 3 [(0, .ref (uq 0))] := hl
  unfold fX6_weighted at hf
  refine lv_iconst (v := 0) hx hb dX6_weighted_0 (by decide) ?_
  refine lv_istore_n (lv' := [(1, .int (0 : Int32)), (0, .ref (uq 0))]) hx hb dX6_weighted_1 rfl hl (by decide) rfl (fun ls hl => ?_)
  refine lv_iconst (v := 0) hx hb dX6_weighted_2 (by decide) ?_
  refine lv_istore_n (lv' := [(2, .int (0 : Int32)), (1, .int (0 : Int32)), (0, .ref (uq 0))]) hx hb dX6_weighted_3 rfl hl (by decide) rfl (fun ls hl => ?_)
  obtain ⟨v1, h1, hf⟩ := ob hf
  refine wX6_weighted_4 S E hK uq mo hP 1000 _ _ h1 ls (lv_sub hl [2, 1, 0] rfl) (fun ls hl => ?_)
  refine lv_iload_n hx hb dX6_weighted_39 rfl (lv_at hl 1 rfl) ?_
  obtain rfl := Option.some.inj hf
  exact x_iret hx hb hr hlk (vp_nar_int _) dX6_weighted_40
