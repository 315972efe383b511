/-! ===== the environment: class numbers of the worlds' objects and of the arrays, the nest's links ===== -/
abbrev xG : Type := va_G × ClassId × ClassId × ClassId × ClassId × ClassId
abbrev xD (E : xG) : va_G := E.1
abbrev xI (E : xG) : ClassId := E.2.1
abbrev xJ (E : xG) : ClassId := E.2.2.1
abbrev xZ (E : xG) : ClassId := E.2.2.2.1
abbrev xFo (E : xG) : ClassId := E.2.2.2.2.1
abbrev xRo (E : xG) : ClassId := E.2.2.2.2.2
abbrev xT (E : xG) : List (ClassId × FieldType) := [(xI E, .int), (xJ E, .long), (xZ E, .boolean), (xFo E, .object RX1), (xRo E, .array .long)]
def xK (E : xG) (U : State) : Prop := va_K (xD E) vwCl (xT E) U ∧ va_Nw (.methodLinkNest RX1 41 yX5_within RX5) U ∧ va_Nw (.methodLinkNest RX2 70 yX5_aboveOf RX5) U ∧ va_Nw (.methodLinkNest RX2 78 yX5_belowOf RX5) U ∧ va_Nw (.methodLinkNest RX2 34 yX5_within RX5) U ∧ va_Nw (.methodLinkNest RX4 31 yX5_within RX5) U
theorem xK.warm {E : xG} {s U : State} (hW : s.WarmedH U.vm) (h : xK E s) : xK E U := ⟨va_K.moved hW.alike h.1, va_Nw.warmM hW h.2.1, va_Nw.warmM hW h.2.2.1, va_Nw.warmM hW h.2.2.2.1, va_Nw.warmM hW h.2.2.2.2.1, va_Nw.warmM hW h.2.2.2.2.2⟩
theorem xK.calling {E : xG} {U : State} {g : JFrame} {mk : MethodId} {a : Array Value} (h : xK E U) : xK E (U.calling g mk a) := ⟨va_K.moved (u := U) (U := U.calling g mk a) (Vm.Alike.refl U.vm) h.1, va_Nw.same rfl rfl h.2.1, va_Nw.same rfl rfl h.2.2.1, va_Nw.same rfl rfl h.2.2.2.1, va_Nw.same rfl rfl h.2.2.2.2.1, va_Nw.same rfl rfl h.2.2.2.2.2⟩
/-! ===== the pure language: what a read, a write, a division may refuse ===== -/
def rdI (f : Nat → Int32) (n : Nat) (i : Int32) : Option Int32 := if i < 0 ∨ n ≤ i.toNatClampNeg then none else some (f i.toNatClampNeg)
def rdJ (f : Nat → Int64) (n : Nat) (i : Int32) : Option Int64 := if i < 0 ∨ n ≤ i.toNatClampNeg then none else some (f i.toNatClampNeg)
def wrI (f : Nat → Int32) (n : Nat) (i : Int32) (x : Int32) : Option (Nat → Int32) := if i < 0 ∨ n ≤ i.toNatClampNeg then none else some (upd f i.toNatClampNeg x)
def wrZ (f : Nat → Int32) (n : Nat) (i : Int32) (x : Int32) : Option (Nat → Int32) := if i < 0 ∨ n ≤ i.toNatClampNeg then none else some (upd f i.toNatClampNeg (vp_nar .boolean x))
def wrJ (f : Nat → Int64) (n : Nat) (i : Int32) (x : Int64) : Option (Nat → Int64) := if i < 0 ∨ n ≤ i.toNatClampNeg then none else some (vp_updL f i.toNatClampNeg x)
def rdX (n : Nat) (i : Int32) : Option Nat := if i < 0 ∨ n ≤ i.toNatClampNeg then none else some i.toNatClampNeg
def dvJ (x y : Int64) : Option Int64 := if y = 0 then none else some (x / y)
def rmJ (x y : Int64) : Option Int64 := if y = 0 then none else some (x - x / y * y)
def lp {σ ρ : Type} (g : (σ → Option ρ) → σ → Option ρ) : Nat → σ → Option ρ
  | 0 => fun _ => none
  | n + 1 => g (lp g n)
theorem ob {α β : Type} {o : Option α} {k : α → Option β} {r : β} (h : o.bind k = some r) : ∃ a, o = some a ∧ k a = some r := by
  cases o with
  | none => cases h
  | some a => exact ⟨a, rfl, h⟩
theorem rdI_ok {f : Nat → Int32} {n : Nat} {i v : Int32} (h : rdI f n i = some v) : vp_in i n ∧ f i.toNatClampNeg = v := by
  unfold rdI at h
  split at h
  · cases h
  · exact ⟨‹_›, Option.some.inj h⟩
theorem rdJ_ok {f : Nat → Int64} {n : Nat} {i : Int32} {v : Int64} (h : rdJ f n i = some v) : vp_in i n ∧ f i.toNatClampNeg = v := by
  unfold rdJ at h
  split at h
  · cases h
  · exact ⟨‹_›, Option.some.inj h⟩
theorem rdX_ok {n : Nat} {i : Int32} {v : Nat} (h : rdX n i = some v) : vp_in i n ∧ i.toNatClampNeg = v := by
  unfold rdX at h
  split at h
  · cases h
  · exact ⟨‹_›, Option.some.inj h⟩
theorem wrI_ok {f f' : Nat → Int32} {n : Nat} {i v : Int32} (h : wrI f n i v = some f') : vp_in i n ∧ upd f i.toNatClampNeg v = f' := by
  unfold wrI at h
  split at h
  · cases h
  · exact ⟨‹_›, Option.some.inj h⟩
theorem wrZ_ok {f f' : Nat → Int32} {n : Nat} {i v : Int32} (h : wrZ f n i v = some f') : vp_in i n ∧ upd f i.toNatClampNeg (vp_nar .boolean v) = f' := by
  unfold wrZ at h
  split at h
  · cases h
  · exact ⟨‹_›, Option.some.inj h⟩
theorem wrJ_ok {f f' : Nat → Int64} {n : Nat} {i : Int32} {v : Int64} (h : wrJ f n i v = some f') : vp_in i n ∧ vp_updL f i.toNatClampNeg v = f' := by
  unfold wrJ at h
  split at h
  · cases h
  · exact ⟨‹_›, Option.some.inj h⟩
theorem dvJ_ok {x y v : Int64} (h : dvJ x y = some v) : ¬ y = 0 ∧ x / y = v := by
  unfold dvJ at h
  split at h
  · cases h
  · exact ⟨‹_›, Option.some.inj h⟩
theorem rmJ_ok {x y v : Int64} (h : rmJ x y = some v) : ¬ y = 0 ∧ x - x / y * y = v := by
  unfold rmJ at h
  split at h
  · cases h
  · exact ⟨‹_›, Option.some.inj h⟩
/-! ===== contracts: read-only (the heap is the same), and changing (the world is another, nothing else) ===== -/
def xPre (E : xG) (av : List Value) (ws : va_W) : Array Value → State → Prop := fun v U => v = av.toArray ∧ va_P (xD E) vwCl ws U.heap ∧ xK E U
def xRet (rv : Value) : Array Value → State → Outcome → State → Prop := fun _ st o t => o = .returned (some rv) ∧ t.heap = st.heap
def xA (ws : va_W) : Nat → Prop := fun q => ∃ (k : Nat) (e : va_E), ws[k]? = some (q, e)
def xPreM (E : xG) (av : List Value) (ws : va_W) : Array Value → State → Prop := fun v U => v = av.toArray ∧ va_P (xD E) vwCl ws U.heap ∧ xK E U ∧ va_D (fun _ => True) ws
def xRetM (E : xG) (rv : Option Value) (ws w1 : va_W) : Array Value → State → Outcome → State → Prop := fun _ st o t => o = .returned rv ∧ va_P (xD E) vwCl w1 t.heap ∧ va_F (xA ws) st t
abbrev xPure (l : Launch) (y : MethodName) (wsY : List Cond) (rm : Room) (E : xG) (av : List Value) (ws : va_W) (rv : Value) : Prop := Met l y wsY rm (xPre E av ws) (xRet rv) 0 0 (fun _ => False)
abbrev xMut (l : Launch) (y : MethodName) (wsY : List Cond) (rm : Room) (E : xG) (av : List Value) (ws : va_W) (rv : Option Value) (w1 : va_W) : Prop := Met l y wsY rm (xPreM E av ws) (xRetM E rv ws w1) 0 0 (xA ws)
theorem xPre.blind {E : xG} {av : List Value} {ws : va_W} : FrameBlind (xPre E av ws) := fun _ _ _ _ q => ⟨q.1, q.2.1, q.2.2.calling⟩
theorem xPreM.blind {E : xG} {av : List Value} {ws : va_W} : FrameBlind (xPreM E av ws) := fun _ _ _ _ q => ⟨q.1, q.2.1, q.2.2.1.calling, q.2.2.2⟩
theorem xA.self {ws : va_W} {A : Nat → Prop} (h : va_D A ws) : va_D (xA ws) ws := ⟨h.1, fun k q hk => ⟨k, q.2, hk⟩⟩
/-- entries of ws at the places isC replaced by those of w1 -/
def x_put (ws : va_W) : List Nat → va_W → va_W
  | [], _ => ws
  | _, [] => ws
  | i :: is, e :: es => x_put (ws.set i e) is es
theorem x_put_at : ∀ (isC : List Nat) (w1 ws : va_W) (k : Nat) (q : Nat × va_E), isC.length = w1.length → (x_put ws isC w1)[k]? = some q → (∃ j : Nat, w1[j]? = some q ∧ isC[j]? = some k) ∨ (ws[k]? = some q ∧ k ∉ isC)
  | [], [], ws, k, q, _, h => Or.inr ⟨h, List.not_mem_nil⟩
  | [], _ :: _, _, _, _, hl, _ => by cases hl
  | _ :: _, [], _, _, _, hl, _ => by cases hl
  | i :: is, e :: es, ws, k, q, hl, h => by
    rcases x_put_at is es (ws.set i e) k q (by simpa using hl) h with ⟨j, h1, h2⟩ | ⟨h1, h2⟩
    · exact Or.inl ⟨j + 1, by simpa using h1, by simpa using h2⟩
    · by_cases hk : i = k
      · subst hk
        rw [List.getElem?_set] at h1
        split at h1
        · split at h1
          · exact Or.inl ⟨0, by simpa using h1, by simp⟩
          · cases h1
        · exact absurd rfl ‹_›
      · rw [List.getElem?_set_ne hk] at h1
        exact Or.inr ⟨h1, by
          intro hm
          rcases List.mem_cons.mp hm with h | h
          · exact hk h.symm
          · exact h2 h⟩
theorem x_at {is : List Nat} {ws w : va_W} (hs : is.map (fun i => ws[i]?) = w.map some) {k : Nat} {q : Nat × va_E} (hq : w[k]? = some q) : ∃ i, is[k]? = some i ∧ ws[i]? = some q := by
  have h1 : (is.map (fun i => ws[i]?))[k]? = some (some q) := by rw [hs, List.getElem?_map, hq]; rfl
  rw [List.getElem?_map] at h1
  cases hi : is[k]? with
  | none => rw [hi] at h1; cases h1
  | some i => rw [hi] at h1; exact ⟨i, rfl, Option.some.inj h1⟩
/-- behind a changing call: the caller's world with the callee's cells in their places -/
theorem x_join {A : Nat → Prop} {D : va_G} {cl : List vw_C} {ws wc w1 : va_W} {H H1 : Heap} (hP : va_P D cl ws H) (hD : va_D A ws) (isC : List Nat) (hC : isC.map (fun i => ws[i]?) = wc.map some) (ha : w1.map (fun q => q.1) = wc.map (fun q => q.1))
    (hk : ∀ q : Nat, q < H.size → ¬ xA wc q → H1[q]? = H[q]?) (hP1 : va_P D cl w1 H1) : va_P D cl (x_put ws isC w1) H1 ∧ va_D A (x_put ws isC w1) := by
  have hlen : isC.length = w1.length := by
    have h1 : isC.length = wc.length := by simpa using congrArg List.length hC
    have h2 : w1.length = wc.length := by simpa using congrArg List.length ha
    omega
  have old : ∀ (k : Nat) (q : Nat × va_E), (x_put ws isC w1)[k]? = some q → ∃ q0 : Nat × va_E, ws[k]? = some q0 ∧ q0.1 = q.1 := by
    intro k q h
    rcases x_put_at isC w1 ws k q hlen h with ⟨j, h1, h2⟩ | ⟨h1, -⟩
    · have h3 : (w1.map (fun q => q.1))[j]? = some q.1 := by rw [List.getElem?_map, h1]; rfl
      rw [ha, List.getElem?_map] at h3
      cases hw : wc[j]? with
      | none => rw [hw] at h3; cases h3
      | some q0 =>
        rw [hw] at h3
        obtain ⟨i, h4, h5⟩ := x_at hC hw
        rw [h2] at h4
        cases h4
        exact ⟨q0, h5, Option.some.inj h3⟩
    · exact ⟨q, h1, rfl⟩
  refine ⟨fun k q h => ?_, ?_, ?_⟩
  · rcases x_put_at isC w1 ws k q hlen h with ⟨j, h1, -⟩ | ⟨h1, h2⟩
    · exact hP1 j q h1
    · refine (hP k q h1).kept (hk q.1 (hP k q h1).lt ?_)
      rintro ⟨j, e, h3⟩
      obtain ⟨i, h4, h5⟩ := x_at hC h3
      have := hD.1 k i q (q.1, e) h1 h5 rfl
      subst this
      exact h2 (List.mem_of_getElem? h4)
  · intro i j p q hi hj hpq
    obtain ⟨p0, h1, h2⟩ := old i p hi
    obtain ⟨q0, h3, h4⟩ := old j q hj
    exact hD.1 i j p0 q0 h1 h3 (by rw [h2, h4, hpq])
  · intro k q h
    obtain ⟨q0, h1, h2⟩ := old k q h
    rw [← h2]
    exact hD.2 k q0 h1
section XR
variable {p : Program} {l : Launch} {e : Env} {R : Room} {s : State} {m : MethodId} {args : Array Value} {below : List Frame} {meth : Method} {c : Code} {H : Heap} {locs : List Loc} {cells slots : Nat} {Q : State → Prop}
variable {cc : ByteArray} {pc : Nat} {ls : Array Slot} {rest st0 : List Value} {E : xG} {A : Nat → Prop} {a : Nat} {ws : va_W} {H0 : Heap}
variable {y : MethodName} {bytes : ByteArray} {maxL nL n index : Nat} {ret : Option FieldType} {wsY : List Cond} {rm : Room} {Ts : List Cond} {own C host : String} {b : Addr} {As : List Value} {rv : Value} {wc : va_W}
theorem x_iald (hx : p.tables.exec = Jvm.exec) (hb : c.code = cc) (hK : xK E s) (hP : va_P (xD E) vwCl ws H) (q0 : Nat) {n : Nat} {f : Nat → Int32} (ha : ws[q0]? = some (a, .inl (xI E, n, .inl f))) {i v : Int32} (h : rdI f n i = some v) (hdg : decode cc pc = .ok (.iaload, 1))
    (kk : W p l e R s m args below meth c H locs cells slots Q (F0 m (pc + 1) ls (.int v :: rest))) : W p l e R s m args below meth c H locs cells slots Q (F0 m pc ls (.int i :: .ref a :: rest)) := by
  obtain ⟨h1, rfl⟩ := rdI_ok h
  exact va_iald hx hb hK.1 hP q0 0 ha rfl h1 hdg kk
theorem x_zald (hx : p.tables.exec = Jvm.exec) (hb : c.code = cc) (hK : xK E s) (hP : va_P (xD E) vwCl ws H) (q0 : Nat) {n : Nat} {f : Nat → Int32} (ha : ws[q0]? = some (a, .inl (xZ E, n, .inl f))) {i v : Int32} (h : rdI f n i = some v) (hdg : decode cc pc = .ok (.baload, 1))
    (kk : W p l e R s m args below meth c H locs cells slots Q (F0 m (pc + 1) ls (.int v :: rest))) : W p l e R s m args below meth c H locs cells slots Q (F0 m pc ls (.int i :: .ref a :: rest)) := by
  obtain ⟨h1, rfl⟩ := rdI_ok h
  exact va_zald hx hb hK.1 hP q0 2 ha rfl h1 hdg kk
theorem x_lald (hx : p.tables.exec = Jvm.exec) (hb : c.code = cc) (hK : xK E s) (hP : va_P (xD E) vwCl ws H) (q0 : Nat) {n : Nat} {f : Nat → Int64} (ha : ws[q0]? = some (a, .inl (xJ E, n, .inr (.inl f)))) {i : Int32} {v : Int64} (h : rdJ f n i = some v) (hdg : decode cc pc = .ok (.laload, 1))
    (kk : W p l e R s m args below meth c H locs cells slots Q (F0 m (pc + 1) ls (.long v :: rest))) : W p l e R s m args below meth c H locs cells slots Q (F0 m pc ls (.int i :: .ref a :: rest)) := by
  obtain ⟨h1, rfl⟩ := rdJ_ok h
  exact va_lald hx hb hK.1 hP q0 1 ha rfl h1 hdg kk
theorem x_iast (hx : p.tables.exec = Jvm.exec) (hb : c.code = cc) (hK : xK E s) (hP : va_P (xD E) vwCl ws H) (hD : va_D A ws) (hS : va_S A H0 H locs) (q0 : Nat) {n : Nat} {f f' : Nat → Int32} (ha : ws[q0]? = some (a, .inl (xI E, n, .inl f))) {i x : Int32} (h : wrI f n i x = some f') (hdg : decode cc pc = .ok (.iastore, 1))
    (kk : ∀ (H1 : Heap) (locs1 : List Loc), va_P (xD E) vwCl (ws.set q0 (a, .inl (xI E, n, .inl f'))) H1 → va_D A (ws.set q0 (a, .inl (xI E, n, .inl f'))) → va_S A H0 H1 locs1 → W p l e R s m args below meth c H1 locs1 cells slots Q (F0 m (pc + 1) ls rest)) : W p l e R s m args below meth c H locs cells slots Q (F0 m pc ls (.int x :: .int i :: .ref a :: rest)) := by
  obtain ⟨h1, rfl⟩ := wrI_ok h
  exact va_iast hx hb hK.1 hP hD hS q0 0 ha rfl h1 hdg kk
theorem x_zast (hx : p.tables.exec = Jvm.exec) (hb : c.code = cc) (hK : xK E s) (hP : va_P (xD E) vwCl ws H) (hD : va_D A ws) (hS : va_S A H0 H locs) (q0 : Nat) {n : Nat} {f f' : Nat → Int32} (ha : ws[q0]? = some (a, .inl (xZ E, n, .inl f))) {i x : Int32} (h : wrZ f n i x = some f') (hdg : decode cc pc = .ok (.bastore, 1))
    (kk : ∀ (H1 : Heap) (locs1 : List Loc), va_P (xD E) vwCl (ws.set q0 (a, .inl (xZ E, n, .inl f'))) H1 → va_D A (ws.set q0 (a, .inl (xZ E, n, .inl f'))) → va_S A H0 H1 locs1 → W p l e R s m args below meth c H1 locs1 cells slots Q (F0 m (pc + 1) ls rest)) : W p l e R s m args below meth c H locs cells slots Q (F0 m pc ls (.int x :: .int i :: .ref a :: rest)) := by
  obtain ⟨h1, rfl⟩ := wrZ_ok h
  exact va_zast hx hb hK.1 hP hD hS q0 2 ha rfl h1 hdg kk
theorem x_last (hx : p.tables.exec = Jvm.exec) (hb : c.code = cc) (hK : xK E s) (hP : va_P (xD E) vwCl ws H) (hD : va_D A ws) (hS : va_S A H0 H locs) (q0 : Nat) {n : Nat} {f f' : Nat → Int64} (ha : ws[q0]? = some (a, .inl (xJ E, n, .inr (.inl f)))) {i : Int32} {x : Int64} (h : wrJ f n i x = some f') (hdg : decode cc pc = .ok (.lastore, 1))
    (kk : ∀ (H1 : Heap) (locs1 : List Loc), va_P (xD E) vwCl (ws.set q0 (a, .inl (xJ E, n, .inr (.inl f')))) H1 → va_D A (ws.set q0 (a, .inl (xJ E, n, .inr (.inl f')))) → va_S A H0 H1 locs1 → W p l e R s m args below meth c H1 locs1 cells slots Q (F0 m (pc + 1) ls rest)) : W p l e R s m args below meth c H locs cells slots Q (F0 m pc ls (.long x :: .int i :: .ref a :: rest)) := by
  obtain ⟨h1, rfl⟩ := wrJ_ok h
  exact va_last hx hb hK.1 hP hD hS q0 1 ha rfl h1 hdg kk
theorem x_ldiv (hx : p.tables.exec = Jvm.exec) (hb : c.code = cc) {x y v : Int64} (h : dvJ x y = some v) (hdg : decode cc pc = .ok (.ldiv, 1))
    (kk : W p l e R s m args below meth c H locs cells slots Q (F0 m (pc + 1) ls (.long v :: rest))) : W p l e R s m args below meth c H locs cells slots Q (F0 m pc ls (.long y :: .long x :: rest)) := by
  obtain ⟨h1, rfl⟩ := dvJ_ok h
  exact lv_ldiv hx hb hdg h1 kk
theorem x_lrem (hx : p.tables.exec = Jvm.exec) (hb : c.code = cc) {x y v : Int64} (h : rmJ x y = some v) (hdg : decode cc pc = .ok (.lrem, 1))
    (kk : W p l e R s m args below meth c H locs cells slots Q (F0 m (pc + 1) ls (.long v :: rest))) : W p l e R s m args below meth c H locs cells slots Q (F0 m pc ls (.long y :: .long x :: rest)) := by
  obtain ⟨h1, rfl⟩ := rmJ_ok h
  exact lv_lrem hx hb hdg h1 kk
/-- arrays of founts, of rows: the address at a place -/
theorem x_aald (hx : p.tables.exec = Jvm.exec) (hb : c.code = cc) (hK : xK E s) (hP : va_P (xD E) vwCl ws H) (q0 : Nat) {n : Nat} {r : Nat → Nat} {f : Nat → Option Nat} (ha : ws[q0]? = some (a, .inl (xFo E, n, .inr (.inr (.inr (.inr f)))))) (hf : ∀ j, j < n → f j = some (r j)) {i : Int32} {v : Nat} (h : rdX n i = some v) (hdg : decode cc pc = .ok (.aaload, 1))
    (kk : v < n → W p l e R s m args below meth c H locs cells slots Q (F0 m (pc + 1) ls (.ref (r v) :: rest))) : W p l e R s m args below meth c H locs cells slots Q (F0 m pc ls (.int i :: .ref a :: rest)) := by
  obtain ⟨h1, rfl⟩ := rdX_ok h
  have hlt : i.toNatClampNeg < n := Nat.not_le.mp fun q => h1 (Or.inr q)
  refine va_aldq hx hb hK.1 hP q0 3 ha rfl h1 hdg ?_
  rw [hf _ hlt]
  exact kk hlt
theorem x_rald (hx : p.tables.exec = Jvm.exec) (hb : c.code = cc) (hK : xK E s) (hP : va_P (xD E) vwCl ws H) (q0 : Nat) {n : Nat} {r : Nat → Nat} {f : Nat → Option Nat} (ha : ws[q0]? = some (a, .inl (xRo E, n, .inr (.inr (.inr (.inr f)))))) (hf : ∀ j, j < n → f j = some (r j)) {i : Int32} {v : Nat} (h : rdX n i = some v) (hdg : decode cc pc = .ok (.aaload, 1))
    (kk : v < n → W p l e R s m args below meth c H locs cells slots Q (F0 m (pc + 1) ls (.ref (r v) :: rest))) : W p l e R s m args below meth c H locs cells slots Q (F0 m pc ls (.int i :: .ref a :: rest)) := by
  obtain ⟨h1, rfl⟩ := rdX_ok h
  have hlt : i.toNatClampNeg < n := Nat.not_le.mp fun q => h1 (Or.inr q)
  have h2 := kk hlt
  refine W.aald (v := va_rf (f i.toNatClampNeg)) (ty := .array .long) hx hb (hP q0 _ ha) ((hK.1.2 4 _ rfl).1 n (fun j => va_rf (f j))) rfl (fun q => by cases q) (by show ¬ (i < 0 ∨ (arrV _ _ _).slots.size ≤ _); rw [arrV_size]; exact h1) (by show (arrV _ _ _).slots[_]? = _; rw [arrV_read _ _ hlt]) rfl rfl hdg ?_
  rw [hf _ hlt]
  exact h2
theorem x_get (hx : p.tables.exec = Jvm.exec) (hb : c.code = cc) {T : u_T} {N ci : Nat} (hts : ∀ w ∈ Ts, w.before args s = true) (hin : ∀ w ∈ u_ws C T N, w ∈ Ts) (hown : s.vm.findClass own = some m.cls) (hK : xK E s) (hP : va_P (xD E) vwCl ws H) (q0 : Nat) {fs : List Value} (he : ws[q0]? = some (a, .inr (ci, fs))) (hc : vwCl[ci]? = some (C, T, N)) (k : Nat) (hk : k < N) (hm : Cond.fieldLink own index (T k).1 (T k).2.1 (T k).2.2.1 ∈ Ts) {v : Value} (hv : fs[k]? = some v) (hdg : decode cc pc = .ok (.getfield index, 3))
    (kk : W p l e R s m args below meth c H locs cells slots Q (F0 m (pc + 3) ls (v :: rest))) : W p l e R s m args below meth c H locs cells slots Q (F0 m pc ls (.ref a :: rest)) :=
  va_get hx hb hts hin hown hK.1 hP q0 he hc k hk (hts _ hm) (fun _ h9 => h9) hv hdg kk
theorem x_putf (hx : p.tables.exec = Jvm.exec) (hb : c.code = cc) {T : u_T} {N ci : Nat} (hts : ∀ w ∈ Ts, w.before args s = true) (hin : ∀ w ∈ u_ws C T N, w ∈ Ts) {ty0 : Nat → FieldType} (hty : ∀ k, k < N → parseFieldDescriptor (T k).2.2.1 = some (ty0 k)) (hnm : ∀ a, a < N → ∀ b, b < N → a ≠ b → (T a).2.1 ≠ (T b).2.1) (hown : s.vm.findClass own = some m.cls) (hK : xK E s) (hP : va_P (xD E) vwCl ws H) (hD : va_D A ws) (hS : va_S A H0 H locs) (q0 : Nat) {fs : List Value} (he : ws[q0]? = some (a, .inr (ci, fs))) (hc : vwCl[ci]? = some (C, T, N)) (k : Nat) (hk : k < N) (hm : Cond.fieldLink own index (T k).1 (T k).2.1 (T k).2.2.1 ∈ Ts) (hfin : (T k).2.2.2 = false) {v : Value} (hn : narrow (ty0 k) v = v) (hfit : fits (ty0 k) v = true) (hl : k < fs.length) (hdg : decode cc pc = .ok (.putfield index, 3))
    (kk : ∀ (H1 : Heap) (locs1 : List Loc), va_P (xD E) vwCl (ws.set q0 (a, .inr (ci, fs.set k v))) H1 → va_D A (ws.set q0 (a, .inr (ci, fs.set k v))) → va_S A H0 H1 locs1 → W p l e R s m args below meth c H1 locs1 cells slots Q (F0 m (pc + 3) ls rest)) : W p l e R s m args below meth c H locs cells slots Q (F0 m pc ls (v :: .ref a :: rest)) :=
  va_put hx hb hts hin ty0 hty hnm hown hK.1 hP hD hS q0 he hc k hk (hts _ hm) (fun _ h9 => h9) hfin (hty k hk) hn hfit hl hdg kk
/-- a read-only call: the heap is the same, the answer known -/
theorem x_pcall {mc ms : Nat} (hr : va_Run p l e R s m args below meth c H locs cells slots 0 0 (F0 m pc ls st0) rest (xRet rv As.toArray) (fun _ => False))
    (kk : W p l e R s m args below meth c H locs cells slots Q (F0 m (pc + 3) ls (rv :: rest))) : W p l e R s m args below meth c H locs cells slots Q (F0 m pc ls st0) := by
  intro T hT X
  obtain ⟨v, st₀, t, T', L, h0, X', hL, e1, e2, ⟨hv, hh⟩, st⟩ := hr T hT X
  cases hv
  have hL0 : L = [] := List.eq_nil_iff_forall_not_mem.mpr fun q hq => hL q hq
  subst hL0
  rw [List.append_nil] at X'
  obtain ⟨t2, a1, b1⟩ := kk T' (by rw [e1, hh, h0]) X'
  exact ⟨t2, st t2 a1, b1⟩
theorem x_pV (S : CallFix p m c cc nL s args Ts own) (hK : xK E s) (hM : xPure l y wsY rm E (.ref b :: As) wc rv) (cw : CallW R s args own C index y bytes maxL ret wsY rm 0 0 n) (hP : va_P (xD E) vwCl wc H) (q0 : Nat) {ci : Nat} {q : vw_C} {fs : List Value} (he : wc[q0]? = some (b, .inr (ci, fs))) (hc : vwCl[ci]? = some q) (hC : q.1 = C)
    (hn : As.length = n) (hsize : ls.size = nL) (hW : (rest.map fun v => v.category).sum ≤ 8) (hdg : decode cc pc = .ok (.invokevirtual index, 3)) (hst : st0 = As.reverse ++ .ref b :: rest) (hf : cells ≤ R.cells ∧ slots ≤ R.slots)
    (kk : W p l e R s m args below meth c H locs cells slots Q (F0 m (pc + 3) ls (rv :: rest))) : W p l e R s m args below meth c H locs cells slots Q (F0 m pc ls st0) := by
  subst hC
  exact x_pcall (As := .ref b :: As) (mc := 0) (ms := 0) (va_runV (g := F0 m pc ls st0) S hM cw ⟨xPre.blind, va_recv hK.1 hP hc he, fun U hU hW => ⟨rfl, by rw [hU]; exact hP, hK.warm hW⟩⟩ rfl hn hsize hst (lv_room (ls := ls) (m := m) (pc := pc) (rest := rest) hW) hdg hf) kk
theorem x_pS (S : CallFix p m c cc nL s args Ts own) (hK : xK E s) (hM : xPure l y wsY rm E As wc rv) (cw : CallB R s args own index y bytes maxL ret wsY rm 0 0 n ∧ (Cond.static y).before args s = true) (hP : va_P (xD E) vwCl wc H)
    (hn : As.length = n) (hsize : ls.size = nL) (hW : (rest.map fun v => v.category).sum ≤ 8) (hdg : decode cc pc = .ok (.invokestatic index, 3)) (hst : st0 = As.reverse ++ rest) (hf : cells ≤ R.cells ∧ slots ≤ R.slots)
    (kk : W p l e R s m args below meth c H locs cells slots Q (F0 m (pc + 3) ls (rv :: rest))) : W p l e R s m args below meth c H locs cells slots Q (F0 m pc ls st0) :=
  x_pcall (As := As) (mc := 0) (ms := 0) (va_runS (g := F0 m pc ls st0) S hM cw ⟨xPre.blind, fun U hU hW => ⟨rfl, by rw [hU]; exact hP, hK.warm hW⟩⟩ rfl hn hsize hst (lv_room (ls := ls) (m := m) (pc := pc) (rest := rest) hW) hdg hf) kk
theorem x_pN (S : CallFix p m c cc nL s args Ts own) (hK : xK E s) (hM : xPure l y wsY rm E As wc rv) (cw : va_CN R s args own index y host bytes maxL ret wsY rm 0 0 n ∧ (Cond.static y).before args s = true ∧ True) (hP : va_P (xD E) vwCl wc H)
    (hn : As.length = n) (hsize : ls.size = nL) (hW : (rest.map fun v => v.category).sum ≤ 8) (hdg : decode cc pc = .ok (.invokestatic index, 3)) (hst : st0 = As.reverse ++ rest) (hf : cells ≤ R.cells ∧ slots ≤ R.slots)
    (kk : W p l e R s m args below meth c H locs cells slots Q (F0 m (pc + 3) ls (rv :: rest))) : W p l e R s m args below meth c H locs cells slots Q (F0 m pc ls st0) :=
  x_pcall (As := As) (mc := 0) (ms := 0) (va_runSN (g := F0 m pc ls st0) S hM cw ⟨xPre.blind, fun U hU hW => ⟨rfl, by rw [hU]; exact hP, hK.warm hW⟩⟩ rfl hn hsize hst (lv_room (ls := ls) (m := m) (pc := pc) (rest := rest) hW) hdg hf) kk
/-- a changing call on a part of the caller's world -/
theorem x_mV {w1 ws' : va_W} {ro : Option Value} (S : CallFix p m c cc nL s args Ts own) (hK : xK E s) (hM : xMut l y wsY rm E (.ref b :: As) wc ro w1) (cw : CallW R s args own C index y bytes maxL ret wsY rm 0 0 n) (hP : va_P (xD E) vwCl ws H) (hD : va_D A ws) (hS : va_S A H0 H locs) (isC : List Nat) (hnd : va_nd isC = true) (hC : isC.map (fun i => ws[i]?) = wc.map some) (ha : w1.map (fun q => q.1) = wc.map (fun q => q.1)) (q0 : Nat) {ci : Nat} {q : vw_C} {fs : List Value} (he : wc[q0]? = some (b, .inr (ci, fs))) (hc : vwCl[ci]? = some q) (hCl : q.1 = C)
    (hn : As.length = n) (hsize : ls.size = nL) (hW : (rest.map fun v => v.category).sum ≤ 8) (hdg : decode cc pc = .ok (.invokevirtual index, 3)) (hst : st0 = As.reverse ++ .ref b :: rest) (hf : cells ≤ R.cells ∧ slots ≤ R.slots) (hset : x_put ws isC w1 = ws')
    (kk : ∀ (H1 : Heap) (locs1 : List Loc), va_P (xD E) vwCl ws' H1 → va_D A ws' → va_S A H0 H1 locs1 → W p l e R s m args below meth c H1 locs1 cells slots Q (F0 m (pc + 3) ls (ro.toList ++ rest))) : W p l e R s m args below meth c H locs cells slots Q (F0 m pc ls st0) := by
  subst hCl
  subst hset
  have hDc : va_D A wc := hD.sub isC hnd hC
  have hPc : va_P (xD E) vwCl wc H := fun k q hq => by
    obtain ⟨i, -, h5⟩ := x_at hC hq
    exact hP i q h5
  have hAc : ∀ q, xA wc q → A q := fun q h => by
    obtain ⟨k, e, h⟩ := h
    exact hDc.2 k (q, e) h
  have hr := va_runV (g := F0 m pc ls st0) (H := H) (locs := locs) (cells := cells) (slots := slots) (e := e) (below := below) (meth := meth) S hM cw ⟨xPreM.blind, va_recv hK.1 hPc hc he, fun U hU hW => ⟨rfl, by rw [hU]; exact hPc, hK.warm hW, hDc.weaken (fun _ _ _ _ => trivial)⟩⟩ rfl hn hsize hst (lv_room (ls := ls) (m := m) (pc := pc) (rest := rest) hW) hdg hf
  intro T hT X
  obtain ⟨v, st₀, t, T', L, h0, X', hL, e1, e2, ⟨hv, hp, hz, hk⟩, st⟩ := hr T hT X
  cases hv
  rw [h0] at hz hk
  obtain ⟨hP1, hD1⟩ := x_join hP hD isC hC ha hk hp
  obtain ⟨t2, a1, b1⟩ := kk T'.heap (locs ++ L) (by rw [e1]; exact hP1) hD1
    ⟨Nat.le_trans hS.1 (by rw [e1]; exact hz), fun q h1 h2 => by rw [e1, hk q (Nat.lt_of_lt_of_le h1 hS.1) (fun z => h2 (hAc q z))]; exact hS.2.1 q h1 h2, fun q hq => by
      rcases List.mem_append.mp hq with h | h
      · exact hS.2.2 q h
      · exact hAc _ (hL q h)⟩ T' rfl X'
  exact ⟨t2, st t2 a1, b1⟩
theorem x_iret {free : Addr → Prop} {ty : FieldType} {v : Int32} (hx : p.tables.exec = Jvm.exec) (hb : c.code = cc) (hr : meth.sig.returnType = some ty) (hlk : meth.locks = false) (hn : narrow ty (.int v) = .int v) (hdg : decode cc pc = .ok (.ireturn, 1)) : W p l e R s m args below meth c s.heap [] cells slots (MQ below (xRet (.int v)) args s cells slots free) (F0 m pc ls [.int v]) :=
  W.zret hx hb hr hn (fun t ht _ => ⟨rfl, ht⟩) (fun _ h => by cases h) hdg hlk
theorem x_lret {free : Addr → Prop} {v : Int64} (hx : p.tables.exec = Jvm.exec) (hb : c.code = cc) (hr : meth.sig.returnType = some .long) (hlk : meth.locks = false) (hdg : decode cc pc = .ok (.lreturn, 1)) : W p l e R s m args below meth c s.heap [] cells slots (MQ below (xRet (.long v)) args s cells slots free) (F0 m pc ls [.long v]) :=
  W.lret hx hb hr (fun t ht _ => ⟨rfl, ht⟩) (fun _ h => by cases h) hdg hlk
theorem x_vretM {w0 w1 : va_W} (hx : p.tables.exec = Jvm.exec) (hb : c.code = cc) (hr : meth.sig.returnType = none) (hlk : meth.locks = false) (hP : va_P (xD E) vwCl w1 H) (hS : va_S (xA w0) s.heap H locs) (hdg : decode cc pc = .ok (.return_, 1)) : W p l e R s m args below meth c H locs cells slots (MQ below (xRetM E none w0 w1) args s cells slots (xA w0)) (F0 m pc ls []) :=
  W.vret hx hb hr (fun t ht _ => ⟨rfl, by rw [ht]; exact hP, hS.F ht⟩) hS.2.2 hdg hlk
theorem x_iretM {w0 w1 : va_W} {ty : FieldType} {v : Int32} (hx : p.tables.exec = Jvm.exec) (hb : c.code = cc) (hr : meth.sig.returnType = some ty) (hlk : meth.locks = false) (hn : narrow ty (.int v) = .int v) (hP : va_P (xD E) vwCl w1 H) (hS : va_S (xA w0) s.heap H locs) (hdg : decode cc pc = .ok (.ireturn, 1)) : W p l e R s m args below meth c H locs cells slots (MQ below (xRetM E (some (.int v)) w0 w1) args s cells slots (xA w0)) (F0 m pc ls [.int v]) :=
  W.zret hx hb hr hn (fun t ht _ => ⟨rfl, by rw [ht]; exact hP, hS.F ht⟩) hS.2.2 hdg hlk
theorem x_lretM {w0 w1 : va_W} {v : Int64} (hx : p.tables.exec = Jvm.exec) (hb : c.code = cc) (hr : meth.sig.returnType = some .long) (hlk : meth.locks = false) (hP : va_P (xD E) vwCl w1 H) (hS : va_S (xA w0) s.heap H locs) (hdg : decode cc pc = .ok (.lreturn, 1)) : W p l e R s m args below meth c H locs cells slots (MQ below (xRetM E (some (.long v)) w0 w1) args s cells slots (xA w0)) (F0 m pc ls [.long v]) :=
  W.lret hx hb hr (fun t ht _ => ⟨rfl, by rw [ht]; exact hP, hS.F ht⟩) hS.2.2 hdg hlk
theorem x_lif_ge (hx : p.tables.exec = Jvm.exec) (hb : c.code = cc) {x y : Int64} {off : Int} {tgt : Nat} (hd1 : decode cc pc = .ok (.lcmp, 1)) (hdg : decode cc (pc + 1) = .ok (.ifCond .ge off, 3)) (ht : ((pc + 1 : Nat) : Int) + off = (tgt : Int))
    (kt : y ≤ x → W p l e R s m args below meth c H locs cells slots Q (F0 m tgt ls rest)) (kf : ¬ y ≤ x → W p l e R s m args below meth c H locs cells slots Q (F0 m (pc + 1 + 3) ls rest)) : W p l e R s m args below meth c H locs cells slots Q (F0 m pc ls (.long y :: .long x :: rest)) :=
  W.lcmp hx hb hd1 (lv_if_ge (tgt := tgt) hx hb hdg ht (fun h => kt ((lg_cmp_ge x y).mp h)) (fun h => kf (fun q => h ((lg_cmp_ge x y).mpr q))))
theorem x_lif_le (hx : p.tables.exec = Jvm.exec) (hb : c.code = cc) {x y : Int64} {off : Int} {tgt : Nat} (hd1 : decode cc pc = .ok (.lcmp, 1)) (hdg : decode cc (pc + 1) = .ok (.ifCond .le off, 3)) (ht : ((pc + 1 : Nat) : Int) + off = (tgt : Int))
    (kt : x ≤ y → W p l e R s m args below meth c H locs cells slots Q (F0 m tgt ls rest)) (kf : ¬ x ≤ y → W p l e R s m args below meth c H locs cells slots Q (F0 m (pc + 1 + 3) ls rest)) : W p l e R s m args below meth c H locs cells slots Q (F0 m pc ls (.long y :: .long x :: rest)) :=
  W.lcmp hx hb hd1 (lv_if_le (tgt := tgt) hx hb hdg ht (fun h => kt ((lg_cmp_le x y).mp h)) (fun h => kf (fun q => h ((lg_cmp_le x y).mpr q))))
theorem x_lif_gt (hx : p.tables.exec = Jvm.exec) (hb : c.code = cc) {x y : Int64} {off : Int} {tgt : Nat} (hd1 : decode cc pc = .ok (.lcmp, 1)) (hdg : decode cc (pc + 1) = .ok (.ifCond .gt off, 3)) (ht : ((pc + 1 : Nat) : Int) + off = (tgt : Int))
    (kt : y < x → W p l e R s m args below meth c H locs cells slots Q (F0 m tgt ls rest)) (kf : ¬ y < x → W p l e R s m args below meth c H locs cells slots Q (F0 m (pc + 1 + 3) ls rest)) : W p l e R s m args below meth c H locs cells slots Q (F0 m pc ls (.long y :: .long x :: rest)) :=
  W.lcmp hx hb hd1 (lv_if_gt (tgt := tgt) hx hb hdg ht (fun h => kt ((lg_cmp_gt x y).mp h)) (fun h => kf (fun q => h ((lg_cmp_gt x y).mpr q))))
theorem x_lif_lt (hx : p.tables.exec = Jvm.exec) (hb : c.code = cc) {x y : Int64} {off : Int} {tgt : Nat} (hd1 : decode cc pc = .ok (.lcmp, 1)) (hdg : decode cc (pc + 1) = .ok (.ifCond .lt off, 3)) (ht : ((pc + 1 : Nat) : Int) + off = (tgt : Int))
    (kt : x < y → W p l e R s m args below meth c H locs cells slots Q (F0 m tgt ls rest)) (kf : ¬ x < y → W p l e R s m args below meth c H locs cells slots Q (F0 m (pc + 1 + 3) ls rest)) : W p l e R s m args below meth c H locs cells slots Q (F0 m pc ls (.long y :: .long x :: rest)) :=
  W.lcmp hx hb hd1 (lv_if_lt (tgt := tgt) hx hb hdg ht (fun h => kt ((lg_cmp_lt x y).mp h)) (fun h => kf (fun q => h ((lg_cmp_lt x y).mpr q))))
theorem x_lif_eq (hx : p.tables.exec = Jvm.exec) (hb : c.code = cc) {x y : Int64} {off : Int} {tgt : Nat} (hd1 : decode cc pc = .ok (.lcmp, 1)) (hdg : decode cc (pc + 1) = .ok (.ifCond .eq off, 3)) (ht : ((pc + 1 : Nat) : Int) + off = (tgt : Int))
    (kt : x = y → W p l e R s m args below meth c H locs cells slots Q (F0 m tgt ls rest)) (kf : ¬ x = y → W p l e R s m args below meth c H locs cells slots Q (F0 m (pc + 1 + 3) ls rest)) : W p l e R s m args below meth c H locs cells slots Q (F0 m pc ls (.long y :: .long x :: rest)) :=
  W.lcmp hx hb hd1 (lv_if_eq (tgt := tgt) hx hb hdg ht (fun h => kt ((lg_cmp_eq x y).mp h)) (fun h => kf (fun q => h ((lg_cmp_eq x y).mpr q))))
theorem x_lif_ne (hx : p.tables.exec = Jvm.exec) (hb : c.code = cc) {x y : Int64} {off : Int} {tgt : Nat} (hd1 : decode cc pc = .ok (.lcmp, 1)) (hdg : decode cc (pc + 1) = .ok (.ifCond .ne off, 3)) (ht : ((pc + 1 : Nat) : Int) + off = (tgt : Int))
    (kt : ¬ x = y → W p l e R s m args below meth c H locs cells slots Q (F0 m tgt ls rest)) (kf : x = y → W p l e R s m args below meth c H locs cells slots Q (F0 m (pc + 1 + 3) ls rest)) : W p l e R s m args below meth c H locs cells slots Q (F0 m pc ls (.long y :: .long x :: rest)) :=
  W.lcmp hx hb hd1 (lv_if_ne (tgt := tgt) hx hb hdg ht (fun h => kt (fun q => h ((lg_cmp_eq x y).mpr q))) (fun h => kf ((lg_cmp_eq x y).mp h)))
end XR
/-- as Met.ofW, for a method of the JDK that is no native -/
theorem x_ofWF {l : Launch} {y : MethodName} {ws ws' : List Cond} {rm : Room} {Pc : Array Value → State → Prop} {Qc : Array Value → State → Outcome → State → Prop} {mc ms : Nat} {free : Addr → Prop} {cc : ByteArray} {maxL : Nat} {ret : Option FieldType}
    (hy : plainFor y = true) (hw : ws = Cond.code y cc maxL ret :: ws')
    (body : ∀ p e s m args below meth c s₁, BodyLoose p l y (headSpec ws rm) cc maxL ret e s m args below meth c s₁ → c.maxLocals = maxL → Pc args s →
      W p l e (headSpec ws rm).room s m args below meth c s.heap [] 0 0 (MQ below Qc args s mc ms free) (entryFrame m args maxL)) : Met l y ws rm Pc Qc mc ms free := by
  refine MetFree.of_bodySF (code := cc) (maxLocals := maxL) (ret := ret) hy ?_ ?_
  · intro args s m h hn
    obtain ⟨meth, c, h1, h2, h3, h4, h5, h6, -, -⟩ := Cond.code_spec hn (atoms_spec (ws := ws) h _ (by rw [hw]; exact List.mem_cons_self))
    exact ⟨meth, c, h1, h2, h3, h4, h5, h6⟩
  · intro p e s m args below meth c s₁ B hml hP _
    have hh0 : s₁.heap = s.heap := by rw [B.state]; rfl
    obtain ⟨t, a1, o, b1, b2, b3⟩ := body p e s m args below meth c s₁ B hml hP s₁ hh0 (Stand.of_body B)
    exact ⟨t, o, a1, b1, b2, ⟨b3.1, b3.2⟩⟩
/-! ===== a changing call on a stretch of the caller's world ===== -/
theorem x_addr {A : Nat → Prop} {ws ws' : va_W} (h : ws'.map (fun q => q.1) = ws.map (fun q => q.1)) (hD : va_D A ws) : va_D A ws' := by
  have old : ∀ (k : Nat) (q : Nat × va_E), ws'[k]? = some q → ∃ q0 : Nat × va_E, ws[k]? = some q0 ∧ q0.1 = q.1 := by
    intro k q hq
    have h3 : (ws'.map (fun q => q.1))[k]? = some q.1 := by rw [List.getElem?_map, hq]; rfl
    rw [h, List.getElem?_map] at h3
    cases hw : ws[k]? with
    | none => rw [hw] at h3; cases h3
    | some q0 => rw [hw] at h3; exact ⟨q0, rfl, Option.some.inj h3⟩
  refine ⟨fun i j p q hi hj hpq => ?_, fun k q hk => ?_⟩
  · obtain ⟨p0, h1, h2⟩ := old i p hi
    obtain ⟨q0, h3, h4⟩ := old j q hj
    exact hD.1 i j p0 q0 h1 h3 (by rw [h2, h4, hpq])
  · obtain ⟨q0, h1, h2⟩ := old k q hk
    rw [← h2]
    exact hD.2 k q0 h1
theorem x_split (ws : va_W) (a n : Nat) : ws = ws.take a ++ ((ws.drop a).take n ++ ws.drop (a + n)) := by
  rw [← List.drop_drop, List.take_append_drop, List.take_append_drop]
theorem x_joinR {A : Nat → Prop} {D : va_G} {cl : List vw_C} {pre wc post w1 : va_W} {H H1 : Heap} (hP : va_P D cl (pre ++ (wc ++ post)) H) (hD : va_D A (pre ++ (wc ++ post))) (ha : w1.map (fun q => q.1) = wc.map (fun q => q.1))
    (hk : ∀ q : Nat, q < H.size → ¬ xA wc q → H1[q]? = H[q]?) (hP1 : va_P D cl w1 H1) : va_P D cl (pre ++ (w1 ++ post)) H1 ∧ va_D A (pre ++ (w1 ++ post)) := by
  refine ⟨fun k q hq => ?_, x_addr (by simp [ha]) hD⟩
  have far : ∀ i : Nat, (pre ++ (wc ++ post))[i]? = some q → (i < pre.length ∨ pre.length + wc.length ≤ i) → va_at D cl q H1 := by
    intro i hi hlt
    refine (hP i q hi).kept (hk q.1 (hP i q hi).lt ?_)
    rintro ⟨j, e, hj⟩
    have hjl : j < wc.length := (List.getElem?_eq_some_iff.mp hj).1
    have h2 : (pre ++ (wc ++ post))[pre.length + j]? = some (q.1, e) := by
      rw [List.getElem?_append_right (by omega), Nat.add_sub_cancel_left, List.getElem?_append_left hjl]
      exact hj
    have := hD.1 i (pre.length + j) q (q.1, e) hi h2 rfl
    omega
  by_cases h1 : k < pre.length
  · rw [List.getElem?_append_left h1] at hq
    exact far k (by rw [List.getElem?_append_left h1]; exact hq) (Or.inl h1)
  · rw [List.getElem?_append_right (by omega)] at hq
    by_cases h2 : k - pre.length < w1.length
    · rw [List.getElem?_append_left h2] at hq
      exact hP1 _ q hq
    · rw [List.getElem?_append_right (by omega)] at hq
      have hl : w1.length = wc.length := by simpa using congrArg List.length ha
      refine far k ?_ (Or.inr (by omega))
      rw [List.getElem?_append_right (by omega), List.getElem?_append_right (by omega), ← hl]
      exact hq
theorem x_mR {p : Program} {l : Launch} {e : Env} {R : Room} {s : State} {m : MethodId} {args : Array Value} {below : List Frame} {meth : Method} {c : Code} {H : Heap} {locs : List Loc} {cells slots : Nat} {Q : State → Prop}
    {cc : ByteArray} {pc : Nat} {ls : Array Slot} {rest st0 : List Value} {E : xG} {A : Nat → Prop} {ws : va_W} {H0 : Heap}
    {y : MethodName} {bytes : ByteArray} {maxL nL n index : Nat} {ret : Option FieldType} {wsY : List Cond} {rm : Room} {Ts : List Cond} {own C : String} {b : Addr} {As : List Value} {wc : va_W}
    {w1 ws' : va_W} {ro : Option Value} (S : CallFix p m c cc nL s args Ts own) (hK : xK E s) (hM : xMut l y wsY rm E (.ref b :: As) wc ro w1) (cw : CallW R s args own C index y bytes maxL ret wsY rm 0 0 n) (hP : va_P (xD E) vwCl ws H) (hD : va_D A ws) (hS : va_S A H0 H locs) (a0 n0 : Nat) (hC : (ws.drop a0).take n0 = wc) (ha : w1.map (fun q => q.1) = wc.map (fun q => q.1)) (q0 : Nat) {ci : Nat} {q : vw_C} {fs : List Value} (he : wc[q0]? = some (b, .inr (ci, fs))) (hc : vwCl[ci]? = some q) (hCl : q.1 = C)
    (hn : As.length = n) (hsize : ls.size = nL) (hW : (rest.map fun v => v.category).sum ≤ 8) (hdg : decode cc pc = .ok (.invokevirtual index, 3)) (hst : st0 = As.reverse ++ .ref b :: rest) (hf : cells ≤ R.cells ∧ slots ≤ R.slots) (hset : ws.take a0 ++ (w1 ++ ws.drop (a0 + n0)) = ws')
    (kk : ∀ (H1 : Heap) (locs1 : List Loc), va_P (xD E) vwCl ws' H1 → va_D A ws' → va_S A H0 H1 locs1 → W p l e R s m args below meth c H1 locs1 cells slots Q (F0 m (pc + 3) ls (ro.toList ++ rest))) : W p l e R s m args below meth c H locs cells slots Q (F0 m pc ls st0) := by
  subst hCl
  subst hset
  have hsp := x_split ws a0 n0
  rw [hC] at hsp
  rw [hsp] at hP hD
  generalize ws.take a0 = pre at hP hD kk
  generalize ws.drop (a0 + n0) = post at hP hD kk
  have hat : ∀ (k : Nat) (q : Nat × va_E), wc[k]? = some q → (pre ++ (wc ++ post))[pre.length + k]? = some q := by
    intro k q hq
    rw [List.getElem?_append_right (by omega), Nat.add_sub_cancel_left, List.getElem?_append_left (List.getElem?_eq_some_iff.mp hq).1]
    exact hq
  have hDc : va_D A wc := ⟨fun i j p q hi hj hpq => by
    have := hD.1 _ _ p q (hat i p hi) (hat j q hj) hpq
    omega, fun k q hk => hD.2 _ q (hat k q hk)⟩
  have hPc : va_P (xD E) vwCl wc H := fun k q hq => hP _ q (hat k q hq)
  have hAc : ∀ q, xA wc q → A q := fun q h => by
    obtain ⟨k, e, h⟩ := h
    exact hDc.2 k (q, e) h
  have hr := va_runV (g := F0 m pc ls st0) (H := H) (locs := locs) (cells := cells) (slots := slots) (e := e) (below := below) (meth := meth) S hM cw ⟨xPreM.blind, va_recv hK.1 hPc hc he, fun U hU hW => ⟨rfl, by rw [hU]; exact hPc, hK.warm hW, hDc.weaken (fun _ _ _ _ => trivial)⟩⟩ rfl hn hsize hst (lv_room (ls := ls) (m := m) (pc := pc) (rest := rest) hW) hdg hf
  intro T hT X
  obtain ⟨v, st₀, t, T', L, h0, X', hL, e1, e2, ⟨hv, hp, hz, hk⟩, st⟩ := hr T hT X
  cases hv
  rw [h0] at hz hk
  obtain ⟨hP1, hD1⟩ := x_joinR hP hD ha hk hp
  obtain ⟨t2, a1, b1⟩ := kk T'.heap (locs ++ L) (by rw [e1]; exact hP1) hD1
    ⟨Nat.le_trans hS.1 (by rw [e1]; exact hz), fun q h1 h2 => by rw [e1, hk q (Nat.lt_of_lt_of_le h1 hS.1) (fun z => h2 (hAc q z))]; exact hS.2.1 q h1 h2, fun q hq => by
      rcases List.mem_append.mp hq with h | h
      · exact hS.2.2 q h
      · exact hAc _ (hL q h)⟩ T' rfl X'
  exact ⟨t2, st t2 a1, b1⟩
